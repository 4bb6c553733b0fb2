theorem dX0_begin_0 : decode cX0_begin 0 = .ok (.aload_n 0, 1) := by decide +kernel
theorem dX0_begin_1 : decode cX0_begin 1 = .ok (.getfield 29, 3) := by decide +kernel
theorem dX0_begin_4 : decode cX0_begin 4 = .ok (.ldc 71, 2) := by decide +kernel
theorem dX0_begin_6 : decode cX0_begin 6 = .ok (.invokestatic 117, 3) := by decide +kernel
theorem dX0_begin_9 : decode cX0_begin 9 = .ok (.iconst 0, 1) := by decide +kernel
theorem dX0_begin_10 : decode cX0_begin 10 = .ok (.istore_n 1, 1) := by decide +kernel
theorem dX0_begin_11 : decode cX0_begin 11 = .ok (.iload_n 1, 1) := by decide +kernel
theorem dX0_begin_12 : decode cX0_begin 12 = .ok (.aload_n 0, 1) := by decide +kernel
theorem dX0_begin_13 : decode cX0_begin 13 = .ok (.getfield 33, 3) := by decide +kernel
theorem dX0_begin_16 : decode cX0_begin 16 = .ok (.arraylength, 1) := by decide +kernel
theorem dX0_begin_17 : decode cX0_begin 17 = .ok (.if_icmp .ge 62, 3) := by decide +kernel
theorem dX0_begin_20 : decode cX0_begin 20 = .ok (.aload_n 0, 1) := by decide +kernel
theorem dX0_begin_21 : decode cX0_begin 21 = .ok (.getfield 33, 3) := by decide +kernel
theorem dX0_begin_24 : decode cX0_begin 24 = .ok (.iload_n 1, 1) := by decide +kernel
theorem dX0_begin_25 : decode cX0_begin 25 = .ok (.aload_n 0, 1) := by decide +kernel
theorem dX0_begin_26 : decode cX0_begin 26 = .ok (.getfield 15, 3) := by decide +kernel
theorem dX0_begin_29 : decode cX0_begin 29 = .ok (.iload_n 1, 1) := by decide +kernel
theorem dX0_begin_30 : decode cX0_begin 30 = .ok (.invokevirtual 109, 3) := by decide +kernel
theorem dX0_begin_33 : decode cX0_begin 33 = .ok (.iastore, 1) := by decide +kernel
theorem dX0_begin_34 : decode cX0_begin 34 = .ok (.iconst 0, 1) := by decide +kernel
theorem dX0_begin_35 : decode cX0_begin 35 = .ok (.istore_n 2, 1) := by decide +kernel
theorem dX0_begin_36 : decode cX0_begin 36 = .ok (.iload_n 2, 1) := by decide +kernel
theorem dX0_begin_37 : decode cX0_begin 37 = .ok (.aload_n 0, 1) := by decide +kernel
theorem dX0_begin_38 : decode cX0_begin 38 = .ok (.getfield 15, 3) := by decide +kernel
theorem dX0_begin_41 : decode cX0_begin 41 = .ok (.invokevirtual 56, 3) := by decide +kernel
theorem dX0_begin_44 : decode cX0_begin 44 = .ok (.if_icmp .ge 29, 3) := by decide +kernel
theorem dX0_begin_47 : decode cX0_begin 47 = .ok (.aload_n 0, 1) := by decide +kernel
theorem dX0_begin_48 : decode cX0_begin 48 = .ok (.getfield 29, 3) := by decide +kernel
theorem dX0_begin_51 : decode cX0_begin 51 = .ok (.iload_n 1, 1) := by decide +kernel
theorem dX0_begin_52 : decode cX0_begin 52 = .ok (.bipush 8, 2) := by decide +kernel
theorem dX0_begin_54 : decode cX0_begin 54 = .ok (.imul, 1) := by decide +kernel
theorem dX0_begin_55 : decode cX0_begin 55 = .ok (.aload_n 0, 1) := by decide +kernel
theorem dX0_begin_56 : decode cX0_begin 56 = .ok (.getfield 15, 3) := by decide +kernel
theorem dX0_begin_59 : decode cX0_begin 59 = .ok (.iload_n 1, 1) := by decide +kernel
theorem dX0_begin_60 : decode cX0_begin 60 = .ok (.iload_n 2, 1) := by decide +kernel
theorem dX0_begin_61 : decode cX0_begin 61 = .ok (.invokevirtual 123, 3) := by decide +kernel
theorem dX0_begin_64 : decode cX0_begin 64 = .ok (.iadd, 1) := by decide +kernel
theorem dX0_begin_65 : decode cX0_begin 65 = .ok (.iconst 0, 1) := by decide +kernel
theorem dX0_begin_66 : decode cX0_begin 66 = .ok (.iastore, 1) := by decide +kernel
theorem dX0_begin_67 : decode cX0_begin 67 = .ok (.iinc 2 1, 3) := by decide +kernel
theorem dX0_begin_70 : decode cX0_begin 70 = .ok (.goto (-34), 3) := by decide +kernel
theorem dX0_begin_73 : decode cX0_begin 73 = .ok (.iinc 1 1, 3) := by decide +kernel
theorem dX0_begin_76 : decode cX0_begin 76 = .ok (.goto (-65), 3) := by decide +kernel
theorem dX0_begin_79 : decode cX0_begin 79 = .ok (.return_, 1) := by decide +kernel
def f_X0_begin (σ : St) (i : Nat) : Option (Unit × St) :=
  cal (f_J7_fill_53178 σ (41 + 5 * i) (1048576 : Int32)) fun _ s1 =>
    lo2 FU (fun rec4 (s2 : St) (x3 : Int32) =>
      (if x3 < (nI (szS (i / 3))) then
        calP (f_X6_placesOf s2 (i / 3) x3) fun r6 =>
          ck x3 (szS (i / 3)) <|
            bd (setI s2 (42 + 5 * i) x3.toNatClampNeg r6) fun s7 =>
              lo2 FU (fun rec10 (s8 : St) (x9 : Int32) =>
                calP (f_X6_hunters s8 (i / 3)) fun r12 =>
                  (if x9 < r12 then
                    calP (f_X6_figure s8 (i / 3) x3 x9) fun r13 =>
                      ck ((x3 * (8 : Int32)) + r13) (8 * szS (i / 3)) <|
                        bd (setI s8 (41 + 5 * i) ((x3 * (8 : Int32)) + r13).toNatClampNeg (0 : Int32)) fun s14 =>
                          rec10 s14 (x9 + 1)
                     else
                    rec4 s8 (x3 + 1))) s7 (0 : Int32)
         else
        some ((), s2))) s1 (0 : Int32)
set_option maxHeartbeats 4000000 in
set_option maxRecDepth 100000 in
theorem c_X0_begin (l : Launch) (E : Ev) (hF : Full E) (σ : St) (i : Nat) (hi : i < 9) : Ctr l (en2 enV) (fun q => q.2) E md_X0_begin [rV E (40 + 5 * i)] σ (f_X0_begin σ i) := by
  refine ctr_of rfl (Nat.le_of_ble_eq_true rfl) (fun Γ => ?_)
  show Sim _ Γ _ E md_X0_begin σ 0 [(0, rV E (40 + 5 * i))] [] _
  unfold f_X0_begin
  refine s_aload_n dX0_begin_0 0 rfl rfl ?_
  refine s_getr (b := (41 + 5 * i)) gf_X0_29 rfl (mC hF hi) (kC hi) (ft_of (kC hi) rfl) (hF.2 _ _) (rC3 hi) dX0_begin_1 ?_
  refine s_ldc (v := 1048576) rfl w_602 dX0_begin_4 ?_
  refine s_callSwV (As := [rV E (41 + 5 * i), .int (1048576 : Int32)]) mf_J7_fill_53178 vf_J7_fill_53178 ml_X0_117 (c_J7_fill_53178 _ E hF σ (41 + 5 * i) (mC1 hF hi) (kC1 hi) (1048576 : Int32)) rfl rfl (Nat.le_of_ble_eq_true rfl) rfl dX0_begin_6 (fun _ s1 => ?_)
  refine s_iconst (v := 0) dX0_begin_9 (by decide) ?_
  refine s_istore_n [(1, .int (0 : Int32)), (0, rV E (40 + 5 * i))] dX0_begin_10 rfl (by decide) rfl ?_
  refine s_sub (lv' := [(0, rV E (40 + 5 * i)), (1, .int (0 : Int32))]) [1, 0] rfl ?_
  refine s_lo2 (σf := fun s2 x3 => s2) (lvf := fun s2 x3 => [(0, rV E (40 + 5 * i)), (1, .int x3)]) (fun rec4 ih5 s2 x3 => ?_)
  refine s_iload_n dX0_begin_11 1 rfl rfl ?_
  refine s_aload_n dX0_begin_12 0 rfl rfl ?_
  refine s_getr (b := (42 + 5 * i)) gf_X0_33 rfl (mC hF hi) (kC hi) (ft_of (kC hi) rfl) (hF.2 _ _) (rC4 hi) dX0_begin_13 ?_
  refine s_alen (n := nI (szS (i / 3))) (mC2 hF hi) (kC2 hi) (by decide) (by decide) (by rw [(lC2 hi)]; rfl) dX0_begin_16 ?_
  refine s_icmp_ge 79 dX0_begin_17 (by decide) ?_ ?_
  · skip
    refine s_aload_n dX0_begin_20 0 rfl rfl ?_
    refine s_getr (b := (42 + 5 * i)) gf_X0_33 rfl (mC hF hi) (kC hi) (ft_of (kC hi) rfl) (hF.2 _ _) (rC4 hi) dX0_begin_21 ?_
    refine s_iload_n dX0_begin_24 1 rfl rfl ?_
    refine s_aload_n dX0_begin_25 0 rfl rfl ?_
    refine s_getr (b := (32 + 2 * (i / 3))) gf_X0_15 rfl (mC hF hi) (kC hi) (ft_of (kC hi) rfl) (hF.2 _ _) (rC1 hi) dX0_begin_26 ?_
    refine s_iload_n dX0_begin_29 1 rfl rfl ?_
    refine s_callVpI (As := [.int x3]) mf_X6_placesOf vf_X6_placesOf ml_X0_109 (c_X6_placesOf _ E hF s2 (i / 3) (div3 hi) x3) (mS hF (div3 hi)) (kS (div3 hi)) (by decide) rfl rfl rfl rfl (Nat.le_of_ble_eq_true rfl) rfl dX0_begin_30 (fun r6 => ?_)
    refine s_iast (mC2 hF hi) (kC2 hi) (lC2 hi) dX0_begin_33 (fun s7 => ?_)
    refine s_iconst (v := 0) dX0_begin_34 (by decide) ?_
    refine s_istore_n [(2, .int (0 : Int32)), (0, rV E (40 + 5 * i)), (1, .int x3)] dX0_begin_35 rfl (by decide) rfl ?_
    refine s_sub (lv' := [(0, rV E (40 + 5 * i)), (1, .int x3), (2, .int (0 : Int32))]) [1, 2, 0] rfl ?_
    refine s_lo2 (σf := fun s8 x9 => s8) (lvf := fun s8 x9 => [(0, rV E (40 + 5 * i)), (1, .int x3), (2, .int x9)]) (fun rec10 ih11 s8 x9 => ?_)
    refine s_iload_n dX0_begin_36 2 rfl rfl ?_
    refine s_aload_n dX0_begin_37 0 rfl rfl ?_
    refine s_getr (b := (32 + 2 * (i / 3))) gf_X0_15 rfl (mC hF hi) (kC hi) (ft_of (kC hi) rfl) (hF.2 _ _) (rC1 hi) dX0_begin_38 ?_
    refine s_callVpI (As := []) mf_X6_hunters vf_X6_hunters ml_X0_56 (c_X6_hunters _ E hF s8 (i / 3) (div3 hi)) (mS hF (div3 hi)) (kS (div3 hi)) (by decide) rfl rfl rfl rfl (Nat.le_of_ble_eq_true rfl) rfl dX0_begin_41 (fun r12 => ?_)
    refine s_icmp_ge 73 dX0_begin_44 (by decide) ?_ ?_
    · skip
      refine s_aload_n dX0_begin_47 0 rfl rfl ?_
      refine s_getr (b := (41 + 5 * i)) gf_X0_29 rfl (mC hF hi) (kC hi) (ft_of (kC hi) rfl) (hF.2 _ _) (rC3 hi) dX0_begin_48 ?_
      refine s_iload_n dX0_begin_51 1 rfl rfl ?_
      refine s_bipush (v := 8) dX0_begin_52 (by decide) ?_
      refine s_imul dX0_begin_54 ?_
      refine s_aload_n dX0_begin_55 0 rfl rfl ?_
      refine s_getr (b := (32 + 2 * (i / 3))) gf_X0_15 rfl (mC hF hi) (kC hi) (ft_of (kC hi) rfl) (hF.2 _ _) (rC1 hi) dX0_begin_56 ?_
      refine s_iload_n dX0_begin_59 1 rfl rfl ?_
      refine s_iload_n dX0_begin_60 2 rfl rfl ?_
      refine s_callVpI (As := [.int x3, .int x9]) mf_X6_figure vf_X6_figure ml_X0_123 (c_X6_figure _ E hF s8 (i / 3) (div3 hi) x3 x9) (mS hF (div3 hi)) (kS (div3 hi)) (by decide) rfl rfl rfl rfl (Nat.le_of_ble_eq_true rfl) rfl dX0_begin_61 (fun r13 => ?_)
      refine s_iadd dX0_begin_64 ?_
      refine s_iconst (v := 0) dX0_begin_65 (by decide) ?_
      refine s_iast (mC1 hF hi) (kC1 hi) (lC1 hi) dX0_begin_66 (fun s14 => ?_)
      refine s_iinc [(2, .int (x9 + 1)), (0, rV E (40 + 5 * i)), (1, .int x3)] dX0_begin_67 2 rfl rfl (by decide) rfl ?_
      refine s_goto 36 dX0_begin_70 (by decide) ?_
      refine s_sub [1, 2, 0] rfl ?_
      exact ih11 s14 (x9 + 1)
    · skip
      refine s_iinc [(1, .int (x3 + 1)), (0, rV E (40 + 5 * i)), (2, .int x9)] dX0_begin_73 1 rfl rfl (by decide) rfl ?_
      refine s_goto 11 dX0_begin_76 (by decide) ?_
      refine s_sub [1, 0] rfl ?_
      exact ih5 s8 (x3 + 1)
  · skip
    exact s_return rfl rfl rfl dX0_begin_79
theorem dX0_note_0 : decode cX0_note 0 = .ok (.iconst 0, 1) := by decide +kernel
theorem dX0_note_1 : decode cX0_note 1 = .ok (.istore_n 2, 1) := by decide +kernel
theorem dX0_note_2 : decode cX0_note 2 = .ok (.iconst 0, 1) := by decide +kernel
theorem dX0_note_3 : decode cX0_note 3 = .ok (.istore_n 3, 1) := by decide +kernel
theorem dX0_note_4 : decode cX0_note 4 = .ok (.iload_n 3, 1) := by decide +kernel
theorem dX0_note_5 : decode cX0_note 5 = .ok (.aload_n 0, 1) := by decide +kernel
theorem dX0_note_6 : decode cX0_note 6 = .ok (.getfield 33, 3) := by decide +kernel
theorem dX0_note_9 : decode cX0_note 9 = .ok (.arraylength, 1) := by decide +kernel
theorem dX0_note_10 : decode cX0_note 10 = .ok (.if_icmp .ge 101, 3) := by decide +kernel
theorem dX0_note_13 : decode cX0_note 13 = .ok (.aload_n 0, 1) := by decide +kernel
theorem dX0_note_14 : decode cX0_note 14 = .ok (.getfield 15, 3) := by decide +kernel
theorem dX0_note_17 : decode cX0_note 17 = .ok (.iload_n 3, 1) := by decide +kernel
theorem dX0_note_18 : decode cX0_note 18 = .ok (.invokevirtual 126, 3) := by decide +kernel
theorem dX0_note_21 : decode cX0_note 21 = .ok (.ifCond .eq 21, 3) := by decide +kernel
theorem dX0_note_24 : decode cX0_note 24 = .ok (.aload_n 0, 1) := by decide +kernel
theorem dX0_note_25 : decode cX0_note 25 = .ok (.getfield 36, 3) := by decide +kernel
theorem dX0_note_28 : decode cX0_note 28 = .ok (.iload_n 3, 1) := by decide +kernel
theorem dX0_note_29 : decode cX0_note 29 = .ok (.iaload, 1) := by decide +kernel
theorem dX0_note_30 : decode cX0_note 30 = .ok (.aload_n 0, 1) := by decide +kernel
theorem dX0_note_31 : decode cX0_note 31 = .ok (.getfield 33, 3) := by decide +kernel
theorem dX0_note_34 : decode cX0_note 34 = .ok (.iload_n 3, 1) := by decide +kernel
theorem dX0_note_35 : decode cX0_note 35 = .ok (.iaload, 1) := by decide +kernel
theorem dX0_note_36 : decode cX0_note 36 = .ok (.iconst (-1), 1) := by decide +kernel
theorem dX0_note_37 : decode cX0_note 37 = .ok (.ixor, 1) := by decide +kernel
theorem dX0_note_38 : decode cX0_note 38 = .ok (.iand, 1) := by decide +kernel
theorem dX0_note_39 : decode cX0_note 39 = .ok (.goto 4, 3) := by decide +kernel
theorem dX0_note_42 : decode cX0_note 42 = .ok (.iconst 0, 1) := by decide +kernel
theorem dX0_note_43 : decode cX0_note 43 = .ok (.istore 4, 2) := by decide +kernel
theorem dX0_note_45 : decode cX0_note 45 = .ok (.iload 4, 2) := by decide +kernel
theorem dX0_note_47 : decode cX0_note 47 = .ok (.ifCond .ne 6, 3) := by decide +kernel
theorem dX0_note_50 : decode cX0_note 50 = .ok (.goto 55, 3) := by decide +kernel
theorem dX0_note_53 : decode cX0_note 53 = .ok (.iconst 1, 1) := by decide +kernel
theorem dX0_note_54 : decode cX0_note 54 = .ok (.istore_n 2, 1) := by decide +kernel
theorem dX0_note_55 : decode cX0_note 55 = .ok (.aload_n 0, 1) := by decide +kernel
theorem dX0_note_56 : decode cX0_note 56 = .ok (.getfield 33, 3) := by decide +kernel
theorem dX0_note_59 : decode cX0_note 59 = .ok (.iload_n 3, 1) := by decide +kernel
theorem dX0_note_60 : decode cX0_note 60 = .ok (.dup2, 1) := by decide +kernel
theorem dX0_note_61 : decode cX0_note 61 = .ok (.iaload, 1) := by decide +kernel
theorem dX0_note_62 : decode cX0_note 62 = .ok (.iload 4, 2) := by decide +kernel
theorem dX0_note_64 : decode cX0_note 64 = .ok (.ior, 1) := by decide +kernel
theorem dX0_note_65 : decode cX0_note 65 = .ok (.iastore, 1) := by decide +kernel
theorem dX0_note_66 : decode cX0_note 66 = .ok (.iconst 0, 1) := by decide +kernel
theorem dX0_note_67 : decode cX0_note 67 = .ok (.istore 5, 2) := by decide +kernel
theorem dX0_note_69 : decode cX0_note 69 = .ok (.iload 5, 2) := by decide +kernel
theorem dX0_note_71 : decode cX0_note 71 = .ok (.bipush 8, 2) := by decide +kernel
theorem dX0_note_73 : decode cX0_note 73 = .ok (.if_icmp .ge 32, 3) := by decide +kernel
theorem dX0_note_76 : decode cX0_note 76 = .ok (.iload 4, 2) := by decide +kernel
theorem dX0_note_78 : decode cX0_note 78 = .ok (.iload 5, 2) := by decide +kernel
theorem dX0_note_80 : decode cX0_note 80 = .ok (.invokestatic 103, 3) := by decide +kernel
theorem dX0_note_83 : decode cX0_note 83 = .ok (.ifCond .eq 16, 3) := by decide +kernel
theorem dX0_note_86 : decode cX0_note 86 = .ok (.aload_n 0, 1) := by decide +kernel
theorem dX0_note_87 : decode cX0_note 87 = .ok (.getfield 29, 3) := by decide +kernel
theorem dX0_note_90 : decode cX0_note 90 = .ok (.iload_n 3, 1) := by decide +kernel
theorem dX0_note_91 : decode cX0_note 91 = .ok (.bipush 8, 2) := by decide +kernel
theorem dX0_note_93 : decode cX0_note 93 = .ok (.imul, 1) := by decide +kernel
theorem dX0_note_94 : decode cX0_note 94 = .ok (.iload 5, 2) := by decide +kernel
theorem dX0_note_96 : decode cX0_note 96 = .ok (.iadd, 1) := by decide +kernel
theorem dX0_note_97 : decode cX0_note 97 = .ok (.iload_n 1, 1) := by decide +kernel
theorem dX0_note_98 : decode cX0_note 98 = .ok (.iastore, 1) := by decide +kernel
theorem dX0_note_99 : decode cX0_note 99 = .ok (.iinc 5 1, 3) := by decide +kernel
theorem dX0_note_102 : decode cX0_note 102 = .ok (.goto (-33), 3) := by decide +kernel
theorem dX0_note_105 : decode cX0_note 105 = .ok (.iinc 3 1, 3) := by decide +kernel
theorem dX0_note_108 : decode cX0_note 108 = .ok (.goto (-104), 3) := by decide +kernel
theorem dX0_note_111 : decode cX0_note 111 = .ok (.iload_n 2, 1) := by decide +kernel
theorem dX0_note_112 : decode cX0_note 112 = .ok (.ireturn, 1) := by decide +kernel
def f_X0_note (σ : St) (i : Nat) (v1 : Int32) : Option (Int32 × St) :=
  lo3 FU (fun rec4 (s1 : St) (x2 : Int32) (x3 : Int32) =>
    (if x3 < (nI (szS (i / 3))) then
      calP (f_X6_isRow s1 (i / 3) x3) fun r6 =>
        jn1 (fun jk8 =>
          (if r6 = 0 then
            jk8 (0 : Int32)
             else
            ck x3 (szS (i / 3)) <|
              ck x3 (szS (i / 3)) <|
                jk8 ((s1.1 (43 + 5 * i) x3.toNatClampNeg) &&& ((s1.1 (42 + 5 * i) x3.toNatClampNeg) ^^^ (-1 : Int32)))))
          (fun (x7 : Int32) => 
          (if x7 = 0 then
              rec4 s1 x2 (x3 + 1)
               else
              ck x3 (szS (i / 3)) <|
                ck x3 (szS (i / 3)) <|
                  bd (setI s1 (42 + 5 * i) x3.toNatClampNeg ((s1.1 (42 + 5 * i) x3.toNatClampNeg) ||| x7)) fun s9 =>
                    lo2 FU (fun rec12 (s10 : St) (x11 : Int32) =>
                      (if x11 < (8 : Int32) then
                        calP (f_X9_has s10 x7 x11) fun r14 =>
                          (if r14 = 0 then
                            rec12 s10 (x11 + 1)
                             else
                            ck ((x3 * (8 : Int32)) + x11) (8 * szS (i / 3)) <|
                              bd (setI s10 (41 + 5 * i) ((x3 * (8 : Int32)) + x11).toNatClampNeg v1) fun s15 =>
                                rec12 s15 (x11 + 1))
                         else
                        rec4 s10 (1 : Int32) (x3 + 1))) s9 (0 : Int32)))
       else
      ckZ x2 <|
        some (x2, s1))) σ (0 : Int32) (0 : Int32)
set_option maxHeartbeats 4000000 in
set_option maxRecDepth 100000 in
theorem c_X0_note (l : Launch) (E : Ev) (hF : Full E) (σ : St) (i : Nat) (hi : i < 9) (v1 : Int32) : Ctr l (en2 enI) (fun q => q.2) E md_X0_note [rV E (40 + 5 * i), .int v1] σ (f_X0_note σ i v1) := by
  refine ctr_of rfl (Nat.le_of_ble_eq_true rfl) (fun Γ => ?_)
  show Sim _ Γ _ E md_X0_note σ 0 [(0, rV E (40 + 5 * i)), (1, .int v1)] [] _
  unfold f_X0_note
  refine s_iconst (v := 0) dX0_note_0 (by decide) ?_
  refine s_istore_n [(2, .int (0 : Int32)), (0, rV E (40 + 5 * i)), (1, .int v1)] dX0_note_1 rfl (by decide) rfl ?_
  refine s_iconst (v := 0) dX0_note_2 (by decide) ?_
  refine s_istore_n [(3, .int (0 : Int32)), (2, .int (0 : Int32)), (0, rV E (40 + 5 * i)), (1, .int v1)] dX0_note_3 rfl (by decide) rfl ?_
  refine s_sub (lv' := [(0, rV E (40 + 5 * i)), (1, .int v1), (2, .int (0 : Int32)), (3, .int (0 : Int32))]) [2, 3, 1, 0] rfl ?_
  refine s_lo3 (σf := fun s1 x2 x3 => s1) (lvf := fun s1 x2 x3 => [(0, rV E (40 + 5 * i)), (1, .int v1), (2, .int x2), (3, .int x3)]) (fun rec4 ih5 s1 x2 x3 => ?_)
  refine s_iload_n dX0_note_4 3 rfl rfl ?_
  refine s_aload_n dX0_note_5 0 rfl rfl ?_
  refine s_getr (b := (42 + 5 * i)) gf_X0_33 rfl (mC hF hi) (kC hi) (ft_of (kC hi) rfl) (hF.2 _ _) (rC4 hi) dX0_note_6 ?_
  refine s_alen (n := nI (szS (i / 3))) (mC2 hF hi) (kC2 hi) (by decide) (by decide) (by rw [(lC2 hi)]; rfl) dX0_note_9 ?_
  refine s_icmp_ge 111 dX0_note_10 (by decide) ?_ ?_
  · skip
    refine s_aload_n dX0_note_13 0 rfl rfl ?_
    refine s_getr (b := (32 + 2 * (i / 3))) gf_X0_15 rfl (mC hF hi) (kC hi) (ft_of (kC hi) rfl) (hF.2 _ _) (rC1 hi) dX0_note_14 ?_
    refine s_iload_n dX0_note_17 3 rfl rfl ?_
    refine s_callVpI (As := [.int x3]) mf_X6_isRow vf_X6_isRow ml_X0_126 (c_X6_isRow _ E hF s1 (i / 3) (div3 hi) x3) (mS hF (div3 hi)) (kS (div3 hi)) (by decide) rfl rfl rfl rfl (Nat.le_of_ble_eq_true rfl) rfl dX0_note_18 (fun r6 => ?_)
    refine s_jn1 43 (fun x7 => s1) (fun x7 => [(0, rV E (40 + 5 * i)), (1, .int v1), (2, .int x2), (3, .int x3)]) (fun x7 => [.int x7]) ?_ ?_
    · intro x7
      refine s_istore [(4, .int x7), (0, rV E (40 + 5 * i)), (1, .int v1), (2, .int x2), (3, .int x3)] dX0_note_43 (by decide) rfl ?_
      refine s_iload dX0_note_45 0 rfl ?_
      refine s_if_ne 53 dX0_note_47 (by decide) ?_ ?_
      · skip
        refine s_goto 105 dX0_note_50 (by decide) ?_
        refine s_iinc [(3, .int (x3 + 1)), (4, .int x7), (0, rV E (40 + 5 * i)), (1, .int v1), (2, .int x2)] dX0_note_105 4 rfl rfl (by decide) rfl ?_
        refine s_goto 4 dX0_note_108 (by decide) ?_
        refine s_sub [2, 3, 4, 0] rfl ?_
        exact ih5 s1 x2 (x3 + 1)
      · skip
        refine s_iconst (v := 1) dX0_note_53 (by decide) ?_
        refine s_istore_n [(2, .int (1 : Int32)), (4, .int x7), (0, rV E (40 + 5 * i)), (1, .int v1), (3, .int x3)] dX0_note_54 rfl (by decide) rfl ?_
        refine s_aload_n dX0_note_55 2 rfl rfl ?_
        refine s_getr (b := (42 + 5 * i)) gf_X0_33 rfl (mC hF hi) (kC hi) (ft_of (kC hi) rfl) (hF.2 _ _) (rC4 hi) dX0_note_56 ?_
        refine s_iload_n dX0_note_59 4 rfl rfl ?_
        refine s_dup2 dX0_note_60 rfl rfl ?_
        refine s_iald (mC2 hF hi) (kC2 hi) (lC2 hi) dX0_note_61 ?_
        refine s_iload dX0_note_62 1 rfl ?_
        refine s_ior dX0_note_64 ?_
        refine s_iast (mC2 hF hi) (kC2 hi) (lC2 hi) dX0_note_65 (fun s9 => ?_)
        refine s_iconst (v := 0) dX0_note_66 (by decide) ?_
        refine s_istore [(5, .int (0 : Int32)), (2, .int (1 : Int32)), (4, .int x7), (0, rV E (40 + 5 * i)), (1, .int v1), (3, .int x3)] dX0_note_67 (by decide) rfl ?_
        refine s_sub (lv' := [(0, rV E (40 + 5 * i)), (1, .int v1), (2, .int (1 : Int32)), (3, .int x3), (4, .int x7), (5, .int (0 : Int32))]) [3, 4, 1, 5, 2, 0] rfl ?_
        refine s_lo2 (σf := fun s10 x11 => s10) (lvf := fun s10 x11 => [(0, rV E (40 + 5 * i)), (1, .int v1), (2, .int (1 : Int32)), (3, .int x3), (4, .int x7), (5, .int x11)]) (fun rec12 ih13 s10 x11 => ?_)
        refine s_iload dX0_note_69 5 rfl ?_
        refine s_bipush (v := 8) dX0_note_71 (by decide) ?_
        refine s_icmp_ge 105 dX0_note_73 (by decide) ?_ ?_
        · skip
          refine s_iload dX0_note_76 4 rfl ?_
          refine s_iload dX0_note_78 5 rfl ?_
          refine s_callNpI (As := [.int x7, .int x11]) (host := "RunnerNet") mf_X9_has vf_X9_has (nl_of 3 rfl) (c_X9_has _ E hF s10 x7 x11) rfl rfl (Nat.le_of_ble_eq_true rfl) rfl dX0_note_80 (fun r14 => ?_)
          refine s_if_eq 99 dX0_note_83 (by decide) ?_ ?_
          · skip
            refine s_iinc [(5, .int (x11 + 1)), (0, rV E (40 + 5 * i)), (1, .int v1), (2, .int (1 : Int32)), (3, .int x3), (4, .int x7)] dX0_note_99 5 rfl rfl (by decide) rfl ?_
            refine s_goto 69 dX0_note_102 (by decide) ?_
            refine s_sub [1, 2, 3, 4, 5, 0] rfl ?_
            exact ih13 s10 (x11 + 1)
          · skip
            refine s_aload_n dX0_note_86 0 rfl rfl ?_
            refine s_getr (b := (41 + 5 * i)) gf_X0_29 rfl (mC hF hi) (kC hi) (ft_of (kC hi) rfl) (hF.2 _ _) (rC3 hi) dX0_note_87 ?_
            refine s_iload_n dX0_note_90 3 rfl rfl ?_
            refine s_bipush (v := 8) dX0_note_91 (by decide) ?_
            refine s_imul dX0_note_93 ?_
            refine s_iload dX0_note_94 5 rfl ?_
            refine s_iadd dX0_note_96 ?_
            refine s_iload_n dX0_note_97 1 rfl rfl ?_
            refine s_iast (mC1 hF hi) (kC1 hi) (lC1 hi) dX0_note_98 (fun s15 => ?_)
            refine s_iinc [(5, .int (x11 + 1)), (0, rV E (40 + 5 * i)), (1, .int v1), (2, .int (1 : Int32)), (3, .int x3), (4, .int x7)] dX0_note_99 5 rfl rfl (by decide) rfl ?_
            refine s_goto 69 dX0_note_102 (by decide) ?_
            refine s_sub [1, 2, 3, 4, 5, 0] rfl ?_
            exact ih13 s15 (x11 + 1)
        · skip
          refine s_iinc [(3, .int (x3 + 1)), (0, rV E (40 + 5 * i)), (1, .int v1), (2, .int (1 : Int32)), (4, .int x7), (5, .int x11)] dX0_note_105 3 rfl rfl (by decide) rfl ?_
          refine s_goto 4 dX0_note_108 (by decide) ?_
          refine s_sub [1, 2, 3, 0] rfl ?_
          exact ih5 s10 (1 : Int32) (x3 + 1)
    · intro jk8 hjk8
      refine s_if_eq 42 dX0_note_21 (by decide) ?_ ?_
      · skip
        refine s_iconst (v := 0) dX0_note_42 (by decide) ?_
        exact hjk8 (0 : Int32)
      · skip
        refine s_aload_n dX0_note_24 0 rfl rfl ?_
        refine s_getr (b := (43 + 5 * i)) gf_X0_36 rfl (mC hF hi) (kC hi) (ft_of (kC hi) rfl) (hF.2 _ _) (rC5 hi) dX0_note_25 ?_
        refine s_iload_n dX0_note_28 3 rfl rfl ?_
        refine s_iald (mC3 hF hi) (kC3 hi) (lC3 hi) dX0_note_29 ?_
        refine s_aload_n dX0_note_30 0 rfl rfl ?_
        refine s_getr (b := (42 + 5 * i)) gf_X0_33 rfl (mC hF hi) (kC hi) (ft_of (kC hi) rfl) (hF.2 _ _) (rC4 hi) dX0_note_31 ?_
        refine s_iload_n dX0_note_34 3 rfl rfl ?_
        refine s_iald (mC2 hF hi) (kC2 hi) (lC2 hi) dX0_note_35 ?_
        refine s_iconst (v := -1) dX0_note_36 (by decide) ?_
        refine s_ixor dX0_note_37 ?_
        refine s_iand dX0_note_38 ?_
        refine s_goto 43 dX0_note_39 (by decide) ?_
        exact hjk8 ((s1.1 (43 + 5 * i) x3.toNatClampNeg) &&& ((s1.1 (42 + 5 * i) x3.toNatClampNeg) ^^^ (-1 : Int32)))
  · skip
    refine s_iload_n dX0_note_111 2 rfl rfl ?_
    refine s_ckZ (fun hz16 => ?_)
    exact s_zreturn rfl hz16 rfl rfl dX0_note_112
theorem dX0_trap_0 : decode cX0_trap 0 = .ok (.iconst 0, 1) := by decide +kernel
theorem dX0_trap_1 : decode cX0_trap 1 = .ok (.istore_n 1, 1) := by decide +kernel
theorem dX0_trap_2 : decode cX0_trap 2 = .ok (.iload_n 1, 1) := by decide +kernel
theorem dX0_trap_3 : decode cX0_trap 3 = .ok (.aload_n 0, 1) := by decide +kernel
theorem dX0_trap_4 : decode cX0_trap 4 = .ok (.getfield 36, 3) := by decide +kernel
theorem dX0_trap_7 : decode cX0_trap 7 = .ok (.arraylength, 1) := by decide +kernel
theorem dX0_trap_8 : decode cX0_trap 8 = .ok (.if_icmp .ge 93, 3) := by decide +kernel
theorem dX0_trap_11 : decode cX0_trap 11 = .ok (.aload_n 0, 1) := by decide +kernel
theorem dX0_trap_12 : decode cX0_trap 12 = .ok (.getfield 15, 3) := by decide +kernel
theorem dX0_trap_15 : decode cX0_trap 15 = .ok (.iload_n 1, 1) := by decide +kernel
theorem dX0_trap_16 : decode cX0_trap 16 = .ok (.invokevirtual 126, 3) := by decide +kernel
theorem dX0_trap_19 : decode cX0_trap 19 = .ok (.ifCond .ne 6, 3) := by decide +kernel
theorem dX0_trap_22 : decode cX0_trap 22 = .ok (.goto 73, 3) := by decide +kernel
theorem dX0_trap_25 : decode cX0_trap 25 = .ok (.aload_n 0, 1) := by decide +kernel
theorem dX0_trap_26 : decode cX0_trap 26 = .ok (.getfield 9, 3) := by decide +kernel
theorem dX0_trap_29 : decode cX0_trap 29 = .ok (.invokevirtual 72, 3) := by decide +kernel
theorem dX0_trap_32 : decode cX0_trap 32 = .ok (.aload_n 0, 1) := by decide +kernel
theorem dX0_trap_33 : decode cX0_trap 33 = .ok (.getfield 33, 3) := by decide +kernel
theorem dX0_trap_36 : decode cX0_trap 36 = .ok (.iload_n 1, 1) := by decide +kernel
theorem dX0_trap_37 : decode cX0_trap 37 = .ok (.iaload, 1) := by decide +kernel
theorem dX0_trap_38 : decode cX0_trap 38 = .ok (.iconst (-1), 1) := by decide +kernel
theorem dX0_trap_39 : decode cX0_trap 39 = .ok (.ixor, 1) := by decide +kernel
theorem dX0_trap_40 : decode cX0_trap 40 = .ok (.iand, 1) := by decide +kernel
theorem dX0_trap_41 : decode cX0_trap 41 = .ok (.istore_n 2, 1) := by decide +kernel
theorem dX0_trap_42 : decode cX0_trap 42 = .ok (.iconst 0, 1) := by decide +kernel
theorem dX0_trap_43 : decode cX0_trap 43 = .ok (.istore_n 3, 1) := by decide +kernel
theorem dX0_trap_44 : decode cX0_trap 44 = .ok (.iload_n 3, 1) := by decide +kernel
theorem dX0_trap_45 : decode cX0_trap 45 = .ok (.aload_n 0, 1) := by decide +kernel
theorem dX0_trap_46 : decode cX0_trap 46 = .ok (.getfield 19, 3) := by decide +kernel
theorem dX0_trap_49 : decode cX0_trap 49 = .ok (.if_icmp .ge 29, 3) := by decide +kernel
theorem dX0_trap_52 : decode cX0_trap 52 = .ok (.aload_n 0, 1) := by decide +kernel
theorem dX0_trap_53 : decode cX0_trap 53 = .ok (.getfield 9, 3) := by decide +kernel
theorem dX0_trap_56 : decode cX0_trap 56 = .ok (.iload_n 2, 1) := by decide +kernel
theorem dX0_trap_57 : decode cX0_trap 57 = .ok (.invokevirtual 129, 3) := by decide +kernel
theorem dX0_trap_60 : decode cX0_trap 60 = .ok (.aload_n 0, 1) := by decide +kernel
theorem dX0_trap_61 : decode cX0_trap 61 = .ok (.getfield 15, 3) := by decide +kernel
theorem dX0_trap_64 : decode cX0_trap 64 = .ok (.iload_n 1, 1) := by decide +kernel
theorem dX0_trap_65 : decode cX0_trap 65 = .ok (.invokevirtual 109, 3) := by decide +kernel
theorem dX0_trap_68 : decode cX0_trap 68 = .ok (.iconst (-1), 1) := by decide +kernel
theorem dX0_trap_69 : decode cX0_trap 69 = .ok (.ixor, 1) := by decide +kernel
theorem dX0_trap_70 : decode cX0_trap 70 = .ok (.iand, 1) := by decide +kernel
theorem dX0_trap_71 : decode cX0_trap 71 = .ok (.istore_n 2, 1) := by decide +kernel
theorem dX0_trap_72 : decode cX0_trap 72 = .ok (.iinc 3 1, 3) := by decide +kernel
theorem dX0_trap_75 : decode cX0_trap 75 = .ok (.goto (-31), 3) := by decide +kernel
theorem dX0_trap_78 : decode cX0_trap 78 = .ok (.aload_n 0, 1) := by decide +kernel
theorem dX0_trap_79 : decode cX0_trap 79 = .ok (.getfield 36, 3) := by decide +kernel
theorem dX0_trap_82 : decode cX0_trap 82 = .ok (.iload_n 1, 1) := by decide +kernel
theorem dX0_trap_83 : decode cX0_trap 83 = .ok (.aload_n 0, 1) := by decide +kernel
theorem dX0_trap_84 : decode cX0_trap 84 = .ok (.getfield 9, 3) := by decide +kernel
theorem dX0_trap_87 : decode cX0_trap 87 = .ok (.invokevirtual 72, 3) := by decide +kernel
theorem dX0_trap_90 : decode cX0_trap 90 = .ok (.iload_n 2, 1) := by decide +kernel
theorem dX0_trap_91 : decode cX0_trap 91 = .ok (.iconst (-1), 1) := by decide +kernel
theorem dX0_trap_92 : decode cX0_trap 92 = .ok (.ixor, 1) := by decide +kernel
theorem dX0_trap_93 : decode cX0_trap 93 = .ok (.iand, 1) := by decide +kernel
theorem dX0_trap_94 : decode cX0_trap 94 = .ok (.iastore, 1) := by decide +kernel
theorem dX0_trap_95 : decode cX0_trap 95 = .ok (.iinc 1 1, 3) := by decide +kernel
theorem dX0_trap_98 : decode cX0_trap 98 = .ok (.goto (-96), 3) := by decide +kernel
theorem dX0_trap_101 : decode cX0_trap 101 = .ok (.return_, 1) := by decide +kernel
def f_X0_trap (σ : St) (i : Nat) : Option (Unit × St) :=
  lo2 FU (fun rec3 (s1 : St) (x2 : Int32) =>
    (if x2 < (nI (szS (i / 3))) then
      calP (f_X6_isRow s1 (i / 3) x2) fun r5 =>
        (if r5 = 0 then
          rec3 s1 (x2 + 1)
           else
          calP (f_X3_all s1) fun r6 =>
            ck x2 (szS (i / 3)) <|
              bd (r6 &&& ((s1.1 (42 + 5 * i) x2.toNatClampNeg) ^^^ (-1 : Int32))) fun x7 =>
                lo2 FU (fun rec10 (x8 : Int32) (x9 : Int32) =>
                  (if x9 < (s1.1 (40 + 5 * i) 2) then
                    calP (f_X3_behindOf s1 x8) fun r12 =>
                      calP (f_X6_placesOf s1 (i / 3) x2) fun r13 =>
                        bd (r12 &&& (r13 ^^^ (-1 : Int32))) fun x14 =>
                          rec10 x14 (x9 + 1)
                     else
                    calP (f_X3_all s1) fun r15 =>
                      ck x2 (szS (i / 3)) <|
                        bd (setI s1 (43 + 5 * i) x2.toNatClampNeg (r15 &&& (x8 ^^^ (-1 : Int32)))) fun s16 =>
                          rec3 s16 (x2 + 1))) x7 (0 : Int32))
       else
      some ((), s1))) σ (0 : Int32)
set_option maxHeartbeats 4000000 in
set_option maxRecDepth 100000 in
theorem c_X0_trap (l : Launch) (E : Ev) (hF : Full E) (σ : St) (i : Nat) (hi : i < 9) : Ctr l (en2 enV) (fun q => q.2) E md_X0_trap [rV E (40 + 5 * i)] σ (f_X0_trap σ i) := by
  refine ctr_of rfl (Nat.le_of_ble_eq_true rfl) (fun Γ => ?_)
  show Sim _ Γ _ E md_X0_trap σ 0 [(0, rV E (40 + 5 * i))] [] _
  unfold f_X0_trap
  refine s_iconst (v := 0) dX0_trap_0 (by decide) ?_
  refine s_istore_n [(1, .int (0 : Int32)), (0, rV E (40 + 5 * i))] dX0_trap_1 rfl (by decide) rfl ?_
  refine s_sub (lv' := [(0, rV E (40 + 5 * i)), (1, .int (0 : Int32))]) [1, 0] rfl ?_
  refine s_lo2 (σf := fun s1 x2 => s1) (lvf := fun s1 x2 => [(0, rV E (40 + 5 * i)), (1, .int x2)]) (fun rec3 ih4 s1 x2 => ?_)
  refine s_iload_n dX0_trap_2 1 rfl rfl ?_
  refine s_aload_n dX0_trap_3 0 rfl rfl ?_
  refine s_getr (b := (43 + 5 * i)) gf_X0_36 rfl (mC hF hi) (kC hi) (ft_of (kC hi) rfl) (hF.2 _ _) (rC5 hi) dX0_trap_4 ?_
  refine s_alen (n := nI (szS (i / 3))) (mC3 hF hi) (kC3 hi) (by decide) (by decide) (by rw [(lC3 hi)]; rfl) dX0_trap_7 ?_
  refine s_icmp_ge 101 dX0_trap_8 (by decide) ?_ ?_
  · skip
    refine s_aload_n dX0_trap_11 0 rfl rfl ?_
    refine s_getr (b := (32 + 2 * (i / 3))) gf_X0_15 rfl (mC hF hi) (kC hi) (ft_of (kC hi) rfl) (hF.2 _ _) (rC1 hi) dX0_trap_12 ?_
    refine s_iload_n dX0_trap_15 1 rfl rfl ?_
    refine s_callVpI (As := [.int x2]) mf_X6_isRow vf_X6_isRow ml_X0_126 (c_X6_isRow _ E hF s1 (i / 3) (div3 hi) x2) (mS hF (div3 hi)) (kS (div3 hi)) (by decide) rfl rfl rfl rfl (Nat.le_of_ble_eq_true rfl) rfl dX0_trap_16 (fun r5 => ?_)
    refine s_if_ne 25 dX0_trap_19 (by decide) ?_ ?_
    · skip
      refine s_goto 95 dX0_trap_22 (by decide) ?_
      refine s_iinc [(1, .int (x2 + 1)), (0, rV E (40 + 5 * i))] dX0_trap_95 1 rfl rfl (by decide) rfl ?_
      refine s_goto 2 dX0_trap_98 (by decide) ?_
      refine s_sub [1, 0] rfl ?_
      exact ih4 s1 (x2 + 1)
    · skip
      refine s_aload_n dX0_trap_25 0 rfl rfl ?_
      refine s_getr (b := 1) gf_X0_9 rfl (mC hF hi) (kC hi) (ft_of (kC hi) rfl) (hF.2 _ _) (rC0 hi) dX0_trap_26 ?_
      refine s_callVpI (As := []) mf_X3_all vf_X3_all ml_X0_72 (c_X3_all _ E hF s1) (m1 hF) k1 (by decide) rfl rfl rfl rfl (Nat.le_of_ble_eq_true rfl) rfl dX0_trap_29 (fun r6 => ?_)
      refine s_aload_n dX0_trap_32 0 rfl rfl ?_
      refine s_getr (b := (42 + 5 * i)) gf_X0_33 rfl (mC hF hi) (kC hi) (ft_of (kC hi) rfl) (hF.2 _ _) (rC4 hi) dX0_trap_33 ?_
      refine s_iload_n dX0_trap_36 1 rfl rfl ?_
      refine s_iald (mC2 hF hi) (kC2 hi) (lC2 hi) dX0_trap_37 ?_
      refine s_iconst (v := -1) dX0_trap_38 (by decide) ?_
      refine s_ixor dX0_trap_39 ?_
      refine s_iand dX0_trap_40 ?_
      refine s_istore_nB (fun x7 => [(2, .int x7), (0, rV E (40 + 5 * i)), (1, .int x2)]) dX0_trap_41 rfl (by decide) (fun _ => rfl) (fun x7 => ?_)
      refine s_iconst (v := 0) dX0_trap_42 (by decide) ?_
      refine s_istore_n [(3, .int (0 : Int32)), (2, .int x7), (0, rV E (40 + 5 * i)), (1, .int x2)] dX0_trap_43 rfl (by decide) rfl ?_
      refine s_sub (lv' := [(0, rV E (40 + 5 * i)), (1, .int x2), (2, .int x7), (3, .int (0 : Int32))]) [2, 3, 1, 0] rfl ?_
      refine s_lo2 (σf := fun x8 x9 => s1) (lvf := fun x8 x9 => [(0, rV E (40 + 5 * i)), (1, .int x2), (2, .int x8), (3, .int x9)]) (fun rec10 ih11 x8 x9 => ?_)
      refine s_iload_n dX0_trap_44 3 rfl rfl ?_
      refine s_aload_n dX0_trap_45 0 rfl rfl ?_
      refine s_geti gf_X0_19 rfl (mC hF hi) (kC hi) (ft_of (kC hi) rfl) dX0_trap_46 ?_
      refine s_icmp_ge 78 dX0_trap_49 (by decide) ?_ ?_
      · skip
        refine s_aload_n dX0_trap_52 0 rfl rfl ?_
        refine s_getr (b := 1) gf_X0_9 rfl (mC hF hi) (kC hi) (ft_of (kC hi) rfl) (hF.2 _ _) (rC0 hi) dX0_trap_53 ?_
        refine s_iload_n dX0_trap_56 2 rfl rfl ?_
        refine s_callVpI (As := [.int x8]) mf_X3_behindOf vf_X3_behindOf ml_X0_129 (c_X3_behindOf _ E hF s1 x8) (m1 hF) k1 (by decide) rfl rfl rfl rfl (Nat.le_of_ble_eq_true rfl) rfl dX0_trap_57 (fun r12 => ?_)
        refine s_aload_n dX0_trap_60 0 rfl rfl ?_
        refine s_getr (b := (32 + 2 * (i / 3))) gf_X0_15 rfl (mC hF hi) (kC hi) (ft_of (kC hi) rfl) (hF.2 _ _) (rC1 hi) dX0_trap_61 ?_
        refine s_iload_n dX0_trap_64 1 rfl rfl ?_
        refine s_callVpI (As := [.int x2]) mf_X6_placesOf vf_X6_placesOf ml_X0_109 (c_X6_placesOf _ E hF s1 (i / 3) (div3 hi) x2) (mS hF (div3 hi)) (kS (div3 hi)) (by decide) rfl rfl rfl rfl (Nat.le_of_ble_eq_true rfl) rfl dX0_trap_65 (fun r13 => ?_)
        refine s_iconst (v := -1) dX0_trap_68 (by decide) ?_
        refine s_ixor dX0_trap_69 ?_
        refine s_iand dX0_trap_70 ?_
        refine s_istore_nB (fun x14 => [(2, .int x14), (0, rV E (40 + 5 * i)), (1, .int x2), (3, .int x9)]) dX0_trap_71 rfl (by decide) (fun _ => rfl) (fun x14 => ?_)
        refine s_iinc [(3, .int (x9 + 1)), (2, .int x14), (0, rV E (40 + 5 * i)), (1, .int x2)] dX0_trap_72 3 rfl rfl (by decide) rfl ?_
        refine s_goto 44 dX0_trap_75 (by decide) ?_
        refine s_sub [2, 3, 1, 0] rfl ?_
        exact ih11 x14 (x9 + 1)
      · skip
        refine s_aload_n dX0_trap_78 0 rfl rfl ?_
        refine s_getr (b := (43 + 5 * i)) gf_X0_36 rfl (mC hF hi) (kC hi) (ft_of (kC hi) rfl) (hF.2 _ _) (rC5 hi) dX0_trap_79 ?_
        refine s_iload_n dX0_trap_82 1 rfl rfl ?_
        refine s_aload_n dX0_trap_83 0 rfl rfl ?_
        refine s_getr (b := 1) gf_X0_9 rfl (mC hF hi) (kC hi) (ft_of (kC hi) rfl) (hF.2 _ _) (rC0 hi) dX0_trap_84 ?_
        refine s_callVpI (As := []) mf_X3_all vf_X3_all ml_X0_72 (c_X3_all _ E hF s1) (m1 hF) k1 (by decide) rfl rfl rfl rfl (Nat.le_of_ble_eq_true rfl) rfl dX0_trap_87 (fun r15 => ?_)
        refine s_iload_n dX0_trap_90 2 rfl rfl ?_
        refine s_iconst (v := -1) dX0_trap_91 (by decide) ?_
        refine s_ixor dX0_trap_92 ?_
        refine s_iand dX0_trap_93 ?_
        refine s_iast (mC3 hF hi) (kC3 hi) (lC3 hi) dX0_trap_94 (fun s16 => ?_)
        refine s_iinc [(1, .int (x2 + 1)), (0, rV E (40 + 5 * i)), (2, .int x8), (3, .int x9)] dX0_trap_95 1 rfl rfl (by decide) rfl ?_
        refine s_goto 2 dX0_trap_98 (by decide) ?_
        refine s_sub [1, 0] rfl ?_
        exact ih4 s16 (x2 + 1)
  · skip
    exact s_return rfl rfl rfl dX0_trap_101
theorem dX0_joinRows_0 : decode cX0_joinRows 0 = .ok (.aload_n 0, 1) := by decide +kernel
theorem dX0_joinRows_1 : decode cX0_joinRows 1 = .ok (.getfield 39, 3) := by decide +kernel
theorem dX0_joinRows_4 : decode cX0_joinRows 4 = .ok (.arraylength, 1) := by decide +kernel
theorem dX0_joinRows_5 : decode cX0_joinRows 5 = .ok (.aload_n 0, 1) := by decide +kernel
theorem dX0_joinRows_6 : decode cX0_joinRows 6 = .ok (.getfield 36, 3) := by decide +kernel
theorem dX0_joinRows_9 : decode cX0_joinRows 9 = .ok (.arraylength, 1) := by decide +kernel
theorem dX0_joinRows_10 : decode cX0_joinRows 10 = .ok (.invokestatic 139, 3) := by decide +kernel
theorem dX0_joinRows_13 : decode cX0_joinRows 13 = .ok (.bipush 8, 2) := by decide +kernel
theorem dX0_joinRows_15 : decode cX0_joinRows 15 = .ok (.iload_n 3, 1) := by decide +kernel
theorem dX0_joinRows_16 : decode cX0_joinRows 16 = .ok (.imul, 1) := by decide +kernel
theorem dX0_joinRows_17 : decode cX0_joinRows 17 = .ok (.isub, 1) := by decide +kernel
theorem dX0_joinRows_18 : decode cX0_joinRows 18 = .ok (.istore 4, 2) := by decide +kernel
theorem dX0_joinRows_20 : decode cX0_joinRows 20 = .ok (.iload_n 1, 1) := by decide +kernel
theorem dX0_joinRows_21 : decode cX0_joinRows 21 = .ok (.ifCond .lt 24, 3) := by decide +kernel
theorem dX0_joinRows_24 : decode cX0_joinRows 24 = .ok (.iload_n 1, 1) := by decide +kernel
theorem dX0_joinRows_25 : decode cX0_joinRows 25 = .ok (.bipush 8, 2) := by decide +kernel
theorem dX0_joinRows_27 : decode cX0_joinRows 27 = .ok (.if_icmp .ge 18, 3) := by decide +kernel
theorem dX0_joinRows_30 : decode cX0_joinRows 30 = .ok (.iload_n 2, 1) := by decide +kernel
theorem dX0_joinRows_31 : decode cX0_joinRows 31 = .ok (.ifCond .lt 14, 3) := by decide +kernel
theorem dX0_joinRows_34 : decode cX0_joinRows 34 = .ok (.iload_n 2, 1) := by decide +kernel
theorem dX0_joinRows_35 : decode cX0_joinRows 35 = .ok (.bipush 8, 2) := by decide +kernel
theorem dX0_joinRows_37 : decode cX0_joinRows 37 = .ok (.if_icmp .ge 8, 3) := by decide +kernel
theorem dX0_joinRows_40 : decode cX0_joinRows 40 = .ok (.iload_n 3, 1) := by decide +kernel
theorem dX0_joinRows_41 : decode cX0_joinRows 41 = .ok (.iconst 1, 1) := by decide +kernel
theorem dX0_joinRows_42 : decode cX0_joinRows 42 = .ok (.if_icmp .ge 4, 3) := by decide +kernel
theorem dX0_joinRows_45 : decode cX0_joinRows 45 = .ok (.return_, 1) := by decide +kernel
theorem dX0_joinRows_46 : decode cX0_joinRows 46 = .ok (.iconst 0, 1) := by decide +kernel
theorem dX0_joinRows_47 : decode cX0_joinRows 47 = .ok (.istore 5, 2) := by decide +kernel
theorem dX0_joinRows_49 : decode cX0_joinRows 49 = .ok (.iload 5, 2) := by decide +kernel
theorem dX0_joinRows_51 : decode cX0_joinRows 51 = .ok (.iload 4, 2) := by decide +kernel
theorem dX0_joinRows_53 : decode cX0_joinRows 53 = .ok (.if_icmp .gt 59, 3) := by decide +kernel
theorem dX0_joinRows_56 : decode cX0_joinRows 56 = .ok (.iload 5, 2) := by decide +kernel
theorem dX0_joinRows_58 : decode cX0_joinRows 58 = .ok (.istore 6, 2) := by decide +kernel
theorem dX0_joinRows_60 : decode cX0_joinRows 60 = .ok (.iload 6, 2) := by decide +kernel
theorem dX0_joinRows_62 : decode cX0_joinRows 62 = .ok (.iload 5, 2) := by decide +kernel
theorem dX0_joinRows_64 : decode cX0_joinRows 64 = .ok (.iload_n 3, 1) := by decide +kernel
theorem dX0_joinRows_65 : decode cX0_joinRows 65 = .ok (.iadd, 1) := by decide +kernel
theorem dX0_joinRows_66 : decode cX0_joinRows 66 = .ok (.if_icmp .ge 34, 3) := by decide +kernel
theorem dX0_joinRows_69 : decode cX0_joinRows 69 = .ok (.aload_n 0, 1) := by decide +kernel
theorem dX0_joinRows_70 : decode cX0_joinRows 70 = .ok (.getfield 39, 3) := by decide +kernel
theorem dX0_joinRows_73 : decode cX0_joinRows 73 = .ok (.iload 6, 2) := by decide +kernel
theorem dX0_joinRows_75 : decode cX0_joinRows 75 = .ok (.iload_n 1, 1) := by decide +kernel
theorem dX0_joinRows_76 : decode cX0_joinRows 76 = .ok (.iload_n 3, 1) := by decide +kernel
theorem dX0_joinRows_77 : decode cX0_joinRows 77 = .ok (.imul, 1) := by decide +kernel
theorem dX0_joinRows_78 : decode cX0_joinRows 78 = .ok (.iadd, 1) := by decide +kernel
theorem dX0_joinRows_79 : decode cX0_joinRows 79 = .ok (.dup2, 1) := by decide +kernel
theorem dX0_joinRows_80 : decode cX0_joinRows 80 = .ok (.iaload, 1) := by decide +kernel
theorem dX0_joinRows_81 : decode cX0_joinRows 81 = .ok (.aload_n 0, 1) := by decide +kernel
theorem dX0_joinRows_82 : decode cX0_joinRows 82 = .ok (.getfield 36, 3) := by decide +kernel
theorem dX0_joinRows_85 : decode cX0_joinRows 85 = .ok (.iload 6, 2) := by decide +kernel
theorem dX0_joinRows_87 : decode cX0_joinRows 87 = .ok (.iload_n 2, 1) := by decide +kernel
theorem dX0_joinRows_88 : decode cX0_joinRows 88 = .ok (.iload_n 3, 1) := by decide +kernel
theorem dX0_joinRows_89 : decode cX0_joinRows 89 = .ok (.imul, 1) := by decide +kernel
theorem dX0_joinRows_90 : decode cX0_joinRows 90 = .ok (.iadd, 1) := by decide +kernel
theorem dX0_joinRows_91 : decode cX0_joinRows 91 = .ok (.iaload, 1) := by decide +kernel
theorem dX0_joinRows_92 : decode cX0_joinRows 92 = .ok (.ior, 1) := by decide +kernel
theorem dX0_joinRows_93 : decode cX0_joinRows 93 = .ok (.iastore, 1) := by decide +kernel
theorem dX0_joinRows_94 : decode cX0_joinRows 94 = .ok (.iinc 6 1, 3) := by decide +kernel
theorem dX0_joinRows_97 : decode cX0_joinRows 97 = .ok (.goto (-37), 3) := by decide +kernel
theorem dX0_joinRows_100 : decode cX0_joinRows 100 = .ok (.iload 5, 2) := by decide +kernel
theorem dX0_joinRows_102 : decode cX0_joinRows 102 = .ok (.bipush 8, 2) := by decide +kernel
theorem dX0_joinRows_104 : decode cX0_joinRows 104 = .ok (.iload_n 3, 1) := by decide +kernel
theorem dX0_joinRows_105 : decode cX0_joinRows 105 = .ok (.imul, 1) := by decide +kernel
theorem dX0_joinRows_106 : decode cX0_joinRows 106 = .ok (.iadd, 1) := by decide +kernel
theorem dX0_joinRows_107 : decode cX0_joinRows 107 = .ok (.istore 5, 2) := by decide +kernel
theorem dX0_joinRows_109 : decode cX0_joinRows 109 = .ok (.goto (-60), 3) := by decide +kernel
theorem dX0_joinRows_112 : decode cX0_joinRows 112 = .ok (.return_, 1) := by decide +kernel
def f_X0_joinRows (σ : St) (i : Nat) (v1 : Int32) (v2 : Int32) (v3 : Int32) : Option (Unit × St) :=
  bd ((if (nI (szS (i / 3))) < (nI (szS (i / 3))) then (nI (szS (i / 3))) else (nI (szS (i / 3)))) - ((8 : Int32) * v3)) fun x1 =>
    (if v1 < 0 then
      some ((), σ)
       else
      (if v1 < (8 : Int32) then
        (if v2 < 0 then
          some ((), σ)
           else
          (if v2 < (8 : Int32) then
            (if v3 < (1 : Int32) then
              some ((), σ)
               else
              lo2 FU (fun rec4 (s2 : St) (x3 : Int32) =>
                (if x1 < x3 then
                  some ((), s2)
                   else
                  lo2 FU (fun rec8 (s6 : St) (x7 : Int32) =>
                    (if x7 < (x3 + v3) then
                      ck (x7 + (v1 * v3)) (szS (i / 3)) <|
                        ck (x7 + (v2 * v3)) (szS (i / 3)) <|
                          ck (x7 + (v1 * v3)) (szS (i / 3)) <|
                            bd (setI s6 (44 + 5 * i) (x7 + (v1 * v3)).toNatClampNeg ((s6.1 (44 + 5 * i) (x7 + (v1 * v3)).toNatClampNeg) ||| (s6.1 (43 + 5 * i) (x7 + (v2 * v3)).toNatClampNeg))) fun s10 =>
                              rec8 s10 (x7 + 1)
                       else
                      bd (x3 + ((8 : Int32) * v3)) fun x11 =>
                        rec4 s6 x11)) s2 x3)) σ (0 : Int32))
             else
            some ((), σ)))
         else
        some ((), σ)))
set_option maxHeartbeats 4000000 in
set_option maxRecDepth 100000 in
theorem c_X0_joinRows (l : Launch) (E : Ev) (hF : Full E) (σ : St) (i : Nat) (hi : i < 9) (v1 : Int32) (v2 : Int32) (v3 : Int32) : Ctr l (en2 enV) (fun q => q.2) E md_X0_joinRows [rV E (40 + 5 * i), .int v1, .int v2, .int v3] σ (f_X0_joinRows σ i v1 v2 v3) := by
  refine ctr_of rfl (Nat.le_of_ble_eq_true rfl) (fun Γ => ?_)
  show Sim _ Γ _ E md_X0_joinRows σ 0 [(0, rV E (40 + 5 * i)), (1, .int v1), (2, .int v2), (3, .int v3)] [] _
  unfold f_X0_joinRows
  refine s_aload_n dX0_joinRows_0 0 rfl rfl ?_
  refine s_getr (b := (44 + 5 * i)) gf_X0_39 rfl (mC hF hi) (kC hi) (ft_of (kC hi) rfl) (hF.2 _ _) (rC6 hi) dX0_joinRows_1 ?_
  refine s_alen (n := nI (szS (i / 3))) (mC4 hF hi) (kC4 hi) (by decide) (by decide) (by rw [(lC4 hi)]; rfl) dX0_joinRows_4 ?_
  refine s_aload_n dX0_joinRows_5 0 rfl rfl ?_
  refine s_getr (b := (43 + 5 * i)) gf_X0_36 rfl (mC hF hi) (kC hi) (ft_of (kC hi) rfl) (hF.2 _ _) (rC5 hi) dX0_joinRows_6 ?_
  refine s_alen (n := nI (szS (i / 3))) (mC3 hF hi) (kC3 hi) (by decide) (by decide) (by rw [(lC3 hi)]; rfl) dX0_joinRows_9 ?_
  refine s_mmin ml_X0_139 rfl dX0_joinRows_10 ?_
  refine s_bipush (v := 8) dX0_joinRows_13 (by decide) ?_
  refine s_iload_n dX0_joinRows_15 3 rfl rfl ?_
  refine s_imul dX0_joinRows_16 ?_
  refine s_isub dX0_joinRows_17 ?_
  refine s_istoreB (fun x1 => [(4, .int x1), (0, rV E (40 + 5 * i)), (1, .int v1), (2, .int v2), (3, .int v3)]) dX0_joinRows_18 (by decide) (fun _ => rfl) (fun x1 => ?_)
  refine s_iload_n dX0_joinRows_20 2 rfl rfl ?_
  refine s_if_lt 45 dX0_joinRows_21 (by decide) ?_ ?_
  · skip
    exact s_return rfl rfl rfl dX0_joinRows_45
  · skip
    refine s_iload_n dX0_joinRows_24 2 rfl rfl ?_
    refine s_bipush (v := 8) dX0_joinRows_25 (by decide) ?_
    refine s_icmp_ge 45 dX0_joinRows_27 (by decide) ?_ ?_
    · skip
      refine s_iload_n dX0_joinRows_30 3 rfl rfl ?_
      refine s_if_lt 45 dX0_joinRows_31 (by decide) ?_ ?_
      · skip
        exact s_return rfl rfl rfl dX0_joinRows_45
      · skip
        refine s_iload_n dX0_joinRows_34 3 rfl rfl ?_
        refine s_bipush (v := 8) dX0_joinRows_35 (by decide) ?_
        refine s_icmp_ge 45 dX0_joinRows_37 (by decide) ?_ ?_
        · skip
          refine s_iload_n dX0_joinRows_40 4 rfl rfl ?_
          refine s_iconst (v := 1) dX0_joinRows_41 (by decide) ?_
          refine s_icmp_ge 46 dX0_joinRows_42 (by decide) ?_ ?_
          · skip
            exact s_return rfl rfl rfl dX0_joinRows_45
          · skip
            refine s_iconst (v := 0) dX0_joinRows_46 (by decide) ?_
            refine s_istore [(5, .int (0 : Int32)), (4, .int x1), (0, rV E (40 + 5 * i)), (1, .int v1), (2, .int v2), (3, .int v3)] dX0_joinRows_47 (by decide) rfl ?_
            refine s_sub (lv' := [(0, rV E (40 + 5 * i)), (1, .int v1), (2, .int v2), (3, .int v3), (4, .int x1), (5, .int (0 : Int32))]) [2, 3, 4, 5, 1, 0] rfl ?_
            refine s_lo2 (σf := fun s2 x3 => s2) (lvf := fun s2 x3 => [(0, rV E (40 + 5 * i)), (1, .int v1), (2, .int v2), (3, .int v3), (4, .int x1), (5, .int x3)]) (fun rec4 ih5 s2 x3 => ?_)
            refine s_iload dX0_joinRows_49 5 rfl ?_
            refine s_iload dX0_joinRows_51 4 rfl ?_
            refine s_icmp_gt 112 dX0_joinRows_53 (by decide) ?_ ?_
            · skip
              exact s_return rfl rfl rfl dX0_joinRows_112
            · skip
              refine s_iload dX0_joinRows_56 5 rfl ?_
              refine s_istore [(6, .int x3), (0, rV E (40 + 5 * i)), (1, .int v1), (2, .int v2), (3, .int v3), (4, .int x1), (5, .int x3)] dX0_joinRows_58 (by decide) rfl ?_
              refine s_sub (lv' := [(0, rV E (40 + 5 * i)), (1, .int v1), (2, .int v2), (3, .int v3), (4, .int x1), (5, .int x3), (6, .int x3)]) [1, 2, 3, 4, 5, 6, 0] rfl ?_
              refine s_lo2 (σf := fun s6 x7 => s6) (lvf := fun s6 x7 => [(0, rV E (40 + 5 * i)), (1, .int v1), (2, .int v2), (3, .int v3), (4, .int x1), (5, .int x3), (6, .int x7)]) (fun rec8 ih9 s6 x7 => ?_)
              refine s_iload dX0_joinRows_60 6 rfl ?_
              refine s_iload dX0_joinRows_62 5 rfl ?_
              refine s_iload_n dX0_joinRows_64 3 rfl rfl ?_
              refine s_iadd dX0_joinRows_65 ?_
              refine s_icmp_ge 100 dX0_joinRows_66 (by decide) ?_ ?_
              · skip
                refine s_aload_n dX0_joinRows_69 0 rfl rfl ?_
                refine s_getr (b := (44 + 5 * i)) gf_X0_39 rfl (mC hF hi) (kC hi) (ft_of (kC hi) rfl) (hF.2 _ _) (rC6 hi) dX0_joinRows_70 ?_
                refine s_iload dX0_joinRows_73 6 rfl ?_
                refine s_iload_n dX0_joinRows_75 1 rfl rfl ?_
                refine s_iload_n dX0_joinRows_76 3 rfl rfl ?_
                refine s_imul dX0_joinRows_77 ?_
                refine s_iadd dX0_joinRows_78 ?_
                refine s_dup2 dX0_joinRows_79 rfl rfl ?_
                refine s_iald (mC4 hF hi) (kC4 hi) (lC4 hi) dX0_joinRows_80 ?_
                refine s_aload_n dX0_joinRows_81 0 rfl rfl ?_
                refine s_getr (b := (43 + 5 * i)) gf_X0_36 rfl (mC hF hi) (kC hi) (ft_of (kC hi) rfl) (hF.2 _ _) (rC5 hi) dX0_joinRows_82 ?_
                refine s_iload dX0_joinRows_85 6 rfl ?_
                refine s_iload_n dX0_joinRows_87 2 rfl rfl ?_
                refine s_iload_n dX0_joinRows_88 3 rfl rfl ?_
                refine s_imul dX0_joinRows_89 ?_
                refine s_iadd dX0_joinRows_90 ?_
                refine s_iald (mC3 hF hi) (kC3 hi) (lC3 hi) dX0_joinRows_91 ?_
                refine s_ior dX0_joinRows_92 ?_
                refine s_iast (mC4 hF hi) (kC4 hi) (lC4 hi) dX0_joinRows_93 (fun s10 => ?_)
                refine s_iinc [(6, .int (x7 + 1)), (0, rV E (40 + 5 * i)), (1, .int v1), (2, .int v2), (3, .int v3), (4, .int x1), (5, .int x3)] dX0_joinRows_94 6 rfl rfl (by decide) rfl ?_
                refine s_goto 60 dX0_joinRows_97 (by decide) ?_
                refine s_sub [1, 2, 3, 4, 5, 6, 0] rfl ?_
                exact ih9 s10 (x7 + 1)
              · skip
                refine s_iload dX0_joinRows_100 5 rfl ?_
                refine s_bipush (v := 8) dX0_joinRows_102 (by decide) ?_
                refine s_iload_n dX0_joinRows_104 3 rfl rfl ?_
                refine s_imul dX0_joinRows_105 ?_
                refine s_iadd dX0_joinRows_106 ?_
                refine s_istoreB (fun x11 => [(5, .int x11), (0, rV E (40 + 5 * i)), (1, .int v1), (2, .int v2), (3, .int v3), (4, .int x1), (6, .int x7)]) dX0_joinRows_107 (by decide) (fun _ => rfl) (fun x11 => ?_)
                refine s_goto 49 dX0_joinRows_109 (by decide) ?_
                refine s_sub [1, 2, 3, 4, 5, 0] rfl ?_
                exact ih5 s6 x11
        · skip
          exact s_return rfl rfl rfl dX0_joinRows_45
    · skip
      exact s_return rfl rfl rfl dX0_joinRows_45
theorem dX0_widen_0 : decode cX0_widen 0 = .ok (.iconst 1, 1) := by decide +kernel
theorem dX0_widen_1 : decode cX0_widen 1 = .ok (.iconst 3, 1) := by decide +kernel
theorem dX0_widen_2 : decode cX0_widen 2 = .ok (.aload_n 0, 1) := by decide +kernel
theorem dX0_widen_3 : decode cX0_widen 3 = .ok (.getfield 15, 3) := by decide +kernel
theorem dX0_widen_6 : decode cX0_widen 6 = .ok (.invokevirtual 56, 3) := by decide +kernel
theorem dX0_widen_9 : decode cX0_widen 9 = .ok (.iconst 1, 1) := by decide +kernel
theorem dX0_widen_10 : decode cX0_widen 10 = .ok (.isub, 1) := by decide +kernel
theorem dX0_widen_11 : decode cX0_widen 11 = .ok (.iload_n 1, 1) := by decide +kernel
theorem dX0_widen_12 : decode cX0_widen 12 = .ok (.isub, 1) := by decide +kernel
theorem dX0_widen_13 : decode cX0_widen 13 = .ok (.imul, 1) := by decide +kernel
theorem dX0_widen_14 : decode cX0_widen 14 = .ok (.ishl, 1) := by decide +kernel
theorem dX0_widen_15 : decode cX0_widen 15 = .ok (.istore_n 2, 1) := by decide +kernel
theorem dX0_widen_16 : decode cX0_widen 16 = .ok (.aload_n 0, 1) := by decide +kernel
theorem dX0_widen_17 : decode cX0_widen 17 = .ok (.getfield 39, 3) := by decide +kernel
theorem dX0_widen_20 : decode cX0_widen 20 = .ok (.iconst 0, 1) := by decide +kernel
theorem dX0_widen_21 : decode cX0_widen 21 = .ok (.invokestatic 117, 3) := by decide +kernel
theorem dX0_widen_24 : decode cX0_widen 24 = .ok (.iconst 0, 1) := by decide +kernel
theorem dX0_widen_25 : decode cX0_widen 25 = .ok (.istore_n 3, 1) := by decide +kernel
theorem dX0_widen_26 : decode cX0_widen 26 = .ok (.iload_n 3, 1) := by decide +kernel
theorem dX0_widen_27 : decode cX0_widen 27 = .ok (.aload_n 0, 1) := by decide +kernel
theorem dX0_widen_28 : decode cX0_widen 28 = .ok (.getfield 9, 3) := by decide +kernel
theorem dX0_widen_31 : decode cX0_widen 31 = .ok (.invokevirtual 100, 3) := by decide +kernel
theorem dX0_widen_34 : decode cX0_widen 34 = .ok (.if_icmp .ge 58, 3) := by decide +kernel
theorem dX0_widen_37 : decode cX0_widen 37 = .ok (.aload_n 0, 1) := by decide +kernel
theorem dX0_widen_38 : decode cX0_widen 38 = .ok (.getfield 9, 3) := by decide +kernel
theorem dX0_widen_41 : decode cX0_widen 41 = .ok (.iload_n 3, 1) := by decide +kernel
theorem dX0_widen_42 : decode cX0_widen 42 = .ok (.invokevirtual 132, 3) := by decide +kernel
theorem dX0_widen_45 : decode cX0_widen 45 = .ok (.istore 4, 2) := by decide +kernel
theorem dX0_widen_47 : decode cX0_widen 47 = .ok (.iconst 0, 1) := by decide +kernel
theorem dX0_widen_48 : decode cX0_widen 48 = .ok (.istore 5, 2) := by decide +kernel
theorem dX0_widen_50 : decode cX0_widen 50 = .ok (.iload 5, 2) := by decide +kernel
theorem dX0_widen_52 : decode cX0_widen 52 = .ok (.aload_n 0, 1) := by decide +kernel
theorem dX0_widen_53 : decode cX0_widen 53 = .ok (.getfield 9, 3) := by decide +kernel
theorem dX0_widen_56 : decode cX0_widen 56 = .ok (.invokevirtual 100, 3) := by decide +kernel
theorem dX0_widen_59 : decode cX0_widen 59 = .ok (.if_icmp .ge 27, 3) := by decide +kernel
theorem dX0_widen_62 : decode cX0_widen 62 = .ok (.iload 4, 2) := by decide +kernel
theorem dX0_widen_64 : decode cX0_widen 64 = .ok (.iload 5, 2) := by decide +kernel
theorem dX0_widen_66 : decode cX0_widen 66 = .ok (.invokestatic 103, 3) := by decide +kernel
theorem dX0_widen_69 : decode cX0_widen 69 = .ok (.ifCond .eq 11, 3) := by decide +kernel
theorem dX0_widen_72 : decode cX0_widen 72 = .ok (.aload_n 0, 1) := by decide +kernel
theorem dX0_widen_73 : decode cX0_widen 73 = .ok (.iload_n 3, 1) := by decide +kernel
theorem dX0_widen_74 : decode cX0_widen 74 = .ok (.iload 5, 2) := by decide +kernel
theorem dX0_widen_76 : decode cX0_widen 76 = .ok (.iload_n 2, 1) := by decide +kernel
theorem dX0_widen_77 : decode cX0_widen 77 = .ok (.invokevirtual 135, 3) := by decide +kernel
theorem dX0_widen_80 : decode cX0_widen 80 = .ok (.iinc 5 1, 3) := by decide +kernel
theorem dX0_widen_83 : decode cX0_widen 83 = .ok (.goto (-33), 3) := by decide +kernel
theorem dX0_widen_86 : decode cX0_widen 86 = .ok (.iinc 3 1, 3) := by decide +kernel
theorem dX0_widen_89 : decode cX0_widen 89 = .ok (.goto (-63), 3) := by decide +kernel
theorem dX0_widen_92 : decode cX0_widen 92 = .ok (.aload_n 0, 1) := by decide +kernel
theorem dX0_widen_93 : decode cX0_widen 93 = .ok (.getfield 39, 3) := by decide +kernel
theorem dX0_widen_96 : decode cX0_widen 96 = .ok (.iconst 0, 1) := by decide +kernel
theorem dX0_widen_97 : decode cX0_widen 97 = .ok (.aload_n 0, 1) := by decide +kernel
theorem dX0_widen_98 : decode cX0_widen 98 = .ok (.getfield 36, 3) := by decide +kernel
theorem dX0_widen_101 : decode cX0_widen 101 = .ok (.iconst 0, 1) := by decide +kernel
theorem dX0_widen_102 : decode cX0_widen 102 = .ok (.aload_n 0, 1) := by decide +kernel
theorem dX0_widen_103 : decode cX0_widen 103 = .ok (.getfield 39, 3) := by decide +kernel
theorem dX0_widen_106 : decode cX0_widen 106 = .ok (.arraylength, 1) := by decide +kernel
theorem dX0_widen_107 : decode cX0_widen 107 = .ok (.aload_n 0, 1) := by decide +kernel
theorem dX0_widen_108 : decode cX0_widen 108 = .ok (.getfield 36, 3) := by decide +kernel
theorem dX0_widen_111 : decode cX0_widen 111 = .ok (.arraylength, 1) := by decide +kernel
theorem dX0_widen_112 : decode cX0_widen 112 = .ok (.invokestatic 139, 3) := by decide +kernel
theorem dX0_widen_115 : decode cX0_widen 115 = .ok (.invokestatic 142, 3) := by decide +kernel
theorem dX0_widen_118 : decode cX0_widen 118 = .ok (.return_, 1) := by decide +kernel
def f_X0_widen (σ : St) (i : Nat) (v1 : Int32) : Option (Unit × St) :=
  calP (f_X6_hunters σ (i / 3)) fun r1 =>
    bd ((1 : Int32) <<< (((3 : Int32) * ((r1 - (1 : Int32)) - v1)) &&& 31)) fun x2 =>
      cal (f_J7_fill_53178 σ (44 + 5 * i) (0 : Int32)) fun _ s3 =>
        lo2 FU (fun rec6 (s4 : St) (x5 : Int32) =>
          calP (f_X3_places s4) fun r8 =>
            (if x5 < r8 then
              calP (f_X3_outOf s4 x5) fun r9 =>
                lo2 FU (fun rec12 (s10 : St) (x11 : Int32) =>
                  calP (f_X3_places s10) fun r14 =>
                    (if x11 < r14 then
                      calP (f_X9_has s10 r9 x11) fun r15 =>
                        (if r15 = 0 then
                          rec12 s10 (x11 + 1)
                           else
                          cal (f_X0_joinRows s10 i x5 x11 x2) fun _ s16 =>
                            rec12 s16 (x11 + 1))
                       else
                      rec6 s10 (x5 + 1))) s4 (0 : Int32)
               else
              cpy s4 (44 + 5 * i) (szS (i / 3)) (43 + 5 * i) (szS (i / 3)) (0 : Int32) (0 : Int32) (if (nI (szS (i / 3))) < (nI (szS (i / 3))) then (nI (szS (i / 3))) else (nI (szS (i / 3)))) fun s17 =>
                some ((), s17))) s3 (0 : Int32)
set_option maxHeartbeats 4000000 in
set_option maxRecDepth 100000 in
theorem c_X0_widen (l : Launch) (E : Ev) (hF : Full E) (σ : St) (i : Nat) (hi : i < 9) (v1 : Int32) : Ctr l (en2 enV) (fun q => q.2) E md_X0_widen [rV E (40 + 5 * i), .int v1] σ (f_X0_widen σ i v1) := by
  refine ctr_of rfl (Nat.le_of_ble_eq_true rfl) (fun Γ => ?_)
  show Sim _ Γ _ E md_X0_widen σ 0 [(0, rV E (40 + 5 * i)), (1, .int v1)] [] _
  unfold f_X0_widen
  refine s_iconst (v := 1) dX0_widen_0 (by decide) ?_
  refine s_iconst (v := 3) dX0_widen_1 (by decide) ?_
  refine s_aload_n dX0_widen_2 0 rfl rfl ?_
  refine s_getr (b := (32 + 2 * (i / 3))) gf_X0_15 rfl (mC hF hi) (kC hi) (ft_of (kC hi) rfl) (hF.2 _ _) (rC1 hi) dX0_widen_3 ?_
  refine s_callVpI (As := []) mf_X6_hunters vf_X6_hunters ml_X0_56 (c_X6_hunters _ E hF σ (i / 3) (div3 hi)) (mS hF (div3 hi)) (kS (div3 hi)) (by decide) rfl rfl rfl rfl (Nat.le_of_ble_eq_true rfl) rfl dX0_widen_6 (fun r1 => ?_)
  refine s_iconst (v := 1) dX0_widen_9 (by decide) ?_
  refine s_isub dX0_widen_10 ?_
  refine s_iload_n dX0_widen_11 1 rfl rfl ?_
  refine s_isub dX0_widen_12 ?_
  refine s_imul dX0_widen_13 ?_
  refine s_ishl dX0_widen_14 ?_
  refine s_istore_nB (fun x2 => [(2, .int x2), (0, rV E (40 + 5 * i)), (1, .int v1)]) dX0_widen_15 rfl (by decide) (fun _ => rfl) (fun x2 => ?_)
  refine s_aload_n dX0_widen_16 1 rfl rfl ?_
  refine s_getr (b := (44 + 5 * i)) gf_X0_39 rfl (mC hF hi) (kC hi) (ft_of (kC hi) rfl) (hF.2 _ _) (rC6 hi) dX0_widen_17 ?_
  refine s_iconst (v := 0) dX0_widen_20 (by decide) ?_
  refine s_callSwV (As := [rV E (44 + 5 * i), .int (0 : Int32)]) mf_J7_fill_53178 vf_J7_fill_53178 ml_X0_117 (c_J7_fill_53178 _ E hF σ (44 + 5 * i) (mC4 hF hi) (kC4 hi) (0 : Int32)) rfl rfl (Nat.le_of_ble_eq_true rfl) rfl dX0_widen_21 (fun _ s3 => ?_)
  refine s_iconst (v := 0) dX0_widen_24 (by decide) ?_
  refine s_istore_n [(3, .int (0 : Int32)), (2, .int x2), (0, rV E (40 + 5 * i)), (1, .int v1)] dX0_widen_25 rfl (by decide) rfl ?_
  refine s_sub (lv' := [(0, rV E (40 + 5 * i)), (2, .int x2), (3, .int (0 : Int32))]) [2, 1, 0] rfl ?_
  refine s_lo2 (σf := fun s4 x5 => s4) (lvf := fun s4 x5 => [(0, rV E (40 + 5 * i)), (2, .int x2), (3, .int x5)]) (fun rec6 ih7 s4 x5 => ?_)
  refine s_iload_n dX0_widen_26 2 rfl rfl ?_
  refine s_aload_n dX0_widen_27 0 rfl rfl ?_
  refine s_getr (b := 1) gf_X0_9 rfl (mC hF hi) (kC hi) (ft_of (kC hi) rfl) (hF.2 _ _) (rC0 hi) dX0_widen_28 ?_
  refine s_callVpI (As := []) mf_X3_places vf_X3_places ml_X0_100 (c_X3_places _ E hF s4) (m1 hF) k1 (by decide) rfl rfl rfl rfl (Nat.le_of_ble_eq_true rfl) rfl dX0_widen_31 (fun r8 => ?_)
  refine s_icmp_ge 92 dX0_widen_34 (by decide) ?_ ?_
  · skip
    refine s_aload_n dX0_widen_37 0 rfl rfl ?_
    refine s_getr (b := 1) gf_X0_9 rfl (mC hF hi) (kC hi) (ft_of (kC hi) rfl) (hF.2 _ _) (rC0 hi) dX0_widen_38 ?_
    refine s_iload_n dX0_widen_41 2 rfl rfl ?_
    refine s_callVpI (As := [.int x5]) mf_X3_outOf vf_X3_outOf ml_X0_132 (c_X3_outOf _ E hF s4 x5) (m1 hF) k1 (by decide) rfl rfl rfl rfl (Nat.le_of_ble_eq_true rfl) rfl dX0_widen_42 (fun r9 => ?_)
    refine s_istore [(4, .int r9), (0, rV E (40 + 5 * i)), (2, .int x2), (3, .int x5)] dX0_widen_45 (by decide) rfl ?_
    refine s_iconst (v := 0) dX0_widen_47 (by decide) ?_
    refine s_istore [(5, .int (0 : Int32)), (4, .int r9), (0, rV E (40 + 5 * i)), (2, .int x2), (3, .int x5)] dX0_widen_48 (by decide) rfl ?_
    refine s_sub (lv' := [(0, rV E (40 + 5 * i)), (2, .int x2), (3, .int x5), (4, .int r9), (5, .int (0 : Int32))]) [2, 3, 4, 1, 0] rfl ?_
    refine s_lo2 (σf := fun s10 x11 => s10) (lvf := fun s10 x11 => [(0, rV E (40 + 5 * i)), (2, .int x2), (3, .int x5), (4, .int r9), (5, .int x11)]) (fun rec12 ih13 s10 x11 => ?_)
    refine s_iload dX0_widen_50 4 rfl ?_
    refine s_aload_n dX0_widen_52 0 rfl rfl ?_
    refine s_getr (b := 1) gf_X0_9 rfl (mC hF hi) (kC hi) (ft_of (kC hi) rfl) (hF.2 _ _) (rC0 hi) dX0_widen_53 ?_
    refine s_callVpI (As := []) mf_X3_places vf_X3_places ml_X0_100 (c_X3_places _ E hF s10) (m1 hF) k1 (by decide) rfl rfl rfl rfl (Nat.le_of_ble_eq_true rfl) rfl dX0_widen_56 (fun r14 => ?_)
    refine s_icmp_ge 86 dX0_widen_59 (by decide) ?_ ?_
    · skip
      refine s_iload dX0_widen_62 3 rfl ?_
      refine s_iload dX0_widen_64 4 rfl ?_
      refine s_callNpI (As := [.int r9, .int x11]) (host := "RunnerNet") mf_X9_has vf_X9_has (nl_of 3 rfl) (c_X9_has _ E hF s10 r9 x11) rfl rfl (Nat.le_of_ble_eq_true rfl) rfl dX0_widen_66 (fun r15 => ?_)
      refine s_if_eq 80 dX0_widen_69 (by decide) ?_ ?_
      · skip
        refine s_iinc [(5, .int (x11 + 1)), (0, rV E (40 + 5 * i)), (2, .int x2), (3, .int x5), (4, .int r9)] dX0_widen_80 4 rfl rfl (by decide) rfl ?_
        refine s_goto 50 dX0_widen_83 (by decide) ?_
        refine s_sub [1, 2, 3, 4, 0] rfl ?_
        exact ih13 s10 (x11 + 1)
      · skip
        refine s_aload_n dX0_widen_72 0 rfl rfl ?_
        refine s_iload_n dX0_widen_73 2 rfl rfl ?_
        refine s_iload dX0_widen_74 4 rfl ?_
        refine s_iload_n dX0_widen_76 1 rfl rfl ?_
        refine s_callVwV (As := [.int x5, .int x11, .int x2]) mf_X0_joinRows vf_X0_joinRows ml_X0_135 (c_X0_joinRows _ E hF s10 i hi x5 x11 x2) (mC hF hi) (kC hi) (by decide) rfl rfl rfl rfl (Nat.le_of_ble_eq_true rfl) rfl dX0_widen_77 (fun _ s16 => ?_)
        refine s_iinc [(5, .int (x11 + 1)), (0, rV E (40 + 5 * i)), (2, .int x2), (3, .int x5), (4, .int r9)] dX0_widen_80 4 rfl rfl (by decide) rfl ?_
        refine s_goto 50 dX0_widen_83 (by decide) ?_
        refine s_sub [1, 2, 3, 4, 0] rfl ?_
        exact ih13 s16 (x11 + 1)
    · skip
      refine s_iinc [(3, .int (x5 + 1)), (0, rV E (40 + 5 * i)), (2, .int x2), (4, .int r9), (5, .int x11)] dX0_widen_86 2 rfl rfl (by decide) rfl ?_
      refine s_goto 26 dX0_widen_89 (by decide) ?_
      refine s_sub [1, 2, 0] rfl ?_
      exact ih7 s10 (x5 + 1)
  · skip
    refine s_aload_n dX0_widen_92 0 rfl rfl ?_
    refine s_getr (b := (44 + 5 * i)) gf_X0_39 rfl (mC hF hi) (kC hi) (ft_of (kC hi) rfl) (hF.2 _ _) (rC6 hi) dX0_widen_93 ?_
    refine s_iconst (v := 0) dX0_widen_96 (by decide) ?_
    refine s_aload_n dX0_widen_97 0 rfl rfl ?_
    refine s_getr (b := (43 + 5 * i)) gf_X0_36 rfl (mC hF hi) (kC hi) (ft_of (kC hi) rfl) (hF.2 _ _) (rC5 hi) dX0_widen_98 ?_
    refine s_iconst (v := 0) dX0_widen_101 (by decide) ?_
    refine s_aload_n dX0_widen_102 0 rfl rfl ?_
    refine s_getr (b := (44 + 5 * i)) gf_X0_39 rfl (mC hF hi) (kC hi) (ft_of (kC hi) rfl) (hF.2 _ _) (rC6 hi) dX0_widen_103 ?_
    refine s_alen (n := nI (szS (i / 3))) (mC4 hF hi) (kC4 hi) (by decide) (by decide) (by rw [(lC4 hi)]; rfl) dX0_widen_106 ?_
    refine s_aload_n dX0_widen_107 0 rfl rfl ?_
    refine s_getr (b := (43 + 5 * i)) gf_X0_36 rfl (mC hF hi) (kC hi) (ft_of (kC hi) rfl) (hF.2 _ _) (rC5 hi) dX0_widen_108 ?_
    refine s_alen (n := nI (szS (i / 3))) (mC3 hF hi) (kC3 hi) (by decide) (by decide) (by rw [(lC3 hi)]; rfl) dX0_widen_111 ?_
    refine s_mmin ml_X0_139 rfl dX0_widen_112 ?_
    refine s_copy ml_X0_142 (mC4 hF hi) (kC4 hi) (lC4 hi) (mC3 hF hi) (kC3 hi) (lC3 hi) rfl dX0_widen_115 (fun s17 => ?_)
    exact s_return rfl rfl rfl dX0_widen_118
theorem dX0_solve_0 : decode cX0_solve 0 = .ok (.aload_n 0, 1) := by decide +kernel
theorem dX0_solve_1 : decode cX0_solve 1 = .ok (.getfield 42, 3) := by decide +kernel
theorem dX0_solve_4 : decode cX0_solve 4 = .ok (.aload_n 0, 1) := by decide +kernel
theorem dX0_solve_5 : decode cX0_solve 5 = .ok (.getfield 9, 3) := by decide +kernel
theorem dX0_solve_8 : decode cX0_solve 8 = .ok (.invokevirtual 45, 3) := by decide +kernel
theorem dX0_solve_11 : decode cX0_solve 11 = .ok (.if_icmp .ne 4, 3) := by decide +kernel
theorem dX0_solve_14 : decode cX0_solve 14 = .ok (.return_, 1) := by decide +kernel
theorem dX0_solve_15 : decode cX0_solve 15 = .ok (.aload_n 0, 1) := by decide +kernel
theorem dX0_solve_16 : decode cX0_solve 16 = .ok (.aload_n 0, 1) := by decide +kernel
theorem dX0_solve_17 : decode cX0_solve 17 = .ok (.getfield 9, 3) := by decide +kernel
theorem dX0_solve_20 : decode cX0_solve 20 = .ok (.invokevirtual 45, 3) := by decide +kernel
theorem dX0_solve_23 : decode cX0_solve 23 = .ok (.putfield 42, 3) := by decide +kernel
theorem dX0_solve_26 : decode cX0_solve 26 = .ok (.aload_n 0, 1) := by decide +kernel
theorem dX0_solve_27 : decode cX0_solve 27 = .ok (.invokevirtual 50, 3) := by decide +kernel
theorem dX0_solve_30 : decode cX0_solve 30 = .ok (.iconst 1, 1) := by decide +kernel
theorem dX0_solve_31 : decode cX0_solve 31 = .ok (.istore_n 1, 1) := by decide +kernel
theorem dX0_solve_32 : decode cX0_solve 32 = .ok (.iconst 1, 1) := by decide +kernel
theorem dX0_solve_33 : decode cX0_solve 33 = .ok (.istore_n 2, 1) := by decide +kernel
theorem dX0_solve_34 : decode cX0_solve 34 = .ok (.iload_n 2, 1) := by decide +kernel
theorem dX0_solve_35 : decode cX0_solve 35 = .ok (.aload_n 0, 1) := by decide +kernel
theorem dX0_solve_36 : decode cX0_solve 36 = .ok (.getfield 29, 3) := by decide +kernel
theorem dX0_solve_39 : decode cX0_solve 39 = .ok (.arraylength, 1) := by decide +kernel
theorem dX0_solve_40 : decode cX0_solve 40 = .ok (.if_icmp .gt 47, 3) := by decide +kernel
theorem dX0_solve_43 : decode cX0_solve 43 = .ok (.iload_n 1, 1) := by decide +kernel
theorem dX0_solve_44 : decode cX0_solve 44 = .ok (.ifCond .eq 43, 3) := by decide +kernel
theorem dX0_solve_47 : decode cX0_solve 47 = .ok (.aload_n 0, 1) := by decide +kernel
theorem dX0_solve_48 : decode cX0_solve 48 = .ok (.invokevirtual 53, 3) := by decide +kernel
theorem dX0_solve_51 : decode cX0_solve 51 = .ok (.iconst 0, 1) := by decide +kernel
theorem dX0_solve_52 : decode cX0_solve 52 = .ok (.istore_n 3, 1) := by decide +kernel
theorem dX0_solve_53 : decode cX0_solve 53 = .ok (.iload_n 3, 1) := by decide +kernel
theorem dX0_solve_54 : decode cX0_solve 54 = .ok (.aload_n 0, 1) := by decide +kernel
theorem dX0_solve_55 : decode cX0_solve 55 = .ok (.getfield 15, 3) := by decide +kernel
theorem dX0_solve_58 : decode cX0_solve 58 = .ok (.invokevirtual 56, 3) := by decide +kernel
theorem dX0_solve_61 : decode cX0_solve 61 = .ok (.if_icmp .ge 14, 3) := by decide +kernel
theorem dX0_solve_64 : decode cX0_solve 64 = .ok (.aload_n 0, 1) := by decide +kernel
theorem dX0_solve_65 : decode cX0_solve 65 = .ok (.iload_n 3, 1) := by decide +kernel
theorem dX0_solve_66 : decode cX0_solve 66 = .ok (.invokevirtual 59, 3) := by decide +kernel
theorem dX0_solve_69 : decode cX0_solve 69 = .ok (.iinc 3 1, 3) := by decide +kernel
theorem dX0_solve_72 : decode cX0_solve 72 = .ok (.goto (-19), 3) := by decide +kernel
theorem dX0_solve_75 : decode cX0_solve 75 = .ok (.aload_n 0, 1) := by decide +kernel
theorem dX0_solve_76 : decode cX0_solve 76 = .ok (.iload_n 2, 1) := by decide +kernel
theorem dX0_solve_77 : decode cX0_solve 77 = .ok (.invokevirtual 63, 3) := by decide +kernel
theorem dX0_solve_80 : decode cX0_solve 80 = .ok (.istore_n 1, 1) := by decide +kernel
theorem dX0_solve_81 : decode cX0_solve 81 = .ok (.iinc 2 1, 3) := by decide +kernel
theorem dX0_solve_84 : decode cX0_solve 84 = .ok (.goto (-50), 3) := by decide +kernel
theorem dX0_solve_87 : decode cX0_solve 87 = .ok (.return_, 1) := by decide +kernel
def f_X0_solve (σ : St) (i : Nat) : Option (Unit × St) :=
  calP (f_X3_changes σ) fun r1 =>
    (if (σ.1 (40 + 5 * i) 7) = r1 then
      some ((), σ)
       else
      calP (f_X3_changes σ) fun r2 =>
        bd (setI σ (40 + 5 * i) 7 r2) fun s3 =>
          cal (f_X0_begin s3 i) fun _ s4 =>
            lo3 FU (fun rec8 (s5 : St) (x6 : Int32) (x7 : Int32) =>
              (if (nI (8 * szS (i / 3))) < x7 then
                some ((), s5)
                 else
                (if x6 = 0 then
                  some ((), s5)
                   else
                  cal (f_X0_trap s5 i) fun _ s10 =>
                    lo2 FU (fun rec13 (s11 : St) (x12 : Int32) =>
                      calP (f_X6_hunters s11 (i / 3)) fun r15 =>
                        (if x12 < r15 then
                          cal (f_X0_widen s11 i x12) fun _ s16 =>
                            rec13 s16 (x12 + 1)
                           else
                          cal (f_X0_note s11 i x7) fun r17 s18 =>
                            rec8 s18 r17 (x7 + 1))) s10 (0 : Int32)))) s4 (1 : Int32) (1 : Int32))
set_option maxHeartbeats 4000000 in
set_option maxRecDepth 100000 in
theorem c_X0_solve (l : Launch) (E : Ev) (hF : Full E) (σ : St) (i : Nat) (hi : i < 9) : Ctr l (en2 enV) (fun q => q.2) E md_X0_solve [rV E (40 + 5 * i)] σ (f_X0_solve σ i) := by
  refine ctr_of rfl (Nat.le_of_ble_eq_true rfl) (fun Γ => ?_)
  show Sim _ Γ _ E md_X0_solve σ 0 [(0, rV E (40 + 5 * i))] [] _
  unfold f_X0_solve
  refine s_aload_n dX0_solve_0 0 rfl rfl ?_
  refine s_geti gf_X0_42 rfl (mC hF hi) (kC hi) (ft_of (kC hi) rfl) dX0_solve_1 ?_
  refine s_aload_n dX0_solve_4 0 rfl rfl ?_
  refine s_getr (b := 1) gf_X0_9 rfl (mC hF hi) (kC hi) (ft_of (kC hi) rfl) (hF.2 _ _) (rC0 hi) dX0_solve_5 ?_
  refine s_callVpI (As := []) mf_X3_changes vf_X3_changes ml_X0_45 (c_X3_changes _ E hF σ) (m1 hF) k1 (by decide) rfl rfl rfl rfl (Nat.le_of_ble_eq_true rfl) rfl dX0_solve_8 (fun r1 => ?_)
  refine s_icmp_ne 15 dX0_solve_11 (by decide) ?_ ?_
  · skip
    exact s_return rfl rfl rfl dX0_solve_14
  · skip
    refine s_aload_n dX0_solve_15 0 rfl rfl ?_
    refine s_aload_n dX0_solve_16 0 rfl rfl ?_
    refine s_getr (b := 1) gf_X0_9 rfl (mC hF hi) (kC hi) (ft_of (kC hi) rfl) (hF.2 _ _) (rC0 hi) dX0_solve_17 ?_
    refine s_callVpI (As := []) mf_X3_changes vf_X3_changes ml_X0_45 (c_X3_changes _ E hF σ) (m1 hF) k1 (by decide) rfl rfl rfl rfl (Nat.le_of_ble_eq_true rfl) rfl dX0_solve_20 (fun r2 => ?_)
    refine s_puti gf_X0_42 rfl (mC hF hi) (kC hi) (ft_of (kC hi) rfl) dX0_solve_23 (fun s3 => ?_)
    refine s_aload_n dX0_solve_26 0 rfl rfl ?_
    refine s_callVwV (As := []) mf_X0_begin vf_X0_begin ml_X0_50 (c_X0_begin _ E hF s3 i hi) (mC hF hi) (kC hi) (by decide) rfl rfl rfl rfl (Nat.le_of_ble_eq_true rfl) rfl dX0_solve_27 (fun _ s4 => ?_)
    refine s_iconst (v := 1) dX0_solve_30 (by decide) ?_
    refine s_istore_n [(1, .int (1 : Int32)), (0, rV E (40 + 5 * i))] dX0_solve_31 rfl (by decide) rfl ?_
    refine s_iconst (v := 1) dX0_solve_32 (by decide) ?_
    refine s_istore_n [(2, .int (1 : Int32)), (1, .int (1 : Int32)), (0, rV E (40 + 5 * i))] dX0_solve_33 rfl (by decide) rfl ?_
    refine s_sub (lv' := [(0, rV E (40 + 5 * i)), (1, .int (1 : Int32)), (2, .int (1 : Int32))]) [2, 1, 0] rfl ?_
    refine s_lo3 (σf := fun s5 x6 x7 => s5) (lvf := fun s5 x6 x7 => [(0, rV E (40 + 5 * i)), (1, .int x6), (2, .int x7)]) (fun rec8 ih9 s5 x6 x7 => ?_)
    refine s_iload_n dX0_solve_34 2 rfl rfl ?_
    refine s_aload_n dX0_solve_35 0 rfl rfl ?_
    refine s_getr (b := (41 + 5 * i)) gf_X0_29 rfl (mC hF hi) (kC hi) (ft_of (kC hi) rfl) (hF.2 _ _) (rC3 hi) dX0_solve_36 ?_
    refine s_alen (n := nI (8 * szS (i / 3))) (mC1 hF hi) (kC1 hi) (by decide) (by decide) (by rw [(lC1 hi)]; rfl) dX0_solve_39 ?_
    refine s_icmp_gt 87 dX0_solve_40 (by decide) ?_ ?_
    · skip
      exact s_return rfl rfl rfl dX0_solve_87
    · skip
      refine s_iload_n dX0_solve_43 1 rfl rfl ?_
      refine s_if_eq 87 dX0_solve_44 (by decide) ?_ ?_
      · skip
        exact s_return rfl rfl rfl dX0_solve_87
      · skip
        refine s_aload_n dX0_solve_47 0 rfl rfl ?_
        refine s_callVwV (As := []) mf_X0_trap vf_X0_trap ml_X0_53 (c_X0_trap _ E hF s5 i hi) (mC hF hi) (kC hi) (by decide) rfl rfl rfl rfl (Nat.le_of_ble_eq_true rfl) rfl dX0_solve_48 (fun _ s10 => ?_)
        refine s_iconst (v := 0) dX0_solve_51 (by decide) ?_
        refine s_istore_n [(3, .int (0 : Int32)), (0, rV E (40 + 5 * i)), (1, .int x6), (2, .int x7)] dX0_solve_52 rfl (by decide) rfl ?_
        refine s_sub (lv' := [(0, rV E (40 + 5 * i)), (2, .int x7), (3, .int (0 : Int32))]) [1, 3, 0] rfl ?_
        refine s_lo2 (σf := fun s11 x12 => s11) (lvf := fun s11 x12 => [(0, rV E (40 + 5 * i)), (2, .int x7), (3, .int x12)]) (fun rec13 ih14 s11 x12 => ?_)
        refine s_iload_n dX0_solve_53 2 rfl rfl ?_
        refine s_aload_n dX0_solve_54 0 rfl rfl ?_
        refine s_getr (b := (32 + 2 * (i / 3))) gf_X0_15 rfl (mC hF hi) (kC hi) (ft_of (kC hi) rfl) (hF.2 _ _) (rC1 hi) dX0_solve_55 ?_
        refine s_callVpI (As := []) mf_X6_hunters vf_X6_hunters ml_X0_56 (c_X6_hunters _ E hF s11 (i / 3) (div3 hi)) (mS hF (div3 hi)) (kS (div3 hi)) (by decide) rfl rfl rfl rfl (Nat.le_of_ble_eq_true rfl) rfl dX0_solve_58 (fun r15 => ?_)
        refine s_icmp_ge 75 dX0_solve_61 (by decide) ?_ ?_
        · skip
          refine s_aload_n dX0_solve_64 0 rfl rfl ?_
          refine s_iload_n dX0_solve_65 2 rfl rfl ?_
          refine s_callVwV (As := [.int x12]) mf_X0_widen vf_X0_widen ml_X0_59 (c_X0_widen _ E hF s11 i hi x12) (mC hF hi) (kC hi) (by decide) rfl rfl rfl rfl (Nat.le_of_ble_eq_true rfl) rfl dX0_solve_66 (fun _ s16 => ?_)
          refine s_iinc [(3, .int (x12 + 1)), (0, rV E (40 + 5 * i)), (2, .int x7)] dX0_solve_69 2 rfl rfl (by decide) rfl ?_
          refine s_goto 53 dX0_solve_72 (by decide) ?_
          refine s_sub [1, 2, 0] rfl ?_
          exact ih14 s16 (x12 + 1)
        · skip
          refine s_aload_n dX0_solve_75 0 rfl rfl ?_
          refine s_iload_n dX0_solve_76 1 rfl rfl ?_
          refine s_callVwI (As := [.int x7]) mf_X0_note vf_X0_note ml_X0_63 (c_X0_note _ E hF s11 i hi x7) (mC hF hi) (kC hi) (by decide) rfl rfl rfl rfl (Nat.le_of_ble_eq_true rfl) rfl dX0_solve_77 (fun r17 s18 => ?_)
          refine s_istore_n [(1, .int r17), (0, rV E (40 + 5 * i)), (2, .int x7), (3, .int x12)] dX0_solve_80 rfl (by decide) rfl ?_
          refine s_iinc [(2, .int (x7 + 1)), (1, .int r17), (0, rV E (40 + 5 * i)), (3, .int x12)] dX0_solve_81 2 rfl rfl (by decide) rfl ?_
          refine s_goto 34 dX0_solve_84 (by decide) ?_
          refine s_sub [2, 1, 0] rfl ?_
          exact ih9 s18 r17 (x7 + 1)
theorem dX0_leftAt_0 : decode cX0_leftAt 0 = .ok (.iload_n 1, 1) := by decide +kernel
theorem dX0_leftAt_1 : decode cX0_leftAt 1 = .ok (.ifCond .lt 26, 3) := by decide +kernel
theorem dX0_leftAt_4 : decode cX0_leftAt 4 = .ok (.iload_n 1, 1) := by decide +kernel
theorem dX0_leftAt_5 : decode cX0_leftAt 5 = .ok (.aload_n 0, 1) := by decide +kernel
theorem dX0_leftAt_6 : decode cX0_leftAt 6 = .ok (.getfield 33, 3) := by decide +kernel
theorem dX0_leftAt_9 : decode cX0_leftAt 9 = .ok (.arraylength, 1) := by decide +kernel
theorem dX0_leftAt_10 : decode cX0_leftAt 10 = .ok (.if_icmp .ge 17, 3) := by decide +kernel
theorem dX0_leftAt_13 : decode cX0_leftAt 13 = .ok (.iload_n 2, 1) := by decide +kernel
theorem dX0_leftAt_14 : decode cX0_leftAt 14 = .ok (.ifCond .lt 13, 3) := by decide +kernel
theorem dX0_leftAt_17 : decode cX0_leftAt 17 = .ok (.iload_n 2, 1) := by decide +kernel
theorem dX0_leftAt_18 : decode cX0_leftAt 18 = .ok (.bipush 8, 2) := by decide +kernel
theorem dX0_leftAt_20 : decode cX0_leftAt 20 = .ok (.if_icmp .ge 7, 3) := by decide +kernel
theorem dX0_leftAt_23 : decode cX0_leftAt 23 = .ok (.iconst 1, 1) := by decide +kernel
theorem dX0_leftAt_24 : decode cX0_leftAt 24 = .ok (.goto 4, 3) := by decide +kernel
theorem dX0_leftAt_27 : decode cX0_leftAt 27 = .ok (.iconst 0, 1) := by decide +kernel
theorem dX0_leftAt_28 : decode cX0_leftAt 28 = .ok (.istore_n 3, 1) := by decide +kernel
theorem dX0_leftAt_29 : decode cX0_leftAt 29 = .ok (.iload_n 3, 1) := by decide +kernel
theorem dX0_leftAt_30 : decode cX0_leftAt 30 = .ok (.ifCond .eq 17, 3) := by decide +kernel
theorem dX0_leftAt_33 : decode cX0_leftAt 33 = .ok (.aload_n 0, 1) := by decide +kernel
theorem dX0_leftAt_34 : decode cX0_leftAt 34 = .ok (.getfield 29, 3) := by decide +kernel
theorem dX0_leftAt_37 : decode cX0_leftAt 37 = .ok (.iload_n 1, 1) := by decide +kernel
theorem dX0_leftAt_38 : decode cX0_leftAt 38 = .ok (.bipush 8, 2) := by decide +kernel
theorem dX0_leftAt_40 : decode cX0_leftAt 40 = .ok (.imul, 1) := by decide +kernel
theorem dX0_leftAt_41 : decode cX0_leftAt 41 = .ok (.iload_n 2, 1) := by decide +kernel
theorem dX0_leftAt_42 : decode cX0_leftAt 42 = .ok (.iadd, 1) := by decide +kernel
theorem dX0_leftAt_43 : decode cX0_leftAt 43 = .ok (.iaload, 1) := by decide +kernel
theorem dX0_leftAt_44 : decode cX0_leftAt 44 = .ok (.goto 5, 3) := by decide +kernel
theorem dX0_leftAt_47 : decode cX0_leftAt 47 = .ok (.ldc 71, 2) := by decide +kernel
theorem dX0_leftAt_49 : decode cX0_leftAt 49 = .ok (.ireturn, 1) := by decide +kernel
def f_X0_leftAt (σ : St) (i : Nat) (v1 : Int32) (v2 : Int32) : Option Int32 :=
  bd (if v1 < 0 then (0 : Int32) else (if v1 < (nI (szS (i / 3))) then (if v2 < 0 then (0 : Int32) else (if v2 < (8 : Int32) then (1 : Int32) else (0 : Int32))) else (0 : Int32))) fun x1 =>
    (if x1 = 0 then
      some (1048576 : Int32)
       else
      ck ((v1 * (8 : Int32)) + v2) (8 * szS (i / 3)) <|
        some (σ.1 (41 + 5 * i) ((v1 * (8 : Int32)) + v2).toNatClampNeg))
set_option maxHeartbeats 4000000 in
set_option maxRecDepth 100000 in
theorem c_X0_leftAt (l : Launch) (E : Ev) (hF : Full E) (σ : St) (i : Nat) (hi : i < 9) (v1 : Int32) (v2 : Int32) : Ctr l enI (fun _ => σ) E md_X0_leftAt [rV E (40 + 5 * i), .int v1, .int v2] σ (f_X0_leftAt σ i v1 v2) := by
  refine ctr_of rfl (Nat.le_of_ble_eq_true rfl) (fun Γ => ?_)
  show Sim _ Γ _ E md_X0_leftAt σ 0 [(0, rV E (40 + 5 * i)), (1, .int v1), (2, .int v2)] [] _
  unfold f_X0_leftAt
  refine s_iload_n dX0_leftAt_0 1 rfl rfl ?_
  refine s_bd 28 (fun x1 => [(0, rV E (40 + 5 * i)), (1, .int v1), (2, .int v2)]) (fun x1 => [.int x1]) (fun jk2 => (if v1 < 0 then jk2 (0 : Int32) else (if v1 < (nI (szS (i / 3))) then (if v2 < 0 then jk2 (0 : Int32) else (if v2 < (8 : Int32) then jk2 (1 : Int32) else jk2 (0 : Int32))) else jk2 (0 : Int32)))) (fun jk2 => (j_ite rfl (j_ite (j_ite rfl (j_ite rfl rfl)) rfl))) ?_ ?_
  · intro x1
    refine s_istore_n [(3, .int x1), (0, rV E (40 + 5 * i)), (1, .int v1), (2, .int v2)] dX0_leftAt_28 rfl (by decide) rfl ?_
    refine s_iload_n dX0_leftAt_29 0 rfl rfl ?_
    refine s_if_eq 47 dX0_leftAt_30 (by decide) ?_ ?_
    · skip
      refine s_ldc (v := 1048576) rfl w_602 dX0_leftAt_47 ?_
      exact s_ireturn rfl rfl rfl dX0_leftAt_49
    · skip
      refine s_aload_n dX0_leftAt_33 1 rfl rfl ?_
      refine s_getr (b := (41 + 5 * i)) gf_X0_29 rfl (mC hF hi) (kC hi) (ft_of (kC hi) rfl) (hF.2 _ _) (rC3 hi) dX0_leftAt_34 ?_
      refine s_iload_n dX0_leftAt_37 2 rfl rfl ?_
      refine s_bipush (v := 8) dX0_leftAt_38 (by decide) ?_
      refine s_imul dX0_leftAt_40 ?_
      refine s_iload_n dX0_leftAt_41 3 rfl rfl ?_
      refine s_iadd dX0_leftAt_42 ?_
      refine s_iald (mC1 hF hi) (kC1 hi) (lC1 hi) dX0_leftAt_43 ?_
      refine s_goto 49 dX0_leftAt_44 (by decide) ?_
      exact s_ireturn rfl rfl rfl dX0_leftAt_49
  · intro jk2 hjk2
    refine s_if_lt 27 dX0_leftAt_1 (by decide) ?_ ?_
    · skip
      refine s_iconst (v := 0) dX0_leftAt_27 (by decide) ?_
      exact hjk2 (0 : Int32)
    · skip
      refine s_iload_n dX0_leftAt_4 1 rfl rfl ?_
      refine s_aload_n dX0_leftAt_5 0 rfl rfl ?_
      refine s_getr (b := (42 + 5 * i)) gf_X0_33 rfl (mC hF hi) (kC hi) (ft_of (kC hi) rfl) (hF.2 _ _) (rC4 hi) dX0_leftAt_6 ?_
      refine s_alen (n := nI (szS (i / 3))) (mC2 hF hi) (kC2 hi) (by decide) (by decide) (by rw [(lC2 hi)]; rfl) dX0_leftAt_9 ?_
      refine s_icmp_ge 27 dX0_leftAt_10 (by decide) ?_ ?_
      · skip
        refine s_iload_n dX0_leftAt_13 2 rfl rfl ?_
        refine s_if_lt 27 dX0_leftAt_14 (by decide) ?_ ?_
        · skip
          refine s_iconst (v := 0) dX0_leftAt_27 (by decide) ?_
          exact hjk2 (0 : Int32)
        · skip
          refine s_iload_n dX0_leftAt_17 2 rfl rfl ?_
          refine s_bipush (v := 8) dX0_leftAt_18 (by decide) ?_
          refine s_icmp_ge 27 dX0_leftAt_20 (by decide) ?_ ?_
          · skip
            refine s_iconst (v := 1) dX0_leftAt_23 (by decide) ?_
            refine s_goto 28 dX0_leftAt_24 (by decide) ?_
            exact hjk2 (1 : Int32)
          · skip
            refine s_iconst (v := 0) dX0_leftAt_27 (by decide) ?_
            exact hjk2 (0 : Int32)
      · skip
        refine s_iconst (v := 0) dX0_leftAt_27 (by decide) ?_
        exact hjk2 (0 : Int32)
theorem dX0_roundsFrom_0 : decode cX0_roundsFrom 0 = .ok (.aload_n 0, 1) := by decide +kernel
theorem dX0_roundsFrom_1 : decode cX0_roundsFrom 1 = .ok (.iload_n 1, 1) := by decide +kernel
theorem dX0_roundsFrom_2 : decode cX0_roundsFrom 2 = .ok (.iload_n 2, 1) := by decide +kernel
theorem dX0_roundsFrom_3 : decode cX0_roundsFrom 3 = .ok (.invokevirtual 67, 3) := by decide +kernel
theorem dX0_roundsFrom_6 : decode cX0_roundsFrom 6 = .ok (.istore_n 3, 1) := by decide +kernel
theorem dX0_roundsFrom_7 : decode cX0_roundsFrom 7 = .ok (.iload_n 3, 1) := by decide +kernel
theorem dX0_roundsFrom_8 : decode cX0_roundsFrom 8 = .ok (.ldc 71, 2) := by decide +kernel
theorem dX0_roundsFrom_10 : decode cX0_roundsFrom 10 = .ok (.if_icmp .ne 7, 3) := by decide +kernel
theorem dX0_roundsFrom_13 : decode cX0_roundsFrom 13 = .ok (.iconst (-1), 1) := by decide +kernel
theorem dX0_roundsFrom_14 : decode cX0_roundsFrom 14 = .ok (.goto 4, 3) := by decide +kernel
theorem dX0_roundsFrom_17 : decode cX0_roundsFrom 17 = .ok (.iload_n 3, 1) := by decide +kernel
theorem dX0_roundsFrom_18 : decode cX0_roundsFrom 18 = .ok (.ireturn, 1) := by decide +kernel
def f_X0_roundsFrom (σ : St) (i : Nat) (v1 : Int32) (v2 : Int32) : Option Int32 :=
  calP (f_X0_leftAt σ i v1 v2) fun r1 =>
    (if r1 = (1048576 : Int32) then
      some (-1 : Int32)
       else
      some r1)
set_option maxHeartbeats 4000000 in
set_option maxRecDepth 100000 in
theorem c_X0_roundsFrom (l : Launch) (E : Ev) (hF : Full E) (σ : St) (i : Nat) (hi : i < 9) (v1 : Int32) (v2 : Int32) : Ctr l enI (fun _ => σ) E md_X0_roundsFrom [rV E (40 + 5 * i), .int v1, .int v2] σ (f_X0_roundsFrom σ i v1 v2) := by
  refine ctr_of rfl (Nat.le_of_ble_eq_true rfl) (fun Γ => ?_)
  show Sim _ Γ _ E md_X0_roundsFrom σ 0 [(0, rV E (40 + 5 * i)), (1, .int v1), (2, .int v2)] [] _
  unfold f_X0_roundsFrom
  refine s_aload_n dX0_roundsFrom_0 0 rfl rfl ?_
  refine s_iload_n dX0_roundsFrom_1 1 rfl rfl ?_
  refine s_iload_n dX0_roundsFrom_2 2 rfl rfl ?_
  refine s_callVpI (As := [.int v1, .int v2]) mf_X0_leftAt vf_X0_leftAt ml_X0_67 (c_X0_leftAt _ E hF σ i hi v1 v2) (mC hF hi) (kC hi) (by decide) rfl rfl rfl rfl (Nat.le_of_ble_eq_true rfl) rfl dX0_roundsFrom_3 (fun r1 => ?_)
  refine s_istore_n [(3, .int r1), (0, rV E (40 + 5 * i)), (1, .int v1), (2, .int v2)] dX0_roundsFrom_6 rfl (by decide) rfl ?_
  refine s_iload_n dX0_roundsFrom_7 0 rfl rfl ?_
  refine s_ldc (v := 1048576) rfl w_602 dX0_roundsFrom_8 ?_
  refine s_icmp_ne 17 dX0_roundsFrom_10 (by decide) ?_ ?_
  · skip
    refine s_iconst (v := -1) dX0_roundsFrom_13 (by decide) ?_
    refine s_goto 18 dX0_roundsFrom_14 (by decide) ?_
    exact s_ireturn rfl rfl rfl dX0_roundsFrom_18
  · skip
    refine s_iload_n dX0_roundsFrom_17 0 rfl rfl ?_
    exact s_ireturn rfl rfl rfl dX0_roundsFrom_18
theorem dX0_mostAmong_0 : decode cX0_mostAmong 0 = .ok (.iconst 0, 1) := by decide +kernel
theorem dX0_mostAmong_1 : decode cX0_mostAmong 1 = .ok (.istore_n 3, 1) := by decide +kernel
theorem dX0_mostAmong_2 : decode cX0_mostAmong 2 = .ok (.iconst 0, 1) := by decide +kernel
theorem dX0_mostAmong_3 : decode cX0_mostAmong 3 = .ok (.istore 4, 2) := by decide +kernel
theorem dX0_mostAmong_5 : decode cX0_mostAmong 5 = .ok (.iload 4, 2) := by decide +kernel
theorem dX0_mostAmong_7 : decode cX0_mostAmong 7 = .ok (.bipush 8, 2) := by decide +kernel
theorem dX0_mostAmong_9 : decode cX0_mostAmong 9 = .ok (.if_icmp .ge 30, 3) := by decide +kernel
theorem dX0_mostAmong_12 : decode cX0_mostAmong 12 = .ok (.iload_n 2, 1) := by decide +kernel
theorem dX0_mostAmong_13 : decode cX0_mostAmong 13 = .ok (.iload 4, 2) := by decide +kernel
theorem dX0_mostAmong_15 : decode cX0_mostAmong 15 = .ok (.invokestatic 103, 3) := by decide +kernel
theorem dX0_mostAmong_18 : decode cX0_mostAmong 18 = .ok (.ifCond .eq 15, 3) := by decide +kernel
theorem dX0_mostAmong_21 : decode cX0_mostAmong 21 = .ok (.iload_n 3, 1) := by decide +kernel
theorem dX0_mostAmong_22 : decode cX0_mostAmong 22 = .ok (.aload_n 0, 1) := by decide +kernel
theorem dX0_mostAmong_23 : decode cX0_mostAmong 23 = .ok (.iload_n 1, 1) := by decide +kernel
theorem dX0_mostAmong_24 : decode cX0_mostAmong 24 = .ok (.iload 4, 2) := by decide +kernel
theorem dX0_mostAmong_26 : decode cX0_mostAmong 26 = .ok (.invokevirtual 67, 3) := by decide +kernel
theorem dX0_mostAmong_29 : decode cX0_mostAmong 29 = .ok (.invokestatic 112, 3) := by decide +kernel
theorem dX0_mostAmong_32 : decode cX0_mostAmong 32 = .ok (.istore_n 3, 1) := by decide +kernel
theorem dX0_mostAmong_33 : decode cX0_mostAmong 33 = .ok (.iinc 4 1, 3) := by decide +kernel
theorem dX0_mostAmong_36 : decode cX0_mostAmong 36 = .ok (.goto (-31), 3) := by decide +kernel
theorem dX0_mostAmong_39 : decode cX0_mostAmong 39 = .ok (.iload_n 3, 1) := by decide +kernel
theorem dX0_mostAmong_40 : decode cX0_mostAmong 40 = .ok (.ireturn, 1) := by decide +kernel
def f_X0_mostAmong (σ : St) (i : Nat) (v1 : Int32) (v2 : Int32) : Option Int32 :=
  lo2 FU (fun rec3 (x1 : Int32) (x2 : Int32) =>
    (if x2 < (8 : Int32) then
      calP (f_X9_has σ v2 x2) fun r5 =>
        (if r5 = 0 then
          rec3 x1 (x2 + 1)
           else
          calP (f_X0_leftAt σ i v1 x2) fun r6 =>
            bd (if x1 < r6 then r6 else x1) fun x7 =>
              rec3 x7 (x2 + 1))
       else
      some x1)) (0 : Int32) (0 : Int32)
set_option maxHeartbeats 4000000 in
set_option maxRecDepth 100000 in
theorem c_X0_mostAmong (l : Launch) (E : Ev) (hF : Full E) (σ : St) (i : Nat) (hi : i < 9) (v1 : Int32) (v2 : Int32) : Ctr l enI (fun _ => σ) E md_X0_mostAmong [rV E (40 + 5 * i), .int v1, .int v2] σ (f_X0_mostAmong σ i v1 v2) := by
  refine ctr_of rfl (Nat.le_of_ble_eq_true rfl) (fun Γ => ?_)
  show Sim _ Γ _ E md_X0_mostAmong σ 0 [(0, rV E (40 + 5 * i)), (1, .int v1), (2, .int v2)] [] _
  unfold f_X0_mostAmong
  refine s_iconst (v := 0) dX0_mostAmong_0 (by decide) ?_
  refine s_istore_n [(3, .int (0 : Int32)), (0, rV E (40 + 5 * i)), (1, .int v1), (2, .int v2)] dX0_mostAmong_1 rfl (by decide) rfl ?_
  refine s_iconst (v := 0) dX0_mostAmong_2 (by decide) ?_
  refine s_istore [(4, .int (0 : Int32)), (3, .int (0 : Int32)), (0, rV E (40 + 5 * i)), (1, .int v1), (2, .int v2)] dX0_mostAmong_3 (by decide) rfl ?_
  refine s_sub (lv' := [(0, rV E (40 + 5 * i)), (1, .int v1), (2, .int v2), (3, .int (0 : Int32)), (4, .int (0 : Int32))]) [2, 3, 4, 1, 0] rfl ?_
  refine s_lo2 (σf := fun x1 x2 => σ) (lvf := fun x1 x2 => [(0, rV E (40 + 5 * i)), (1, .int v1), (2, .int v2), (3, .int x1), (4, .int x2)]) (fun rec3 ih4 x1 x2 => ?_)
  refine s_iload dX0_mostAmong_5 4 rfl ?_
  refine s_bipush (v := 8) dX0_mostAmong_7 (by decide) ?_
  refine s_icmp_ge 39 dX0_mostAmong_9 (by decide) ?_ ?_
  · skip
    refine s_iload_n dX0_mostAmong_12 2 rfl rfl ?_
    refine s_iload dX0_mostAmong_13 4 rfl ?_
    refine s_callNpI (As := [.int v2, .int x2]) (host := "RunnerNet") mf_X9_has vf_X9_has (nl_of 3 rfl) (c_X9_has _ E hF σ v2 x2) rfl rfl (Nat.le_of_ble_eq_true rfl) rfl dX0_mostAmong_15 (fun r5 => ?_)
    refine s_if_eq 33 dX0_mostAmong_18 (by decide) ?_ ?_
    · skip
      refine s_iinc [(4, .int (x2 + 1)), (0, rV E (40 + 5 * i)), (1, .int v1), (2, .int v2), (3, .int x1)] dX0_mostAmong_33 4 rfl rfl (by decide) rfl ?_
      refine s_goto 5 dX0_mostAmong_36 (by decide) ?_
      refine s_sub [1, 2, 3, 4, 0] rfl ?_
      exact ih4 x1 (x2 + 1)
    · skip
      refine s_iload_n dX0_mostAmong_21 3 rfl rfl ?_
      refine s_aload_n dX0_mostAmong_22 0 rfl rfl ?_
      refine s_iload_n dX0_mostAmong_23 1 rfl rfl ?_
      refine s_iload dX0_mostAmong_24 4 rfl ?_
      refine s_callVpI (As := [.int v1, .int x2]) mf_X0_leftAt vf_X0_leftAt ml_X0_67 (c_X0_leftAt _ E hF σ i hi v1 x2) (mC hF hi) (kC hi) (by decide) rfl rfl rfl rfl (Nat.le_of_ble_eq_true rfl) rfl dX0_mostAmong_26 (fun r6 => ?_)
      refine s_mmax ml_X0_112 rfl dX0_mostAmong_29 ?_
      refine s_istore_nB (fun x7 => [(3, .int x7), (0, rV E (40 + 5 * i)), (1, .int v1), (2, .int v2), (4, .int x2)]) dX0_mostAmong_32 rfl (by decide) (fun _ => rfl) (fun x7 => ?_)
      refine s_iinc [(4, .int (x2 + 1)), (3, .int x7), (0, rV E (40 + 5 * i)), (1, .int v1), (2, .int v2)] dX0_mostAmong_33 4 rfl rfl (by decide) rfl ?_
      refine s_goto 5 dX0_mostAmong_36 (by decide) ?_
      refine s_sub [2, 3, 4, 1, 0] rfl ?_
      exact ih4 x7 (x2 + 1)
  · skip
    refine s_iload_n dX0_mostAmong_39 3 rfl rfl ?_
    exact s_ireturn rfl rfl rfl dX0_mostAmong_40
theorem dX0_mostFrom_0 : decode cX0_mostFrom 0 = .ok (.aload_n 0, 1) := by decide +kernel
theorem dX0_mostFrom_1 : decode cX0_mostFrom 1 = .ok (.iload_n 1, 1) := by decide +kernel
theorem dX0_mostFrom_2 : decode cX0_mostFrom 2 = .ok (.aload_n 0, 1) := by decide +kernel
theorem dX0_mostFrom_3 : decode cX0_mostFrom 3 = .ok (.getfield 9, 3) := by decide +kernel
theorem dX0_mostFrom_6 : decode cX0_mostFrom 6 = .ok (.invokevirtual 72, 3) := by decide +kernel
theorem dX0_mostFrom_9 : decode cX0_mostFrom 9 = .ok (.invokevirtual 75, 3) := by decide +kernel
theorem dX0_mostFrom_12 : decode cX0_mostFrom 12 = .ok (.istore_n 2, 1) := by decide +kernel
theorem dX0_mostFrom_13 : decode cX0_mostFrom 13 = .ok (.iload_n 2, 1) := by decide +kernel
theorem dX0_mostFrom_14 : decode cX0_mostFrom 14 = .ok (.ldc 71, 2) := by decide +kernel
theorem dX0_mostFrom_16 : decode cX0_mostFrom 16 = .ok (.if_icmp .ne 7, 3) := by decide +kernel
theorem dX0_mostFrom_19 : decode cX0_mostFrom 19 = .ok (.iconst (-1), 1) := by decide +kernel
theorem dX0_mostFrom_20 : decode cX0_mostFrom 20 = .ok (.goto 4, 3) := by decide +kernel
theorem dX0_mostFrom_23 : decode cX0_mostFrom 23 = .ok (.iload_n 2, 1) := by decide +kernel
theorem dX0_mostFrom_24 : decode cX0_mostFrom 24 = .ok (.ireturn, 1) := by decide +kernel
def f_X0_mostFrom (σ : St) (i : Nat) (v1 : Int32) : Option Int32 :=
  calP (f_X3_all σ) fun r1 =>
    calP (f_X0_mostAmong σ i v1 r1) fun r2 =>
      (if r2 = (1048576 : Int32) then
        some (-1 : Int32)
         else
        some r2)
set_option maxHeartbeats 4000000 in
set_option maxRecDepth 100000 in
theorem c_X0_mostFrom (l : Launch) (E : Ev) (hF : Full E) (σ : St) (i : Nat) (hi : i < 9) (v1 : Int32) : Ctr l enI (fun _ => σ) E md_X0_mostFrom [rV E (40 + 5 * i), .int v1] σ (f_X0_mostFrom σ i v1) := by
  refine ctr_of rfl (Nat.le_of_ble_eq_true rfl) (fun Γ => ?_)
  show Sim _ Γ _ E md_X0_mostFrom σ 0 [(0, rV E (40 + 5 * i)), (1, .int v1)] [] _
  unfold f_X0_mostFrom
  refine s_aload_n dX0_mostFrom_0 0 rfl rfl ?_
  refine s_iload_n dX0_mostFrom_1 1 rfl rfl ?_
  refine s_aload_n dX0_mostFrom_2 0 rfl rfl ?_
  refine s_getr (b := 1) gf_X0_9 rfl (mC hF hi) (kC hi) (ft_of (kC hi) rfl) (hF.2 _ _) (rC0 hi) dX0_mostFrom_3 ?_
  refine s_callVpI (As := []) mf_X3_all vf_X3_all ml_X0_72 (c_X3_all _ E hF σ) (m1 hF) k1 (by decide) rfl rfl rfl rfl (Nat.le_of_ble_eq_true rfl) rfl dX0_mostFrom_6 (fun r1 => ?_)
  refine s_callVpI (As := [.int v1, .int r1]) mf_X0_mostAmong vf_X0_mostAmong ml_X0_75 (c_X0_mostAmong _ E hF σ i hi v1 r1) (mC hF hi) (kC hi) (by decide) rfl rfl rfl rfl (Nat.le_of_ble_eq_true rfl) rfl dX0_mostFrom_9 (fun r2 => ?_)
  refine s_istore_n [(2, .int r2), (0, rV E (40 + 5 * i)), (1, .int v1)] dX0_mostFrom_12 rfl (by decide) rfl ?_
  refine s_iload_n dX0_mostFrom_13 0 rfl rfl ?_
  refine s_ldc (v := 1048576) rfl w_602 dX0_mostFrom_14 ?_
  refine s_icmp_ne 23 dX0_mostFrom_16 (by decide) ?_ ?_
  · skip
    refine s_iconst (v := -1) dX0_mostFrom_19 (by decide) ?_
    refine s_goto 24 dX0_mostFrom_20 (by decide) ?_
    exact s_ireturn rfl rfl rfl dX0_mostFrom_24
  · skip
    refine s_iload_n dX0_mostFrom_23 0 rfl rfl ?_
    exact s_ireturn rfl rfl rfl dX0_mostFrom_24
theorem dX0_bestSetting_0 : decode cX0_bestSetting 0 = .ok (.iconst (-1), 1) := by decide +kernel
theorem dX0_bestSetting_1 : decode cX0_bestSetting 1 = .ok (.istore_n 1, 1) := by decide +kernel
theorem dX0_bestSetting_2 : decode cX0_bestSetting 2 = .ok (.ldc 71, 2) := by decide +kernel
theorem dX0_bestSetting_4 : decode cX0_bestSetting 4 = .ok (.istore_n 2, 1) := by decide +kernel
theorem dX0_bestSetting_5 : decode cX0_bestSetting 5 = .ok (.iconst 0, 1) := by decide +kernel
theorem dX0_bestSetting_6 : decode cX0_bestSetting 6 = .ok (.istore_n 3, 1) := by decide +kernel
theorem dX0_bestSetting_7 : decode cX0_bestSetting 7 = .ok (.iload_n 3, 1) := by decide +kernel
theorem dX0_bestSetting_8 : decode cX0_bestSetting 8 = .ok (.aload_n 0, 1) := by decide +kernel
theorem dX0_bestSetting_9 : decode cX0_bestSetting 9 = .ok (.getfield 15, 3) := by decide +kernel
theorem dX0_bestSetting_12 : decode cX0_bestSetting 12 = .ok (.invokevirtual 23, 3) := by decide +kernel
theorem dX0_bestSetting_15 : decode cX0_bestSetting 15 = .ok (.if_icmp .ge 50, 3) := by decide +kernel
theorem dX0_bestSetting_18 : decode cX0_bestSetting 18 = .ok (.aload_n 0, 1) := by decide +kernel
theorem dX0_bestSetting_19 : decode cX0_bestSetting 19 = .ok (.getfield 15, 3) := by decide +kernel
theorem dX0_bestSetting_22 : decode cX0_bestSetting 22 = .ok (.iload_n 3, 1) := by decide +kernel
theorem dX0_bestSetting_23 : decode cX0_bestSetting 23 = .ok (.invokevirtual 78, 3) := by decide +kernel
theorem dX0_bestSetting_26 : decode cX0_bestSetting 26 = .ok (.ifCond .eq 18, 3) := by decide +kernel
theorem dX0_bestSetting_29 : decode cX0_bestSetting 29 = .ok (.aload_n 0, 1) := by decide +kernel
theorem dX0_bestSetting_30 : decode cX0_bestSetting 30 = .ok (.iload_n 3, 1) := by decide +kernel
theorem dX0_bestSetting_31 : decode cX0_bestSetting 31 = .ok (.aload_n 0, 1) := by decide +kernel
theorem dX0_bestSetting_32 : decode cX0_bestSetting 32 = .ok (.getfield 9, 3) := by decide +kernel
theorem dX0_bestSetting_35 : decode cX0_bestSetting 35 = .ok (.invokevirtual 72, 3) := by decide +kernel
theorem dX0_bestSetting_38 : decode cX0_bestSetting 38 = .ok (.invokevirtual 75, 3) := by decide +kernel
theorem dX0_bestSetting_41 : decode cX0_bestSetting 41 = .ok (.goto 5, 3) := by decide +kernel
theorem dX0_bestSetting_44 : decode cX0_bestSetting 44 = .ok (.ldc 71, 2) := by decide +kernel
theorem dX0_bestSetting_46 : decode cX0_bestSetting 46 = .ok (.istore 4, 2) := by decide +kernel
theorem dX0_bestSetting_48 : decode cX0_bestSetting 48 = .ok (.iload 4, 2) := by decide +kernel
theorem dX0_bestSetting_50 : decode cX0_bestSetting 50 = .ok (.iload_n 2, 1) := by decide +kernel
theorem dX0_bestSetting_51 : decode cX0_bestSetting 51 = .ok (.if_icmp .ge 8, 3) := by decide +kernel
theorem dX0_bestSetting_54 : decode cX0_bestSetting 54 = .ok (.iload_n 3, 1) := by decide +kernel
theorem dX0_bestSetting_55 : decode cX0_bestSetting 55 = .ok (.istore_n 1, 1) := by decide +kernel
theorem dX0_bestSetting_56 : decode cX0_bestSetting 56 = .ok (.iload 4, 2) := by decide +kernel
theorem dX0_bestSetting_58 : decode cX0_bestSetting 58 = .ok (.istore_n 2, 1) := by decide +kernel
theorem dX0_bestSetting_59 : decode cX0_bestSetting 59 = .ok (.iinc 3 1, 3) := by decide +kernel
theorem dX0_bestSetting_62 : decode cX0_bestSetting 62 = .ok (.goto (-55), 3) := by decide +kernel
theorem dX0_bestSetting_65 : decode cX0_bestSetting 65 = .ok (.iload_n 1, 1) := by decide +kernel
theorem dX0_bestSetting_66 : decode cX0_bestSetting 66 = .ok (.ireturn, 1) := by decide +kernel
def f_X0_bestSetting (σ : St) (i : Nat) : Option Int32 :=
  lo3 FU (fun rec4 (x1 : Int32) (x2 : Int32) (x3 : Int32) =>
    calP (f_X6_size σ (i / 3)) fun r6 =>
      (if x3 < r6 then
        calP (f_X6_isSetting σ (i / 3) x3) fun r7 =>
          jn1 (fun jk9 =>
            (if r7 = 0 then
              jk9 (1048576 : Int32)
               else
              calP (f_X3_all σ) fun r10 =>
                calP (f_X0_mostAmong σ i x3 r10) fun r11 =>
                  jk9 r11))
            (fun (x8 : Int32) => 
            (if x8 < x2 then
                rec4 x3 x8 (x3 + 1)
                 else
                rec4 x1 x2 (x3 + 1)))
         else
        some x1)) (-1 : Int32) (1048576 : Int32) (0 : Int32)
set_option maxHeartbeats 4000000 in
set_option maxRecDepth 100000 in
theorem c_X0_bestSetting (l : Launch) (E : Ev) (hF : Full E) (σ : St) (i : Nat) (hi : i < 9) : Ctr l enI (fun _ => σ) E md_X0_bestSetting [rV E (40 + 5 * i)] σ (f_X0_bestSetting σ i) := by
  refine ctr_of rfl (Nat.le_of_ble_eq_true rfl) (fun Γ => ?_)
  show Sim _ Γ _ E md_X0_bestSetting σ 0 [(0, rV E (40 + 5 * i))] [] _
  unfold f_X0_bestSetting
  refine s_iconst (v := -1) dX0_bestSetting_0 (by decide) ?_
  refine s_istore_n [(1, .int (-1 : Int32)), (0, rV E (40 + 5 * i))] dX0_bestSetting_1 rfl (by decide) rfl ?_
  refine s_ldc (v := 1048576) rfl w_602 dX0_bestSetting_2 ?_
  refine s_istore_n [(2, .int (1048576 : Int32)), (1, .int (-1 : Int32)), (0, rV E (40 + 5 * i))] dX0_bestSetting_4 rfl (by decide) rfl ?_
  refine s_iconst (v := 0) dX0_bestSetting_5 (by decide) ?_
  refine s_istore_n [(3, .int (0 : Int32)), (2, .int (1048576 : Int32)), (1, .int (-1 : Int32)), (0, rV E (40 + 5 * i))] dX0_bestSetting_6 rfl (by decide) rfl ?_
  refine s_sub (lv' := [(0, rV E (40 + 5 * i)), (1, .int (-1 : Int32)), (2, .int (1048576 : Int32)), (3, .int (0 : Int32))]) [3, 2, 1, 0] rfl ?_
  refine s_lo3 (σf := fun x1 x2 x3 => σ) (lvf := fun x1 x2 x3 => [(0, rV E (40 + 5 * i)), (1, .int x1), (2, .int x2), (3, .int x3)]) (fun rec4 ih5 x1 x2 x3 => ?_)
  refine s_iload_n dX0_bestSetting_7 3 rfl rfl ?_
  refine s_aload_n dX0_bestSetting_8 0 rfl rfl ?_
  refine s_getr (b := (32 + 2 * (i / 3))) gf_X0_15 rfl (mC hF hi) (kC hi) (ft_of (kC hi) rfl) (hF.2 _ _) (rC1 hi) dX0_bestSetting_9 ?_
  refine s_callVpI (As := []) mf_X6_size vf_X6_size ml_X0_23 (c_X6_size _ E hF σ (i / 3) (div3 hi)) (mS hF (div3 hi)) (kS (div3 hi)) (by decide) rfl rfl rfl rfl (Nat.le_of_ble_eq_true rfl) rfl dX0_bestSetting_12 (fun r6 => ?_)
  refine s_icmp_ge 65 dX0_bestSetting_15 (by decide) ?_ ?_
  · skip
    refine s_aload_n dX0_bestSetting_18 0 rfl rfl ?_
    refine s_getr (b := (32 + 2 * (i / 3))) gf_X0_15 rfl (mC hF hi) (kC hi) (ft_of (kC hi) rfl) (hF.2 _ _) (rC1 hi) dX0_bestSetting_19 ?_
    refine s_iload_n dX0_bestSetting_22 3 rfl rfl ?_
    refine s_callVpI (As := [.int x3]) mf_X6_isSetting vf_X6_isSetting ml_X0_78 (c_X6_isSetting _ E hF σ (i / 3) (div3 hi) x3) (mS hF (div3 hi)) (kS (div3 hi)) (by decide) rfl rfl rfl rfl (Nat.le_of_ble_eq_true rfl) rfl dX0_bestSetting_23 (fun r7 => ?_)
    refine s_jn1 46 (fun x8 => σ) (fun x8 => [(0, rV E (40 + 5 * i)), (1, .int x1), (2, .int x2), (3, .int x3)]) (fun x8 => [.int x8]) ?_ ?_
    · intro x8
      refine s_istore [(4, .int x8), (0, rV E (40 + 5 * i)), (1, .int x1), (2, .int x2), (3, .int x3)] dX0_bestSetting_46 (by decide) rfl ?_
      refine s_iload dX0_bestSetting_48 0 rfl ?_
      refine s_iload_n dX0_bestSetting_50 3 rfl rfl ?_
      refine s_icmp_ge 59 dX0_bestSetting_51 (by decide) ?_ ?_
      · skip
        refine s_iload_n dX0_bestSetting_54 4 rfl rfl ?_
        refine s_istore_n [(1, .int x3), (4, .int x8), (0, rV E (40 + 5 * i)), (2, .int x2), (3, .int x3)] dX0_bestSetting_55 rfl (by decide) rfl ?_
        refine s_iload dX0_bestSetting_56 1 rfl ?_
        refine s_istore_n [(2, .int x8), (1, .int x3), (4, .int x8), (0, rV E (40 + 5 * i)), (3, .int x3)] dX0_bestSetting_58 rfl (by decide) rfl ?_
        refine s_iinc [(3, .int (x3 + 1)), (2, .int x8), (1, .int x3), (4, .int x8), (0, rV E (40 + 5 * i))] dX0_bestSetting_59 4 rfl rfl (by decide) rfl ?_
        refine s_goto 7 dX0_bestSetting_62 (by decide) ?_
        refine s_sub [4, 2, 1, 0] rfl ?_
        exact ih5 x3 x8 (x3 + 1)
      · skip
        refine s_iinc [(3, .int (x3 + 1)), (4, .int x8), (0, rV E (40 + 5 * i)), (1, .int x1), (2, .int x2)] dX0_bestSetting_59 4 rfl rfl (by decide) rfl ?_
        refine s_goto 7 dX0_bestSetting_62 (by decide) ?_
        refine s_sub [2, 3, 4, 0] rfl ?_
        exact ih5 x1 x2 (x3 + 1)
    · intro jk9 hjk9
      refine s_if_eq 44 dX0_bestSetting_26 (by decide) ?_ ?_
      · skip
        refine s_ldc (v := 1048576) rfl w_602 dX0_bestSetting_44 ?_
        exact hjk9 (1048576 : Int32)
      · skip
        refine s_aload_n dX0_bestSetting_29 0 rfl rfl ?_
        refine s_iload_n dX0_bestSetting_30 3 rfl rfl ?_
        refine s_aload_n dX0_bestSetting_31 0 rfl rfl ?_
        refine s_getr (b := 1) gf_X0_9 rfl (mC hF hi) (kC hi) (ft_of (kC hi) rfl) (hF.2 _ _) (rC0 hi) dX0_bestSetting_32 ?_
        refine s_callVpI (As := []) mf_X3_all vf_X3_all ml_X0_72 (c_X3_all _ E hF σ) (m1 hF) k1 (by decide) rfl rfl rfl rfl (Nat.le_of_ble_eq_true rfl) rfl dX0_bestSetting_35 (fun r10 => ?_)
        refine s_callVpI (As := [.int x3, .int r10]) mf_X0_mostAmong vf_X0_mostAmong ml_X0_75 (c_X0_mostAmong _ E hF σ i hi x3 r10) (mC hF hi) (kC hi) (by decide) rfl rfl rfl rfl (Nat.le_of_ble_eq_true rfl) rfl dX0_bestSetting_38 (fun r11 => ?_)
        refine s_goto 46 dX0_bestSetting_41 (by decide) ?_
        exact hjk9 r11
  · skip
    refine s_iload_n dX0_bestSetting_65 1 rfl rfl ?_
    exact s_ireturn rfl rfl rfl dX0_bestSetting_66
theorem dX0_countEndless_0 : decode cX0_countEndless 0 = .ok (.iconst 0, 1) := by decide +kernel
theorem dX0_countEndless_1 : decode cX0_countEndless 1 = .ok (.istore_n 1, 1) := by decide +kernel
theorem dX0_countEndless_2 : decode cX0_countEndless 2 = .ok (.iconst 0, 1) := by decide +kernel
theorem dX0_countEndless_3 : decode cX0_countEndless 3 = .ok (.istore_n 2, 1) := by decide +kernel
theorem dX0_countEndless_4 : decode cX0_countEndless 4 = .ok (.iload_n 2, 1) := by decide +kernel
theorem dX0_countEndless_5 : decode cX0_countEndless 5 = .ok (.aload_n 0, 1) := by decide +kernel
theorem dX0_countEndless_6 : decode cX0_countEndless 6 = .ok (.getfield 33, 3) := by decide +kernel
theorem dX0_countEndless_9 : decode cX0_countEndless 9 = .ok (.arraylength, 1) := by decide +kernel
theorem dX0_countEndless_10 : decode cX0_countEndless 10 = .ok (.if_icmp .ge 42, 3) := by decide +kernel
theorem dX0_countEndless_13 : decode cX0_countEndless 13 = .ok (.aload_n 0, 1) := by decide +kernel
theorem dX0_countEndless_14 : decode cX0_countEndless 14 = .ok (.getfield 15, 3) := by decide +kernel
theorem dX0_countEndless_17 : decode cX0_countEndless 17 = .ok (.iload_n 2, 1) := by decide +kernel
theorem dX0_countEndless_18 : decode cX0_countEndless 18 = .ok (.invokevirtual 78, 3) := by decide +kernel
theorem dX0_countEndless_21 : decode cX0_countEndless 21 = .ok (.ifCond .eq 25, 3) := by decide +kernel
theorem dX0_countEndless_24 : decode cX0_countEndless 24 = .ok (.iload_n 1, 1) := by decide +kernel
theorem dX0_countEndless_25 : decode cX0_countEndless 25 = .ok (.aload_n 0, 1) := by decide +kernel
theorem dX0_countEndless_26 : decode cX0_countEndless 26 = .ok (.getfield 9, 3) := by decide +kernel
theorem dX0_countEndless_29 : decode cX0_countEndless 29 = .ok (.invokevirtual 72, 3) := by decide +kernel
theorem dX0_countEndless_32 : decode cX0_countEndless 32 = .ok (.aload_n 0, 1) := by decide +kernel
theorem dX0_countEndless_33 : decode cX0_countEndless 33 = .ok (.getfield 33, 3) := by decide +kernel
theorem dX0_countEndless_36 : decode cX0_countEndless 36 = .ok (.iload_n 2, 1) := by decide +kernel
theorem dX0_countEndless_37 : decode cX0_countEndless 37 = .ok (.iaload, 1) := by decide +kernel
theorem dX0_countEndless_38 : decode cX0_countEndless 38 = .ok (.iconst (-1), 1) := by decide +kernel
theorem dX0_countEndless_39 : decode cX0_countEndless 39 = .ok (.ixor, 1) := by decide +kernel
theorem dX0_countEndless_40 : decode cX0_countEndless 40 = .ok (.iand, 1) := by decide +kernel
theorem dX0_countEndless_41 : decode cX0_countEndless 41 = .ok (.invokestatic 81, 3) := by decide +kernel
theorem dX0_countEndless_44 : decode cX0_countEndless 44 = .ok (.iadd, 1) := by decide +kernel
theorem dX0_countEndless_45 : decode cX0_countEndless 45 = .ok (.istore_n 1, 1) := by decide +kernel
theorem dX0_countEndless_46 : decode cX0_countEndless 46 = .ok (.iinc 2 1, 3) := by decide +kernel
theorem dX0_countEndless_49 : decode cX0_countEndless 49 = .ok (.goto (-45), 3) := by decide +kernel
theorem dX0_countEndless_52 : decode cX0_countEndless 52 = .ok (.iload_n 1, 1) := by decide +kernel
theorem dX0_countEndless_53 : decode cX0_countEndless 53 = .ok (.ireturn, 1) := by decide +kernel
def f_X0_countEndless (σ : St) (i : Nat) : Option Int32 :=
  lo2 FU (fun rec3 (x1 : Int32) (x2 : Int32) =>
    (if x2 < (nI (szS (i / 3))) then
      calP (f_X6_isSetting σ (i / 3) x2) fun r5 =>
        (if r5 = 0 then
          rec3 x1 (x2 + 1)
           else
          calP (f_X3_all σ) fun r6 =>
            ck x2 (szS (i / 3)) <|
              calP (f_J6_bitCount_0f7a4 σ (r6 &&& ((σ.1 (42 + 5 * i) x2.toNatClampNeg) ^^^ (-1 : Int32)))) fun r7 =>
                bd (x1 + r7) fun x8 =>
                  rec3 x8 (x2 + 1))
       else
      some x1)) (0 : Int32) (0 : Int32)
set_option maxHeartbeats 4000000 in
set_option maxRecDepth 100000 in
theorem c_X0_countEndless (l : Launch) (E : Ev) (hF : Full E) (σ : St) (i : Nat) (hi : i < 9) : Ctr l enI (fun _ => σ) E md_X0_countEndless [rV E (40 + 5 * i)] σ (f_X0_countEndless σ i) := by
  refine ctr_of rfl (Nat.le_of_ble_eq_true rfl) (fun Γ => ?_)
  show Sim _ Γ _ E md_X0_countEndless σ 0 [(0, rV E (40 + 5 * i))] [] _
  unfold f_X0_countEndless
  refine s_iconst (v := 0) dX0_countEndless_0 (by decide) ?_
  refine s_istore_n [(1, .int (0 : Int32)), (0, rV E (40 + 5 * i))] dX0_countEndless_1 rfl (by decide) rfl ?_
  refine s_iconst (v := 0) dX0_countEndless_2 (by decide) ?_
  refine s_istore_n [(2, .int (0 : Int32)), (1, .int (0 : Int32)), (0, rV E (40 + 5 * i))] dX0_countEndless_3 rfl (by decide) rfl ?_
  refine s_sub (lv' := [(0, rV E (40 + 5 * i)), (1, .int (0 : Int32)), (2, .int (0 : Int32))]) [2, 1, 0] rfl ?_
  refine s_lo2 (σf := fun x1 x2 => σ) (lvf := fun x1 x2 => [(0, rV E (40 + 5 * i)), (1, .int x1), (2, .int x2)]) (fun rec3 ih4 x1 x2 => ?_)
  refine s_iload_n dX0_countEndless_4 2 rfl rfl ?_
  refine s_aload_n dX0_countEndless_5 0 rfl rfl ?_
  refine s_getr (b := (42 + 5 * i)) gf_X0_33 rfl (mC hF hi) (kC hi) (ft_of (kC hi) rfl) (hF.2 _ _) (rC4 hi) dX0_countEndless_6 ?_
  refine s_alen (n := nI (szS (i / 3))) (mC2 hF hi) (kC2 hi) (by decide) (by decide) (by rw [(lC2 hi)]; rfl) dX0_countEndless_9 ?_
  refine s_icmp_ge 52 dX0_countEndless_10 (by decide) ?_ ?_
  · skip
    refine s_aload_n dX0_countEndless_13 0 rfl rfl ?_
    refine s_getr (b := (32 + 2 * (i / 3))) gf_X0_15 rfl (mC hF hi) (kC hi) (ft_of (kC hi) rfl) (hF.2 _ _) (rC1 hi) dX0_countEndless_14 ?_
    refine s_iload_n dX0_countEndless_17 2 rfl rfl ?_
    refine s_callVpI (As := [.int x2]) mf_X6_isSetting vf_X6_isSetting ml_X0_78 (c_X6_isSetting _ E hF σ (i / 3) (div3 hi) x2) (mS hF (div3 hi)) (kS (div3 hi)) (by decide) rfl rfl rfl rfl (Nat.le_of_ble_eq_true rfl) rfl dX0_countEndless_18 (fun r5 => ?_)
    refine s_if_eq 46 dX0_countEndless_21 (by decide) ?_ ?_
    · skip
      refine s_iinc [(2, .int (x2 + 1)), (0, rV E (40 + 5 * i)), (1, .int x1)] dX0_countEndless_46 2 rfl rfl (by decide) rfl ?_
      refine s_goto 4 dX0_countEndless_49 (by decide) ?_
      refine s_sub [1, 2, 0] rfl ?_
      exact ih4 x1 (x2 + 1)
    · skip
      refine s_iload_n dX0_countEndless_24 1 rfl rfl ?_
      refine s_aload_n dX0_countEndless_25 0 rfl rfl ?_
      refine s_getr (b := 1) gf_X0_9 rfl (mC hF hi) (kC hi) (ft_of (kC hi) rfl) (hF.2 _ _) (rC0 hi) dX0_countEndless_26 ?_
      refine s_callVpI (As := []) mf_X3_all vf_X3_all ml_X0_72 (c_X3_all _ E hF σ) (m1 hF) k1 (by decide) rfl rfl rfl rfl (Nat.le_of_ble_eq_true rfl) rfl dX0_countEndless_29 (fun r6 => ?_)
      refine s_aload_n dX0_countEndless_32 0 rfl rfl ?_
      refine s_getr (b := (42 + 5 * i)) gf_X0_33 rfl (mC hF hi) (kC hi) (ft_of (kC hi) rfl) (hF.2 _ _) (rC4 hi) dX0_countEndless_33 ?_
      refine s_iload_n dX0_countEndless_36 2 rfl rfl ?_
      refine s_iald (mC2 hF hi) (kC2 hi) (lC2 hi) dX0_countEndless_37 ?_
      refine s_iconst (v := -1) dX0_countEndless_38 (by decide) ?_
      refine s_ixor dX0_countEndless_39 ?_
      refine s_iand dX0_countEndless_40 ?_
      refine s_callSpI (As := [.int (r6 &&& ((σ.1 (42 + 5 * i) x2.toNatClampNeg) ^^^ (-1 : Int32)))]) mf_J6_bitCount_0f7a4 vf_J6_bitCount_0f7a4 ml_X0_81 (c_J6_bitCount_0f7a4 _ E hF σ (r6 &&& ((σ.1 (42 + 5 * i) x2.toNatClampNeg) ^^^ (-1 : Int32)))) rfl rfl (Nat.le_of_ble_eq_true rfl) rfl dX0_countEndless_41 (fun r7 => ?_)
      refine s_iadd dX0_countEndless_44 ?_
      refine s_istore_nB (fun x8 => [(1, .int x8), (0, rV E (40 + 5 * i)), (2, .int x2)]) dX0_countEndless_45 rfl (by decide) (fun _ => rfl) (fun x8 => ?_)
      refine s_iinc [(2, .int (x2 + 1)), (1, .int x8), (0, rV E (40 + 5 * i))] dX0_countEndless_46 2 rfl rfl (by decide) rfl ?_
      refine s_goto 4 dX0_countEndless_49 (by decide) ?_
      refine s_sub [2, 1, 0] rfl ?_
      exact ih4 x8 (x2 + 1)
  · skip
    refine s_iload_n dX0_countEndless_52 1 rfl rfl ?_
    exact s_ireturn rfl rfl rfl dX0_countEndless_53
theorem dX0_flights_0 : decode cX0_flights 0 = .ok (.iconst 1, 1) := by decide +kernel
theorem dX0_flights_1 : decode cX0_flights 1 = .ok (.iload_n 2, 1) := by decide +kernel
theorem dX0_flights_2 : decode cX0_flights 2 = .ok (.ishl, 1) := by decide +kernel
theorem dX0_flights_3 : decode cX0_flights 3 = .ok (.istore_n 3, 1) := by decide +kernel
theorem dX0_flights_4 : decode cX0_flights 4 = .ok (.iconst 0, 1) := by decide +kernel
theorem dX0_flights_5 : decode cX0_flights 5 = .ok (.istore 4, 2) := by decide +kernel
theorem dX0_flights_7 : decode cX0_flights 7 = .ok (.iload 4, 2) := by decide +kernel
theorem dX0_flights_9 : decode cX0_flights 9 = .ok (.aload_n 0, 1) := by decide +kernel
theorem dX0_flights_10 : decode cX0_flights 10 = .ok (.getfield 19, 3) := by decide +kernel
theorem dX0_flights_13 : decode cX0_flights 13 = .ok (.if_icmp .ge 29, 3) := by decide +kernel
theorem dX0_flights_16 : decode cX0_flights 16 = .ok (.aload_n 0, 1) := by decide +kernel
theorem dX0_flights_17 : decode cX0_flights 17 = .ok (.getfield 9, 3) := by decide +kernel
theorem dX0_flights_20 : decode cX0_flights 20 = .ok (.iload_n 3, 1) := by decide +kernel
theorem dX0_flights_21 : decode cX0_flights 21 = .ok (.invokevirtual 106, 3) := by decide +kernel
theorem dX0_flights_24 : decode cX0_flights 24 = .ok (.aload_n 0, 1) := by decide +kernel
theorem dX0_flights_25 : decode cX0_flights 25 = .ok (.getfield 15, 3) := by decide +kernel
theorem dX0_flights_28 : decode cX0_flights 28 = .ok (.iload_n 1, 1) := by decide +kernel
theorem dX0_flights_29 : decode cX0_flights 29 = .ok (.invokevirtual 109, 3) := by decide +kernel
theorem dX0_flights_32 : decode cX0_flights 32 = .ok (.iconst (-1), 1) := by decide +kernel
theorem dX0_flights_33 : decode cX0_flights 33 = .ok (.ixor, 1) := by decide +kernel
theorem dX0_flights_34 : decode cX0_flights 34 = .ok (.iand, 1) := by decide +kernel
theorem dX0_flights_35 : decode cX0_flights 35 = .ok (.istore_n 3, 1) := by decide +kernel
theorem dX0_flights_36 : decode cX0_flights 36 = .ok (.iinc 4 1, 3) := by decide +kernel
theorem dX0_flights_39 : decode cX0_flights 39 = .ok (.goto (-32), 3) := by decide +kernel
theorem dX0_flights_42 : decode cX0_flights 42 = .ok (.iload_n 3, 1) := by decide +kernel
theorem dX0_flights_43 : decode cX0_flights 43 = .ok (.ireturn, 1) := by decide +kernel
def f_X0_flights (σ : St) (i : Nat) (v1 : Int32) (v2 : Int32) : Option Int32 :=
  bd ((1 : Int32) <<< (v2 &&& 31)) fun x1 =>
    lo2 FU (fun rec4 (x2 : Int32) (x3 : Int32) =>
      (if x3 < (σ.1 (40 + 5 * i) 2) then
        calP (f_X3_aheadOf σ x2) fun r6 =>
          calP (f_X6_placesOf σ (i / 3) v1) fun r7 =>
            bd (r6 &&& (r7 ^^^ (-1 : Int32))) fun x8 =>
              rec4 x8 (x3 + 1)
         else
        some x2)) x1 (0 : Int32)
set_option maxHeartbeats 4000000 in
set_option maxRecDepth 100000 in
theorem c_X0_flights (l : Launch) (E : Ev) (hF : Full E) (σ : St) (i : Nat) (hi : i < 9) (v1 : Int32) (v2 : Int32) : Ctr l enI (fun _ => σ) E md_X0_flights [rV E (40 + 5 * i), .int v1, .int v2] σ (f_X0_flights σ i v1 v2) := by
  refine ctr_of rfl (Nat.le_of_ble_eq_true rfl) (fun Γ => ?_)
  show Sim _ Γ _ E md_X0_flights σ 0 [(0, rV E (40 + 5 * i)), (1, .int v1), (2, .int v2)] [] _
  unfold f_X0_flights
  refine s_iconst (v := 1) dX0_flights_0 (by decide) ?_
  refine s_iload_n dX0_flights_1 2 rfl rfl ?_
  refine s_ishl dX0_flights_2 ?_
  refine s_istore_nB (fun x1 => [(3, .int x1), (0, rV E (40 + 5 * i)), (1, .int v1), (2, .int v2)]) dX0_flights_3 rfl (by decide) (fun _ => rfl) (fun x1 => ?_)
  refine s_iconst (v := 0) dX0_flights_4 (by decide) ?_
  refine s_istore [(4, .int (0 : Int32)), (3, .int x1), (0, rV E (40 + 5 * i)), (1, .int v1), (2, .int v2)] dX0_flights_5 (by decide) rfl ?_
  refine s_sub (lv' := [(0, rV E (40 + 5 * i)), (1, .int v1), (3, .int x1), (4, .int (0 : Int32))]) [2, 3, 1, 0] rfl ?_
  refine s_lo2 (σf := fun x2 x3 => σ) (lvf := fun x2 x3 => [(0, rV E (40 + 5 * i)), (1, .int v1), (3, .int x2), (4, .int x3)]) (fun rec4 ih5 x2 x3 => ?_)
  refine s_iload dX0_flights_7 3 rfl ?_
  refine s_aload_n dX0_flights_9 0 rfl rfl ?_
  refine s_geti gf_X0_19 rfl (mC hF hi) (kC hi) (ft_of (kC hi) rfl) dX0_flights_10 ?_
  refine s_icmp_ge 42 dX0_flights_13 (by decide) ?_ ?_
  · skip
    refine s_aload_n dX0_flights_16 0 rfl rfl ?_
    refine s_getr (b := 1) gf_X0_9 rfl (mC hF hi) (kC hi) (ft_of (kC hi) rfl) (hF.2 _ _) (rC0 hi) dX0_flights_17 ?_
    refine s_iload_n dX0_flights_20 2 rfl rfl ?_
    refine s_callVpI (As := [.int x2]) mf_X3_aheadOf vf_X3_aheadOf ml_X0_106 (c_X3_aheadOf _ E hF σ x2) (m1 hF) k1 (by decide) rfl rfl rfl rfl (Nat.le_of_ble_eq_true rfl) rfl dX0_flights_21 (fun r6 => ?_)
    refine s_aload_n dX0_flights_24 0 rfl rfl ?_
    refine s_getr (b := (32 + 2 * (i / 3))) gf_X0_15 rfl (mC hF hi) (kC hi) (ft_of (kC hi) rfl) (hF.2 _ _) (rC1 hi) dX0_flights_25 ?_
    refine s_iload_n dX0_flights_28 1 rfl rfl ?_
    refine s_callVpI (As := [.int v1]) mf_X6_placesOf vf_X6_placesOf ml_X0_109 (c_X6_placesOf _ E hF σ (i / 3) (div3 hi) v1) (mS hF (div3 hi)) (kS (div3 hi)) (by decide) rfl rfl rfl rfl (Nat.le_of_ble_eq_true rfl) rfl dX0_flights_29 (fun r7 => ?_)
    refine s_iconst (v := -1) dX0_flights_32 (by decide) ?_
    refine s_ixor dX0_flights_33 ?_
    refine s_iand dX0_flights_34 ?_
    refine s_istore_nB (fun x8 => [(3, .int x8), (0, rV E (40 + 5 * i)), (1, .int v1), (4, .int x3)]) dX0_flights_35 rfl (by decide) (fun _ => rfl) (fun x8 => ?_)
    refine s_iinc [(4, .int (x3 + 1)), (3, .int x8), (0, rV E (40 + 5 * i)), (1, .int v1)] dX0_flights_36 3 rfl rfl (by decide) rfl ?_
    refine s_goto 7 dX0_flights_39 (by decide) ?_
    refine s_sub [2, 3, 1, 0] rfl ?_
    exact ih5 x8 (x3 + 1)
  · skip
    refine s_iload_n dX0_flights_42 2 rfl rfl ?_
    exact s_ireturn rfl rfl rfl dX0_flights_43
theorem dX0_bestMove_0 : decode cX0_bestMove 0 = .ok (.aload_n 0, 1) := by decide +kernel
theorem dX0_bestMove_1 : decode cX0_bestMove 1 = .ok (.getfield 15, 3) := by decide +kernel
theorem dX0_bestMove_4 : decode cX0_bestMove 4 = .ok (.iload_n 1, 1) := by decide +kernel
theorem dX0_bestMove_5 : decode cX0_bestMove 5 = .ok (.invokevirtual 87, 3) := by decide +kernel
theorem dX0_bestMove_8 : decode cX0_bestMove 8 = .ok (.istore_n 3, 1) := by decide +kernel
theorem dX0_bestMove_9 : decode cX0_bestMove 9 = .ok (.ldc 71, 2) := by decide +kernel
theorem dX0_bestMove_11 : decode cX0_bestMove 11 = .ok (.istore 4, 2) := by decide +kernel
theorem dX0_bestMove_13 : decode cX0_bestMove 13 = .ok (.iconst 0, 1) := by decide +kernel
theorem dX0_bestMove_14 : decode cX0_bestMove 14 = .ok (.istore 5, 2) := by decide +kernel
theorem dX0_bestMove_16 : decode cX0_bestMove 16 = .ok (.iload 5, 2) := by decide +kernel
theorem dX0_bestMove_18 : decode cX0_bestMove 18 = .ok (.aload_n 0, 1) := by decide +kernel
theorem dX0_bestMove_19 : decode cX0_bestMove 19 = .ok (.getfield 15, 3) := by decide +kernel
theorem dX0_bestMove_22 : decode cX0_bestMove 22 = .ok (.invokevirtual 23, 3) := by decide +kernel
theorem dX0_bestMove_25 : decode cX0_bestMove 25 = .ok (.if_icmp .ge 102, 3) := by decide +kernel
theorem dX0_bestMove_28 : decode cX0_bestMove 28 = .ok (.aload_n 0, 1) := by decide +kernel
theorem dX0_bestMove_29 : decode cX0_bestMove 29 = .ok (.getfield 15, 3) := by decide +kernel
theorem dX0_bestMove_32 : decode cX0_bestMove 32 = .ok (.iload_n 1, 1) := by decide +kernel
theorem dX0_bestMove_33 : decode cX0_bestMove 33 = .ok (.iload 5, 2) := by decide +kernel
theorem dX0_bestMove_35 : decode cX0_bestMove 35 = .ok (.invokevirtual 90, 3) := by decide +kernel
theorem dX0_bestMove_38 : decode cX0_bestMove 38 = .ok (.ifCond .ne 6, 3) := by decide +kernel
theorem dX0_bestMove_41 : decode cX0_bestMove 41 = .ok (.goto 80, 3) := by decide +kernel
theorem dX0_bestMove_44 : decode cX0_bestMove 44 = .ok (.aload_n 0, 1) := by decide +kernel
theorem dX0_bestMove_45 : decode cX0_bestMove 45 = .ok (.getfield 15, 3) := by decide +kernel
theorem dX0_bestMove_48 : decode cX0_bestMove 48 = .ok (.iload 5, 2) := by decide +kernel
theorem dX0_bestMove_50 : decode cX0_bestMove 50 = .ok (.iload_n 2, 1) := by decide +kernel
theorem dX0_bestMove_51 : decode cX0_bestMove 51 = .ok (.invokevirtual 94, 3) := by decide +kernel
theorem dX0_bestMove_54 : decode cX0_bestMove 54 = .ok (.ifCond .eq 7, 3) := by decide +kernel
theorem dX0_bestMove_57 : decode cX0_bestMove 57 = .ok (.iconst 0, 1) := by decide +kernel
theorem dX0_bestMove_58 : decode cX0_bestMove 58 = .ok (.goto 16, 3) := by decide +kernel
theorem dX0_bestMove_61 : decode cX0_bestMove 61 = .ok (.aload_n 0, 1) := by decide +kernel
theorem dX0_bestMove_62 : decode cX0_bestMove 62 = .ok (.iload 5, 2) := by decide +kernel
theorem dX0_bestMove_64 : decode cX0_bestMove 64 = .ok (.aload_n 0, 1) := by decide +kernel
theorem dX0_bestMove_65 : decode cX0_bestMove 65 = .ok (.iload 5, 2) := by decide +kernel
theorem dX0_bestMove_67 : decode cX0_bestMove 67 = .ok (.iload_n 2, 1) := by decide +kernel
theorem dX0_bestMove_68 : decode cX0_bestMove 68 = .ok (.invokevirtual 97, 3) := by decide +kernel
theorem dX0_bestMove_71 : decode cX0_bestMove 71 = .ok (.invokevirtual 75, 3) := by decide +kernel
theorem dX0_bestMove_74 : decode cX0_bestMove 74 = .ok (.istore 6, 2) := by decide +kernel
theorem dX0_bestMove_76 : decode cX0_bestMove 76 = .ok (.aload_n 0, 1) := by decide +kernel
theorem dX0_bestMove_77 : decode cX0_bestMove 77 = .ok (.getfield 15, 3) := by decide +kernel
theorem dX0_bestMove_80 : decode cX0_bestMove 80 = .ok (.iload 5, 2) := by decide +kernel
theorem dX0_bestMove_82 : decode cX0_bestMove 82 = .ok (.invokevirtual 87, 3) := by decide +kernel
theorem dX0_bestMove_85 : decode cX0_bestMove 85 = .ok (.istore 7, 2) := by decide +kernel
theorem dX0_bestMove_87 : decode cX0_bestMove 87 = .ok (.iload 6, 2) := by decide +kernel
theorem dX0_bestMove_89 : decode cX0_bestMove 89 = .ok (.iload 4, 2) := by decide +kernel
theorem dX0_bestMove_91 : decode cX0_bestMove 91 = .ok (.if_icmp .lt 23, 3) := by decide +kernel
theorem dX0_bestMove_94 : decode cX0_bestMove 94 = .ok (.iload 6, 2) := by decide +kernel
theorem dX0_bestMove_96 : decode cX0_bestMove 96 = .ok (.iload 4, 2) := by decide +kernel
theorem dX0_bestMove_98 : decode cX0_bestMove 98 = .ok (.if_icmp .ne 23, 3) := by decide +kernel
theorem dX0_bestMove_101 : decode cX0_bestMove 101 = .ok (.iload 6, 2) := by decide +kernel
theorem dX0_bestMove_103 : decode cX0_bestMove 103 = .ok (.ldc 71, 2) := by decide +kernel
theorem dX0_bestMove_105 : decode cX0_bestMove 105 = .ok (.if_icmp .ge 16, 3) := by decide +kernel
theorem dX0_bestMove_108 : decode cX0_bestMove 108 = .ok (.iload 7, 2) := by decide +kernel
theorem dX0_bestMove_110 : decode cX0_bestMove 110 = .ok (.iload_n 3, 1) := by decide +kernel
theorem dX0_bestMove_111 : decode cX0_bestMove 111 = .ok (.if_icmp .ge 10, 3) := by decide +kernel
theorem dX0_bestMove_114 : decode cX0_bestMove 114 = .ok (.iload 7, 2) := by decide +kernel
theorem dX0_bestMove_116 : decode cX0_bestMove 116 = .ok (.istore_n 3, 1) := by decide +kernel
theorem dX0_bestMove_117 : decode cX0_bestMove 117 = .ok (.iload 6, 2) := by decide +kernel
theorem dX0_bestMove_119 : decode cX0_bestMove 119 = .ok (.istore 4, 2) := by decide +kernel
theorem dX0_bestMove_121 : decode cX0_bestMove 121 = .ok (.iinc 5 1, 3) := by decide +kernel
theorem dX0_bestMove_124 : decode cX0_bestMove 124 = .ok (.goto (-108), 3) := by decide +kernel
theorem dX0_bestMove_127 : decode cX0_bestMove 127 = .ok (.iload_n 3, 1) := by decide +kernel
theorem dX0_bestMove_128 : decode cX0_bestMove 128 = .ok (.ireturn, 1) := by decide +kernel
def f_X0_bestMove (σ : St) (i : Nat) (v1 : Int32) (v2 : Int32) : Option Int32 :=
  calP (f_X6_rising σ (i / 3) v1) fun r1 =>
    lo3 FU (fun rec5 (x2 : Int32) (x3 : Int32) (x4 : Int32) =>
      calP (f_X6_size σ (i / 3)) fun r7 =>
        (if x4 < r7 then
          calP (f_X6_canStep σ (i / 3) v1 x4) fun r8 =>
            (if r8 = 0 then
              rec5 x2 x3 (x4 + 1)
               else
              calP (f_X6_holds σ (i / 3) x4 v2) fun r9 =>
                jn1 (fun jk11 =>
                  (if r9 = 0 then
                    calP (f_X0_flights σ i x4 v2) fun r13 =>
                      calP (f_X0_mostAmong σ i x4 r13) fun r14 =>
                        jk11 r14
                     else
                    jk11 (0 : Int32)))
                  (fun (x10 : Int32) => 
                  calP (f_X6_rising σ (i / 3) x4) fun r12 =>
                      (if x10 < x3 then
                        rec5 r12 x10 (x4 + 1)
                         else
                        (if x10 = x3 then
                          (if x10 < (1048576 : Int32) then
                            (if r12 < x2 then
                              rec5 r12 x10 (x4 + 1)
                               else
                              rec5 x2 x3 (x4 + 1))
                             else
                            rec5 x2 x3 (x4 + 1))
                           else
                          rec5 x2 x3 (x4 + 1)))))
           else
          some x2)) r1 (1048576 : Int32) (0 : Int32)
set_option maxHeartbeats 4000000 in
set_option maxRecDepth 100000 in
theorem c_X0_bestMove (l : Launch) (E : Ev) (hF : Full E) (σ : St) (i : Nat) (hi : i < 9) (v1 : Int32) (v2 : Int32) : Ctr l enI (fun _ => σ) E md_X0_bestMove [rV E (40 + 5 * i), .int v1, .int v2] σ (f_X0_bestMove σ i v1 v2) := by
  refine ctr_of rfl (Nat.le_of_ble_eq_true rfl) (fun Γ => ?_)
  show Sim _ Γ _ E md_X0_bestMove σ 0 [(0, rV E (40 + 5 * i)), (1, .int v1), (2, .int v2)] [] _
  unfold f_X0_bestMove
  refine s_aload_n dX0_bestMove_0 0 rfl rfl ?_
  refine s_getr (b := (32 + 2 * (i / 3))) gf_X0_15 rfl (mC hF hi) (kC hi) (ft_of (kC hi) rfl) (hF.2 _ _) (rC1 hi) dX0_bestMove_1 ?_
  refine s_iload_n dX0_bestMove_4 1 rfl rfl ?_
  refine s_callVpI (As := [.int v1]) mf_X6_rising vf_X6_rising ml_X0_87 (c_X6_rising _ E hF σ (i / 3) (div3 hi) v1) (mS hF (div3 hi)) (kS (div3 hi)) (by decide) rfl rfl rfl rfl (Nat.le_of_ble_eq_true rfl) rfl dX0_bestMove_5 (fun r1 => ?_)
  refine s_istore_n [(3, .int r1), (0, rV E (40 + 5 * i)), (1, .int v1), (2, .int v2)] dX0_bestMove_8 rfl (by decide) rfl ?_
  refine s_ldc (v := 1048576) rfl w_602 dX0_bestMove_9 ?_
  refine s_istore [(4, .int (1048576 : Int32)), (3, .int r1), (0, rV E (40 + 5 * i)), (1, .int v1), (2, .int v2)] dX0_bestMove_11 (by decide) rfl ?_
  refine s_iconst (v := 0) dX0_bestMove_13 (by decide) ?_
  refine s_istore [(5, .int (0 : Int32)), (4, .int (1048576 : Int32)), (3, .int r1), (0, rV E (40 + 5 * i)), (1, .int v1), (2, .int v2)] dX0_bestMove_14 (by decide) rfl ?_
  refine s_sub (lv' := [(0, rV E (40 + 5 * i)), (1, .int v1), (2, .int v2), (3, .int r1), (4, .int (1048576 : Int32)), (5, .int (0 : Int32))]) [3, 4, 5, 2, 1, 0] rfl ?_
  refine s_lo3 (σf := fun x2 x3 x4 => σ) (lvf := fun x2 x3 x4 => [(0, rV E (40 + 5 * i)), (1, .int v1), (2, .int v2), (3, .int x2), (4, .int x3), (5, .int x4)]) (fun rec5 ih6 x2 x3 x4 => ?_)
  refine s_iload dX0_bestMove_16 5 rfl ?_
  refine s_aload_n dX0_bestMove_18 0 rfl rfl ?_
  refine s_getr (b := (32 + 2 * (i / 3))) gf_X0_15 rfl (mC hF hi) (kC hi) (ft_of (kC hi) rfl) (hF.2 _ _) (rC1 hi) dX0_bestMove_19 ?_
  refine s_callVpI (As := []) mf_X6_size vf_X6_size ml_X0_23 (c_X6_size _ E hF σ (i / 3) (div3 hi)) (mS hF (div3 hi)) (kS (div3 hi)) (by decide) rfl rfl rfl rfl (Nat.le_of_ble_eq_true rfl) rfl dX0_bestMove_22 (fun r7 => ?_)
  refine s_icmp_ge 127 dX0_bestMove_25 (by decide) ?_ ?_
  · skip
    refine s_aload_n dX0_bestMove_28 0 rfl rfl ?_
    refine s_getr (b := (32 + 2 * (i / 3))) gf_X0_15 rfl (mC hF hi) (kC hi) (ft_of (kC hi) rfl) (hF.2 _ _) (rC1 hi) dX0_bestMove_29 ?_
    refine s_iload_n dX0_bestMove_32 1 rfl rfl ?_
    refine s_iload dX0_bestMove_33 5 rfl ?_
    refine s_callVpI (As := [.int v1, .int x4]) mf_X6_canStep vf_X6_canStep ml_X0_90 (c_X6_canStep _ E hF σ (i / 3) (div3 hi) v1 x4) (mS hF (div3 hi)) (kS (div3 hi)) (by decide) rfl rfl rfl rfl (Nat.le_of_ble_eq_true rfl) rfl dX0_bestMove_35 (fun r8 => ?_)
    refine s_if_ne 44 dX0_bestMove_38 (by decide) ?_ ?_
    · skip
      refine s_goto 121 dX0_bestMove_41 (by decide) ?_
      refine s_iinc [(5, .int (x4 + 1)), (0, rV E (40 + 5 * i)), (1, .int v1), (2, .int v2), (3, .int x2), (4, .int x3)] dX0_bestMove_121 5 rfl rfl (by decide) rfl ?_
      refine s_goto 16 dX0_bestMove_124 (by decide) ?_
      refine s_sub [1, 2, 3, 4, 5, 0] rfl ?_
      exact ih6 x2 x3 (x4 + 1)
    · skip
      refine s_aload_n dX0_bestMove_44 0 rfl rfl ?_
      refine s_getr (b := (32 + 2 * (i / 3))) gf_X0_15 rfl (mC hF hi) (kC hi) (ft_of (kC hi) rfl) (hF.2 _ _) (rC1 hi) dX0_bestMove_45 ?_
      refine s_iload dX0_bestMove_48 5 rfl ?_
      refine s_iload_n dX0_bestMove_50 2 rfl rfl ?_
      refine s_callVpI (As := [.int x4, .int v2]) mf_X6_holds vf_X6_holds ml_X0_94 (c_X6_holds _ E hF σ (i / 3) (div3 hi) x4 v2) (mS hF (div3 hi)) (kS (div3 hi)) (by decide) rfl rfl rfl rfl (Nat.le_of_ble_eq_true rfl) rfl dX0_bestMove_51 (fun r9 => ?_)
      refine s_jn1 74 (fun x10 => σ) (fun x10 => [(0, rV E (40 + 5 * i)), (1, .int v1), (2, .int v2), (3, .int x2), (4, .int x3), (5, .int x4)]) (fun x10 => [.int x10]) ?_ ?_
      · intro x10
        refine s_istore [(6, .int x10), (0, rV E (40 + 5 * i)), (1, .int v1), (2, .int v2), (3, .int x2), (4, .int x3), (5, .int x4)] dX0_bestMove_74 (by decide) rfl ?_
        refine s_aload_n dX0_bestMove_76 1 rfl rfl ?_
        refine s_getr (b := (32 + 2 * (i / 3))) gf_X0_15 rfl (mC hF hi) (kC hi) (ft_of (kC hi) rfl) (hF.2 _ _) (rC1 hi) dX0_bestMove_77 ?_
        refine s_iload dX0_bestMove_80 6 rfl ?_
        refine s_callVpI (As := [.int x4]) mf_X6_rising vf_X6_rising ml_X0_87 (c_X6_rising _ E hF σ (i / 3) (div3 hi) x4) (mS hF (div3 hi)) (kS (div3 hi)) (by decide) rfl rfl rfl rfl (Nat.le_of_ble_eq_true rfl) rfl dX0_bestMove_82 (fun r12 => ?_)
        refine s_istore [(7, .int r12), (6, .int x10), (0, rV E (40 + 5 * i)), (1, .int v1), (2, .int v2), (3, .int x2), (4, .int x3), (5, .int x4)] dX0_bestMove_85 (by decide) rfl ?_
        refine s_iload dX0_bestMove_87 1 rfl ?_
        refine s_iload dX0_bestMove_89 6 rfl ?_
        refine s_icmp_lt 114 dX0_bestMove_91 (by decide) ?_ ?_
        · skip
          refine s_iload dX0_bestMove_114 0 rfl ?_
          refine s_istore_n [(3, .int r12), (7, .int r12), (6, .int x10), (0, rV E (40 + 5 * i)), (1, .int v1), (2, .int v2), (4, .int x3), (5, .int x4)] dX0_bestMove_116 rfl (by decide) rfl ?_
          refine s_iload dX0_bestMove_117 2 rfl ?_
          refine s_istore [(4, .int x10), (3, .int r12), (7, .int r12), (6, .int x10), (0, rV E (40 + 5 * i)), (1, .int v1), (2, .int v2), (5, .int x4)] dX0_bestMove_119 (by decide) rfl ?_
          refine s_iinc [(5, .int (x4 + 1)), (4, .int x10), (3, .int r12), (7, .int r12), (6, .int x10), (0, rV E (40 + 5 * i)), (1, .int v1), (2, .int v2)] dX0_bestMove_121 7 rfl rfl (by decide) rfl ?_
          refine s_goto 16 dX0_bestMove_124 (by decide) ?_
          refine s_sub [5, 6, 7, 2, 1, 0] rfl ?_
          exact ih6 r12 x10 (x4 + 1)
        · skip
          refine s_iload dX0_bestMove_94 1 rfl ?_
          refine s_iload dX0_bestMove_96 6 rfl ?_
          refine s_icmp_ne 121 dX0_bestMove_98 (by decide) ?_ ?_
          · skip
            refine s_iload dX0_bestMove_101 1 rfl ?_
            refine s_ldc (v := 1048576) rfl w_602 dX0_bestMove_103 ?_
            refine s_icmp_ge 121 dX0_bestMove_105 (by decide) ?_ ?_
            · skip
              refine s_iload dX0_bestMove_108 0 rfl ?_
              refine s_iload_n dX0_bestMove_110 5 rfl rfl ?_
              refine s_icmp_ge 121 dX0_bestMove_111 (by decide) ?_ ?_
              · skip
                refine s_iload dX0_bestMove_114 0 rfl ?_
                refine s_istore_n [(3, .int r12), (7, .int r12), (6, .int x10), (0, rV E (40 + 5 * i)), (1, .int v1), (2, .int v2), (4, .int x3), (5, .int x4)] dX0_bestMove_116 rfl (by decide) rfl ?_
                refine s_iload dX0_bestMove_117 2 rfl ?_
                refine s_istore [(4, .int x10), (3, .int r12), (7, .int r12), (6, .int x10), (0, rV E (40 + 5 * i)), (1, .int v1), (2, .int v2), (5, .int x4)] dX0_bestMove_119 (by decide) rfl ?_
                refine s_iinc [(5, .int (x4 + 1)), (4, .int x10), (3, .int r12), (7, .int r12), (6, .int x10), (0, rV E (40 + 5 * i)), (1, .int v1), (2, .int v2)] dX0_bestMove_121 7 rfl rfl (by decide) rfl ?_
                refine s_goto 16 dX0_bestMove_124 (by decide) ?_
                refine s_sub [5, 6, 7, 2, 1, 0] rfl ?_
                exact ih6 r12 x10 (x4 + 1)
              · skip
                refine s_iinc [(5, .int (x4 + 1)), (7, .int r12), (6, .int x10), (0, rV E (40 + 5 * i)), (1, .int v1), (2, .int v2), (3, .int x2), (4, .int x3)] dX0_bestMove_121 7 rfl rfl (by decide) rfl ?_
                refine s_goto 16 dX0_bestMove_124 (by decide) ?_
                refine s_sub [3, 4, 5, 6, 7, 0] rfl ?_
                exact ih6 x2 x3 (x4 + 1)
            · skip
              refine s_iinc [(5, .int (x4 + 1)), (7, .int r12), (6, .int x10), (0, rV E (40 + 5 * i)), (1, .int v1), (2, .int v2), (3, .int x2), (4, .int x3)] dX0_bestMove_121 7 rfl rfl (by decide) rfl ?_
              refine s_goto 16 dX0_bestMove_124 (by decide) ?_
              refine s_sub [3, 4, 5, 6, 7, 0] rfl ?_
              exact ih6 x2 x3 (x4 + 1)
          · skip
            refine s_iinc [(5, .int (x4 + 1)), (7, .int r12), (6, .int x10), (0, rV E (40 + 5 * i)), (1, .int v1), (2, .int v2), (3, .int x2), (4, .int x3)] dX0_bestMove_121 7 rfl rfl (by decide) rfl ?_
            refine s_goto 16 dX0_bestMove_124 (by decide) ?_
            refine s_sub [3, 4, 5, 6, 7, 0] rfl ?_
            exact ih6 x2 x3 (x4 + 1)
      · intro jk11 hjk11
        refine s_if_eq 61 dX0_bestMove_54 (by decide) ?_ ?_
        · skip
          refine s_aload_n dX0_bestMove_61 0 rfl rfl ?_
          refine s_iload dX0_bestMove_62 5 rfl ?_
          refine s_aload_n dX0_bestMove_64 0 rfl rfl ?_
          refine s_iload dX0_bestMove_65 5 rfl ?_
          refine s_iload_n dX0_bestMove_67 2 rfl rfl ?_
          refine s_callVpI (As := [.int x4, .int v2]) mf_X0_flights vf_X0_flights ml_X0_97 (c_X0_flights _ E hF σ i hi x4 v2) (mC hF hi) (kC hi) (by decide) rfl rfl rfl rfl (Nat.le_of_ble_eq_true rfl) rfl dX0_bestMove_68 (fun r13 => ?_)
          refine s_callVpI (As := [.int x4, .int r13]) mf_X0_mostAmong vf_X0_mostAmong ml_X0_75 (c_X0_mostAmong _ E hF σ i hi x4 r13) (mC hF hi) (kC hi) (by decide) rfl rfl rfl rfl (Nat.le_of_ble_eq_true rfl) rfl dX0_bestMove_71 (fun r14 => ?_)
          exact hjk11 r14
        · skip
          refine s_iconst (v := 0) dX0_bestMove_57 (by decide) ?_
          refine s_goto 74 dX0_bestMove_58 (by decide) ?_
          exact hjk11 (0 : Int32)
  · skip
    refine s_iload_n dX0_bestMove_127 3 rfl rfl ?_
    exact s_ireturn rfl rfl rfl dX0_bestMove_128
theorem dX0_bestFlight_0 : decode cX0_bestFlight 0 = .ok (.aload_n 0, 1) := by decide +kernel
theorem dX0_bestFlight_1 : decode cX0_bestFlight 1 = .ok (.iload_n 1, 1) := by decide +kernel
theorem dX0_bestFlight_2 : decode cX0_bestFlight 2 = .ok (.iload_n 2, 1) := by decide +kernel
theorem dX0_bestFlight_3 : decode cX0_bestFlight 3 = .ok (.invokevirtual 97, 3) := by decide +kernel
theorem dX0_bestFlight_6 : decode cX0_bestFlight 6 = .ok (.istore_n 3, 1) := by decide +kernel
theorem dX0_bestFlight_7 : decode cX0_bestFlight 7 = .ok (.iload_n 2, 1) := by decide +kernel
theorem dX0_bestFlight_8 : decode cX0_bestFlight 8 = .ok (.istore 4, 2) := by decide +kernel
theorem dX0_bestFlight_10 : decode cX0_bestFlight 10 = .ok (.iconst (-1), 1) := by decide +kernel
theorem dX0_bestFlight_11 : decode cX0_bestFlight 11 = .ok (.istore 5, 2) := by decide +kernel
theorem dX0_bestFlight_13 : decode cX0_bestFlight 13 = .ok (.iconst 0, 1) := by decide +kernel
theorem dX0_bestFlight_14 : decode cX0_bestFlight 14 = .ok (.istore 6, 2) := by decide +kernel
theorem dX0_bestFlight_16 : decode cX0_bestFlight 16 = .ok (.iload 6, 2) := by decide +kernel
theorem dX0_bestFlight_18 : decode cX0_bestFlight 18 = .ok (.aload_n 0, 1) := by decide +kernel
theorem dX0_bestFlight_19 : decode cX0_bestFlight 19 = .ok (.getfield 9, 3) := by decide +kernel
theorem dX0_bestFlight_22 : decode cX0_bestFlight 22 = .ok (.invokevirtual 100, 3) := by decide +kernel
theorem dX0_bestFlight_25 : decode cX0_bestFlight 25 = .ok (.if_icmp .ge 46, 3) := by decide +kernel
theorem dX0_bestFlight_28 : decode cX0_bestFlight 28 = .ok (.iload_n 3, 1) := by decide +kernel
theorem dX0_bestFlight_29 : decode cX0_bestFlight 29 = .ok (.iload 6, 2) := by decide +kernel
theorem dX0_bestFlight_31 : decode cX0_bestFlight 31 = .ok (.invokestatic 103, 3) := by decide +kernel
theorem dX0_bestFlight_34 : decode cX0_bestFlight 34 = .ok (.ifCond .eq 13, 3) := by decide +kernel
theorem dX0_bestFlight_37 : decode cX0_bestFlight 37 = .ok (.aload_n 0, 1) := by decide +kernel
theorem dX0_bestFlight_38 : decode cX0_bestFlight 38 = .ok (.iload_n 1, 1) := by decide +kernel
theorem dX0_bestFlight_39 : decode cX0_bestFlight 39 = .ok (.iload 6, 2) := by decide +kernel
theorem dX0_bestFlight_41 : decode cX0_bestFlight 41 = .ok (.invokevirtual 67, 3) := by decide +kernel
theorem dX0_bestFlight_44 : decode cX0_bestFlight 44 = .ok (.goto 4, 3) := by decide +kernel
theorem dX0_bestFlight_47 : decode cX0_bestFlight 47 = .ok (.iconst (-1), 1) := by decide +kernel
theorem dX0_bestFlight_48 : decode cX0_bestFlight 48 = .ok (.istore 7, 2) := by decide +kernel
theorem dX0_bestFlight_50 : decode cX0_bestFlight 50 = .ok (.iload 7, 2) := by decide +kernel
theorem dX0_bestFlight_52 : decode cX0_bestFlight 52 = .ok (.iload 5, 2) := by decide +kernel
theorem dX0_bestFlight_54 : decode cX0_bestFlight 54 = .ok (.if_icmp .le 11, 3) := by decide +kernel
theorem dX0_bestFlight_57 : decode cX0_bestFlight 57 = .ok (.iload 6, 2) := by decide +kernel
theorem dX0_bestFlight_59 : decode cX0_bestFlight 59 = .ok (.istore 4, 2) := by decide +kernel
theorem dX0_bestFlight_61 : decode cX0_bestFlight 61 = .ok (.iload 7, 2) := by decide +kernel
theorem dX0_bestFlight_63 : decode cX0_bestFlight 63 = .ok (.istore 5, 2) := by decide +kernel
theorem dX0_bestFlight_65 : decode cX0_bestFlight 65 = .ok (.iinc 6 1, 3) := by decide +kernel
theorem dX0_bestFlight_68 : decode cX0_bestFlight 68 = .ok (.goto (-52), 3) := by decide +kernel
theorem dX0_bestFlight_71 : decode cX0_bestFlight 71 = .ok (.iload 4, 2) := by decide +kernel
theorem dX0_bestFlight_73 : decode cX0_bestFlight 73 = .ok (.ireturn, 1) := by decide +kernel
def f_X0_bestFlight (σ : St) (i : Nat) (v1 : Int32) (v2 : Int32) : Option Int32 :=
  calP (f_X0_flights σ i v1 v2) fun r1 =>
    lo3 FU (fun rec5 (x2 : Int32) (x3 : Int32) (x4 : Int32) =>
      calP (f_X3_places σ) fun r7 =>
        (if x4 < r7 then
          calP (f_X9_has σ r1 x4) fun r8 =>
            jn1 (fun jk10 =>
              (if r8 = 0 then
                jk10 (-1 : Int32)
                 else
                calP (f_X0_leftAt σ i v1 x4) fun r11 =>
                  jk10 r11))
              (fun (x9 : Int32) => 
              (if x3 < x9 then
                  rec5 x4 x9 (x4 + 1)
                   else
                  rec5 x2 x3 (x4 + 1)))
           else
          some x2)) v2 (-1 : Int32) (0 : Int32)
set_option maxHeartbeats 4000000 in
set_option maxRecDepth 100000 in
theorem c_X0_bestFlight (l : Launch) (E : Ev) (hF : Full E) (σ : St) (i : Nat) (hi : i < 9) (v1 : Int32) (v2 : Int32) : Ctr l enI (fun _ => σ) E md_X0_bestFlight [rV E (40 + 5 * i), .int v1, .int v2] σ (f_X0_bestFlight σ i v1 v2) := by
  refine ctr_of rfl (Nat.le_of_ble_eq_true rfl) (fun Γ => ?_)
  show Sim _ Γ _ E md_X0_bestFlight σ 0 [(0, rV E (40 + 5 * i)), (1, .int v1), (2, .int v2)] [] _
  unfold f_X0_bestFlight
  refine s_aload_n dX0_bestFlight_0 0 rfl rfl ?_
  refine s_iload_n dX0_bestFlight_1 1 rfl rfl ?_
  refine s_iload_n dX0_bestFlight_2 2 rfl rfl ?_
  refine s_callVpI (As := [.int v1, .int v2]) mf_X0_flights vf_X0_flights ml_X0_97 (c_X0_flights _ E hF σ i hi v1 v2) (mC hF hi) (kC hi) (by decide) rfl rfl rfl rfl (Nat.le_of_ble_eq_true rfl) rfl dX0_bestFlight_3 (fun r1 => ?_)
  refine s_istore_n [(3, .int r1), (0, rV E (40 + 5 * i)), (1, .int v1), (2, .int v2)] dX0_bestFlight_6 rfl (by decide) rfl ?_
  refine s_iload_n dX0_bestFlight_7 3 rfl rfl ?_
  refine s_istore [(4, .int v2), (3, .int r1), (0, rV E (40 + 5 * i)), (1, .int v1), (2, .int v2)] dX0_bestFlight_8 (by decide) rfl ?_
  refine s_iconst (v := -1) dX0_bestFlight_10 (by decide) ?_
  refine s_istore [(5, .int (-1 : Int32)), (4, .int v2), (3, .int r1), (0, rV E (40 + 5 * i)), (1, .int v1), (2, .int v2)] dX0_bestFlight_11 (by decide) rfl ?_
  refine s_iconst (v := 0) dX0_bestFlight_13 (by decide) ?_
  refine s_istore [(6, .int (0 : Int32)), (5, .int (-1 : Int32)), (4, .int v2), (3, .int r1), (0, rV E (40 + 5 * i)), (1, .int v1), (2, .int v2)] dX0_bestFlight_14 (by decide) rfl ?_
  refine s_sub (lv' := [(0, rV E (40 + 5 * i)), (1, .int v1), (3, .int r1), (4, .int v2), (5, .int (-1 : Int32)), (6, .int (0 : Int32))]) [4, 5, 3, 2, 1, 0] rfl ?_
  refine s_lo3 (σf := fun x2 x3 x4 => σ) (lvf := fun x2 x3 x4 => [(0, rV E (40 + 5 * i)), (1, .int v1), (3, .int r1), (4, .int x2), (5, .int x3), (6, .int x4)]) (fun rec5 ih6 x2 x3 x4 => ?_)
  refine s_iload dX0_bestFlight_16 5 rfl ?_
  refine s_aload_n dX0_bestFlight_18 0 rfl rfl ?_
  refine s_getr (b := 1) gf_X0_9 rfl (mC hF hi) (kC hi) (ft_of (kC hi) rfl) (hF.2 _ _) (rC0 hi) dX0_bestFlight_19 ?_
  refine s_callVpI (As := []) mf_X3_places vf_X3_places ml_X0_100 (c_X3_places _ E hF σ) (m1 hF) k1 (by decide) rfl rfl rfl rfl (Nat.le_of_ble_eq_true rfl) rfl dX0_bestFlight_22 (fun r7 => ?_)
  refine s_icmp_ge 71 dX0_bestFlight_25 (by decide) ?_ ?_
  · skip
    refine s_iload_n dX0_bestFlight_28 2 rfl rfl ?_
    refine s_iload dX0_bestFlight_29 5 rfl ?_
    refine s_callNpI (As := [.int r1, .int x4]) (host := "RunnerNet") mf_X9_has vf_X9_has (nl_of 3 rfl) (c_X9_has _ E hF σ r1 x4) rfl rfl (Nat.le_of_ble_eq_true rfl) rfl dX0_bestFlight_31 (fun r8 => ?_)
    refine s_jn1 48 (fun x9 => σ) (fun x9 => [(0, rV E (40 + 5 * i)), (1, .int v1), (3, .int r1), (4, .int x2), (5, .int x3), (6, .int x4)]) (fun x9 => [.int x9]) ?_ ?_
    · intro x9
      refine s_istore [(7, .int x9), (0, rV E (40 + 5 * i)), (1, .int v1), (3, .int r1), (4, .int x2), (5, .int x3), (6, .int x4)] dX0_bestFlight_48 (by decide) rfl ?_
      refine s_iload dX0_bestFlight_50 0 rfl ?_
      refine s_iload dX0_bestFlight_52 5 rfl ?_
      refine s_icmp_le 65 dX0_bestFlight_54 (by decide) ?_ ?_
      · skip
        refine s_iload dX0_bestFlight_57 6 rfl ?_
        refine s_istore [(4, .int x4), (7, .int x9), (0, rV E (40 + 5 * i)), (1, .int v1), (3, .int r1), (5, .int x3), (6, .int x4)] dX0_bestFlight_59 (by decide) rfl ?_
        refine s_iload dX0_bestFlight_61 1 rfl ?_
        refine s_istore [(5, .int x9), (4, .int x4), (7, .int x9), (0, rV E (40 + 5 * i)), (1, .int v1), (3, .int r1), (6, .int x4)] dX0_bestFlight_63 (by decide) rfl ?_
        refine s_iinc [(6, .int (x4 + 1)), (5, .int x9), (4, .int x4), (7, .int x9), (0, rV E (40 + 5 * i)), (1, .int v1), (3, .int r1)] dX0_bestFlight_65 6 rfl rfl (by decide) rfl ?_
        refine s_goto 16 dX0_bestFlight_68 (by decide) ?_
        refine s_sub [4, 5, 6, 2, 1, 0] rfl ?_
        exact ih6 x4 x9 (x4 + 1)
      · skip
        refine s_iinc [(6, .int (x4 + 1)), (7, .int x9), (0, rV E (40 + 5 * i)), (1, .int v1), (3, .int r1), (4, .int x2), (5, .int x3)] dX0_bestFlight_65 6 rfl rfl (by decide) rfl ?_
        refine s_goto 16 dX0_bestFlight_68 (by decide) ?_
        refine s_sub [2, 3, 4, 5, 6, 0] rfl ?_
        exact ih6 x2 x3 (x4 + 1)
    · intro jk10 hjk10
      refine s_if_eq 47 dX0_bestFlight_34 (by decide) ?_ ?_
      · skip
        refine s_iconst (v := -1) dX0_bestFlight_47 (by decide) ?_
        exact hjk10 (-1 : Int32)
      · skip
        refine s_aload_n dX0_bestFlight_37 0 rfl rfl ?_
        refine s_iload_n dX0_bestFlight_38 1 rfl rfl ?_
        refine s_iload dX0_bestFlight_39 5 rfl ?_
        refine s_callVpI (As := [.int v1, .int x4]) mf_X0_leftAt vf_X0_leftAt ml_X0_67 (c_X0_leftAt _ E hF σ i hi v1 x4) (mC hF hi) (kC hi) (by decide) rfl rfl rfl rfl (Nat.le_of_ble_eq_true rfl) rfl dX0_bestFlight_41 (fun r11 => ?_)
        refine s_goto 48 dX0_bestFlight_44 (by decide) ?_
        exact hjk10 r11
  · skip
    refine s_iload dX0_bestFlight_71 3 rfl ?_
    exact s_ireturn rfl rfl rfl dX0_bestFlight_73
