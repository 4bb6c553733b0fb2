set_option maxHeartbeats 4000000 in
set_option maxRecDepth 100000 in
theorem c0_X3_reset (l : Launch) (E : Ev) (hF : NetF E) (σ : St) (v1 : Int32) : Ctr l (en2 enV) (fun q => q.2) E md_X3_reset [rV E 1, .int v1] σ (f_X3_reset σ v1) := by
  refine ctr_of rfl (Nat.le_of_ble_eq_true rfl) (fun Γ => ?_)
  show Sim _ Γ _ E md_X3_reset σ 0 [(0, rV E 1), (1, .int v1)] [] _
  unfold f_X3_reset
  refine s_aload_n dX3_reset_0 0 rfl rfl ?_
  refine s_iload_n dX3_reset_1 1 rfl rfl ?_
  refine s_puti gf_X3_31 rfl hF.1 k1 (ft_of k1 rfl) dX3_reset_2 (fun s1 => ?_)
  refine s_iconst (v := 0) dX3_reset_5 (by decide) ?_
  refine s_istore_n [(2, .int (0 : Int32)), (0, rV E 1), (1, .int v1)] dX3_reset_6 rfl (by decide) rfl ?_
  refine s_sub (lv' := [(0, rV E 1), (1, .int v1), (2, .int (0 : Int32))]) [1, 2, 0] rfl ?_
  refine s_lo2 (σf := fun s2 x3 => s2) (lvf := fun s2 x3 => [(0, rV E 1), (1, .int v1), (2, .int x3)]) (fun rec4 ih5 s2 x3 => ?_)
  refine s_iload_n dX3_reset_7 2 rfl rfl ?_
  refine s_bipush (v := 8) dX3_reset_8 (by decide) ?_
  refine s_icmp_ge 49 dX3_reset_10 (by decide) ?_ ?_
  · skip
    refine s_aload_n dX3_reset_13 0 rfl rfl ?_
    refine s_getr (b := 2) gf_X3_9 rfl hF.1 k1 (ft_of k1 rfl) hF.2.2.2.2.2.1 rfl dX3_reset_14 ?_
    refine s_iload_n dX3_reset_17 2 rfl rfl ?_
    refine s_iload_n dX3_reset_18 2 rfl rfl ?_
    refine s_iload_n dX3_reset_19 1 rfl rfl ?_
    refine s_bd 30 (fun x6 => [(0, rV E 1), (1, .int v1), (2, .int x3)]) (fun x6 => [.int x6, .int x3, rV E 2]) (fun jk7 => (if x3 < v1 then jk7 ((1 : Int32) <<< (x3 &&& 31)) else jk7 (0 : Int32))) (fun jk7 => (j_ite rfl rfl)) ?_ ?_
    · intro x6
      refine s_iast hF.2.1 k2 l2 dX3_reset_30 (fun s8 => ?_)
      refine s_aload_n dX3_reset_31 0 rfl rfl ?_
      refine s_getr (b := 3) gf_X3_15 rfl hF.1 k1 (ft_of k1 rfl) hF.2.2.2.2.2.2.1 rfl dX3_reset_32 ?_
      refine s_iload_n dX3_reset_35 2 rfl rfl ?_
      refine s_aload_n dX3_reset_36 0 rfl rfl ?_
      refine s_getr (b := 2) gf_X3_9 rfl hF.1 k1 (ft_of k1 rfl) hF.2.2.2.2.2.1 rfl dX3_reset_37 ?_
      refine s_iload_n dX3_reset_40 2 rfl rfl ?_
      refine s_iald hF.2.1 k2 l2 dX3_reset_41 ?_
      refine s_iast hF.2.2.1 k3 l3 dX3_reset_42 (fun s9 => ?_)
      refine s_iinc [(2, .int (x3 + 1)), (0, rV E 1), (1, .int v1)] dX3_reset_43 2 rfl rfl (by decide) rfl ?_
      refine s_goto 7 dX3_reset_46 (by decide) ?_
      refine s_sub [1, 2, 0] rfl ?_
      exact ih5 s9 (x3 + 1)
    · intro jk7 hjk7
      refine s_icmp_ge 29 dX3_reset_20 (by decide) ?_ ?_
      · skip
        refine s_iconst (v := 1) dX3_reset_23 (by decide) ?_
        refine s_iload_n dX3_reset_24 2 rfl rfl ?_
        refine s_ishl dX3_reset_25 ?_
        refine s_goto 30 dX3_reset_26 (by decide) ?_
        exact hjk7 ((1 : Int32) <<< (x3 &&& 31))
      · skip
        refine s_iconst (v := 0) dX3_reset_29 (by decide) ?_
        exact hjk7 (0 : Int32)
  · skip
    exact s_return rfl rfl rfl dX3_reset_49
set_option maxHeartbeats 4000000 in
set_option maxRecDepth 100000 in
theorem c0_X3_settle (l : Launch) (E : Ev) (hF : NetF E) (σ : St) : Ctr l (en2 enV) (fun q => q.2) E md_X3_settle [rV E 1] σ (f_X3_settle σ) := by
  refine ctr_of rfl (Nat.le_of_ble_eq_true rfl) (fun Γ => ?_)
  show Sim _ Γ _ E md_X3_settle σ 0 [(0, rV E 1)] [] _
  unfold f_X3_settle
  refine s_aload_n dX3_settle_0 0 rfl rfl ?_
  refine s_dup dX3_settle_1 rfl ?_
  refine s_geti gf_X3_35 rfl hF.1 k1 (ft_of k1 rfl) dX3_settle_2 ?_
  refine s_iconst (v := 1) dX3_settle_5 (by decide) ?_
  refine s_iadd dX3_settle_6 ?_
  refine s_puti gf_X3_35 rfl hF.1 k1 (ft_of k1 rfl) dX3_settle_7 (fun s1 => ?_)
  refine s_iconst (v := 0) dX3_settle_10 (by decide) ?_
  refine s_istore_n [(1, .int (0 : Int32)), (0, rV E 1)] dX3_settle_11 rfl (by decide) rfl ?_
  refine s_sub (lv' := [(0, rV E 1), (1, .int (0 : Int32))]) [1, 0] rfl ?_
  refine s_lo2 (σf := fun s2 x3 => s2) (lvf := fun s2 x3 => [(0, rV E 1), (1, .int x3)]) (fun rec4 ih5 s2 x3 => ?_)
  refine s_iload_n dX3_settle_12 1 rfl rfl ?_
  refine s_bipush (v := 8) dX3_settle_13 (by decide) ?_
  refine s_icmp_ge 92 dX3_settle_15 (by decide) ?_ ?_
  · skip
    refine s_iconst (v := 1) dX3_settle_18 (by decide) ?_
    refine s_iload_n dX3_settle_19 1 rfl rfl ?_
    refine s_ishl dX3_settle_20 ?_
    refine s_istore_nB (fun x6 => [(2, .int x6), (0, rV E 1), (1, .int x3)]) dX3_settle_21 rfl (by decide) (fun _ => rfl) (fun x6 => ?_)
    refine s_iload_n dX3_settle_22 0 rfl rfl ?_
    refine s_istore_n [(3, .int x6), (2, .int x6), (0, rV E 1), (1, .int x3)] dX3_settle_23 rfl (by decide) rfl ?_
    refine s_sub (lv' := [(0, rV E 1), (1, .int x3), (2, .int x6), (3, .int x6)]) [2, 3, 1, 0] rfl ?_
    refine s_lo2 (σf := fun s7 x8 => s7) (lvf := fun s7 x8 => [(0, rV E 1), (1, .int x3), (2, .int x6), (3, .int x8)]) (fun rec9 ih10 s7 x8 => ?_)
    refine s_iload_n dX3_settle_24 3 rfl rfl ?_
    refine s_iconst (v := 2) dX3_settle_25 (by decide) ?_
    refine s_iload_n dX3_settle_26 2 rfl rfl ?_
    refine s_imul dX3_settle_27 ?_
    refine s_icmp_ge 86 dX3_settle_28 (by decide) ?_ ?_
    · skip
      refine s_iload_n dX3_settle_31 3 rfl rfl ?_
      refine s_sipush (v := 256) dX3_settle_32 (by decide) ?_
      refine s_icmp_ge 86 dX3_settle_35 (by decide) ?_ ?_
      · skip
        refine s_aload_n dX3_settle_38 0 rfl rfl ?_
        refine s_getr (b := 4) gf_X3_18 rfl hF.1 k1 (ft_of k1 rfl) hF.2.2.2.2.2.2.2.1 rfl dX3_settle_39 ?_
        refine s_iload_n dX3_settle_42 3 rfl rfl ?_
        refine s_aload_n dX3_settle_43 0 rfl rfl ?_
        refine s_getr (b := 4) gf_X3_18 rfl hF.1 k1 (ft_of k1 rfl) hF.2.2.2.2.2.2.2.1 rfl dX3_settle_44 ?_
        refine s_iload_n dX3_settle_47 3 rfl rfl ?_
        refine s_iload_n dX3_settle_48 2 rfl rfl ?_
        refine s_isub dX3_settle_49 ?_
        refine s_iald hF.2.2.2.1 k4 l4 dX3_settle_50 ?_
        refine s_aload_n dX3_settle_51 0 rfl rfl ?_
        refine s_getr (b := 2) gf_X3_9 rfl hF.1 k1 (ft_of k1 rfl) hF.2.2.2.2.2.1 rfl dX3_settle_52 ?_
        refine s_iload_n dX3_settle_55 1 rfl rfl ?_
        refine s_iald hF.2.1 k2 l2 dX3_settle_56 ?_
        refine s_ior dX3_settle_57 ?_
        refine s_iast hF.2.2.2.1 k4 l4 dX3_settle_58 (fun s11 => ?_)
        refine s_aload_n dX3_settle_59 0 rfl rfl ?_
        refine s_getr (b := 5) gf_X3_21 rfl hF.1 k1 (ft_of k1 rfl) hF.2.2.2.2.2.2.2.2 rfl dX3_settle_60 ?_
        refine s_iload_n dX3_settle_63 3 rfl rfl ?_
        refine s_aload_n dX3_settle_64 0 rfl rfl ?_
        refine s_getr (b := 5) gf_X3_21 rfl hF.1 k1 (ft_of k1 rfl) hF.2.2.2.2.2.2.2.2 rfl dX3_settle_65 ?_
        refine s_iload_n dX3_settle_68 3 rfl rfl ?_
        refine s_iload_n dX3_settle_69 2 rfl rfl ?_
        refine s_isub dX3_settle_70 ?_
        refine s_iald hF.2.2.2.2.1 k5 l5 dX3_settle_71 ?_
        refine s_aload_n dX3_settle_72 0 rfl rfl ?_
        refine s_getr (b := 3) gf_X3_15 rfl hF.1 k1 (ft_of k1 rfl) hF.2.2.2.2.2.2.1 rfl dX3_settle_73 ?_
        refine s_iload_n dX3_settle_76 1 rfl rfl ?_
        refine s_iald hF.2.2.1 k3 l3 dX3_settle_77 ?_
        refine s_ior dX3_settle_78 ?_
        refine s_iast hF.2.2.2.2.1 k5 l5 dX3_settle_79 (fun s12 => ?_)
        refine s_iinc [(3, .int (x8 + 1)), (0, rV E 1), (1, .int x3), (2, .int x6)] dX3_settle_80 3 rfl rfl (by decide) rfl ?_
        refine s_goto 24 dX3_settle_83 (by decide) ?_
        refine s_sub [1, 2, 3, 0] rfl ?_
        exact ih10 s12 (x8 + 1)
      · skip
        refine s_iinc [(1, .int (x3 + 1)), (0, rV E 1), (2, .int x6), (3, .int x8)] dX3_settle_86 1 rfl rfl (by decide) rfl ?_
        refine s_goto 12 dX3_settle_89 (by decide) ?_
        refine s_sub [1, 0] rfl ?_
        exact ih5 s7 (x3 + 1)
    · skip
      refine s_iinc [(1, .int (x3 + 1)), (0, rV E 1), (2, .int x6), (3, .int x8)] dX3_settle_86 1 rfl rfl (by decide) rfl ?_
      refine s_goto 12 dX3_settle_89 (by decide) ?_
      refine s_sub [1, 0] rfl ?_
      exact ih5 s7 (x3 + 1)
  · skip
    exact s_return rfl rfl rfl dX3_settle_92
set_option maxHeartbeats 4000000 in
set_option maxRecDepth 100000 in
theorem c0_X6_figure (l : Launch) (E : Ev) (k : Nat) (hk : k < 3) (hF : 32 + 2 * k ∈ E.2.2.2.1) (σ : St) (v1 : Int32) (v2 : Int32) : Ctr l enI (fun _ => σ) E md_X6_figure [rV E (32 + 2 * k), .int v1, .int v2] σ (f_X6_figure σ k v1 v2) := by
  refine ctr_of rfl (Nat.le_of_ble_eq_true rfl) (fun Γ => ?_)
  show Sim _ Γ _ E md_X6_figure σ 0 [(0, rV E (32 + 2 * k)), (1, .int v1), (2, .int v2)] [] _
  unfold f_X6_figure
  refine s_iload_n dX6_figure_0 1 rfl rfl ?_
  refine s_iconst (v := 3) dX6_figure_1 (by decide) ?_
  refine s_aload_n dX6_figure_2 0 rfl rfl ?_
  refine s_geti gf_X6_15 rfl hF (kS hk) (ft_of (kS hk) rfl) dX6_figure_3 ?_
  refine s_iconst (v := 1) dX6_figure_6 (by decide) ?_
  refine s_isub dX6_figure_7 ?_
  refine s_iload_n dX6_figure_8 2 rfl rfl ?_
  refine s_isub dX6_figure_9 ?_
  refine s_imul dX6_figure_10 ?_
  refine s_ishr dX6_figure_11 ?_
  refine s_bipush (v := 7) dX6_figure_12 (by decide) ?_
  refine s_iand dX6_figure_14 ?_
  exact s_ireturn rfl rfl rfl dX6_figure_15
set_option maxHeartbeats 4000000 in
set_option maxRecDepth 100000 in
theorem c0_X6_size (l : Launch) (E : Ev) (k : Nat) (hk : k < 3) (hF : 32 + 2 * k ∈ E.2.2.2.1) (σ : St) : Ctr l enI (fun _ => σ) E md_X6_size [rV E (32 + 2 * k)] σ (f_X6_size σ k) := by
  refine ctr_of rfl (Nat.le_of_ble_eq_true rfl) (fun Γ => ?_)
  show Sim _ Γ _ E md_X6_size σ 0 [(0, rV E (32 + 2 * k))] [] _
  unfold f_X6_size
  refine s_aload_n dX6_size_0 0 rfl rfl ?_
  refine s_geti gf_X6_19 rfl hF (kS hk) (ft_of (kS hk) rfl) dX6_size_1 ?_
  exact s_ireturn rfl rfl rfl dX6_size_4
theorem dX3_init_0 : decode cX3_init 0 = .ok (.aload_n 0, 1) := by decide +kernel
theorem dX3_init_1 : decode cX3_init 1 = .ok (.invokespecial 3, 3) := by decide +kernel
theorem dX3_init_4 : decode cX3_init 4 = .ok (.aload_n 0, 1) := by decide +kernel
theorem dX3_init_5 : decode cX3_init 5 = .ok (.bipush 8, 2) := by decide +kernel
theorem dX3_init_7 : decode cX3_init 7 = .ok (.newarray .int, 2) := by decide +kernel
theorem dX3_init_9 : decode cX3_init 9 = .ok (.putfield 9, 3) := by decide +kernel
theorem dX3_init_12 : decode cX3_init 12 = .ok (.aload_n 0, 1) := by decide +kernel
theorem dX3_init_13 : decode cX3_init 13 = .ok (.bipush 8, 2) := by decide +kernel
theorem dX3_init_15 : decode cX3_init 15 = .ok (.newarray .int, 2) := by decide +kernel
theorem dX3_init_17 : decode cX3_init 17 = .ok (.putfield 15, 3) := by decide +kernel
theorem dX3_init_20 : decode cX3_init 20 = .ok (.aload_n 0, 1) := by decide +kernel
theorem dX3_init_21 : decode cX3_init 21 = .ok (.sipush 256, 3) := by decide +kernel
theorem dX3_init_24 : decode cX3_init 24 = .ok (.newarray .int, 2) := by decide +kernel
theorem dX3_init_26 : decode cX3_init 26 = .ok (.putfield 18, 3) := by decide +kernel
theorem dX3_init_29 : decode cX3_init 29 = .ok (.aload_n 0, 1) := by decide +kernel
theorem dX3_init_30 : decode cX3_init 30 = .ok (.sipush 256, 3) := by decide +kernel
theorem dX3_init_33 : decode cX3_init 33 = .ok (.newarray .int, 2) := by decide +kernel
theorem dX3_init_35 : decode cX3_init 35 = .ok (.putfield 21, 3) := by decide +kernel
theorem dX3_init_38 : decode cX3_init 38 = .ok (.aload_n 0, 1) := by decide +kernel
theorem dX3_init_39 : decode cX3_init 39 = .ok (.iload_n 1, 1) := by decide +kernel
theorem dX3_init_40 : decode cX3_init 40 = .ok (.invokevirtual 24, 3) := by decide +kernel
theorem dX3_init_43 : decode cX3_init 43 = .ok (.aload_n 0, 1) := by decide +kernel
theorem dX3_init_44 : decode cX3_init 44 = .ok (.invokevirtual 28, 3) := by decide +kernel
theorem dX3_init_47 : decode cX3_init 47 = .ok (.return_, 1) := by decide +kernel
def f_X3_init (σ : St) (v1 : Int32) : Option St :=
  bd (zr σ 2) fun s1 =>
    bd (zr s1 3) fun s2 =>
      bd (zr s2 4) fun s3 =>
        bd (zr s3 5) fun s4 =>
          cal (f_X3_reset s4 v1) fun _ s5 =>
            cal (f_X3_settle s5) fun _ s6 =>
              some s6
set_option maxHeartbeats 4000000 in
set_option maxRecDepth 100000 in
theorem c_X3_init (l : Launch) (E : Ev) (hm1 : 1 ∈ E.2.2.2.1) (hf2 : 2 ∉ E.2.2.2.1) (hf3 : 3 ∉ E.2.2.2.1) (hf4 : 4 ∉ E.2.2.2.1) (hf5 : 5 ∉ E.2.2.2.1) (σ : St) (v1 : Int32) : CtrC l E md_X3_init [rV E 1, .int v1] σ (f_X3_init σ v1) [2, 3, 4, 5] [(1, 2), (1, 3), (1, 4), (1, 5)] := by
  refine ctrC_of rfl rfl (Nat.le_of_ble_eq_true rfl) (fun Γ sz hin hE hR hq => ?_)
  show Sim _ Γ (AX E sz, 0, 0) E md_X3_init σ 0 [(0, rV E 1), (1, .int v1)] [] _
  unfold f_X3_init
  have hX0 : Ext E E [] [] := Ext.rf hE hR
  refine s_aload_n dX3_init_0 0 rfl rfl ?_
  refine s_objInit rfl w_121 oiI oiC rfl dX3_init_1 ?_
  refine s_aload_n dX3_init_4 0 rfl rfl ?_
  refine s_bipush (v := 8) dX3_init_5 (by decide) ?_
  refine k_newa (a := 2) (atype := .int) (fun F => [(0, rV F 1), (1, .int v1)]) (fun F => [rV F 1]) rfl rfl hq (xoN hX0) (xfN hX0 hf2 (by decide)) (by decide) rfl (Or.inl ⟨rfl, rfl⟩) rfl w_149 (by decide) (by decide) (by decide) 1 8 (by decide) (show 0 + ln 2 = 8 from by decide) (Nat.le_of_ble_eq_true rfl) (Nat.le_of_ble_eq_true rfl) dX3_init_7 (fun _ e => ⟨by simp only [rV, xaN e 1 (by decide)], by simp only [rV, xaN e 1 (by decide)]⟩) (fun E1 s1 e1 => ?_)
  have hX1 : Ext E E1 [2] [] := hX0.trans e1
  refine k_putr (b := 2) (fun F => [(0, rV F 1), (1, .int v1)]) (fun F => []) rfl rfl gc_X3_9 hin rfl (xoN hX1) (xmO hX1 hm1) rfl (xmN hX1 (by simp)) rfl (ft_of rfl rfl) rfl rfl dX3_init_9 (fun _ e => ⟨by simp only [rV, xaN e 1 (by simp)], rfl⟩) (fun E2 e2 => ?_)
  have hX2 : Ext E E2 [2] [(1, 2)] := hX1.trans e2
  refine s_aload_n dX3_init_12 0 rfl rfl ?_
  refine s_bipush (v := 8) dX3_init_13 (by decide) ?_
  refine k_newa (a := 3) (atype := .int) (fun F => [(0, rV F 1), (1, .int v1)]) (fun F => [rV F 1]) rfl rfl hq (xoN hX2) (xfN hX2 hf3 (by decide)) (by decide) rfl (Or.inl ⟨rfl, rfl⟩) rfl w_149 (by decide) (by decide) (by decide) 2 16 (by decide) (show 8 + ln 3 = 16 from by decide) (Nat.le_of_ble_eq_true rfl) (Nat.le_of_ble_eq_true rfl) dX3_init_15 (fun _ e => ⟨by simp only [rV, xaN e 1 (by decide)], by simp only [rV, xaN e 1 (by decide)]⟩) (fun E3 s2 e3 => ?_)
  have hX3 : Ext E E3 [2, 3] [(1, 2)] := hX2.trans e3
  refine k_putr (b := 3) (fun F => [(0, rV F 1), (1, .int v1)]) (fun F => []) rfl rfl gc_X3_15 hin rfl (xoN hX3) (xmO hX3 hm1) rfl (xmN hX3 (by simp)) rfl (ft_of rfl rfl) rfl rfl dX3_init_17 (fun _ e => ⟨by simp only [rV, xaN e 1 (by simp)], rfl⟩) (fun E4 e4 => ?_)
  have hX4 : Ext E E4 [2, 3] [(1, 2), (1, 3)] := hX3.trans e4
  refine s_aload_n dX3_init_20 0 rfl rfl ?_
  refine s_sipush (v := 256) dX3_init_21 (by decide) ?_
  refine k_newa (a := 4) (atype := .int) (fun F => [(0, rV F 1), (1, .int v1)]) (fun F => [rV F 1]) rfl rfl hq (xoN hX4) (xfN hX4 hf4 (by decide)) (by decide) rfl (Or.inl ⟨rfl, rfl⟩) rfl w_149 (by decide) (by decide) (by decide) 3 272 (by decide) (show 16 + ln 4 = 272 from by decide) (Nat.le_of_ble_eq_true rfl) (Nat.le_of_ble_eq_true rfl) dX3_init_24 (fun _ e => ⟨by simp only [rV, xaN e 1 (by decide)], by simp only [rV, xaN e 1 (by decide)]⟩) (fun E5 s3 e5 => ?_)
  have hX5 : Ext E E5 [2, 3, 4] [(1, 2), (1, 3)] := hX4.trans e5
  refine k_putr (b := 4) (fun F => [(0, rV F 1), (1, .int v1)]) (fun F => []) rfl rfl gc_X3_18 hin rfl (xoN hX5) (xmO hX5 hm1) rfl (xmN hX5 (by simp)) rfl (ft_of rfl rfl) rfl rfl dX3_init_26 (fun _ e => ⟨by simp only [rV, xaN e 1 (by simp)], rfl⟩) (fun E6 e6 => ?_)
  have hX6 : Ext E E6 [2, 3, 4] [(1, 2), (1, 3), (1, 4)] := hX5.trans e6
  refine s_aload_n dX3_init_29 0 rfl rfl ?_
  refine s_sipush (v := 256) dX3_init_30 (by decide) ?_
  refine k_newa (a := 5) (atype := .int) (fun F => [(0, rV F 1), (1, .int v1)]) (fun F => [rV F 1]) rfl rfl hq (xoN hX6) (xfN hX6 hf5 (by decide)) (by decide) rfl (Or.inl ⟨rfl, rfl⟩) rfl w_149 (by decide) (by decide) (by decide) 4 528 (by decide) (show 272 + ln 5 = 528 from by decide) (Nat.le_of_ble_eq_true rfl) (Nat.le_of_ble_eq_true rfl) dX3_init_33 (fun _ e => ⟨by simp only [rV, xaN e 1 (by decide)], by simp only [rV, xaN e 1 (by decide)]⟩) (fun E7 s4 e7 => ?_)
  have hX7 : Ext E E7 [2, 3, 4, 5] [(1, 2), (1, 3), (1, 4)] := hX6.trans e7
  refine k_putr (b := 5) (fun F => [(0, rV F 1), (1, .int v1)]) (fun F => []) rfl rfl gc_X3_21 hin rfl (xoN hX7) (xmO hX7 hm1) rfl (xmN hX7 (by simp)) rfl (ft_of rfl rfl) rfl rfl dX3_init_35 (fun _ e => ⟨by simp only [rV, xaN e 1 (by simp)], rfl⟩) (fun E8 e8 => ?_)
  have hX8 : Ext E E8 [2, 3, 4, 5] [(1, 2), (1, 3), (1, 4), (1, 5)] := hX7.trans e8
  refine s_aload_n dX3_init_38 0 rfl rfl ?_
  refine s_iload_n dX3_init_39 1 rfl rfl ?_
  refine s_callVwV (As := [.int v1]) mf_X3_reset vf_X3_reset ml_X3_24 (c0_X3_reset _ E8 ⟨(xmO hX8 hm1), (xmN hX8 (by simp)), (xmN hX8 (by simp)), (xmN hX8 (by simp)), (xmN hX8 (by simp)), xrN hX8 (by simp), xrN hX8 (by simp), xrN hX8 (by simp), xrN hX8 (by simp)⟩ s4 v1) (xmO hX8 hm1) (show kd 1 = 3 from rfl) (by decide) rfl rfl rfl rfl (Nat.le_of_ble_eq_true rfl) rfl dX3_init_40 (fun _ s5 => ?_)
  refine s_aload_n dX3_init_43 0 rfl rfl ?_
  refine s_callVwV (As := []) mf_X3_settle vf_X3_settle ml_X3_28 (c0_X3_settle _ E8 ⟨(xmO hX8 hm1), (xmN hX8 (by simp)), (xmN hX8 (by simp)), (xmN hX8 (by simp)), (xmN hX8 (by simp)), xrN hX8 (by simp), xrN hX8 (by simp), xrN hX8 (by simp), xrN hX8 (by simp)⟩ s5) (xmO hX8 hm1) (show kd 1 = 3 from rfl) (by decide) rfl rfl rfl rfl (Nat.le_of_ble_eq_true rfl) rfl dX3_init_44 (fun _ s6 => ?_)
  exact k_ret rfl rfl rfl rfl hX8 dX3_init_47
theorem dX7_init_0 : decode cX7_init 0 = .ok (.aload_n 0, 1) := by decide +kernel
theorem dX7_init_1 : decode cX7_init 1 = .ok (.invokespecial 3, 3) := by decide +kernel
theorem dX7_init_4 : decode cX7_init 4 = .ok (.aload_n 0, 1) := by decide +kernel
theorem dX7_init_5 : decode cX7_init 5 = .ok (.sipush 160, 3) := by decide +kernel
theorem dX7_init_8 : decode cX7_init 8 = .ok (.newarray .int, 2) := by decide +kernel
theorem dX7_init_10 : decode cX7_init 10 = .ok (.putfield 11, 3) := by decide +kernel
theorem dX7_init_13 : decode cX7_init 13 = .ok (.aload_n 0, 1) := by decide +kernel
theorem dX7_init_14 : decode cX7_init 14 = .ok (.bipush 16, 2) := by decide +kernel
theorem dX7_init_16 : decode cX7_init 16 = .ok (.newarray .int, 2) := by decide +kernel
theorem dX7_init_18 : decode cX7_init 18 = .ok (.putfield 15, 3) := by decide +kernel
theorem dX7_init_21 : decode cX7_init 21 = .ok (.aload_n 0, 1) := by decide +kernel
theorem dX7_init_22 : decode cX7_init 22 = .ok (.bipush 16, 2) := by decide +kernel
theorem dX7_init_24 : decode cX7_init 24 = .ok (.newarray .int, 2) := by decide +kernel
theorem dX7_init_26 : decode cX7_init 26 = .ok (.putfield 18, 3) := by decide +kernel
theorem dX7_init_29 : decode cX7_init 29 = .ok (.aload_n 0, 1) := by decide +kernel
theorem dX7_init_30 : decode cX7_init 30 = .ok (.bipush 16, 2) := by decide +kernel
theorem dX7_init_32 : decode cX7_init 32 = .ok (.newarray .int, 2) := by decide +kernel
theorem dX7_init_34 : decode cX7_init 34 = .ok (.putfield 21, 3) := by decide +kernel
theorem dX7_init_37 : decode cX7_init 37 = .ok (.return_, 1) := by decide +kernel
def f_X7_init (σ : St) : Option St :=
  bd (zr σ 7) fun s1 =>
    bd (zr s1 8) fun s2 =>
      bd (zr s2 9) fun s3 =>
        bd (zr s3 10) fun s4 =>
          some s4
set_option maxHeartbeats 4000000 in
set_option maxRecDepth 100000 in
theorem c_X7_init (l : Launch) (E : Ev) (hm6 : 6 ∈ E.2.2.2.1) (hf7 : 7 ∉ E.2.2.2.1) (hf8 : 8 ∉ E.2.2.2.1) (hf9 : 9 ∉ E.2.2.2.1) (hf10 : 10 ∉ E.2.2.2.1) (σ : St) : CtrC l E md_X7_init [rV E 6] σ (f_X7_init σ) [7, 8, 9, 10] [(6, 0), (6, 6), (6, 7), (6, 8)] := by
  refine ctrC_of rfl rfl (Nat.le_of_ble_eq_true rfl) (fun Γ sz hin hE hR hq => ?_)
  show Sim _ Γ (AX E sz, 0, 0) E md_X7_init σ 0 [(0, rV E 6)] [] _
  unfold f_X7_init
  have hX0 : Ext E E [] [] := Ext.rf hE hR
  refine s_aload_n dX7_init_0 0 rfl rfl ?_
  refine s_objInit rfl w_155 oiI oiC rfl dX7_init_1 ?_
  refine s_aload_n dX7_init_4 0 rfl rfl ?_
  refine s_sipush (v := 160) dX7_init_5 (by decide) ?_
  refine k_newa (a := 7) (atype := .int) (fun F => [(0, rV F 6)]) (fun F => [rV F 6]) rfl rfl hq (xoN hX0) (xfN hX0 hf7 (by decide)) (by decide) rfl (Or.inl ⟨rfl, rfl⟩) rfl w_149 (by decide) (by decide) (by decide) 1 160 (by decide) (show 0 + ln 7 = 160 from by decide) (Nat.le_of_ble_eq_true rfl) (Nat.le_of_ble_eq_true rfl) dX7_init_8 (fun _ e => ⟨by simp only [rV, xaN e 6 (by decide)], by simp only [rV, xaN e 6 (by decide)]⟩) (fun E1 s1 e1 => ?_)
  have hX1 : Ext E E1 [7] [] := hX0.trans e1
  refine k_putr (b := 7) (fun F => [(0, rV F 6)]) (fun F => []) rfl rfl gc_X7_11 hin rfl (xoN hX1) (xmO hX1 hm6) rfl (xmN hX1 (by simp)) rfl (ft_of rfl rfl) rfl rfl dX7_init_10 (fun _ e => ⟨by simp only [rV, xaN e 6 (by simp)], rfl⟩) (fun E2 e2 => ?_)
  have hX2 : Ext E E2 [7] [(6, 0)] := hX1.trans e2
  refine s_aload_n dX7_init_13 0 rfl rfl ?_
  refine s_bipush (v := 16) dX7_init_14 (by decide) ?_
  refine k_newa (a := 8) (atype := .int) (fun F => [(0, rV F 6)]) (fun F => [rV F 6]) rfl rfl hq (xoN hX2) (xfN hX2 hf8 (by decide)) (by decide) rfl (Or.inl ⟨rfl, rfl⟩) rfl w_149 (by decide) (by decide) (by decide) 2 176 (by decide) (show 160 + ln 8 = 176 from by decide) (Nat.le_of_ble_eq_true rfl) (Nat.le_of_ble_eq_true rfl) dX7_init_16 (fun _ e => ⟨by simp only [rV, xaN e 6 (by decide)], by simp only [rV, xaN e 6 (by decide)]⟩) (fun E3 s2 e3 => ?_)
  have hX3 : Ext E E3 [7, 8] [(6, 0)] := hX2.trans e3
  refine k_putr (b := 8) (fun F => [(0, rV F 6)]) (fun F => []) rfl rfl gc_X7_15 hin rfl (xoN hX3) (xmO hX3 hm6) rfl (xmN hX3 (by simp)) rfl (ft_of rfl rfl) rfl rfl dX7_init_18 (fun _ e => ⟨by simp only [rV, xaN e 6 (by simp)], rfl⟩) (fun E4 e4 => ?_)
  have hX4 : Ext E E4 [7, 8] [(6, 0), (6, 6)] := hX3.trans e4
  refine s_aload_n dX7_init_21 0 rfl rfl ?_
  refine s_bipush (v := 16) dX7_init_22 (by decide) ?_
  refine k_newa (a := 9) (atype := .int) (fun F => [(0, rV F 6)]) (fun F => [rV F 6]) rfl rfl hq (xoN hX4) (xfN hX4 hf9 (by decide)) (by decide) rfl (Or.inl ⟨rfl, rfl⟩) rfl w_149 (by decide) (by decide) (by decide) 3 192 (by decide) (show 176 + ln 9 = 192 from by decide) (Nat.le_of_ble_eq_true rfl) (Nat.le_of_ble_eq_true rfl) dX7_init_24 (fun _ e => ⟨by simp only [rV, xaN e 6 (by decide)], by simp only [rV, xaN e 6 (by decide)]⟩) (fun E5 s3 e5 => ?_)
  have hX5 : Ext E E5 [7, 8, 9] [(6, 0), (6, 6)] := hX4.trans e5
  refine k_putr (b := 9) (fun F => [(0, rV F 6)]) (fun F => []) rfl rfl gc_X7_18 hin rfl (xoN hX5) (xmO hX5 hm6) rfl (xmN hX5 (by simp)) rfl (ft_of rfl rfl) rfl rfl dX7_init_26 (fun _ e => ⟨by simp only [rV, xaN e 6 (by simp)], rfl⟩) (fun E6 e6 => ?_)
  have hX6 : Ext E E6 [7, 8, 9] [(6, 0), (6, 6), (6, 7)] := hX5.trans e6
  refine s_aload_n dX7_init_29 0 rfl rfl ?_
  refine s_bipush (v := 16) dX7_init_30 (by decide) ?_
  refine k_newa (a := 10) (atype := .int) (fun F => [(0, rV F 6)]) (fun F => [rV F 6]) rfl rfl hq (xoN hX6) (xfN hX6 hf10 (by decide)) (by decide) rfl (Or.inl ⟨rfl, rfl⟩) rfl w_149 (by decide) (by decide) (by decide) 4 208 (by decide) (show 192 + ln 10 = 208 from by decide) (Nat.le_of_ble_eq_true rfl) (Nat.le_of_ble_eq_true rfl) dX7_init_32 (fun _ e => ⟨by simp only [rV, xaN e 6 (by decide)], by simp only [rV, xaN e 6 (by decide)]⟩) (fun E7 s4 e7 => ?_)
  have hX7 : Ext E E7 [7, 8, 9, 10] [(6, 0), (6, 6), (6, 7)] := hX6.trans e7
  refine k_putr (b := 10) (fun F => [(0, rV F 6)]) (fun F => []) rfl rfl gc_X7_21 hin rfl (xoN hX7) (xmO hX7 hm6) rfl (xmN hX7 (by simp)) rfl (ft_of rfl rfl) rfl rfl dX7_init_34 (fun _ e => ⟨by simp only [rV, xaN e 6 (by simp)], rfl⟩) (fun E8 e8 => ?_)
  have hX8 : Ext E E8 [7, 8, 9, 10] [(6, 0), (6, 6), (6, 7), (6, 8)] := hX7.trans e8
  exact k_ret rfl rfl rfl rfl hX8 dX7_init_37
theorem dX6_init_0 : decode cX6_init 0 = .ok (.aload_n 0, 1) := by decide +kernel
theorem dX6_init_1 : decode cX6_init 1 = .ok (.invokespecial 3, 3) := by decide +kernel
theorem dX6_init_4 : decode cX6_init 4 = .ok (.aload_n 0, 1) := by decide +kernel
theorem dX6_init_5 : decode cX6_init 5 = .ok (.aload_n 1, 1) := by decide +kernel
theorem dX6_init_6 : decode cX6_init 6 = .ok (.putfield 9, 3) := by decide +kernel
theorem dX6_init_9 : decode cX6_init 9 = .ok (.aload_n 0, 1) := by decide +kernel
theorem dX6_init_10 : decode cX6_init 10 = .ok (.iload_n 2, 1) := by decide +kernel
theorem dX6_init_11 : decode cX6_init 11 = .ok (.putfield 15, 3) := by decide +kernel
theorem dX6_init_14 : decode cX6_init 14 = .ok (.aload_n 0, 1) := by decide +kernel
theorem dX6_init_15 : decode cX6_init 15 = .ok (.iconst 1, 1) := by decide +kernel
theorem dX6_init_16 : decode cX6_init 16 = .ok (.iconst 3, 1) := by decide +kernel
theorem dX6_init_17 : decode cX6_init 17 = .ok (.iload_n 2, 1) := by decide +kernel
theorem dX6_init_18 : decode cX6_init 18 = .ok (.imul, 1) := by decide +kernel
theorem dX6_init_19 : decode cX6_init 19 = .ok (.ishl, 1) := by decide +kernel
theorem dX6_init_20 : decode cX6_init 20 = .ok (.putfield 19, 3) := by decide +kernel
theorem dX6_init_23 : decode cX6_init 23 = .ok (.aload_n 0, 1) := by decide +kernel
theorem dX6_init_24 : decode cX6_init 24 = .ok (.aload_n 0, 1) := by decide +kernel
theorem dX6_init_25 : decode cX6_init 25 = .ok (.getfield 19, 3) := by decide +kernel
theorem dX6_init_28 : decode cX6_init 28 = .ok (.newarray .int, 2) := by decide +kernel
theorem dX6_init_30 : decode cX6_init 30 = .ok (.putfield 22, 3) := by decide +kernel
theorem dX6_init_33 : decode cX6_init 33 = .ok (.iconst 0, 1) := by decide +kernel
theorem dX6_init_34 : decode cX6_init 34 = .ok (.istore_n 3, 1) := by decide +kernel
theorem dX6_init_35 : decode cX6_init 35 = .ok (.iload_n 3, 1) := by decide +kernel
theorem dX6_init_36 : decode cX6_init 36 = .ok (.aload_n 0, 1) := by decide +kernel
theorem dX6_init_37 : decode cX6_init 37 = .ok (.getfield 19, 3) := by decide +kernel
theorem dX6_init_40 : decode cX6_init 40 = .ok (.if_icmp .ge 42, 3) := by decide +kernel
theorem dX6_init_43 : decode cX6_init 43 = .ok (.iconst 0, 1) := by decide +kernel
theorem dX6_init_44 : decode cX6_init 44 = .ok (.istore 4, 2) := by decide +kernel
theorem dX6_init_46 : decode cX6_init 46 = .ok (.iload 4, 2) := by decide +kernel
theorem dX6_init_48 : decode cX6_init 48 = .ok (.iload_n 2, 1) := by decide +kernel
theorem dX6_init_49 : decode cX6_init 49 = .ok (.if_icmp .ge 27, 3) := by decide +kernel
theorem dX6_init_52 : decode cX6_init 52 = .ok (.aload_n 0, 1) := by decide +kernel
theorem dX6_init_53 : decode cX6_init 53 = .ok (.getfield 22, 3) := by decide +kernel
theorem dX6_init_56 : decode cX6_init 56 = .ok (.iload_n 3, 1) := by decide +kernel
theorem dX6_init_57 : decode cX6_init 57 = .ok (.dup2, 1) := by decide +kernel
theorem dX6_init_58 : decode cX6_init 58 = .ok (.iaload, 1) := by decide +kernel
theorem dX6_init_59 : decode cX6_init 59 = .ok (.iconst 1, 1) := by decide +kernel
theorem dX6_init_60 : decode cX6_init 60 = .ok (.aload_n 0, 1) := by decide +kernel
theorem dX6_init_61 : decode cX6_init 61 = .ok (.iload_n 3, 1) := by decide +kernel
theorem dX6_init_62 : decode cX6_init 62 = .ok (.iload 4, 2) := by decide +kernel
theorem dX6_init_64 : decode cX6_init 64 = .ok (.invokevirtual 26, 3) := by decide +kernel
theorem dX6_init_67 : decode cX6_init 67 = .ok (.ishl, 1) := by decide +kernel
theorem dX6_init_68 : decode cX6_init 68 = .ok (.ior, 1) := by decide +kernel
theorem dX6_init_69 : decode cX6_init 69 = .ok (.iastore, 1) := by decide +kernel
theorem dX6_init_70 : decode cX6_init 70 = .ok (.iinc 4 1, 3) := by decide +kernel
theorem dX6_init_73 : decode cX6_init 73 = .ok (.goto (-27), 3) := by decide +kernel
theorem dX6_init_76 : decode cX6_init 76 = .ok (.iinc 3 1, 3) := by decide +kernel
theorem dX6_init_79 : decode cX6_init 79 = .ok (.goto (-44), 3) := by decide +kernel
theorem dX6_init_82 : decode cX6_init 82 = .ok (.return_, 1) := by decide +kernel
def f_X6_init (σ : St) (k : Nat) (v2 : Int32) : Option St :=
  bd (setI σ (32 + 2 * k) 1 v2) fun s1 =>
    bd (setI s1 (32 + 2 * k) 2 ((1 : Int32) <<< (((3 : Int32) * v2) &&& 31))) fun s2 =>
      ckE (s2.1 (32 + 2 * k) 2) (nI (ln (33 + 2 * k))) <|
        bd (zr s2 (33 + 2 * k)) fun s3 =>
          lo2 FU (fun rec7 (s5 : St) (x6 : Int32) =>
            (if x6 < (s5.1 (32 + 2 * k) 2) then
              lo2 FU (fun rec11 (s9 : St) (x10 : Int32) =>
                (if x10 < v2 then
                  ck x6 (ln (33 + 2 * k)) <|
                    calP (f_X6_figure s9 k x6 x10) fun r13 =>
                      ck x6 (ln (33 + 2 * k)) <|
                        bd (setI s9 (33 + 2 * k) x6.toNatClampNeg ((s9.1 (33 + 2 * k) x6.toNatClampNeg) ||| ((1 : Int32) <<< (r13 &&& 31)))) fun s14 =>
                          rec11 s14 (x10 + 1)
                   else
                  rec7 s9 (x6 + 1))) s5 (0 : Int32)
               else
              some s5)) s3 (0 : Int32)
set_option maxHeartbeats 4000000 in
set_option maxRecDepth 100000 in
theorem c_X6_init_0 (l : Launch) (E : Ev) (hm32 : 32 ∈ E.2.2.2.1) (hm1 : 1 ∈ E.2.2.2.1) (hf33 : 33 ∉ E.2.2.2.1) (σ : St) (v2 : Int32) : CtrC l E md_X6_init_0 [rV E 32, rV E 1, .int v2] σ (f_X6_init σ 0 v2) [33] [(32, 0), (32, 3)] := by
  refine ctrC_of rfl rfl (Nat.le_of_ble_eq_true rfl) (fun Γ sz hin hE hR hq => ?_)
  show Sim _ Γ (AX E sz, 0, 0) E md_X6_init_0 σ 0 [(0, rV E 32), (1, rV E 1), (2, .int v2)] [] _
  unfold f_X6_init
  have hX0 : Ext E E [] [] := Ext.rf hE hR
  refine s_aload_n dX6_init_0 0 rfl rfl ?_
  refine s_objInit rfl w_192 oiI oiC rfl dX6_init_1 ?_
  refine s_aload_n dX6_init_4 0 rfl rfl ?_
  refine s_aload_n dX6_init_5 1 rfl rfl ?_
  refine k_putr (b := 1) (fun F => [(0, rV F 32), (1, rV F 1), (2, .int v2)]) (fun F => []) rfl rfl gc_X6_9 hin rfl (xoN hX0) (xmO hX0 hm32) rfl (xmO hX0 hm1) rfl (ft_of rfl rfl) rfl rfl dX6_init_6 (fun _ e => ⟨by simp only [rV, xaN e 32 (by simp), xaN e 1 (by simp)], rfl⟩) (fun E1 e1 => ?_)
  have hX1 : Ext E E1 [] [(32, 0)] := hX0.trans e1
  refine s_aload_n dX6_init_9 0 rfl rfl ?_
  refine s_iload_n dX6_init_10 2 rfl rfl ?_
  refine k_putFi gc_X6_15 hin rfl (xmO hX1 hm32) rfl (ft_of rfl rfl) rfl rfl dX6_init_11 (fun s1 => ?_)
  refine s_aload_n dX6_init_14 0 rfl rfl ?_
  refine s_iconst (v := 1) dX6_init_15 (by decide) ?_
  refine s_iconst (v := 3) dX6_init_16 (by decide) ?_
  refine s_iload_n dX6_init_17 2 rfl rfl ?_
  refine s_imul dX6_init_18 ?_
  refine s_ishl dX6_init_19 ?_
  refine k_putFi gc_X6_19 hin rfl (xmO hX1 hm32) rfl (ft_of rfl rfl) rfl rfl dX6_init_20 (fun s2 => ?_)
  refine s_aload_n dX6_init_23 0 rfl rfl ?_
  refine s_aload_n dX6_init_24 0 rfl rfl ?_
  refine s_geti gf_X6_19 rfl (xmO hX1 hm32) (show kd 32 = 6 from rfl) (ft_of (show kd 32 = 6 from rfl) rfl) dX6_init_25 ?_
  refine k_ckE (fun hk4 => ?_)
  refine k_newa (a := 33) (atype := .int) (fun F => [(0, rV F 32), (1, rV F 1), (2, .int v2)]) (fun F => [rV F 32]) rfl rfl hq (xoN hX1) (xfN hX1 hf33 (by decide)) (by decide) rfl (Or.inl ⟨rfl, rfl⟩) rfl w_149 (by rw [hk4]; decide) (by rw [hk4]; decide) (by decide) 1 8 (by decide) (show 0 + ln 33 = 8 from by decide) (Nat.le_of_ble_eq_true rfl) (Nat.le_of_ble_eq_true rfl) dX6_init_28 (fun _ e => ⟨by simp only [rV, xaN e 32 (by decide), xaN e 1 (by decide)], by simp only [rV, xaN e 32 (by decide)]⟩) (fun E2 s3 e2 => ?_)
  have hX2 : Ext E E2 [33] [(32, 0)] := hX1.trans e2
  refine k_putr (b := 33) (fun F => [(0, rV F 32), (1, rV F 1), (2, .int v2)]) (fun F => []) rfl rfl gc_X6_22 hin rfl (xoN hX2) (xmO hX2 hm32) rfl (xmN hX2 (by simp)) rfl (ft_of rfl rfl) rfl rfl dX6_init_30 (fun _ e => ⟨by simp only [rV, xaN e 32 (by simp), xaN e 1 (by simp)], rfl⟩) (fun E3 e3 => ?_)
  have hX3 : Ext E E3 [33] [(32, 0), (32, 3)] := hX2.trans e3
  refine s_iconst (v := 0) dX6_init_33 (by decide) ?_
  refine s_istore_n [(3, .int (0 : Int32)), (0, rV E3 32), (1, rV E3 1), (2, .int v2)] dX6_init_34 rfl (by decide) rfl ?_
  refine s_sub (lv' := [(0, rV E3 32), (2, .int v2), (3, .int (0 : Int32))]) [1, 3, 0] rfl ?_
  refine s_lo2 (σf := fun s5 x6 => s5) (lvf := fun s5 x6 => [(0, rV E3 32), (2, .int v2), (3, .int x6)]) (fun rec7 ih8 s5 x6 => ?_)
  refine s_iload_n dX6_init_35 2 rfl rfl ?_
  refine s_aload_n dX6_init_36 0 rfl rfl ?_
  refine s_geti gf_X6_19 rfl (xmO hX3 hm32) (show kd 32 = 6 from rfl) (ft_of (show kd 32 = 6 from rfl) rfl) dX6_init_37 ?_
  refine s_icmp_ge 82 dX6_init_40 (by decide) ?_ ?_
  · skip
    refine s_iconst (v := 0) dX6_init_43 (by decide) ?_
    refine s_istore [(4, .int (0 : Int32)), (0, rV E3 32), (2, .int v2), (3, .int x6)] dX6_init_44 (by decide) rfl ?_
    refine s_sub (lv' := [(0, rV E3 32), (2, .int v2), (3, .int x6), (4, .int (0 : Int32))]) [1, 2, 3, 0] rfl ?_
    refine s_lo2 (σf := fun s9 x10 => s9) (lvf := fun s9 x10 => [(0, rV E3 32), (2, .int v2), (3, .int x6), (4, .int x10)]) (fun rec11 ih12 s9 x10 => ?_)
    refine s_iload dX6_init_46 3 rfl ?_
    refine s_iload_n dX6_init_48 1 rfl rfl ?_
    refine s_icmp_ge 76 dX6_init_49 (by decide) ?_ ?_
    · skip
      refine s_aload_n dX6_init_52 0 rfl rfl ?_
      refine s_getr (b := 33) gf_X6_22 rfl (xmO hX3 hm32) (show kd 32 = 6 from rfl) (ft_of (show kd 32 = 6 from rfl) rfl) (xrN hX3 (by simp)) rfl dX6_init_53 ?_
      refine s_iload_n dX6_init_56 2 rfl rfl ?_
      refine s_dup2 dX6_init_57 rfl rfl ?_
      refine s_iald (xmN hX3 (by simp)) (show kd 33 = 11 from rfl) (show ln 33 = 8 from rfl) dX6_init_58 ?_
      refine s_iconst (v := 1) dX6_init_59 (by decide) ?_
      refine s_aload_n dX6_init_60 0 rfl rfl ?_
      refine s_iload_n dX6_init_61 2 rfl rfl ?_
      refine s_iload dX6_init_62 3 rfl ?_
      refine s_callVpI (As := [.int x6, .int x10]) mf_X6_figure vf_X6_figure ml_X6_26 (c0_X6_figure _ E3 0 (by decide) (xmO hX3 hm32) s9 x6 x10) (xmO hX3 hm32) (show kd 32 = 6 from rfl) (by decide) rfl rfl rfl rfl (Nat.le_of_ble_eq_true rfl) rfl dX6_init_64 (fun r13 => ?_)
      refine s_ishl dX6_init_67 ?_
      refine s_ior dX6_init_68 ?_
      refine s_iast (xmN hX3 (by simp)) (show kd 33 = 11 from rfl) (show ln 33 = 8 from rfl) dX6_init_69 (fun s14 => ?_)
      refine s_iinc [(4, .int (x10 + 1)), (0, rV E3 32), (2, .int v2), (3, .int x6)] dX6_init_70 3 rfl rfl (by decide) rfl ?_
      refine s_goto 46 dX6_init_73 (by decide) ?_
      refine s_sub [1, 2, 3, 0] rfl ?_
      exact ih12 s14 (x10 + 1)
    · skip
      refine s_iinc [(3, .int (x6 + 1)), (0, rV E3 32), (2, .int v2), (4, .int x10)] dX6_init_76 2 rfl rfl (by decide) rfl ?_
      refine s_goto 35 dX6_init_79 (by decide) ?_
      refine s_sub [1, 2, 0] rfl ?_
      exact ih8 s9 (x6 + 1)
  · skip
    exact k_ret rfl rfl rfl rfl hX3 dX6_init_82
set_option maxHeartbeats 4000000 in
set_option maxRecDepth 100000 in
theorem c_X6_init_1 (l : Launch) (E : Ev) (hm34 : 34 ∈ E.2.2.2.1) (hm1 : 1 ∈ E.2.2.2.1) (hf35 : 35 ∉ E.2.2.2.1) (σ : St) (v2 : Int32) : CtrC l E md_X6_init_1 [rV E 34, rV E 1, .int v2] σ (f_X6_init σ 1 v2) [35] [(34, 0), (34, 3)] := by
  refine ctrC_of rfl rfl (Nat.le_of_ble_eq_true rfl) (fun Γ sz hin hE hR hq => ?_)
  show Sim _ Γ (AX E sz, 0, 0) E md_X6_init_1 σ 0 [(0, rV E 34), (1, rV E 1), (2, .int v2)] [] _
  unfold f_X6_init
  have hX0 : Ext E E [] [] := Ext.rf hE hR
  refine s_aload_n dX6_init_0 0 rfl rfl ?_
  refine s_objInit rfl w_192 oiI oiC rfl dX6_init_1 ?_
  refine s_aload_n dX6_init_4 0 rfl rfl ?_
  refine s_aload_n dX6_init_5 1 rfl rfl ?_
  refine k_putr (b := 1) (fun F => [(0, rV F 34), (1, rV F 1), (2, .int v2)]) (fun F => []) rfl rfl gc_X6_9 hin rfl (xoN hX0) (xmO hX0 hm34) rfl (xmO hX0 hm1) rfl (ft_of rfl rfl) rfl rfl dX6_init_6 (fun _ e => ⟨by simp only [rV, xaN e 34 (by simp), xaN e 1 (by simp)], rfl⟩) (fun E1 e1 => ?_)
  have hX1 : Ext E E1 [] [(34, 0)] := hX0.trans e1
  refine s_aload_n dX6_init_9 0 rfl rfl ?_
  refine s_iload_n dX6_init_10 2 rfl rfl ?_
  refine k_putFi gc_X6_15 hin rfl (xmO hX1 hm34) rfl (ft_of rfl rfl) rfl rfl dX6_init_11 (fun s1 => ?_)
  refine s_aload_n dX6_init_14 0 rfl rfl ?_
  refine s_iconst (v := 1) dX6_init_15 (by decide) ?_
  refine s_iconst (v := 3) dX6_init_16 (by decide) ?_
  refine s_iload_n dX6_init_17 2 rfl rfl ?_
  refine s_imul dX6_init_18 ?_
  refine s_ishl dX6_init_19 ?_
  refine k_putFi gc_X6_19 hin rfl (xmO hX1 hm34) rfl (ft_of rfl rfl) rfl rfl dX6_init_20 (fun s2 => ?_)
  refine s_aload_n dX6_init_23 0 rfl rfl ?_
  refine s_aload_n dX6_init_24 0 rfl rfl ?_
  refine s_geti gf_X6_19 rfl (xmO hX1 hm34) (show kd 34 = 6 from rfl) (ft_of (show kd 34 = 6 from rfl) rfl) dX6_init_25 ?_
  refine k_ckE (fun hk4 => ?_)
  refine k_newa (a := 35) (atype := .int) (fun F => [(0, rV F 34), (1, rV F 1), (2, .int v2)]) (fun F => [rV F 34]) rfl rfl hq (xoN hX1) (xfN hX1 hf35 (by decide)) (by decide) rfl (Or.inl ⟨rfl, rfl⟩) rfl w_149 (by rw [hk4]; decide) (by rw [hk4]; decide) (by decide) 1 64 (by decide) (show 0 + ln 35 = 64 from by decide) (Nat.le_of_ble_eq_true rfl) (Nat.le_of_ble_eq_true rfl) dX6_init_28 (fun _ e => ⟨by simp only [rV, xaN e 34 (by decide), xaN e 1 (by decide)], by simp only [rV, xaN e 34 (by decide)]⟩) (fun E2 s3 e2 => ?_)
  have hX2 : Ext E E2 [35] [(34, 0)] := hX1.trans e2
  refine k_putr (b := 35) (fun F => [(0, rV F 34), (1, rV F 1), (2, .int v2)]) (fun F => []) rfl rfl gc_X6_22 hin rfl (xoN hX2) (xmO hX2 hm34) rfl (xmN hX2 (by simp)) rfl (ft_of rfl rfl) rfl rfl dX6_init_30 (fun _ e => ⟨by simp only [rV, xaN e 34 (by simp), xaN e 1 (by simp)], rfl⟩) (fun E3 e3 => ?_)
  have hX3 : Ext E E3 [35] [(34, 0), (34, 3)] := hX2.trans e3
  refine s_iconst (v := 0) dX6_init_33 (by decide) ?_
  refine s_istore_n [(3, .int (0 : Int32)), (0, rV E3 34), (1, rV E3 1), (2, .int v2)] dX6_init_34 rfl (by decide) rfl ?_
  refine s_sub (lv' := [(0, rV E3 34), (2, .int v2), (3, .int (0 : Int32))]) [1, 3, 0] rfl ?_
  refine s_lo2 (σf := fun s5 x6 => s5) (lvf := fun s5 x6 => [(0, rV E3 34), (2, .int v2), (3, .int x6)]) (fun rec7 ih8 s5 x6 => ?_)
  refine s_iload_n dX6_init_35 2 rfl rfl ?_
  refine s_aload_n dX6_init_36 0 rfl rfl ?_
  refine s_geti gf_X6_19 rfl (xmO hX3 hm34) (show kd 34 = 6 from rfl) (ft_of (show kd 34 = 6 from rfl) rfl) dX6_init_37 ?_
  refine s_icmp_ge 82 dX6_init_40 (by decide) ?_ ?_
  · skip
    refine s_iconst (v := 0) dX6_init_43 (by decide) ?_
    refine s_istore [(4, .int (0 : Int32)), (0, rV E3 34), (2, .int v2), (3, .int x6)] dX6_init_44 (by decide) rfl ?_
    refine s_sub (lv' := [(0, rV E3 34), (2, .int v2), (3, .int x6), (4, .int (0 : Int32))]) [1, 2, 3, 0] rfl ?_
    refine s_lo2 (σf := fun s9 x10 => s9) (lvf := fun s9 x10 => [(0, rV E3 34), (2, .int v2), (3, .int x6), (4, .int x10)]) (fun rec11 ih12 s9 x10 => ?_)
    refine s_iload dX6_init_46 3 rfl ?_
    refine s_iload_n dX6_init_48 1 rfl rfl ?_
    refine s_icmp_ge 76 dX6_init_49 (by decide) ?_ ?_
    · skip
      refine s_aload_n dX6_init_52 0 rfl rfl ?_
      refine s_getr (b := 35) gf_X6_22 rfl (xmO hX3 hm34) (show kd 34 = 6 from rfl) (ft_of (show kd 34 = 6 from rfl) rfl) (xrN hX3 (by simp)) rfl dX6_init_53 ?_
      refine s_iload_n dX6_init_56 2 rfl rfl ?_
      refine s_dup2 dX6_init_57 rfl rfl ?_
      refine s_iald (xmN hX3 (by simp)) (show kd 35 = 11 from rfl) (show ln 35 = 64 from rfl) dX6_init_58 ?_
      refine s_iconst (v := 1) dX6_init_59 (by decide) ?_
      refine s_aload_n dX6_init_60 0 rfl rfl ?_
      refine s_iload_n dX6_init_61 2 rfl rfl ?_
      refine s_iload dX6_init_62 3 rfl ?_
      refine s_callVpI (As := [.int x6, .int x10]) mf_X6_figure vf_X6_figure ml_X6_26 (c0_X6_figure _ E3 1 (by decide) (xmO hX3 hm34) s9 x6 x10) (xmO hX3 hm34) (show kd 34 = 6 from rfl) (by decide) rfl rfl rfl rfl (Nat.le_of_ble_eq_true rfl) rfl dX6_init_64 (fun r13 => ?_)
      refine s_ishl dX6_init_67 ?_
      refine s_ior dX6_init_68 ?_
      refine s_iast (xmN hX3 (by simp)) (show kd 35 = 11 from rfl) (show ln 35 = 64 from rfl) dX6_init_69 (fun s14 => ?_)
      refine s_iinc [(4, .int (x10 + 1)), (0, rV E3 34), (2, .int v2), (3, .int x6)] dX6_init_70 3 rfl rfl (by decide) rfl ?_
      refine s_goto 46 dX6_init_73 (by decide) ?_
      refine s_sub [1, 2, 3, 0] rfl ?_
      exact ih12 s14 (x10 + 1)
    · skip
      refine s_iinc [(3, .int (x6 + 1)), (0, rV E3 34), (2, .int v2), (4, .int x10)] dX6_init_76 2 rfl rfl (by decide) rfl ?_
      refine s_goto 35 dX6_init_79 (by decide) ?_
      refine s_sub [1, 2, 0] rfl ?_
      exact ih8 s9 (x6 + 1)
  · skip
    exact k_ret rfl rfl rfl rfl hX3 dX6_init_82
set_option maxHeartbeats 4000000 in
set_option maxRecDepth 100000 in
theorem c_X6_init_2 (l : Launch) (E : Ev) (hm36 : 36 ∈ E.2.2.2.1) (hm1 : 1 ∈ E.2.2.2.1) (hf37 : 37 ∉ E.2.2.2.1) (σ : St) (v2 : Int32) : CtrC l E md_X6_init_2 [rV E 36, rV E 1, .int v2] σ (f_X6_init σ 2 v2) [37] [(36, 0), (36, 3)] := by
  refine ctrC_of rfl rfl (Nat.le_of_ble_eq_true rfl) (fun Γ sz hin hE hR hq => ?_)
  show Sim _ Γ (AX E sz, 0, 0) E md_X6_init_2 σ 0 [(0, rV E 36), (1, rV E 1), (2, .int v2)] [] _
  unfold f_X6_init
  have hX0 : Ext E E [] [] := Ext.rf hE hR
  refine s_aload_n dX6_init_0 0 rfl rfl ?_
  refine s_objInit rfl w_192 oiI oiC rfl dX6_init_1 ?_
  refine s_aload_n dX6_init_4 0 rfl rfl ?_
  refine s_aload_n dX6_init_5 1 rfl rfl ?_
  refine k_putr (b := 1) (fun F => [(0, rV F 36), (1, rV F 1), (2, .int v2)]) (fun F => []) rfl rfl gc_X6_9 hin rfl (xoN hX0) (xmO hX0 hm36) rfl (xmO hX0 hm1) rfl (ft_of rfl rfl) rfl rfl dX6_init_6 (fun _ e => ⟨by simp only [rV, xaN e 36 (by simp), xaN e 1 (by simp)], rfl⟩) (fun E1 e1 => ?_)
  have hX1 : Ext E E1 [] [(36, 0)] := hX0.trans e1
  refine s_aload_n dX6_init_9 0 rfl rfl ?_
  refine s_iload_n dX6_init_10 2 rfl rfl ?_
  refine k_putFi gc_X6_15 hin rfl (xmO hX1 hm36) rfl (ft_of rfl rfl) rfl rfl dX6_init_11 (fun s1 => ?_)
  refine s_aload_n dX6_init_14 0 rfl rfl ?_
  refine s_iconst (v := 1) dX6_init_15 (by decide) ?_
  refine s_iconst (v := 3) dX6_init_16 (by decide) ?_
  refine s_iload_n dX6_init_17 2 rfl rfl ?_
  refine s_imul dX6_init_18 ?_
  refine s_ishl dX6_init_19 ?_
  refine k_putFi gc_X6_19 hin rfl (xmO hX1 hm36) rfl (ft_of rfl rfl) rfl rfl dX6_init_20 (fun s2 => ?_)
  refine s_aload_n dX6_init_23 0 rfl rfl ?_
  refine s_aload_n dX6_init_24 0 rfl rfl ?_
  refine s_geti gf_X6_19 rfl (xmO hX1 hm36) (show kd 36 = 6 from rfl) (ft_of (show kd 36 = 6 from rfl) rfl) dX6_init_25 ?_
  refine k_ckE (fun hk4 => ?_)
  refine k_newa (a := 37) (atype := .int) (fun F => [(0, rV F 36), (1, rV F 1), (2, .int v2)]) (fun F => [rV F 36]) rfl rfl hq (xoN hX1) (xfN hX1 hf37 (by decide)) (by decide) rfl (Or.inl ⟨rfl, rfl⟩) rfl w_149 (by rw [hk4]; decide) (by rw [hk4]; decide) (by decide) 1 512 (by decide) (show 0 + ln 37 = 512 from by decide) (Nat.le_of_ble_eq_true rfl) (Nat.le_of_ble_eq_true rfl) dX6_init_28 (fun _ e => ⟨by simp only [rV, xaN e 36 (by decide), xaN e 1 (by decide)], by simp only [rV, xaN e 36 (by decide)]⟩) (fun E2 s3 e2 => ?_)
  have hX2 : Ext E E2 [37] [(36, 0)] := hX1.trans e2
  refine k_putr (b := 37) (fun F => [(0, rV F 36), (1, rV F 1), (2, .int v2)]) (fun F => []) rfl rfl gc_X6_22 hin rfl (xoN hX2) (xmO hX2 hm36) rfl (xmN hX2 (by simp)) rfl (ft_of rfl rfl) rfl rfl dX6_init_30 (fun _ e => ⟨by simp only [rV, xaN e 36 (by simp), xaN e 1 (by simp)], rfl⟩) (fun E3 e3 => ?_)
  have hX3 : Ext E E3 [37] [(36, 0), (36, 3)] := hX2.trans e3
  refine s_iconst (v := 0) dX6_init_33 (by decide) ?_
  refine s_istore_n [(3, .int (0 : Int32)), (0, rV E3 36), (1, rV E3 1), (2, .int v2)] dX6_init_34 rfl (by decide) rfl ?_
  refine s_sub (lv' := [(0, rV E3 36), (2, .int v2), (3, .int (0 : Int32))]) [1, 3, 0] rfl ?_
  refine s_lo2 (σf := fun s5 x6 => s5) (lvf := fun s5 x6 => [(0, rV E3 36), (2, .int v2), (3, .int x6)]) (fun rec7 ih8 s5 x6 => ?_)
  refine s_iload_n dX6_init_35 2 rfl rfl ?_
  refine s_aload_n dX6_init_36 0 rfl rfl ?_
  refine s_geti gf_X6_19 rfl (xmO hX3 hm36) (show kd 36 = 6 from rfl) (ft_of (show kd 36 = 6 from rfl) rfl) dX6_init_37 ?_
  refine s_icmp_ge 82 dX6_init_40 (by decide) ?_ ?_
  · skip
    refine s_iconst (v := 0) dX6_init_43 (by decide) ?_
    refine s_istore [(4, .int (0 : Int32)), (0, rV E3 36), (2, .int v2), (3, .int x6)] dX6_init_44 (by decide) rfl ?_
    refine s_sub (lv' := [(0, rV E3 36), (2, .int v2), (3, .int x6), (4, .int (0 : Int32))]) [1, 2, 3, 0] rfl ?_
    refine s_lo2 (σf := fun s9 x10 => s9) (lvf := fun s9 x10 => [(0, rV E3 36), (2, .int v2), (3, .int x6), (4, .int x10)]) (fun rec11 ih12 s9 x10 => ?_)
    refine s_iload dX6_init_46 3 rfl ?_
    refine s_iload_n dX6_init_48 1 rfl rfl ?_
    refine s_icmp_ge 76 dX6_init_49 (by decide) ?_ ?_
    · skip
      refine s_aload_n dX6_init_52 0 rfl rfl ?_
      refine s_getr (b := 37) gf_X6_22 rfl (xmO hX3 hm36) (show kd 36 = 6 from rfl) (ft_of (show kd 36 = 6 from rfl) rfl) (xrN hX3 (by simp)) rfl dX6_init_53 ?_
      refine s_iload_n dX6_init_56 2 rfl rfl ?_
      refine s_dup2 dX6_init_57 rfl rfl ?_
      refine s_iald (xmN hX3 (by simp)) (show kd 37 = 11 from rfl) (show ln 37 = 512 from rfl) dX6_init_58 ?_
      refine s_iconst (v := 1) dX6_init_59 (by decide) ?_
      refine s_aload_n dX6_init_60 0 rfl rfl ?_
      refine s_iload_n dX6_init_61 2 rfl rfl ?_
      refine s_iload dX6_init_62 3 rfl ?_
      refine s_callVpI (As := [.int x6, .int x10]) mf_X6_figure vf_X6_figure ml_X6_26 (c0_X6_figure _ E3 2 (by decide) (xmO hX3 hm36) s9 x6 x10) (xmO hX3 hm36) (show kd 36 = 6 from rfl) (by decide) rfl rfl rfl rfl (Nat.le_of_ble_eq_true rfl) rfl dX6_init_64 (fun r13 => ?_)
      refine s_ishl dX6_init_67 ?_
      refine s_ior dX6_init_68 ?_
      refine s_iast (xmN hX3 (by simp)) (show kd 37 = 11 from rfl) (show ln 37 = 512 from rfl) dX6_init_69 (fun s14 => ?_)
      refine s_iinc [(4, .int (x10 + 1)), (0, rV E3 36), (2, .int v2), (3, .int x6)] dX6_init_70 3 rfl rfl (by decide) rfl ?_
      refine s_goto 46 dX6_init_73 (by decide) ?_
      refine s_sub [1, 2, 3, 0] rfl ?_
      exact ih12 s14 (x10 + 1)
    · skip
      refine s_iinc [(3, .int (x6 + 1)), (0, rV E3 36), (2, .int v2), (4, .int x10)] dX6_init_76 2 rfl rfl (by decide) rfl ?_
      refine s_goto 35 dX6_init_79 (by decide) ?_
      refine s_sub [1, 2, 0] rfl ?_
      exact ih8 s9 (x6 + 1)
  · skip
    exact k_ret rfl rfl rfl rfl hX3 dX6_init_82
theorem dX0_init_0 : decode cX0_init 0 = .ok (.aload_n 0, 1) := by decide +kernel
theorem dX0_init_1 : decode cX0_init 1 = .ok (.invokespecial 3, 3) := by decide +kernel
theorem dX0_init_4 : decode cX0_init 4 = .ok (.aload_n 0, 1) := by decide +kernel
theorem dX0_init_5 : decode cX0_init 5 = .ok (.aload_n 1, 1) := by decide +kernel
theorem dX0_init_6 : decode cX0_init 6 = .ok (.putfield 9, 3) := by decide +kernel
theorem dX0_init_9 : decode cX0_init 9 = .ok (.aload_n 0, 1) := by decide +kernel
theorem dX0_init_10 : decode cX0_init 10 = .ok (.aload_n 2, 1) := by decide +kernel
theorem dX0_init_11 : decode cX0_init 11 = .ok (.putfield 15, 3) := by decide +kernel
theorem dX0_init_14 : decode cX0_init 14 = .ok (.aload_n 0, 1) := by decide +kernel
theorem dX0_init_15 : decode cX0_init 15 = .ok (.iload_n 3, 1) := by decide +kernel
theorem dX0_init_16 : decode cX0_init 16 = .ok (.putfield 19, 3) := by decide +kernel
theorem dX0_init_19 : decode cX0_init 19 = .ok (.aload_n 0, 1) := by decide +kernel
theorem dX0_init_20 : decode cX0_init 20 = .ok (.aload_n 2, 1) := by decide +kernel
theorem dX0_init_21 : decode cX0_init 21 = .ok (.invokevirtual 23, 3) := by decide +kernel
theorem dX0_init_24 : decode cX0_init 24 = .ok (.bipush 8, 2) := by decide +kernel
theorem dX0_init_26 : decode cX0_init 26 = .ok (.imul, 1) := by decide +kernel
theorem dX0_init_27 : decode cX0_init 27 = .ok (.newarray .int, 2) := by decide +kernel
theorem dX0_init_29 : decode cX0_init 29 = .ok (.putfield 29, 3) := by decide +kernel
theorem dX0_init_32 : decode cX0_init 32 = .ok (.aload_n 0, 1) := by decide +kernel
theorem dX0_init_33 : decode cX0_init 33 = .ok (.aload_n 2, 1) := by decide +kernel
theorem dX0_init_34 : decode cX0_init 34 = .ok (.invokevirtual 23, 3) := by decide +kernel
theorem dX0_init_37 : decode cX0_init 37 = .ok (.newarray .int, 2) := by decide +kernel
theorem dX0_init_39 : decode cX0_init 39 = .ok (.putfield 33, 3) := by decide +kernel
theorem dX0_init_42 : decode cX0_init 42 = .ok (.aload_n 0, 1) := by decide +kernel
theorem dX0_init_43 : decode cX0_init 43 = .ok (.aload_n 2, 1) := by decide +kernel
theorem dX0_init_44 : decode cX0_init 44 = .ok (.invokevirtual 23, 3) := by decide +kernel
theorem dX0_init_47 : decode cX0_init 47 = .ok (.newarray .int, 2) := by decide +kernel
theorem dX0_init_49 : decode cX0_init 49 = .ok (.putfield 36, 3) := by decide +kernel
theorem dX0_init_52 : decode cX0_init 52 = .ok (.aload_n 0, 1) := by decide +kernel
theorem dX0_init_53 : decode cX0_init 53 = .ok (.aload_n 2, 1) := by decide +kernel
theorem dX0_init_54 : decode cX0_init 54 = .ok (.invokevirtual 23, 3) := by decide +kernel
theorem dX0_init_57 : decode cX0_init 57 = .ok (.newarray .int, 2) := by decide +kernel
theorem dX0_init_59 : decode cX0_init 59 = .ok (.putfield 39, 3) := by decide +kernel
theorem dX0_init_62 : decode cX0_init 62 = .ok (.aload_n 0, 1) := by decide +kernel
theorem dX0_init_63 : decode cX0_init 63 = .ok (.iconst (-1), 1) := by decide +kernel
theorem dX0_init_64 : decode cX0_init 64 = .ok (.putfield 42, 3) := by decide +kernel
theorem dX0_init_67 : decode cX0_init 67 = .ok (.return_, 1) := by decide +kernel
def f_X0_init (σ : St) (i : Nat) (v3 : Int32) : Option St :=
  bd (setI σ (40 + 5 * i) 2 v3) fun s1 =>
    calP (f_X6_size s1 (i / 3)) fun r2 =>
      ckE (r2 * (8 : Int32)) (nI (ln (41 + 5 * i))) <|
        bd (zr s1 (41 + 5 * i)) fun s3 =>
          calP (f_X6_size s3 (i / 3)) fun r5 =>
            ckE r5 (nI (ln (42 + 5 * i))) <|
              bd (zr s3 (42 + 5 * i)) fun s6 =>
                calP (f_X6_size s6 (i / 3)) fun r8 =>
                  ckE r8 (nI (ln (43 + 5 * i))) <|
                    bd (zr s6 (43 + 5 * i)) fun s9 =>
                      calP (f_X6_size s9 (i / 3)) fun r11 =>
                        ckE r11 (nI (ln (44 + 5 * i))) <|
                          bd (zr s9 (44 + 5 * i)) fun s12 =>
                            bd (setI s12 (40 + 5 * i) 7 (-1 : Int32)) fun s14 =>
                              some s14
set_option maxHeartbeats 4000000 in
set_option maxRecDepth 100000 in
theorem c_X0_init_0 (l : Launch) (E : Ev) (hm40 : 40 ∈ E.2.2.2.1) (hm1 : 1 ∈ E.2.2.2.1) (hm32 : 32 ∈ E.2.2.2.1) (hf41 : 41 ∉ E.2.2.2.1) (hf42 : 42 ∉ E.2.2.2.1) (hf43 : 43 ∉ E.2.2.2.1) (hf44 : 44 ∉ E.2.2.2.1) (σ : St) (v3 : Int32) : CtrC l E md_X0_init_0 [rV E 40, rV E 1, rV E 32, .int v3] σ (f_X0_init σ 0 v3) [41, 42, 43, 44] [(40, 0), (40, 1), (40, 3), (40, 4), (40, 5), (40, 6)] := by
  refine ctrC_of rfl rfl (Nat.le_of_ble_eq_true rfl) (fun Γ sz hin hE hR hq => ?_)
  show Sim _ Γ (AX E sz, 0, 0) E md_X0_init_0 σ 0 [(0, rV E 40), (1, rV E 1), (2, rV E 32), (3, .int v3)] [] _
  unfold f_X0_init
  have hX0 : Ext E E [] [] := Ext.rf hE hR
  refine s_aload_n dX0_init_0 0 rfl rfl ?_
  refine s_objInit rfl w_214 oiI oiC rfl dX0_init_1 ?_
  refine s_aload_n dX0_init_4 0 rfl rfl ?_
  refine s_aload_n dX0_init_5 1 rfl rfl ?_
  refine k_putr (b := 1) (fun F => [(0, rV F 40), (1, rV F 1), (2, rV F 32), (3, .int v3)]) (fun F => []) rfl rfl gc_X0_9 hin rfl (xoN hX0) (xmO hX0 hm40) rfl (xmO hX0 hm1) rfl (ft_of rfl rfl) rfl rfl dX0_init_6 (fun _ e => ⟨by simp only [rV, xaN e 40 (by simp), xaN e 1 (by simp), xaN e 32 (by simp)], rfl⟩) (fun E1 e1 => ?_)
  have hX1 : Ext E E1 [] [(40, 0)] := hX0.trans e1
  refine s_aload_n dX0_init_9 0 rfl rfl ?_
  refine s_aload_n dX0_init_10 2 rfl rfl ?_
  refine k_putr (b := 32) (fun F => [(0, rV F 40), (1, rV F 1), (2, rV F 32), (3, .int v3)]) (fun F => []) rfl rfl gc_X0_15 hin rfl (xoN hX1) (xmO hX1 hm40) rfl (xmO hX1 hm32) rfl (ft_of rfl rfl) rfl rfl dX0_init_11 (fun _ e => ⟨by simp only [rV, xaN e 40 (by simp), xaN e 1 (by simp), xaN e 32 (by simp)], rfl⟩) (fun E2 e2 => ?_)
  have hX2 : Ext E E2 [] [(40, 0), (40, 1)] := hX1.trans e2
  refine s_aload_n dX0_init_14 0 rfl rfl ?_
  refine s_iload_n dX0_init_15 3 rfl rfl ?_
  refine k_putFi gc_X0_19 hin rfl (xmO hX2 hm40) rfl (ft_of rfl rfl) rfl rfl dX0_init_16 (fun s1 => ?_)
  refine s_aload_n dX0_init_19 0 rfl rfl ?_
  refine s_aload_n dX0_init_20 2 rfl rfl ?_
  refine s_callVpI (As := []) mf_X6_size vf_X6_size ml_X0_23 (c0_X6_size _ E2 0 (by decide) (xmO hX2 hm32) s1) (xmO hX2 hm32) (show kd 32 = 6 from rfl) (by decide) rfl rfl rfl rfl (Nat.le_of_ble_eq_true rfl) rfl dX0_init_21 (fun r2 => ?_)
  refine s_bipush (v := 8) dX0_init_24 (by decide) ?_
  refine s_imul dX0_init_26 ?_
  refine k_ckE (fun hk4 => ?_)
  refine k_newa (a := 41) (atype := .int) (fun F => [(0, rV F 40), (1, rV F 1), (2, rV F 32), (3, .int v3)]) (fun F => [rV F 40]) rfl rfl hq (xoN hX2) (xfN hX2 hf41 (by decide)) (by decide) rfl (Or.inl ⟨rfl, rfl⟩) rfl w_149 (by rw [hk4]; decide) (by rw [hk4]; decide) (by decide) 1 64 (by decide) (show 0 + ln 41 = 64 from by decide) (Nat.le_of_ble_eq_true rfl) (Nat.le_of_ble_eq_true rfl) dX0_init_27 (fun _ e => ⟨by simp only [rV, xaN e 40 (by decide), xaN e 1 (by decide), xaN e 32 (by decide)], by simp only [rV, xaN e 40 (by decide)]⟩) (fun E3 s3 e3 => ?_)
  have hX3 : Ext E E3 [41] [(40, 0), (40, 1)] := hX2.trans e3
  refine k_putr (b := 41) (fun F => [(0, rV F 40), (1, rV F 1), (2, rV F 32), (3, .int v3)]) (fun F => []) rfl rfl gc_X0_29 hin rfl (xoN hX3) (xmO hX3 hm40) rfl (xmN hX3 (by simp)) rfl (ft_of rfl rfl) rfl rfl dX0_init_29 (fun _ e => ⟨by simp only [rV, xaN e 40 (by simp), xaN e 1 (by simp), xaN e 32 (by simp)], rfl⟩) (fun E4 e4 => ?_)
  have hX4 : Ext E E4 [41] [(40, 0), (40, 1), (40, 3)] := hX3.trans e4
  refine s_aload_n dX0_init_32 0 rfl rfl ?_
  refine s_aload_n dX0_init_33 2 rfl rfl ?_
  refine s_callVpI (As := []) mf_X6_size vf_X6_size ml_X0_23 (c0_X6_size _ E4 0 (by decide) (xmO hX4 hm32) s3) (xmO hX4 hm32) (show kd 32 = 6 from rfl) (by decide) rfl rfl rfl rfl (Nat.le_of_ble_eq_true rfl) rfl dX0_init_34 (fun r5 => ?_)
  refine k_ckE (fun hk7 => ?_)
  refine k_newa (a := 42) (atype := .int) (fun F => [(0, rV F 40), (1, rV F 1), (2, rV F 32), (3, .int v3)]) (fun F => [rV F 40]) rfl rfl hq (xoN hX4) (xfN hX4 hf42 (by decide)) (by decide) rfl (Or.inl ⟨rfl, rfl⟩) rfl w_149 (by rw [hk7]; decide) (by rw [hk7]; decide) (by decide) 2 72 (by decide) (show 64 + ln 42 = 72 from by decide) (Nat.le_of_ble_eq_true rfl) (Nat.le_of_ble_eq_true rfl) dX0_init_37 (fun _ e => ⟨by simp only [rV, xaN e 40 (by decide), xaN e 1 (by decide), xaN e 32 (by decide)], by simp only [rV, xaN e 40 (by decide)]⟩) (fun E5 s6 e5 => ?_)
  have hX5 : Ext E E5 [41, 42] [(40, 0), (40, 1), (40, 3)] := hX4.trans e5
  refine k_putr (b := 42) (fun F => [(0, rV F 40), (1, rV F 1), (2, rV F 32), (3, .int v3)]) (fun F => []) rfl rfl gc_X0_33 hin rfl (xoN hX5) (xmO hX5 hm40) rfl (xmN hX5 (by simp)) rfl (ft_of rfl rfl) rfl rfl dX0_init_39 (fun _ e => ⟨by simp only [rV, xaN e 40 (by simp), xaN e 1 (by simp), xaN e 32 (by simp)], rfl⟩) (fun E6 e6 => ?_)
  have hX6 : Ext E E6 [41, 42] [(40, 0), (40, 1), (40, 3), (40, 4)] := hX5.trans e6
  refine s_aload_n dX0_init_42 0 rfl rfl ?_
  refine s_aload_n dX0_init_43 2 rfl rfl ?_
  refine s_callVpI (As := []) mf_X6_size vf_X6_size ml_X0_23 (c0_X6_size _ E6 0 (by decide) (xmO hX6 hm32) s6) (xmO hX6 hm32) (show kd 32 = 6 from rfl) (by decide) rfl rfl rfl rfl (Nat.le_of_ble_eq_true rfl) rfl dX0_init_44 (fun r8 => ?_)
  refine k_ckE (fun hk10 => ?_)
  refine k_newa (a := 43) (atype := .int) (fun F => [(0, rV F 40), (1, rV F 1), (2, rV F 32), (3, .int v3)]) (fun F => [rV F 40]) rfl rfl hq (xoN hX6) (xfN hX6 hf43 (by decide)) (by decide) rfl (Or.inl ⟨rfl, rfl⟩) rfl w_149 (by rw [hk10]; decide) (by rw [hk10]; decide) (by decide) 3 80 (by decide) (show 72 + ln 43 = 80 from by decide) (Nat.le_of_ble_eq_true rfl) (Nat.le_of_ble_eq_true rfl) dX0_init_47 (fun _ e => ⟨by simp only [rV, xaN e 40 (by decide), xaN e 1 (by decide), xaN e 32 (by decide)], by simp only [rV, xaN e 40 (by decide)]⟩) (fun E7 s9 e7 => ?_)
  have hX7 : Ext E E7 [41, 42, 43] [(40, 0), (40, 1), (40, 3), (40, 4)] := hX6.trans e7
  refine k_putr (b := 43) (fun F => [(0, rV F 40), (1, rV F 1), (2, rV F 32), (3, .int v3)]) (fun F => []) rfl rfl gc_X0_36 hin rfl (xoN hX7) (xmO hX7 hm40) rfl (xmN hX7 (by simp)) rfl (ft_of rfl rfl) rfl rfl dX0_init_49 (fun _ e => ⟨by simp only [rV, xaN e 40 (by simp), xaN e 1 (by simp), xaN e 32 (by simp)], rfl⟩) (fun E8 e8 => ?_)
  have hX8 : Ext E E8 [41, 42, 43] [(40, 0), (40, 1), (40, 3), (40, 4), (40, 5)] := hX7.trans e8
  refine s_aload_n dX0_init_52 0 rfl rfl ?_
  refine s_aload_n dX0_init_53 2 rfl rfl ?_
  refine s_callVpI (As := []) mf_X6_size vf_X6_size ml_X0_23 (c0_X6_size _ E8 0 (by decide) (xmO hX8 hm32) s9) (xmO hX8 hm32) (show kd 32 = 6 from rfl) (by decide) rfl rfl rfl rfl (Nat.le_of_ble_eq_true rfl) rfl dX0_init_54 (fun r11 => ?_)
  refine k_ckE (fun hk13 => ?_)
  refine k_newa (a := 44) (atype := .int) (fun F => [(0, rV F 40), (1, rV F 1), (2, rV F 32), (3, .int v3)]) (fun F => [rV F 40]) rfl rfl hq (xoN hX8) (xfN hX8 hf44 (by decide)) (by decide) rfl (Or.inl ⟨rfl, rfl⟩) rfl w_149 (by rw [hk13]; decide) (by rw [hk13]; decide) (by decide) 4 88 (by decide) (show 80 + ln 44 = 88 from by decide) (Nat.le_of_ble_eq_true rfl) (Nat.le_of_ble_eq_true rfl) dX0_init_57 (fun _ e => ⟨by simp only [rV, xaN e 40 (by decide), xaN e 1 (by decide), xaN e 32 (by decide)], by simp only [rV, xaN e 40 (by decide)]⟩) (fun E9 s12 e9 => ?_)
  have hX9 : Ext E E9 [41, 42, 43, 44] [(40, 0), (40, 1), (40, 3), (40, 4), (40, 5)] := hX8.trans e9
  refine k_putr (b := 44) (fun F => [(0, rV F 40), (1, rV F 1), (2, rV F 32), (3, .int v3)]) (fun F => []) rfl rfl gc_X0_39 hin rfl (xoN hX9) (xmO hX9 hm40) rfl (xmN hX9 (by simp)) rfl (ft_of rfl rfl) rfl rfl dX0_init_59 (fun _ e => ⟨by simp only [rV, xaN e 40 (by simp), xaN e 1 (by simp), xaN e 32 (by simp)], rfl⟩) (fun E10 e10 => ?_)
  have hX10 : Ext E E10 [41, 42, 43, 44] [(40, 0), (40, 1), (40, 3), (40, 4), (40, 5), (40, 6)] := hX9.trans e10
  refine s_aload_n dX0_init_62 0 rfl rfl ?_
  refine s_iconst (v := -1) dX0_init_63 (by decide) ?_
  refine s_puti gf_X0_42 rfl (xmO hX10 hm40) (show kd 40 = 0 from rfl) (ft_of (show kd 40 = 0 from rfl) rfl) dX0_init_64 (fun s14 => ?_)
  exact k_ret rfl rfl rfl rfl hX10 dX0_init_67
set_option maxHeartbeats 4000000 in
set_option maxRecDepth 100000 in
theorem c_X0_init_1 (l : Launch) (E : Ev) (hm45 : 45 ∈ E.2.2.2.1) (hm1 : 1 ∈ E.2.2.2.1) (hm32 : 32 ∈ E.2.2.2.1) (hf46 : 46 ∉ E.2.2.2.1) (hf47 : 47 ∉ E.2.2.2.1) (hf48 : 48 ∉ E.2.2.2.1) (hf49 : 49 ∉ E.2.2.2.1) (σ : St) (v3 : Int32) : CtrC l E md_X0_init_1 [rV E 45, rV E 1, rV E 32, .int v3] σ (f_X0_init σ 1 v3) [46, 47, 48, 49] [(45, 0), (45, 1), (45, 3), (45, 4), (45, 5), (45, 6)] := by
  refine ctrC_of rfl rfl (Nat.le_of_ble_eq_true rfl) (fun Γ sz hin hE hR hq => ?_)
  show Sim _ Γ (AX E sz, 0, 0) E md_X0_init_1 σ 0 [(0, rV E 45), (1, rV E 1), (2, rV E 32), (3, .int v3)] [] _
  unfold f_X0_init
  have hX0 : Ext E E [] [] := Ext.rf hE hR
  refine s_aload_n dX0_init_0 0 rfl rfl ?_
  refine s_objInit rfl w_214 oiI oiC rfl dX0_init_1 ?_
  refine s_aload_n dX0_init_4 0 rfl rfl ?_
  refine s_aload_n dX0_init_5 1 rfl rfl ?_
  refine k_putr (b := 1) (fun F => [(0, rV F 45), (1, rV F 1), (2, rV F 32), (3, .int v3)]) (fun F => []) rfl rfl gc_X0_9 hin rfl (xoN hX0) (xmO hX0 hm45) rfl (xmO hX0 hm1) rfl (ft_of rfl rfl) rfl rfl dX0_init_6 (fun _ e => ⟨by simp only [rV, xaN e 45 (by simp), xaN e 1 (by simp), xaN e 32 (by simp)], rfl⟩) (fun E1 e1 => ?_)
  have hX1 : Ext E E1 [] [(45, 0)] := hX0.trans e1
  refine s_aload_n dX0_init_9 0 rfl rfl ?_
  refine s_aload_n dX0_init_10 2 rfl rfl ?_
  refine k_putr (b := 32) (fun F => [(0, rV F 45), (1, rV F 1), (2, rV F 32), (3, .int v3)]) (fun F => []) rfl rfl gc_X0_15 hin rfl (xoN hX1) (xmO hX1 hm45) rfl (xmO hX1 hm32) rfl (ft_of rfl rfl) rfl rfl dX0_init_11 (fun _ e => ⟨by simp only [rV, xaN e 45 (by simp), xaN e 1 (by simp), xaN e 32 (by simp)], rfl⟩) (fun E2 e2 => ?_)
  have hX2 : Ext E E2 [] [(45, 0), (45, 1)] := hX1.trans e2
  refine s_aload_n dX0_init_14 0 rfl rfl ?_
  refine s_iload_n dX0_init_15 3 rfl rfl ?_
  refine k_putFi gc_X0_19 hin rfl (xmO hX2 hm45) rfl (ft_of rfl rfl) rfl rfl dX0_init_16 (fun s1 => ?_)
  refine s_aload_n dX0_init_19 0 rfl rfl ?_
  refine s_aload_n dX0_init_20 2 rfl rfl ?_
  refine s_callVpI (As := []) mf_X6_size vf_X6_size ml_X0_23 (c0_X6_size _ E2 0 (by decide) (xmO hX2 hm32) s1) (xmO hX2 hm32) (show kd 32 = 6 from rfl) (by decide) rfl rfl rfl rfl (Nat.le_of_ble_eq_true rfl) rfl dX0_init_21 (fun r2 => ?_)
  refine s_bipush (v := 8) dX0_init_24 (by decide) ?_
  refine s_imul dX0_init_26 ?_
  refine k_ckE (fun hk4 => ?_)
  refine k_newa (a := 46) (atype := .int) (fun F => [(0, rV F 45), (1, rV F 1), (2, rV F 32), (3, .int v3)]) (fun F => [rV F 45]) rfl rfl hq (xoN hX2) (xfN hX2 hf46 (by decide)) (by decide) rfl (Or.inl ⟨rfl, rfl⟩) rfl w_149 (by rw [hk4]; decide) (by rw [hk4]; decide) (by decide) 1 64 (by decide) (show 0 + ln 46 = 64 from by decide) (Nat.le_of_ble_eq_true rfl) (Nat.le_of_ble_eq_true rfl) dX0_init_27 (fun _ e => ⟨by simp only [rV, xaN e 45 (by decide), xaN e 1 (by decide), xaN e 32 (by decide)], by simp only [rV, xaN e 45 (by decide)]⟩) (fun E3 s3 e3 => ?_)
  have hX3 : Ext E E3 [46] [(45, 0), (45, 1)] := hX2.trans e3
  refine k_putr (b := 46) (fun F => [(0, rV F 45), (1, rV F 1), (2, rV F 32), (3, .int v3)]) (fun F => []) rfl rfl gc_X0_29 hin rfl (xoN hX3) (xmO hX3 hm45) rfl (xmN hX3 (by simp)) rfl (ft_of rfl rfl) rfl rfl dX0_init_29 (fun _ e => ⟨by simp only [rV, xaN e 45 (by simp), xaN e 1 (by simp), xaN e 32 (by simp)], rfl⟩) (fun E4 e4 => ?_)
  have hX4 : Ext E E4 [46] [(45, 0), (45, 1), (45, 3)] := hX3.trans e4
  refine s_aload_n dX0_init_32 0 rfl rfl ?_
  refine s_aload_n dX0_init_33 2 rfl rfl ?_
  refine s_callVpI (As := []) mf_X6_size vf_X6_size ml_X0_23 (c0_X6_size _ E4 0 (by decide) (xmO hX4 hm32) s3) (xmO hX4 hm32) (show kd 32 = 6 from rfl) (by decide) rfl rfl rfl rfl (Nat.le_of_ble_eq_true rfl) rfl dX0_init_34 (fun r5 => ?_)
  refine k_ckE (fun hk7 => ?_)
  refine k_newa (a := 47) (atype := .int) (fun F => [(0, rV F 45), (1, rV F 1), (2, rV F 32), (3, .int v3)]) (fun F => [rV F 45]) rfl rfl hq (xoN hX4) (xfN hX4 hf47 (by decide)) (by decide) rfl (Or.inl ⟨rfl, rfl⟩) rfl w_149 (by rw [hk7]; decide) (by rw [hk7]; decide) (by decide) 2 72 (by decide) (show 64 + ln 47 = 72 from by decide) (Nat.le_of_ble_eq_true rfl) (Nat.le_of_ble_eq_true rfl) dX0_init_37 (fun _ e => ⟨by simp only [rV, xaN e 45 (by decide), xaN e 1 (by decide), xaN e 32 (by decide)], by simp only [rV, xaN e 45 (by decide)]⟩) (fun E5 s6 e5 => ?_)
  have hX5 : Ext E E5 [46, 47] [(45, 0), (45, 1), (45, 3)] := hX4.trans e5
  refine k_putr (b := 47) (fun F => [(0, rV F 45), (1, rV F 1), (2, rV F 32), (3, .int v3)]) (fun F => []) rfl rfl gc_X0_33 hin rfl (xoN hX5) (xmO hX5 hm45) rfl (xmN hX5 (by simp)) rfl (ft_of rfl rfl) rfl rfl dX0_init_39 (fun _ e => ⟨by simp only [rV, xaN e 45 (by simp), xaN e 1 (by simp), xaN e 32 (by simp)], rfl⟩) (fun E6 e6 => ?_)
  have hX6 : Ext E E6 [46, 47] [(45, 0), (45, 1), (45, 3), (45, 4)] := hX5.trans e6
  refine s_aload_n dX0_init_42 0 rfl rfl ?_
  refine s_aload_n dX0_init_43 2 rfl rfl ?_
  refine s_callVpI (As := []) mf_X6_size vf_X6_size ml_X0_23 (c0_X6_size _ E6 0 (by decide) (xmO hX6 hm32) s6) (xmO hX6 hm32) (show kd 32 = 6 from rfl) (by decide) rfl rfl rfl rfl (Nat.le_of_ble_eq_true rfl) rfl dX0_init_44 (fun r8 => ?_)
  refine k_ckE (fun hk10 => ?_)
  refine k_newa (a := 48) (atype := .int) (fun F => [(0, rV F 45), (1, rV F 1), (2, rV F 32), (3, .int v3)]) (fun F => [rV F 45]) rfl rfl hq (xoN hX6) (xfN hX6 hf48 (by decide)) (by decide) rfl (Or.inl ⟨rfl, rfl⟩) rfl w_149 (by rw [hk10]; decide) (by rw [hk10]; decide) (by decide) 3 80 (by decide) (show 72 + ln 48 = 80 from by decide) (Nat.le_of_ble_eq_true rfl) (Nat.le_of_ble_eq_true rfl) dX0_init_47 (fun _ e => ⟨by simp only [rV, xaN e 45 (by decide), xaN e 1 (by decide), xaN e 32 (by decide)], by simp only [rV, xaN e 45 (by decide)]⟩) (fun E7 s9 e7 => ?_)
  have hX7 : Ext E E7 [46, 47, 48] [(45, 0), (45, 1), (45, 3), (45, 4)] := hX6.trans e7
  refine k_putr (b := 48) (fun F => [(0, rV F 45), (1, rV F 1), (2, rV F 32), (3, .int v3)]) (fun F => []) rfl rfl gc_X0_36 hin rfl (xoN hX7) (xmO hX7 hm45) rfl (xmN hX7 (by simp)) rfl (ft_of rfl rfl) rfl rfl dX0_init_49 (fun _ e => ⟨by simp only [rV, xaN e 45 (by simp), xaN e 1 (by simp), xaN e 32 (by simp)], rfl⟩) (fun E8 e8 => ?_)
  have hX8 : Ext E E8 [46, 47, 48] [(45, 0), (45, 1), (45, 3), (45, 4), (45, 5)] := hX7.trans e8
  refine s_aload_n dX0_init_52 0 rfl rfl ?_
  refine s_aload_n dX0_init_53 2 rfl rfl ?_
  refine s_callVpI (As := []) mf_X6_size vf_X6_size ml_X0_23 (c0_X6_size _ E8 0 (by decide) (xmO hX8 hm32) s9) (xmO hX8 hm32) (show kd 32 = 6 from rfl) (by decide) rfl rfl rfl rfl (Nat.le_of_ble_eq_true rfl) rfl dX0_init_54 (fun r11 => ?_)
  refine k_ckE (fun hk13 => ?_)
  refine k_newa (a := 49) (atype := .int) (fun F => [(0, rV F 45), (1, rV F 1), (2, rV F 32), (3, .int v3)]) (fun F => [rV F 45]) rfl rfl hq (xoN hX8) (xfN hX8 hf49 (by decide)) (by decide) rfl (Or.inl ⟨rfl, rfl⟩) rfl w_149 (by rw [hk13]; decide) (by rw [hk13]; decide) (by decide) 4 88 (by decide) (show 80 + ln 49 = 88 from by decide) (Nat.le_of_ble_eq_true rfl) (Nat.le_of_ble_eq_true rfl) dX0_init_57 (fun _ e => ⟨by simp only [rV, xaN e 45 (by decide), xaN e 1 (by decide), xaN e 32 (by decide)], by simp only [rV, xaN e 45 (by decide)]⟩) (fun E9 s12 e9 => ?_)
  have hX9 : Ext E E9 [46, 47, 48, 49] [(45, 0), (45, 1), (45, 3), (45, 4), (45, 5)] := hX8.trans e9
  refine k_putr (b := 49) (fun F => [(0, rV F 45), (1, rV F 1), (2, rV F 32), (3, .int v3)]) (fun F => []) rfl rfl gc_X0_39 hin rfl (xoN hX9) (xmO hX9 hm45) rfl (xmN hX9 (by simp)) rfl (ft_of rfl rfl) rfl rfl dX0_init_59 (fun _ e => ⟨by simp only [rV, xaN e 45 (by simp), xaN e 1 (by simp), xaN e 32 (by simp)], rfl⟩) (fun E10 e10 => ?_)
  have hX10 : Ext E E10 [46, 47, 48, 49] [(45, 0), (45, 1), (45, 3), (45, 4), (45, 5), (45, 6)] := hX9.trans e10
  refine s_aload_n dX0_init_62 0 rfl rfl ?_
  refine s_iconst (v := -1) dX0_init_63 (by decide) ?_
  refine s_puti gf_X0_42 rfl (xmO hX10 hm45) (show kd 45 = 0 from rfl) (ft_of (show kd 45 = 0 from rfl) rfl) dX0_init_64 (fun s14 => ?_)
  exact k_ret rfl rfl rfl rfl hX10 dX0_init_67
set_option maxHeartbeats 4000000 in
set_option maxRecDepth 100000 in
theorem c_X0_init_2 (l : Launch) (E : Ev) (hm50 : 50 ∈ E.2.2.2.1) (hm1 : 1 ∈ E.2.2.2.1) (hm32 : 32 ∈ E.2.2.2.1) (hf51 : 51 ∉ E.2.2.2.1) (hf52 : 52 ∉ E.2.2.2.1) (hf53 : 53 ∉ E.2.2.2.1) (hf54 : 54 ∉ E.2.2.2.1) (σ : St) (v3 : Int32) : CtrC l E md_X0_init_2 [rV E 50, rV E 1, rV E 32, .int v3] σ (f_X0_init σ 2 v3) [51, 52, 53, 54] [(50, 0), (50, 1), (50, 3), (50, 4), (50, 5), (50, 6)] := by
  refine ctrC_of rfl rfl (Nat.le_of_ble_eq_true rfl) (fun Γ sz hin hE hR hq => ?_)
  show Sim _ Γ (AX E sz, 0, 0) E md_X0_init_2 σ 0 [(0, rV E 50), (1, rV E 1), (2, rV E 32), (3, .int v3)] [] _
  unfold f_X0_init
  have hX0 : Ext E E [] [] := Ext.rf hE hR
  refine s_aload_n dX0_init_0 0 rfl rfl ?_
  refine s_objInit rfl w_214 oiI oiC rfl dX0_init_1 ?_
  refine s_aload_n dX0_init_4 0 rfl rfl ?_
  refine s_aload_n dX0_init_5 1 rfl rfl ?_
  refine k_putr (b := 1) (fun F => [(0, rV F 50), (1, rV F 1), (2, rV F 32), (3, .int v3)]) (fun F => []) rfl rfl gc_X0_9 hin rfl (xoN hX0) (xmO hX0 hm50) rfl (xmO hX0 hm1) rfl (ft_of rfl rfl) rfl rfl dX0_init_6 (fun _ e => ⟨by simp only [rV, xaN e 50 (by simp), xaN e 1 (by simp), xaN e 32 (by simp)], rfl⟩) (fun E1 e1 => ?_)
  have hX1 : Ext E E1 [] [(50, 0)] := hX0.trans e1
  refine s_aload_n dX0_init_9 0 rfl rfl ?_
  refine s_aload_n dX0_init_10 2 rfl rfl ?_
  refine k_putr (b := 32) (fun F => [(0, rV F 50), (1, rV F 1), (2, rV F 32), (3, .int v3)]) (fun F => []) rfl rfl gc_X0_15 hin rfl (xoN hX1) (xmO hX1 hm50) rfl (xmO hX1 hm32) rfl (ft_of rfl rfl) rfl rfl dX0_init_11 (fun _ e => ⟨by simp only [rV, xaN e 50 (by simp), xaN e 1 (by simp), xaN e 32 (by simp)], rfl⟩) (fun E2 e2 => ?_)
  have hX2 : Ext E E2 [] [(50, 0), (50, 1)] := hX1.trans e2
  refine s_aload_n dX0_init_14 0 rfl rfl ?_
  refine s_iload_n dX0_init_15 3 rfl rfl ?_
  refine k_putFi gc_X0_19 hin rfl (xmO hX2 hm50) rfl (ft_of rfl rfl) rfl rfl dX0_init_16 (fun s1 => ?_)
  refine s_aload_n dX0_init_19 0 rfl rfl ?_
  refine s_aload_n dX0_init_20 2 rfl rfl ?_
  refine s_callVpI (As := []) mf_X6_size vf_X6_size ml_X0_23 (c0_X6_size _ E2 0 (by decide) (xmO hX2 hm32) s1) (xmO hX2 hm32) (show kd 32 = 6 from rfl) (by decide) rfl rfl rfl rfl (Nat.le_of_ble_eq_true rfl) rfl dX0_init_21 (fun r2 => ?_)
  refine s_bipush (v := 8) dX0_init_24 (by decide) ?_
  refine s_imul dX0_init_26 ?_
  refine k_ckE (fun hk4 => ?_)
  refine k_newa (a := 51) (atype := .int) (fun F => [(0, rV F 50), (1, rV F 1), (2, rV F 32), (3, .int v3)]) (fun F => [rV F 50]) rfl rfl hq (xoN hX2) (xfN hX2 hf51 (by decide)) (by decide) rfl (Or.inl ⟨rfl, rfl⟩) rfl w_149 (by rw [hk4]; decide) (by rw [hk4]; decide) (by decide) 1 64 (by decide) (show 0 + ln 51 = 64 from by decide) (Nat.le_of_ble_eq_true rfl) (Nat.le_of_ble_eq_true rfl) dX0_init_27 (fun _ e => ⟨by simp only [rV, xaN e 50 (by decide), xaN e 1 (by decide), xaN e 32 (by decide)], by simp only [rV, xaN e 50 (by decide)]⟩) (fun E3 s3 e3 => ?_)
  have hX3 : Ext E E3 [51] [(50, 0), (50, 1)] := hX2.trans e3
  refine k_putr (b := 51) (fun F => [(0, rV F 50), (1, rV F 1), (2, rV F 32), (3, .int v3)]) (fun F => []) rfl rfl gc_X0_29 hin rfl (xoN hX3) (xmO hX3 hm50) rfl (xmN hX3 (by simp)) rfl (ft_of rfl rfl) rfl rfl dX0_init_29 (fun _ e => ⟨by simp only [rV, xaN e 50 (by simp), xaN e 1 (by simp), xaN e 32 (by simp)], rfl⟩) (fun E4 e4 => ?_)
  have hX4 : Ext E E4 [51] [(50, 0), (50, 1), (50, 3)] := hX3.trans e4
  refine s_aload_n dX0_init_32 0 rfl rfl ?_
  refine s_aload_n dX0_init_33 2 rfl rfl ?_
  refine s_callVpI (As := []) mf_X6_size vf_X6_size ml_X0_23 (c0_X6_size _ E4 0 (by decide) (xmO hX4 hm32) s3) (xmO hX4 hm32) (show kd 32 = 6 from rfl) (by decide) rfl rfl rfl rfl (Nat.le_of_ble_eq_true rfl) rfl dX0_init_34 (fun r5 => ?_)
  refine k_ckE (fun hk7 => ?_)
  refine k_newa (a := 52) (atype := .int) (fun F => [(0, rV F 50), (1, rV F 1), (2, rV F 32), (3, .int v3)]) (fun F => [rV F 50]) rfl rfl hq (xoN hX4) (xfN hX4 hf52 (by decide)) (by decide) rfl (Or.inl ⟨rfl, rfl⟩) rfl w_149 (by rw [hk7]; decide) (by rw [hk7]; decide) (by decide) 2 72 (by decide) (show 64 + ln 52 = 72 from by decide) (Nat.le_of_ble_eq_true rfl) (Nat.le_of_ble_eq_true rfl) dX0_init_37 (fun _ e => ⟨by simp only [rV, xaN e 50 (by decide), xaN e 1 (by decide), xaN e 32 (by decide)], by simp only [rV, xaN e 50 (by decide)]⟩) (fun E5 s6 e5 => ?_)
  have hX5 : Ext E E5 [51, 52] [(50, 0), (50, 1), (50, 3)] := hX4.trans e5
  refine k_putr (b := 52) (fun F => [(0, rV F 50), (1, rV F 1), (2, rV F 32), (3, .int v3)]) (fun F => []) rfl rfl gc_X0_33 hin rfl (xoN hX5) (xmO hX5 hm50) rfl (xmN hX5 (by simp)) rfl (ft_of rfl rfl) rfl rfl dX0_init_39 (fun _ e => ⟨by simp only [rV, xaN e 50 (by simp), xaN e 1 (by simp), xaN e 32 (by simp)], rfl⟩) (fun E6 e6 => ?_)
  have hX6 : Ext E E6 [51, 52] [(50, 0), (50, 1), (50, 3), (50, 4)] := hX5.trans e6
  refine s_aload_n dX0_init_42 0 rfl rfl ?_
  refine s_aload_n dX0_init_43 2 rfl rfl ?_
  refine s_callVpI (As := []) mf_X6_size vf_X6_size ml_X0_23 (c0_X6_size _ E6 0 (by decide) (xmO hX6 hm32) s6) (xmO hX6 hm32) (show kd 32 = 6 from rfl) (by decide) rfl rfl rfl rfl (Nat.le_of_ble_eq_true rfl) rfl dX0_init_44 (fun r8 => ?_)
  refine k_ckE (fun hk10 => ?_)
  refine k_newa (a := 53) (atype := .int) (fun F => [(0, rV F 50), (1, rV F 1), (2, rV F 32), (3, .int v3)]) (fun F => [rV F 50]) rfl rfl hq (xoN hX6) (xfN hX6 hf53 (by decide)) (by decide) rfl (Or.inl ⟨rfl, rfl⟩) rfl w_149 (by rw [hk10]; decide) (by rw [hk10]; decide) (by decide) 3 80 (by decide) (show 72 + ln 53 = 80 from by decide) (Nat.le_of_ble_eq_true rfl) (Nat.le_of_ble_eq_true rfl) dX0_init_47 (fun _ e => ⟨by simp only [rV, xaN e 50 (by decide), xaN e 1 (by decide), xaN e 32 (by decide)], by simp only [rV, xaN e 50 (by decide)]⟩) (fun E7 s9 e7 => ?_)
  have hX7 : Ext E E7 [51, 52, 53] [(50, 0), (50, 1), (50, 3), (50, 4)] := hX6.trans e7
  refine k_putr (b := 53) (fun F => [(0, rV F 50), (1, rV F 1), (2, rV F 32), (3, .int v3)]) (fun F => []) rfl rfl gc_X0_36 hin rfl (xoN hX7) (xmO hX7 hm50) rfl (xmN hX7 (by simp)) rfl (ft_of rfl rfl) rfl rfl dX0_init_49 (fun _ e => ⟨by simp only [rV, xaN e 50 (by simp), xaN e 1 (by simp), xaN e 32 (by simp)], rfl⟩) (fun E8 e8 => ?_)
  have hX8 : Ext E E8 [51, 52, 53] [(50, 0), (50, 1), (50, 3), (50, 4), (50, 5)] := hX7.trans e8
  refine s_aload_n dX0_init_52 0 rfl rfl ?_
  refine s_aload_n dX0_init_53 2 rfl rfl ?_
  refine s_callVpI (As := []) mf_X6_size vf_X6_size ml_X0_23 (c0_X6_size _ E8 0 (by decide) (xmO hX8 hm32) s9) (xmO hX8 hm32) (show kd 32 = 6 from rfl) (by decide) rfl rfl rfl rfl (Nat.le_of_ble_eq_true rfl) rfl dX0_init_54 (fun r11 => ?_)
  refine k_ckE (fun hk13 => ?_)
  refine k_newa (a := 54) (atype := .int) (fun F => [(0, rV F 50), (1, rV F 1), (2, rV F 32), (3, .int v3)]) (fun F => [rV F 50]) rfl rfl hq (xoN hX8) (xfN hX8 hf54 (by decide)) (by decide) rfl (Or.inl ⟨rfl, rfl⟩) rfl w_149 (by rw [hk13]; decide) (by rw [hk13]; decide) (by decide) 4 88 (by decide) (show 80 + ln 54 = 88 from by decide) (Nat.le_of_ble_eq_true rfl) (Nat.le_of_ble_eq_true rfl) dX0_init_57 (fun _ e => ⟨by simp only [rV, xaN e 50 (by decide), xaN e 1 (by decide), xaN e 32 (by decide)], by simp only [rV, xaN e 50 (by decide)]⟩) (fun E9 s12 e9 => ?_)
  have hX9 : Ext E E9 [51, 52, 53, 54] [(50, 0), (50, 1), (50, 3), (50, 4), (50, 5)] := hX8.trans e9
  refine k_putr (b := 54) (fun F => [(0, rV F 50), (1, rV F 1), (2, rV F 32), (3, .int v3)]) (fun F => []) rfl rfl gc_X0_39 hin rfl (xoN hX9) (xmO hX9 hm50) rfl (xmN hX9 (by simp)) rfl (ft_of rfl rfl) rfl rfl dX0_init_59 (fun _ e => ⟨by simp only [rV, xaN e 50 (by simp), xaN e 1 (by simp), xaN e 32 (by simp)], rfl⟩) (fun E10 e10 => ?_)
  have hX10 : Ext E E10 [51, 52, 53, 54] [(50, 0), (50, 1), (50, 3), (50, 4), (50, 5), (50, 6)] := hX9.trans e10
  refine s_aload_n dX0_init_62 0 rfl rfl ?_
  refine s_iconst (v := -1) dX0_init_63 (by decide) ?_
  refine s_puti gf_X0_42 rfl (xmO hX10 hm50) (show kd 50 = 0 from rfl) (ft_of (show kd 50 = 0 from rfl) rfl) dX0_init_64 (fun s14 => ?_)
  exact k_ret rfl rfl rfl rfl hX10 dX0_init_67
set_option maxHeartbeats 4000000 in
set_option maxRecDepth 100000 in
theorem c_X0_init_3 (l : Launch) (E : Ev) (hm55 : 55 ∈ E.2.2.2.1) (hm1 : 1 ∈ E.2.2.2.1) (hm34 : 34 ∈ E.2.2.2.1) (hf56 : 56 ∉ E.2.2.2.1) (hf57 : 57 ∉ E.2.2.2.1) (hf58 : 58 ∉ E.2.2.2.1) (hf59 : 59 ∉ E.2.2.2.1) (σ : St) (v3 : Int32) : CtrC l E md_X0_init_3 [rV E 55, rV E 1, rV E 34, .int v3] σ (f_X0_init σ 3 v3) [56, 57, 58, 59] [(55, 0), (55, 1), (55, 3), (55, 4), (55, 5), (55, 6)] := by
  refine ctrC_of rfl rfl (Nat.le_of_ble_eq_true rfl) (fun Γ sz hin hE hR hq => ?_)
  show Sim _ Γ (AX E sz, 0, 0) E md_X0_init_3 σ 0 [(0, rV E 55), (1, rV E 1), (2, rV E 34), (3, .int v3)] [] _
  unfold f_X0_init
  have hX0 : Ext E E [] [] := Ext.rf hE hR
  refine s_aload_n dX0_init_0 0 rfl rfl ?_
  refine s_objInit rfl w_214 oiI oiC rfl dX0_init_1 ?_
  refine s_aload_n dX0_init_4 0 rfl rfl ?_
  refine s_aload_n dX0_init_5 1 rfl rfl ?_
  refine k_putr (b := 1) (fun F => [(0, rV F 55), (1, rV F 1), (2, rV F 34), (3, .int v3)]) (fun F => []) rfl rfl gc_X0_9 hin rfl (xoN hX0) (xmO hX0 hm55) rfl (xmO hX0 hm1) rfl (ft_of rfl rfl) rfl rfl dX0_init_6 (fun _ e => ⟨by simp only [rV, xaN e 55 (by simp), xaN e 1 (by simp), xaN e 34 (by simp)], rfl⟩) (fun E1 e1 => ?_)
  have hX1 : Ext E E1 [] [(55, 0)] := hX0.trans e1
  refine s_aload_n dX0_init_9 0 rfl rfl ?_
  refine s_aload_n dX0_init_10 2 rfl rfl ?_
  refine k_putr (b := 34) (fun F => [(0, rV F 55), (1, rV F 1), (2, rV F 34), (3, .int v3)]) (fun F => []) rfl rfl gc_X0_15 hin rfl (xoN hX1) (xmO hX1 hm55) rfl (xmO hX1 hm34) rfl (ft_of rfl rfl) rfl rfl dX0_init_11 (fun _ e => ⟨by simp only [rV, xaN e 55 (by simp), xaN e 1 (by simp), xaN e 34 (by simp)], rfl⟩) (fun E2 e2 => ?_)
  have hX2 : Ext E E2 [] [(55, 0), (55, 1)] := hX1.trans e2
  refine s_aload_n dX0_init_14 0 rfl rfl ?_
  refine s_iload_n dX0_init_15 3 rfl rfl ?_
  refine k_putFi gc_X0_19 hin rfl (xmO hX2 hm55) rfl (ft_of rfl rfl) rfl rfl dX0_init_16 (fun s1 => ?_)
  refine s_aload_n dX0_init_19 0 rfl rfl ?_
  refine s_aload_n dX0_init_20 2 rfl rfl ?_
  refine s_callVpI (As := []) mf_X6_size vf_X6_size ml_X0_23 (c0_X6_size _ E2 1 (by decide) (xmO hX2 hm34) s1) (xmO hX2 hm34) (show kd 34 = 6 from rfl) (by decide) rfl rfl rfl rfl (Nat.le_of_ble_eq_true rfl) rfl dX0_init_21 (fun r2 => ?_)
  refine s_bipush (v := 8) dX0_init_24 (by decide) ?_
  refine s_imul dX0_init_26 ?_
  refine k_ckE (fun hk4 => ?_)
  refine k_newa (a := 56) (atype := .int) (fun F => [(0, rV F 55), (1, rV F 1), (2, rV F 34), (3, .int v3)]) (fun F => [rV F 55]) rfl rfl hq (xoN hX2) (xfN hX2 hf56 (by decide)) (by decide) rfl (Or.inl ⟨rfl, rfl⟩) rfl w_149 (by rw [hk4]; decide) (by rw [hk4]; decide) (by decide) 1 512 (by decide) (show 0 + ln 56 = 512 from by decide) (Nat.le_of_ble_eq_true rfl) (Nat.le_of_ble_eq_true rfl) dX0_init_27 (fun _ e => ⟨by simp only [rV, xaN e 55 (by decide), xaN e 1 (by decide), xaN e 34 (by decide)], by simp only [rV, xaN e 55 (by decide)]⟩) (fun E3 s3 e3 => ?_)
  have hX3 : Ext E E3 [56] [(55, 0), (55, 1)] := hX2.trans e3
  refine k_putr (b := 56) (fun F => [(0, rV F 55), (1, rV F 1), (2, rV F 34), (3, .int v3)]) (fun F => []) rfl rfl gc_X0_29 hin rfl (xoN hX3) (xmO hX3 hm55) rfl (xmN hX3 (by simp)) rfl (ft_of rfl rfl) rfl rfl dX0_init_29 (fun _ e => ⟨by simp only [rV, xaN e 55 (by simp), xaN e 1 (by simp), xaN e 34 (by simp)], rfl⟩) (fun E4 e4 => ?_)
  have hX4 : Ext E E4 [56] [(55, 0), (55, 1), (55, 3)] := hX3.trans e4
  refine s_aload_n dX0_init_32 0 rfl rfl ?_
  refine s_aload_n dX0_init_33 2 rfl rfl ?_
  refine s_callVpI (As := []) mf_X6_size vf_X6_size ml_X0_23 (c0_X6_size _ E4 1 (by decide) (xmO hX4 hm34) s3) (xmO hX4 hm34) (show kd 34 = 6 from rfl) (by decide) rfl rfl rfl rfl (Nat.le_of_ble_eq_true rfl) rfl dX0_init_34 (fun r5 => ?_)
  refine k_ckE (fun hk7 => ?_)
  refine k_newa (a := 57) (atype := .int) (fun F => [(0, rV F 55), (1, rV F 1), (2, rV F 34), (3, .int v3)]) (fun F => [rV F 55]) rfl rfl hq (xoN hX4) (xfN hX4 hf57 (by decide)) (by decide) rfl (Or.inl ⟨rfl, rfl⟩) rfl w_149 (by rw [hk7]; decide) (by rw [hk7]; decide) (by decide) 2 576 (by decide) (show 512 + ln 57 = 576 from by decide) (Nat.le_of_ble_eq_true rfl) (Nat.le_of_ble_eq_true rfl) dX0_init_37 (fun _ e => ⟨by simp only [rV, xaN e 55 (by decide), xaN e 1 (by decide), xaN e 34 (by decide)], by simp only [rV, xaN e 55 (by decide)]⟩) (fun E5 s6 e5 => ?_)
  have hX5 : Ext E E5 [56, 57] [(55, 0), (55, 1), (55, 3)] := hX4.trans e5
  refine k_putr (b := 57) (fun F => [(0, rV F 55), (1, rV F 1), (2, rV F 34), (3, .int v3)]) (fun F => []) rfl rfl gc_X0_33 hin rfl (xoN hX5) (xmO hX5 hm55) rfl (xmN hX5 (by simp)) rfl (ft_of rfl rfl) rfl rfl dX0_init_39 (fun _ e => ⟨by simp only [rV, xaN e 55 (by simp), xaN e 1 (by simp), xaN e 34 (by simp)], rfl⟩) (fun E6 e6 => ?_)
  have hX6 : Ext E E6 [56, 57] [(55, 0), (55, 1), (55, 3), (55, 4)] := hX5.trans e6
  refine s_aload_n dX0_init_42 0 rfl rfl ?_
  refine s_aload_n dX0_init_43 2 rfl rfl ?_
  refine s_callVpI (As := []) mf_X6_size vf_X6_size ml_X0_23 (c0_X6_size _ E6 1 (by decide) (xmO hX6 hm34) s6) (xmO hX6 hm34) (show kd 34 = 6 from rfl) (by decide) rfl rfl rfl rfl (Nat.le_of_ble_eq_true rfl) rfl dX0_init_44 (fun r8 => ?_)
  refine k_ckE (fun hk10 => ?_)
  refine k_newa (a := 58) (atype := .int) (fun F => [(0, rV F 55), (1, rV F 1), (2, rV F 34), (3, .int v3)]) (fun F => [rV F 55]) rfl rfl hq (xoN hX6) (xfN hX6 hf58 (by decide)) (by decide) rfl (Or.inl ⟨rfl, rfl⟩) rfl w_149 (by rw [hk10]; decide) (by rw [hk10]; decide) (by decide) 3 640 (by decide) (show 576 + ln 58 = 640 from by decide) (Nat.le_of_ble_eq_true rfl) (Nat.le_of_ble_eq_true rfl) dX0_init_47 (fun _ e => ⟨by simp only [rV, xaN e 55 (by decide), xaN e 1 (by decide), xaN e 34 (by decide)], by simp only [rV, xaN e 55 (by decide)]⟩) (fun E7 s9 e7 => ?_)
  have hX7 : Ext E E7 [56, 57, 58] [(55, 0), (55, 1), (55, 3), (55, 4)] := hX6.trans e7
  refine k_putr (b := 58) (fun F => [(0, rV F 55), (1, rV F 1), (2, rV F 34), (3, .int v3)]) (fun F => []) rfl rfl gc_X0_36 hin rfl (xoN hX7) (xmO hX7 hm55) rfl (xmN hX7 (by simp)) rfl (ft_of rfl rfl) rfl rfl dX0_init_49 (fun _ e => ⟨by simp only [rV, xaN e 55 (by simp), xaN e 1 (by simp), xaN e 34 (by simp)], rfl⟩) (fun E8 e8 => ?_)
  have hX8 : Ext E E8 [56, 57, 58] [(55, 0), (55, 1), (55, 3), (55, 4), (55, 5)] := hX7.trans e8
  refine s_aload_n dX0_init_52 0 rfl rfl ?_
  refine s_aload_n dX0_init_53 2 rfl rfl ?_
  refine s_callVpI (As := []) mf_X6_size vf_X6_size ml_X0_23 (c0_X6_size _ E8 1 (by decide) (xmO hX8 hm34) s9) (xmO hX8 hm34) (show kd 34 = 6 from rfl) (by decide) rfl rfl rfl rfl (Nat.le_of_ble_eq_true rfl) rfl dX0_init_54 (fun r11 => ?_)
  refine k_ckE (fun hk13 => ?_)
  refine k_newa (a := 59) (atype := .int) (fun F => [(0, rV F 55), (1, rV F 1), (2, rV F 34), (3, .int v3)]) (fun F => [rV F 55]) rfl rfl hq (xoN hX8) (xfN hX8 hf59 (by decide)) (by decide) rfl (Or.inl ⟨rfl, rfl⟩) rfl w_149 (by rw [hk13]; decide) (by rw [hk13]; decide) (by decide) 4 704 (by decide) (show 640 + ln 59 = 704 from by decide) (Nat.le_of_ble_eq_true rfl) (Nat.le_of_ble_eq_true rfl) dX0_init_57 (fun _ e => ⟨by simp only [rV, xaN e 55 (by decide), xaN e 1 (by decide), xaN e 34 (by decide)], by simp only [rV, xaN e 55 (by decide)]⟩) (fun E9 s12 e9 => ?_)
  have hX9 : Ext E E9 [56, 57, 58, 59] [(55, 0), (55, 1), (55, 3), (55, 4), (55, 5)] := hX8.trans e9
  refine k_putr (b := 59) (fun F => [(0, rV F 55), (1, rV F 1), (2, rV F 34), (3, .int v3)]) (fun F => []) rfl rfl gc_X0_39 hin rfl (xoN hX9) (xmO hX9 hm55) rfl (xmN hX9 (by simp)) rfl (ft_of rfl rfl) rfl rfl dX0_init_59 (fun _ e => ⟨by simp only [rV, xaN e 55 (by simp), xaN e 1 (by simp), xaN e 34 (by simp)], rfl⟩) (fun E10 e10 => ?_)
  have hX10 : Ext E E10 [56, 57, 58, 59] [(55, 0), (55, 1), (55, 3), (55, 4), (55, 5), (55, 6)] := hX9.trans e10
  refine s_aload_n dX0_init_62 0 rfl rfl ?_
  refine s_iconst (v := -1) dX0_init_63 (by decide) ?_
  refine s_puti gf_X0_42 rfl (xmO hX10 hm55) (show kd 55 = 0 from rfl) (ft_of (show kd 55 = 0 from rfl) rfl) dX0_init_64 (fun s14 => ?_)
  exact k_ret rfl rfl rfl rfl hX10 dX0_init_67
set_option maxHeartbeats 4000000 in
set_option maxRecDepth 100000 in
theorem c_X0_init_4 (l : Launch) (E : Ev) (hm60 : 60 ∈ E.2.2.2.1) (hm1 : 1 ∈ E.2.2.2.1) (hm34 : 34 ∈ E.2.2.2.1) (hf61 : 61 ∉ E.2.2.2.1) (hf62 : 62 ∉ E.2.2.2.1) (hf63 : 63 ∉ E.2.2.2.1) (hf64 : 64 ∉ E.2.2.2.1) (σ : St) (v3 : Int32) : CtrC l E md_X0_init_4 [rV E 60, rV E 1, rV E 34, .int v3] σ (f_X0_init σ 4 v3) [61, 62, 63, 64] [(60, 0), (60, 1), (60, 3), (60, 4), (60, 5), (60, 6)] := by
  refine ctrC_of rfl rfl (Nat.le_of_ble_eq_true rfl) (fun Γ sz hin hE hR hq => ?_)
  show Sim _ Γ (AX E sz, 0, 0) E md_X0_init_4 σ 0 [(0, rV E 60), (1, rV E 1), (2, rV E 34), (3, .int v3)] [] _
  unfold f_X0_init
  have hX0 : Ext E E [] [] := Ext.rf hE hR
  refine s_aload_n dX0_init_0 0 rfl rfl ?_
  refine s_objInit rfl w_214 oiI oiC rfl dX0_init_1 ?_
  refine s_aload_n dX0_init_4 0 rfl rfl ?_
  refine s_aload_n dX0_init_5 1 rfl rfl ?_
  refine k_putr (b := 1) (fun F => [(0, rV F 60), (1, rV F 1), (2, rV F 34), (3, .int v3)]) (fun F => []) rfl rfl gc_X0_9 hin rfl (xoN hX0) (xmO hX0 hm60) rfl (xmO hX0 hm1) rfl (ft_of rfl rfl) rfl rfl dX0_init_6 (fun _ e => ⟨by simp only [rV, xaN e 60 (by simp), xaN e 1 (by simp), xaN e 34 (by simp)], rfl⟩) (fun E1 e1 => ?_)
  have hX1 : Ext E E1 [] [(60, 0)] := hX0.trans e1
  refine s_aload_n dX0_init_9 0 rfl rfl ?_
  refine s_aload_n dX0_init_10 2 rfl rfl ?_
  refine k_putr (b := 34) (fun F => [(0, rV F 60), (1, rV F 1), (2, rV F 34), (3, .int v3)]) (fun F => []) rfl rfl gc_X0_15 hin rfl (xoN hX1) (xmO hX1 hm60) rfl (xmO hX1 hm34) rfl (ft_of rfl rfl) rfl rfl dX0_init_11 (fun _ e => ⟨by simp only [rV, xaN e 60 (by simp), xaN e 1 (by simp), xaN e 34 (by simp)], rfl⟩) (fun E2 e2 => ?_)
  have hX2 : Ext E E2 [] [(60, 0), (60, 1)] := hX1.trans e2
  refine s_aload_n dX0_init_14 0 rfl rfl ?_
  refine s_iload_n dX0_init_15 3 rfl rfl ?_
  refine k_putFi gc_X0_19 hin rfl (xmO hX2 hm60) rfl (ft_of rfl rfl) rfl rfl dX0_init_16 (fun s1 => ?_)
  refine s_aload_n dX0_init_19 0 rfl rfl ?_
  refine s_aload_n dX0_init_20 2 rfl rfl ?_
  refine s_callVpI (As := []) mf_X6_size vf_X6_size ml_X0_23 (c0_X6_size _ E2 1 (by decide) (xmO hX2 hm34) s1) (xmO hX2 hm34) (show kd 34 = 6 from rfl) (by decide) rfl rfl rfl rfl (Nat.le_of_ble_eq_true rfl) rfl dX0_init_21 (fun r2 => ?_)
  refine s_bipush (v := 8) dX0_init_24 (by decide) ?_
  refine s_imul dX0_init_26 ?_
  refine k_ckE (fun hk4 => ?_)
  refine k_newa (a := 61) (atype := .int) (fun F => [(0, rV F 60), (1, rV F 1), (2, rV F 34), (3, .int v3)]) (fun F => [rV F 60]) rfl rfl hq (xoN hX2) (xfN hX2 hf61 (by decide)) (by decide) rfl (Or.inl ⟨rfl, rfl⟩) rfl w_149 (by rw [hk4]; decide) (by rw [hk4]; decide) (by decide) 1 512 (by decide) (show 0 + ln 61 = 512 from by decide) (Nat.le_of_ble_eq_true rfl) (Nat.le_of_ble_eq_true rfl) dX0_init_27 (fun _ e => ⟨by simp only [rV, xaN e 60 (by decide), xaN e 1 (by decide), xaN e 34 (by decide)], by simp only [rV, xaN e 60 (by decide)]⟩) (fun E3 s3 e3 => ?_)
  have hX3 : Ext E E3 [61] [(60, 0), (60, 1)] := hX2.trans e3
  refine k_putr (b := 61) (fun F => [(0, rV F 60), (1, rV F 1), (2, rV F 34), (3, .int v3)]) (fun F => []) rfl rfl gc_X0_29 hin rfl (xoN hX3) (xmO hX3 hm60) rfl (xmN hX3 (by simp)) rfl (ft_of rfl rfl) rfl rfl dX0_init_29 (fun _ e => ⟨by simp only [rV, xaN e 60 (by simp), xaN e 1 (by simp), xaN e 34 (by simp)], rfl⟩) (fun E4 e4 => ?_)
  have hX4 : Ext E E4 [61] [(60, 0), (60, 1), (60, 3)] := hX3.trans e4
  refine s_aload_n dX0_init_32 0 rfl rfl ?_
  refine s_aload_n dX0_init_33 2 rfl rfl ?_
  refine s_callVpI (As := []) mf_X6_size vf_X6_size ml_X0_23 (c0_X6_size _ E4 1 (by decide) (xmO hX4 hm34) s3) (xmO hX4 hm34) (show kd 34 = 6 from rfl) (by decide) rfl rfl rfl rfl (Nat.le_of_ble_eq_true rfl) rfl dX0_init_34 (fun r5 => ?_)
  refine k_ckE (fun hk7 => ?_)
  refine k_newa (a := 62) (atype := .int) (fun F => [(0, rV F 60), (1, rV F 1), (2, rV F 34), (3, .int v3)]) (fun F => [rV F 60]) rfl rfl hq (xoN hX4) (xfN hX4 hf62 (by decide)) (by decide) rfl (Or.inl ⟨rfl, rfl⟩) rfl w_149 (by rw [hk7]; decide) (by rw [hk7]; decide) (by decide) 2 576 (by decide) (show 512 + ln 62 = 576 from by decide) (Nat.le_of_ble_eq_true rfl) (Nat.le_of_ble_eq_true rfl) dX0_init_37 (fun _ e => ⟨by simp only [rV, xaN e 60 (by decide), xaN e 1 (by decide), xaN e 34 (by decide)], by simp only [rV, xaN e 60 (by decide)]⟩) (fun E5 s6 e5 => ?_)
  have hX5 : Ext E E5 [61, 62] [(60, 0), (60, 1), (60, 3)] := hX4.trans e5
  refine k_putr (b := 62) (fun F => [(0, rV F 60), (1, rV F 1), (2, rV F 34), (3, .int v3)]) (fun F => []) rfl rfl gc_X0_33 hin rfl (xoN hX5) (xmO hX5 hm60) rfl (xmN hX5 (by simp)) rfl (ft_of rfl rfl) rfl rfl dX0_init_39 (fun _ e => ⟨by simp only [rV, xaN e 60 (by simp), xaN e 1 (by simp), xaN e 34 (by simp)], rfl⟩) (fun E6 e6 => ?_)
  have hX6 : Ext E E6 [61, 62] [(60, 0), (60, 1), (60, 3), (60, 4)] := hX5.trans e6
  refine s_aload_n dX0_init_42 0 rfl rfl ?_
  refine s_aload_n dX0_init_43 2 rfl rfl ?_
  refine s_callVpI (As := []) mf_X6_size vf_X6_size ml_X0_23 (c0_X6_size _ E6 1 (by decide) (xmO hX6 hm34) s6) (xmO hX6 hm34) (show kd 34 = 6 from rfl) (by decide) rfl rfl rfl rfl (Nat.le_of_ble_eq_true rfl) rfl dX0_init_44 (fun r8 => ?_)
  refine k_ckE (fun hk10 => ?_)
  refine k_newa (a := 63) (atype := .int) (fun F => [(0, rV F 60), (1, rV F 1), (2, rV F 34), (3, .int v3)]) (fun F => [rV F 60]) rfl rfl hq (xoN hX6) (xfN hX6 hf63 (by decide)) (by decide) rfl (Or.inl ⟨rfl, rfl⟩) rfl w_149 (by rw [hk10]; decide) (by rw [hk10]; decide) (by decide) 3 640 (by decide) (show 576 + ln 63 = 640 from by decide) (Nat.le_of_ble_eq_true rfl) (Nat.le_of_ble_eq_true rfl) dX0_init_47 (fun _ e => ⟨by simp only [rV, xaN e 60 (by decide), xaN e 1 (by decide), xaN e 34 (by decide)], by simp only [rV, xaN e 60 (by decide)]⟩) (fun E7 s9 e7 => ?_)
  have hX7 : Ext E E7 [61, 62, 63] [(60, 0), (60, 1), (60, 3), (60, 4)] := hX6.trans e7
  refine k_putr (b := 63) (fun F => [(0, rV F 60), (1, rV F 1), (2, rV F 34), (3, .int v3)]) (fun F => []) rfl rfl gc_X0_36 hin rfl (xoN hX7) (xmO hX7 hm60) rfl (xmN hX7 (by simp)) rfl (ft_of rfl rfl) rfl rfl dX0_init_49 (fun _ e => ⟨by simp only [rV, xaN e 60 (by simp), xaN e 1 (by simp), xaN e 34 (by simp)], rfl⟩) (fun E8 e8 => ?_)
  have hX8 : Ext E E8 [61, 62, 63] [(60, 0), (60, 1), (60, 3), (60, 4), (60, 5)] := hX7.trans e8
  refine s_aload_n dX0_init_52 0 rfl rfl ?_
  refine s_aload_n dX0_init_53 2 rfl rfl ?_
  refine s_callVpI (As := []) mf_X6_size vf_X6_size ml_X0_23 (c0_X6_size _ E8 1 (by decide) (xmO hX8 hm34) s9) (xmO hX8 hm34) (show kd 34 = 6 from rfl) (by decide) rfl rfl rfl rfl (Nat.le_of_ble_eq_true rfl) rfl dX0_init_54 (fun r11 => ?_)
  refine k_ckE (fun hk13 => ?_)
  refine k_newa (a := 64) (atype := .int) (fun F => [(0, rV F 60), (1, rV F 1), (2, rV F 34), (3, .int v3)]) (fun F => [rV F 60]) rfl rfl hq (xoN hX8) (xfN hX8 hf64 (by decide)) (by decide) rfl (Or.inl ⟨rfl, rfl⟩) rfl w_149 (by rw [hk13]; decide) (by rw [hk13]; decide) (by decide) 4 704 (by decide) (show 640 + ln 64 = 704 from by decide) (Nat.le_of_ble_eq_true rfl) (Nat.le_of_ble_eq_true rfl) dX0_init_57 (fun _ e => ⟨by simp only [rV, xaN e 60 (by decide), xaN e 1 (by decide), xaN e 34 (by decide)], by simp only [rV, xaN e 60 (by decide)]⟩) (fun E9 s12 e9 => ?_)
  have hX9 : Ext E E9 [61, 62, 63, 64] [(60, 0), (60, 1), (60, 3), (60, 4), (60, 5)] := hX8.trans e9
  refine k_putr (b := 64) (fun F => [(0, rV F 60), (1, rV F 1), (2, rV F 34), (3, .int v3)]) (fun F => []) rfl rfl gc_X0_39 hin rfl (xoN hX9) (xmO hX9 hm60) rfl (xmN hX9 (by simp)) rfl (ft_of rfl rfl) rfl rfl dX0_init_59 (fun _ e => ⟨by simp only [rV, xaN e 60 (by simp), xaN e 1 (by simp), xaN e 34 (by simp)], rfl⟩) (fun E10 e10 => ?_)
  have hX10 : Ext E E10 [61, 62, 63, 64] [(60, 0), (60, 1), (60, 3), (60, 4), (60, 5), (60, 6)] := hX9.trans e10
  refine s_aload_n dX0_init_62 0 rfl rfl ?_
  refine s_iconst (v := -1) dX0_init_63 (by decide) ?_
  refine s_puti gf_X0_42 rfl (xmO hX10 hm60) (show kd 60 = 0 from rfl) (ft_of (show kd 60 = 0 from rfl) rfl) dX0_init_64 (fun s14 => ?_)
  exact k_ret rfl rfl rfl rfl hX10 dX0_init_67
set_option maxHeartbeats 4000000 in
set_option maxRecDepth 100000 in
theorem c_X0_init_5 (l : Launch) (E : Ev) (hm65 : 65 ∈ E.2.2.2.1) (hm1 : 1 ∈ E.2.2.2.1) (hm34 : 34 ∈ E.2.2.2.1) (hf66 : 66 ∉ E.2.2.2.1) (hf67 : 67 ∉ E.2.2.2.1) (hf68 : 68 ∉ E.2.2.2.1) (hf69 : 69 ∉ E.2.2.2.1) (σ : St) (v3 : Int32) : CtrC l E md_X0_init_5 [rV E 65, rV E 1, rV E 34, .int v3] σ (f_X0_init σ 5 v3) [66, 67, 68, 69] [(65, 0), (65, 1), (65, 3), (65, 4), (65, 5), (65, 6)] := by
  refine ctrC_of rfl rfl (Nat.le_of_ble_eq_true rfl) (fun Γ sz hin hE hR hq => ?_)
  show Sim _ Γ (AX E sz, 0, 0) E md_X0_init_5 σ 0 [(0, rV E 65), (1, rV E 1), (2, rV E 34), (3, .int v3)] [] _
  unfold f_X0_init
  have hX0 : Ext E E [] [] := Ext.rf hE hR
  refine s_aload_n dX0_init_0 0 rfl rfl ?_
  refine s_objInit rfl w_214 oiI oiC rfl dX0_init_1 ?_
  refine s_aload_n dX0_init_4 0 rfl rfl ?_
  refine s_aload_n dX0_init_5 1 rfl rfl ?_
  refine k_putr (b := 1) (fun F => [(0, rV F 65), (1, rV F 1), (2, rV F 34), (3, .int v3)]) (fun F => []) rfl rfl gc_X0_9 hin rfl (xoN hX0) (xmO hX0 hm65) rfl (xmO hX0 hm1) rfl (ft_of rfl rfl) rfl rfl dX0_init_6 (fun _ e => ⟨by simp only [rV, xaN e 65 (by simp), xaN e 1 (by simp), xaN e 34 (by simp)], rfl⟩) (fun E1 e1 => ?_)
  have hX1 : Ext E E1 [] [(65, 0)] := hX0.trans e1
  refine s_aload_n dX0_init_9 0 rfl rfl ?_
  refine s_aload_n dX0_init_10 2 rfl rfl ?_
  refine k_putr (b := 34) (fun F => [(0, rV F 65), (1, rV F 1), (2, rV F 34), (3, .int v3)]) (fun F => []) rfl rfl gc_X0_15 hin rfl (xoN hX1) (xmO hX1 hm65) rfl (xmO hX1 hm34) rfl (ft_of rfl rfl) rfl rfl dX0_init_11 (fun _ e => ⟨by simp only [rV, xaN e 65 (by simp), xaN e 1 (by simp), xaN e 34 (by simp)], rfl⟩) (fun E2 e2 => ?_)
  have hX2 : Ext E E2 [] [(65, 0), (65, 1)] := hX1.trans e2
  refine s_aload_n dX0_init_14 0 rfl rfl ?_
  refine s_iload_n dX0_init_15 3 rfl rfl ?_
  refine k_putFi gc_X0_19 hin rfl (xmO hX2 hm65) rfl (ft_of rfl rfl) rfl rfl dX0_init_16 (fun s1 => ?_)
  refine s_aload_n dX0_init_19 0 rfl rfl ?_
  refine s_aload_n dX0_init_20 2 rfl rfl ?_
  refine s_callVpI (As := []) mf_X6_size vf_X6_size ml_X0_23 (c0_X6_size _ E2 1 (by decide) (xmO hX2 hm34) s1) (xmO hX2 hm34) (show kd 34 = 6 from rfl) (by decide) rfl rfl rfl rfl (Nat.le_of_ble_eq_true rfl) rfl dX0_init_21 (fun r2 => ?_)
  refine s_bipush (v := 8) dX0_init_24 (by decide) ?_
  refine s_imul dX0_init_26 ?_
  refine k_ckE (fun hk4 => ?_)
  refine k_newa (a := 66) (atype := .int) (fun F => [(0, rV F 65), (1, rV F 1), (2, rV F 34), (3, .int v3)]) (fun F => [rV F 65]) rfl rfl hq (xoN hX2) (xfN hX2 hf66 (by decide)) (by decide) rfl (Or.inl ⟨rfl, rfl⟩) rfl w_149 (by rw [hk4]; decide) (by rw [hk4]; decide) (by decide) 1 512 (by decide) (show 0 + ln 66 = 512 from by decide) (Nat.le_of_ble_eq_true rfl) (Nat.le_of_ble_eq_true rfl) dX0_init_27 (fun _ e => ⟨by simp only [rV, xaN e 65 (by decide), xaN e 1 (by decide), xaN e 34 (by decide)], by simp only [rV, xaN e 65 (by decide)]⟩) (fun E3 s3 e3 => ?_)
  have hX3 : Ext E E3 [66] [(65, 0), (65, 1)] := hX2.trans e3
  refine k_putr (b := 66) (fun F => [(0, rV F 65), (1, rV F 1), (2, rV F 34), (3, .int v3)]) (fun F => []) rfl rfl gc_X0_29 hin rfl (xoN hX3) (xmO hX3 hm65) rfl (xmN hX3 (by simp)) rfl (ft_of rfl rfl) rfl rfl dX0_init_29 (fun _ e => ⟨by simp only [rV, xaN e 65 (by simp), xaN e 1 (by simp), xaN e 34 (by simp)], rfl⟩) (fun E4 e4 => ?_)
  have hX4 : Ext E E4 [66] [(65, 0), (65, 1), (65, 3)] := hX3.trans e4
  refine s_aload_n dX0_init_32 0 rfl rfl ?_
  refine s_aload_n dX0_init_33 2 rfl rfl ?_
  refine s_callVpI (As := []) mf_X6_size vf_X6_size ml_X0_23 (c0_X6_size _ E4 1 (by decide) (xmO hX4 hm34) s3) (xmO hX4 hm34) (show kd 34 = 6 from rfl) (by decide) rfl rfl rfl rfl (Nat.le_of_ble_eq_true rfl) rfl dX0_init_34 (fun r5 => ?_)
  refine k_ckE (fun hk7 => ?_)
  refine k_newa (a := 67) (atype := .int) (fun F => [(0, rV F 65), (1, rV F 1), (2, rV F 34), (3, .int v3)]) (fun F => [rV F 65]) rfl rfl hq (xoN hX4) (xfN hX4 hf67 (by decide)) (by decide) rfl (Or.inl ⟨rfl, rfl⟩) rfl w_149 (by rw [hk7]; decide) (by rw [hk7]; decide) (by decide) 2 576 (by decide) (show 512 + ln 67 = 576 from by decide) (Nat.le_of_ble_eq_true rfl) (Nat.le_of_ble_eq_true rfl) dX0_init_37 (fun _ e => ⟨by simp only [rV, xaN e 65 (by decide), xaN e 1 (by decide), xaN e 34 (by decide)], by simp only [rV, xaN e 65 (by decide)]⟩) (fun E5 s6 e5 => ?_)
  have hX5 : Ext E E5 [66, 67] [(65, 0), (65, 1), (65, 3)] := hX4.trans e5
  refine k_putr (b := 67) (fun F => [(0, rV F 65), (1, rV F 1), (2, rV F 34), (3, .int v3)]) (fun F => []) rfl rfl gc_X0_33 hin rfl (xoN hX5) (xmO hX5 hm65) rfl (xmN hX5 (by simp)) rfl (ft_of rfl rfl) rfl rfl dX0_init_39 (fun _ e => ⟨by simp only [rV, xaN e 65 (by simp), xaN e 1 (by simp), xaN e 34 (by simp)], rfl⟩) (fun E6 e6 => ?_)
  have hX6 : Ext E E6 [66, 67] [(65, 0), (65, 1), (65, 3), (65, 4)] := hX5.trans e6
  refine s_aload_n dX0_init_42 0 rfl rfl ?_
  refine s_aload_n dX0_init_43 2 rfl rfl ?_
  refine s_callVpI (As := []) mf_X6_size vf_X6_size ml_X0_23 (c0_X6_size _ E6 1 (by decide) (xmO hX6 hm34) s6) (xmO hX6 hm34) (show kd 34 = 6 from rfl) (by decide) rfl rfl rfl rfl (Nat.le_of_ble_eq_true rfl) rfl dX0_init_44 (fun r8 => ?_)
  refine k_ckE (fun hk10 => ?_)
  refine k_newa (a := 68) (atype := .int) (fun F => [(0, rV F 65), (1, rV F 1), (2, rV F 34), (3, .int v3)]) (fun F => [rV F 65]) rfl rfl hq (xoN hX6) (xfN hX6 hf68 (by decide)) (by decide) rfl (Or.inl ⟨rfl, rfl⟩) rfl w_149 (by rw [hk10]; decide) (by rw [hk10]; decide) (by decide) 3 640 (by decide) (show 576 + ln 68 = 640 from by decide) (Nat.le_of_ble_eq_true rfl) (Nat.le_of_ble_eq_true rfl) dX0_init_47 (fun _ e => ⟨by simp only [rV, xaN e 65 (by decide), xaN e 1 (by decide), xaN e 34 (by decide)], by simp only [rV, xaN e 65 (by decide)]⟩) (fun E7 s9 e7 => ?_)
  have hX7 : Ext E E7 [66, 67, 68] [(65, 0), (65, 1), (65, 3), (65, 4)] := hX6.trans e7
  refine k_putr (b := 68) (fun F => [(0, rV F 65), (1, rV F 1), (2, rV F 34), (3, .int v3)]) (fun F => []) rfl rfl gc_X0_36 hin rfl (xoN hX7) (xmO hX7 hm65) rfl (xmN hX7 (by simp)) rfl (ft_of rfl rfl) rfl rfl dX0_init_49 (fun _ e => ⟨by simp only [rV, xaN e 65 (by simp), xaN e 1 (by simp), xaN e 34 (by simp)], rfl⟩) (fun E8 e8 => ?_)
  have hX8 : Ext E E8 [66, 67, 68] [(65, 0), (65, 1), (65, 3), (65, 4), (65, 5)] := hX7.trans e8
  refine s_aload_n dX0_init_52 0 rfl rfl ?_
  refine s_aload_n dX0_init_53 2 rfl rfl ?_
  refine s_callVpI (As := []) mf_X6_size vf_X6_size ml_X0_23 (c0_X6_size _ E8 1 (by decide) (xmO hX8 hm34) s9) (xmO hX8 hm34) (show kd 34 = 6 from rfl) (by decide) rfl rfl rfl rfl (Nat.le_of_ble_eq_true rfl) rfl dX0_init_54 (fun r11 => ?_)
  refine k_ckE (fun hk13 => ?_)
  refine k_newa (a := 69) (atype := .int) (fun F => [(0, rV F 65), (1, rV F 1), (2, rV F 34), (3, .int v3)]) (fun F => [rV F 65]) rfl rfl hq (xoN hX8) (xfN hX8 hf69 (by decide)) (by decide) rfl (Or.inl ⟨rfl, rfl⟩) rfl w_149 (by rw [hk13]; decide) (by rw [hk13]; decide) (by decide) 4 704 (by decide) (show 640 + ln 69 = 704 from by decide) (Nat.le_of_ble_eq_true rfl) (Nat.le_of_ble_eq_true rfl) dX0_init_57 (fun _ e => ⟨by simp only [rV, xaN e 65 (by decide), xaN e 1 (by decide), xaN e 34 (by decide)], by simp only [rV, xaN e 65 (by decide)]⟩) (fun E9 s12 e9 => ?_)
  have hX9 : Ext E E9 [66, 67, 68, 69] [(65, 0), (65, 1), (65, 3), (65, 4), (65, 5)] := hX8.trans e9
  refine k_putr (b := 69) (fun F => [(0, rV F 65), (1, rV F 1), (2, rV F 34), (3, .int v3)]) (fun F => []) rfl rfl gc_X0_39 hin rfl (xoN hX9) (xmO hX9 hm65) rfl (xmN hX9 (by simp)) rfl (ft_of rfl rfl) rfl rfl dX0_init_59 (fun _ e => ⟨by simp only [rV, xaN e 65 (by simp), xaN e 1 (by simp), xaN e 34 (by simp)], rfl⟩) (fun E10 e10 => ?_)
  have hX10 : Ext E E10 [66, 67, 68, 69] [(65, 0), (65, 1), (65, 3), (65, 4), (65, 5), (65, 6)] := hX9.trans e10
  refine s_aload_n dX0_init_62 0 rfl rfl ?_
  refine s_iconst (v := -1) dX0_init_63 (by decide) ?_
  refine s_puti gf_X0_42 rfl (xmO hX10 hm65) (show kd 65 = 0 from rfl) (ft_of (show kd 65 = 0 from rfl) rfl) dX0_init_64 (fun s14 => ?_)
  exact k_ret rfl rfl rfl rfl hX10 dX0_init_67
set_option maxHeartbeats 4000000 in
set_option maxRecDepth 100000 in
theorem c_X0_init_6 (l : Launch) (E : Ev) (hm70 : 70 ∈ E.2.2.2.1) (hm1 : 1 ∈ E.2.2.2.1) (hm36 : 36 ∈ E.2.2.2.1) (hf71 : 71 ∉ E.2.2.2.1) (hf72 : 72 ∉ E.2.2.2.1) (hf73 : 73 ∉ E.2.2.2.1) (hf74 : 74 ∉ E.2.2.2.1) (σ : St) (v3 : Int32) : CtrC l E md_X0_init_6 [rV E 70, rV E 1, rV E 36, .int v3] σ (f_X0_init σ 6 v3) [71, 72, 73, 74] [(70, 0), (70, 1), (70, 3), (70, 4), (70, 5), (70, 6)] := by
  refine ctrC_of rfl rfl (Nat.le_of_ble_eq_true rfl) (fun Γ sz hin hE hR hq => ?_)
  show Sim _ Γ (AX E sz, 0, 0) E md_X0_init_6 σ 0 [(0, rV E 70), (1, rV E 1), (2, rV E 36), (3, .int v3)] [] _
  unfold f_X0_init
  have hX0 : Ext E E [] [] := Ext.rf hE hR
  refine s_aload_n dX0_init_0 0 rfl rfl ?_
  refine s_objInit rfl w_214 oiI oiC rfl dX0_init_1 ?_
  refine s_aload_n dX0_init_4 0 rfl rfl ?_
  refine s_aload_n dX0_init_5 1 rfl rfl ?_
  refine k_putr (b := 1) (fun F => [(0, rV F 70), (1, rV F 1), (2, rV F 36), (3, .int v3)]) (fun F => []) rfl rfl gc_X0_9 hin rfl (xoN hX0) (xmO hX0 hm70) rfl (xmO hX0 hm1) rfl (ft_of rfl rfl) rfl rfl dX0_init_6 (fun _ e => ⟨by simp only [rV, xaN e 70 (by simp), xaN e 1 (by simp), xaN e 36 (by simp)], rfl⟩) (fun E1 e1 => ?_)
  have hX1 : Ext E E1 [] [(70, 0)] := hX0.trans e1
  refine s_aload_n dX0_init_9 0 rfl rfl ?_
  refine s_aload_n dX0_init_10 2 rfl rfl ?_
  refine k_putr (b := 36) (fun F => [(0, rV F 70), (1, rV F 1), (2, rV F 36), (3, .int v3)]) (fun F => []) rfl rfl gc_X0_15 hin rfl (xoN hX1) (xmO hX1 hm70) rfl (xmO hX1 hm36) rfl (ft_of rfl rfl) rfl rfl dX0_init_11 (fun _ e => ⟨by simp only [rV, xaN e 70 (by simp), xaN e 1 (by simp), xaN e 36 (by simp)], rfl⟩) (fun E2 e2 => ?_)
  have hX2 : Ext E E2 [] [(70, 0), (70, 1)] := hX1.trans e2
  refine s_aload_n dX0_init_14 0 rfl rfl ?_
  refine s_iload_n dX0_init_15 3 rfl rfl ?_
  refine k_putFi gc_X0_19 hin rfl (xmO hX2 hm70) rfl (ft_of rfl rfl) rfl rfl dX0_init_16 (fun s1 => ?_)
  refine s_aload_n dX0_init_19 0 rfl rfl ?_
  refine s_aload_n dX0_init_20 2 rfl rfl ?_
  refine s_callVpI (As := []) mf_X6_size vf_X6_size ml_X0_23 (c0_X6_size _ E2 2 (by decide) (xmO hX2 hm36) s1) (xmO hX2 hm36) (show kd 36 = 6 from rfl) (by decide) rfl rfl rfl rfl (Nat.le_of_ble_eq_true rfl) rfl dX0_init_21 (fun r2 => ?_)
  refine s_bipush (v := 8) dX0_init_24 (by decide) ?_
  refine s_imul dX0_init_26 ?_
  refine k_ckE (fun hk4 => ?_)
  refine k_newa (a := 71) (atype := .int) (fun F => [(0, rV F 70), (1, rV F 1), (2, rV F 36), (3, .int v3)]) (fun F => [rV F 70]) rfl rfl hq (xoN hX2) (xfN hX2 hf71 (by decide)) (by decide) rfl (Or.inl ⟨rfl, rfl⟩) rfl w_149 (by rw [hk4]; decide) (by rw [hk4]; decide) (by decide) 1 4096 (by decide) (show 0 + ln 71 = 4096 from by decide) (Nat.le_of_ble_eq_true rfl) (Nat.le_of_ble_eq_true rfl) dX0_init_27 (fun _ e => ⟨by simp only [rV, xaN e 70 (by decide), xaN e 1 (by decide), xaN e 36 (by decide)], by simp only [rV, xaN e 70 (by decide)]⟩) (fun E3 s3 e3 => ?_)
  have hX3 : Ext E E3 [71] [(70, 0), (70, 1)] := hX2.trans e3
  refine k_putr (b := 71) (fun F => [(0, rV F 70), (1, rV F 1), (2, rV F 36), (3, .int v3)]) (fun F => []) rfl rfl gc_X0_29 hin rfl (xoN hX3) (xmO hX3 hm70) rfl (xmN hX3 (by simp)) rfl (ft_of rfl rfl) rfl rfl dX0_init_29 (fun _ e => ⟨by simp only [rV, xaN e 70 (by simp), xaN e 1 (by simp), xaN e 36 (by simp)], rfl⟩) (fun E4 e4 => ?_)
  have hX4 : Ext E E4 [71] [(70, 0), (70, 1), (70, 3)] := hX3.trans e4
  refine s_aload_n dX0_init_32 0 rfl rfl ?_
  refine s_aload_n dX0_init_33 2 rfl rfl ?_
  refine s_callVpI (As := []) mf_X6_size vf_X6_size ml_X0_23 (c0_X6_size _ E4 2 (by decide) (xmO hX4 hm36) s3) (xmO hX4 hm36) (show kd 36 = 6 from rfl) (by decide) rfl rfl rfl rfl (Nat.le_of_ble_eq_true rfl) rfl dX0_init_34 (fun r5 => ?_)
  refine k_ckE (fun hk7 => ?_)
  refine k_newa (a := 72) (atype := .int) (fun F => [(0, rV F 70), (1, rV F 1), (2, rV F 36), (3, .int v3)]) (fun F => [rV F 70]) rfl rfl hq (xoN hX4) (xfN hX4 hf72 (by decide)) (by decide) rfl (Or.inl ⟨rfl, rfl⟩) rfl w_149 (by rw [hk7]; decide) (by rw [hk7]; decide) (by decide) 2 4608 (by decide) (show 4096 + ln 72 = 4608 from by decide) (Nat.le_of_ble_eq_true rfl) (Nat.le_of_ble_eq_true rfl) dX0_init_37 (fun _ e => ⟨by simp only [rV, xaN e 70 (by decide), xaN e 1 (by decide), xaN e 36 (by decide)], by simp only [rV, xaN e 70 (by decide)]⟩) (fun E5 s6 e5 => ?_)
  have hX5 : Ext E E5 [71, 72] [(70, 0), (70, 1), (70, 3)] := hX4.trans e5
  refine k_putr (b := 72) (fun F => [(0, rV F 70), (1, rV F 1), (2, rV F 36), (3, .int v3)]) (fun F => []) rfl rfl gc_X0_33 hin rfl (xoN hX5) (xmO hX5 hm70) rfl (xmN hX5 (by simp)) rfl (ft_of rfl rfl) rfl rfl dX0_init_39 (fun _ e => ⟨by simp only [rV, xaN e 70 (by simp), xaN e 1 (by simp), xaN e 36 (by simp)], rfl⟩) (fun E6 e6 => ?_)
  have hX6 : Ext E E6 [71, 72] [(70, 0), (70, 1), (70, 3), (70, 4)] := hX5.trans e6
  refine s_aload_n dX0_init_42 0 rfl rfl ?_
  refine s_aload_n dX0_init_43 2 rfl rfl ?_
  refine s_callVpI (As := []) mf_X6_size vf_X6_size ml_X0_23 (c0_X6_size _ E6 2 (by decide) (xmO hX6 hm36) s6) (xmO hX6 hm36) (show kd 36 = 6 from rfl) (by decide) rfl rfl rfl rfl (Nat.le_of_ble_eq_true rfl) rfl dX0_init_44 (fun r8 => ?_)
  refine k_ckE (fun hk10 => ?_)
  refine k_newa (a := 73) (atype := .int) (fun F => [(0, rV F 70), (1, rV F 1), (2, rV F 36), (3, .int v3)]) (fun F => [rV F 70]) rfl rfl hq (xoN hX6) (xfN hX6 hf73 (by decide)) (by decide) rfl (Or.inl ⟨rfl, rfl⟩) rfl w_149 (by rw [hk10]; decide) (by rw [hk10]; decide) (by decide) 3 5120 (by decide) (show 4608 + ln 73 = 5120 from by decide) (Nat.le_of_ble_eq_true rfl) (Nat.le_of_ble_eq_true rfl) dX0_init_47 (fun _ e => ⟨by simp only [rV, xaN e 70 (by decide), xaN e 1 (by decide), xaN e 36 (by decide)], by simp only [rV, xaN e 70 (by decide)]⟩) (fun E7 s9 e7 => ?_)
  have hX7 : Ext E E7 [71, 72, 73] [(70, 0), (70, 1), (70, 3), (70, 4)] := hX6.trans e7
  refine k_putr (b := 73) (fun F => [(0, rV F 70), (1, rV F 1), (2, rV F 36), (3, .int v3)]) (fun F => []) rfl rfl gc_X0_36 hin rfl (xoN hX7) (xmO hX7 hm70) rfl (xmN hX7 (by simp)) rfl (ft_of rfl rfl) rfl rfl dX0_init_49 (fun _ e => ⟨by simp only [rV, xaN e 70 (by simp), xaN e 1 (by simp), xaN e 36 (by simp)], rfl⟩) (fun E8 e8 => ?_)
  have hX8 : Ext E E8 [71, 72, 73] [(70, 0), (70, 1), (70, 3), (70, 4), (70, 5)] := hX7.trans e8
  refine s_aload_n dX0_init_52 0 rfl rfl ?_
  refine s_aload_n dX0_init_53 2 rfl rfl ?_
  refine s_callVpI (As := []) mf_X6_size vf_X6_size ml_X0_23 (c0_X6_size _ E8 2 (by decide) (xmO hX8 hm36) s9) (xmO hX8 hm36) (show kd 36 = 6 from rfl) (by decide) rfl rfl rfl rfl (Nat.le_of_ble_eq_true rfl) rfl dX0_init_54 (fun r11 => ?_)
  refine k_ckE (fun hk13 => ?_)
  refine k_newa (a := 74) (atype := .int) (fun F => [(0, rV F 70), (1, rV F 1), (2, rV F 36), (3, .int v3)]) (fun F => [rV F 70]) rfl rfl hq (xoN hX8) (xfN hX8 hf74 (by decide)) (by decide) rfl (Or.inl ⟨rfl, rfl⟩) rfl w_149 (by rw [hk13]; decide) (by rw [hk13]; decide) (by decide) 4 5632 (by decide) (show 5120 + ln 74 = 5632 from by decide) (Nat.le_of_ble_eq_true rfl) (Nat.le_of_ble_eq_true rfl) dX0_init_57 (fun _ e => ⟨by simp only [rV, xaN e 70 (by decide), xaN e 1 (by decide), xaN e 36 (by decide)], by simp only [rV, xaN e 70 (by decide)]⟩) (fun E9 s12 e9 => ?_)
  have hX9 : Ext E E9 [71, 72, 73, 74] [(70, 0), (70, 1), (70, 3), (70, 4), (70, 5)] := hX8.trans e9
  refine k_putr (b := 74) (fun F => [(0, rV F 70), (1, rV F 1), (2, rV F 36), (3, .int v3)]) (fun F => []) rfl rfl gc_X0_39 hin rfl (xoN hX9) (xmO hX9 hm70) rfl (xmN hX9 (by simp)) rfl (ft_of rfl rfl) rfl rfl dX0_init_59 (fun _ e => ⟨by simp only [rV, xaN e 70 (by simp), xaN e 1 (by simp), xaN e 36 (by simp)], rfl⟩) (fun E10 e10 => ?_)
  have hX10 : Ext E E10 [71, 72, 73, 74] [(70, 0), (70, 1), (70, 3), (70, 4), (70, 5), (70, 6)] := hX9.trans e10
  refine s_aload_n dX0_init_62 0 rfl rfl ?_
  refine s_iconst (v := -1) dX0_init_63 (by decide) ?_
  refine s_puti gf_X0_42 rfl (xmO hX10 hm70) (show kd 70 = 0 from rfl) (ft_of (show kd 70 = 0 from rfl) rfl) dX0_init_64 (fun s14 => ?_)
  exact k_ret rfl rfl rfl rfl hX10 dX0_init_67
set_option maxHeartbeats 4000000 in
set_option maxRecDepth 100000 in
theorem c_X0_init_7 (l : Launch) (E : Ev) (hm75 : 75 ∈ E.2.2.2.1) (hm1 : 1 ∈ E.2.2.2.1) (hm36 : 36 ∈ E.2.2.2.1) (hf76 : 76 ∉ E.2.2.2.1) (hf77 : 77 ∉ E.2.2.2.1) (hf78 : 78 ∉ E.2.2.2.1) (hf79 : 79 ∉ E.2.2.2.1) (σ : St) (v3 : Int32) : CtrC l E md_X0_init_7 [rV E 75, rV E 1, rV E 36, .int v3] σ (f_X0_init σ 7 v3) [76, 77, 78, 79] [(75, 0), (75, 1), (75, 3), (75, 4), (75, 5), (75, 6)] := by
  refine ctrC_of rfl rfl (Nat.le_of_ble_eq_true rfl) (fun Γ sz hin hE hR hq => ?_)
  show Sim _ Γ (AX E sz, 0, 0) E md_X0_init_7 σ 0 [(0, rV E 75), (1, rV E 1), (2, rV E 36), (3, .int v3)] [] _
  unfold f_X0_init
  have hX0 : Ext E E [] [] := Ext.rf hE hR
  refine s_aload_n dX0_init_0 0 rfl rfl ?_
  refine s_objInit rfl w_214 oiI oiC rfl dX0_init_1 ?_
  refine s_aload_n dX0_init_4 0 rfl rfl ?_
  refine s_aload_n dX0_init_5 1 rfl rfl ?_
  refine k_putr (b := 1) (fun F => [(0, rV F 75), (1, rV F 1), (2, rV F 36), (3, .int v3)]) (fun F => []) rfl rfl gc_X0_9 hin rfl (xoN hX0) (xmO hX0 hm75) rfl (xmO hX0 hm1) rfl (ft_of rfl rfl) rfl rfl dX0_init_6 (fun _ e => ⟨by simp only [rV, xaN e 75 (by simp), xaN e 1 (by simp), xaN e 36 (by simp)], rfl⟩) (fun E1 e1 => ?_)
  have hX1 : Ext E E1 [] [(75, 0)] := hX0.trans e1
  refine s_aload_n dX0_init_9 0 rfl rfl ?_
  refine s_aload_n dX0_init_10 2 rfl rfl ?_
  refine k_putr (b := 36) (fun F => [(0, rV F 75), (1, rV F 1), (2, rV F 36), (3, .int v3)]) (fun F => []) rfl rfl gc_X0_15 hin rfl (xoN hX1) (xmO hX1 hm75) rfl (xmO hX1 hm36) rfl (ft_of rfl rfl) rfl rfl dX0_init_11 (fun _ e => ⟨by simp only [rV, xaN e 75 (by simp), xaN e 1 (by simp), xaN e 36 (by simp)], rfl⟩) (fun E2 e2 => ?_)
  have hX2 : Ext E E2 [] [(75, 0), (75, 1)] := hX1.trans e2
  refine s_aload_n dX0_init_14 0 rfl rfl ?_
  refine s_iload_n dX0_init_15 3 rfl rfl ?_
  refine k_putFi gc_X0_19 hin rfl (xmO hX2 hm75) rfl (ft_of rfl rfl) rfl rfl dX0_init_16 (fun s1 => ?_)
  refine s_aload_n dX0_init_19 0 rfl rfl ?_
  refine s_aload_n dX0_init_20 2 rfl rfl ?_
  refine s_callVpI (As := []) mf_X6_size vf_X6_size ml_X0_23 (c0_X6_size _ E2 2 (by decide) (xmO hX2 hm36) s1) (xmO hX2 hm36) (show kd 36 = 6 from rfl) (by decide) rfl rfl rfl rfl (Nat.le_of_ble_eq_true rfl) rfl dX0_init_21 (fun r2 => ?_)
  refine s_bipush (v := 8) dX0_init_24 (by decide) ?_
  refine s_imul dX0_init_26 ?_
  refine k_ckE (fun hk4 => ?_)
  refine k_newa (a := 76) (atype := .int) (fun F => [(0, rV F 75), (1, rV F 1), (2, rV F 36), (3, .int v3)]) (fun F => [rV F 75]) rfl rfl hq (xoN hX2) (xfN hX2 hf76 (by decide)) (by decide) rfl (Or.inl ⟨rfl, rfl⟩) rfl w_149 (by rw [hk4]; decide) (by rw [hk4]; decide) (by decide) 1 4096 (by decide) (show 0 + ln 76 = 4096 from by decide) (Nat.le_of_ble_eq_true rfl) (Nat.le_of_ble_eq_true rfl) dX0_init_27 (fun _ e => ⟨by simp only [rV, xaN e 75 (by decide), xaN e 1 (by decide), xaN e 36 (by decide)], by simp only [rV, xaN e 75 (by decide)]⟩) (fun E3 s3 e3 => ?_)
  have hX3 : Ext E E3 [76] [(75, 0), (75, 1)] := hX2.trans e3
  refine k_putr (b := 76) (fun F => [(0, rV F 75), (1, rV F 1), (2, rV F 36), (3, .int v3)]) (fun F => []) rfl rfl gc_X0_29 hin rfl (xoN hX3) (xmO hX3 hm75) rfl (xmN hX3 (by simp)) rfl (ft_of rfl rfl) rfl rfl dX0_init_29 (fun _ e => ⟨by simp only [rV, xaN e 75 (by simp), xaN e 1 (by simp), xaN e 36 (by simp)], rfl⟩) (fun E4 e4 => ?_)
  have hX4 : Ext E E4 [76] [(75, 0), (75, 1), (75, 3)] := hX3.trans e4
  refine s_aload_n dX0_init_32 0 rfl rfl ?_
  refine s_aload_n dX0_init_33 2 rfl rfl ?_
  refine s_callVpI (As := []) mf_X6_size vf_X6_size ml_X0_23 (c0_X6_size _ E4 2 (by decide) (xmO hX4 hm36) s3) (xmO hX4 hm36) (show kd 36 = 6 from rfl) (by decide) rfl rfl rfl rfl (Nat.le_of_ble_eq_true rfl) rfl dX0_init_34 (fun r5 => ?_)
  refine k_ckE (fun hk7 => ?_)
  refine k_newa (a := 77) (atype := .int) (fun F => [(0, rV F 75), (1, rV F 1), (2, rV F 36), (3, .int v3)]) (fun F => [rV F 75]) rfl rfl hq (xoN hX4) (xfN hX4 hf77 (by decide)) (by decide) rfl (Or.inl ⟨rfl, rfl⟩) rfl w_149 (by rw [hk7]; decide) (by rw [hk7]; decide) (by decide) 2 4608 (by decide) (show 4096 + ln 77 = 4608 from by decide) (Nat.le_of_ble_eq_true rfl) (Nat.le_of_ble_eq_true rfl) dX0_init_37 (fun _ e => ⟨by simp only [rV, xaN e 75 (by decide), xaN e 1 (by decide), xaN e 36 (by decide)], by simp only [rV, xaN e 75 (by decide)]⟩) (fun E5 s6 e5 => ?_)
  have hX5 : Ext E E5 [76, 77] [(75, 0), (75, 1), (75, 3)] := hX4.trans e5
  refine k_putr (b := 77) (fun F => [(0, rV F 75), (1, rV F 1), (2, rV F 36), (3, .int v3)]) (fun F => []) rfl rfl gc_X0_33 hin rfl (xoN hX5) (xmO hX5 hm75) rfl (xmN hX5 (by simp)) rfl (ft_of rfl rfl) rfl rfl dX0_init_39 (fun _ e => ⟨by simp only [rV, xaN e 75 (by simp), xaN e 1 (by simp), xaN e 36 (by simp)], rfl⟩) (fun E6 e6 => ?_)
  have hX6 : Ext E E6 [76, 77] [(75, 0), (75, 1), (75, 3), (75, 4)] := hX5.trans e6
  refine s_aload_n dX0_init_42 0 rfl rfl ?_
  refine s_aload_n dX0_init_43 2 rfl rfl ?_
  refine s_callVpI (As := []) mf_X6_size vf_X6_size ml_X0_23 (c0_X6_size _ E6 2 (by decide) (xmO hX6 hm36) s6) (xmO hX6 hm36) (show kd 36 = 6 from rfl) (by decide) rfl rfl rfl rfl (Nat.le_of_ble_eq_true rfl) rfl dX0_init_44 (fun r8 => ?_)
  refine k_ckE (fun hk10 => ?_)
  refine k_newa (a := 78) (atype := .int) (fun F => [(0, rV F 75), (1, rV F 1), (2, rV F 36), (3, .int v3)]) (fun F => [rV F 75]) rfl rfl hq (xoN hX6) (xfN hX6 hf78 (by decide)) (by decide) rfl (Or.inl ⟨rfl, rfl⟩) rfl w_149 (by rw [hk10]; decide) (by rw [hk10]; decide) (by decide) 3 5120 (by decide) (show 4608 + ln 78 = 5120 from by decide) (Nat.le_of_ble_eq_true rfl) (Nat.le_of_ble_eq_true rfl) dX0_init_47 (fun _ e => ⟨by simp only [rV, xaN e 75 (by decide), xaN e 1 (by decide), xaN e 36 (by decide)], by simp only [rV, xaN e 75 (by decide)]⟩) (fun E7 s9 e7 => ?_)
  have hX7 : Ext E E7 [76, 77, 78] [(75, 0), (75, 1), (75, 3), (75, 4)] := hX6.trans e7
  refine k_putr (b := 78) (fun F => [(0, rV F 75), (1, rV F 1), (2, rV F 36), (3, .int v3)]) (fun F => []) rfl rfl gc_X0_36 hin rfl (xoN hX7) (xmO hX7 hm75) rfl (xmN hX7 (by simp)) rfl (ft_of rfl rfl) rfl rfl dX0_init_49 (fun _ e => ⟨by simp only [rV, xaN e 75 (by simp), xaN e 1 (by simp), xaN e 36 (by simp)], rfl⟩) (fun E8 e8 => ?_)
  have hX8 : Ext E E8 [76, 77, 78] [(75, 0), (75, 1), (75, 3), (75, 4), (75, 5)] := hX7.trans e8
  refine s_aload_n dX0_init_52 0 rfl rfl ?_
  refine s_aload_n dX0_init_53 2 rfl rfl ?_
  refine s_callVpI (As := []) mf_X6_size vf_X6_size ml_X0_23 (c0_X6_size _ E8 2 (by decide) (xmO hX8 hm36) s9) (xmO hX8 hm36) (show kd 36 = 6 from rfl) (by decide) rfl rfl rfl rfl (Nat.le_of_ble_eq_true rfl) rfl dX0_init_54 (fun r11 => ?_)
  refine k_ckE (fun hk13 => ?_)
  refine k_newa (a := 79) (atype := .int) (fun F => [(0, rV F 75), (1, rV F 1), (2, rV F 36), (3, .int v3)]) (fun F => [rV F 75]) rfl rfl hq (xoN hX8) (xfN hX8 hf79 (by decide)) (by decide) rfl (Or.inl ⟨rfl, rfl⟩) rfl w_149 (by rw [hk13]; decide) (by rw [hk13]; decide) (by decide) 4 5632 (by decide) (show 5120 + ln 79 = 5632 from by decide) (Nat.le_of_ble_eq_true rfl) (Nat.le_of_ble_eq_true rfl) dX0_init_57 (fun _ e => ⟨by simp only [rV, xaN e 75 (by decide), xaN e 1 (by decide), xaN e 36 (by decide)], by simp only [rV, xaN e 75 (by decide)]⟩) (fun E9 s12 e9 => ?_)
  have hX9 : Ext E E9 [76, 77, 78, 79] [(75, 0), (75, 1), (75, 3), (75, 4), (75, 5)] := hX8.trans e9
  refine k_putr (b := 79) (fun F => [(0, rV F 75), (1, rV F 1), (2, rV F 36), (3, .int v3)]) (fun F => []) rfl rfl gc_X0_39 hin rfl (xoN hX9) (xmO hX9 hm75) rfl (xmN hX9 (by simp)) rfl (ft_of rfl rfl) rfl rfl dX0_init_59 (fun _ e => ⟨by simp only [rV, xaN e 75 (by simp), xaN e 1 (by simp), xaN e 36 (by simp)], rfl⟩) (fun E10 e10 => ?_)
  have hX10 : Ext E E10 [76, 77, 78, 79] [(75, 0), (75, 1), (75, 3), (75, 4), (75, 5), (75, 6)] := hX9.trans e10
  refine s_aload_n dX0_init_62 0 rfl rfl ?_
  refine s_iconst (v := -1) dX0_init_63 (by decide) ?_
  refine s_puti gf_X0_42 rfl (xmO hX10 hm75) (show kd 75 = 0 from rfl) (ft_of (show kd 75 = 0 from rfl) rfl) dX0_init_64 (fun s14 => ?_)
  exact k_ret rfl rfl rfl rfl hX10 dX0_init_67
set_option maxHeartbeats 4000000 in
set_option maxRecDepth 100000 in
theorem c_X0_init_8 (l : Launch) (E : Ev) (hm80 : 80 ∈ E.2.2.2.1) (hm1 : 1 ∈ E.2.2.2.1) (hm36 : 36 ∈ E.2.2.2.1) (hf81 : 81 ∉ E.2.2.2.1) (hf82 : 82 ∉ E.2.2.2.1) (hf83 : 83 ∉ E.2.2.2.1) (hf84 : 84 ∉ E.2.2.2.1) (σ : St) (v3 : Int32) : CtrC l E md_X0_init_8 [rV E 80, rV E 1, rV E 36, .int v3] σ (f_X0_init σ 8 v3) [81, 82, 83, 84] [(80, 0), (80, 1), (80, 3), (80, 4), (80, 5), (80, 6)] := by
  refine ctrC_of rfl rfl (Nat.le_of_ble_eq_true rfl) (fun Γ sz hin hE hR hq => ?_)
  show Sim _ Γ (AX E sz, 0, 0) E md_X0_init_8 σ 0 [(0, rV E 80), (1, rV E 1), (2, rV E 36), (3, .int v3)] [] _
  unfold f_X0_init
  have hX0 : Ext E E [] [] := Ext.rf hE hR
  refine s_aload_n dX0_init_0 0 rfl rfl ?_
  refine s_objInit rfl w_214 oiI oiC rfl dX0_init_1 ?_
  refine s_aload_n dX0_init_4 0 rfl rfl ?_
  refine s_aload_n dX0_init_5 1 rfl rfl ?_
  refine k_putr (b := 1) (fun F => [(0, rV F 80), (1, rV F 1), (2, rV F 36), (3, .int v3)]) (fun F => []) rfl rfl gc_X0_9 hin rfl (xoN hX0) (xmO hX0 hm80) rfl (xmO hX0 hm1) rfl (ft_of rfl rfl) rfl rfl dX0_init_6 (fun _ e => ⟨by simp only [rV, xaN e 80 (by simp), xaN e 1 (by simp), xaN e 36 (by simp)], rfl⟩) (fun E1 e1 => ?_)
  have hX1 : Ext E E1 [] [(80, 0)] := hX0.trans e1
  refine s_aload_n dX0_init_9 0 rfl rfl ?_
  refine s_aload_n dX0_init_10 2 rfl rfl ?_
  refine k_putr (b := 36) (fun F => [(0, rV F 80), (1, rV F 1), (2, rV F 36), (3, .int v3)]) (fun F => []) rfl rfl gc_X0_15 hin rfl (xoN hX1) (xmO hX1 hm80) rfl (xmO hX1 hm36) rfl (ft_of rfl rfl) rfl rfl dX0_init_11 (fun _ e => ⟨by simp only [rV, xaN e 80 (by simp), xaN e 1 (by simp), xaN e 36 (by simp)], rfl⟩) (fun E2 e2 => ?_)
  have hX2 : Ext E E2 [] [(80, 0), (80, 1)] := hX1.trans e2
  refine s_aload_n dX0_init_14 0 rfl rfl ?_
  refine s_iload_n dX0_init_15 3 rfl rfl ?_
  refine k_putFi gc_X0_19 hin rfl (xmO hX2 hm80) rfl (ft_of rfl rfl) rfl rfl dX0_init_16 (fun s1 => ?_)
  refine s_aload_n dX0_init_19 0 rfl rfl ?_
  refine s_aload_n dX0_init_20 2 rfl rfl ?_
  refine s_callVpI (As := []) mf_X6_size vf_X6_size ml_X0_23 (c0_X6_size _ E2 2 (by decide) (xmO hX2 hm36) s1) (xmO hX2 hm36) (show kd 36 = 6 from rfl) (by decide) rfl rfl rfl rfl (Nat.le_of_ble_eq_true rfl) rfl dX0_init_21 (fun r2 => ?_)
  refine s_bipush (v := 8) dX0_init_24 (by decide) ?_
  refine s_imul dX0_init_26 ?_
  refine k_ckE (fun hk4 => ?_)
  refine k_newa (a := 81) (atype := .int) (fun F => [(0, rV F 80), (1, rV F 1), (2, rV F 36), (3, .int v3)]) (fun F => [rV F 80]) rfl rfl hq (xoN hX2) (xfN hX2 hf81 (by decide)) (by decide) rfl (Or.inl ⟨rfl, rfl⟩) rfl w_149 (by rw [hk4]; decide) (by rw [hk4]; decide) (by decide) 1 4096 (by decide) (show 0 + ln 81 = 4096 from by decide) (Nat.le_of_ble_eq_true rfl) (Nat.le_of_ble_eq_true rfl) dX0_init_27 (fun _ e => ⟨by simp only [rV, xaN e 80 (by decide), xaN e 1 (by decide), xaN e 36 (by decide)], by simp only [rV, xaN e 80 (by decide)]⟩) (fun E3 s3 e3 => ?_)
  have hX3 : Ext E E3 [81] [(80, 0), (80, 1)] := hX2.trans e3
  refine k_putr (b := 81) (fun F => [(0, rV F 80), (1, rV F 1), (2, rV F 36), (3, .int v3)]) (fun F => []) rfl rfl gc_X0_29 hin rfl (xoN hX3) (xmO hX3 hm80) rfl (xmN hX3 (by simp)) rfl (ft_of rfl rfl) rfl rfl dX0_init_29 (fun _ e => ⟨by simp only [rV, xaN e 80 (by simp), xaN e 1 (by simp), xaN e 36 (by simp)], rfl⟩) (fun E4 e4 => ?_)
  have hX4 : Ext E E4 [81] [(80, 0), (80, 1), (80, 3)] := hX3.trans e4
  refine s_aload_n dX0_init_32 0 rfl rfl ?_
  refine s_aload_n dX0_init_33 2 rfl rfl ?_
  refine s_callVpI (As := []) mf_X6_size vf_X6_size ml_X0_23 (c0_X6_size _ E4 2 (by decide) (xmO hX4 hm36) s3) (xmO hX4 hm36) (show kd 36 = 6 from rfl) (by decide) rfl rfl rfl rfl (Nat.le_of_ble_eq_true rfl) rfl dX0_init_34 (fun r5 => ?_)
  refine k_ckE (fun hk7 => ?_)
  refine k_newa (a := 82) (atype := .int) (fun F => [(0, rV F 80), (1, rV F 1), (2, rV F 36), (3, .int v3)]) (fun F => [rV F 80]) rfl rfl hq (xoN hX4) (xfN hX4 hf82 (by decide)) (by decide) rfl (Or.inl ⟨rfl, rfl⟩) rfl w_149 (by rw [hk7]; decide) (by rw [hk7]; decide) (by decide) 2 4608 (by decide) (show 4096 + ln 82 = 4608 from by decide) (Nat.le_of_ble_eq_true rfl) (Nat.le_of_ble_eq_true rfl) dX0_init_37 (fun _ e => ⟨by simp only [rV, xaN e 80 (by decide), xaN e 1 (by decide), xaN e 36 (by decide)], by simp only [rV, xaN e 80 (by decide)]⟩) (fun E5 s6 e5 => ?_)
  have hX5 : Ext E E5 [81, 82] [(80, 0), (80, 1), (80, 3)] := hX4.trans e5
  refine k_putr (b := 82) (fun F => [(0, rV F 80), (1, rV F 1), (2, rV F 36), (3, .int v3)]) (fun F => []) rfl rfl gc_X0_33 hin rfl (xoN hX5) (xmO hX5 hm80) rfl (xmN hX5 (by simp)) rfl (ft_of rfl rfl) rfl rfl dX0_init_39 (fun _ e => ⟨by simp only [rV, xaN e 80 (by simp), xaN e 1 (by simp), xaN e 36 (by simp)], rfl⟩) (fun E6 e6 => ?_)
  have hX6 : Ext E E6 [81, 82] [(80, 0), (80, 1), (80, 3), (80, 4)] := hX5.trans e6
  refine s_aload_n dX0_init_42 0 rfl rfl ?_
  refine s_aload_n dX0_init_43 2 rfl rfl ?_
  refine s_callVpI (As := []) mf_X6_size vf_X6_size ml_X0_23 (c0_X6_size _ E6 2 (by decide) (xmO hX6 hm36) s6) (xmO hX6 hm36) (show kd 36 = 6 from rfl) (by decide) rfl rfl rfl rfl (Nat.le_of_ble_eq_true rfl) rfl dX0_init_44 (fun r8 => ?_)
  refine k_ckE (fun hk10 => ?_)
  refine k_newa (a := 83) (atype := .int) (fun F => [(0, rV F 80), (1, rV F 1), (2, rV F 36), (3, .int v3)]) (fun F => [rV F 80]) rfl rfl hq (xoN hX6) (xfN hX6 hf83 (by decide)) (by decide) rfl (Or.inl ⟨rfl, rfl⟩) rfl w_149 (by rw [hk10]; decide) (by rw [hk10]; decide) (by decide) 3 5120 (by decide) (show 4608 + ln 83 = 5120 from by decide) (Nat.le_of_ble_eq_true rfl) (Nat.le_of_ble_eq_true rfl) dX0_init_47 (fun _ e => ⟨by simp only [rV, xaN e 80 (by decide), xaN e 1 (by decide), xaN e 36 (by decide)], by simp only [rV, xaN e 80 (by decide)]⟩) (fun E7 s9 e7 => ?_)
  have hX7 : Ext E E7 [81, 82, 83] [(80, 0), (80, 1), (80, 3), (80, 4)] := hX6.trans e7
  refine k_putr (b := 83) (fun F => [(0, rV F 80), (1, rV F 1), (2, rV F 36), (3, .int v3)]) (fun F => []) rfl rfl gc_X0_36 hin rfl (xoN hX7) (xmO hX7 hm80) rfl (xmN hX7 (by simp)) rfl (ft_of rfl rfl) rfl rfl dX0_init_49 (fun _ e => ⟨by simp only [rV, xaN e 80 (by simp), xaN e 1 (by simp), xaN e 36 (by simp)], rfl⟩) (fun E8 e8 => ?_)
  have hX8 : Ext E E8 [81, 82, 83] [(80, 0), (80, 1), (80, 3), (80, 4), (80, 5)] := hX7.trans e8
  refine s_aload_n dX0_init_52 0 rfl rfl ?_
  refine s_aload_n dX0_init_53 2 rfl rfl ?_
  refine s_callVpI (As := []) mf_X6_size vf_X6_size ml_X0_23 (c0_X6_size _ E8 2 (by decide) (xmO hX8 hm36) s9) (xmO hX8 hm36) (show kd 36 = 6 from rfl) (by decide) rfl rfl rfl rfl (Nat.le_of_ble_eq_true rfl) rfl dX0_init_54 (fun r11 => ?_)
  refine k_ckE (fun hk13 => ?_)
  refine k_newa (a := 84) (atype := .int) (fun F => [(0, rV F 80), (1, rV F 1), (2, rV F 36), (3, .int v3)]) (fun F => [rV F 80]) rfl rfl hq (xoN hX8) (xfN hX8 hf84 (by decide)) (by decide) rfl (Or.inl ⟨rfl, rfl⟩) rfl w_149 (by rw [hk13]; decide) (by rw [hk13]; decide) (by decide) 4 5632 (by decide) (show 5120 + ln 84 = 5632 from by decide) (Nat.le_of_ble_eq_true rfl) (Nat.le_of_ble_eq_true rfl) dX0_init_57 (fun _ e => ⟨by simp only [rV, xaN e 80 (by decide), xaN e 1 (by decide), xaN e 36 (by decide)], by simp only [rV, xaN e 80 (by decide)]⟩) (fun E9 s12 e9 => ?_)
  have hX9 : Ext E E9 [81, 82, 83, 84] [(80, 0), (80, 1), (80, 3), (80, 4), (80, 5)] := hX8.trans e9
  refine k_putr (b := 84) (fun F => [(0, rV F 80), (1, rV F 1), (2, rV F 36), (3, .int v3)]) (fun F => []) rfl rfl gc_X0_39 hin rfl (xoN hX9) (xmO hX9 hm80) rfl (xmN hX9 (by simp)) rfl (ft_of rfl rfl) rfl rfl dX0_init_59 (fun _ e => ⟨by simp only [rV, xaN e 80 (by simp), xaN e 1 (by simp), xaN e 36 (by simp)], rfl⟩) (fun E10 e10 => ?_)
  have hX10 : Ext E E10 [81, 82, 83, 84] [(80, 0), (80, 1), (80, 3), (80, 4), (80, 5), (80, 6)] := hX9.trans e10
  refine s_aload_n dX0_init_62 0 rfl rfl ?_
  refine s_iconst (v := -1) dX0_init_63 (by decide) ?_
  refine s_puti gf_X0_42 rfl (xmO hX10 hm80) (show kd 80 = 0 from rfl) (ft_of (show kd 80 = 0 from rfl) rfl) dX0_init_64 (fun s14 => ?_)
  exact k_ret rfl rfl rfl rfl hX10 dX0_init_67
theorem dX5_init_0 : decode cX5_init 0 = .ok (.aload_n 0, 1) := by decide +kernel
theorem dX5_init_1 : decode cX5_init 1 = .ok (.invokespecial 1, 3) := by decide +kernel
theorem dX5_init_4 : decode cX5_init 4 = .ok (.return_, 1) := by decide +kernel
def f_X5_init (σ : St) : Option St :=
  some σ
set_option maxHeartbeats 4000000 in
set_option maxRecDepth 100000 in
theorem c_X5_init (l : Launch) (E : Ev) (hm13 : 13 ∈ E.2.2.2.1) (σ : St) : CtrC l E md_X5_init [rV E 13] σ (f_X5_init σ) [] [] := by
  refine ctrC_of rfl rfl (Nat.le_of_ble_eq_true rfl) (fun Γ sz hin hE hR hq => ?_)
  show Sim _ Γ (AX E sz, 0, 0) E md_X5_init σ 0 [(0, rV E 13)] [] _
  unfold f_X5_init
  have hX0 : Ext E E [] [] := Ext.rf hE hR
  refine s_aload_n dX5_init_0 0 rfl rfl ?_
  refine s_objInit rfl w_249 oiI oiC rfl dX5_init_1 ?_
  exact k_ret rfl rfl rfl rfl hX0 dX5_init_4
theorem dX8_init_0 : decode cX8_init 0 = .ok (.aload_n 0, 1) := by decide +kernel
theorem dX8_init_1 : decode cX8_init 1 = .ok (.invokespecial 3, 3) := by decide +kernel
theorem dX8_init_4 : decode cX8_init 4 = .ok (.aload_n 0, 1) := by decide +kernel
theorem dX8_init_5 : decode cX8_init 5 = .ok (.sipush 2816, 3) := by decide +kernel
theorem dX8_init_8 : decode cX8_init 8 = .ok (.newarray .int, 2) := by decide +kernel
theorem dX8_init_10 : decode cX8_init 10 = .ok (.putfield 11, 3) := by decide +kernel
theorem dX8_init_13 : decode cX8_init 13 = .ok (.aload_n 0, 1) := by decide +kernel
theorem dX8_init_14 : decode cX8_init 14 = .ok (.sipush 2816, 3) := by decide +kernel
theorem dX8_init_17 : decode cX8_init 17 = .ok (.newarray .int, 2) := by decide +kernel
theorem dX8_init_19 : decode cX8_init 19 = .ok (.putfield 15, 3) := by decide +kernel
theorem dX8_init_22 : decode cX8_init 22 = .ok (.aload_n 0, 1) := by decide +kernel
theorem dX8_init_23 : decode cX8_init 23 = .ok (.sipush 512, 3) := by decide +kernel
theorem dX8_init_26 : decode cX8_init 26 = .ok (.newarray .int, 2) := by decide +kernel
theorem dX8_init_28 : decode cX8_init 28 = .ok (.putfield 18, 3) := by decide +kernel
theorem dX8_init_31 : decode cX8_init 31 = .ok (.aload_n 0, 1) := by decide +kernel
theorem dX8_init_32 : decode cX8_init 32 = .ok (.aload_n 1, 1) := by decide +kernel
theorem dX8_init_33 : decode cX8_init 33 = .ok (.putfield 21, 3) := by decide +kernel
theorem dX8_init_36 : decode cX8_init 36 = .ok (.aload_n 0, 1) := by decide +kernel
theorem dX8_init_37 : decode cX8_init 37 = .ok (.aload_n 2, 1) := by decide +kernel
theorem dX8_init_38 : decode cX8_init 38 = .ok (.putfield 25, 3) := by decide +kernel
theorem dX8_init_41 : decode cX8_init 41 = .ok (.aload_n 0, 1) := by decide +kernel
theorem dX8_init_42 : decode cX8_init 42 = .ok (.iconst (-1), 1) := by decide +kernel
theorem dX8_init_43 : decode cX8_init 43 = .ok (.putfield 29, 3) := by decide +kernel
theorem dX8_init_46 : decode cX8_init 46 = .ok (.aload_n 0, 1) := by decide +kernel
theorem dX8_init_47 : decode cX8_init 47 = .ok (.iconst (-1), 1) := by decide +kernel
theorem dX8_init_48 : decode cX8_init 48 = .ok (.putfield 33, 3) := by decide +kernel
theorem dX8_init_51 : decode cX8_init 51 = .ok (.aload_n 0, 1) := by decide +kernel
theorem dX8_init_52 : decode cX8_init 52 = .ok (.iconst (-1), 1) := by decide +kernel
theorem dX8_init_53 : decode cX8_init 53 = .ok (.putfield 36, 3) := by decide +kernel
theorem dX8_init_56 : decode cX8_init 56 = .ok (.return_, 1) := by decide +kernel
def f_X8_init (σ : St) : Option St :=
  bd (zr σ 15) fun s1 =>
    bd (zr s1 16) fun s2 =>
      bd (zr s2 17) fun s3 =>
        bd (setI s3 14 4 (nI 0)) fun s4 =>
          bd (setI s4 14 6 (-1 : Int32)) fun s5 =>
            bd (setI s5 14 7 (-1 : Int32)) fun s6 =>
              bd (setI s6 14 8 (-1 : Int32)) fun s7 =>
                some s7
set_option maxHeartbeats 4000000 in
set_option maxRecDepth 100000 in
theorem c_X8_init (l : Launch) (E : Ev) (hm14 : 14 ∈ E.2.2.2.1) (hm1 : 1 ∈ E.2.2.2.1) (hm32 : 32 ∈ E.2.2.2.1) (hm0 : 0 ∈ E.2.2.2.1) (hm34 : 34 ∈ E.2.2.2.1) (hm36 : 36 ∈ E.2.2.2.1) (hf15 : 15 ∉ E.2.2.2.1) (hf16 : 16 ∉ E.2.2.2.1) (hf17 : 17 ∉ E.2.2.2.1) (σ : St) : CtrC l E md_X8_init [rV E 14, rV E 1, rV E 32] σ (f_X8_init σ) [15, 16, 17] [(14, 1), (14, 2), (14, 3), (14, 0), (14, 4)] := by
  refine ctrC_of rfl rfl (Nat.le_of_ble_eq_true rfl) (fun Γ sz hin hE hR hq => ?_)
  show Sim _ Γ (AX E sz, 0, 0) E md_X8_init σ 0 [(0, rV E 14), (1, rV E 1), (2, rV E 32)] [] _
  unfold f_X8_init
  have hX0 : Ext E E [] [] := Ext.rf hE hR
  refine s_aload_n dX8_init_0 0 rfl rfl ?_
  refine s_objInit rfl w_274 oiI oiC rfl dX8_init_1 ?_
  refine s_aload_n dX8_init_4 0 rfl rfl ?_
  refine s_sipush (v := 2816) dX8_init_5 (by decide) ?_
  refine k_newa (a := 15) (atype := .int) (fun F => [(0, rV F 14), (1, rV F 1), (2, rV F 32)]) (fun F => [rV F 14]) rfl rfl hq (xoN hX0) (xfN hX0 hf15 (by decide)) (by decide) rfl (Or.inl ⟨rfl, rfl⟩) rfl w_149 (by decide) (by decide) (by decide) 1 2816 (by decide) (show 0 + ln 15 = 2816 from by decide) (Nat.le_of_ble_eq_true rfl) (Nat.le_of_ble_eq_true rfl) dX8_init_8 (fun _ e => ⟨by simp only [rV, xaN e 14 (by decide), xaN e 1 (by decide), xaN e 32 (by decide)], by simp only [rV, xaN e 14 (by decide)]⟩) (fun E1 s1 e1 => ?_)
  have hX1 : Ext E E1 [15] [] := hX0.trans e1
  refine k_putr (b := 15) (fun F => [(0, rV F 14), (1, rV F 1), (2, rV F 32)]) (fun F => []) rfl rfl gc_X8_11 hin rfl (xoN hX1) (xmO hX1 hm14) rfl (xmN hX1 (by simp)) rfl (ft_of rfl rfl) rfl rfl dX8_init_10 (fun _ e => ⟨by simp only [rV, xaN e 14 (by simp), xaN e 1 (by simp), xaN e 32 (by simp)], rfl⟩) (fun E2 e2 => ?_)
  have hX2 : Ext E E2 [15] [(14, 1)] := hX1.trans e2
  refine s_aload_n dX8_init_13 0 rfl rfl ?_
  refine s_sipush (v := 2816) dX8_init_14 (by decide) ?_
  refine k_newa (a := 16) (atype := .int) (fun F => [(0, rV F 14), (1, rV F 1), (2, rV F 32)]) (fun F => [rV F 14]) rfl rfl hq (xoN hX2) (xfN hX2 hf16 (by decide)) (by decide) rfl (Or.inl ⟨rfl, rfl⟩) rfl w_149 (by decide) (by decide) (by decide) 2 5632 (by decide) (show 2816 + ln 16 = 5632 from by decide) (Nat.le_of_ble_eq_true rfl) (Nat.le_of_ble_eq_true rfl) dX8_init_17 (fun _ e => ⟨by simp only [rV, xaN e 14 (by decide), xaN e 1 (by decide), xaN e 32 (by decide)], by simp only [rV, xaN e 14 (by decide)]⟩) (fun E3 s2 e3 => ?_)
  have hX3 : Ext E E3 [15, 16] [(14, 1)] := hX2.trans e3
  refine k_putr (b := 16) (fun F => [(0, rV F 14), (1, rV F 1), (2, rV F 32)]) (fun F => []) rfl rfl gc_X8_15 hin rfl (xoN hX3) (xmO hX3 hm14) rfl (xmN hX3 (by simp)) rfl (ft_of rfl rfl) rfl rfl dX8_init_19 (fun _ e => ⟨by simp only [rV, xaN e 14 (by simp), xaN e 1 (by simp), xaN e 32 (by simp)], rfl⟩) (fun E4 e4 => ?_)
  have hX4 : Ext E E4 [15, 16] [(14, 1), (14, 2)] := hX3.trans e4
  refine s_aload_n dX8_init_22 0 rfl rfl ?_
  refine s_sipush (v := 512) dX8_init_23 (by decide) ?_
  refine k_newa (a := 17) (atype := .int) (fun F => [(0, rV F 14), (1, rV F 1), (2, rV F 32)]) (fun F => [rV F 14]) rfl rfl hq (xoN hX4) (xfN hX4 hf17 (by decide)) (by decide) rfl (Or.inl ⟨rfl, rfl⟩) rfl w_149 (by decide) (by decide) (by decide) 3 6144 (by decide) (show 5632 + ln 17 = 6144 from by decide) (Nat.le_of_ble_eq_true rfl) (Nat.le_of_ble_eq_true rfl) dX8_init_26 (fun _ e => ⟨by simp only [rV, xaN e 14 (by decide), xaN e 1 (by decide), xaN e 32 (by decide)], by simp only [rV, xaN e 14 (by decide)]⟩) (fun E5 s3 e5 => ?_)
  have hX5 : Ext E E5 [15, 16, 17] [(14, 1), (14, 2)] := hX4.trans e5
  refine k_putr (b := 17) (fun F => [(0, rV F 14), (1, rV F 1), (2, rV F 32)]) (fun F => []) rfl rfl gc_X8_18 hin rfl (xoN hX5) (xmO hX5 hm14) rfl (xmN hX5 (by simp)) rfl (ft_of rfl rfl) rfl rfl dX8_init_28 (fun _ e => ⟨by simp only [rV, xaN e 14 (by simp), xaN e 1 (by simp), xaN e 32 (by simp)], rfl⟩) (fun E6 e6 => ?_)
  have hX6 : Ext E E6 [15, 16, 17] [(14, 1), (14, 2), (14, 3)] := hX5.trans e6
  refine s_aload_n dX8_init_31 0 rfl rfl ?_
  refine s_aload_n dX8_init_32 1 rfl rfl ?_
  refine k_putr (b := 1) (fun F => [(0, rV F 14), (1, rV F 1), (2, rV F 32)]) (fun F => []) rfl rfl gc_X8_21 hin rfl (xoN hX6) (xmO hX6 hm14) rfl (xmO hX6 hm1) rfl (ft_of rfl rfl) rfl rfl dX8_init_33 (fun _ e => ⟨by simp only [rV, xaN e 14 (by simp), xaN e 1 (by simp), xaN e 32 (by simp)], rfl⟩) (fun E7 e7 => ?_)
  have hX7 : Ext E E7 [15, 16, 17] [(14, 1), (14, 2), (14, 3), (14, 0)] := hX6.trans e7
  refine s_aload_n dX8_init_36 0 rfl rfl ?_
  refine s_aload_n dX8_init_37 2 rfl rfl ?_
  refine k_putS (j := 0) (fun F => [(0, rV F 14), (1, rV F 1), (2, rV F 32)]) (fun F => []) rfl rfl gf_X8_25 rfl (xoN hX7) (xmO hX7 hm14) (xmO hX7 hm0) ⟨(xmO hX7 hm32), (xmO hX7 hm34), (xmO hX7 hm36)⟩ rfl (ft_of rfl rfl) (by decide) dX8_init_38 (fun _ e => ⟨by simp only [rV, xaN e 14 (by simp), xaN e 1 (by simp), xaN e 32 (by simp)], rfl⟩) (fun E8 s4 e8 => ?_)
  have hX8 : Ext E E8 [15, 16, 17] [(14, 1), (14, 2), (14, 3), (14, 0), (14, 4)] := hX7.trans e8
  refine s_aload_n dX8_init_41 0 rfl rfl ?_
  refine s_iconst (v := -1) dX8_init_42 (by decide) ?_
  refine s_puti gf_X8_29 rfl (xmO hX8 hm14) (show kd 14 = 8 from rfl) (ft_of (show kd 14 = 8 from rfl) rfl) dX8_init_43 (fun s5 => ?_)
  refine s_aload_n dX8_init_46 0 rfl rfl ?_
  refine s_iconst (v := -1) dX8_init_47 (by decide) ?_
  refine s_puti gf_X8_33 rfl (xmO hX8 hm14) (show kd 14 = 8 from rfl) (ft_of (show kd 14 = 8 from rfl) rfl) dX8_init_48 (fun s6 => ?_)
  refine s_aload_n dX8_init_51 0 rfl rfl ?_
  refine s_iconst (v := -1) dX8_init_52 (by decide) ?_
  refine s_puti gf_X8_36 rfl (xmO hX8 hm14) (show kd 14 = 8 from rfl) (ft_of (show kd 14 = 8 from rfl) rfl) dX8_init_53 (fun s7 => ?_)
  exact k_ret rfl rfl rfl rfl hX8 dX8_init_56
theorem dX4_init_0 : decode cX4_init 0 = .ok (.aload_n 0, 1) := by decide +kernel
theorem dX4_init_1 : decode cX4_init 1 = .ok (.invokespecial 3, 3) := by decide +kernel
theorem dX4_init_4 : decode cX4_init 4 = .ok (.aload_n 0, 1) := by decide +kernel
theorem dX4_init_5 : decode cX4_init 5 = .ok (.sipush 256, 3) := by decide +kernel
theorem dX4_init_8 : decode cX4_init 8 = .ok (.newarray .int, 2) := by decide +kernel
theorem dX4_init_10 : decode cX4_init 10 = .ok (.putfield 9, 3) := by decide +kernel
theorem dX4_init_13 : decode cX4_init 13 = .ok (.aload_n 0, 1) := by decide +kernel
theorem dX4_init_14 : decode cX4_init 14 = .ok (.bipush 8, 2) := by decide +kernel
theorem dX4_init_16 : decode cX4_init 16 = .ok (.newarray .int, 2) := by decide +kernel
theorem dX4_init_18 : decode cX4_init 18 = .ok (.putfield 15, 3) := by decide +kernel
theorem dX4_init_21 : decode cX4_init 21 = .ok (.aload_n 0, 1) := by decide +kernel
theorem dX4_init_22 : decode cX4_init 22 = .ok (.aload_n 1, 1) := by decide +kernel
theorem dX4_init_23 : decode cX4_init 23 = .ok (.putfield 18, 3) := by decide +kernel
theorem dX4_init_26 : decode cX4_init 26 = .ok (.aload_n 0, 1) := by decide +kernel
theorem dX4_init_27 : decode cX4_init 27 = .ok (.iload_n 2, 1) := by decide +kernel
theorem dX4_init_28 : decode cX4_init 28 = .ok (.putfield 22, 3) := by decide +kernel
theorem dX4_init_31 : decode cX4_init 31 = .ok (.aload_n 0, 1) := by decide +kernel
theorem dX4_init_32 : decode cX4_init 32 = .ok (.iconst (-1), 1) := by decide +kernel
theorem dX4_init_33 : decode cX4_init 33 = .ok (.putfield 26, 3) := by decide +kernel
theorem dX4_init_36 : decode cX4_init 36 = .ok (.return_, 1) := by decide +kernel
def f_X4_init (σ : St) (j : Nat) (v2 : Int32) : Option St :=
  bd (zr σ (19 + 3 * j)) fun s1 =>
    bd (zr s1 (20 + 3 * j)) fun s2 =>
      ckZ v2 <|
        bd (setI s2 (18 + 3 * j) 1 v2) fun s3 =>
          bd (setI s3 (18 + 3 * j) 4 (-1 : Int32)) fun s5 =>
            some s5
set_option maxHeartbeats 4000000 in
set_option maxRecDepth 100000 in
theorem c_X4_init_0 (l : Launch) (E : Ev) (hm18 : 18 ∈ E.2.2.2.1) (hm1 : 1 ∈ E.2.2.2.1) (hf19 : 19 ∉ E.2.2.2.1) (hf20 : 20 ∉ E.2.2.2.1) (σ : St) (v2 : Int32) : CtrC l E md_X4_init_0 [rV E 18, rV E 1, .int v2] σ (f_X4_init σ 0 v2) [19, 20] [(18, 2), (18, 3), (18, 0)] := by
  refine ctrC_of rfl rfl (Nat.le_of_ble_eq_true rfl) (fun Γ sz hin hE hR hq => ?_)
  show Sim _ Γ (AX E sz, 0, 0) E md_X4_init_0 σ 0 [(0, rV E 18), (1, rV E 1), (2, .int v2)] [] _
  unfold f_X4_init
  have hX0 : Ext E E [] [] := Ext.rf hE hR
  refine s_aload_n dX4_init_0 0 rfl rfl ?_
  refine s_objInit rfl w_311 oiI oiC rfl dX4_init_1 ?_
  refine s_aload_n dX4_init_4 0 rfl rfl ?_
  refine s_sipush (v := 256) dX4_init_5 (by decide) ?_
  refine k_newa (a := 19) (atype := .int) (fun F => [(0, rV F 18), (1, rV F 1), (2, .int v2)]) (fun F => [rV F 18]) rfl rfl hq (xoN hX0) (xfN hX0 hf19 (by decide)) (by decide) rfl (Or.inl ⟨rfl, rfl⟩) rfl w_149 (by decide) (by decide) (by decide) 1 256 (by decide) (show 0 + ln 19 = 256 from by decide) (Nat.le_of_ble_eq_true rfl) (Nat.le_of_ble_eq_true rfl) dX4_init_8 (fun _ e => ⟨by simp only [rV, xaN e 18 (by decide), xaN e 1 (by decide)], by simp only [rV, xaN e 18 (by decide)]⟩) (fun E1 s1 e1 => ?_)
  have hX1 : Ext E E1 [19] [] := hX0.trans e1
  refine k_putr (b := 19) (fun F => [(0, rV F 18), (1, rV F 1), (2, .int v2)]) (fun F => []) rfl rfl gc_X4_9 hin rfl (xoN hX1) (xmO hX1 hm18) rfl (xmN hX1 (by simp)) rfl (ft_of rfl rfl) rfl rfl dX4_init_10 (fun _ e => ⟨by simp only [rV, xaN e 18 (by simp), xaN e 1 (by simp)], rfl⟩) (fun E2 e2 => ?_)
  have hX2 : Ext E E2 [19] [(18, 2)] := hX1.trans e2
  refine s_aload_n dX4_init_13 0 rfl rfl ?_
  refine s_bipush (v := 8) dX4_init_14 (by decide) ?_
  refine k_newa (a := 20) (atype := .int) (fun F => [(0, rV F 18), (1, rV F 1), (2, .int v2)]) (fun F => [rV F 18]) rfl rfl hq (xoN hX2) (xfN hX2 hf20 (by decide)) (by decide) rfl (Or.inl ⟨rfl, rfl⟩) rfl w_149 (by decide) (by decide) (by decide) 2 264 (by decide) (show 256 + ln 20 = 264 from by decide) (Nat.le_of_ble_eq_true rfl) (Nat.le_of_ble_eq_true rfl) dX4_init_16 (fun _ e => ⟨by simp only [rV, xaN e 18 (by decide), xaN e 1 (by decide)], by simp only [rV, xaN e 18 (by decide)]⟩) (fun E3 s2 e3 => ?_)
  have hX3 : Ext E E3 [19, 20] [(18, 2)] := hX2.trans e3
  refine k_putr (b := 20) (fun F => [(0, rV F 18), (1, rV F 1), (2, .int v2)]) (fun F => []) rfl rfl gc_X4_15 hin rfl (xoN hX3) (xmO hX3 hm18) rfl (xmN hX3 (by simp)) rfl (ft_of rfl rfl) rfl rfl dX4_init_18 (fun _ e => ⟨by simp only [rV, xaN e 18 (by simp), xaN e 1 (by simp)], rfl⟩) (fun E4 e4 => ?_)
  have hX4 : Ext E E4 [19, 20] [(18, 2), (18, 3)] := hX3.trans e4
  refine s_aload_n dX4_init_21 0 rfl rfl ?_
  refine s_aload_n dX4_init_22 1 rfl rfl ?_
  refine k_putr (b := 1) (fun F => [(0, rV F 18), (1, rV F 1), (2, .int v2)]) (fun F => []) rfl rfl gc_X4_18 hin rfl (xoN hX4) (xmO hX4 hm18) rfl (xmO hX4 hm1) rfl (ft_of rfl rfl) rfl rfl dX4_init_23 (fun _ e => ⟨by simp only [rV, xaN e 18 (by simp), xaN e 1 (by simp)], rfl⟩) (fun E5 e5 => ?_)
  have hX5 : Ext E E5 [19, 20] [(18, 2), (18, 3), (18, 0)] := hX4.trans e5
  refine s_aload_n dX4_init_26 0 rfl rfl ?_
  refine s_iload_n dX4_init_27 2 rfl rfl ?_
  refine s_ckZ (fun hz4 => ?_)
  refine k_putFi gc_X4_22 hin rfl (xmO hX5 hm18) rfl (ft_of rfl rfl) (by rcases hz4 with h | h <;> rw [h] <;> rfl) (by rcases hz4 with h | h <;> rw [h] <;> rfl) dX4_init_28 (fun s3 => ?_)
  refine s_aload_n dX4_init_31 0 rfl rfl ?_
  refine s_iconst (v := -1) dX4_init_32 (by decide) ?_
  refine s_puti gf_X4_26 rfl (xmO hX5 hm18) (show kd 18 = 4 from rfl) (ft_of (show kd 18 = 4 from rfl) rfl) dX4_init_33 (fun s5 => ?_)
  exact k_ret rfl rfl rfl rfl hX5 dX4_init_36
set_option maxHeartbeats 4000000 in
set_option maxRecDepth 100000 in
theorem c_X4_init_1 (l : Launch) (E : Ev) (hm21 : 21 ∈ E.2.2.2.1) (hm1 : 1 ∈ E.2.2.2.1) (hf22 : 22 ∉ E.2.2.2.1) (hf23 : 23 ∉ E.2.2.2.1) (σ : St) (v2 : Int32) : CtrC l E md_X4_init_1 [rV E 21, rV E 1, .int v2] σ (f_X4_init σ 1 v2) [22, 23] [(21, 2), (21, 3), (21, 0)] := by
  refine ctrC_of rfl rfl (Nat.le_of_ble_eq_true rfl) (fun Γ sz hin hE hR hq => ?_)
  show Sim _ Γ (AX E sz, 0, 0) E md_X4_init_1 σ 0 [(0, rV E 21), (1, rV E 1), (2, .int v2)] [] _
  unfold f_X4_init
  have hX0 : Ext E E [] [] := Ext.rf hE hR
  refine s_aload_n dX4_init_0 0 rfl rfl ?_
  refine s_objInit rfl w_311 oiI oiC rfl dX4_init_1 ?_
  refine s_aload_n dX4_init_4 0 rfl rfl ?_
  refine s_sipush (v := 256) dX4_init_5 (by decide) ?_
  refine k_newa (a := 22) (atype := .int) (fun F => [(0, rV F 21), (1, rV F 1), (2, .int v2)]) (fun F => [rV F 21]) rfl rfl hq (xoN hX0) (xfN hX0 hf22 (by decide)) (by decide) rfl (Or.inl ⟨rfl, rfl⟩) rfl w_149 (by decide) (by decide) (by decide) 1 256 (by decide) (show 0 + ln 22 = 256 from by decide) (Nat.le_of_ble_eq_true rfl) (Nat.le_of_ble_eq_true rfl) dX4_init_8 (fun _ e => ⟨by simp only [rV, xaN e 21 (by decide), xaN e 1 (by decide)], by simp only [rV, xaN e 21 (by decide)]⟩) (fun E1 s1 e1 => ?_)
  have hX1 : Ext E E1 [22] [] := hX0.trans e1
  refine k_putr (b := 22) (fun F => [(0, rV F 21), (1, rV F 1), (2, .int v2)]) (fun F => []) rfl rfl gc_X4_9 hin rfl (xoN hX1) (xmO hX1 hm21) rfl (xmN hX1 (by simp)) rfl (ft_of rfl rfl) rfl rfl dX4_init_10 (fun _ e => ⟨by simp only [rV, xaN e 21 (by simp), xaN e 1 (by simp)], rfl⟩) (fun E2 e2 => ?_)
  have hX2 : Ext E E2 [22] [(21, 2)] := hX1.trans e2
  refine s_aload_n dX4_init_13 0 rfl rfl ?_
  refine s_bipush (v := 8) dX4_init_14 (by decide) ?_
  refine k_newa (a := 23) (atype := .int) (fun F => [(0, rV F 21), (1, rV F 1), (2, .int v2)]) (fun F => [rV F 21]) rfl rfl hq (xoN hX2) (xfN hX2 hf23 (by decide)) (by decide) rfl (Or.inl ⟨rfl, rfl⟩) rfl w_149 (by decide) (by decide) (by decide) 2 264 (by decide) (show 256 + ln 23 = 264 from by decide) (Nat.le_of_ble_eq_true rfl) (Nat.le_of_ble_eq_true rfl) dX4_init_16 (fun _ e => ⟨by simp only [rV, xaN e 21 (by decide), xaN e 1 (by decide)], by simp only [rV, xaN e 21 (by decide)]⟩) (fun E3 s2 e3 => ?_)
  have hX3 : Ext E E3 [22, 23] [(21, 2)] := hX2.trans e3
  refine k_putr (b := 23) (fun F => [(0, rV F 21), (1, rV F 1), (2, .int v2)]) (fun F => []) rfl rfl gc_X4_15 hin rfl (xoN hX3) (xmO hX3 hm21) rfl (xmN hX3 (by simp)) rfl (ft_of rfl rfl) rfl rfl dX4_init_18 (fun _ e => ⟨by simp only [rV, xaN e 21 (by simp), xaN e 1 (by simp)], rfl⟩) (fun E4 e4 => ?_)
  have hX4 : Ext E E4 [22, 23] [(21, 2), (21, 3)] := hX3.trans e4
  refine s_aload_n dX4_init_21 0 rfl rfl ?_
  refine s_aload_n dX4_init_22 1 rfl rfl ?_
  refine k_putr (b := 1) (fun F => [(0, rV F 21), (1, rV F 1), (2, .int v2)]) (fun F => []) rfl rfl gc_X4_18 hin rfl (xoN hX4) (xmO hX4 hm21) rfl (xmO hX4 hm1) rfl (ft_of rfl rfl) rfl rfl dX4_init_23 (fun _ e => ⟨by simp only [rV, xaN e 21 (by simp), xaN e 1 (by simp)], rfl⟩) (fun E5 e5 => ?_)
  have hX5 : Ext E E5 [22, 23] [(21, 2), (21, 3), (21, 0)] := hX4.trans e5
  refine s_aload_n dX4_init_26 0 rfl rfl ?_
  refine s_iload_n dX4_init_27 2 rfl rfl ?_
  refine s_ckZ (fun hz4 => ?_)
  refine k_putFi gc_X4_22 hin rfl (xmO hX5 hm21) rfl (ft_of rfl rfl) (by rcases hz4 with h | h <;> rw [h] <;> rfl) (by rcases hz4 with h | h <;> rw [h] <;> rfl) dX4_init_28 (fun s3 => ?_)
  refine s_aload_n dX4_init_31 0 rfl rfl ?_
  refine s_iconst (v := -1) dX4_init_32 (by decide) ?_
  refine s_puti gf_X4_26 rfl (xmO hX5 hm21) (show kd 21 = 4 from rfl) (ft_of (show kd 21 = 4 from rfl) rfl) dX4_init_33 (fun s5 => ?_)
  exact k_ret rfl rfl rfl rfl hX5 dX4_init_36
theorem dX1_init_0 : decode cX1_init 0 = .ok (.aload_n 0, 1) := by decide +kernel
theorem dX1_init_1 : decode cX1_init 1 = .ok (.invokespecial 3, 3) := by decide +kernel
theorem dX1_init_4 : decode cX1_init 4 = .ok (.aload_n 0, 1) := by decide +kernel
theorem dX1_init_5 : decode cX1_init 5 = .ok (.aload_n 1, 1) := by decide +kernel
theorem dX1_init_6 : decode cX1_init 6 = .ok (.putfield 9, 3) := by decide +kernel
theorem dX1_init_9 : decode cX1_init 9 = .ok (.return_, 1) := by decide +kernel
def f_X1_init (σ : St) : Option St :=
  some σ
set_option maxHeartbeats 4000000 in
set_option maxRecDepth 100000 in
theorem c_X1_init (l : Launch) (E : Ev) (hm24 : 24 ∈ E.2.2.2.1) (hm1 : 1 ∈ E.2.2.2.1) (σ : St) : CtrC l E md_X1_init [rV E 24, rV E 1] σ (f_X1_init σ) [] [(24, 0)] := by
  refine ctrC_of rfl rfl (Nat.le_of_ble_eq_true rfl) (fun Γ sz hin hE hR hq => ?_)
  show Sim _ Γ (AX E sz, 0, 0) E md_X1_init σ 0 [(0, rV E 24), (1, rV E 1)] [] _
  unfold f_X1_init
  have hX0 : Ext E E [] [] := Ext.rf hE hR
  refine s_aload_n dX1_init_0 0 rfl rfl ?_
  refine s_objInit rfl w_333 oiI oiC rfl dX1_init_1 ?_
  refine s_aload_n dX1_init_4 0 rfl rfl ?_
  refine s_aload_n dX1_init_5 1 rfl rfl ?_
  refine k_putr (b := 1) (fun F => [(0, rV F 24), (1, rV F 1)]) (fun F => []) rfl rfl gc_X1_9 hin rfl (xoN hX0) (xmO hX0 hm24) rfl (xmO hX0 hm1) rfl (ft_of rfl rfl) rfl rfl dX1_init_6 (fun _ e => ⟨by simp only [rV, xaN e 24 (by simp), xaN e 1 (by simp)], rfl⟩) (fun E1 e1 => ?_)
  have hX1 : Ext E E1 [] [(24, 0)] := hX0.trans e1
  exact k_ret rfl rfl rfl rfl hX1 dX1_init_9
theorem dX2_init_0 : decode cX2_init 0 = .ok (.aload_n 0, 1) := by decide +kernel
theorem dX2_init_1 : decode cX2_init 1 = .ok (.invokespecial 3, 3) := by decide +kernel
theorem dX2_init_4 : decode cX2_init 4 = .ok (.aload_n 0, 1) := by decide +kernel
theorem dX2_init_5 : decode cX2_init 5 = .ok (.sipush 1024, 3) := by decide +kernel
theorem dX2_init_8 : decode cX2_init 8 = .ok (.newarray .long, 2) := by decide +kernel
theorem dX2_init_10 : decode cX2_init 10 = .ok (.putfield 11, 3) := by decide +kernel
theorem dX2_init_13 : decode cX2_init 13 = .ok (.aload_n 0, 1) := by decide +kernel
theorem dX2_init_14 : decode cX2_init 14 = .ok (.iconst 4, 1) := by decide +kernel
theorem dX2_init_15 : decode cX2_init 15 = .ok (.newarray .long, 2) := by decide +kernel
theorem dX2_init_17 : decode cX2_init 17 = .ok (.putfield 15, 3) := by decide +kernel
theorem dX2_init_20 : decode cX2_init 20 = .ok (.aload_n 0, 1) := by decide +kernel
theorem dX2_init_21 : decode cX2_init 21 = .ok (.aload_n 1, 1) := by decide +kernel
theorem dX2_init_22 : decode cX2_init 22 = .ok (.putfield 18, 3) := by decide +kernel
theorem dX2_init_25 : decode cX2_init 25 = .ok (.aload_n 0, 1) := by decide +kernel
theorem dX2_init_26 : decode cX2_init 26 = .ok (.iload_n 2, 1) := by decide +kernel
theorem dX2_init_27 : decode cX2_init 27 = .ok (.putfield 22, 3) := by decide +kernel
theorem dX2_init_30 : decode cX2_init 30 = .ok (.aload_n 0, 1) := by decide +kernel
theorem dX2_init_31 : decode cX2_init 31 = .ok (.iconst (-1), 1) := by decide +kernel
theorem dX2_init_32 : decode cX2_init 32 = .ok (.putfield 26, 3) := by decide +kernel
theorem dX2_init_35 : decode cX2_init 35 = .ok (.return_, 1) := by decide +kernel
def f_X2_init (σ : St) (g : Nat) (v2 : Int32) : Option St :=
  bd (zr σ (27 + 3 * g)) fun s1 =>
    bd (zr s1 (28 + 3 * g)) fun s2 =>
      bd (setI s2 (26 + 3 * g) 1 v2) fun s3 =>
        bd (setI s3 (26 + 3 * g) 4 (-1 : Int32)) fun s4 =>
          some s4
set_option maxHeartbeats 4000000 in
set_option maxRecDepth 100000 in
theorem c_X2_init_0 (l : Launch) (E : Ev) (hm26 : 26 ∈ E.2.2.2.1) (hm1 : 1 ∈ E.2.2.2.1) (hf27 : 27 ∉ E.2.2.2.1) (hf28 : 28 ∉ E.2.2.2.1) (σ : St) (v2 : Int32) : CtrC l E md_X2_init_0 [rV E 26, rV E 1, .int v2] σ (f_X2_init σ 0 v2) [27, 28] [(26, 2), (26, 3), (26, 0)] := by
  refine ctrC_of rfl rfl (Nat.le_of_ble_eq_true rfl) (fun Γ sz hin hE hR hq => ?_)
  show Sim _ Γ (AX E sz, 0, 0) E md_X2_init_0 σ 0 [(0, rV E 26), (1, rV E 1), (2, .int v2)] [] _
  unfold f_X2_init
  have hX0 : Ext E E [] [] := Ext.rf hE hR
  refine s_aload_n dX2_init_0 0 rfl rfl ?_
  refine s_objInit rfl w_344 oiI oiC rfl dX2_init_1 ?_
  refine s_aload_n dX2_init_4 0 rfl rfl ?_
  refine s_sipush (v := 1024) dX2_init_5 (by decide) ?_
  refine k_newa (a := 27) (atype := .long) (fun F => [(0, rV F 26), (1, rV F 1), (2, .int v2)]) (fun F => [rV F 26]) rfl rfl hq (xoN hX0) (xfN hX0 hf27 (by decide)) (by decide) rfl (Or.inr (Or.inl ⟨rfl, rfl⟩)) rfl w_361 (by decide) (by decide) (by decide) 1 1024 (by decide) (show 0 + ln 27 = 1024 from by decide) (Nat.le_of_ble_eq_true rfl) (Nat.le_of_ble_eq_true rfl) dX2_init_8 (fun _ e => ⟨by simp only [rV, xaN e 26 (by decide), xaN e 1 (by decide)], by simp only [rV, xaN e 26 (by decide)]⟩) (fun E1 s1 e1 => ?_)
  have hX1 : Ext E E1 [27] [] := hX0.trans e1
  refine k_putr (b := 27) (fun F => [(0, rV F 26), (1, rV F 1), (2, .int v2)]) (fun F => []) rfl rfl gc_X2_11 hin rfl (xoN hX1) (xmO hX1 hm26) rfl (xmN hX1 (by simp)) rfl (ft_of rfl rfl) rfl rfl dX2_init_10 (fun _ e => ⟨by simp only [rV, xaN e 26 (by simp), xaN e 1 (by simp)], rfl⟩) (fun E2 e2 => ?_)
  have hX2 : Ext E E2 [27] [(26, 2)] := hX1.trans e2
  refine s_aload_n dX2_init_13 0 rfl rfl ?_
  refine s_iconst (v := 4) dX2_init_14 (by decide) ?_
  refine k_newa (a := 28) (atype := .long) (fun F => [(0, rV F 26), (1, rV F 1), (2, .int v2)]) (fun F => [rV F 26]) rfl rfl hq (xoN hX2) (xfN hX2 hf28 (by decide)) (by decide) rfl (Or.inr (Or.inl ⟨rfl, rfl⟩)) rfl w_361 (by decide) (by decide) (by decide) 2 1028 (by decide) (show 1024 + ln 28 = 1028 from by decide) (Nat.le_of_ble_eq_true rfl) (Nat.le_of_ble_eq_true rfl) dX2_init_15 (fun _ e => ⟨by simp only [rV, xaN e 26 (by decide), xaN e 1 (by decide)], by simp only [rV, xaN e 26 (by decide)]⟩) (fun E3 s2 e3 => ?_)
  have hX3 : Ext E E3 [27, 28] [(26, 2)] := hX2.trans e3
  refine k_putr (b := 28) (fun F => [(0, rV F 26), (1, rV F 1), (2, .int v2)]) (fun F => []) rfl rfl gc_X2_15 hin rfl (xoN hX3) (xmO hX3 hm26) rfl (xmN hX3 (by simp)) rfl (ft_of rfl rfl) rfl rfl dX2_init_17 (fun _ e => ⟨by simp only [rV, xaN e 26 (by simp), xaN e 1 (by simp)], rfl⟩) (fun E4 e4 => ?_)
  have hX4 : Ext E E4 [27, 28] [(26, 2), (26, 3)] := hX3.trans e4
  refine s_aload_n dX2_init_20 0 rfl rfl ?_
  refine s_aload_n dX2_init_21 1 rfl rfl ?_
  refine k_putr (b := 1) (fun F => [(0, rV F 26), (1, rV F 1), (2, .int v2)]) (fun F => []) rfl rfl gc_X2_18 hin rfl (xoN hX4) (xmO hX4 hm26) rfl (xmO hX4 hm1) rfl (ft_of rfl rfl) rfl rfl dX2_init_22 (fun _ e => ⟨by simp only [rV, xaN e 26 (by simp), xaN e 1 (by simp)], rfl⟩) (fun E5 e5 => ?_)
  have hX5 : Ext E E5 [27, 28] [(26, 2), (26, 3), (26, 0)] := hX4.trans e5
  refine s_aload_n dX2_init_25 0 rfl rfl ?_
  refine s_iload_n dX2_init_26 2 rfl rfl ?_
  refine k_putFi gc_X2_22 hin rfl (xmO hX5 hm26) rfl (ft_of rfl rfl) rfl rfl dX2_init_27 (fun s3 => ?_)
  refine s_aload_n dX2_init_30 0 rfl rfl ?_
  refine s_iconst (v := -1) dX2_init_31 (by decide) ?_
  refine s_puti gf_X2_26 rfl (xmO hX5 hm26) (show kd 26 = 2 from rfl) (ft_of (show kd 26 = 2 from rfl) rfl) dX2_init_32 (fun s4 => ?_)
  exact k_ret rfl rfl rfl rfl hX5 dX2_init_35
set_option maxHeartbeats 4000000 in
set_option maxRecDepth 100000 in
theorem c_X2_init_1 (l : Launch) (E : Ev) (hm29 : 29 ∈ E.2.2.2.1) (hm1 : 1 ∈ E.2.2.2.1) (hf30 : 30 ∉ E.2.2.2.1) (hf31 : 31 ∉ E.2.2.2.1) (σ : St) (v2 : Int32) : CtrC l E md_X2_init_1 [rV E 29, rV E 1, .int v2] σ (f_X2_init σ 1 v2) [30, 31] [(29, 2), (29, 3), (29, 0)] := by
  refine ctrC_of rfl rfl (Nat.le_of_ble_eq_true rfl) (fun Γ sz hin hE hR hq => ?_)
  show Sim _ Γ (AX E sz, 0, 0) E md_X2_init_1 σ 0 [(0, rV E 29), (1, rV E 1), (2, .int v2)] [] _
  unfold f_X2_init
  have hX0 : Ext E E [] [] := Ext.rf hE hR
  refine s_aload_n dX2_init_0 0 rfl rfl ?_
  refine s_objInit rfl w_344 oiI oiC rfl dX2_init_1 ?_
  refine s_aload_n dX2_init_4 0 rfl rfl ?_
  refine s_sipush (v := 1024) dX2_init_5 (by decide) ?_
  refine k_newa (a := 30) (atype := .long) (fun F => [(0, rV F 29), (1, rV F 1), (2, .int v2)]) (fun F => [rV F 29]) rfl rfl hq (xoN hX0) (xfN hX0 hf30 (by decide)) (by decide) rfl (Or.inr (Or.inl ⟨rfl, rfl⟩)) rfl w_361 (by decide) (by decide) (by decide) 1 1024 (by decide) (show 0 + ln 30 = 1024 from by decide) (Nat.le_of_ble_eq_true rfl) (Nat.le_of_ble_eq_true rfl) dX2_init_8 (fun _ e => ⟨by simp only [rV, xaN e 29 (by decide), xaN e 1 (by decide)], by simp only [rV, xaN e 29 (by decide)]⟩) (fun E1 s1 e1 => ?_)
  have hX1 : Ext E E1 [30] [] := hX0.trans e1
  refine k_putr (b := 30) (fun F => [(0, rV F 29), (1, rV F 1), (2, .int v2)]) (fun F => []) rfl rfl gc_X2_11 hin rfl (xoN hX1) (xmO hX1 hm29) rfl (xmN hX1 (by simp)) rfl (ft_of rfl rfl) rfl rfl dX2_init_10 (fun _ e => ⟨by simp only [rV, xaN e 29 (by simp), xaN e 1 (by simp)], rfl⟩) (fun E2 e2 => ?_)
  have hX2 : Ext E E2 [30] [(29, 2)] := hX1.trans e2
  refine s_aload_n dX2_init_13 0 rfl rfl ?_
  refine s_iconst (v := 4) dX2_init_14 (by decide) ?_
  refine k_newa (a := 31) (atype := .long) (fun F => [(0, rV F 29), (1, rV F 1), (2, .int v2)]) (fun F => [rV F 29]) rfl rfl hq (xoN hX2) (xfN hX2 hf31 (by decide)) (by decide) rfl (Or.inr (Or.inl ⟨rfl, rfl⟩)) rfl w_361 (by decide) (by decide) (by decide) 2 1028 (by decide) (show 1024 + ln 31 = 1028 from by decide) (Nat.le_of_ble_eq_true rfl) (Nat.le_of_ble_eq_true rfl) dX2_init_15 (fun _ e => ⟨by simp only [rV, xaN e 29 (by decide), xaN e 1 (by decide)], by simp only [rV, xaN e 29 (by decide)]⟩) (fun E3 s2 e3 => ?_)
  have hX3 : Ext E E3 [30, 31] [(29, 2)] := hX2.trans e3
  refine k_putr (b := 31) (fun F => [(0, rV F 29), (1, rV F 1), (2, .int v2)]) (fun F => []) rfl rfl gc_X2_15 hin rfl (xoN hX3) (xmO hX3 hm29) rfl (xmN hX3 (by simp)) rfl (ft_of rfl rfl) rfl rfl dX2_init_17 (fun _ e => ⟨by simp only [rV, xaN e 29 (by simp), xaN e 1 (by simp)], rfl⟩) (fun E4 e4 => ?_)
  have hX4 : Ext E E4 [30, 31] [(29, 2), (29, 3)] := hX3.trans e4
  refine s_aload_n dX2_init_20 0 rfl rfl ?_
  refine s_aload_n dX2_init_21 1 rfl rfl ?_
  refine k_putr (b := 1) (fun F => [(0, rV F 29), (1, rV F 1), (2, .int v2)]) (fun F => []) rfl rfl gc_X2_18 hin rfl (xoN hX4) (xmO hX4 hm29) rfl (xmO hX4 hm1) rfl (ft_of rfl rfl) rfl rfl dX2_init_22 (fun _ e => ⟨by simp only [rV, xaN e 29 (by simp), xaN e 1 (by simp)], rfl⟩) (fun E5 e5 => ?_)
  have hX5 : Ext E E5 [30, 31] [(29, 2), (29, 3), (29, 0)] := hX4.trans e5
  refine s_aload_n dX2_init_25 0 rfl rfl ?_
  refine s_iload_n dX2_init_26 2 rfl rfl ?_
  refine k_putFi gc_X2_22 hin rfl (xmO hX5 hm29) rfl (ft_of rfl rfl) rfl rfl dX2_init_27 (fun s3 => ?_)
  refine s_aload_n dX2_init_30 0 rfl rfl ?_
  refine s_iconst (v := -1) dX2_init_31 (by decide) ?_
  refine s_puti gf_X2_26 rfl (xmO hX5 hm29) (show kd 29 = 2 from rfl) (ft_of (show kd 29 = 2 from rfl) rfl) dX2_init_32 (fun s4 => ?_)
  exact k_ret rfl rfl rfl rfl hX5 dX2_init_35
theorem dX9_init_0 : decode cX9_init 0 = .ok (.aload_n 0, 1) := by decide +kernel
theorem dX9_init_1 : decode cX9_init 1 = .ok (.invokespecial 1, 3) := by decide +kernel
theorem dX9_init_4 : decode cX9_init 4 = .ok (.aload_n 0, 1) := by decide +kernel
theorem dX9_init_5 : decode cX9_init 5 = .ok (.new 7, 3) := by decide +kernel
theorem dX9_init_8 : decode cX9_init 8 = .ok (.dup, 1) := by decide +kernel
theorem dX9_init_9 : decode cX9_init 9 = .ok (.iconst 4, 1) := by decide +kernel
theorem dX9_init_10 : decode cX9_init 10 = .ok (.invokespecial 11, 3) := by decide +kernel
theorem dX9_init_13 : decode cX9_init 13 = .ok (.putfield 14, 3) := by decide +kernel
theorem dX9_init_16 : decode cX9_init 16 = .ok (.aload_n 0, 1) := by decide +kernel
theorem dX9_init_17 : decode cX9_init 17 = .ok (.new 18, 3) := by decide +kernel
theorem dX9_init_20 : decode cX9_init 20 = .ok (.dup, 1) := by decide +kernel
theorem dX9_init_21 : decode cX9_init 21 = .ok (.invokespecial 20, 3) := by decide +kernel
theorem dX9_init_24 : decode cX9_init 24 = .ok (.putfield 21, 3) := by decide +kernel
theorem dX9_init_27 : decode cX9_init 27 = .ok (.aload_n 0, 1) := by decide +kernel
theorem dX9_init_28 : decode cX9_init 28 = .ok (.iconst 3, 1) := by decide +kernel
theorem dX9_init_29 : decode cX9_init 29 = .ok (.anewarray 25, 3) := by decide +kernel
theorem dX9_init_32 : decode cX9_init 32 = .ok (.putfield 27, 3) := by decide +kernel
theorem dX9_init_35 : decode cX9_init 35 = .ok (.aload_n 0, 1) := by decide +kernel
theorem dX9_init_36 : decode cX9_init 36 = .ok (.bipush 9, 2) := by decide +kernel
theorem dX9_init_38 : decode cX9_init 38 = .ok (.anewarray 31, 3) := by decide +kernel
theorem dX9_init_41 : decode cX9_init 41 = .ok (.putfield 33, 3) := by decide +kernel
theorem dX9_init_44 : decode cX9_init 44 = .ok (.iconst 1, 1) := by decide +kernel
theorem dX9_init_45 : decode cX9_init 45 = .ok (.istore_n 1, 1) := by decide +kernel
theorem dX9_init_46 : decode cX9_init 46 = .ok (.iload_n 1, 1) := by decide +kernel
theorem dX9_init_47 : decode cX9_init 47 = .ok (.iconst 3, 1) := by decide +kernel
theorem dX9_init_48 : decode cX9_init 48 = .ok (.if_icmp .gt 76, 3) := by decide +kernel
theorem dX9_init_51 : decode cX9_init 51 = .ok (.aload_n 0, 1) := by decide +kernel
theorem dX9_init_52 : decode cX9_init 52 = .ok (.getfield 27, 3) := by decide +kernel
theorem dX9_init_55 : decode cX9_init 55 = .ok (.iload_n 1, 1) := by decide +kernel
theorem dX9_init_56 : decode cX9_init 56 = .ok (.iconst 1, 1) := by decide +kernel
theorem dX9_init_57 : decode cX9_init 57 = .ok (.isub, 1) := by decide +kernel
theorem dX9_init_58 : decode cX9_init 58 = .ok (.new 25, 3) := by decide +kernel
theorem dX9_init_61 : decode cX9_init 61 = .ok (.dup, 1) := by decide +kernel
theorem dX9_init_62 : decode cX9_init 62 = .ok (.aload_n 0, 1) := by decide +kernel
theorem dX9_init_63 : decode cX9_init 63 = .ok (.getfield 14, 3) := by decide +kernel
theorem dX9_init_66 : decode cX9_init 66 = .ok (.iload_n 1, 1) := by decide +kernel
theorem dX9_init_67 : decode cX9_init 67 = .ok (.invokespecial 37, 3) := by decide +kernel
theorem dX9_init_70 : decode cX9_init 70 = .ok (.aastore, 1) := by decide +kernel
theorem dX9_init_71 : decode cX9_init 71 = .ok (.iconst 1, 1) := by decide +kernel
theorem dX9_init_72 : decode cX9_init 72 = .ok (.istore_n 2, 1) := by decide +kernel
theorem dX9_init_73 : decode cX9_init 73 = .ok (.iload_n 2, 1) := by decide +kernel
theorem dX9_init_74 : decode cX9_init 74 = .ok (.iconst 3, 1) := by decide +kernel
theorem dX9_init_75 : decode cX9_init 75 = .ok (.if_icmp .gt 43, 3) := by decide +kernel
theorem dX9_init_78 : decode cX9_init 78 = .ok (.aload_n 0, 1) := by decide +kernel
theorem dX9_init_79 : decode cX9_init 79 = .ok (.getfield 33, 3) := by decide +kernel
theorem dX9_init_82 : decode cX9_init 82 = .ok (.iload_n 1, 1) := by decide +kernel
theorem dX9_init_83 : decode cX9_init 83 = .ok (.iconst 1, 1) := by decide +kernel
theorem dX9_init_84 : decode cX9_init 84 = .ok (.isub, 1) := by decide +kernel
theorem dX9_init_85 : decode cX9_init 85 = .ok (.iconst 3, 1) := by decide +kernel
theorem dX9_init_86 : decode cX9_init 86 = .ok (.imul, 1) := by decide +kernel
theorem dX9_init_87 : decode cX9_init 87 = .ok (.iload_n 2, 1) := by decide +kernel
theorem dX9_init_88 : decode cX9_init 88 = .ok (.iadd, 1) := by decide +kernel
theorem dX9_init_89 : decode cX9_init 89 = .ok (.iconst 1, 1) := by decide +kernel
theorem dX9_init_90 : decode cX9_init 90 = .ok (.isub, 1) := by decide +kernel
theorem dX9_init_91 : decode cX9_init 91 = .ok (.new 31, 3) := by decide +kernel
theorem dX9_init_94 : decode cX9_init 94 = .ok (.dup, 1) := by decide +kernel
theorem dX9_init_95 : decode cX9_init 95 = .ok (.aload_n 0, 1) := by decide +kernel
theorem dX9_init_96 : decode cX9_init 96 = .ok (.getfield 14, 3) := by decide +kernel
theorem dX9_init_99 : decode cX9_init 99 = .ok (.aload_n 0, 1) := by decide +kernel
theorem dX9_init_100 : decode cX9_init 100 = .ok (.getfield 27, 3) := by decide +kernel
theorem dX9_init_103 : decode cX9_init 103 = .ok (.iload_n 1, 1) := by decide +kernel
theorem dX9_init_104 : decode cX9_init 104 = .ok (.iconst 1, 1) := by decide +kernel
theorem dX9_init_105 : decode cX9_init 105 = .ok (.isub, 1) := by decide +kernel
theorem dX9_init_106 : decode cX9_init 106 = .ok (.aaload, 1) := by decide +kernel
theorem dX9_init_107 : decode cX9_init 107 = .ok (.iload_n 2, 1) := by decide +kernel
theorem dX9_init_108 : decode cX9_init 108 = .ok (.invokespecial 40, 3) := by decide +kernel
theorem dX9_init_111 : decode cX9_init 111 = .ok (.aastore, 1) := by decide +kernel
theorem dX9_init_112 : decode cX9_init 112 = .ok (.iinc 2 1, 3) := by decide +kernel
theorem dX9_init_115 : decode cX9_init 115 = .ok (.goto (-42), 3) := by decide +kernel
theorem dX9_init_118 : decode cX9_init 118 = .ok (.iinc 1 1, 3) := by decide +kernel
theorem dX9_init_121 : decode cX9_init 121 = .ok (.goto (-75), 3) := by decide +kernel
theorem dX9_init_124 : decode cX9_init 124 = .ok (.aload_n 0, 1) := by decide +kernel
theorem dX9_init_125 : decode cX9_init 125 = .ok (.new 43, 3) := by decide +kernel
theorem dX9_init_128 : decode cX9_init 128 = .ok (.dup, 1) := by decide +kernel
theorem dX9_init_129 : decode cX9_init 129 = .ok (.invokespecial 45, 3) := by decide +kernel
theorem dX9_init_132 : decode cX9_init 132 = .ok (.putfield 46, 3) := by decide +kernel
theorem dX9_init_135 : decode cX9_init 135 = .ok (.aload_n 0, 1) := by decide +kernel
theorem dX9_init_136 : decode cX9_init 136 = .ok (.new 50, 3) := by decide +kernel
theorem dX9_init_139 : decode cX9_init 139 = .ok (.dup, 1) := by decide +kernel
theorem dX9_init_140 : decode cX9_init 140 = .ok (.aload_n 0, 1) := by decide +kernel
theorem dX9_init_141 : decode cX9_init 141 = .ok (.getfield 14, 3) := by decide +kernel
theorem dX9_init_144 : decode cX9_init 144 = .ok (.aload_n 0, 1) := by decide +kernel
theorem dX9_init_145 : decode cX9_init 145 = .ok (.getfield 27, 3) := by decide +kernel
theorem dX9_init_148 : decode cX9_init 148 = .ok (.iconst 0, 1) := by decide +kernel
theorem dX9_init_149 : decode cX9_init 149 = .ok (.aaload, 1) := by decide +kernel
theorem dX9_init_150 : decode cX9_init 150 = .ok (.invokespecial 52, 3) := by decide +kernel
theorem dX9_init_153 : decode cX9_init 153 = .ok (.putfield 55, 3) := by decide +kernel
theorem dX9_init_156 : decode cX9_init 156 = .ok (.aload_n 0, 1) := by decide +kernel
theorem dX9_init_157 : decode cX9_init 157 = .ok (.new 59, 3) := by decide +kernel
theorem dX9_init_160 : decode cX9_init 160 = .ok (.dup, 1) := by decide +kernel
theorem dX9_init_161 : decode cX9_init 161 = .ok (.aload_n 0, 1) := by decide +kernel
theorem dX9_init_162 : decode cX9_init 162 = .ok (.getfield 14, 3) := by decide +kernel
theorem dX9_init_165 : decode cX9_init 165 = .ok (.iconst 0, 1) := by decide +kernel
theorem dX9_init_166 : decode cX9_init 166 = .ok (.invokespecial 61, 3) := by decide +kernel
theorem dX9_init_169 : decode cX9_init 169 = .ok (.putfield 64, 3) := by decide +kernel
theorem dX9_init_172 : decode cX9_init 172 = .ok (.aload_n 0, 1) := by decide +kernel
theorem dX9_init_173 : decode cX9_init 173 = .ok (.new 59, 3) := by decide +kernel
theorem dX9_init_176 : decode cX9_init 176 = .ok (.dup, 1) := by decide +kernel
theorem dX9_init_177 : decode cX9_init 177 = .ok (.aload_n 0, 1) := by decide +kernel
theorem dX9_init_178 : decode cX9_init 178 = .ok (.getfield 14, 3) := by decide +kernel
theorem dX9_init_181 : decode cX9_init 181 = .ok (.iconst 1, 1) := by decide +kernel
theorem dX9_init_182 : decode cX9_init 182 = .ok (.invokespecial 61, 3) := by decide +kernel
theorem dX9_init_185 : decode cX9_init 185 = .ok (.putfield 68, 3) := by decide +kernel
theorem dX9_init_188 : decode cX9_init 188 = .ok (.aload_n 0, 1) := by decide +kernel
theorem dX9_init_189 : decode cX9_init 189 = .ok (.new 71, 3) := by decide +kernel
theorem dX9_init_192 : decode cX9_init 192 = .ok (.dup, 1) := by decide +kernel
theorem dX9_init_193 : decode cX9_init 193 = .ok (.aload_n 0, 1) := by decide +kernel
theorem dX9_init_194 : decode cX9_init 194 = .ok (.getfield 14, 3) := by decide +kernel
theorem dX9_init_197 : decode cX9_init 197 = .ok (.invokespecial 73, 3) := by decide +kernel
theorem dX9_init_200 : decode cX9_init 200 = .ok (.putfield 76, 3) := by decide +kernel
theorem dX9_init_203 : decode cX9_init 203 = .ok (.aload_n 0, 1) := by decide +kernel
theorem dX9_init_204 : decode cX9_init 204 = .ok (.iconst 2, 1) := by decide +kernel
theorem dX9_init_205 : decode cX9_init 205 = .ok (.anewarray 80, 3) := by decide +kernel
theorem dX9_init_208 : decode cX9_init 208 = .ok (.dup, 1) := by decide +kernel
theorem dX9_init_209 : decode cX9_init 209 = .ok (.iconst 0, 1) := by decide +kernel
theorem dX9_init_210 : decode cX9_init 210 = .ok (.new 80, 3) := by decide +kernel
theorem dX9_init_213 : decode cX9_init 213 = .ok (.dup, 1) := by decide +kernel
theorem dX9_init_214 : decode cX9_init 214 = .ok (.aload_n 0, 1) := by decide +kernel
theorem dX9_init_215 : decode cX9_init 215 = .ok (.getfield 14, 3) := by decide +kernel
theorem dX9_init_218 : decode cX9_init 218 = .ok (.iconst 0, 1) := by decide +kernel
theorem dX9_init_219 : decode cX9_init 219 = .ok (.invokespecial 82, 3) := by decide +kernel
theorem dX9_init_222 : decode cX9_init 222 = .ok (.aastore, 1) := by decide +kernel
theorem dX9_init_223 : decode cX9_init 223 = .ok (.dup, 1) := by decide +kernel
theorem dX9_init_224 : decode cX9_init 224 = .ok (.iconst 1, 1) := by decide +kernel
theorem dX9_init_225 : decode cX9_init 225 = .ok (.new 80, 3) := by decide +kernel
theorem dX9_init_228 : decode cX9_init 228 = .ok (.dup, 1) := by decide +kernel
theorem dX9_init_229 : decode cX9_init 229 = .ok (.aload_n 0, 1) := by decide +kernel
theorem dX9_init_230 : decode cX9_init 230 = .ok (.getfield 14, 3) := by decide +kernel
theorem dX9_init_233 : decode cX9_init 233 = .ok (.iconst 1, 1) := by decide +kernel
theorem dX9_init_234 : decode cX9_init 234 = .ok (.invokespecial 82, 3) := by decide +kernel
theorem dX9_init_237 : decode cX9_init 237 = .ok (.aastore, 1) := by decide +kernel
theorem dX9_init_238 : decode cX9_init 238 = .ok (.putfield 83, 3) := by decide +kernel
theorem dX9_init_241 : decode cX9_init 241 = .ok (.return_, 1) := by decide +kernel
def f_X9_init (σ : St) : Option St :=
  bd (zr σ 1) fun s1 =>
    (f_X3_init s1 (4 : Int32)).bind fun s2 =>
      bd (zr s2 6) fun s3 =>
        (f_X7_init s3).bind fun s4 =>
          bd (zr s4 11) fun s5 =>
            bd (zr s5 12) fun s6 =>
              bd (zr s6 32) fun s7 =>
                (f_X6_init s7 0 (1 : Int32)).bind fun s8 =>
                  bd (zr s8 40) fun s9 =>
                    (f_X0_init s9 0 (1 : Int32)).bind fun s10 =>
                      bd (zr s10 45) fun s11 =>
                        (f_X0_init s11 1 ((1 : Int32) + 1)).bind fun s12 =>
                          bd (zr s12 50) fun s13 =>
                            (f_X0_init s13 2 (((1 : Int32) + 1) + 1)).bind fun s14 =>
                              bd (zr s14 34) fun s15 =>
                                (f_X6_init s15 1 ((1 : Int32) + 1)).bind fun s16 =>
                                  bd (zr s16 55) fun s17 =>
                                    (f_X0_init s17 3 (1 : Int32)).bind fun s18 =>
                                      bd (zr s18 60) fun s19 =>
                                        (f_X0_init s19 4 ((1 : Int32) + 1)).bind fun s20 =>
                                          bd (zr s20 65) fun s21 =>
                                            (f_X0_init s21 5 (((1 : Int32) + 1) + 1)).bind fun s22 =>
                                              bd (zr s22 36) fun s23 =>
                                                (f_X6_init s23 2 (((1 : Int32) + 1) + 1)).bind fun s24 =>
                                                  bd (zr s24 70) fun s25 =>
                                                    (f_X0_init s25 6 (1 : Int32)).bind fun s26 =>
                                                      bd (zr s26 75) fun s27 =>
                                                        (f_X0_init s27 7 ((1 : Int32) + 1)).bind fun s28 =>
                                                          bd (zr s28 80) fun s29 =>
                                                            (f_X0_init s29 8 (((1 : Int32) + 1) + 1)).bind fun s30 =>
                                                              bd (zr s30 13) fun s31 =>
                                                                (f_X5_init s31).bind fun s32 =>
                                                                  bd (zr s32 14) fun s33 =>
                                                                    (f_X8_init s33).bind fun s34 =>
                                                                      bd (zr s34 18) fun s35 =>
                                                                        (f_X4_init s35 0 (0 : Int32)).bind fun s36 =>
                                                                          bd (zr s36 21) fun s37 =>
                                                                            (f_X4_init s37 1 (1 : Int32)).bind fun s38 =>
                                                                              bd (zr s38 24) fun s39 =>
                                                                                (f_X1_init s39).bind fun s40 =>
                                                                                  bd (zr s40 25) fun s41 =>
                                                                                    bd (zr s41 26) fun s42 =>
                                                                                      (f_X2_init s42 0 (0 : Int32)).bind fun s43 =>
                                                                                        bd (zr s43 29) fun s44 =>
                                                                                          (f_X2_init s44 1 (1 : Int32)).bind fun s45 =>
                                                                                            some s45
set_option maxHeartbeats 4000000 in
set_option maxRecDepth 100000 in
theorem c_X9_init (l : Launch) (E : Ev) (hm0 : 0 ∈ E.2.2.2.1) (hf1 : 1 ∉ E.2.2.2.1) (hf2 : 2 ∉ E.2.2.2.1) (hf3 : 3 ∉ E.2.2.2.1) (hf4 : 4 ∉ E.2.2.2.1) (hf5 : 5 ∉ E.2.2.2.1) (hf6 : 6 ∉ E.2.2.2.1) (hf7 : 7 ∉ E.2.2.2.1) (hf8 : 8 ∉ E.2.2.2.1) (hf9 : 9 ∉ E.2.2.2.1) (hf10 : 10 ∉ E.2.2.2.1) (hf11 : 11 ∉ E.2.2.2.1) (hf12 : 12 ∉ E.2.2.2.1) (hf32 : 32 ∉ E.2.2.2.1) (hf33 : 33 ∉ E.2.2.2.1) (hf40 : 40 ∉ E.2.2.2.1) (hf41 : 41 ∉ E.2.2.2.1) (hf42 : 42 ∉ E.2.2.2.1) (hf43 : 43 ∉ E.2.2.2.1) (hf44 : 44 ∉ E.2.2.2.1) (hf45 : 45 ∉ E.2.2.2.1) (hf46 : 46 ∉ E.2.2.2.1) (hf47 : 47 ∉ E.2.2.2.1) (hf48 : 48 ∉ E.2.2.2.1) (hf49 : 49 ∉ E.2.2.2.1) (hf50 : 50 ∉ E.2.2.2.1) (hf51 : 51 ∉ E.2.2.2.1) (hf52 : 52 ∉ E.2.2.2.1) (hf53 : 53 ∉ E.2.2.2.1) (hf54 : 54 ∉ E.2.2.2.1) (hf34 : 34 ∉ E.2.2.2.1) (hf35 : 35 ∉ E.2.2.2.1) (hf55 : 55 ∉ E.2.2.2.1) (hf56 : 56 ∉ E.2.2.2.1) (hf57 : 57 ∉ E.2.2.2.1) (hf58 : 58 ∉ E.2.2.2.1) (hf59 : 59 ∉ E.2.2.2.1) (hf60 : 60 ∉ E.2.2.2.1) (hf61 : 61 ∉ E.2.2.2.1) (hf62 : 62 ∉ E.2.2.2.1) (hf63 : 63 ∉ E.2.2.2.1) (hf64 : 64 ∉ E.2.2.2.1) (hf65 : 65 ∉ E.2.2.2.1) (hf66 : 66 ∉ E.2.2.2.1) (hf67 : 67 ∉ E.2.2.2.1) (hf68 : 68 ∉ E.2.2.2.1) (hf69 : 69 ∉ E.2.2.2.1) (hf36 : 36 ∉ E.2.2.2.1) (hf37 : 37 ∉ E.2.2.2.1) (hf70 : 70 ∉ E.2.2.2.1) (hf71 : 71 ∉ E.2.2.2.1) (hf72 : 72 ∉ E.2.2.2.1) (hf73 : 73 ∉ E.2.2.2.1) (hf74 : 74 ∉ E.2.2.2.1) (hf75 : 75 ∉ E.2.2.2.1) (hf76 : 76 ∉ E.2.2.2.1) (hf77 : 77 ∉ E.2.2.2.1) (hf78 : 78 ∉ E.2.2.2.1) (hf79 : 79 ∉ E.2.2.2.1) (hf80 : 80 ∉ E.2.2.2.1) (hf81 : 81 ∉ E.2.2.2.1) (hf82 : 82 ∉ E.2.2.2.1) (hf83 : 83 ∉ E.2.2.2.1) (hf84 : 84 ∉ E.2.2.2.1) (hf13 : 13 ∉ E.2.2.2.1) (hf14 : 14 ∉ E.2.2.2.1) (hf15 : 15 ∉ E.2.2.2.1) (hf16 : 16 ∉ E.2.2.2.1) (hf17 : 17 ∉ E.2.2.2.1) (hf18 : 18 ∉ E.2.2.2.1) (hf19 : 19 ∉ E.2.2.2.1) (hf20 : 20 ∉ E.2.2.2.1) (hf21 : 21 ∉ E.2.2.2.1) (hf22 : 22 ∉ E.2.2.2.1) (hf23 : 23 ∉ E.2.2.2.1) (hf24 : 24 ∉ E.2.2.2.1) (hf25 : 25 ∉ E.2.2.2.1) (hf26 : 26 ∉ E.2.2.2.1) (hf27 : 27 ∉ E.2.2.2.1) (hf28 : 28 ∉ E.2.2.2.1) (hf29 : 29 ∉ E.2.2.2.1) (hf30 : 30 ∉ E.2.2.2.1) (hf31 : 31 ∉ E.2.2.2.1) (σ : St) : CtrC l E md_X9_init [rV E 0] σ (f_X9_init σ) [1, 2, 3, 4, 5, 6, 7, 8, 9, 10, 11, 12, 32, 33, 40, 41, 42, 43, 44, 45, 46, 47, 48, 49, 50, 51, 52, 53, 54, 34, 35, 55, 56, 57, 58, 59, 60, 61, 62, 63, 64, 65, 66, 67, 68, 69, 36, 37, 70, 71, 72, 73, 74, 75, 76, 77, 78, 79, 80, 81, 82, 83, 84, 13, 14, 15, 16, 17, 18, 19, 20, 21, 22, 23, 24, 25, 26, 27, 28, 29, 30, 31] [(1, 2), (1, 3), (1, 4), (1, 5), (0, 0), (6, 0), (6, 6), (6, 7), (6, 8), (0, 1), (0, 2), (0, 3), (32, 0), (32, 3), (11, 0), (40, 0), (40, 1), (40, 3), (40, 4), (40, 5), (40, 6), (12, 0), (45, 0), (45, 1), (45, 3), (45, 4), (45, 5), (45, 6), (12, 1), (50, 0), (50, 1), (50, 3), (50, 4), (50, 5), (50, 6), (12, 2), (34, 0), (34, 3), (11, 1), (55, 0), (55, 1), (55, 3), (55, 4), (55, 5), (55, 6), (12, 3), (60, 0), (60, 1), (60, 3), (60, 4), (60, 5), (60, 6), (12, 4), (65, 0), (65, 1), (65, 3), (65, 4), (65, 5), (65, 6), (12, 5), (36, 0), (36, 3), (11, 2), (70, 0), (70, 1), (70, 3), (70, 4), (70, 5), (70, 6), (12, 6), (75, 0), (75, 1), (75, 3), (75, 4), (75, 5), (75, 6), (12, 7), (80, 0), (80, 1), (80, 3), (80, 4), (80, 5), (80, 6), (12, 8), (0, 4), (14, 1), (14, 2), (14, 3), (14, 0), (14, 4), (0, 5), (18, 2), (18, 3), (18, 0), (0, 6), (21, 2), (21, 3), (21, 0), (0, 7), (24, 0), (0, 8), (26, 2), (26, 3), (26, 0), (25, 0), (29, 2), (29, 3), (29, 0), (25, 1), (0, 9)] := by
  refine ctrC_of rfl rfl (Nat.le_of_ble_eq_true rfl) (fun Γ sz hin hE hR hq => ?_)
  show Sim _ Γ (AX E sz, 0, 0) E md_X9_init σ 0 [(0, rV E 0)] [] _
  unfold f_X9_init
  have hX0 : Ext E E [] [] := Ext.rf hE hR
  refine s_aload_n dX9_init_0 0 rfl rfl ?_
  refine s_objInit rfl w_113 oiI oiC rfl dX9_init_1 ?_
  refine s_aload_n dX9_init_4 0 rfl rfl ?_
  refine k_new (a := 1) (ci := 3) (fun F => [(0, rV F 0)]) (fun F => [rV F 0]) rfl rfl hq (xoN hX0) (xfN hX0 hf1 (by decide)) (by decide) rfl rfl inX3 tyX3_ok (dfX3 rfl) rfl w_116 w_117 w_89 1 6 (by decide) (by decide) (Nat.le_of_ble_eq_true rfl) (Nat.le_of_ble_eq_true rfl) dX9_init_5 (fun _ e => ⟨by simp only [rV, xaN e 0 (by decide)], by simp only [rV, xaN e 0 (by decide)]⟩) (fun E1 s1 e1 => ?_)
  have hX1 : Ext E E1 [1] [] := hX0.trans e1
  refine s_dup dX9_init_8 rfl ?_
  refine s_iconst (v := 4) dX9_init_9 (by decide) ?_
  refine k_call (As := [.int (4 : Int32)]) (fun F => [(0, rV F 0)]) (fun F => [rV F 1, rV F 0]) rfl rfl (by intro b hb; simp; try omega) if_X3_init hq (xoN hX1) ml_X9_11 rfl (c_X3_init _ E1 (xmN hX1 (by simp)) (xfN hX1 hf2 (by decide)) (xfN hX1 hf3 (by decide)) (xfN hX1 hf4 (by decide)) (xfN hX1 hf5 (by decide)) s1 (4 : Int32)) rfl rfl (Nat.le_of_ble_eq_true rfl) 5 534 (by decide) (by decide) (Nat.le_of_ble_eq_true rfl) (Nat.le_of_ble_eq_true rfl) dX9_init_10 (fun _ e => ⟨by simp only [rV, xaN e 0 (by decide)], by simp only [rV, xaN e 0 (by decide), xaN e 1 (by decide)]⟩) (fun E2 s2 e2 => ?_)
  have hX2 : Ext E E2 [1, 2, 3, 4, 5] [(1, 2), (1, 3), (1, 4), (1, 5)] := hX1.trans e2
  refine k_putr (b := 1) (fun F => [(0, rV F 0)]) (fun F => []) rfl rfl gc_X9_14 hin rfl (xoN hX2) (xmO hX2 hm0) rfl (xmN hX2 (by simp)) rfl (ft_of rfl rfl) rfl rfl dX9_init_13 (fun _ e => ⟨by simp only [rV, xaN e 0 (by simp)], rfl⟩) (fun E3 e3 => ?_)
  have hX3 : Ext E E3 [1, 2, 3, 4, 5] [(1, 2), (1, 3), (1, 4), (1, 5), (0, 0)] := hX2.trans e3
  refine s_aload_n dX9_init_16 0 rfl rfl ?_
  refine k_new (a := 6) (ci := 7) (fun F => [(0, rV F 0)]) (fun F => [rV F 0]) rfl rfl hq (xoN hX3) (xfN hX3 hf6 (by decide)) (by decide) rfl rfl inX7 tyX7_ok (dfX7 rfl) rfl w_150 w_151 w_90 6 543 (by decide) (by decide) (Nat.le_of_ble_eq_true rfl) (Nat.le_of_ble_eq_true rfl) dX9_init_17 (fun _ e => ⟨by simp only [rV, xaN e 0 (by decide)], by simp only [rV, xaN e 0 (by decide)]⟩) (fun E4 s3 e4 => ?_)
  have hX4 : Ext E E4 [1, 2, 3, 4, 5, 6] [(1, 2), (1, 3), (1, 4), (1, 5), (0, 0)] := hX3.trans e4
  refine s_dup dX9_init_20 rfl ?_
  refine k_callN (host := "RunnerNet") (As := []) (fun F => [(0, rV F 0)]) (fun F => [rV F 6, rV F 0]) rfl rfl (by intro b hb; simp; try omega) if_X7_init hq (xoN hX4) (nl_of 0 rfl) rfl (c_X7_init _ E4 (xmN hX4 (by simp)) (xfN hX4 hf7 (by decide)) (xfN hX4 hf8 (by decide)) (xfN hX4 hf9 (by decide)) (xfN hX4 hf10 (by decide)) s3) rfl rfl (Nat.le_of_ble_eq_true rfl) 10 751 (by decide) (by decide) (Nat.le_of_ble_eq_true rfl) (Nat.le_of_ble_eq_true rfl) dX9_init_21 (fun _ e => ⟨by simp only [rV, xaN e 0 (by decide)], by simp only [rV, xaN e 0 (by decide), xaN e 6 (by decide)]⟩) (fun E5 s4 e5 => ?_)
  have hX5 : Ext E E5 [1, 2, 3, 4, 5, 6, 7, 8, 9, 10] [(1, 2), (1, 3), (1, 4), (1, 5), (0, 0), (6, 0), (6, 6), (6, 7), (6, 8)] := hX4.trans e5
  refine k_putr (b := 6) (fun F => [(0, rV F 0)]) (fun F => []) rfl rfl gc_X9_21 hin rfl (xoN hX5) (xmO hX5 hm0) rfl (xmN hX5 (by simp)) rfl (ft_of rfl rfl) rfl rfl dX9_init_24 (fun _ e => ⟨by simp only [rV, xaN e 0 (by simp)], rfl⟩) (fun E6 e6 => ?_)
  have hX6 : Ext E E6 [1, 2, 3, 4, 5, 6, 7, 8, 9, 10] [(1, 2), (1, 3), (1, 4), (1, 5), (0, 0), (6, 0), (6, 6), (6, 7), (6, 8), (0, 1)] := hX5.trans e6
  refine s_aload_n dX9_init_27 0 rfl rfl ?_
  refine s_iconst (v := 3) dX9_init_28 (by decide) ?_
  refine k_newq (a := 11) (C := "RunnerNet$Settings") (t0 := 5) (fun F => [(0, rV F 0)]) (fun F => [rV F 0]) rfl rfl hq (xoN hX6) (xfN hX6 hf11 (by decide)) (by decide) rfl (by decide) rfl (fun C => C.2.2.2.2.2.2.2.2.2.2.2.2.2.2.1) rfl w_184 (by decide) (by decide) (by decide) 11 754 (by decide) (show 751 + ln 11 = 754 from by decide) (Nat.le_of_ble_eq_true rfl) (Nat.le_of_ble_eq_true rfl) dX9_init_29 (fun _ e => ⟨by simp only [rV, xaN e 0 (by decide)], by simp only [rV, xaN e 0 (by decide)]⟩) (fun E7 s5 e7 => ?_)
  have hX7 : Ext E E7 [1, 2, 3, 4, 5, 6, 7, 8, 9, 10, 11] [(1, 2), (1, 3), (1, 4), (1, 5), (0, 0), (6, 0), (6, 6), (6, 7), (6, 8), (0, 1)] := hX6.trans e7
  refine k_putr (b := 11) (fun F => [(0, rV F 0)]) (fun F => []) rfl rfl gc_X9_27 hin rfl (xoN hX7) (xmO hX7 hm0) rfl (xmN hX7 (by simp)) rfl (ft_of rfl rfl) rfl rfl dX9_init_32 (fun _ e => ⟨by simp only [rV, xaN e 0 (by simp)], rfl⟩) (fun E8 e8 => ?_)
  have hX8 : Ext E E8 [1, 2, 3, 4, 5, 6, 7, 8, 9, 10, 11] [(1, 2), (1, 3), (1, 4), (1, 5), (0, 0), (6, 0), (6, 6), (6, 7), (6, 8), (0, 1), (0, 2)] := hX7.trans e8
  refine s_aload_n dX9_init_35 0 rfl rfl ?_
  refine s_bipush (v := 9) dX9_init_36 (by decide) ?_
  refine k_newq (a := 12) (C := "RunnerNet$Chase") (t0 := 3) (fun F => [(0, rV F 0)]) (fun F => [rV F 0]) rfl rfl hq (xoN hX8) (xfN hX8 hf12 (by decide)) (by decide) rfl (by decide) rfl (fun C => C.2.2.2.2.2.2.2.2.2.2.2.2.2.2.2.1) rfl w_186 (by decide) (by decide) (by decide) 12 763 (by decide) (show 754 + ln 12 = 763 from by decide) (Nat.le_of_ble_eq_true rfl) (Nat.le_of_ble_eq_true rfl) dX9_init_38 (fun _ e => ⟨by simp only [rV, xaN e 0 (by decide)], by simp only [rV, xaN e 0 (by decide)]⟩) (fun E9 s6 e9 => ?_)
  have hX9 : Ext E E9 [1, 2, 3, 4, 5, 6, 7, 8, 9, 10, 11, 12] [(1, 2), (1, 3), (1, 4), (1, 5), (0, 0), (6, 0), (6, 6), (6, 7), (6, 8), (0, 1), (0, 2)] := hX8.trans e9
  refine k_putr (b := 12) (fun F => [(0, rV F 0)]) (fun F => []) rfl rfl gc_X9_33 hin rfl (xoN hX9) (xmO hX9 hm0) rfl (xmN hX9 (by simp)) rfl (ft_of rfl rfl) rfl rfl dX9_init_41 (fun _ e => ⟨by simp only [rV, xaN e 0 (by simp)], rfl⟩) (fun E10 e10 => ?_)
  have hX10 : Ext E E10 [1, 2, 3, 4, 5, 6, 7, 8, 9, 10, 11, 12] [(1, 2), (1, 3), (1, 4), (1, 5), (0, 0), (6, 0), (6, 6), (6, 7), (6, 8), (0, 1), (0, 2), (0, 3)] := hX9.trans e10
  refine s_iconst (v := 1) dX9_init_44 (by decide) ?_
  refine s_istore_n [(1, .int (1 : Int32)), (0, rV E10 0)] dX9_init_45 rfl (by decide) rfl ?_
  refine s_iload_n dX9_init_46 0 rfl rfl ?_
  refine s_iconst (v := 3) dX9_init_47 (by decide) ?_
  refine s_icmp_gtF 124 (by decide) dX9_init_48 (by decide) ?_
  refine s_aload_n dX9_init_51 1 rfl rfl ?_
  refine s_getr (b := 11) gf_X9_27 rfl (xmO hX10 hm0) (show kd 0 = 9 from rfl) (ft_of (show kd 0 = 9 from rfl) rfl) (xrN hX10 (by simp)) rfl dX9_init_52 ?_
  refine s_iload_n dX9_init_55 0 rfl rfl ?_
  refine s_iconst (v := 1) dX9_init_56 (by decide) ?_
  refine s_isub dX9_init_57 ?_
  refine k_new (a := 32) (ci := 6) (fun F => [(1, .int (1 : Int32)), (0, rV F 0)]) (fun F => [.int ((1 : Int32) - (1 : Int32)), rV F 11]) rfl rfl hq (xoN hX10) (xfN hX10 hf32 (by decide)) (by decide) rfl rfl inX6 tyX6_ok (dfX6 rfl) rfl w_184 w_188 w_91 13 767 (by decide) (by decide) (Nat.le_of_ble_eq_true rfl) (Nat.le_of_ble_eq_true rfl) dX9_init_58 (fun _ e => ⟨by simp only [rV, xaN e 0 (by decide)], by simp only [rV, xaN e 11 (by decide)]⟩) (fun E11 s7 e11 => ?_)
  have hX11 : Ext E E11 [1, 2, 3, 4, 5, 6, 7, 8, 9, 10, 11, 12, 32] [(1, 2), (1, 3), (1, 4), (1, 5), (0, 0), (6, 0), (6, 6), (6, 7), (6, 8), (0, 1), (0, 2), (0, 3)] := hX10.trans e11
  refine s_dup dX9_init_61 rfl ?_
  refine s_aload_n dX9_init_62 1 rfl rfl ?_
  refine s_getr (b := 1) gf_X9_14 rfl (xmO hX11 hm0) (show kd 0 = 9 from rfl) (ft_of (show kd 0 = 9 from rfl) rfl) (xrN hX11 (by simp)) rfl dX9_init_63 ?_
  refine s_iload_n dX9_init_66 0 rfl rfl ?_
  refine k_call (As := [rV E11 1, .int (1 : Int32)]) (fun F => [(1, .int (1 : Int32)), (0, rV F 0)]) (fun F => [rV F 32, .int ((1 : Int32) - (1 : Int32)), rV F 11]) rfl rfl (by intro b hb; simp; try omega) if_X6_init_0 hq (xoN hX11) ml_X9_37 rfl (c_X6_init_0 _ E11 (xmN hX11 (by simp)) (xmN hX11 (by simp)) (xfN hX11 hf33 (by decide)) s7 (1 : Int32)) rfl rfl (Nat.le_of_ble_eq_true rfl) 14 775 (by decide) (by decide) (Nat.le_of_ble_eq_true rfl) (Nat.le_of_ble_eq_true rfl) dX9_init_67 (fun _ e => ⟨by simp only [rV, xaN e 0 (by decide)], by simp only [rV, xaN e 11 (by decide), xaN e 32 (by decide)]⟩) (fun E12 s8 e12 => ?_)
  have hX12 : Ext E E12 [1, 2, 3, 4, 5, 6, 7, 8, 9, 10, 11, 12, 32, 33] [(1, 2), (1, 3), (1, 4), (1, 5), (0, 0), (6, 0), (6, 6), (6, 7), (6, 8), (0, 1), (0, 2), (0, 3), (32, 0), (32, 3)] := hX11.trans e12
  refine k_ast (b := 32) (j := 0) (t0 := 5) (fun F => [(1, .int (1 : Int32)), (0, rV F 0)]) (fun F => []) rfl rfl (xoN hX12) (xmN hX12 (by simp)) (xmN hX12 (by simp)) rfl (by decide) rfl rfl rfl rfl (by decide) (by decide) (by decide) rfl rfl dX9_init_70 (fun _ e => ⟨by simp only [rV, xaN e 0 (by simp)], rfl⟩) (fun E13 e13 => ?_)
  have hX13 : Ext E E13 [1, 2, 3, 4, 5, 6, 7, 8, 9, 10, 11, 12, 32, 33] [(1, 2), (1, 3), (1, 4), (1, 5), (0, 0), (6, 0), (6, 6), (6, 7), (6, 8), (0, 1), (0, 2), (0, 3), (32, 0), (32, 3), (11, 0)] := hX12.trans e13
  refine s_iconst (v := 1) dX9_init_71 (by decide) ?_
  refine s_istore_n [(2, .int (1 : Int32)), (1, .int (1 : Int32)), (0, rV E13 0)] dX9_init_72 rfl (by decide) rfl ?_
  refine s_iload_n dX9_init_73 0 rfl rfl ?_
  refine s_iconst (v := 3) dX9_init_74 (by decide) ?_
  refine s_icmp_gtF 118 (by decide) dX9_init_75 (by decide) ?_
  refine s_aload_n dX9_init_78 2 rfl rfl ?_
  refine s_getr (b := 12) gf_X9_33 rfl (xmO hX13 hm0) (show kd 0 = 9 from rfl) (ft_of (show kd 0 = 9 from rfl) rfl) (xrN hX13 (by simp)) rfl dX9_init_79 ?_
  refine s_iload_n dX9_init_82 1 rfl rfl ?_
  refine s_iconst (v := 1) dX9_init_83 (by decide) ?_
  refine s_isub dX9_init_84 ?_
  refine s_iconst (v := 3) dX9_init_85 (by decide) ?_
  refine s_imul dX9_init_86 ?_
  refine s_iload_n dX9_init_87 0 rfl rfl ?_
  refine s_iadd dX9_init_88 ?_
  refine s_iconst (v := 1) dX9_init_89 (by decide) ?_
  refine s_isub dX9_init_90 ?_
  refine k_new (a := 40) (ci := 0) (fun F => [(2, .int (1 : Int32)), (1, .int (1 : Int32)), (0, rV F 0)]) (fun F => [.int (((((1 : Int32) - (1 : Int32)) * (3 : Int32)) + (1 : Int32)) - (1 : Int32)), rV F 12]) rfl rfl hq (xoN hX13) (xfN hX13 hf40 (by decide)) (by decide) rfl rfl inX0 tyX0_ok (dfX0 rfl) rfl w_186 w_210 w_92 15 783 (by decide) (by decide) (Nat.le_of_ble_eq_true rfl) (Nat.le_of_ble_eq_true rfl) dX9_init_91 (fun _ e => ⟨by simp only [rV, xaN e 0 (by decide)], by simp only [rV, xaN e 12 (by decide)]⟩) (fun E14 s9 e14 => ?_)
  have hX14 : Ext E E14 [1, 2, 3, 4, 5, 6, 7, 8, 9, 10, 11, 12, 32, 33, 40] [(1, 2), (1, 3), (1, 4), (1, 5), (0, 0), (6, 0), (6, 6), (6, 7), (6, 8), (0, 1), (0, 2), (0, 3), (32, 0), (32, 3), (11, 0)] := hX13.trans e14
  refine s_dup dX9_init_94 rfl ?_
  refine s_aload_n dX9_init_95 2 rfl rfl ?_
  refine s_getr (b := 1) gf_X9_14 rfl (xmO hX14 hm0) (show kd 0 = 9 from rfl) (ft_of (show kd 0 = 9 from rfl) rfl) (xrN hX14 (by simp)) rfl dX9_init_96 ?_
  refine s_aload_n dX9_init_99 2 rfl rfl ?_
  refine s_getr (b := 11) gf_X9_27 rfl (xmO hX14 hm0) (show kd 0 = 9 from rfl) (ft_of (show kd 0 = 9 from rfl) rfl) (xrN hX14 (by simp)) rfl dX9_init_100 ?_
  refine s_iload_n dX9_init_103 1 rfl rfl ?_
  refine s_iconst (v := 1) dX9_init_104 (by decide) ?_
  refine s_isub dX9_init_105 ?_
  refine k_aald (j := 0) (t0 := 5) (xmN hX14 (by simp)) rfl (by decide) rfl rfl (by decide) (by decide) (by decide) (xrN hX14 (by simp)) 32 rfl dX9_init_106 ?_
  refine s_iload_n dX9_init_107 0 rfl rfl ?_
  refine k_call (As := [rV E14 1, rV E14 32, .int (1 : Int32)]) (fun F => [(2, .int (1 : Int32)), (1, .int (1 : Int32)), (0, rV F 0)]) (fun F => [rV F 40, .int (((((1 : Int32) - (1 : Int32)) * (3 : Int32)) + (1 : Int32)) - (1 : Int32)), rV F 12]) rfl rfl (by intro b hb; simp; try omega) if_X0_init_0 hq (xoN hX14) ml_X9_40 rfl (c_X0_init_0 _ E14 (xmN hX14 (by simp)) (xmN hX14 (by simp)) (xmN hX14 (by simp)) (xfN hX14 hf41 (by decide)) (xfN hX14 hf42 (by decide)) (xfN hX14 hf43 (by decide)) (xfN hX14 hf44 (by decide)) s9 (1 : Int32)) rfl rfl (Nat.le_of_ble_eq_true rfl) 19 871 (by decide) (by decide) (Nat.le_of_ble_eq_true rfl) (Nat.le_of_ble_eq_true rfl) dX9_init_108 (fun _ e => ⟨by simp only [rV, xaN e 0 (by decide)], by simp only [rV, xaN e 12 (by decide), xaN e 40 (by decide)]⟩) (fun E15 s10 e15 => ?_)
  have hX15 : Ext E E15 [1, 2, 3, 4, 5, 6, 7, 8, 9, 10, 11, 12, 32, 33, 40, 41, 42, 43, 44] [(1, 2), (1, 3), (1, 4), (1, 5), (0, 0), (6, 0), (6, 6), (6, 7), (6, 8), (0, 1), (0, 2), (0, 3), (32, 0), (32, 3), (11, 0), (40, 0), (40, 1), (40, 3), (40, 4), (40, 5), (40, 6)] := hX14.trans e15
  refine k_ast (b := 40) (j := 0) (t0 := 3) (fun F => [(2, .int (1 : Int32)), (1, .int (1 : Int32)), (0, rV F 0)]) (fun F => []) rfl rfl (xoN hX15) (xmN hX15 (by simp)) (xmN hX15 (by simp)) rfl (by decide) rfl rfl rfl rfl (by decide) (by decide) (by decide) rfl rfl dX9_init_111 (fun _ e => ⟨by simp only [rV, xaN e 0 (by simp)], rfl⟩) (fun E16 e16 => ?_)
  have hX16 : Ext E E16 [1, 2, 3, 4, 5, 6, 7, 8, 9, 10, 11, 12, 32, 33, 40, 41, 42, 43, 44] [(1, 2), (1, 3), (1, 4), (1, 5), (0, 0), (6, 0), (6, 6), (6, 7), (6, 8), (0, 1), (0, 2), (0, 3), (32, 0), (32, 3), (11, 0), (40, 0), (40, 1), (40, 3), (40, 4), (40, 5), (40, 6), (12, 0)] := hX15.trans e16
  refine s_iinc [(2, .int ((1 : Int32) + 1)), (1, .int (1 : Int32)), (0, rV E16 0)] dX9_init_112 0 rfl rfl (by decide) rfl ?_
  refine s_goto 73 dX9_init_115 (by decide) ?_
  refine s_iload_n dX9_init_73 0 rfl rfl ?_
  refine s_iconst (v := 3) dX9_init_74 (by decide) ?_
  refine s_icmp_gtF 118 (by decide) dX9_init_75 (by decide) ?_
  refine s_aload_n dX9_init_78 2 rfl rfl ?_
  refine s_getr (b := 12) gf_X9_33 rfl (xmO hX16 hm0) (show kd 0 = 9 from rfl) (ft_of (show kd 0 = 9 from rfl) rfl) (xrN hX16 (by simp)) rfl dX9_init_79 ?_
  refine s_iload_n dX9_init_82 1 rfl rfl ?_
  refine s_iconst (v := 1) dX9_init_83 (by decide) ?_
  refine s_isub dX9_init_84 ?_
  refine s_iconst (v := 3) dX9_init_85 (by decide) ?_
  refine s_imul dX9_init_86 ?_
  refine s_iload_n dX9_init_87 0 rfl rfl ?_
  refine s_iadd dX9_init_88 ?_
  refine s_iconst (v := 1) dX9_init_89 (by decide) ?_
  refine s_isub dX9_init_90 ?_
  refine k_new (a := 45) (ci := 0) (fun F => [(2, .int ((1 : Int32) + 1)), (1, .int (1 : Int32)), (0, rV F 0)]) (fun F => [.int (((((1 : Int32) - (1 : Int32)) * (3 : Int32)) + ((1 : Int32) + 1)) - (1 : Int32)), rV F 12]) rfl rfl hq (xoN hX16) (xfN hX16 hf45 (by decide)) (by decide) rfl rfl inX0 tyX0_ok (dfX0 rfl) rfl w_186 w_210 w_92 20 879 (by decide) (by decide) (Nat.le_of_ble_eq_true rfl) (Nat.le_of_ble_eq_true rfl) dX9_init_91 (fun _ e => ⟨by simp only [rV, xaN e 0 (by decide)], by simp only [rV, xaN e 12 (by decide)]⟩) (fun E17 s11 e17 => ?_)
  have hX17 : Ext E E17 [1, 2, 3, 4, 5, 6, 7, 8, 9, 10, 11, 12, 32, 33, 40, 41, 42, 43, 44, 45] [(1, 2), (1, 3), (1, 4), (1, 5), (0, 0), (6, 0), (6, 6), (6, 7), (6, 8), (0, 1), (0, 2), (0, 3), (32, 0), (32, 3), (11, 0), (40, 0), (40, 1), (40, 3), (40, 4), (40, 5), (40, 6), (12, 0)] := hX16.trans e17
  refine s_dup dX9_init_94 rfl ?_
  refine s_aload_n dX9_init_95 2 rfl rfl ?_
  refine s_getr (b := 1) gf_X9_14 rfl (xmO hX17 hm0) (show kd 0 = 9 from rfl) (ft_of (show kd 0 = 9 from rfl) rfl) (xrN hX17 (by simp)) rfl dX9_init_96 ?_
  refine s_aload_n dX9_init_99 2 rfl rfl ?_
  refine s_getr (b := 11) gf_X9_27 rfl (xmO hX17 hm0) (show kd 0 = 9 from rfl) (ft_of (show kd 0 = 9 from rfl) rfl) (xrN hX17 (by simp)) rfl dX9_init_100 ?_
  refine s_iload_n dX9_init_103 1 rfl rfl ?_
  refine s_iconst (v := 1) dX9_init_104 (by decide) ?_
  refine s_isub dX9_init_105 ?_
  refine k_aald (j := 0) (t0 := 5) (xmN hX17 (by simp)) rfl (by decide) rfl rfl (by decide) (by decide) (by decide) (xrN hX17 (by simp)) 32 rfl dX9_init_106 ?_
  refine s_iload_n dX9_init_107 0 rfl rfl ?_
  refine k_call (As := [rV E17 1, rV E17 32, .int ((1 : Int32) + 1)]) (fun F => [(2, .int ((1 : Int32) + 1)), (1, .int (1 : Int32)), (0, rV F 0)]) (fun F => [rV F 45, .int (((((1 : Int32) - (1 : Int32)) * (3 : Int32)) + ((1 : Int32) + 1)) - (1 : Int32)), rV F 12]) rfl rfl (by intro b hb; simp; try omega) if_X0_init_1 hq (xoN hX17) ml_X9_40 rfl (c_X0_init_1 _ E17 (xmN hX17 (by simp)) (xmN hX17 (by simp)) (xmN hX17 (by simp)) (xfN hX17 hf46 (by decide)) (xfN hX17 hf47 (by decide)) (xfN hX17 hf48 (by decide)) (xfN hX17 hf49 (by decide)) s11 ((1 : Int32) + 1)) rfl rfl (Nat.le_of_ble_eq_true rfl) 24 967 (by decide) (by decide) (Nat.le_of_ble_eq_true rfl) (Nat.le_of_ble_eq_true rfl) dX9_init_108 (fun _ e => ⟨by simp only [rV, xaN e 0 (by decide)], by simp only [rV, xaN e 12 (by decide), xaN e 45 (by decide)]⟩) (fun E18 s12 e18 => ?_)
  have hX18 : Ext E E18 [1, 2, 3, 4, 5, 6, 7, 8, 9, 10, 11, 12, 32, 33, 40, 41, 42, 43, 44, 45, 46, 47, 48, 49] [(1, 2), (1, 3), (1, 4), (1, 5), (0, 0), (6, 0), (6, 6), (6, 7), (6, 8), (0, 1), (0, 2), (0, 3), (32, 0), (32, 3), (11, 0), (40, 0), (40, 1), (40, 3), (40, 4), (40, 5), (40, 6), (12, 0), (45, 0), (45, 1), (45, 3), (45, 4), (45, 5), (45, 6)] := hX17.trans e18
  refine k_ast (b := 45) (j := 1) (t0 := 3) (fun F => [(2, .int ((1 : Int32) + 1)), (1, .int (1 : Int32)), (0, rV F 0)]) (fun F => []) rfl rfl (xoN hX18) (xmN hX18 (by simp)) (xmN hX18 (by simp)) rfl (by decide) rfl rfl rfl rfl (by decide) (by decide) (by decide) rfl rfl dX9_init_111 (fun _ e => ⟨by simp only [rV, xaN e 0 (by simp)], rfl⟩) (fun E19 e19 => ?_)
  have hX19 : Ext E E19 [1, 2, 3, 4, 5, 6, 7, 8, 9, 10, 11, 12, 32, 33, 40, 41, 42, 43, 44, 45, 46, 47, 48, 49] [(1, 2), (1, 3), (1, 4), (1, 5), (0, 0), (6, 0), (6, 6), (6, 7), (6, 8), (0, 1), (0, 2), (0, 3), (32, 0), (32, 3), (11, 0), (40, 0), (40, 1), (40, 3), (40, 4), (40, 5), (40, 6), (12, 0), (45, 0), (45, 1), (45, 3), (45, 4), (45, 5), (45, 6), (12, 1)] := hX18.trans e19
  refine s_iinc [(2, .int (((1 : Int32) + 1) + 1)), (1, .int (1 : Int32)), (0, rV E19 0)] dX9_init_112 0 rfl rfl (by decide) rfl ?_
  refine s_goto 73 dX9_init_115 (by decide) ?_
  refine s_iload_n dX9_init_73 0 rfl rfl ?_
  refine s_iconst (v := 3) dX9_init_74 (by decide) ?_
  refine s_icmp_gtF 118 (by decide) dX9_init_75 (by decide) ?_
  refine s_aload_n dX9_init_78 2 rfl rfl ?_
  refine s_getr (b := 12) gf_X9_33 rfl (xmO hX19 hm0) (show kd 0 = 9 from rfl) (ft_of (show kd 0 = 9 from rfl) rfl) (xrN hX19 (by simp)) rfl dX9_init_79 ?_
  refine s_iload_n dX9_init_82 1 rfl rfl ?_
  refine s_iconst (v := 1) dX9_init_83 (by decide) ?_
  refine s_isub dX9_init_84 ?_
  refine s_iconst (v := 3) dX9_init_85 (by decide) ?_
  refine s_imul dX9_init_86 ?_
  refine s_iload_n dX9_init_87 0 rfl rfl ?_
  refine s_iadd dX9_init_88 ?_
  refine s_iconst (v := 1) dX9_init_89 (by decide) ?_
  refine s_isub dX9_init_90 ?_
  refine k_new (a := 50) (ci := 0) (fun F => [(2, .int (((1 : Int32) + 1) + 1)), (1, .int (1 : Int32)), (0, rV F 0)]) (fun F => [.int (((((1 : Int32) - (1 : Int32)) * (3 : Int32)) + (((1 : Int32) + 1) + 1)) - (1 : Int32)), rV F 12]) rfl rfl hq (xoN hX19) (xfN hX19 hf50 (by decide)) (by decide) rfl rfl inX0 tyX0_ok (dfX0 rfl) rfl w_186 w_210 w_92 25 975 (by decide) (by decide) (Nat.le_of_ble_eq_true rfl) (Nat.le_of_ble_eq_true rfl) dX9_init_91 (fun _ e => ⟨by simp only [rV, xaN e 0 (by decide)], by simp only [rV, xaN e 12 (by decide)]⟩) (fun E20 s13 e20 => ?_)
  have hX20 : Ext E E20 [1, 2, 3, 4, 5, 6, 7, 8, 9, 10, 11, 12, 32, 33, 40, 41, 42, 43, 44, 45, 46, 47, 48, 49, 50] [(1, 2), (1, 3), (1, 4), (1, 5), (0, 0), (6, 0), (6, 6), (6, 7), (6, 8), (0, 1), (0, 2), (0, 3), (32, 0), (32, 3), (11, 0), (40, 0), (40, 1), (40, 3), (40, 4), (40, 5), (40, 6), (12, 0), (45, 0), (45, 1), (45, 3), (45, 4), (45, 5), (45, 6), (12, 1)] := hX19.trans e20
  refine s_dup dX9_init_94 rfl ?_
  refine s_aload_n dX9_init_95 2 rfl rfl ?_
  refine s_getr (b := 1) gf_X9_14 rfl (xmO hX20 hm0) (show kd 0 = 9 from rfl) (ft_of (show kd 0 = 9 from rfl) rfl) (xrN hX20 (by simp)) rfl dX9_init_96 ?_
  refine s_aload_n dX9_init_99 2 rfl rfl ?_
  refine s_getr (b := 11) gf_X9_27 rfl (xmO hX20 hm0) (show kd 0 = 9 from rfl) (ft_of (show kd 0 = 9 from rfl) rfl) (xrN hX20 (by simp)) rfl dX9_init_100 ?_
  refine s_iload_n dX9_init_103 1 rfl rfl ?_
  refine s_iconst (v := 1) dX9_init_104 (by decide) ?_
  refine s_isub dX9_init_105 ?_
  refine k_aald (j := 0) (t0 := 5) (xmN hX20 (by simp)) rfl (by decide) rfl rfl (by decide) (by decide) (by decide) (xrN hX20 (by simp)) 32 rfl dX9_init_106 ?_
  refine s_iload_n dX9_init_107 0 rfl rfl ?_
  refine k_call (As := [rV E20 1, rV E20 32, .int (((1 : Int32) + 1) + 1)]) (fun F => [(2, .int (((1 : Int32) + 1) + 1)), (1, .int (1 : Int32)), (0, rV F 0)]) (fun F => [rV F 50, .int (((((1 : Int32) - (1 : Int32)) * (3 : Int32)) + (((1 : Int32) + 1) + 1)) - (1 : Int32)), rV F 12]) rfl rfl (by intro b hb; simp; try omega) if_X0_init_2 hq (xoN hX20) ml_X9_40 rfl (c_X0_init_2 _ E20 (xmN hX20 (by simp)) (xmN hX20 (by simp)) (xmN hX20 (by simp)) (xfN hX20 hf51 (by decide)) (xfN hX20 hf52 (by decide)) (xfN hX20 hf53 (by decide)) (xfN hX20 hf54 (by decide)) s13 (((1 : Int32) + 1) + 1)) rfl rfl (Nat.le_of_ble_eq_true rfl) 29 1063 (by decide) (by decide) (Nat.le_of_ble_eq_true rfl) (Nat.le_of_ble_eq_true rfl) dX9_init_108 (fun _ e => ⟨by simp only [rV, xaN e 0 (by decide)], by simp only [rV, xaN e 12 (by decide), xaN e 50 (by decide)]⟩) (fun E21 s14 e21 => ?_)
  have hX21 : Ext E E21 [1, 2, 3, 4, 5, 6, 7, 8, 9, 10, 11, 12, 32, 33, 40, 41, 42, 43, 44, 45, 46, 47, 48, 49, 50, 51, 52, 53, 54] [(1, 2), (1, 3), (1, 4), (1, 5), (0, 0), (6, 0), (6, 6), (6, 7), (6, 8), (0, 1), (0, 2), (0, 3), (32, 0), (32, 3), (11, 0), (40, 0), (40, 1), (40, 3), (40, 4), (40, 5), (40, 6), (12, 0), (45, 0), (45, 1), (45, 3), (45, 4), (45, 5), (45, 6), (12, 1), (50, 0), (50, 1), (50, 3), (50, 4), (50, 5), (50, 6)] := hX20.trans e21
  refine k_ast (b := 50) (j := 2) (t0 := 3) (fun F => [(2, .int (((1 : Int32) + 1) + 1)), (1, .int (1 : Int32)), (0, rV F 0)]) (fun F => []) rfl rfl (xoN hX21) (xmN hX21 (by simp)) (xmN hX21 (by simp)) rfl (by decide) rfl rfl rfl rfl (by decide) (by decide) (by decide) rfl rfl dX9_init_111 (fun _ e => ⟨by simp only [rV, xaN e 0 (by simp)], rfl⟩) (fun E22 e22 => ?_)
  have hX22 : Ext E E22 [1, 2, 3, 4, 5, 6, 7, 8, 9, 10, 11, 12, 32, 33, 40, 41, 42, 43, 44, 45, 46, 47, 48, 49, 50, 51, 52, 53, 54] [(1, 2), (1, 3), (1, 4), (1, 5), (0, 0), (6, 0), (6, 6), (6, 7), (6, 8), (0, 1), (0, 2), (0, 3), (32, 0), (32, 3), (11, 0), (40, 0), (40, 1), (40, 3), (40, 4), (40, 5), (40, 6), (12, 0), (45, 0), (45, 1), (45, 3), (45, 4), (45, 5), (45, 6), (12, 1), (50, 0), (50, 1), (50, 3), (50, 4), (50, 5), (50, 6), (12, 2)] := hX21.trans e22
  refine s_iinc [(2, .int ((((1 : Int32) + 1) + 1) + 1)), (1, .int (1 : Int32)), (0, rV E22 0)] dX9_init_112 0 rfl rfl (by decide) rfl ?_
  refine s_goto 73 dX9_init_115 (by decide) ?_
  refine s_iload_n dX9_init_73 0 rfl rfl ?_
  refine s_iconst (v := 3) dX9_init_74 (by decide) ?_
  refine s_icmp_gtT 118 (by decide) dX9_init_75 (by decide) ?_
  refine s_iinc [(1, .int ((1 : Int32) + 1)), (2, .int ((((1 : Int32) + 1) + 1) + 1)), (0, rV E22 0)] dX9_init_118 1 rfl rfl (by decide) rfl ?_
  refine s_goto 46 dX9_init_121 (by decide) ?_
  refine s_iload_n dX9_init_46 0 rfl rfl ?_
  refine s_iconst (v := 3) dX9_init_47 (by decide) ?_
  refine s_icmp_gtF 124 (by decide) dX9_init_48 (by decide) ?_
  refine s_aload_n dX9_init_51 2 rfl rfl ?_
  refine s_getr (b := 11) gf_X9_27 rfl (xmO hX22 hm0) (show kd 0 = 9 from rfl) (ft_of (show kd 0 = 9 from rfl) rfl) (xrN hX22 (by simp)) rfl dX9_init_52 ?_
  refine s_iload_n dX9_init_55 0 rfl rfl ?_
  refine s_iconst (v := 1) dX9_init_56 (by decide) ?_
  refine s_isub dX9_init_57 ?_
  refine k_new (a := 34) (ci := 6) (fun F => [(1, .int ((1 : Int32) + 1)), (2, .int ((((1 : Int32) + 1) + 1) + 1)), (0, rV F 0)]) (fun F => [.int (((1 : Int32) + 1) - (1 : Int32)), rV F 11]) rfl rfl hq (xoN hX22) (xfN hX22 hf34 (by decide)) (by decide) rfl rfl inX6 tyX6_ok (dfX6 rfl) rfl w_184 w_188 w_91 30 1067 (by decide) (by decide) (Nat.le_of_ble_eq_true rfl) (Nat.le_of_ble_eq_true rfl) dX9_init_58 (fun _ e => ⟨by simp only [rV, xaN e 0 (by decide)], by simp only [rV, xaN e 11 (by decide)]⟩) (fun E23 s15 e23 => ?_)
  have hX23 : Ext E E23 [1, 2, 3, 4, 5, 6, 7, 8, 9, 10, 11, 12, 32, 33, 40, 41, 42, 43, 44, 45, 46, 47, 48, 49, 50, 51, 52, 53, 54, 34] [(1, 2), (1, 3), (1, 4), (1, 5), (0, 0), (6, 0), (6, 6), (6, 7), (6, 8), (0, 1), (0, 2), (0, 3), (32, 0), (32, 3), (11, 0), (40, 0), (40, 1), (40, 3), (40, 4), (40, 5), (40, 6), (12, 0), (45, 0), (45, 1), (45, 3), (45, 4), (45, 5), (45, 6), (12, 1), (50, 0), (50, 1), (50, 3), (50, 4), (50, 5), (50, 6), (12, 2)] := hX22.trans e23
  refine s_dup dX9_init_61 rfl ?_
  refine s_aload_n dX9_init_62 2 rfl rfl ?_
  refine s_getr (b := 1) gf_X9_14 rfl (xmO hX23 hm0) (show kd 0 = 9 from rfl) (ft_of (show kd 0 = 9 from rfl) rfl) (xrN hX23 (by simp)) rfl dX9_init_63 ?_
  refine s_iload_n dX9_init_66 0 rfl rfl ?_
  refine k_call (As := [rV E23 1, .int ((1 : Int32) + 1)]) (fun F => [(1, .int ((1 : Int32) + 1)), (2, .int ((((1 : Int32) + 1) + 1) + 1)), (0, rV F 0)]) (fun F => [rV F 34, .int (((1 : Int32) + 1) - (1 : Int32)), rV F 11]) rfl rfl (by intro b hb; simp; try omega) if_X6_init_1 hq (xoN hX23) ml_X9_37 rfl (c_X6_init_1 _ E23 (xmN hX23 (by simp)) (xmN hX23 (by simp)) (xfN hX23 hf35 (by decide)) s15 ((1 : Int32) + 1)) rfl rfl (Nat.le_of_ble_eq_true rfl) 31 1131 (by decide) (by decide) (Nat.le_of_ble_eq_true rfl) (Nat.le_of_ble_eq_true rfl) dX9_init_67 (fun _ e => ⟨by simp only [rV, xaN e 0 (by decide)], by simp only [rV, xaN e 11 (by decide), xaN e 34 (by decide)]⟩) (fun E24 s16 e24 => ?_)
  have hX24 : Ext E E24 [1, 2, 3, 4, 5, 6, 7, 8, 9, 10, 11, 12, 32, 33, 40, 41, 42, 43, 44, 45, 46, 47, 48, 49, 50, 51, 52, 53, 54, 34, 35] [(1, 2), (1, 3), (1, 4), (1, 5), (0, 0), (6, 0), (6, 6), (6, 7), (6, 8), (0, 1), (0, 2), (0, 3), (32, 0), (32, 3), (11, 0), (40, 0), (40, 1), (40, 3), (40, 4), (40, 5), (40, 6), (12, 0), (45, 0), (45, 1), (45, 3), (45, 4), (45, 5), (45, 6), (12, 1), (50, 0), (50, 1), (50, 3), (50, 4), (50, 5), (50, 6), (12, 2), (34, 0), (34, 3)] := hX23.trans e24
  refine k_ast (b := 34) (j := 1) (t0 := 5) (fun F => [(1, .int ((1 : Int32) + 1)), (2, .int ((((1 : Int32) + 1) + 1) + 1)), (0, rV F 0)]) (fun F => []) rfl rfl (xoN hX24) (xmN hX24 (by simp)) (xmN hX24 (by simp)) rfl (by decide) rfl rfl rfl rfl (by decide) (by decide) (by decide) rfl rfl dX9_init_70 (fun _ e => ⟨by simp only [rV, xaN e 0 (by simp)], rfl⟩) (fun E25 e25 => ?_)
  have hX25 : Ext E E25 [1, 2, 3, 4, 5, 6, 7, 8, 9, 10, 11, 12, 32, 33, 40, 41, 42, 43, 44, 45, 46, 47, 48, 49, 50, 51, 52, 53, 54, 34, 35] [(1, 2), (1, 3), (1, 4), (1, 5), (0, 0), (6, 0), (6, 6), (6, 7), (6, 8), (0, 1), (0, 2), (0, 3), (32, 0), (32, 3), (11, 0), (40, 0), (40, 1), (40, 3), (40, 4), (40, 5), (40, 6), (12, 0), (45, 0), (45, 1), (45, 3), (45, 4), (45, 5), (45, 6), (12, 1), (50, 0), (50, 1), (50, 3), (50, 4), (50, 5), (50, 6), (12, 2), (34, 0), (34, 3), (11, 1)] := hX24.trans e25
  refine s_iconst (v := 1) dX9_init_71 (by decide) ?_
  refine s_istore_n [(2, .int (1 : Int32)), (1, .int ((1 : Int32) + 1)), (0, rV E25 0)] dX9_init_72 rfl (by decide) rfl ?_
  refine s_iload_n dX9_init_73 0 rfl rfl ?_
  refine s_iconst (v := 3) dX9_init_74 (by decide) ?_
  refine s_icmp_gtF 118 (by decide) dX9_init_75 (by decide) ?_
  refine s_aload_n dX9_init_78 2 rfl rfl ?_
  refine s_getr (b := 12) gf_X9_33 rfl (xmO hX25 hm0) (show kd 0 = 9 from rfl) (ft_of (show kd 0 = 9 from rfl) rfl) (xrN hX25 (by simp)) rfl dX9_init_79 ?_
  refine s_iload_n dX9_init_82 1 rfl rfl ?_
  refine s_iconst (v := 1) dX9_init_83 (by decide) ?_
  refine s_isub dX9_init_84 ?_
  refine s_iconst (v := 3) dX9_init_85 (by decide) ?_
  refine s_imul dX9_init_86 ?_
  refine s_iload_n dX9_init_87 0 rfl rfl ?_
  refine s_iadd dX9_init_88 ?_
  refine s_iconst (v := 1) dX9_init_89 (by decide) ?_
  refine s_isub dX9_init_90 ?_
  refine k_new (a := 55) (ci := 0) (fun F => [(2, .int (1 : Int32)), (1, .int ((1 : Int32) + 1)), (0, rV F 0)]) (fun F => [.int ((((((1 : Int32) + 1) - (1 : Int32)) * (3 : Int32)) + (1 : Int32)) - (1 : Int32)), rV F 12]) rfl rfl hq (xoN hX25) (xfN hX25 hf55 (by decide)) (by decide) rfl rfl inX0 tyX0_ok (dfX0 rfl) rfl w_186 w_210 w_92 32 1139 (by decide) (by decide) (Nat.le_of_ble_eq_true rfl) (Nat.le_of_ble_eq_true rfl) dX9_init_91 (fun _ e => ⟨by simp only [rV, xaN e 0 (by decide)], by simp only [rV, xaN e 12 (by decide)]⟩) (fun E26 s17 e26 => ?_)
  have hX26 : Ext E E26 [1, 2, 3, 4, 5, 6, 7, 8, 9, 10, 11, 12, 32, 33, 40, 41, 42, 43, 44, 45, 46, 47, 48, 49, 50, 51, 52, 53, 54, 34, 35, 55] [(1, 2), (1, 3), (1, 4), (1, 5), (0, 0), (6, 0), (6, 6), (6, 7), (6, 8), (0, 1), (0, 2), (0, 3), (32, 0), (32, 3), (11, 0), (40, 0), (40, 1), (40, 3), (40, 4), (40, 5), (40, 6), (12, 0), (45, 0), (45, 1), (45, 3), (45, 4), (45, 5), (45, 6), (12, 1), (50, 0), (50, 1), (50, 3), (50, 4), (50, 5), (50, 6), (12, 2), (34, 0), (34, 3), (11, 1)] := hX25.trans e26
  refine s_dup dX9_init_94 rfl ?_
  refine s_aload_n dX9_init_95 2 rfl rfl ?_
  refine s_getr (b := 1) gf_X9_14 rfl (xmO hX26 hm0) (show kd 0 = 9 from rfl) (ft_of (show kd 0 = 9 from rfl) rfl) (xrN hX26 (by simp)) rfl dX9_init_96 ?_
  refine s_aload_n dX9_init_99 2 rfl rfl ?_
  refine s_getr (b := 11) gf_X9_27 rfl (xmO hX26 hm0) (show kd 0 = 9 from rfl) (ft_of (show kd 0 = 9 from rfl) rfl) (xrN hX26 (by simp)) rfl dX9_init_100 ?_
  refine s_iload_n dX9_init_103 1 rfl rfl ?_
  refine s_iconst (v := 1) dX9_init_104 (by decide) ?_
  refine s_isub dX9_init_105 ?_
  refine k_aald (j := 1) (t0 := 5) (xmN hX26 (by simp)) rfl (by decide) rfl rfl (by decide) (by decide) (by decide) (xrN hX26 (by simp)) 34 rfl dX9_init_106 ?_
  refine s_iload_n dX9_init_107 0 rfl rfl ?_
  refine k_call (As := [rV E26 1, rV E26 34, .int (1 : Int32)]) (fun F => [(2, .int (1 : Int32)), (1, .int ((1 : Int32) + 1)), (0, rV F 0)]) (fun F => [rV F 55, .int ((((((1 : Int32) + 1) - (1 : Int32)) * (3 : Int32)) + (1 : Int32)) - (1 : Int32)), rV F 12]) rfl rfl (by intro b hb; simp; try omega) if_X0_init_3 hq (xoN hX26) ml_X9_40 rfl (c_X0_init_3 _ E26 (xmN hX26 (by simp)) (xmN hX26 (by simp)) (xmN hX26 (by simp)) (xfN hX26 hf56 (by decide)) (xfN hX26 hf57 (by decide)) (xfN hX26 hf58 (by decide)) (xfN hX26 hf59 (by decide)) s17 (1 : Int32)) rfl rfl (Nat.le_of_ble_eq_true rfl) 36 1843 (by decide) (by decide) (Nat.le_of_ble_eq_true rfl) (Nat.le_of_ble_eq_true rfl) dX9_init_108 (fun _ e => ⟨by simp only [rV, xaN e 0 (by decide)], by simp only [rV, xaN e 12 (by decide), xaN e 55 (by decide)]⟩) (fun E27 s18 e27 => ?_)
  have hX27 : Ext E E27 [1, 2, 3, 4, 5, 6, 7, 8, 9, 10, 11, 12, 32, 33, 40, 41, 42, 43, 44, 45, 46, 47, 48, 49, 50, 51, 52, 53, 54, 34, 35, 55, 56, 57, 58, 59] [(1, 2), (1, 3), (1, 4), (1, 5), (0, 0), (6, 0), (6, 6), (6, 7), (6, 8), (0, 1), (0, 2), (0, 3), (32, 0), (32, 3), (11, 0), (40, 0), (40, 1), (40, 3), (40, 4), (40, 5), (40, 6), (12, 0), (45, 0), (45, 1), (45, 3), (45, 4), (45, 5), (45, 6), (12, 1), (50, 0), (50, 1), (50, 3), (50, 4), (50, 5), (50, 6), (12, 2), (34, 0), (34, 3), (11, 1), (55, 0), (55, 1), (55, 3), (55, 4), (55, 5), (55, 6)] := hX26.trans e27
  refine k_ast (b := 55) (j := 3) (t0 := 3) (fun F => [(2, .int (1 : Int32)), (1, .int ((1 : Int32) + 1)), (0, rV F 0)]) (fun F => []) rfl rfl (xoN hX27) (xmN hX27 (by simp)) (xmN hX27 (by simp)) rfl (by decide) rfl rfl rfl rfl (by decide) (by decide) (by decide) rfl rfl dX9_init_111 (fun _ e => ⟨by simp only [rV, xaN e 0 (by simp)], rfl⟩) (fun E28 e28 => ?_)
  have hX28 : Ext E E28 [1, 2, 3, 4, 5, 6, 7, 8, 9, 10, 11, 12, 32, 33, 40, 41, 42, 43, 44, 45, 46, 47, 48, 49, 50, 51, 52, 53, 54, 34, 35, 55, 56, 57, 58, 59] [(1, 2), (1, 3), (1, 4), (1, 5), (0, 0), (6, 0), (6, 6), (6, 7), (6, 8), (0, 1), (0, 2), (0, 3), (32, 0), (32, 3), (11, 0), (40, 0), (40, 1), (40, 3), (40, 4), (40, 5), (40, 6), (12, 0), (45, 0), (45, 1), (45, 3), (45, 4), (45, 5), (45, 6), (12, 1), (50, 0), (50, 1), (50, 3), (50, 4), (50, 5), (50, 6), (12, 2), (34, 0), (34, 3), (11, 1), (55, 0), (55, 1), (55, 3), (55, 4), (55, 5), (55, 6), (12, 3)] := hX27.trans e28
  refine s_iinc [(2, .int ((1 : Int32) + 1)), (1, .int ((1 : Int32) + 1)), (0, rV E28 0)] dX9_init_112 0 rfl rfl (by decide) rfl ?_
  refine s_goto 73 dX9_init_115 (by decide) ?_
  refine s_iload_n dX9_init_73 0 rfl rfl ?_
  refine s_iconst (v := 3) dX9_init_74 (by decide) ?_
  refine s_icmp_gtF 118 (by decide) dX9_init_75 (by decide) ?_
  refine s_aload_n dX9_init_78 2 rfl rfl ?_
  refine s_getr (b := 12) gf_X9_33 rfl (xmO hX28 hm0) (show kd 0 = 9 from rfl) (ft_of (show kd 0 = 9 from rfl) rfl) (xrN hX28 (by simp)) rfl dX9_init_79 ?_
  refine s_iload_n dX9_init_82 1 rfl rfl ?_
  refine s_iconst (v := 1) dX9_init_83 (by decide) ?_
  refine s_isub dX9_init_84 ?_
  refine s_iconst (v := 3) dX9_init_85 (by decide) ?_
  refine s_imul dX9_init_86 ?_
  refine s_iload_n dX9_init_87 0 rfl rfl ?_
  refine s_iadd dX9_init_88 ?_
  refine s_iconst (v := 1) dX9_init_89 (by decide) ?_
  refine s_isub dX9_init_90 ?_
  refine k_new (a := 60) (ci := 0) (fun F => [(2, .int ((1 : Int32) + 1)), (1, .int ((1 : Int32) + 1)), (0, rV F 0)]) (fun F => [.int ((((((1 : Int32) + 1) - (1 : Int32)) * (3 : Int32)) + ((1 : Int32) + 1)) - (1 : Int32)), rV F 12]) rfl rfl hq (xoN hX28) (xfN hX28 hf60 (by decide)) (by decide) rfl rfl inX0 tyX0_ok (dfX0 rfl) rfl w_186 w_210 w_92 37 1851 (by decide) (by decide) (Nat.le_of_ble_eq_true rfl) (Nat.le_of_ble_eq_true rfl) dX9_init_91 (fun _ e => ⟨by simp only [rV, xaN e 0 (by decide)], by simp only [rV, xaN e 12 (by decide)]⟩) (fun E29 s19 e29 => ?_)
  have hX29 : Ext E E29 [1, 2, 3, 4, 5, 6, 7, 8, 9, 10, 11, 12, 32, 33, 40, 41, 42, 43, 44, 45, 46, 47, 48, 49, 50, 51, 52, 53, 54, 34, 35, 55, 56, 57, 58, 59, 60] [(1, 2), (1, 3), (1, 4), (1, 5), (0, 0), (6, 0), (6, 6), (6, 7), (6, 8), (0, 1), (0, 2), (0, 3), (32, 0), (32, 3), (11, 0), (40, 0), (40, 1), (40, 3), (40, 4), (40, 5), (40, 6), (12, 0), (45, 0), (45, 1), (45, 3), (45, 4), (45, 5), (45, 6), (12, 1), (50, 0), (50, 1), (50, 3), (50, 4), (50, 5), (50, 6), (12, 2), (34, 0), (34, 3), (11, 1), (55, 0), (55, 1), (55, 3), (55, 4), (55, 5), (55, 6), (12, 3)] := hX28.trans e29
  refine s_dup dX9_init_94 rfl ?_
  refine s_aload_n dX9_init_95 2 rfl rfl ?_
  refine s_getr (b := 1) gf_X9_14 rfl (xmO hX29 hm0) (show kd 0 = 9 from rfl) (ft_of (show kd 0 = 9 from rfl) rfl) (xrN hX29 (by simp)) rfl dX9_init_96 ?_
  refine s_aload_n dX9_init_99 2 rfl rfl ?_
  refine s_getr (b := 11) gf_X9_27 rfl (xmO hX29 hm0) (show kd 0 = 9 from rfl) (ft_of (show kd 0 = 9 from rfl) rfl) (xrN hX29 (by simp)) rfl dX9_init_100 ?_
  refine s_iload_n dX9_init_103 1 rfl rfl ?_
  refine s_iconst (v := 1) dX9_init_104 (by decide) ?_
  refine s_isub dX9_init_105 ?_
  refine k_aald (j := 1) (t0 := 5) (xmN hX29 (by simp)) rfl (by decide) rfl rfl (by decide) (by decide) (by decide) (xrN hX29 (by simp)) 34 rfl dX9_init_106 ?_
  refine s_iload_n dX9_init_107 0 rfl rfl ?_
  refine k_call (As := [rV E29 1, rV E29 34, .int ((1 : Int32) + 1)]) (fun F => [(2, .int ((1 : Int32) + 1)), (1, .int ((1 : Int32) + 1)), (0, rV F 0)]) (fun F => [rV F 60, .int ((((((1 : Int32) + 1) - (1 : Int32)) * (3 : Int32)) + ((1 : Int32) + 1)) - (1 : Int32)), rV F 12]) rfl rfl (by intro b hb; simp; try omega) if_X0_init_4 hq (xoN hX29) ml_X9_40 rfl (c_X0_init_4 _ E29 (xmN hX29 (by simp)) (xmN hX29 (by simp)) (xmN hX29 (by simp)) (xfN hX29 hf61 (by decide)) (xfN hX29 hf62 (by decide)) (xfN hX29 hf63 (by decide)) (xfN hX29 hf64 (by decide)) s19 ((1 : Int32) + 1)) rfl rfl (Nat.le_of_ble_eq_true rfl) 41 2555 (by decide) (by decide) (Nat.le_of_ble_eq_true rfl) (Nat.le_of_ble_eq_true rfl) dX9_init_108 (fun _ e => ⟨by simp only [rV, xaN e 0 (by decide)], by simp only [rV, xaN e 12 (by decide), xaN e 60 (by decide)]⟩) (fun E30 s20 e30 => ?_)
  have hX30 : Ext E E30 [1, 2, 3, 4, 5, 6, 7, 8, 9, 10, 11, 12, 32, 33, 40, 41, 42, 43, 44, 45, 46, 47, 48, 49, 50, 51, 52, 53, 54, 34, 35, 55, 56, 57, 58, 59, 60, 61, 62, 63, 64] [(1, 2), (1, 3), (1, 4), (1, 5), (0, 0), (6, 0), (6, 6), (6, 7), (6, 8), (0, 1), (0, 2), (0, 3), (32, 0), (32, 3), (11, 0), (40, 0), (40, 1), (40, 3), (40, 4), (40, 5), (40, 6), (12, 0), (45, 0), (45, 1), (45, 3), (45, 4), (45, 5), (45, 6), (12, 1), (50, 0), (50, 1), (50, 3), (50, 4), (50, 5), (50, 6), (12, 2), (34, 0), (34, 3), (11, 1), (55, 0), (55, 1), (55, 3), (55, 4), (55, 5), (55, 6), (12, 3), (60, 0), (60, 1), (60, 3), (60, 4), (60, 5), (60, 6)] := hX29.trans e30
  refine k_ast (b := 60) (j := 4) (t0 := 3) (fun F => [(2, .int ((1 : Int32) + 1)), (1, .int ((1 : Int32) + 1)), (0, rV F 0)]) (fun F => []) rfl rfl (xoN hX30) (xmN hX30 (by simp)) (xmN hX30 (by simp)) rfl (by decide) rfl rfl rfl rfl (by decide) (by decide) (by decide) rfl rfl dX9_init_111 (fun _ e => ⟨by simp only [rV, xaN e 0 (by simp)], rfl⟩) (fun E31 e31 => ?_)
  have hX31 : Ext E E31 [1, 2, 3, 4, 5, 6, 7, 8, 9, 10, 11, 12, 32, 33, 40, 41, 42, 43, 44, 45, 46, 47, 48, 49, 50, 51, 52, 53, 54, 34, 35, 55, 56, 57, 58, 59, 60, 61, 62, 63, 64] [(1, 2), (1, 3), (1, 4), (1, 5), (0, 0), (6, 0), (6, 6), (6, 7), (6, 8), (0, 1), (0, 2), (0, 3), (32, 0), (32, 3), (11, 0), (40, 0), (40, 1), (40, 3), (40, 4), (40, 5), (40, 6), (12, 0), (45, 0), (45, 1), (45, 3), (45, 4), (45, 5), (45, 6), (12, 1), (50, 0), (50, 1), (50, 3), (50, 4), (50, 5), (50, 6), (12, 2), (34, 0), (34, 3), (11, 1), (55, 0), (55, 1), (55, 3), (55, 4), (55, 5), (55, 6), (12, 3), (60, 0), (60, 1), (60, 3), (60, 4), (60, 5), (60, 6), (12, 4)] := hX30.trans e31
  refine s_iinc [(2, .int (((1 : Int32) + 1) + 1)), (1, .int ((1 : Int32) + 1)), (0, rV E31 0)] dX9_init_112 0 rfl rfl (by decide) rfl ?_
  refine s_goto 73 dX9_init_115 (by decide) ?_
  refine s_iload_n dX9_init_73 0 rfl rfl ?_
  refine s_iconst (v := 3) dX9_init_74 (by decide) ?_
  refine s_icmp_gtF 118 (by decide) dX9_init_75 (by decide) ?_
  refine s_aload_n dX9_init_78 2 rfl rfl ?_
  refine s_getr (b := 12) gf_X9_33 rfl (xmO hX31 hm0) (show kd 0 = 9 from rfl) (ft_of (show kd 0 = 9 from rfl) rfl) (xrN hX31 (by simp)) rfl dX9_init_79 ?_
  refine s_iload_n dX9_init_82 1 rfl rfl ?_
  refine s_iconst (v := 1) dX9_init_83 (by decide) ?_
  refine s_isub dX9_init_84 ?_
  refine s_iconst (v := 3) dX9_init_85 (by decide) ?_
  refine s_imul dX9_init_86 ?_
  refine s_iload_n dX9_init_87 0 rfl rfl ?_
  refine s_iadd dX9_init_88 ?_
  refine s_iconst (v := 1) dX9_init_89 (by decide) ?_
  refine s_isub dX9_init_90 ?_
  refine k_new (a := 65) (ci := 0) (fun F => [(2, .int (((1 : Int32) + 1) + 1)), (1, .int ((1 : Int32) + 1)), (0, rV F 0)]) (fun F => [.int ((((((1 : Int32) + 1) - (1 : Int32)) * (3 : Int32)) + (((1 : Int32) + 1) + 1)) - (1 : Int32)), rV F 12]) rfl rfl hq (xoN hX31) (xfN hX31 hf65 (by decide)) (by decide) rfl rfl inX0 tyX0_ok (dfX0 rfl) rfl w_186 w_210 w_92 42 2563 (by decide) (by decide) (Nat.le_of_ble_eq_true rfl) (Nat.le_of_ble_eq_true rfl) dX9_init_91 (fun _ e => ⟨by simp only [rV, xaN e 0 (by decide)], by simp only [rV, xaN e 12 (by decide)]⟩) (fun E32 s21 e32 => ?_)
  have hX32 : Ext E E32 [1, 2, 3, 4, 5, 6, 7, 8, 9, 10, 11, 12, 32, 33, 40, 41, 42, 43, 44, 45, 46, 47, 48, 49, 50, 51, 52, 53, 54, 34, 35, 55, 56, 57, 58, 59, 60, 61, 62, 63, 64, 65] [(1, 2), (1, 3), (1, 4), (1, 5), (0, 0), (6, 0), (6, 6), (6, 7), (6, 8), (0, 1), (0, 2), (0, 3), (32, 0), (32, 3), (11, 0), (40, 0), (40, 1), (40, 3), (40, 4), (40, 5), (40, 6), (12, 0), (45, 0), (45, 1), (45, 3), (45, 4), (45, 5), (45, 6), (12, 1), (50, 0), (50, 1), (50, 3), (50, 4), (50, 5), (50, 6), (12, 2), (34, 0), (34, 3), (11, 1), (55, 0), (55, 1), (55, 3), (55, 4), (55, 5), (55, 6), (12, 3), (60, 0), (60, 1), (60, 3), (60, 4), (60, 5), (60, 6), (12, 4)] := hX31.trans e32
  refine s_dup dX9_init_94 rfl ?_
  refine s_aload_n dX9_init_95 2 rfl rfl ?_
  refine s_getr (b := 1) gf_X9_14 rfl (xmO hX32 hm0) (show kd 0 = 9 from rfl) (ft_of (show kd 0 = 9 from rfl) rfl) (xrN hX32 (by simp)) rfl dX9_init_96 ?_
  refine s_aload_n dX9_init_99 2 rfl rfl ?_
  refine s_getr (b := 11) gf_X9_27 rfl (xmO hX32 hm0) (show kd 0 = 9 from rfl) (ft_of (show kd 0 = 9 from rfl) rfl) (xrN hX32 (by simp)) rfl dX9_init_100 ?_
  refine s_iload_n dX9_init_103 1 rfl rfl ?_
  refine s_iconst (v := 1) dX9_init_104 (by decide) ?_
  refine s_isub dX9_init_105 ?_
  refine k_aald (j := 1) (t0 := 5) (xmN hX32 (by simp)) rfl (by decide) rfl rfl (by decide) (by decide) (by decide) (xrN hX32 (by simp)) 34 rfl dX9_init_106 ?_
  refine s_iload_n dX9_init_107 0 rfl rfl ?_
  refine k_call (As := [rV E32 1, rV E32 34, .int (((1 : Int32) + 1) + 1)]) (fun F => [(2, .int (((1 : Int32) + 1) + 1)), (1, .int ((1 : Int32) + 1)), (0, rV F 0)]) (fun F => [rV F 65, .int ((((((1 : Int32) + 1) - (1 : Int32)) * (3 : Int32)) + (((1 : Int32) + 1) + 1)) - (1 : Int32)), rV F 12]) rfl rfl (by intro b hb; simp; try omega) if_X0_init_5 hq (xoN hX32) ml_X9_40 rfl (c_X0_init_5 _ E32 (xmN hX32 (by simp)) (xmN hX32 (by simp)) (xmN hX32 (by simp)) (xfN hX32 hf66 (by decide)) (xfN hX32 hf67 (by decide)) (xfN hX32 hf68 (by decide)) (xfN hX32 hf69 (by decide)) s21 (((1 : Int32) + 1) + 1)) rfl rfl (Nat.le_of_ble_eq_true rfl) 46 3267 (by decide) (by decide) (Nat.le_of_ble_eq_true rfl) (Nat.le_of_ble_eq_true rfl) dX9_init_108 (fun _ e => ⟨by simp only [rV, xaN e 0 (by decide)], by simp only [rV, xaN e 12 (by decide), xaN e 65 (by decide)]⟩) (fun E33 s22 e33 => ?_)
  have hX33 : Ext E E33 [1, 2, 3, 4, 5, 6, 7, 8, 9, 10, 11, 12, 32, 33, 40, 41, 42, 43, 44, 45, 46, 47, 48, 49, 50, 51, 52, 53, 54, 34, 35, 55, 56, 57, 58, 59, 60, 61, 62, 63, 64, 65, 66, 67, 68, 69] [(1, 2), (1, 3), (1, 4), (1, 5), (0, 0), (6, 0), (6, 6), (6, 7), (6, 8), (0, 1), (0, 2), (0, 3), (32, 0), (32, 3), (11, 0), (40, 0), (40, 1), (40, 3), (40, 4), (40, 5), (40, 6), (12, 0), (45, 0), (45, 1), (45, 3), (45, 4), (45, 5), (45, 6), (12, 1), (50, 0), (50, 1), (50, 3), (50, 4), (50, 5), (50, 6), (12, 2), (34, 0), (34, 3), (11, 1), (55, 0), (55, 1), (55, 3), (55, 4), (55, 5), (55, 6), (12, 3), (60, 0), (60, 1), (60, 3), (60, 4), (60, 5), (60, 6), (12, 4), (65, 0), (65, 1), (65, 3), (65, 4), (65, 5), (65, 6)] := hX32.trans e33
  refine k_ast (b := 65) (j := 5) (t0 := 3) (fun F => [(2, .int (((1 : Int32) + 1) + 1)), (1, .int ((1 : Int32) + 1)), (0, rV F 0)]) (fun F => []) rfl rfl (xoN hX33) (xmN hX33 (by simp)) (xmN hX33 (by simp)) rfl (by decide) rfl rfl rfl rfl (by decide) (by decide) (by decide) rfl rfl dX9_init_111 (fun _ e => ⟨by simp only [rV, xaN e 0 (by simp)], rfl⟩) (fun E34 e34 => ?_)
  have hX34 : Ext E E34 [1, 2, 3, 4, 5, 6, 7, 8, 9, 10, 11, 12, 32, 33, 40, 41, 42, 43, 44, 45, 46, 47, 48, 49, 50, 51, 52, 53, 54, 34, 35, 55, 56, 57, 58, 59, 60, 61, 62, 63, 64, 65, 66, 67, 68, 69] [(1, 2), (1, 3), (1, 4), (1, 5), (0, 0), (6, 0), (6, 6), (6, 7), (6, 8), (0, 1), (0, 2), (0, 3), (32, 0), (32, 3), (11, 0), (40, 0), (40, 1), (40, 3), (40, 4), (40, 5), (40, 6), (12, 0), (45, 0), (45, 1), (45, 3), (45, 4), (45, 5), (45, 6), (12, 1), (50, 0), (50, 1), (50, 3), (50, 4), (50, 5), (50, 6), (12, 2), (34, 0), (34, 3), (11, 1), (55, 0), (55, 1), (55, 3), (55, 4), (55, 5), (55, 6), (12, 3), (60, 0), (60, 1), (60, 3), (60, 4), (60, 5), (60, 6), (12, 4), (65, 0), (65, 1), (65, 3), (65, 4), (65, 5), (65, 6), (12, 5)] := hX33.trans e34
  refine s_iinc [(2, .int ((((1 : Int32) + 1) + 1) + 1)), (1, .int ((1 : Int32) + 1)), (0, rV E34 0)] dX9_init_112 0 rfl rfl (by decide) rfl ?_
  refine s_goto 73 dX9_init_115 (by decide) ?_
  refine s_iload_n dX9_init_73 0 rfl rfl ?_
  refine s_iconst (v := 3) dX9_init_74 (by decide) ?_
  refine s_icmp_gtT 118 (by decide) dX9_init_75 (by decide) ?_
  refine s_iinc [(1, .int (((1 : Int32) + 1) + 1)), (2, .int ((((1 : Int32) + 1) + 1) + 1)), (0, rV E34 0)] dX9_init_118 1 rfl rfl (by decide) rfl ?_
  refine s_goto 46 dX9_init_121 (by decide) ?_
  refine s_iload_n dX9_init_46 0 rfl rfl ?_
  refine s_iconst (v := 3) dX9_init_47 (by decide) ?_
  refine s_icmp_gtF 124 (by decide) dX9_init_48 (by decide) ?_
  refine s_aload_n dX9_init_51 2 rfl rfl ?_
  refine s_getr (b := 11) gf_X9_27 rfl (xmO hX34 hm0) (show kd 0 = 9 from rfl) (ft_of (show kd 0 = 9 from rfl) rfl) (xrN hX34 (by simp)) rfl dX9_init_52 ?_
  refine s_iload_n dX9_init_55 0 rfl rfl ?_
  refine s_iconst (v := 1) dX9_init_56 (by decide) ?_
  refine s_isub dX9_init_57 ?_
  refine k_new (a := 36) (ci := 6) (fun F => [(1, .int (((1 : Int32) + 1) + 1)), (2, .int ((((1 : Int32) + 1) + 1) + 1)), (0, rV F 0)]) (fun F => [.int ((((1 : Int32) + 1) + 1) - (1 : Int32)), rV F 11]) rfl rfl hq (xoN hX34) (xfN hX34 hf36 (by decide)) (by decide) rfl rfl inX6 tyX6_ok (dfX6 rfl) rfl w_184 w_188 w_91 47 3271 (by decide) (by decide) (Nat.le_of_ble_eq_true rfl) (Nat.le_of_ble_eq_true rfl) dX9_init_58 (fun _ e => ⟨by simp only [rV, xaN e 0 (by decide)], by simp only [rV, xaN e 11 (by decide)]⟩) (fun E35 s23 e35 => ?_)
  have hX35 : Ext E E35 [1, 2, 3, 4, 5, 6, 7, 8, 9, 10, 11, 12, 32, 33, 40, 41, 42, 43, 44, 45, 46, 47, 48, 49, 50, 51, 52, 53, 54, 34, 35, 55, 56, 57, 58, 59, 60, 61, 62, 63, 64, 65, 66, 67, 68, 69, 36] [(1, 2), (1, 3), (1, 4), (1, 5), (0, 0), (6, 0), (6, 6), (6, 7), (6, 8), (0, 1), (0, 2), (0, 3), (32, 0), (32, 3), (11, 0), (40, 0), (40, 1), (40, 3), (40, 4), (40, 5), (40, 6), (12, 0), (45, 0), (45, 1), (45, 3), (45, 4), (45, 5), (45, 6), (12, 1), (50, 0), (50, 1), (50, 3), (50, 4), (50, 5), (50, 6), (12, 2), (34, 0), (34, 3), (11, 1), (55, 0), (55, 1), (55, 3), (55, 4), (55, 5), (55, 6), (12, 3), (60, 0), (60, 1), (60, 3), (60, 4), (60, 5), (60, 6), (12, 4), (65, 0), (65, 1), (65, 3), (65, 4), (65, 5), (65, 6), (12, 5)] := hX34.trans e35
  refine s_dup dX9_init_61 rfl ?_
  refine s_aload_n dX9_init_62 2 rfl rfl ?_
  refine s_getr (b := 1) gf_X9_14 rfl (xmO hX35 hm0) (show kd 0 = 9 from rfl) (ft_of (show kd 0 = 9 from rfl) rfl) (xrN hX35 (by simp)) rfl dX9_init_63 ?_
  refine s_iload_n dX9_init_66 0 rfl rfl ?_
  refine k_call (As := [rV E35 1, .int (((1 : Int32) + 1) + 1)]) (fun F => [(1, .int (((1 : Int32) + 1) + 1)), (2, .int ((((1 : Int32) + 1) + 1) + 1)), (0, rV F 0)]) (fun F => [rV F 36, .int ((((1 : Int32) + 1) + 1) - (1 : Int32)), rV F 11]) rfl rfl (by intro b hb; simp; try omega) if_X6_init_2 hq (xoN hX35) ml_X9_37 rfl (c_X6_init_2 _ E35 (xmN hX35 (by simp)) (xmN hX35 (by simp)) (xfN hX35 hf37 (by decide)) s23 (((1 : Int32) + 1) + 1)) rfl rfl (Nat.le_of_ble_eq_true rfl) 48 3783 (by decide) (by decide) (Nat.le_of_ble_eq_true rfl) (Nat.le_of_ble_eq_true rfl) dX9_init_67 (fun _ e => ⟨by simp only [rV, xaN e 0 (by decide)], by simp only [rV, xaN e 11 (by decide), xaN e 36 (by decide)]⟩) (fun E36 s24 e36 => ?_)
  have hX36 : Ext E E36 [1, 2, 3, 4, 5, 6, 7, 8, 9, 10, 11, 12, 32, 33, 40, 41, 42, 43, 44, 45, 46, 47, 48, 49, 50, 51, 52, 53, 54, 34, 35, 55, 56, 57, 58, 59, 60, 61, 62, 63, 64, 65, 66, 67, 68, 69, 36, 37] [(1, 2), (1, 3), (1, 4), (1, 5), (0, 0), (6, 0), (6, 6), (6, 7), (6, 8), (0, 1), (0, 2), (0, 3), (32, 0), (32, 3), (11, 0), (40, 0), (40, 1), (40, 3), (40, 4), (40, 5), (40, 6), (12, 0), (45, 0), (45, 1), (45, 3), (45, 4), (45, 5), (45, 6), (12, 1), (50, 0), (50, 1), (50, 3), (50, 4), (50, 5), (50, 6), (12, 2), (34, 0), (34, 3), (11, 1), (55, 0), (55, 1), (55, 3), (55, 4), (55, 5), (55, 6), (12, 3), (60, 0), (60, 1), (60, 3), (60, 4), (60, 5), (60, 6), (12, 4), (65, 0), (65, 1), (65, 3), (65, 4), (65, 5), (65, 6), (12, 5), (36, 0), (36, 3)] := hX35.trans e36
  refine k_ast (b := 36) (j := 2) (t0 := 5) (fun F => [(1, .int (((1 : Int32) + 1) + 1)), (2, .int ((((1 : Int32) + 1) + 1) + 1)), (0, rV F 0)]) (fun F => []) rfl rfl (xoN hX36) (xmN hX36 (by simp)) (xmN hX36 (by simp)) rfl (by decide) rfl rfl rfl rfl (by decide) (by decide) (by decide) rfl rfl dX9_init_70 (fun _ e => ⟨by simp only [rV, xaN e 0 (by simp)], rfl⟩) (fun E37 e37 => ?_)
  have hX37 : Ext E E37 [1, 2, 3, 4, 5, 6, 7, 8, 9, 10, 11, 12, 32, 33, 40, 41, 42, 43, 44, 45, 46, 47, 48, 49, 50, 51, 52, 53, 54, 34, 35, 55, 56, 57, 58, 59, 60, 61, 62, 63, 64, 65, 66, 67, 68, 69, 36, 37] [(1, 2), (1, 3), (1, 4), (1, 5), (0, 0), (6, 0), (6, 6), (6, 7), (6, 8), (0, 1), (0, 2), (0, 3), (32, 0), (32, 3), (11, 0), (40, 0), (40, 1), (40, 3), (40, 4), (40, 5), (40, 6), (12, 0), (45, 0), (45, 1), (45, 3), (45, 4), (45, 5), (45, 6), (12, 1), (50, 0), (50, 1), (50, 3), (50, 4), (50, 5), (50, 6), (12, 2), (34, 0), (34, 3), (11, 1), (55, 0), (55, 1), (55, 3), (55, 4), (55, 5), (55, 6), (12, 3), (60, 0), (60, 1), (60, 3), (60, 4), (60, 5), (60, 6), (12, 4), (65, 0), (65, 1), (65, 3), (65, 4), (65, 5), (65, 6), (12, 5), (36, 0), (36, 3), (11, 2)] := hX36.trans e37
  refine s_iconst (v := 1) dX9_init_71 (by decide) ?_
  refine s_istore_n [(2, .int (1 : Int32)), (1, .int (((1 : Int32) + 1) + 1)), (0, rV E37 0)] dX9_init_72 rfl (by decide) rfl ?_
  refine s_iload_n dX9_init_73 0 rfl rfl ?_
  refine s_iconst (v := 3) dX9_init_74 (by decide) ?_
  refine s_icmp_gtF 118 (by decide) dX9_init_75 (by decide) ?_
  refine s_aload_n dX9_init_78 2 rfl rfl ?_
  refine s_getr (b := 12) gf_X9_33 rfl (xmO hX37 hm0) (show kd 0 = 9 from rfl) (ft_of (show kd 0 = 9 from rfl) rfl) (xrN hX37 (by simp)) rfl dX9_init_79 ?_
  refine s_iload_n dX9_init_82 1 rfl rfl ?_
  refine s_iconst (v := 1) dX9_init_83 (by decide) ?_
  refine s_isub dX9_init_84 ?_
  refine s_iconst (v := 3) dX9_init_85 (by decide) ?_
  refine s_imul dX9_init_86 ?_
  refine s_iload_n dX9_init_87 0 rfl rfl ?_
  refine s_iadd dX9_init_88 ?_
  refine s_iconst (v := 1) dX9_init_89 (by decide) ?_
  refine s_isub dX9_init_90 ?_
  refine k_new (a := 70) (ci := 0) (fun F => [(2, .int (1 : Int32)), (1, .int (((1 : Int32) + 1) + 1)), (0, rV F 0)]) (fun F => [.int (((((((1 : Int32) + 1) + 1) - (1 : Int32)) * (3 : Int32)) + (1 : Int32)) - (1 : Int32)), rV F 12]) rfl rfl hq (xoN hX37) (xfN hX37 hf70 (by decide)) (by decide) rfl rfl inX0 tyX0_ok (dfX0 rfl) rfl w_186 w_210 w_92 49 3791 (by decide) (by decide) (Nat.le_of_ble_eq_true rfl) (Nat.le_of_ble_eq_true rfl) dX9_init_91 (fun _ e => ⟨by simp only [rV, xaN e 0 (by decide)], by simp only [rV, xaN e 12 (by decide)]⟩) (fun E38 s25 e38 => ?_)
  have hX38 : Ext E E38 [1, 2, 3, 4, 5, 6, 7, 8, 9, 10, 11, 12, 32, 33, 40, 41, 42, 43, 44, 45, 46, 47, 48, 49, 50, 51, 52, 53, 54, 34, 35, 55, 56, 57, 58, 59, 60, 61, 62, 63, 64, 65, 66, 67, 68, 69, 36, 37, 70] [(1, 2), (1, 3), (1, 4), (1, 5), (0, 0), (6, 0), (6, 6), (6, 7), (6, 8), (0, 1), (0, 2), (0, 3), (32, 0), (32, 3), (11, 0), (40, 0), (40, 1), (40, 3), (40, 4), (40, 5), (40, 6), (12, 0), (45, 0), (45, 1), (45, 3), (45, 4), (45, 5), (45, 6), (12, 1), (50, 0), (50, 1), (50, 3), (50, 4), (50, 5), (50, 6), (12, 2), (34, 0), (34, 3), (11, 1), (55, 0), (55, 1), (55, 3), (55, 4), (55, 5), (55, 6), (12, 3), (60, 0), (60, 1), (60, 3), (60, 4), (60, 5), (60, 6), (12, 4), (65, 0), (65, 1), (65, 3), (65, 4), (65, 5), (65, 6), (12, 5), (36, 0), (36, 3), (11, 2)] := hX37.trans e38
  refine s_dup dX9_init_94 rfl ?_
  refine s_aload_n dX9_init_95 2 rfl rfl ?_
  refine s_getr (b := 1) gf_X9_14 rfl (xmO hX38 hm0) (show kd 0 = 9 from rfl) (ft_of (show kd 0 = 9 from rfl) rfl) (xrN hX38 (by simp)) rfl dX9_init_96 ?_
  refine s_aload_n dX9_init_99 2 rfl rfl ?_
  refine s_getr (b := 11) gf_X9_27 rfl (xmO hX38 hm0) (show kd 0 = 9 from rfl) (ft_of (show kd 0 = 9 from rfl) rfl) (xrN hX38 (by simp)) rfl dX9_init_100 ?_
  refine s_iload_n dX9_init_103 1 rfl rfl ?_
  refine s_iconst (v := 1) dX9_init_104 (by decide) ?_
  refine s_isub dX9_init_105 ?_
  refine k_aald (j := 2) (t0 := 5) (xmN hX38 (by simp)) rfl (by decide) rfl rfl (by decide) (by decide) (by decide) (xrN hX38 (by simp)) 36 rfl dX9_init_106 ?_
  refine s_iload_n dX9_init_107 0 rfl rfl ?_
  refine k_call (As := [rV E38 1, rV E38 36, .int (1 : Int32)]) (fun F => [(2, .int (1 : Int32)), (1, .int (((1 : Int32) + 1) + 1)), (0, rV F 0)]) (fun F => [rV F 70, .int (((((((1 : Int32) + 1) + 1) - (1 : Int32)) * (3 : Int32)) + (1 : Int32)) - (1 : Int32)), rV F 12]) rfl rfl (by intro b hb; simp; try omega) if_X0_init_6 hq (xoN hX38) ml_X9_40 rfl (c_X0_init_6 _ E38 (xmN hX38 (by simp)) (xmN hX38 (by simp)) (xmN hX38 (by simp)) (xfN hX38 hf71 (by decide)) (xfN hX38 hf72 (by decide)) (xfN hX38 hf73 (by decide)) (xfN hX38 hf74 (by decide)) s25 (1 : Int32)) rfl rfl (Nat.le_of_ble_eq_true rfl) 53 9423 (by decide) (by decide) (Nat.le_of_ble_eq_true rfl) (Nat.le_of_ble_eq_true rfl) dX9_init_108 (fun _ e => ⟨by simp only [rV, xaN e 0 (by decide)], by simp only [rV, xaN e 12 (by decide), xaN e 70 (by decide)]⟩) (fun E39 s26 e39 => ?_)
  have hX39 : Ext E E39 [1, 2, 3, 4, 5, 6, 7, 8, 9, 10, 11, 12, 32, 33, 40, 41, 42, 43, 44, 45, 46, 47, 48, 49, 50, 51, 52, 53, 54, 34, 35, 55, 56, 57, 58, 59, 60, 61, 62, 63, 64, 65, 66, 67, 68, 69, 36, 37, 70, 71, 72, 73, 74] [(1, 2), (1, 3), (1, 4), (1, 5), (0, 0), (6, 0), (6, 6), (6, 7), (6, 8), (0, 1), (0, 2), (0, 3), (32, 0), (32, 3), (11, 0), (40, 0), (40, 1), (40, 3), (40, 4), (40, 5), (40, 6), (12, 0), (45, 0), (45, 1), (45, 3), (45, 4), (45, 5), (45, 6), (12, 1), (50, 0), (50, 1), (50, 3), (50, 4), (50, 5), (50, 6), (12, 2), (34, 0), (34, 3), (11, 1), (55, 0), (55, 1), (55, 3), (55, 4), (55, 5), (55, 6), (12, 3), (60, 0), (60, 1), (60, 3), (60, 4), (60, 5), (60, 6), (12, 4), (65, 0), (65, 1), (65, 3), (65, 4), (65, 5), (65, 6), (12, 5), (36, 0), (36, 3), (11, 2), (70, 0), (70, 1), (70, 3), (70, 4), (70, 5), (70, 6)] := hX38.trans e39
  refine k_ast (b := 70) (j := 6) (t0 := 3) (fun F => [(2, .int (1 : Int32)), (1, .int (((1 : Int32) + 1) + 1)), (0, rV F 0)]) (fun F => []) rfl rfl (xoN hX39) (xmN hX39 (by simp)) (xmN hX39 (by simp)) rfl (by decide) rfl rfl rfl rfl (by decide) (by decide) (by decide) rfl rfl dX9_init_111 (fun _ e => ⟨by simp only [rV, xaN e 0 (by simp)], rfl⟩) (fun E40 e40 => ?_)
  have hX40 : Ext E E40 [1, 2, 3, 4, 5, 6, 7, 8, 9, 10, 11, 12, 32, 33, 40, 41, 42, 43, 44, 45, 46, 47, 48, 49, 50, 51, 52, 53, 54, 34, 35, 55, 56, 57, 58, 59, 60, 61, 62, 63, 64, 65, 66, 67, 68, 69, 36, 37, 70, 71, 72, 73, 74] [(1, 2), (1, 3), (1, 4), (1, 5), (0, 0), (6, 0), (6, 6), (6, 7), (6, 8), (0, 1), (0, 2), (0, 3), (32, 0), (32, 3), (11, 0), (40, 0), (40, 1), (40, 3), (40, 4), (40, 5), (40, 6), (12, 0), (45, 0), (45, 1), (45, 3), (45, 4), (45, 5), (45, 6), (12, 1), (50, 0), (50, 1), (50, 3), (50, 4), (50, 5), (50, 6), (12, 2), (34, 0), (34, 3), (11, 1), (55, 0), (55, 1), (55, 3), (55, 4), (55, 5), (55, 6), (12, 3), (60, 0), (60, 1), (60, 3), (60, 4), (60, 5), (60, 6), (12, 4), (65, 0), (65, 1), (65, 3), (65, 4), (65, 5), (65, 6), (12, 5), (36, 0), (36, 3), (11, 2), (70, 0), (70, 1), (70, 3), (70, 4), (70, 5), (70, 6), (12, 6)] := hX39.trans e40
  refine s_iinc [(2, .int ((1 : Int32) + 1)), (1, .int (((1 : Int32) + 1) + 1)), (0, rV E40 0)] dX9_init_112 0 rfl rfl (by decide) rfl ?_
  refine s_goto 73 dX9_init_115 (by decide) ?_
  refine s_iload_n dX9_init_73 0 rfl rfl ?_
  refine s_iconst (v := 3) dX9_init_74 (by decide) ?_
  refine s_icmp_gtF 118 (by decide) dX9_init_75 (by decide) ?_
  refine s_aload_n dX9_init_78 2 rfl rfl ?_
  refine s_getr (b := 12) gf_X9_33 rfl (xmO hX40 hm0) (show kd 0 = 9 from rfl) (ft_of (show kd 0 = 9 from rfl) rfl) (xrN hX40 (by simp)) rfl dX9_init_79 ?_
  refine s_iload_n dX9_init_82 1 rfl rfl ?_
  refine s_iconst (v := 1) dX9_init_83 (by decide) ?_
  refine s_isub dX9_init_84 ?_
  refine s_iconst (v := 3) dX9_init_85 (by decide) ?_
  refine s_imul dX9_init_86 ?_
  refine s_iload_n dX9_init_87 0 rfl rfl ?_
  refine s_iadd dX9_init_88 ?_
  refine s_iconst (v := 1) dX9_init_89 (by decide) ?_
  refine s_isub dX9_init_90 ?_
  refine k_new (a := 75) (ci := 0) (fun F => [(2, .int ((1 : Int32) + 1)), (1, .int (((1 : Int32) + 1) + 1)), (0, rV F 0)]) (fun F => [.int (((((((1 : Int32) + 1) + 1) - (1 : Int32)) * (3 : Int32)) + ((1 : Int32) + 1)) - (1 : Int32)), rV F 12]) rfl rfl hq (xoN hX40) (xfN hX40 hf75 (by decide)) (by decide) rfl rfl inX0 tyX0_ok (dfX0 rfl) rfl w_186 w_210 w_92 54 9431 (by decide) (by decide) (Nat.le_of_ble_eq_true rfl) (Nat.le_of_ble_eq_true rfl) dX9_init_91 (fun _ e => ⟨by simp only [rV, xaN e 0 (by decide)], by simp only [rV, xaN e 12 (by decide)]⟩) (fun E41 s27 e41 => ?_)
  have hX41 : Ext E E41 [1, 2, 3, 4, 5, 6, 7, 8, 9, 10, 11, 12, 32, 33, 40, 41, 42, 43, 44, 45, 46, 47, 48, 49, 50, 51, 52, 53, 54, 34, 35, 55, 56, 57, 58, 59, 60, 61, 62, 63, 64, 65, 66, 67, 68, 69, 36, 37, 70, 71, 72, 73, 74, 75] [(1, 2), (1, 3), (1, 4), (1, 5), (0, 0), (6, 0), (6, 6), (6, 7), (6, 8), (0, 1), (0, 2), (0, 3), (32, 0), (32, 3), (11, 0), (40, 0), (40, 1), (40, 3), (40, 4), (40, 5), (40, 6), (12, 0), (45, 0), (45, 1), (45, 3), (45, 4), (45, 5), (45, 6), (12, 1), (50, 0), (50, 1), (50, 3), (50, 4), (50, 5), (50, 6), (12, 2), (34, 0), (34, 3), (11, 1), (55, 0), (55, 1), (55, 3), (55, 4), (55, 5), (55, 6), (12, 3), (60, 0), (60, 1), (60, 3), (60, 4), (60, 5), (60, 6), (12, 4), (65, 0), (65, 1), (65, 3), (65, 4), (65, 5), (65, 6), (12, 5), (36, 0), (36, 3), (11, 2), (70, 0), (70, 1), (70, 3), (70, 4), (70, 5), (70, 6), (12, 6)] := hX40.trans e41
  refine s_dup dX9_init_94 rfl ?_
  refine s_aload_n dX9_init_95 2 rfl rfl ?_
  refine s_getr (b := 1) gf_X9_14 rfl (xmO hX41 hm0) (show kd 0 = 9 from rfl) (ft_of (show kd 0 = 9 from rfl) rfl) (xrN hX41 (by simp)) rfl dX9_init_96 ?_
  refine s_aload_n dX9_init_99 2 rfl rfl ?_
  refine s_getr (b := 11) gf_X9_27 rfl (xmO hX41 hm0) (show kd 0 = 9 from rfl) (ft_of (show kd 0 = 9 from rfl) rfl) (xrN hX41 (by simp)) rfl dX9_init_100 ?_
  refine s_iload_n dX9_init_103 1 rfl rfl ?_
  refine s_iconst (v := 1) dX9_init_104 (by decide) ?_
  refine s_isub dX9_init_105 ?_
  refine k_aald (j := 2) (t0 := 5) (xmN hX41 (by simp)) rfl (by decide) rfl rfl (by decide) (by decide) (by decide) (xrN hX41 (by simp)) 36 rfl dX9_init_106 ?_
  refine s_iload_n dX9_init_107 0 rfl rfl ?_
  refine k_call (As := [rV E41 1, rV E41 36, .int ((1 : Int32) + 1)]) (fun F => [(2, .int ((1 : Int32) + 1)), (1, .int (((1 : Int32) + 1) + 1)), (0, rV F 0)]) (fun F => [rV F 75, .int (((((((1 : Int32) + 1) + 1) - (1 : Int32)) * (3 : Int32)) + ((1 : Int32) + 1)) - (1 : Int32)), rV F 12]) rfl rfl (by intro b hb; simp; try omega) if_X0_init_7 hq (xoN hX41) ml_X9_40 rfl (c_X0_init_7 _ E41 (xmN hX41 (by simp)) (xmN hX41 (by simp)) (xmN hX41 (by simp)) (xfN hX41 hf76 (by decide)) (xfN hX41 hf77 (by decide)) (xfN hX41 hf78 (by decide)) (xfN hX41 hf79 (by decide)) s27 ((1 : Int32) + 1)) rfl rfl (Nat.le_of_ble_eq_true rfl) 58 15063 (by decide) (by decide) (Nat.le_of_ble_eq_true rfl) (Nat.le_of_ble_eq_true rfl) dX9_init_108 (fun _ e => ⟨by simp only [rV, xaN e 0 (by decide)], by simp only [rV, xaN e 12 (by decide), xaN e 75 (by decide)]⟩) (fun E42 s28 e42 => ?_)
  have hX42 : Ext E E42 [1, 2, 3, 4, 5, 6, 7, 8, 9, 10, 11, 12, 32, 33, 40, 41, 42, 43, 44, 45, 46, 47, 48, 49, 50, 51, 52, 53, 54, 34, 35, 55, 56, 57, 58, 59, 60, 61, 62, 63, 64, 65, 66, 67, 68, 69, 36, 37, 70, 71, 72, 73, 74, 75, 76, 77, 78, 79] [(1, 2), (1, 3), (1, 4), (1, 5), (0, 0), (6, 0), (6, 6), (6, 7), (6, 8), (0, 1), (0, 2), (0, 3), (32, 0), (32, 3), (11, 0), (40, 0), (40, 1), (40, 3), (40, 4), (40, 5), (40, 6), (12, 0), (45, 0), (45, 1), (45, 3), (45, 4), (45, 5), (45, 6), (12, 1), (50, 0), (50, 1), (50, 3), (50, 4), (50, 5), (50, 6), (12, 2), (34, 0), (34, 3), (11, 1), (55, 0), (55, 1), (55, 3), (55, 4), (55, 5), (55, 6), (12, 3), (60, 0), (60, 1), (60, 3), (60, 4), (60, 5), (60, 6), (12, 4), (65, 0), (65, 1), (65, 3), (65, 4), (65, 5), (65, 6), (12, 5), (36, 0), (36, 3), (11, 2), (70, 0), (70, 1), (70, 3), (70, 4), (70, 5), (70, 6), (12, 6), (75, 0), (75, 1), (75, 3), (75, 4), (75, 5), (75, 6)] := hX41.trans e42
  refine k_ast (b := 75) (j := 7) (t0 := 3) (fun F => [(2, .int ((1 : Int32) + 1)), (1, .int (((1 : Int32) + 1) + 1)), (0, rV F 0)]) (fun F => []) rfl rfl (xoN hX42) (xmN hX42 (by simp)) (xmN hX42 (by simp)) rfl (by decide) rfl rfl rfl rfl (by decide) (by decide) (by decide) rfl rfl dX9_init_111 (fun _ e => ⟨by simp only [rV, xaN e 0 (by simp)], rfl⟩) (fun E43 e43 => ?_)
  have hX43 : Ext E E43 [1, 2, 3, 4, 5, 6, 7, 8, 9, 10, 11, 12, 32, 33, 40, 41, 42, 43, 44, 45, 46, 47, 48, 49, 50, 51, 52, 53, 54, 34, 35, 55, 56, 57, 58, 59, 60, 61, 62, 63, 64, 65, 66, 67, 68, 69, 36, 37, 70, 71, 72, 73, 74, 75, 76, 77, 78, 79] [(1, 2), (1, 3), (1, 4), (1, 5), (0, 0), (6, 0), (6, 6), (6, 7), (6, 8), (0, 1), (0, 2), (0, 3), (32, 0), (32, 3), (11, 0), (40, 0), (40, 1), (40, 3), (40, 4), (40, 5), (40, 6), (12, 0), (45, 0), (45, 1), (45, 3), (45, 4), (45, 5), (45, 6), (12, 1), (50, 0), (50, 1), (50, 3), (50, 4), (50, 5), (50, 6), (12, 2), (34, 0), (34, 3), (11, 1), (55, 0), (55, 1), (55, 3), (55, 4), (55, 5), (55, 6), (12, 3), (60, 0), (60, 1), (60, 3), (60, 4), (60, 5), (60, 6), (12, 4), (65, 0), (65, 1), (65, 3), (65, 4), (65, 5), (65, 6), (12, 5), (36, 0), (36, 3), (11, 2), (70, 0), (70, 1), (70, 3), (70, 4), (70, 5), (70, 6), (12, 6), (75, 0), (75, 1), (75, 3), (75, 4), (75, 5), (75, 6), (12, 7)] := hX42.trans e43
  refine s_iinc [(2, .int (((1 : Int32) + 1) + 1)), (1, .int (((1 : Int32) + 1) + 1)), (0, rV E43 0)] dX9_init_112 0 rfl rfl (by decide) rfl ?_
  refine s_goto 73 dX9_init_115 (by decide) ?_
  refine s_iload_n dX9_init_73 0 rfl rfl ?_
  refine s_iconst (v := 3) dX9_init_74 (by decide) ?_
  refine s_icmp_gtF 118 (by decide) dX9_init_75 (by decide) ?_
  refine s_aload_n dX9_init_78 2 rfl rfl ?_
  refine s_getr (b := 12) gf_X9_33 rfl (xmO hX43 hm0) (show kd 0 = 9 from rfl) (ft_of (show kd 0 = 9 from rfl) rfl) (xrN hX43 (by simp)) rfl dX9_init_79 ?_
  refine s_iload_n dX9_init_82 1 rfl rfl ?_
  refine s_iconst (v := 1) dX9_init_83 (by decide) ?_
  refine s_isub dX9_init_84 ?_
  refine s_iconst (v := 3) dX9_init_85 (by decide) ?_
  refine s_imul dX9_init_86 ?_
  refine s_iload_n dX9_init_87 0 rfl rfl ?_
  refine s_iadd dX9_init_88 ?_
  refine s_iconst (v := 1) dX9_init_89 (by decide) ?_
  refine s_isub dX9_init_90 ?_
  refine k_new (a := 80) (ci := 0) (fun F => [(2, .int (((1 : Int32) + 1) + 1)), (1, .int (((1 : Int32) + 1) + 1)), (0, rV F 0)]) (fun F => [.int (((((((1 : Int32) + 1) + 1) - (1 : Int32)) * (3 : Int32)) + (((1 : Int32) + 1) + 1)) - (1 : Int32)), rV F 12]) rfl rfl hq (xoN hX43) (xfN hX43 hf80 (by decide)) (by decide) rfl rfl inX0 tyX0_ok (dfX0 rfl) rfl w_186 w_210 w_92 59 15071 (by decide) (by decide) (Nat.le_of_ble_eq_true rfl) (Nat.le_of_ble_eq_true rfl) dX9_init_91 (fun _ e => ⟨by simp only [rV, xaN e 0 (by decide)], by simp only [rV, xaN e 12 (by decide)]⟩) (fun E44 s29 e44 => ?_)
  have hX44 : Ext E E44 [1, 2, 3, 4, 5, 6, 7, 8, 9, 10, 11, 12, 32, 33, 40, 41, 42, 43, 44, 45, 46, 47, 48, 49, 50, 51, 52, 53, 54, 34, 35, 55, 56, 57, 58, 59, 60, 61, 62, 63, 64, 65, 66, 67, 68, 69, 36, 37, 70, 71, 72, 73, 74, 75, 76, 77, 78, 79, 80] [(1, 2), (1, 3), (1, 4), (1, 5), (0, 0), (6, 0), (6, 6), (6, 7), (6, 8), (0, 1), (0, 2), (0, 3), (32, 0), (32, 3), (11, 0), (40, 0), (40, 1), (40, 3), (40, 4), (40, 5), (40, 6), (12, 0), (45, 0), (45, 1), (45, 3), (45, 4), (45, 5), (45, 6), (12, 1), (50, 0), (50, 1), (50, 3), (50, 4), (50, 5), (50, 6), (12, 2), (34, 0), (34, 3), (11, 1), (55, 0), (55, 1), (55, 3), (55, 4), (55, 5), (55, 6), (12, 3), (60, 0), (60, 1), (60, 3), (60, 4), (60, 5), (60, 6), (12, 4), (65, 0), (65, 1), (65, 3), (65, 4), (65, 5), (65, 6), (12, 5), (36, 0), (36, 3), (11, 2), (70, 0), (70, 1), (70, 3), (70, 4), (70, 5), (70, 6), (12, 6), (75, 0), (75, 1), (75, 3), (75, 4), (75, 5), (75, 6), (12, 7)] := hX43.trans e44
  refine s_dup dX9_init_94 rfl ?_
  refine s_aload_n dX9_init_95 2 rfl rfl ?_
  refine s_getr (b := 1) gf_X9_14 rfl (xmO hX44 hm0) (show kd 0 = 9 from rfl) (ft_of (show kd 0 = 9 from rfl) rfl) (xrN hX44 (by simp)) rfl dX9_init_96 ?_
  refine s_aload_n dX9_init_99 2 rfl rfl ?_
  refine s_getr (b := 11) gf_X9_27 rfl (xmO hX44 hm0) (show kd 0 = 9 from rfl) (ft_of (show kd 0 = 9 from rfl) rfl) (xrN hX44 (by simp)) rfl dX9_init_100 ?_
  refine s_iload_n dX9_init_103 1 rfl rfl ?_
  refine s_iconst (v := 1) dX9_init_104 (by decide) ?_
  refine s_isub dX9_init_105 ?_
  refine k_aald (j := 2) (t0 := 5) (xmN hX44 (by simp)) rfl (by decide) rfl rfl (by decide) (by decide) (by decide) (xrN hX44 (by simp)) 36 rfl dX9_init_106 ?_
  refine s_iload_n dX9_init_107 0 rfl rfl ?_
  refine k_call (As := [rV E44 1, rV E44 36, .int (((1 : Int32) + 1) + 1)]) (fun F => [(2, .int (((1 : Int32) + 1) + 1)), (1, .int (((1 : Int32) + 1) + 1)), (0, rV F 0)]) (fun F => [rV F 80, .int (((((((1 : Int32) + 1) + 1) - (1 : Int32)) * (3 : Int32)) + (((1 : Int32) + 1) + 1)) - (1 : Int32)), rV F 12]) rfl rfl (by intro b hb; simp; try omega) if_X0_init_8 hq (xoN hX44) ml_X9_40 rfl (c_X0_init_8 _ E44 (xmN hX44 (by simp)) (xmN hX44 (by simp)) (xmN hX44 (by simp)) (xfN hX44 hf81 (by decide)) (xfN hX44 hf82 (by decide)) (xfN hX44 hf83 (by decide)) (xfN hX44 hf84 (by decide)) s29 (((1 : Int32) + 1) + 1)) rfl rfl (Nat.le_of_ble_eq_true rfl) 63 20703 (by decide) (by decide) (Nat.le_of_ble_eq_true rfl) (Nat.le_of_ble_eq_true rfl) dX9_init_108 (fun _ e => ⟨by simp only [rV, xaN e 0 (by decide)], by simp only [rV, xaN e 12 (by decide), xaN e 80 (by decide)]⟩) (fun E45 s30 e45 => ?_)
  have hX45 : Ext E E45 [1, 2, 3, 4, 5, 6, 7, 8, 9, 10, 11, 12, 32, 33, 40, 41, 42, 43, 44, 45, 46, 47, 48, 49, 50, 51, 52, 53, 54, 34, 35, 55, 56, 57, 58, 59, 60, 61, 62, 63, 64, 65, 66, 67, 68, 69, 36, 37, 70, 71, 72, 73, 74, 75, 76, 77, 78, 79, 80, 81, 82, 83, 84] [(1, 2), (1, 3), (1, 4), (1, 5), (0, 0), (6, 0), (6, 6), (6, 7), (6, 8), (0, 1), (0, 2), (0, 3), (32, 0), (32, 3), (11, 0), (40, 0), (40, 1), (40, 3), (40, 4), (40, 5), (40, 6), (12, 0), (45, 0), (45, 1), (45, 3), (45, 4), (45, 5), (45, 6), (12, 1), (50, 0), (50, 1), (50, 3), (50, 4), (50, 5), (50, 6), (12, 2), (34, 0), (34, 3), (11, 1), (55, 0), (55, 1), (55, 3), (55, 4), (55, 5), (55, 6), (12, 3), (60, 0), (60, 1), (60, 3), (60, 4), (60, 5), (60, 6), (12, 4), (65, 0), (65, 1), (65, 3), (65, 4), (65, 5), (65, 6), (12, 5), (36, 0), (36, 3), (11, 2), (70, 0), (70, 1), (70, 3), (70, 4), (70, 5), (70, 6), (12, 6), (75, 0), (75, 1), (75, 3), (75, 4), (75, 5), (75, 6), (12, 7), (80, 0), (80, 1), (80, 3), (80, 4), (80, 5), (80, 6)] := hX44.trans e45
  refine k_ast (b := 80) (j := 8) (t0 := 3) (fun F => [(2, .int (((1 : Int32) + 1) + 1)), (1, .int (((1 : Int32) + 1) + 1)), (0, rV F 0)]) (fun F => []) rfl rfl (xoN hX45) (xmN hX45 (by simp)) (xmN hX45 (by simp)) rfl (by decide) rfl rfl rfl rfl (by decide) (by decide) (by decide) rfl rfl dX9_init_111 (fun _ e => ⟨by simp only [rV, xaN e 0 (by simp)], rfl⟩) (fun E46 e46 => ?_)
  have hX46 : Ext E E46 [1, 2, 3, 4, 5, 6, 7, 8, 9, 10, 11, 12, 32, 33, 40, 41, 42, 43, 44, 45, 46, 47, 48, 49, 50, 51, 52, 53, 54, 34, 35, 55, 56, 57, 58, 59, 60, 61, 62, 63, 64, 65, 66, 67, 68, 69, 36, 37, 70, 71, 72, 73, 74, 75, 76, 77, 78, 79, 80, 81, 82, 83, 84] [(1, 2), (1, 3), (1, 4), (1, 5), (0, 0), (6, 0), (6, 6), (6, 7), (6, 8), (0, 1), (0, 2), (0, 3), (32, 0), (32, 3), (11, 0), (40, 0), (40, 1), (40, 3), (40, 4), (40, 5), (40, 6), (12, 0), (45, 0), (45, 1), (45, 3), (45, 4), (45, 5), (45, 6), (12, 1), (50, 0), (50, 1), (50, 3), (50, 4), (50, 5), (50, 6), (12, 2), (34, 0), (34, 3), (11, 1), (55, 0), (55, 1), (55, 3), (55, 4), (55, 5), (55, 6), (12, 3), (60, 0), (60, 1), (60, 3), (60, 4), (60, 5), (60, 6), (12, 4), (65, 0), (65, 1), (65, 3), (65, 4), (65, 5), (65, 6), (12, 5), (36, 0), (36, 3), (11, 2), (70, 0), (70, 1), (70, 3), (70, 4), (70, 5), (70, 6), (12, 6), (75, 0), (75, 1), (75, 3), (75, 4), (75, 5), (75, 6), (12, 7), (80, 0), (80, 1), (80, 3), (80, 4), (80, 5), (80, 6), (12, 8)] := hX45.trans e46
  refine s_iinc [(2, .int ((((1 : Int32) + 1) + 1) + 1)), (1, .int (((1 : Int32) + 1) + 1)), (0, rV E46 0)] dX9_init_112 0 rfl rfl (by decide) rfl ?_
  refine s_goto 73 dX9_init_115 (by decide) ?_
  refine s_iload_n dX9_init_73 0 rfl rfl ?_
  refine s_iconst (v := 3) dX9_init_74 (by decide) ?_
  refine s_icmp_gtT 118 (by decide) dX9_init_75 (by decide) ?_
  refine s_iinc [(1, .int ((((1 : Int32) + 1) + 1) + 1)), (2, .int ((((1 : Int32) + 1) + 1) + 1)), (0, rV E46 0)] dX9_init_118 1 rfl rfl (by decide) rfl ?_
  refine s_goto 46 dX9_init_121 (by decide) ?_
  refine s_iload_n dX9_init_46 0 rfl rfl ?_
  refine s_iconst (v := 3) dX9_init_47 (by decide) ?_
  refine s_icmp_gtT 124 (by decide) dX9_init_48 (by decide) ?_
  refine s_aload_n dX9_init_124 2 rfl rfl ?_
  refine k_new (a := 13) (ci := 5) (fun F => [(1, .int ((((1 : Int32) + 1) + 1) + 1)), (2, .int ((((1 : Int32) + 1) + 1) + 1)), (0, rV F 0)]) (fun F => [rV F 0]) rfl rfl hq (xoN hX46) (xfN hX46 hf13 (by decide)) (by decide) rfl rfl inX5 tyX5_ok (dfX5 rfl) rfl w_244 w_245 w_93 64 20709 (by decide) (by decide) (Nat.le_of_ble_eq_true rfl) (Nat.le_of_ble_eq_true rfl) dX9_init_125 (fun _ e => ⟨by simp only [rV, xaN e 0 (by decide)], by simp only [rV, xaN e 0 (by decide)]⟩) (fun E47 s31 e47 => ?_)
  have hX47 : Ext E E47 [1, 2, 3, 4, 5, 6, 7, 8, 9, 10, 11, 12, 32, 33, 40, 41, 42, 43, 44, 45, 46, 47, 48, 49, 50, 51, 52, 53, 54, 34, 35, 55, 56, 57, 58, 59, 60, 61, 62, 63, 64, 65, 66, 67, 68, 69, 36, 37, 70, 71, 72, 73, 74, 75, 76, 77, 78, 79, 80, 81, 82, 83, 84, 13] [(1, 2), (1, 3), (1, 4), (1, 5), (0, 0), (6, 0), (6, 6), (6, 7), (6, 8), (0, 1), (0, 2), (0, 3), (32, 0), (32, 3), (11, 0), (40, 0), (40, 1), (40, 3), (40, 4), (40, 5), (40, 6), (12, 0), (45, 0), (45, 1), (45, 3), (45, 4), (45, 5), (45, 6), (12, 1), (50, 0), (50, 1), (50, 3), (50, 4), (50, 5), (50, 6), (12, 2), (34, 0), (34, 3), (11, 1), (55, 0), (55, 1), (55, 3), (55, 4), (55, 5), (55, 6), (12, 3), (60, 0), (60, 1), (60, 3), (60, 4), (60, 5), (60, 6), (12, 4), (65, 0), (65, 1), (65, 3), (65, 4), (65, 5), (65, 6), (12, 5), (36, 0), (36, 3), (11, 2), (70, 0), (70, 1), (70, 3), (70, 4), (70, 5), (70, 6), (12, 6), (75, 0), (75, 1), (75, 3), (75, 4), (75, 5), (75, 6), (12, 7), (80, 0), (80, 1), (80, 3), (80, 4), (80, 5), (80, 6), (12, 8)] := hX46.trans e47
  refine s_dup dX9_init_128 rfl ?_
  refine k_callN (host := "RunnerNet") (As := []) (fun F => [(1, .int ((((1 : Int32) + 1) + 1) + 1)), (2, .int ((((1 : Int32) + 1) + 1) + 1)), (0, rV F 0)]) (fun F => [rV F 13, rV F 0]) rfl rfl (by intro b hb; simp; try omega) if_X5_init hq (xoN hX47) (nl_of 1 rfl) rfl (c_X5_init _ E47 (xmN hX47 (by simp)) s31) rfl rfl (Nat.le_of_ble_eq_true rfl) 64 20709 (by decide) (by decide) (Nat.le_of_ble_eq_true rfl) (Nat.le_of_ble_eq_true rfl) dX9_init_129 (fun _ e => ⟨by simp only [rV, xaN e 0 (by simp)], by simp only [rV, xaN e 0 (by simp), xaN e 13 (by simp)]⟩) (fun E48 s32 e48 => ?_)
  have hX48 : Ext E E48 [1, 2, 3, 4, 5, 6, 7, 8, 9, 10, 11, 12, 32, 33, 40, 41, 42, 43, 44, 45, 46, 47, 48, 49, 50, 51, 52, 53, 54, 34, 35, 55, 56, 57, 58, 59, 60, 61, 62, 63, 64, 65, 66, 67, 68, 69, 36, 37, 70, 71, 72, 73, 74, 75, 76, 77, 78, 79, 80, 81, 82, 83, 84, 13] [(1, 2), (1, 3), (1, 4), (1, 5), (0, 0), (6, 0), (6, 6), (6, 7), (6, 8), (0, 1), (0, 2), (0, 3), (32, 0), (32, 3), (11, 0), (40, 0), (40, 1), (40, 3), (40, 4), (40, 5), (40, 6), (12, 0), (45, 0), (45, 1), (45, 3), (45, 4), (45, 5), (45, 6), (12, 1), (50, 0), (50, 1), (50, 3), (50, 4), (50, 5), (50, 6), (12, 2), (34, 0), (34, 3), (11, 1), (55, 0), (55, 1), (55, 3), (55, 4), (55, 5), (55, 6), (12, 3), (60, 0), (60, 1), (60, 3), (60, 4), (60, 5), (60, 6), (12, 4), (65, 0), (65, 1), (65, 3), (65, 4), (65, 5), (65, 6), (12, 5), (36, 0), (36, 3), (11, 2), (70, 0), (70, 1), (70, 3), (70, 4), (70, 5), (70, 6), (12, 6), (75, 0), (75, 1), (75, 3), (75, 4), (75, 5), (75, 6), (12, 7), (80, 0), (80, 1), (80, 3), (80, 4), (80, 5), (80, 6), (12, 8)] := hX47.trans e48
  refine k_putr (b := 13) (fun F => [(1, .int ((((1 : Int32) + 1) + 1) + 1)), (2, .int ((((1 : Int32) + 1) + 1) + 1)), (0, rV F 0)]) (fun F => []) rfl rfl gc_X9_46 hin rfl (xoN hX48) (xmO hX48 hm0) rfl (xmN hX48 (by simp)) rfl (ft_of rfl rfl) rfl rfl dX9_init_132 (fun _ e => ⟨by simp only [rV, xaN e 0 (by simp)], rfl⟩) (fun E49 e49 => ?_)
  have hX49 : Ext E E49 [1, 2, 3, 4, 5, 6, 7, 8, 9, 10, 11, 12, 32, 33, 40, 41, 42, 43, 44, 45, 46, 47, 48, 49, 50, 51, 52, 53, 54, 34, 35, 55, 56, 57, 58, 59, 60, 61, 62, 63, 64, 65, 66, 67, 68, 69, 36, 37, 70, 71, 72, 73, 74, 75, 76, 77, 78, 79, 80, 81, 82, 83, 84, 13] [(1, 2), (1, 3), (1, 4), (1, 5), (0, 0), (6, 0), (6, 6), (6, 7), (6, 8), (0, 1), (0, 2), (0, 3), (32, 0), (32, 3), (11, 0), (40, 0), (40, 1), (40, 3), (40, 4), (40, 5), (40, 6), (12, 0), (45, 0), (45, 1), (45, 3), (45, 4), (45, 5), (45, 6), (12, 1), (50, 0), (50, 1), (50, 3), (50, 4), (50, 5), (50, 6), (12, 2), (34, 0), (34, 3), (11, 1), (55, 0), (55, 1), (55, 3), (55, 4), (55, 5), (55, 6), (12, 3), (60, 0), (60, 1), (60, 3), (60, 4), (60, 5), (60, 6), (12, 4), (65, 0), (65, 1), (65, 3), (65, 4), (65, 5), (65, 6), (12, 5), (36, 0), (36, 3), (11, 2), (70, 0), (70, 1), (70, 3), (70, 4), (70, 5), (70, 6), (12, 6), (75, 0), (75, 1), (75, 3), (75, 4), (75, 5), (75, 6), (12, 7), (80, 0), (80, 1), (80, 3), (80, 4), (80, 5), (80, 6), (12, 8), (0, 4)] := hX48.trans e49
  refine s_aload_n dX9_init_135 2 rfl rfl ?_
  refine k_new (a := 14) (ci := 8) (fun F => [(1, .int ((((1 : Int32) + 1) + 1) + 1)), (2, .int ((((1 : Int32) + 1) + 1) + 1)), (0, rV F 0)]) (fun F => [rV F 0]) rfl rfl hq (xoN hX49) (xfN hX49 hf14 (by decide)) (by decide) rfl rfl inX8 tyX8_ok (dfX8 rfl) rfl w_269 w_270 w_94 65 20719 (by decide) (by decide) (Nat.le_of_ble_eq_true rfl) (Nat.le_of_ble_eq_true rfl) dX9_init_136 (fun _ e => ⟨by simp only [rV, xaN e 0 (by decide)], by simp only [rV, xaN e 0 (by decide)]⟩) (fun E50 s33 e50 => ?_)
  have hX50 : Ext E E50 [1, 2, 3, 4, 5, 6, 7, 8, 9, 10, 11, 12, 32, 33, 40, 41, 42, 43, 44, 45, 46, 47, 48, 49, 50, 51, 52, 53, 54, 34, 35, 55, 56, 57, 58, 59, 60, 61, 62, 63, 64, 65, 66, 67, 68, 69, 36, 37, 70, 71, 72, 73, 74, 75, 76, 77, 78, 79, 80, 81, 82, 83, 84, 13, 14] [(1, 2), (1, 3), (1, 4), (1, 5), (0, 0), (6, 0), (6, 6), (6, 7), (6, 8), (0, 1), (0, 2), (0, 3), (32, 0), (32, 3), (11, 0), (40, 0), (40, 1), (40, 3), (40, 4), (40, 5), (40, 6), (12, 0), (45, 0), (45, 1), (45, 3), (45, 4), (45, 5), (45, 6), (12, 1), (50, 0), (50, 1), (50, 3), (50, 4), (50, 5), (50, 6), (12, 2), (34, 0), (34, 3), (11, 1), (55, 0), (55, 1), (55, 3), (55, 4), (55, 5), (55, 6), (12, 3), (60, 0), (60, 1), (60, 3), (60, 4), (60, 5), (60, 6), (12, 4), (65, 0), (65, 1), (65, 3), (65, 4), (65, 5), (65, 6), (12, 5), (36, 0), (36, 3), (11, 2), (70, 0), (70, 1), (70, 3), (70, 4), (70, 5), (70, 6), (12, 6), (75, 0), (75, 1), (75, 3), (75, 4), (75, 5), (75, 6), (12, 7), (80, 0), (80, 1), (80, 3), (80, 4), (80, 5), (80, 6), (12, 8), (0, 4)] := hX49.trans e50
  refine s_dup dX9_init_139 rfl ?_
  refine s_aload_n dX9_init_140 2 rfl rfl ?_
  refine s_getr (b := 1) gf_X9_14 rfl (xmO hX50 hm0) (show kd 0 = 9 from rfl) (ft_of (show kd 0 = 9 from rfl) rfl) (xrN hX50 (by simp)) rfl dX9_init_141 ?_
  refine s_aload_n dX9_init_144 2 rfl rfl ?_
  refine s_getr (b := 11) gf_X9_27 rfl (xmO hX50 hm0) (show kd 0 = 9 from rfl) (ft_of (show kd 0 = 9 from rfl) rfl) (xrN hX50 (by simp)) rfl dX9_init_145 ?_
  refine s_iconst (v := 0) dX9_init_148 (by decide) ?_
  refine k_aald (j := 0) (t0 := 5) (xmN hX50 (by simp)) rfl (by decide) rfl rfl (by decide) (by decide) (by decide) (xrN hX50 (by simp)) 32 rfl dX9_init_149 ?_
  refine k_call (As := [rV E50 1, rV E50 32]) (fun F => [(1, .int ((((1 : Int32) + 1) + 1) + 1)), (2, .int ((((1 : Int32) + 1) + 1) + 1)), (0, rV F 0)]) (fun F => [rV F 14, rV F 0]) rfl rfl (by intro b hb; simp; try omega) if_X8_init hq (xoN hX50) ml_X9_52 rfl (c_X8_init _ E50 (xmN hX50 (by simp)) (xmN hX50 (by simp)) (xmN hX50 (by simp)) (xmO hX50 hm0) (xmN hX50 (by simp)) (xmN hX50 (by simp)) (xfN hX50 hf15 (by decide)) (xfN hX50 hf16 (by decide)) (xfN hX50 hf17 (by decide)) s33) rfl rfl (Nat.le_of_ble_eq_true rfl) 68 26863 (by decide) (by decide) (Nat.le_of_ble_eq_true rfl) (Nat.le_of_ble_eq_true rfl) dX9_init_150 (fun _ e => ⟨by simp only [rV, xaN e 0 (by decide)], by simp only [rV, xaN e 0 (by decide), xaN e 14 (by decide)]⟩) (fun E51 s34 e51 => ?_)
  have hX51 : Ext E E51 [1, 2, 3, 4, 5, 6, 7, 8, 9, 10, 11, 12, 32, 33, 40, 41, 42, 43, 44, 45, 46, 47, 48, 49, 50, 51, 52, 53, 54, 34, 35, 55, 56, 57, 58, 59, 60, 61, 62, 63, 64, 65, 66, 67, 68, 69, 36, 37, 70, 71, 72, 73, 74, 75, 76, 77, 78, 79, 80, 81, 82, 83, 84, 13, 14, 15, 16, 17] [(1, 2), (1, 3), (1, 4), (1, 5), (0, 0), (6, 0), (6, 6), (6, 7), (6, 8), (0, 1), (0, 2), (0, 3), (32, 0), (32, 3), (11, 0), (40, 0), (40, 1), (40, 3), (40, 4), (40, 5), (40, 6), (12, 0), (45, 0), (45, 1), (45, 3), (45, 4), (45, 5), (45, 6), (12, 1), (50, 0), (50, 1), (50, 3), (50, 4), (50, 5), (50, 6), (12, 2), (34, 0), (34, 3), (11, 1), (55, 0), (55, 1), (55, 3), (55, 4), (55, 5), (55, 6), (12, 3), (60, 0), (60, 1), (60, 3), (60, 4), (60, 5), (60, 6), (12, 4), (65, 0), (65, 1), (65, 3), (65, 4), (65, 5), (65, 6), (12, 5), (36, 0), (36, 3), (11, 2), (70, 0), (70, 1), (70, 3), (70, 4), (70, 5), (70, 6), (12, 6), (75, 0), (75, 1), (75, 3), (75, 4), (75, 5), (75, 6), (12, 7), (80, 0), (80, 1), (80, 3), (80, 4), (80, 5), (80, 6), (12, 8), (0, 4), (14, 1), (14, 2), (14, 3), (14, 0), (14, 4)] := hX50.trans e51
  refine k_putr (b := 14) (fun F => [(1, .int ((((1 : Int32) + 1) + 1) + 1)), (2, .int ((((1 : Int32) + 1) + 1) + 1)), (0, rV F 0)]) (fun F => []) rfl rfl gc_X9_55 hin rfl (xoN hX51) (xmO hX51 hm0) rfl (xmN hX51 (by simp)) rfl (ft_of rfl rfl) rfl rfl dX9_init_153 (fun _ e => ⟨by simp only [rV, xaN e 0 (by simp)], rfl⟩) (fun E52 e52 => ?_)
  have hX52 : Ext E E52 [1, 2, 3, 4, 5, 6, 7, 8, 9, 10, 11, 12, 32, 33, 40, 41, 42, 43, 44, 45, 46, 47, 48, 49, 50, 51, 52, 53, 54, 34, 35, 55, 56, 57, 58, 59, 60, 61, 62, 63, 64, 65, 66, 67, 68, 69, 36, 37, 70, 71, 72, 73, 74, 75, 76, 77, 78, 79, 80, 81, 82, 83, 84, 13, 14, 15, 16, 17] [(1, 2), (1, 3), (1, 4), (1, 5), (0, 0), (6, 0), (6, 6), (6, 7), (6, 8), (0, 1), (0, 2), (0, 3), (32, 0), (32, 3), (11, 0), (40, 0), (40, 1), (40, 3), (40, 4), (40, 5), (40, 6), (12, 0), (45, 0), (45, 1), (45, 3), (45, 4), (45, 5), (45, 6), (12, 1), (50, 0), (50, 1), (50, 3), (50, 4), (50, 5), (50, 6), (12, 2), (34, 0), (34, 3), (11, 1), (55, 0), (55, 1), (55, 3), (55, 4), (55, 5), (55, 6), (12, 3), (60, 0), (60, 1), (60, 3), (60, 4), (60, 5), (60, 6), (12, 4), (65, 0), (65, 1), (65, 3), (65, 4), (65, 5), (65, 6), (12, 5), (36, 0), (36, 3), (11, 2), (70, 0), (70, 1), (70, 3), (70, 4), (70, 5), (70, 6), (12, 6), (75, 0), (75, 1), (75, 3), (75, 4), (75, 5), (75, 6), (12, 7), (80, 0), (80, 1), (80, 3), (80, 4), (80, 5), (80, 6), (12, 8), (0, 4), (14, 1), (14, 2), (14, 3), (14, 0), (14, 4), (0, 5)] := hX51.trans e52
  refine s_aload_n dX9_init_156 2 rfl rfl ?_
  refine k_new (a := 18) (ci := 4) (fun F => [(1, .int ((((1 : Int32) + 1) + 1) + 1)), (2, .int ((((1 : Int32) + 1) + 1) + 1)), (0, rV F 0)]) (fun F => [rV F 0]) rfl rfl hq (xoN hX52) (xfN hX52 hf18 (by decide)) (by decide) rfl rfl inX4 tyX4_ok (dfX4 rfl) rfl w_306 w_307 w_95 69 26868 (by decide) (by decide) (Nat.le_of_ble_eq_true rfl) (Nat.le_of_ble_eq_true rfl) dX9_init_157 (fun _ e => ⟨by simp only [rV, xaN e 0 (by decide)], by simp only [rV, xaN e 0 (by decide)]⟩) (fun E53 s35 e53 => ?_)
  have hX53 : Ext E E53 [1, 2, 3, 4, 5, 6, 7, 8, 9, 10, 11, 12, 32, 33, 40, 41, 42, 43, 44, 45, 46, 47, 48, 49, 50, 51, 52, 53, 54, 34, 35, 55, 56, 57, 58, 59, 60, 61, 62, 63, 64, 65, 66, 67, 68, 69, 36, 37, 70, 71, 72, 73, 74, 75, 76, 77, 78, 79, 80, 81, 82, 83, 84, 13, 14, 15, 16, 17, 18] [(1, 2), (1, 3), (1, 4), (1, 5), (0, 0), (6, 0), (6, 6), (6, 7), (6, 8), (0, 1), (0, 2), (0, 3), (32, 0), (32, 3), (11, 0), (40, 0), (40, 1), (40, 3), (40, 4), (40, 5), (40, 6), (12, 0), (45, 0), (45, 1), (45, 3), (45, 4), (45, 5), (45, 6), (12, 1), (50, 0), (50, 1), (50, 3), (50, 4), (50, 5), (50, 6), (12, 2), (34, 0), (34, 3), (11, 1), (55, 0), (55, 1), (55, 3), (55, 4), (55, 5), (55, 6), (12, 3), (60, 0), (60, 1), (60, 3), (60, 4), (60, 5), (60, 6), (12, 4), (65, 0), (65, 1), (65, 3), (65, 4), (65, 5), (65, 6), (12, 5), (36, 0), (36, 3), (11, 2), (70, 0), (70, 1), (70, 3), (70, 4), (70, 5), (70, 6), (12, 6), (75, 0), (75, 1), (75, 3), (75, 4), (75, 5), (75, 6), (12, 7), (80, 0), (80, 1), (80, 3), (80, 4), (80, 5), (80, 6), (12, 8), (0, 4), (14, 1), (14, 2), (14, 3), (14, 0), (14, 4), (0, 5)] := hX52.trans e53
  refine s_dup dX9_init_160 rfl ?_
  refine s_aload_n dX9_init_161 2 rfl rfl ?_
  refine s_getr (b := 1) gf_X9_14 rfl (xmO hX53 hm0) (show kd 0 = 9 from rfl) (ft_of (show kd 0 = 9 from rfl) rfl) (xrN hX53 (by simp)) rfl dX9_init_162 ?_
  refine s_iconst (v := 0) dX9_init_165 (by decide) ?_
  refine k_call (As := [rV E53 1, .int (0 : Int32)]) (fun F => [(1, .int ((((1 : Int32) + 1) + 1) + 1)), (2, .int ((((1 : Int32) + 1) + 1) + 1)), (0, rV F 0)]) (fun F => [rV F 18, rV F 0]) rfl rfl (by intro b hb; simp; try omega) if_X4_init_0 hq (xoN hX53) ml_X9_61 rfl (c_X4_init_0 _ E53 (xmN hX53 (by simp)) (xmN hX53 (by simp)) (xfN hX53 hf19 (by decide)) (xfN hX53 hf20 (by decide)) s35 (0 : Int32)) rfl rfl (Nat.le_of_ble_eq_true rfl) 71 27132 (by decide) (by decide) (Nat.le_of_ble_eq_true rfl) (Nat.le_of_ble_eq_true rfl) dX9_init_166 (fun _ e => ⟨by simp only [rV, xaN e 0 (by decide)], by simp only [rV, xaN e 0 (by decide), xaN e 18 (by decide)]⟩) (fun E54 s36 e54 => ?_)
  have hX54 : Ext E E54 [1, 2, 3, 4, 5, 6, 7, 8, 9, 10, 11, 12, 32, 33, 40, 41, 42, 43, 44, 45, 46, 47, 48, 49, 50, 51, 52, 53, 54, 34, 35, 55, 56, 57, 58, 59, 60, 61, 62, 63, 64, 65, 66, 67, 68, 69, 36, 37, 70, 71, 72, 73, 74, 75, 76, 77, 78, 79, 80, 81, 82, 83, 84, 13, 14, 15, 16, 17, 18, 19, 20] [(1, 2), (1, 3), (1, 4), (1, 5), (0, 0), (6, 0), (6, 6), (6, 7), (6, 8), (0, 1), (0, 2), (0, 3), (32, 0), (32, 3), (11, 0), (40, 0), (40, 1), (40, 3), (40, 4), (40, 5), (40, 6), (12, 0), (45, 0), (45, 1), (45, 3), (45, 4), (45, 5), (45, 6), (12, 1), (50, 0), (50, 1), (50, 3), (50, 4), (50, 5), (50, 6), (12, 2), (34, 0), (34, 3), (11, 1), (55, 0), (55, 1), (55, 3), (55, 4), (55, 5), (55, 6), (12, 3), (60, 0), (60, 1), (60, 3), (60, 4), (60, 5), (60, 6), (12, 4), (65, 0), (65, 1), (65, 3), (65, 4), (65, 5), (65, 6), (12, 5), (36, 0), (36, 3), (11, 2), (70, 0), (70, 1), (70, 3), (70, 4), (70, 5), (70, 6), (12, 6), (75, 0), (75, 1), (75, 3), (75, 4), (75, 5), (75, 6), (12, 7), (80, 0), (80, 1), (80, 3), (80, 4), (80, 5), (80, 6), (12, 8), (0, 4), (14, 1), (14, 2), (14, 3), (14, 0), (14, 4), (0, 5), (18, 2), (18, 3), (18, 0)] := hX53.trans e54
  refine k_putr (b := 18) (fun F => [(1, .int ((((1 : Int32) + 1) + 1) + 1)), (2, .int ((((1 : Int32) + 1) + 1) + 1)), (0, rV F 0)]) (fun F => []) rfl rfl gc_X9_64 hin rfl (xoN hX54) (xmO hX54 hm0) rfl (xmN hX54 (by simp)) rfl (ft_of rfl rfl) rfl rfl dX9_init_169 (fun _ e => ⟨by simp only [rV, xaN e 0 (by simp)], rfl⟩) (fun E55 e55 => ?_)
  have hX55 : Ext E E55 [1, 2, 3, 4, 5, 6, 7, 8, 9, 10, 11, 12, 32, 33, 40, 41, 42, 43, 44, 45, 46, 47, 48, 49, 50, 51, 52, 53, 54, 34, 35, 55, 56, 57, 58, 59, 60, 61, 62, 63, 64, 65, 66, 67, 68, 69, 36, 37, 70, 71, 72, 73, 74, 75, 76, 77, 78, 79, 80, 81, 82, 83, 84, 13, 14, 15, 16, 17, 18, 19, 20] [(1, 2), (1, 3), (1, 4), (1, 5), (0, 0), (6, 0), (6, 6), (6, 7), (6, 8), (0, 1), (0, 2), (0, 3), (32, 0), (32, 3), (11, 0), (40, 0), (40, 1), (40, 3), (40, 4), (40, 5), (40, 6), (12, 0), (45, 0), (45, 1), (45, 3), (45, 4), (45, 5), (45, 6), (12, 1), (50, 0), (50, 1), (50, 3), (50, 4), (50, 5), (50, 6), (12, 2), (34, 0), (34, 3), (11, 1), (55, 0), (55, 1), (55, 3), (55, 4), (55, 5), (55, 6), (12, 3), (60, 0), (60, 1), (60, 3), (60, 4), (60, 5), (60, 6), (12, 4), (65, 0), (65, 1), (65, 3), (65, 4), (65, 5), (65, 6), (12, 5), (36, 0), (36, 3), (11, 2), (70, 0), (70, 1), (70, 3), (70, 4), (70, 5), (70, 6), (12, 6), (75, 0), (75, 1), (75, 3), (75, 4), (75, 5), (75, 6), (12, 7), (80, 0), (80, 1), (80, 3), (80, 4), (80, 5), (80, 6), (12, 8), (0, 4), (14, 1), (14, 2), (14, 3), (14, 0), (14, 4), (0, 5), (18, 2), (18, 3), (18, 0), (0, 6)] := hX54.trans e55
  refine s_aload_n dX9_init_172 2 rfl rfl ?_
  refine k_new (a := 21) (ci := 4) (fun F => [(1, .int ((((1 : Int32) + 1) + 1) + 1)), (2, .int ((((1 : Int32) + 1) + 1) + 1)), (0, rV F 0)]) (fun F => [rV F 0]) rfl rfl hq (xoN hX55) (xfN hX55 hf21 (by decide)) (by decide) rfl rfl inX4 tyX4_ok (dfX4 rfl) rfl w_306 w_307 w_95 72 27137 (by decide) (by decide) (Nat.le_of_ble_eq_true rfl) (Nat.le_of_ble_eq_true rfl) dX9_init_173 (fun _ e => ⟨by simp only [rV, xaN e 0 (by decide)], by simp only [rV, xaN e 0 (by decide)]⟩) (fun E56 s37 e56 => ?_)
  have hX56 : Ext E E56 [1, 2, 3, 4, 5, 6, 7, 8, 9, 10, 11, 12, 32, 33, 40, 41, 42, 43, 44, 45, 46, 47, 48, 49, 50, 51, 52, 53, 54, 34, 35, 55, 56, 57, 58, 59, 60, 61, 62, 63, 64, 65, 66, 67, 68, 69, 36, 37, 70, 71, 72, 73, 74, 75, 76, 77, 78, 79, 80, 81, 82, 83, 84, 13, 14, 15, 16, 17, 18, 19, 20, 21] [(1, 2), (1, 3), (1, 4), (1, 5), (0, 0), (6, 0), (6, 6), (6, 7), (6, 8), (0, 1), (0, 2), (0, 3), (32, 0), (32, 3), (11, 0), (40, 0), (40, 1), (40, 3), (40, 4), (40, 5), (40, 6), (12, 0), (45, 0), (45, 1), (45, 3), (45, 4), (45, 5), (45, 6), (12, 1), (50, 0), (50, 1), (50, 3), (50, 4), (50, 5), (50, 6), (12, 2), (34, 0), (34, 3), (11, 1), (55, 0), (55, 1), (55, 3), (55, 4), (55, 5), (55, 6), (12, 3), (60, 0), (60, 1), (60, 3), (60, 4), (60, 5), (60, 6), (12, 4), (65, 0), (65, 1), (65, 3), (65, 4), (65, 5), (65, 6), (12, 5), (36, 0), (36, 3), (11, 2), (70, 0), (70, 1), (70, 3), (70, 4), (70, 5), (70, 6), (12, 6), (75, 0), (75, 1), (75, 3), (75, 4), (75, 5), (75, 6), (12, 7), (80, 0), (80, 1), (80, 3), (80, 4), (80, 5), (80, 6), (12, 8), (0, 4), (14, 1), (14, 2), (14, 3), (14, 0), (14, 4), (0, 5), (18, 2), (18, 3), (18, 0), (0, 6)] := hX55.trans e56
  refine s_dup dX9_init_176 rfl ?_
  refine s_aload_n dX9_init_177 2 rfl rfl ?_
  refine s_getr (b := 1) gf_X9_14 rfl (xmO hX56 hm0) (show kd 0 = 9 from rfl) (ft_of (show kd 0 = 9 from rfl) rfl) (xrN hX56 (by simp)) rfl dX9_init_178 ?_
  refine s_iconst (v := 1) dX9_init_181 (by decide) ?_
  refine k_call (As := [rV E56 1, .int (1 : Int32)]) (fun F => [(1, .int ((((1 : Int32) + 1) + 1) + 1)), (2, .int ((((1 : Int32) + 1) + 1) + 1)), (0, rV F 0)]) (fun F => [rV F 21, rV F 0]) rfl rfl (by intro b hb; simp; try omega) if_X4_init_1 hq (xoN hX56) ml_X9_61 rfl (c_X4_init_1 _ E56 (xmN hX56 (by simp)) (xmN hX56 (by simp)) (xfN hX56 hf22 (by decide)) (xfN hX56 hf23 (by decide)) s37 (1 : Int32)) rfl rfl (Nat.le_of_ble_eq_true rfl) 74 27401 (by decide) (by decide) (Nat.le_of_ble_eq_true rfl) (Nat.le_of_ble_eq_true rfl) dX9_init_182 (fun _ e => ⟨by simp only [rV, xaN e 0 (by decide)], by simp only [rV, xaN e 0 (by decide), xaN e 21 (by decide)]⟩) (fun E57 s38 e57 => ?_)
  have hX57 : Ext E E57 [1, 2, 3, 4, 5, 6, 7, 8, 9, 10, 11, 12, 32, 33, 40, 41, 42, 43, 44, 45, 46, 47, 48, 49, 50, 51, 52, 53, 54, 34, 35, 55, 56, 57, 58, 59, 60, 61, 62, 63, 64, 65, 66, 67, 68, 69, 36, 37, 70, 71, 72, 73, 74, 75, 76, 77, 78, 79, 80, 81, 82, 83, 84, 13, 14, 15, 16, 17, 18, 19, 20, 21, 22, 23] [(1, 2), (1, 3), (1, 4), (1, 5), (0, 0), (6, 0), (6, 6), (6, 7), (6, 8), (0, 1), (0, 2), (0, 3), (32, 0), (32, 3), (11, 0), (40, 0), (40, 1), (40, 3), (40, 4), (40, 5), (40, 6), (12, 0), (45, 0), (45, 1), (45, 3), (45, 4), (45, 5), (45, 6), (12, 1), (50, 0), (50, 1), (50, 3), (50, 4), (50, 5), (50, 6), (12, 2), (34, 0), (34, 3), (11, 1), (55, 0), (55, 1), (55, 3), (55, 4), (55, 5), (55, 6), (12, 3), (60, 0), (60, 1), (60, 3), (60, 4), (60, 5), (60, 6), (12, 4), (65, 0), (65, 1), (65, 3), (65, 4), (65, 5), (65, 6), (12, 5), (36, 0), (36, 3), (11, 2), (70, 0), (70, 1), (70, 3), (70, 4), (70, 5), (70, 6), (12, 6), (75, 0), (75, 1), (75, 3), (75, 4), (75, 5), (75, 6), (12, 7), (80, 0), (80, 1), (80, 3), (80, 4), (80, 5), (80, 6), (12, 8), (0, 4), (14, 1), (14, 2), (14, 3), (14, 0), (14, 4), (0, 5), (18, 2), (18, 3), (18, 0), (0, 6), (21, 2), (21, 3), (21, 0)] := hX56.trans e57
  refine k_putr (b := 21) (fun F => [(1, .int ((((1 : Int32) + 1) + 1) + 1)), (2, .int ((((1 : Int32) + 1) + 1) + 1)), (0, rV F 0)]) (fun F => []) rfl rfl gc_X9_68 hin rfl (xoN hX57) (xmO hX57 hm0) rfl (xmN hX57 (by simp)) rfl (ft_of rfl rfl) rfl rfl dX9_init_185 (fun _ e => ⟨by simp only [rV, xaN e 0 (by simp)], rfl⟩) (fun E58 e58 => ?_)
  have hX58 : Ext E E58 [1, 2, 3, 4, 5, 6, 7, 8, 9, 10, 11, 12, 32, 33, 40, 41, 42, 43, 44, 45, 46, 47, 48, 49, 50, 51, 52, 53, 54, 34, 35, 55, 56, 57, 58, 59, 60, 61, 62, 63, 64, 65, 66, 67, 68, 69, 36, 37, 70, 71, 72, 73, 74, 75, 76, 77, 78, 79, 80, 81, 82, 83, 84, 13, 14, 15, 16, 17, 18, 19, 20, 21, 22, 23] [(1, 2), (1, 3), (1, 4), (1, 5), (0, 0), (6, 0), (6, 6), (6, 7), (6, 8), (0, 1), (0, 2), (0, 3), (32, 0), (32, 3), (11, 0), (40, 0), (40, 1), (40, 3), (40, 4), (40, 5), (40, 6), (12, 0), (45, 0), (45, 1), (45, 3), (45, 4), (45, 5), (45, 6), (12, 1), (50, 0), (50, 1), (50, 3), (50, 4), (50, 5), (50, 6), (12, 2), (34, 0), (34, 3), (11, 1), (55, 0), (55, 1), (55, 3), (55, 4), (55, 5), (55, 6), (12, 3), (60, 0), (60, 1), (60, 3), (60, 4), (60, 5), (60, 6), (12, 4), (65, 0), (65, 1), (65, 3), (65, 4), (65, 5), (65, 6), (12, 5), (36, 0), (36, 3), (11, 2), (70, 0), (70, 1), (70, 3), (70, 4), (70, 5), (70, 6), (12, 6), (75, 0), (75, 1), (75, 3), (75, 4), (75, 5), (75, 6), (12, 7), (80, 0), (80, 1), (80, 3), (80, 4), (80, 5), (80, 6), (12, 8), (0, 4), (14, 1), (14, 2), (14, 3), (14, 0), (14, 4), (0, 5), (18, 2), (18, 3), (18, 0), (0, 6), (21, 2), (21, 3), (21, 0), (0, 7)] := hX57.trans e58
  refine s_aload_n dX9_init_188 2 rfl rfl ?_
  refine k_new (a := 24) (ci := 1) (fun F => [(1, .int ((((1 : Int32) + 1) + 1) + 1)), (2, .int ((((1 : Int32) + 1) + 1) + 1)), (0, rV F 0)]) (fun F => [rV F 0]) rfl rfl hq (xoN hX58) (xfN hX58 hf24 (by decide)) (by decide) rfl rfl inX1 tyX1_ok (dfX1 rfl) rfl w_328 w_329 w_96 75 27402 (by decide) (by decide) (Nat.le_of_ble_eq_true rfl) (Nat.le_of_ble_eq_true rfl) dX9_init_189 (fun _ e => ⟨by simp only [rV, xaN e 0 (by decide)], by simp only [rV, xaN e 0 (by decide)]⟩) (fun E59 s39 e59 => ?_)
  have hX59 : Ext E E59 [1, 2, 3, 4, 5, 6, 7, 8, 9, 10, 11, 12, 32, 33, 40, 41, 42, 43, 44, 45, 46, 47, 48, 49, 50, 51, 52, 53, 54, 34, 35, 55, 56, 57, 58, 59, 60, 61, 62, 63, 64, 65, 66, 67, 68, 69, 36, 37, 70, 71, 72, 73, 74, 75, 76, 77, 78, 79, 80, 81, 82, 83, 84, 13, 14, 15, 16, 17, 18, 19, 20, 21, 22, 23, 24] [(1, 2), (1, 3), (1, 4), (1, 5), (0, 0), (6, 0), (6, 6), (6, 7), (6, 8), (0, 1), (0, 2), (0, 3), (32, 0), (32, 3), (11, 0), (40, 0), (40, 1), (40, 3), (40, 4), (40, 5), (40, 6), (12, 0), (45, 0), (45, 1), (45, 3), (45, 4), (45, 5), (45, 6), (12, 1), (50, 0), (50, 1), (50, 3), (50, 4), (50, 5), (50, 6), (12, 2), (34, 0), (34, 3), (11, 1), (55, 0), (55, 1), (55, 3), (55, 4), (55, 5), (55, 6), (12, 3), (60, 0), (60, 1), (60, 3), (60, 4), (60, 5), (60, 6), (12, 4), (65, 0), (65, 1), (65, 3), (65, 4), (65, 5), (65, 6), (12, 5), (36, 0), (36, 3), (11, 2), (70, 0), (70, 1), (70, 3), (70, 4), (70, 5), (70, 6), (12, 6), (75, 0), (75, 1), (75, 3), (75, 4), (75, 5), (75, 6), (12, 7), (80, 0), (80, 1), (80, 3), (80, 4), (80, 5), (80, 6), (12, 8), (0, 4), (14, 1), (14, 2), (14, 3), (14, 0), (14, 4), (0, 5), (18, 2), (18, 3), (18, 0), (0, 6), (21, 2), (21, 3), (21, 0), (0, 7)] := hX58.trans e59
  refine s_dup dX9_init_192 rfl ?_
  refine s_aload_n dX9_init_193 2 rfl rfl ?_
  refine s_getr (b := 1) gf_X9_14 rfl (xmO hX59 hm0) (show kd 0 = 9 from rfl) (ft_of (show kd 0 = 9 from rfl) rfl) (xrN hX59 (by simp)) rfl dX9_init_194 ?_
  refine k_call (As := [rV E59 1]) (fun F => [(1, .int ((((1 : Int32) + 1) + 1) + 1)), (2, .int ((((1 : Int32) + 1) + 1) + 1)), (0, rV F 0)]) (fun F => [rV F 24, rV F 0]) rfl rfl (by intro b hb; simp; try omega) if_X1_init hq (xoN hX59) ml_X9_73 rfl (c_X1_init _ E59 (xmN hX59 (by simp)) (xmN hX59 (by simp)) s39) rfl rfl (Nat.le_of_ble_eq_true rfl) 75 27402 (by decide) (by decide) (Nat.le_of_ble_eq_true rfl) (Nat.le_of_ble_eq_true rfl) dX9_init_197 (fun _ e => ⟨by simp only [rV, xaN e 0 (by simp)], by simp only [rV, xaN e 0 (by simp), xaN e 24 (by simp)]⟩) (fun E60 s40 e60 => ?_)
  have hX60 : Ext E E60 [1, 2, 3, 4, 5, 6, 7, 8, 9, 10, 11, 12, 32, 33, 40, 41, 42, 43, 44, 45, 46, 47, 48, 49, 50, 51, 52, 53, 54, 34, 35, 55, 56, 57, 58, 59, 60, 61, 62, 63, 64, 65, 66, 67, 68, 69, 36, 37, 70, 71, 72, 73, 74, 75, 76, 77, 78, 79, 80, 81, 82, 83, 84, 13, 14, 15, 16, 17, 18, 19, 20, 21, 22, 23, 24] [(1, 2), (1, 3), (1, 4), (1, 5), (0, 0), (6, 0), (6, 6), (6, 7), (6, 8), (0, 1), (0, 2), (0, 3), (32, 0), (32, 3), (11, 0), (40, 0), (40, 1), (40, 3), (40, 4), (40, 5), (40, 6), (12, 0), (45, 0), (45, 1), (45, 3), (45, 4), (45, 5), (45, 6), (12, 1), (50, 0), (50, 1), (50, 3), (50, 4), (50, 5), (50, 6), (12, 2), (34, 0), (34, 3), (11, 1), (55, 0), (55, 1), (55, 3), (55, 4), (55, 5), (55, 6), (12, 3), (60, 0), (60, 1), (60, 3), (60, 4), (60, 5), (60, 6), (12, 4), (65, 0), (65, 1), (65, 3), (65, 4), (65, 5), (65, 6), (12, 5), (36, 0), (36, 3), (11, 2), (70, 0), (70, 1), (70, 3), (70, 4), (70, 5), (70, 6), (12, 6), (75, 0), (75, 1), (75, 3), (75, 4), (75, 5), (75, 6), (12, 7), (80, 0), (80, 1), (80, 3), (80, 4), (80, 5), (80, 6), (12, 8), (0, 4), (14, 1), (14, 2), (14, 3), (14, 0), (14, 4), (0, 5), (18, 2), (18, 3), (18, 0), (0, 6), (21, 2), (21, 3), (21, 0), (0, 7), (24, 0)] := hX59.trans e60
  refine k_putr (b := 24) (fun F => [(1, .int ((((1 : Int32) + 1) + 1) + 1)), (2, .int ((((1 : Int32) + 1) + 1) + 1)), (0, rV F 0)]) (fun F => []) rfl rfl gc_X9_76 hin rfl (xoN hX60) (xmO hX60 hm0) rfl (xmN hX60 (by simp)) rfl (ft_of rfl rfl) rfl rfl dX9_init_200 (fun _ e => ⟨by simp only [rV, xaN e 0 (by simp)], rfl⟩) (fun E61 e61 => ?_)
  have hX61 : Ext E E61 [1, 2, 3, 4, 5, 6, 7, 8, 9, 10, 11, 12, 32, 33, 40, 41, 42, 43, 44, 45, 46, 47, 48, 49, 50, 51, 52, 53, 54, 34, 35, 55, 56, 57, 58, 59, 60, 61, 62, 63, 64, 65, 66, 67, 68, 69, 36, 37, 70, 71, 72, 73, 74, 75, 76, 77, 78, 79, 80, 81, 82, 83, 84, 13, 14, 15, 16, 17, 18, 19, 20, 21, 22, 23, 24] [(1, 2), (1, 3), (1, 4), (1, 5), (0, 0), (6, 0), (6, 6), (6, 7), (6, 8), (0, 1), (0, 2), (0, 3), (32, 0), (32, 3), (11, 0), (40, 0), (40, 1), (40, 3), (40, 4), (40, 5), (40, 6), (12, 0), (45, 0), (45, 1), (45, 3), (45, 4), (45, 5), (45, 6), (12, 1), (50, 0), (50, 1), (50, 3), (50, 4), (50, 5), (50, 6), (12, 2), (34, 0), (34, 3), (11, 1), (55, 0), (55, 1), (55, 3), (55, 4), (55, 5), (55, 6), (12, 3), (60, 0), (60, 1), (60, 3), (60, 4), (60, 5), (60, 6), (12, 4), (65, 0), (65, 1), (65, 3), (65, 4), (65, 5), (65, 6), (12, 5), (36, 0), (36, 3), (11, 2), (70, 0), (70, 1), (70, 3), (70, 4), (70, 5), (70, 6), (12, 6), (75, 0), (75, 1), (75, 3), (75, 4), (75, 5), (75, 6), (12, 7), (80, 0), (80, 1), (80, 3), (80, 4), (80, 5), (80, 6), (12, 8), (0, 4), (14, 1), (14, 2), (14, 3), (14, 0), (14, 4), (0, 5), (18, 2), (18, 3), (18, 0), (0, 6), (21, 2), (21, 3), (21, 0), (0, 7), (24, 0), (0, 8)] := hX60.trans e61
  refine s_aload_n dX9_init_203 2 rfl rfl ?_
  refine s_iconst (v := 2) dX9_init_204 (by decide) ?_
  refine k_newq (a := 25) (C := "RunnerNet$Guards") (t0 := 4) (fun F => [(1, .int ((((1 : Int32) + 1) + 1) + 1)), (2, .int ((((1 : Int32) + 1) + 1) + 1)), (0, rV F 0)]) (fun F => [rV F 0]) rfl rfl hq (xoN hX61) (xfN hX61 hf25 (by decide)) (by decide) rfl (by decide) rfl (fun C => C.2.2.2.2.2.2.2.2.2.2.2.2.2.2.2.2) rfl w_338 (by decide) (by decide) (by decide) 76 27404 (by decide) (show 27402 + ln 25 = 27404 from by decide) (Nat.le_of_ble_eq_true rfl) (Nat.le_of_ble_eq_true rfl) dX9_init_205 (fun _ e => ⟨by simp only [rV, xaN e 0 (by decide)], by simp only [rV, xaN e 0 (by decide)]⟩) (fun E62 s41 e62 => ?_)
  have hX62 : Ext E E62 [1, 2, 3, 4, 5, 6, 7, 8, 9, 10, 11, 12, 32, 33, 40, 41, 42, 43, 44, 45, 46, 47, 48, 49, 50, 51, 52, 53, 54, 34, 35, 55, 56, 57, 58, 59, 60, 61, 62, 63, 64, 65, 66, 67, 68, 69, 36, 37, 70, 71, 72, 73, 74, 75, 76, 77, 78, 79, 80, 81, 82, 83, 84, 13, 14, 15, 16, 17, 18, 19, 20, 21, 22, 23, 24, 25] [(1, 2), (1, 3), (1, 4), (1, 5), (0, 0), (6, 0), (6, 6), (6, 7), (6, 8), (0, 1), (0, 2), (0, 3), (32, 0), (32, 3), (11, 0), (40, 0), (40, 1), (40, 3), (40, 4), (40, 5), (40, 6), (12, 0), (45, 0), (45, 1), (45, 3), (45, 4), (45, 5), (45, 6), (12, 1), (50, 0), (50, 1), (50, 3), (50, 4), (50, 5), (50, 6), (12, 2), (34, 0), (34, 3), (11, 1), (55, 0), (55, 1), (55, 3), (55, 4), (55, 5), (55, 6), (12, 3), (60, 0), (60, 1), (60, 3), (60, 4), (60, 5), (60, 6), (12, 4), (65, 0), (65, 1), (65, 3), (65, 4), (65, 5), (65, 6), (12, 5), (36, 0), (36, 3), (11, 2), (70, 0), (70, 1), (70, 3), (70, 4), (70, 5), (70, 6), (12, 6), (75, 0), (75, 1), (75, 3), (75, 4), (75, 5), (75, 6), (12, 7), (80, 0), (80, 1), (80, 3), (80, 4), (80, 5), (80, 6), (12, 8), (0, 4), (14, 1), (14, 2), (14, 3), (14, 0), (14, 4), (0, 5), (18, 2), (18, 3), (18, 0), (0, 6), (21, 2), (21, 3), (21, 0), (0, 7), (24, 0), (0, 8)] := hX61.trans e62
  refine s_dup dX9_init_208 rfl ?_
  refine s_iconst (v := 0) dX9_init_209 (by decide) ?_
  refine k_new (a := 26) (ci := 2) (fun F => [(1, .int ((((1 : Int32) + 1) + 1) + 1)), (2, .int ((((1 : Int32) + 1) + 1) + 1)), (0, rV F 0)]) (fun F => [.int (0 : Int32), rV F 25, rV F 25, rV F 0]) rfl rfl hq (xoN hX62) (xfN hX62 hf26 (by decide)) (by decide) rfl rfl inX2 tyX2_ok (dfX2 rfl) rfl w_338 w_340 w_97 77 27409 (by decide) (by decide) (Nat.le_of_ble_eq_true rfl) (Nat.le_of_ble_eq_true rfl) dX9_init_210 (fun _ e => ⟨by simp only [rV, xaN e 0 (by decide)], by simp only [rV, xaN e 0 (by decide), xaN e 25 (by decide)]⟩) (fun E63 s42 e63 => ?_)
  have hX63 : Ext E E63 [1, 2, 3, 4, 5, 6, 7, 8, 9, 10, 11, 12, 32, 33, 40, 41, 42, 43, 44, 45, 46, 47, 48, 49, 50, 51, 52, 53, 54, 34, 35, 55, 56, 57, 58, 59, 60, 61, 62, 63, 64, 65, 66, 67, 68, 69, 36, 37, 70, 71, 72, 73, 74, 75, 76, 77, 78, 79, 80, 81, 82, 83, 84, 13, 14, 15, 16, 17, 18, 19, 20, 21, 22, 23, 24, 25, 26] [(1, 2), (1, 3), (1, 4), (1, 5), (0, 0), (6, 0), (6, 6), (6, 7), (6, 8), (0, 1), (0, 2), (0, 3), (32, 0), (32, 3), (11, 0), (40, 0), (40, 1), (40, 3), (40, 4), (40, 5), (40, 6), (12, 0), (45, 0), (45, 1), (45, 3), (45, 4), (45, 5), (45, 6), (12, 1), (50, 0), (50, 1), (50, 3), (50, 4), (50, 5), (50, 6), (12, 2), (34, 0), (34, 3), (11, 1), (55, 0), (55, 1), (55, 3), (55, 4), (55, 5), (55, 6), (12, 3), (60, 0), (60, 1), (60, 3), (60, 4), (60, 5), (60, 6), (12, 4), (65, 0), (65, 1), (65, 3), (65, 4), (65, 5), (65, 6), (12, 5), (36, 0), (36, 3), (11, 2), (70, 0), (70, 1), (70, 3), (70, 4), (70, 5), (70, 6), (12, 6), (75, 0), (75, 1), (75, 3), (75, 4), (75, 5), (75, 6), (12, 7), (80, 0), (80, 1), (80, 3), (80, 4), (80, 5), (80, 6), (12, 8), (0, 4), (14, 1), (14, 2), (14, 3), (14, 0), (14, 4), (0, 5), (18, 2), (18, 3), (18, 0), (0, 6), (21, 2), (21, 3), (21, 0), (0, 7), (24, 0), (0, 8)] := hX62.trans e63
  refine s_dup dX9_init_213 rfl ?_
  refine s_aload_n dX9_init_214 2 rfl rfl ?_
  refine s_getr (b := 1) gf_X9_14 rfl (xmO hX63 hm0) (show kd 0 = 9 from rfl) (ft_of (show kd 0 = 9 from rfl) rfl) (xrN hX63 (by simp)) rfl dX9_init_215 ?_
  refine s_iconst (v := 0) dX9_init_218 (by decide) ?_
  refine k_call (As := [rV E63 1, .int (0 : Int32)]) (fun F => [(1, .int ((((1 : Int32) + 1) + 1) + 1)), (2, .int ((((1 : Int32) + 1) + 1) + 1)), (0, rV F 0)]) (fun F => [rV F 26, .int (0 : Int32), rV F 25, rV F 25, rV F 0]) rfl rfl (by intro b hb; simp; try omega) if_X2_init_0 hq (xoN hX63) ml_X9_82 rfl (c_X2_init_0 _ E63 (xmN hX63 (by simp)) (xmN hX63 (by simp)) (xfN hX63 hf27 (by decide)) (xfN hX63 hf28 (by decide)) s42 (0 : Int32)) rfl rfl (Nat.le_of_ble_eq_true rfl) 79 28437 (by decide) (by decide) (Nat.le_of_ble_eq_true rfl) (Nat.le_of_ble_eq_true rfl) dX9_init_219 (fun _ e => ⟨by simp only [rV, xaN e 0 (by decide)], by simp only [rV, xaN e 0 (by decide), xaN e 25 (by decide), xaN e 26 (by decide)]⟩) (fun E64 s43 e64 => ?_)
  have hX64 : Ext E E64 [1, 2, 3, 4, 5, 6, 7, 8, 9, 10, 11, 12, 32, 33, 40, 41, 42, 43, 44, 45, 46, 47, 48, 49, 50, 51, 52, 53, 54, 34, 35, 55, 56, 57, 58, 59, 60, 61, 62, 63, 64, 65, 66, 67, 68, 69, 36, 37, 70, 71, 72, 73, 74, 75, 76, 77, 78, 79, 80, 81, 82, 83, 84, 13, 14, 15, 16, 17, 18, 19, 20, 21, 22, 23, 24, 25, 26, 27, 28] [(1, 2), (1, 3), (1, 4), (1, 5), (0, 0), (6, 0), (6, 6), (6, 7), (6, 8), (0, 1), (0, 2), (0, 3), (32, 0), (32, 3), (11, 0), (40, 0), (40, 1), (40, 3), (40, 4), (40, 5), (40, 6), (12, 0), (45, 0), (45, 1), (45, 3), (45, 4), (45, 5), (45, 6), (12, 1), (50, 0), (50, 1), (50, 3), (50, 4), (50, 5), (50, 6), (12, 2), (34, 0), (34, 3), (11, 1), (55, 0), (55, 1), (55, 3), (55, 4), (55, 5), (55, 6), (12, 3), (60, 0), (60, 1), (60, 3), (60, 4), (60, 5), (60, 6), (12, 4), (65, 0), (65, 1), (65, 3), (65, 4), (65, 5), (65, 6), (12, 5), (36, 0), (36, 3), (11, 2), (70, 0), (70, 1), (70, 3), (70, 4), (70, 5), (70, 6), (12, 6), (75, 0), (75, 1), (75, 3), (75, 4), (75, 5), (75, 6), (12, 7), (80, 0), (80, 1), (80, 3), (80, 4), (80, 5), (80, 6), (12, 8), (0, 4), (14, 1), (14, 2), (14, 3), (14, 0), (14, 4), (0, 5), (18, 2), (18, 3), (18, 0), (0, 6), (21, 2), (21, 3), (21, 0), (0, 7), (24, 0), (0, 8), (26, 2), (26, 3), (26, 0)] := hX63.trans e64
  refine k_ast (b := 26) (j := 0) (t0 := 4) (fun F => [(1, .int ((((1 : Int32) + 1) + 1) + 1)), (2, .int ((((1 : Int32) + 1) + 1) + 1)), (0, rV F 0)]) (fun F => [rV F 25, rV F 0]) rfl rfl (xoN hX64) (xmN hX64 (by simp)) (xmN hX64 (by simp)) rfl (by decide) rfl rfl rfl rfl (by decide) (by decide) (by decide) rfl rfl dX9_init_222 (fun _ e => ⟨by simp only [rV, xaN e 0 (by simp)], by simp only [rV, xaN e 0 (by simp), xaN e 25 (by simp)]⟩) (fun E65 e65 => ?_)
  have hX65 : Ext E E65 [1, 2, 3, 4, 5, 6, 7, 8, 9, 10, 11, 12, 32, 33, 40, 41, 42, 43, 44, 45, 46, 47, 48, 49, 50, 51, 52, 53, 54, 34, 35, 55, 56, 57, 58, 59, 60, 61, 62, 63, 64, 65, 66, 67, 68, 69, 36, 37, 70, 71, 72, 73, 74, 75, 76, 77, 78, 79, 80, 81, 82, 83, 84, 13, 14, 15, 16, 17, 18, 19, 20, 21, 22, 23, 24, 25, 26, 27, 28] [(1, 2), (1, 3), (1, 4), (1, 5), (0, 0), (6, 0), (6, 6), (6, 7), (6, 8), (0, 1), (0, 2), (0, 3), (32, 0), (32, 3), (11, 0), (40, 0), (40, 1), (40, 3), (40, 4), (40, 5), (40, 6), (12, 0), (45, 0), (45, 1), (45, 3), (45, 4), (45, 5), (45, 6), (12, 1), (50, 0), (50, 1), (50, 3), (50, 4), (50, 5), (50, 6), (12, 2), (34, 0), (34, 3), (11, 1), (55, 0), (55, 1), (55, 3), (55, 4), (55, 5), (55, 6), (12, 3), (60, 0), (60, 1), (60, 3), (60, 4), (60, 5), (60, 6), (12, 4), (65, 0), (65, 1), (65, 3), (65, 4), (65, 5), (65, 6), (12, 5), (36, 0), (36, 3), (11, 2), (70, 0), (70, 1), (70, 3), (70, 4), (70, 5), (70, 6), (12, 6), (75, 0), (75, 1), (75, 3), (75, 4), (75, 5), (75, 6), (12, 7), (80, 0), (80, 1), (80, 3), (80, 4), (80, 5), (80, 6), (12, 8), (0, 4), (14, 1), (14, 2), (14, 3), (14, 0), (14, 4), (0, 5), (18, 2), (18, 3), (18, 0), (0, 6), (21, 2), (21, 3), (21, 0), (0, 7), (24, 0), (0, 8), (26, 2), (26, 3), (26, 0), (25, 0)] := hX64.trans e65
  refine s_dup dX9_init_223 rfl ?_
  refine s_iconst (v := 1) dX9_init_224 (by decide) ?_
  refine k_new (a := 29) (ci := 2) (fun F => [(1, .int ((((1 : Int32) + 1) + 1) + 1)), (2, .int ((((1 : Int32) + 1) + 1) + 1)), (0, rV F 0)]) (fun F => [.int (1 : Int32), rV F 25, rV F 25, rV F 0]) rfl rfl hq (xoN hX65) (xfN hX65 hf29 (by decide)) (by decide) rfl rfl inX2 tyX2_ok (dfX2 rfl) rfl w_338 w_340 w_97 80 28442 (by decide) (by decide) (Nat.le_of_ble_eq_true rfl) (Nat.le_of_ble_eq_true rfl) dX9_init_225 (fun _ e => ⟨by simp only [rV, xaN e 0 (by decide)], by simp only [rV, xaN e 0 (by decide), xaN e 25 (by decide)]⟩) (fun E66 s44 e66 => ?_)
  have hX66 : Ext E E66 [1, 2, 3, 4, 5, 6, 7, 8, 9, 10, 11, 12, 32, 33, 40, 41, 42, 43, 44, 45, 46, 47, 48, 49, 50, 51, 52, 53, 54, 34, 35, 55, 56, 57, 58, 59, 60, 61, 62, 63, 64, 65, 66, 67, 68, 69, 36, 37, 70, 71, 72, 73, 74, 75, 76, 77, 78, 79, 80, 81, 82, 83, 84, 13, 14, 15, 16, 17, 18, 19, 20, 21, 22, 23, 24, 25, 26, 27, 28, 29] [(1, 2), (1, 3), (1, 4), (1, 5), (0, 0), (6, 0), (6, 6), (6, 7), (6, 8), (0, 1), (0, 2), (0, 3), (32, 0), (32, 3), (11, 0), (40, 0), (40, 1), (40, 3), (40, 4), (40, 5), (40, 6), (12, 0), (45, 0), (45, 1), (45, 3), (45, 4), (45, 5), (45, 6), (12, 1), (50, 0), (50, 1), (50, 3), (50, 4), (50, 5), (50, 6), (12, 2), (34, 0), (34, 3), (11, 1), (55, 0), (55, 1), (55, 3), (55, 4), (55, 5), (55, 6), (12, 3), (60, 0), (60, 1), (60, 3), (60, 4), (60, 5), (60, 6), (12, 4), (65, 0), (65, 1), (65, 3), (65, 4), (65, 5), (65, 6), (12, 5), (36, 0), (36, 3), (11, 2), (70, 0), (70, 1), (70, 3), (70, 4), (70, 5), (70, 6), (12, 6), (75, 0), (75, 1), (75, 3), (75, 4), (75, 5), (75, 6), (12, 7), (80, 0), (80, 1), (80, 3), (80, 4), (80, 5), (80, 6), (12, 8), (0, 4), (14, 1), (14, 2), (14, 3), (14, 0), (14, 4), (0, 5), (18, 2), (18, 3), (18, 0), (0, 6), (21, 2), (21, 3), (21, 0), (0, 7), (24, 0), (0, 8), (26, 2), (26, 3), (26, 0), (25, 0)] := hX65.trans e66
  refine s_dup dX9_init_228 rfl ?_
  refine s_aload_n dX9_init_229 2 rfl rfl ?_
  refine s_getr (b := 1) gf_X9_14 rfl (xmO hX66 hm0) (show kd 0 = 9 from rfl) (ft_of (show kd 0 = 9 from rfl) rfl) (xrN hX66 (by simp)) rfl dX9_init_230 ?_
  refine s_iconst (v := 1) dX9_init_233 (by decide) ?_
  refine k_call (As := [rV E66 1, .int (1 : Int32)]) (fun F => [(1, .int ((((1 : Int32) + 1) + 1) + 1)), (2, .int ((((1 : Int32) + 1) + 1) + 1)), (0, rV F 0)]) (fun F => [rV F 29, .int (1 : Int32), rV F 25, rV F 25, rV F 0]) rfl rfl (by intro b hb; simp; try omega) if_X2_init_1 hq (xoN hX66) ml_X9_82 rfl (c_X2_init_1 _ E66 (xmN hX66 (by simp)) (xmN hX66 (by simp)) (xfN hX66 hf30 (by decide)) (xfN hX66 hf31 (by decide)) s44 (1 : Int32)) rfl rfl (Nat.le_of_ble_eq_true rfl) 82 29470 (by decide) (by decide) (Nat.le_of_ble_eq_true rfl) (Nat.le_of_ble_eq_true rfl) dX9_init_234 (fun _ e => ⟨by simp only [rV, xaN e 0 (by decide)], by simp only [rV, xaN e 0 (by decide), xaN e 25 (by decide), xaN e 29 (by decide)]⟩) (fun E67 s45 e67 => ?_)
  have hX67 : Ext E E67 [1, 2, 3, 4, 5, 6, 7, 8, 9, 10, 11, 12, 32, 33, 40, 41, 42, 43, 44, 45, 46, 47, 48, 49, 50, 51, 52, 53, 54, 34, 35, 55, 56, 57, 58, 59, 60, 61, 62, 63, 64, 65, 66, 67, 68, 69, 36, 37, 70, 71, 72, 73, 74, 75, 76, 77, 78, 79, 80, 81, 82, 83, 84, 13, 14, 15, 16, 17, 18, 19, 20, 21, 22, 23, 24, 25, 26, 27, 28, 29, 30, 31] [(1, 2), (1, 3), (1, 4), (1, 5), (0, 0), (6, 0), (6, 6), (6, 7), (6, 8), (0, 1), (0, 2), (0, 3), (32, 0), (32, 3), (11, 0), (40, 0), (40, 1), (40, 3), (40, 4), (40, 5), (40, 6), (12, 0), (45, 0), (45, 1), (45, 3), (45, 4), (45, 5), (45, 6), (12, 1), (50, 0), (50, 1), (50, 3), (50, 4), (50, 5), (50, 6), (12, 2), (34, 0), (34, 3), (11, 1), (55, 0), (55, 1), (55, 3), (55, 4), (55, 5), (55, 6), (12, 3), (60, 0), (60, 1), (60, 3), (60, 4), (60, 5), (60, 6), (12, 4), (65, 0), (65, 1), (65, 3), (65, 4), (65, 5), (65, 6), (12, 5), (36, 0), (36, 3), (11, 2), (70, 0), (70, 1), (70, 3), (70, 4), (70, 5), (70, 6), (12, 6), (75, 0), (75, 1), (75, 3), (75, 4), (75, 5), (75, 6), (12, 7), (80, 0), (80, 1), (80, 3), (80, 4), (80, 5), (80, 6), (12, 8), (0, 4), (14, 1), (14, 2), (14, 3), (14, 0), (14, 4), (0, 5), (18, 2), (18, 3), (18, 0), (0, 6), (21, 2), (21, 3), (21, 0), (0, 7), (24, 0), (0, 8), (26, 2), (26, 3), (26, 0), (25, 0), (29, 2), (29, 3), (29, 0)] := hX66.trans e67
  refine k_ast (b := 29) (j := 1) (t0 := 4) (fun F => [(1, .int ((((1 : Int32) + 1) + 1) + 1)), (2, .int ((((1 : Int32) + 1) + 1) + 1)), (0, rV F 0)]) (fun F => [rV F 25, rV F 0]) rfl rfl (xoN hX67) (xmN hX67 (by simp)) (xmN hX67 (by simp)) rfl (by decide) rfl rfl rfl rfl (by decide) (by decide) (by decide) rfl rfl dX9_init_237 (fun _ e => ⟨by simp only [rV, xaN e 0 (by simp)], by simp only [rV, xaN e 0 (by simp), xaN e 25 (by simp)]⟩) (fun E68 e68 => ?_)
  have hX68 : Ext E E68 [1, 2, 3, 4, 5, 6, 7, 8, 9, 10, 11, 12, 32, 33, 40, 41, 42, 43, 44, 45, 46, 47, 48, 49, 50, 51, 52, 53, 54, 34, 35, 55, 56, 57, 58, 59, 60, 61, 62, 63, 64, 65, 66, 67, 68, 69, 36, 37, 70, 71, 72, 73, 74, 75, 76, 77, 78, 79, 80, 81, 82, 83, 84, 13, 14, 15, 16, 17, 18, 19, 20, 21, 22, 23, 24, 25, 26, 27, 28, 29, 30, 31] [(1, 2), (1, 3), (1, 4), (1, 5), (0, 0), (6, 0), (6, 6), (6, 7), (6, 8), (0, 1), (0, 2), (0, 3), (32, 0), (32, 3), (11, 0), (40, 0), (40, 1), (40, 3), (40, 4), (40, 5), (40, 6), (12, 0), (45, 0), (45, 1), (45, 3), (45, 4), (45, 5), (45, 6), (12, 1), (50, 0), (50, 1), (50, 3), (50, 4), (50, 5), (50, 6), (12, 2), (34, 0), (34, 3), (11, 1), (55, 0), (55, 1), (55, 3), (55, 4), (55, 5), (55, 6), (12, 3), (60, 0), (60, 1), (60, 3), (60, 4), (60, 5), (60, 6), (12, 4), (65, 0), (65, 1), (65, 3), (65, 4), (65, 5), (65, 6), (12, 5), (36, 0), (36, 3), (11, 2), (70, 0), (70, 1), (70, 3), (70, 4), (70, 5), (70, 6), (12, 6), (75, 0), (75, 1), (75, 3), (75, 4), (75, 5), (75, 6), (12, 7), (80, 0), (80, 1), (80, 3), (80, 4), (80, 5), (80, 6), (12, 8), (0, 4), (14, 1), (14, 2), (14, 3), (14, 0), (14, 4), (0, 5), (18, 2), (18, 3), (18, 0), (0, 6), (21, 2), (21, 3), (21, 0), (0, 7), (24, 0), (0, 8), (26, 2), (26, 3), (26, 0), (25, 0), (29, 2), (29, 3), (29, 0), (25, 1)] := hX67.trans e68
  refine k_putr (b := 25) (fun F => [(1, .int ((((1 : Int32) + 1) + 1) + 1)), (2, .int ((((1 : Int32) + 1) + 1) + 1)), (0, rV F 0)]) (fun F => []) rfl rfl gc_X9_83 hin rfl (xoN hX68) (xmO hX68 hm0) rfl (xmN hX68 (by simp)) rfl (ft_of rfl rfl) rfl rfl dX9_init_238 (fun _ e => ⟨by simp only [rV, xaN e 0 (by simp)], rfl⟩) (fun E69 e69 => ?_)
  have hX69 : Ext E E69 [1, 2, 3, 4, 5, 6, 7, 8, 9, 10, 11, 12, 32, 33, 40, 41, 42, 43, 44, 45, 46, 47, 48, 49, 50, 51, 52, 53, 54, 34, 35, 55, 56, 57, 58, 59, 60, 61, 62, 63, 64, 65, 66, 67, 68, 69, 36, 37, 70, 71, 72, 73, 74, 75, 76, 77, 78, 79, 80, 81, 82, 83, 84, 13, 14, 15, 16, 17, 18, 19, 20, 21, 22, 23, 24, 25, 26, 27, 28, 29, 30, 31] [(1, 2), (1, 3), (1, 4), (1, 5), (0, 0), (6, 0), (6, 6), (6, 7), (6, 8), (0, 1), (0, 2), (0, 3), (32, 0), (32, 3), (11, 0), (40, 0), (40, 1), (40, 3), (40, 4), (40, 5), (40, 6), (12, 0), (45, 0), (45, 1), (45, 3), (45, 4), (45, 5), (45, 6), (12, 1), (50, 0), (50, 1), (50, 3), (50, 4), (50, 5), (50, 6), (12, 2), (34, 0), (34, 3), (11, 1), (55, 0), (55, 1), (55, 3), (55, 4), (55, 5), (55, 6), (12, 3), (60, 0), (60, 1), (60, 3), (60, 4), (60, 5), (60, 6), (12, 4), (65, 0), (65, 1), (65, 3), (65, 4), (65, 5), (65, 6), (12, 5), (36, 0), (36, 3), (11, 2), (70, 0), (70, 1), (70, 3), (70, 4), (70, 5), (70, 6), (12, 6), (75, 0), (75, 1), (75, 3), (75, 4), (75, 5), (75, 6), (12, 7), (80, 0), (80, 1), (80, 3), (80, 4), (80, 5), (80, 6), (12, 8), (0, 4), (14, 1), (14, 2), (14, 3), (14, 0), (14, 4), (0, 5), (18, 2), (18, 3), (18, 0), (0, 6), (21, 2), (21, 3), (21, 0), (0, 7), (24, 0), (0, 8), (26, 2), (26, 3), (26, 0), (25, 0), (29, 2), (29, 3), (29, 0), (25, 1), (0, 9)] := hX68.trans e69
  exact k_ret rfl rfl rfl rfl hX69 dX9_init_241
theorem dX10_init_0 : decode cX10_init 0 = .ok (.aload_n 0, 1) := by decide +kernel
theorem dX10_init_1 : decode cX10_init 1 = .ok (.invokespecial 1, 3) := by decide +kernel
theorem dX10_init_4 : decode cX10_init 4 = .ok (.aload_n 0, 1) := by decide +kernel
theorem dX10_init_5 : decode cX10_init 5 = .ok (.iconst 4, 1) := by decide +kernel
theorem dX10_init_6 : decode cX10_init 6 = .ok (.putfield 7, 3) := by decide +kernel
theorem dX10_init_9 : decode cX10_init 9 = .ok (.aload_n 0, 1) := by decide +kernel
theorem dX10_init_10 : decode cX10_init 10 = .ok (.bipush 8, 2) := by decide +kernel
theorem dX10_init_12 : decode cX10_init 12 = .ok (.newarray .int, 2) := by decide +kernel
theorem dX10_init_14 : decode cX10_init 14 = .ok (.putfield 13, 3) := by decide +kernel
theorem dX10_init_17 : decode cX10_init 17 = .ok (.aload_n 0, 1) := by decide +kernel
theorem dX10_init_18 : decode cX10_init 18 = .ok (.sipush 160, 3) := by decide +kernel
theorem dX10_init_21 : decode cX10_init 21 = .ok (.newarray .int, 2) := by decide +kernel
theorem dX10_init_23 : decode cX10_init 23 = .ok (.putfield 17, 3) := by decide +kernel
theorem dX10_init_26 : decode cX10_init 26 = .ok (.aload_n 0, 1) := by decide +kernel
theorem dX10_init_27 : decode cX10_init 27 = .ok (.bipush 48, 2) := by decide +kernel
theorem dX10_init_29 : decode cX10_init 29 = .ok (.newarray .int, 2) := by decide +kernel
theorem dX10_init_31 : decode cX10_init 31 = .ok (.putfield 20, 3) := by decide +kernel
theorem dX10_init_34 : decode cX10_init 34 = .ok (.aload_n 0, 1) := by decide +kernel
theorem dX10_init_35 : decode cX10_init 35 = .ok (.bipush 9, 2) := by decide +kernel
theorem dX10_init_37 : decode cX10_init 37 = .ok (.newarray .boolean, 2) := by decide +kernel
theorem dX10_init_39 : decode cX10_init 39 = .ok (.putfield 23, 3) := by decide +kernel
theorem dX10_init_42 : decode cX10_init 42 = .ok (.aload_n 0, 1) := by decide +kernel
theorem dX10_init_43 : decode cX10_init 43 = .ok (.ldc 27, 2) := by decide +kernel
theorem dX10_init_45 : decode cX10_init 45 = .ok (.newarray .int, 2) := by decide +kernel
theorem dX10_init_47 : decode cX10_init 47 = .ok (.putfield 28, 3) := by decide +kernel
theorem dX10_init_50 : decode cX10_init 50 = .ok (.aload_n 0, 1) := by decide +kernel
theorem dX10_init_51 : decode cX10_init 51 = .ok (.sipush 4096, 3) := by decide +kernel
theorem dX10_init_54 : decode cX10_init 54 = .ok (.newarray .int, 2) := by decide +kernel
theorem dX10_init_56 : decode cX10_init 56 = .ok (.putfield 31, 3) := by decide +kernel
theorem dX10_init_59 : decode cX10_init 59 = .ok (.aload_n 0, 1) := by decide +kernel
theorem dX10_init_60 : decode cX10_init 60 = .ok (.sipush 512, 3) := by decide +kernel
theorem dX10_init_63 : decode cX10_init 63 = .ok (.newarray .int, 2) := by decide +kernel
theorem dX10_init_65 : decode cX10_init 65 = .ok (.putfield 34, 3) := by decide +kernel
theorem dX10_init_68 : decode cX10_init 68 = .ok (.aload_n 0, 1) := by decide +kernel
theorem dX10_init_69 : decode cX10_init 69 = .ok (.iconst 3, 1) := by decide +kernel
theorem dX10_init_70 : decode cX10_init 70 = .ok (.newarray .int, 2) := by decide +kernel
theorem dX10_init_72 : decode cX10_init 72 = .ok (.putfield 37, 3) := by decide +kernel
theorem dX10_init_75 : decode cX10_init 75 = .ok (.aload_n 0, 1) := by decide +kernel
theorem dX10_init_76 : decode cX10_init 76 = .ok (.iconst 3, 1) := by decide +kernel
theorem dX10_init_77 : decode cX10_init 77 = .ok (.newarray .int, 2) := by decide +kernel
theorem dX10_init_79 : decode cX10_init 79 = .ok (.putfield 40, 3) := by decide +kernel
theorem dX10_init_82 : decode cX10_init 82 = .ok (.aload_n 0, 1) := by decide +kernel
theorem dX10_init_83 : decode cX10_init 83 = .ok (.sipush 16384, 3) := by decide +kernel
theorem dX10_init_86 : decode cX10_init 86 = .ok (.newarray .int, 2) := by decide +kernel
theorem dX10_init_88 : decode cX10_init 88 = .ok (.putfield 43, 3) := by decide +kernel
theorem dX10_init_91 : decode cX10_init 91 = .ok (.aload_n 0, 1) := by decide +kernel
theorem dX10_init_92 : decode cX10_init 92 = .ok (.sipush 16384, 3) := by decide +kernel
theorem dX10_init_95 : decode cX10_init 95 = .ok (.newarray .int, 2) := by decide +kernel
theorem dX10_init_97 : decode cX10_init 97 = .ok (.putfield 46, 3) := by decide +kernel
theorem dX10_init_100 : decode cX10_init 100 = .ok (.aload_n 0, 1) := by decide +kernel
theorem dX10_init_101 : decode cX10_init 101 = .ok (.iconst 3, 1) := by decide +kernel
theorem dX10_init_102 : decode cX10_init 102 = .ok (.newarray .boolean, 2) := by decide +kernel
theorem dX10_init_104 : decode cX10_init 104 = .ok (.putfield 49, 3) := by decide +kernel
theorem dX10_init_107 : decode cX10_init 107 = .ok (.aload_n 0, 1) := by decide +kernel
theorem dX10_init_108 : decode cX10_init 108 = .ok (.iconst 3, 1) := by decide +kernel
theorem dX10_init_109 : decode cX10_init 109 = .ok (.newarray .int, 2) := by decide +kernel
theorem dX10_init_111 : decode cX10_init 111 = .ok (.putfield 52, 3) := by decide +kernel
theorem dX10_init_114 : decode cX10_init 114 = .ok (.aload_n 0, 1) := by decide +kernel
theorem dX10_init_115 : decode cX10_init 115 = .ok (.iconst 3, 1) := by decide +kernel
theorem dX10_init_116 : decode cX10_init 116 = .ok (.newarray .int, 2) := by decide +kernel
theorem dX10_init_118 : decode cX10_init 118 = .ok (.putfield 55, 3) := by decide +kernel
theorem dX10_init_121 : decode cX10_init 121 = .ok (.aload_n 0, 1) := by decide +kernel
theorem dX10_init_122 : decode cX10_init 122 = .ok (.bipush 8, 2) := by decide +kernel
theorem dX10_init_124 : decode cX10_init 124 = .ok (.newarray .int, 2) := by decide +kernel
theorem dX10_init_126 : decode cX10_init 126 = .ok (.putfield 58, 3) := by decide +kernel
theorem dX10_init_129 : decode cX10_init 129 = .ok (.aload_n 0, 1) := by decide +kernel
theorem dX10_init_130 : decode cX10_init 130 = .ok (.sipush 256, 3) := by decide +kernel
theorem dX10_init_133 : decode cX10_init 133 = .ok (.newarray .int, 2) := by decide +kernel
theorem dX10_init_135 : decode cX10_init 135 = .ok (.putfield 61, 3) := by decide +kernel
theorem dX10_init_138 : decode cX10_init 138 = .ok (.aload_n 0, 1) := by decide +kernel
theorem dX10_init_139 : decode cX10_init 139 = .ok (.sipush 2048, 3) := by decide +kernel
theorem dX10_init_142 : decode cX10_init 142 = .ok (.newarray .int, 2) := by decide +kernel
theorem dX10_init_144 : decode cX10_init 144 = .ok (.putfield 64, 3) := by decide +kernel
theorem dX10_init_147 : decode cX10_init 147 = .ok (.aload_n 0, 1) := by decide +kernel
theorem dX10_init_148 : decode cX10_init 148 = .ok (.bipush 8, 2) := by decide +kernel
theorem dX10_init_150 : decode cX10_init 150 = .ok (.newarray .int, 2) := by decide +kernel
theorem dX10_init_152 : decode cX10_init 152 = .ok (.putfield 67, 3) := by decide +kernel
theorem dX10_init_155 : decode cX10_init 155 = .ok (.aload_n 0, 1) := by decide +kernel
theorem dX10_init_156 : decode cX10_init 156 = .ok (.ldc 70, 2) := by decide +kernel
theorem dX10_init_158 : decode cX10_init 158 = .ok (.newarray .boolean, 2) := by decide +kernel
theorem dX10_init_160 : decode cX10_init 160 = .ok (.putfield 71, 3) := by decide +kernel
theorem dX10_init_163 : decode cX10_init 163 = .ok (.aload_n 0, 1) := by decide +kernel
theorem dX10_init_164 : decode cX10_init 164 = .ok (.sipush 512, 3) := by decide +kernel
theorem dX10_init_167 : decode cX10_init 167 = .ok (.newarray .boolean, 2) := by decide +kernel
theorem dX10_init_169 : decode cX10_init 169 = .ok (.putfield 74, 3) := by decide +kernel
theorem dX10_init_172 : decode cX10_init 172 = .ok (.aload_n 0, 1) := by decide +kernel
theorem dX10_init_173 : decode cX10_init 173 = .ok (.sipush 256, 3) := by decide +kernel
theorem dX10_init_176 : decode cX10_init 176 = .ok (.newarray .boolean, 2) := by decide +kernel
theorem dX10_init_178 : decode cX10_init 178 = .ok (.putfield 77, 3) := by decide +kernel
theorem dX10_init_181 : decode cX10_init 181 = .ok (.aload_n 0, 1) := by decide +kernel
theorem dX10_init_182 : decode cX10_init 182 = .ok (.sipush 256, 3) := by decide +kernel
theorem dX10_init_185 : decode cX10_init 185 = .ok (.newarray .boolean, 2) := by decide +kernel
theorem dX10_init_187 : decode cX10_init 187 = .ok (.putfield 80, 3) := by decide +kernel
theorem dX10_init_190 : decode cX10_init 190 = .ok (.return_, 1) := by decide +kernel
def f_X10_init (σ : St) : Option St :=
  bd (setI σ 100 0 (4 : Int32)) fun s1 =>
    bd (zr s1 101) fun s2 =>
      bd (zr s2 102) fun s3 =>
        bd (zr s3 103) fun s4 =>
          bd (zr s4 104) fun s5 =>
            bd (zr s5 105) fun s6 =>
              bd (zr s6 106) fun s7 =>
                bd (zr s7 107) fun s8 =>
                  bd (zr s8 108) fun s9 =>
                    bd (zr s9 109) fun s10 =>
                      bd (zr s10 110) fun s11 =>
                        bd (zr s11 111) fun s12 =>
                          bd (zr s12 112) fun s13 =>
                            bd (zr s13 113) fun s14 =>
                              bd (zr s14 114) fun s15 =>
                                bd (zr s15 115) fun s16 =>
                                  bd (zr s16 116) fun s17 =>
                                    bd (zr s17 117) fun s18 =>
                                      bd (zr s18 118) fun s19 =>
                                        bd (zr s19 119) fun s20 =>
                                          bd (zr s20 120) fun s21 =>
                                            bd (zr s21 121) fun s22 =>
                                              bd (zr s22 122) fun s23 =>
                                                some s23
set_option maxHeartbeats 4000000 in
set_option maxRecDepth 100000 in
theorem c_X10_init (l : Launch) (E : Ev) (hm100 : 100 ∈ E.2.2.2.1) (hf101 : 101 ∉ E.2.2.2.1) (hf102 : 102 ∉ E.2.2.2.1) (hf103 : 103 ∉ E.2.2.2.1) (hf104 : 104 ∉ E.2.2.2.1) (hf105 : 105 ∉ E.2.2.2.1) (hf106 : 106 ∉ E.2.2.2.1) (hf107 : 107 ∉ E.2.2.2.1) (hf108 : 108 ∉ E.2.2.2.1) (hf109 : 109 ∉ E.2.2.2.1) (hf110 : 110 ∉ E.2.2.2.1) (hf111 : 111 ∉ E.2.2.2.1) (hf112 : 112 ∉ E.2.2.2.1) (hf113 : 113 ∉ E.2.2.2.1) (hf114 : 114 ∉ E.2.2.2.1) (hf115 : 115 ∉ E.2.2.2.1) (hf116 : 116 ∉ E.2.2.2.1) (hf117 : 117 ∉ E.2.2.2.1) (hf118 : 118 ∉ E.2.2.2.1) (hf119 : 119 ∉ E.2.2.2.1) (hf120 : 120 ∉ E.2.2.2.1) (hf121 : 121 ∉ E.2.2.2.1) (hf122 : 122 ∉ E.2.2.2.1) (σ : St) : CtrC l E md_X10_init [rV E 100] σ (f_X10_init σ) [101, 102, 103, 104, 105, 106, 107, 108, 109, 110, 111, 112, 113, 114, 115, 116, 117, 118, 119, 120, 121, 122] [(100, 1), (100, 3), (100, 12), (100, 13), (100, 14), (100, 15), (100, 16), (100, 17), (100, 18), (100, 25), (100, 26), (100, 28), (100, 29), (100, 30), (100, 31), (100, 32), (100, 33), (100, 34), (100, 37), (100, 38), (100, 39), (100, 40)] := by
  refine ctrC_of rfl rfl (Nat.le_of_ble_eq_true rfl) (fun Γ sz hin hE hR hq => ?_)
  show Sim _ Γ (AX E sz, 0, 0) E md_X10_init σ 0 [(0, rV E 100)] [] _
  unfold f_X10_init
  have hX0 : Ext E E [] [] := Ext.rf hE hR
  refine s_aload_n dX10_init_0 0 rfl rfl ?_
  refine s_objInit rfl w_1052 oiI oiC rfl dX10_init_1 ?_
  refine s_aload_n dX10_init_4 0 rfl rfl ?_
  refine s_iconst (v := 4) dX10_init_5 (by decide) ?_
  refine s_puti gf_X10_7 rfl (xmO hX0 hm100) (show kd 100 = 10 from rfl) (ft_of (show kd 100 = 10 from rfl) rfl) dX10_init_6 (fun s1 => ?_)
  refine s_aload_n dX10_init_9 0 rfl rfl ?_
  refine s_bipush (v := 8) dX10_init_10 (by decide) ?_
  refine k_newa (a := 101) (atype := .int) (fun F => [(0, rV F 100)]) (fun F => [rV F 100]) rfl rfl hq (xoN hX0) (xfN hX0 hf101 (by decide)) (by decide) rfl (Or.inl ⟨rfl, rfl⟩) rfl w_149 (by decide) (by decide) (by decide) 1 8 (by decide) (show 0 + ln 101 = 8 from by decide) (Nat.le_of_ble_eq_true rfl) (Nat.le_of_ble_eq_true rfl) dX10_init_12 (fun _ e => ⟨by simp only [rV, xaN e 100 (by decide)], by simp only [rV, xaN e 100 (by decide)]⟩) (fun E1 s2 e1 => ?_)
  have hX1 : Ext E E1 [101] [] := hX0.trans e1
  refine k_putr (b := 101) (fun F => [(0, rV F 100)]) (fun F => []) rfl rfl gc_X10_13 hin rfl (xoN hX1) (xmO hX1 hm100) rfl (xmN hX1 (by simp)) rfl (ft_of rfl rfl) rfl rfl dX10_init_14 (fun _ e => ⟨by simp only [rV, xaN e 100 (by simp)], rfl⟩) (fun E2 e2 => ?_)
  have hX2 : Ext E E2 [101] [(100, 1)] := hX1.trans e2
  refine s_aload_n dX10_init_17 0 rfl rfl ?_
  refine s_sipush (v := 160) dX10_init_18 (by decide) ?_
  refine k_newa (a := 102) (atype := .int) (fun F => [(0, rV F 100)]) (fun F => [rV F 100]) rfl rfl hq (xoN hX2) (xfN hX2 hf102 (by decide)) (by decide) rfl (Or.inl ⟨rfl, rfl⟩) rfl w_149 (by decide) (by decide) (by decide) 2 168 (by decide) (show 8 + ln 102 = 168 from by decide) (Nat.le_of_ble_eq_true rfl) (Nat.le_of_ble_eq_true rfl) dX10_init_21 (fun _ e => ⟨by simp only [rV, xaN e 100 (by decide)], by simp only [rV, xaN e 100 (by decide)]⟩) (fun E3 s3 e3 => ?_)
  have hX3 : Ext E E3 [101, 102] [(100, 1)] := hX2.trans e3
  refine k_putr (b := 102) (fun F => [(0, rV F 100)]) (fun F => []) rfl rfl gc_X10_17 hin rfl (xoN hX3) (xmO hX3 hm100) rfl (xmN hX3 (by simp)) rfl (ft_of rfl rfl) rfl rfl dX10_init_23 (fun _ e => ⟨by simp only [rV, xaN e 100 (by simp)], rfl⟩) (fun E4 e4 => ?_)
  have hX4 : Ext E E4 [101, 102] [(100, 1), (100, 3)] := hX3.trans e4
  refine s_aload_n dX10_init_26 0 rfl rfl ?_
  refine s_bipush (v := 48) dX10_init_27 (by decide) ?_
  refine k_newa (a := 103) (atype := .int) (fun F => [(0, rV F 100)]) (fun F => [rV F 100]) rfl rfl hq (xoN hX4) (xfN hX4 hf103 (by decide)) (by decide) rfl (Or.inl ⟨rfl, rfl⟩) rfl w_149 (by decide) (by decide) (by decide) 3 216 (by decide) (show 168 + ln 103 = 216 from by decide) (Nat.le_of_ble_eq_true rfl) (Nat.le_of_ble_eq_true rfl) dX10_init_29 (fun _ e => ⟨by simp only [rV, xaN e 100 (by decide)], by simp only [rV, xaN e 100 (by decide)]⟩) (fun E5 s4 e5 => ?_)
  have hX5 : Ext E E5 [101, 102, 103] [(100, 1), (100, 3)] := hX4.trans e5
  refine k_putr (b := 103) (fun F => [(0, rV F 100)]) (fun F => []) rfl rfl gc_X10_20 hin rfl (xoN hX5) (xmO hX5 hm100) rfl (xmN hX5 (by simp)) rfl (ft_of rfl rfl) rfl rfl dX10_init_31 (fun _ e => ⟨by simp only [rV, xaN e 100 (by simp)], rfl⟩) (fun E6 e6 => ?_)
  have hX6 : Ext E E6 [101, 102, 103] [(100, 1), (100, 3), (100, 12)] := hX5.trans e6
  refine s_aload_n dX10_init_34 0 rfl rfl ?_
  refine s_bipush (v := 9) dX10_init_35 (by decide) ?_
  refine k_newa (a := 104) (atype := .boolean) (fun F => [(0, rV F 100)]) (fun F => [rV F 100]) rfl rfl hq (xoN hX6) (xfN hX6 hf104 (by decide)) (by decide) rfl (Or.inr (Or.inr ⟨rfl, rfl⟩)) rfl w_1179 (by decide) (by decide) (by decide) 4 225 (by decide) (show 216 + ln 104 = 225 from by decide) (Nat.le_of_ble_eq_true rfl) (Nat.le_of_ble_eq_true rfl) dX10_init_37 (fun _ e => ⟨by simp only [rV, xaN e 100 (by decide)], by simp only [rV, xaN e 100 (by decide)]⟩) (fun E7 s5 e7 => ?_)
  have hX7 : Ext E E7 [101, 102, 103, 104] [(100, 1), (100, 3), (100, 12)] := hX6.trans e7
  refine k_putr (b := 104) (fun F => [(0, rV F 100)]) (fun F => []) rfl rfl gc_X10_23 hin rfl (xoN hX7) (xmO hX7 hm100) rfl (xmN hX7 (by simp)) rfl (ft_of rfl rfl) rfl rfl dX10_init_39 (fun _ e => ⟨by simp only [rV, xaN e 100 (by simp)], rfl⟩) (fun E8 e8 => ?_)
  have hX8 : Ext E E8 [101, 102, 103, 104] [(100, 1), (100, 3), (100, 12), (100, 13)] := hX7.trans e8
  refine s_aload_n dX10_init_42 0 rfl rfl ?_
  refine s_ldc (v := 36864) rfl w_1053 dX10_init_43 ?_
  refine k_newa (a := 105) (atype := .int) (fun F => [(0, rV F 100)]) (fun F => [rV F 100]) rfl rfl hq (xoN hX8) (xfN hX8 hf105 (by decide)) (by decide) rfl (Or.inl ⟨rfl, rfl⟩) rfl w_149 (by decide) (by decide) (by decide) 5 37089 (by decide) (show 225 + ln 105 = 37089 from by decide) (Nat.le_of_ble_eq_true rfl) (Nat.le_of_ble_eq_true rfl) dX10_init_45 (fun _ e => ⟨by simp only [rV, xaN e 100 (by decide)], by simp only [rV, xaN e 100 (by decide)]⟩) (fun E9 s6 e9 => ?_)
  have hX9 : Ext E E9 [101, 102, 103, 104, 105] [(100, 1), (100, 3), (100, 12), (100, 13)] := hX8.trans e9
  refine k_putr (b := 105) (fun F => [(0, rV F 100)]) (fun F => []) rfl rfl gc_X10_28 hin rfl (xoN hX9) (xmO hX9 hm100) rfl (xmN hX9 (by simp)) rfl (ft_of rfl rfl) rfl rfl dX10_init_47 (fun _ e => ⟨by simp only [rV, xaN e 100 (by simp)], rfl⟩) (fun E10 e10 => ?_)
  have hX10 : Ext E E10 [101, 102, 103, 104, 105] [(100, 1), (100, 3), (100, 12), (100, 13), (100, 14)] := hX9.trans e10
  refine s_aload_n dX10_init_50 0 rfl rfl ?_
  refine s_sipush (v := 4096) dX10_init_51 (by decide) ?_
  refine k_newa (a := 106) (atype := .int) (fun F => [(0, rV F 100)]) (fun F => [rV F 100]) rfl rfl hq (xoN hX10) (xfN hX10 hf106 (by decide)) (by decide) rfl (Or.inl ⟨rfl, rfl⟩) rfl w_149 (by decide) (by decide) (by decide) 6 41185 (by decide) (show 37089 + ln 106 = 41185 from by decide) (Nat.le_of_ble_eq_true rfl) (Nat.le_of_ble_eq_true rfl) dX10_init_54 (fun _ e => ⟨by simp only [rV, xaN e 100 (by decide)], by simp only [rV, xaN e 100 (by decide)]⟩) (fun E11 s7 e11 => ?_)
  have hX11 : Ext E E11 [101, 102, 103, 104, 105, 106] [(100, 1), (100, 3), (100, 12), (100, 13), (100, 14)] := hX10.trans e11
  refine k_putr (b := 106) (fun F => [(0, rV F 100)]) (fun F => []) rfl rfl gc_X10_31 hin rfl (xoN hX11) (xmO hX11 hm100) rfl (xmN hX11 (by simp)) rfl (ft_of rfl rfl) rfl rfl dX10_init_56 (fun _ e => ⟨by simp only [rV, xaN e 100 (by simp)], rfl⟩) (fun E12 e12 => ?_)
  have hX12 : Ext E E12 [101, 102, 103, 104, 105, 106] [(100, 1), (100, 3), (100, 12), (100, 13), (100, 14), (100, 15)] := hX11.trans e12
  refine s_aload_n dX10_init_59 0 rfl rfl ?_
  refine s_sipush (v := 512) dX10_init_60 (by decide) ?_
  refine k_newa (a := 107) (atype := .int) (fun F => [(0, rV F 100)]) (fun F => [rV F 100]) rfl rfl hq (xoN hX12) (xfN hX12 hf107 (by decide)) (by decide) rfl (Or.inl ⟨rfl, rfl⟩) rfl w_149 (by decide) (by decide) (by decide) 7 41697 (by decide) (show 41185 + ln 107 = 41697 from by decide) (Nat.le_of_ble_eq_true rfl) (Nat.le_of_ble_eq_true rfl) dX10_init_63 (fun _ e => ⟨by simp only [rV, xaN e 100 (by decide)], by simp only [rV, xaN e 100 (by decide)]⟩) (fun E13 s8 e13 => ?_)
  have hX13 : Ext E E13 [101, 102, 103, 104, 105, 106, 107] [(100, 1), (100, 3), (100, 12), (100, 13), (100, 14), (100, 15)] := hX12.trans e13
  refine k_putr (b := 107) (fun F => [(0, rV F 100)]) (fun F => []) rfl rfl gc_X10_34 hin rfl (xoN hX13) (xmO hX13 hm100) rfl (xmN hX13 (by simp)) rfl (ft_of rfl rfl) rfl rfl dX10_init_65 (fun _ e => ⟨by simp only [rV, xaN e 100 (by simp)], rfl⟩) (fun E14 e14 => ?_)
  have hX14 : Ext E E14 [101, 102, 103, 104, 105, 106, 107] [(100, 1), (100, 3), (100, 12), (100, 13), (100, 14), (100, 15), (100, 16)] := hX13.trans e14
  refine s_aload_n dX10_init_68 0 rfl rfl ?_
  refine s_iconst (v := 3) dX10_init_69 (by decide) ?_
  refine k_newa (a := 108) (atype := .int) (fun F => [(0, rV F 100)]) (fun F => [rV F 100]) rfl rfl hq (xoN hX14) (xfN hX14 hf108 (by decide)) (by decide) rfl (Or.inl ⟨rfl, rfl⟩) rfl w_149 (by decide) (by decide) (by decide) 8 41700 (by decide) (show 41697 + ln 108 = 41700 from by decide) (Nat.le_of_ble_eq_true rfl) (Nat.le_of_ble_eq_true rfl) dX10_init_70 (fun _ e => ⟨by simp only [rV, xaN e 100 (by decide)], by simp only [rV, xaN e 100 (by decide)]⟩) (fun E15 s9 e15 => ?_)
  have hX15 : Ext E E15 [101, 102, 103, 104, 105, 106, 107, 108] [(100, 1), (100, 3), (100, 12), (100, 13), (100, 14), (100, 15), (100, 16)] := hX14.trans e15
  refine k_putr (b := 108) (fun F => [(0, rV F 100)]) (fun F => []) rfl rfl gc_X10_37 hin rfl (xoN hX15) (xmO hX15 hm100) rfl (xmN hX15 (by simp)) rfl (ft_of rfl rfl) rfl rfl dX10_init_72 (fun _ e => ⟨by simp only [rV, xaN e 100 (by simp)], rfl⟩) (fun E16 e16 => ?_)
  have hX16 : Ext E E16 [101, 102, 103, 104, 105, 106, 107, 108] [(100, 1), (100, 3), (100, 12), (100, 13), (100, 14), (100, 15), (100, 16), (100, 17)] := hX15.trans e16
  refine s_aload_n dX10_init_75 0 rfl rfl ?_
  refine s_iconst (v := 3) dX10_init_76 (by decide) ?_
  refine k_newa (a := 109) (atype := .int) (fun F => [(0, rV F 100)]) (fun F => [rV F 100]) rfl rfl hq (xoN hX16) (xfN hX16 hf109 (by decide)) (by decide) rfl (Or.inl ⟨rfl, rfl⟩) rfl w_149 (by decide) (by decide) (by decide) 9 41703 (by decide) (show 41700 + ln 109 = 41703 from by decide) (Nat.le_of_ble_eq_true rfl) (Nat.le_of_ble_eq_true rfl) dX10_init_77 (fun _ e => ⟨by simp only [rV, xaN e 100 (by decide)], by simp only [rV, xaN e 100 (by decide)]⟩) (fun E17 s10 e17 => ?_)
  have hX17 : Ext E E17 [101, 102, 103, 104, 105, 106, 107, 108, 109] [(100, 1), (100, 3), (100, 12), (100, 13), (100, 14), (100, 15), (100, 16), (100, 17)] := hX16.trans e17
  refine k_putr (b := 109) (fun F => [(0, rV F 100)]) (fun F => []) rfl rfl gc_X10_40 hin rfl (xoN hX17) (xmO hX17 hm100) rfl (xmN hX17 (by simp)) rfl (ft_of rfl rfl) rfl rfl dX10_init_79 (fun _ e => ⟨by simp only [rV, xaN e 100 (by simp)], rfl⟩) (fun E18 e18 => ?_)
  have hX18 : Ext E E18 [101, 102, 103, 104, 105, 106, 107, 108, 109] [(100, 1), (100, 3), (100, 12), (100, 13), (100, 14), (100, 15), (100, 16), (100, 17), (100, 18)] := hX17.trans e18
  refine s_aload_n dX10_init_82 0 rfl rfl ?_
  refine s_sipush (v := 16384) dX10_init_83 (by decide) ?_
  refine k_newa (a := 110) (atype := .int) (fun F => [(0, rV F 100)]) (fun F => [rV F 100]) rfl rfl hq (xoN hX18) (xfN hX18 hf110 (by decide)) (by decide) rfl (Or.inl ⟨rfl, rfl⟩) rfl w_149 (by decide) (by decide) (by decide) 10 58087 (by decide) (show 41703 + ln 110 = 58087 from by decide) (Nat.le_of_ble_eq_true rfl) (Nat.le_of_ble_eq_true rfl) dX10_init_86 (fun _ e => ⟨by simp only [rV, xaN e 100 (by decide)], by simp only [rV, xaN e 100 (by decide)]⟩) (fun E19 s11 e19 => ?_)
  have hX19 : Ext E E19 [101, 102, 103, 104, 105, 106, 107, 108, 109, 110] [(100, 1), (100, 3), (100, 12), (100, 13), (100, 14), (100, 15), (100, 16), (100, 17), (100, 18)] := hX18.trans e19
  refine k_putr (b := 110) (fun F => [(0, rV F 100)]) (fun F => []) rfl rfl gc_X10_43 hin rfl (xoN hX19) (xmO hX19 hm100) rfl (xmN hX19 (by simp)) rfl (ft_of rfl rfl) rfl rfl dX10_init_88 (fun _ e => ⟨by simp only [rV, xaN e 100 (by simp)], rfl⟩) (fun E20 e20 => ?_)
  have hX20 : Ext E E20 [101, 102, 103, 104, 105, 106, 107, 108, 109, 110] [(100, 1), (100, 3), (100, 12), (100, 13), (100, 14), (100, 15), (100, 16), (100, 17), (100, 18), (100, 25)] := hX19.trans e20
  refine s_aload_n dX10_init_91 0 rfl rfl ?_
  refine s_sipush (v := 16384) dX10_init_92 (by decide) ?_
  refine k_newa (a := 111) (atype := .int) (fun F => [(0, rV F 100)]) (fun F => [rV F 100]) rfl rfl hq (xoN hX20) (xfN hX20 hf111 (by decide)) (by decide) rfl (Or.inl ⟨rfl, rfl⟩) rfl w_149 (by decide) (by decide) (by decide) 11 74471 (by decide) (show 58087 + ln 111 = 74471 from by decide) (Nat.le_of_ble_eq_true rfl) (Nat.le_of_ble_eq_true rfl) dX10_init_95 (fun _ e => ⟨by simp only [rV, xaN e 100 (by decide)], by simp only [rV, xaN e 100 (by decide)]⟩) (fun E21 s12 e21 => ?_)
  have hX21 : Ext E E21 [101, 102, 103, 104, 105, 106, 107, 108, 109, 110, 111] [(100, 1), (100, 3), (100, 12), (100, 13), (100, 14), (100, 15), (100, 16), (100, 17), (100, 18), (100, 25)] := hX20.trans e21
  refine k_putr (b := 111) (fun F => [(0, rV F 100)]) (fun F => []) rfl rfl gc_X10_46 hin rfl (xoN hX21) (xmO hX21 hm100) rfl (xmN hX21 (by simp)) rfl (ft_of rfl rfl) rfl rfl dX10_init_97 (fun _ e => ⟨by simp only [rV, xaN e 100 (by simp)], rfl⟩) (fun E22 e22 => ?_)
  have hX22 : Ext E E22 [101, 102, 103, 104, 105, 106, 107, 108, 109, 110, 111] [(100, 1), (100, 3), (100, 12), (100, 13), (100, 14), (100, 15), (100, 16), (100, 17), (100, 18), (100, 25), (100, 26)] := hX21.trans e22
  refine s_aload_n dX10_init_100 0 rfl rfl ?_
  refine s_iconst (v := 3) dX10_init_101 (by decide) ?_
  refine k_newa (a := 112) (atype := .boolean) (fun F => [(0, rV F 100)]) (fun F => [rV F 100]) rfl rfl hq (xoN hX22) (xfN hX22 hf112 (by decide)) (by decide) rfl (Or.inr (Or.inr ⟨rfl, rfl⟩)) rfl w_1179 (by decide) (by decide) (by decide) 12 74474 (by decide) (show 74471 + ln 112 = 74474 from by decide) (Nat.le_of_ble_eq_true rfl) (Nat.le_of_ble_eq_true rfl) dX10_init_102 (fun _ e => ⟨by simp only [rV, xaN e 100 (by decide)], by simp only [rV, xaN e 100 (by decide)]⟩) (fun E23 s13 e23 => ?_)
  have hX23 : Ext E E23 [101, 102, 103, 104, 105, 106, 107, 108, 109, 110, 111, 112] [(100, 1), (100, 3), (100, 12), (100, 13), (100, 14), (100, 15), (100, 16), (100, 17), (100, 18), (100, 25), (100, 26)] := hX22.trans e23
  refine k_putr (b := 112) (fun F => [(0, rV F 100)]) (fun F => []) rfl rfl gc_X10_49 hin rfl (xoN hX23) (xmO hX23 hm100) rfl (xmN hX23 (by simp)) rfl (ft_of rfl rfl) rfl rfl dX10_init_104 (fun _ e => ⟨by simp only [rV, xaN e 100 (by simp)], rfl⟩) (fun E24 e24 => ?_)
  have hX24 : Ext E E24 [101, 102, 103, 104, 105, 106, 107, 108, 109, 110, 111, 112] [(100, 1), (100, 3), (100, 12), (100, 13), (100, 14), (100, 15), (100, 16), (100, 17), (100, 18), (100, 25), (100, 26), (100, 28)] := hX23.trans e24
  refine s_aload_n dX10_init_107 0 rfl rfl ?_
  refine s_iconst (v := 3) dX10_init_108 (by decide) ?_
  refine k_newa (a := 113) (atype := .int) (fun F => [(0, rV F 100)]) (fun F => [rV F 100]) rfl rfl hq (xoN hX24) (xfN hX24 hf113 (by decide)) (by decide) rfl (Or.inl ⟨rfl, rfl⟩) rfl w_149 (by decide) (by decide) (by decide) 13 74477 (by decide) (show 74474 + ln 113 = 74477 from by decide) (Nat.le_of_ble_eq_true rfl) (Nat.le_of_ble_eq_true rfl) dX10_init_109 (fun _ e => ⟨by simp only [rV, xaN e 100 (by decide)], by simp only [rV, xaN e 100 (by decide)]⟩) (fun E25 s14 e25 => ?_)
  have hX25 : Ext E E25 [101, 102, 103, 104, 105, 106, 107, 108, 109, 110, 111, 112, 113] [(100, 1), (100, 3), (100, 12), (100, 13), (100, 14), (100, 15), (100, 16), (100, 17), (100, 18), (100, 25), (100, 26), (100, 28)] := hX24.trans e25
  refine k_putr (b := 113) (fun F => [(0, rV F 100)]) (fun F => []) rfl rfl gc_X10_52 hin rfl (xoN hX25) (xmO hX25 hm100) rfl (xmN hX25 (by simp)) rfl (ft_of rfl rfl) rfl rfl dX10_init_111 (fun _ e => ⟨by simp only [rV, xaN e 100 (by simp)], rfl⟩) (fun E26 e26 => ?_)
  have hX26 : Ext E E26 [101, 102, 103, 104, 105, 106, 107, 108, 109, 110, 111, 112, 113] [(100, 1), (100, 3), (100, 12), (100, 13), (100, 14), (100, 15), (100, 16), (100, 17), (100, 18), (100, 25), (100, 26), (100, 28), (100, 29)] := hX25.trans e26
  refine s_aload_n dX10_init_114 0 rfl rfl ?_
  refine s_iconst (v := 3) dX10_init_115 (by decide) ?_
  refine k_newa (a := 114) (atype := .int) (fun F => [(0, rV F 100)]) (fun F => [rV F 100]) rfl rfl hq (xoN hX26) (xfN hX26 hf114 (by decide)) (by decide) rfl (Or.inl ⟨rfl, rfl⟩) rfl w_149 (by decide) (by decide) (by decide) 14 74480 (by decide) (show 74477 + ln 114 = 74480 from by decide) (Nat.le_of_ble_eq_true rfl) (Nat.le_of_ble_eq_true rfl) dX10_init_116 (fun _ e => ⟨by simp only [rV, xaN e 100 (by decide)], by simp only [rV, xaN e 100 (by decide)]⟩) (fun E27 s15 e27 => ?_)
  have hX27 : Ext E E27 [101, 102, 103, 104, 105, 106, 107, 108, 109, 110, 111, 112, 113, 114] [(100, 1), (100, 3), (100, 12), (100, 13), (100, 14), (100, 15), (100, 16), (100, 17), (100, 18), (100, 25), (100, 26), (100, 28), (100, 29)] := hX26.trans e27
  refine k_putr (b := 114) (fun F => [(0, rV F 100)]) (fun F => []) rfl rfl gc_X10_55 hin rfl (xoN hX27) (xmO hX27 hm100) rfl (xmN hX27 (by simp)) rfl (ft_of rfl rfl) rfl rfl dX10_init_118 (fun _ e => ⟨by simp only [rV, xaN e 100 (by simp)], rfl⟩) (fun E28 e28 => ?_)
  have hX28 : Ext E E28 [101, 102, 103, 104, 105, 106, 107, 108, 109, 110, 111, 112, 113, 114] [(100, 1), (100, 3), (100, 12), (100, 13), (100, 14), (100, 15), (100, 16), (100, 17), (100, 18), (100, 25), (100, 26), (100, 28), (100, 29), (100, 30)] := hX27.trans e28
  refine s_aload_n dX10_init_121 0 rfl rfl ?_
  refine s_bipush (v := 8) dX10_init_122 (by decide) ?_
  refine k_newa (a := 115) (atype := .int) (fun F => [(0, rV F 100)]) (fun F => [rV F 100]) rfl rfl hq (xoN hX28) (xfN hX28 hf115 (by decide)) (by decide) rfl (Or.inl ⟨rfl, rfl⟩) rfl w_149 (by decide) (by decide) (by decide) 15 74488 (by decide) (show 74480 + ln 115 = 74488 from by decide) (Nat.le_of_ble_eq_true rfl) (Nat.le_of_ble_eq_true rfl) dX10_init_124 (fun _ e => ⟨by simp only [rV, xaN e 100 (by decide)], by simp only [rV, xaN e 100 (by decide)]⟩) (fun E29 s16 e29 => ?_)
  have hX29 : Ext E E29 [101, 102, 103, 104, 105, 106, 107, 108, 109, 110, 111, 112, 113, 114, 115] [(100, 1), (100, 3), (100, 12), (100, 13), (100, 14), (100, 15), (100, 16), (100, 17), (100, 18), (100, 25), (100, 26), (100, 28), (100, 29), (100, 30)] := hX28.trans e29
  refine k_putr (b := 115) (fun F => [(0, rV F 100)]) (fun F => []) rfl rfl gc_X10_58 hin rfl (xoN hX29) (xmO hX29 hm100) rfl (xmN hX29 (by simp)) rfl (ft_of rfl rfl) rfl rfl dX10_init_126 (fun _ e => ⟨by simp only [rV, xaN e 100 (by simp)], rfl⟩) (fun E30 e30 => ?_)
  have hX30 : Ext E E30 [101, 102, 103, 104, 105, 106, 107, 108, 109, 110, 111, 112, 113, 114, 115] [(100, 1), (100, 3), (100, 12), (100, 13), (100, 14), (100, 15), (100, 16), (100, 17), (100, 18), (100, 25), (100, 26), (100, 28), (100, 29), (100, 30), (100, 31)] := hX29.trans e30
  refine s_aload_n dX10_init_129 0 rfl rfl ?_
  refine s_sipush (v := 256) dX10_init_130 (by decide) ?_
  refine k_newa (a := 116) (atype := .int) (fun F => [(0, rV F 100)]) (fun F => [rV F 100]) rfl rfl hq (xoN hX30) (xfN hX30 hf116 (by decide)) (by decide) rfl (Or.inl ⟨rfl, rfl⟩) rfl w_149 (by decide) (by decide) (by decide) 16 74744 (by decide) (show 74488 + ln 116 = 74744 from by decide) (Nat.le_of_ble_eq_true rfl) (Nat.le_of_ble_eq_true rfl) dX10_init_133 (fun _ e => ⟨by simp only [rV, xaN e 100 (by decide)], by simp only [rV, xaN e 100 (by decide)]⟩) (fun E31 s17 e31 => ?_)
  have hX31 : Ext E E31 [101, 102, 103, 104, 105, 106, 107, 108, 109, 110, 111, 112, 113, 114, 115, 116] [(100, 1), (100, 3), (100, 12), (100, 13), (100, 14), (100, 15), (100, 16), (100, 17), (100, 18), (100, 25), (100, 26), (100, 28), (100, 29), (100, 30), (100, 31)] := hX30.trans e31
  refine k_putr (b := 116) (fun F => [(0, rV F 100)]) (fun F => []) rfl rfl gc_X10_61 hin rfl (xoN hX31) (xmO hX31 hm100) rfl (xmN hX31 (by simp)) rfl (ft_of rfl rfl) rfl rfl dX10_init_135 (fun _ e => ⟨by simp only [rV, xaN e 100 (by simp)], rfl⟩) (fun E32 e32 => ?_)
  have hX32 : Ext E E32 [101, 102, 103, 104, 105, 106, 107, 108, 109, 110, 111, 112, 113, 114, 115, 116] [(100, 1), (100, 3), (100, 12), (100, 13), (100, 14), (100, 15), (100, 16), (100, 17), (100, 18), (100, 25), (100, 26), (100, 28), (100, 29), (100, 30), (100, 31), (100, 32)] := hX31.trans e32
  refine s_aload_n dX10_init_138 0 rfl rfl ?_
  refine s_sipush (v := 2048) dX10_init_139 (by decide) ?_
  refine k_newa (a := 117) (atype := .int) (fun F => [(0, rV F 100)]) (fun F => [rV F 100]) rfl rfl hq (xoN hX32) (xfN hX32 hf117 (by decide)) (by decide) rfl (Or.inl ⟨rfl, rfl⟩) rfl w_149 (by decide) (by decide) (by decide) 17 76792 (by decide) (show 74744 + ln 117 = 76792 from by decide) (Nat.le_of_ble_eq_true rfl) (Nat.le_of_ble_eq_true rfl) dX10_init_142 (fun _ e => ⟨by simp only [rV, xaN e 100 (by decide)], by simp only [rV, xaN e 100 (by decide)]⟩) (fun E33 s18 e33 => ?_)
  have hX33 : Ext E E33 [101, 102, 103, 104, 105, 106, 107, 108, 109, 110, 111, 112, 113, 114, 115, 116, 117] [(100, 1), (100, 3), (100, 12), (100, 13), (100, 14), (100, 15), (100, 16), (100, 17), (100, 18), (100, 25), (100, 26), (100, 28), (100, 29), (100, 30), (100, 31), (100, 32)] := hX32.trans e33
  refine k_putr (b := 117) (fun F => [(0, rV F 100)]) (fun F => []) rfl rfl gc_X10_64 hin rfl (xoN hX33) (xmO hX33 hm100) rfl (xmN hX33 (by simp)) rfl (ft_of rfl rfl) rfl rfl dX10_init_144 (fun _ e => ⟨by simp only [rV, xaN e 100 (by simp)], rfl⟩) (fun E34 e34 => ?_)
  have hX34 : Ext E E34 [101, 102, 103, 104, 105, 106, 107, 108, 109, 110, 111, 112, 113, 114, 115, 116, 117] [(100, 1), (100, 3), (100, 12), (100, 13), (100, 14), (100, 15), (100, 16), (100, 17), (100, 18), (100, 25), (100, 26), (100, 28), (100, 29), (100, 30), (100, 31), (100, 32), (100, 33)] := hX33.trans e34
  refine s_aload_n dX10_init_147 0 rfl rfl ?_
  refine s_bipush (v := 8) dX10_init_148 (by decide) ?_
  refine k_newa (a := 118) (atype := .int) (fun F => [(0, rV F 100)]) (fun F => [rV F 100]) rfl rfl hq (xoN hX34) (xfN hX34 hf118 (by decide)) (by decide) rfl (Or.inl ⟨rfl, rfl⟩) rfl w_149 (by decide) (by decide) (by decide) 18 76800 (by decide) (show 76792 + ln 118 = 76800 from by decide) (Nat.le_of_ble_eq_true rfl) (Nat.le_of_ble_eq_true rfl) dX10_init_150 (fun _ e => ⟨by simp only [rV, xaN e 100 (by decide)], by simp only [rV, xaN e 100 (by decide)]⟩) (fun E35 s19 e35 => ?_)
  have hX35 : Ext E E35 [101, 102, 103, 104, 105, 106, 107, 108, 109, 110, 111, 112, 113, 114, 115, 116, 117, 118] [(100, 1), (100, 3), (100, 12), (100, 13), (100, 14), (100, 15), (100, 16), (100, 17), (100, 18), (100, 25), (100, 26), (100, 28), (100, 29), (100, 30), (100, 31), (100, 32), (100, 33)] := hX34.trans e35
  refine k_putr (b := 118) (fun F => [(0, rV F 100)]) (fun F => []) rfl rfl gc_X10_67 hin rfl (xoN hX35) (xmO hX35 hm100) rfl (xmN hX35 (by simp)) rfl (ft_of rfl rfl) rfl rfl dX10_init_152 (fun _ e => ⟨by simp only [rV, xaN e 100 (by simp)], rfl⟩) (fun E36 e36 => ?_)
  have hX36 : Ext E E36 [101, 102, 103, 104, 105, 106, 107, 108, 109, 110, 111, 112, 113, 114, 115, 116, 117, 118] [(100, 1), (100, 3), (100, 12), (100, 13), (100, 14), (100, 15), (100, 16), (100, 17), (100, 18), (100, 25), (100, 26), (100, 28), (100, 29), (100, 30), (100, 31), (100, 32), (100, 33), (100, 34)] := hX35.trans e36
  refine s_aload_n dX10_init_155 0 rfl rfl ?_
  refine s_ldc (v := 65536) rfl w_1054 dX10_init_156 ?_
  refine k_newa (a := 119) (atype := .boolean) (fun F => [(0, rV F 100)]) (fun F => [rV F 100]) rfl rfl hq (xoN hX36) (xfN hX36 hf119 (by decide)) (by decide) rfl (Or.inr (Or.inr ⟨rfl, rfl⟩)) rfl w_1179 (by decide) (by decide) (by decide) 19 142336 (by decide) (show 76800 + ln 119 = 142336 from by decide) (Nat.le_of_ble_eq_true rfl) (Nat.le_of_ble_eq_true rfl) dX10_init_158 (fun _ e => ⟨by simp only [rV, xaN e 100 (by decide)], by simp only [rV, xaN e 100 (by decide)]⟩) (fun E37 s20 e37 => ?_)
  have hX37 : Ext E E37 [101, 102, 103, 104, 105, 106, 107, 108, 109, 110, 111, 112, 113, 114, 115, 116, 117, 118, 119] [(100, 1), (100, 3), (100, 12), (100, 13), (100, 14), (100, 15), (100, 16), (100, 17), (100, 18), (100, 25), (100, 26), (100, 28), (100, 29), (100, 30), (100, 31), (100, 32), (100, 33), (100, 34)] := hX36.trans e37
  refine k_putr (b := 119) (fun F => [(0, rV F 100)]) (fun F => []) rfl rfl gc_X10_71 hin rfl (xoN hX37) (xmO hX37 hm100) rfl (xmN hX37 (by simp)) rfl (ft_of rfl rfl) rfl rfl dX10_init_160 (fun _ e => ⟨by simp only [rV, xaN e 100 (by simp)], rfl⟩) (fun E38 e38 => ?_)
  have hX38 : Ext E E38 [101, 102, 103, 104, 105, 106, 107, 108, 109, 110, 111, 112, 113, 114, 115, 116, 117, 118, 119] [(100, 1), (100, 3), (100, 12), (100, 13), (100, 14), (100, 15), (100, 16), (100, 17), (100, 18), (100, 25), (100, 26), (100, 28), (100, 29), (100, 30), (100, 31), (100, 32), (100, 33), (100, 34), (100, 37)] := hX37.trans e38
  refine s_aload_n dX10_init_163 0 rfl rfl ?_
  refine s_sipush (v := 512) dX10_init_164 (by decide) ?_
  refine k_newa (a := 120) (atype := .boolean) (fun F => [(0, rV F 100)]) (fun F => [rV F 100]) rfl rfl hq (xoN hX38) (xfN hX38 hf120 (by decide)) (by decide) rfl (Or.inr (Or.inr ⟨rfl, rfl⟩)) rfl w_1179 (by decide) (by decide) (by decide) 20 142848 (by decide) (show 142336 + ln 120 = 142848 from by decide) (Nat.le_of_ble_eq_true rfl) (Nat.le_of_ble_eq_true rfl) dX10_init_167 (fun _ e => ⟨by simp only [rV, xaN e 100 (by decide)], by simp only [rV, xaN e 100 (by decide)]⟩) (fun E39 s21 e39 => ?_)
  have hX39 : Ext E E39 [101, 102, 103, 104, 105, 106, 107, 108, 109, 110, 111, 112, 113, 114, 115, 116, 117, 118, 119, 120] [(100, 1), (100, 3), (100, 12), (100, 13), (100, 14), (100, 15), (100, 16), (100, 17), (100, 18), (100, 25), (100, 26), (100, 28), (100, 29), (100, 30), (100, 31), (100, 32), (100, 33), (100, 34), (100, 37)] := hX38.trans e39
  refine k_putr (b := 120) (fun F => [(0, rV F 100)]) (fun F => []) rfl rfl gc_X10_74 hin rfl (xoN hX39) (xmO hX39 hm100) rfl (xmN hX39 (by simp)) rfl (ft_of rfl rfl) rfl rfl dX10_init_169 (fun _ e => ⟨by simp only [rV, xaN e 100 (by simp)], rfl⟩) (fun E40 e40 => ?_)
  have hX40 : Ext E E40 [101, 102, 103, 104, 105, 106, 107, 108, 109, 110, 111, 112, 113, 114, 115, 116, 117, 118, 119, 120] [(100, 1), (100, 3), (100, 12), (100, 13), (100, 14), (100, 15), (100, 16), (100, 17), (100, 18), (100, 25), (100, 26), (100, 28), (100, 29), (100, 30), (100, 31), (100, 32), (100, 33), (100, 34), (100, 37), (100, 38)] := hX39.trans e40
  refine s_aload_n dX10_init_172 0 rfl rfl ?_
  refine s_sipush (v := 256) dX10_init_173 (by decide) ?_
  refine k_newa (a := 121) (atype := .boolean) (fun F => [(0, rV F 100)]) (fun F => [rV F 100]) rfl rfl hq (xoN hX40) (xfN hX40 hf121 (by decide)) (by decide) rfl (Or.inr (Or.inr ⟨rfl, rfl⟩)) rfl w_1179 (by decide) (by decide) (by decide) 21 143104 (by decide) (show 142848 + ln 121 = 143104 from by decide) (Nat.le_of_ble_eq_true rfl) (Nat.le_of_ble_eq_true rfl) dX10_init_176 (fun _ e => ⟨by simp only [rV, xaN e 100 (by decide)], by simp only [rV, xaN e 100 (by decide)]⟩) (fun E41 s22 e41 => ?_)
  have hX41 : Ext E E41 [101, 102, 103, 104, 105, 106, 107, 108, 109, 110, 111, 112, 113, 114, 115, 116, 117, 118, 119, 120, 121] [(100, 1), (100, 3), (100, 12), (100, 13), (100, 14), (100, 15), (100, 16), (100, 17), (100, 18), (100, 25), (100, 26), (100, 28), (100, 29), (100, 30), (100, 31), (100, 32), (100, 33), (100, 34), (100, 37), (100, 38)] := hX40.trans e41
  refine k_putr (b := 121) (fun F => [(0, rV F 100)]) (fun F => []) rfl rfl gc_X10_77 hin rfl (xoN hX41) (xmO hX41 hm100) rfl (xmN hX41 (by simp)) rfl (ft_of rfl rfl) rfl rfl dX10_init_178 (fun _ e => ⟨by simp only [rV, xaN e 100 (by simp)], rfl⟩) (fun E42 e42 => ?_)
  have hX42 : Ext E E42 [101, 102, 103, 104, 105, 106, 107, 108, 109, 110, 111, 112, 113, 114, 115, 116, 117, 118, 119, 120, 121] [(100, 1), (100, 3), (100, 12), (100, 13), (100, 14), (100, 15), (100, 16), (100, 17), (100, 18), (100, 25), (100, 26), (100, 28), (100, 29), (100, 30), (100, 31), (100, 32), (100, 33), (100, 34), (100, 37), (100, 38), (100, 39)] := hX41.trans e42
  refine s_aload_n dX10_init_181 0 rfl rfl ?_
  refine s_sipush (v := 256) dX10_init_182 (by decide) ?_
  refine k_newa (a := 122) (atype := .boolean) (fun F => [(0, rV F 100)]) (fun F => [rV F 100]) rfl rfl hq (xoN hX42) (xfN hX42 hf122 (by decide)) (by decide) rfl (Or.inr (Or.inr ⟨rfl, rfl⟩)) rfl w_1179 (by decide) (by decide) (by decide) 22 143360 (by decide) (show 143104 + ln 122 = 143360 from by decide) (Nat.le_of_ble_eq_true rfl) (Nat.le_of_ble_eq_true rfl) dX10_init_185 (fun _ e => ⟨by simp only [rV, xaN e 100 (by decide)], by simp only [rV, xaN e 100 (by decide)]⟩) (fun E43 s23 e43 => ?_)
  have hX43 : Ext E E43 [101, 102, 103, 104, 105, 106, 107, 108, 109, 110, 111, 112, 113, 114, 115, 116, 117, 118, 119, 120, 121, 122] [(100, 1), (100, 3), (100, 12), (100, 13), (100, 14), (100, 15), (100, 16), (100, 17), (100, 18), (100, 25), (100, 26), (100, 28), (100, 29), (100, 30), (100, 31), (100, 32), (100, 33), (100, 34), (100, 37), (100, 38), (100, 39)] := hX42.trans e43
  refine k_putr (b := 122) (fun F => [(0, rV F 100)]) (fun F => []) rfl rfl gc_X10_80 hin rfl (xoN hX43) (xmO hX43 hm100) rfl (xmN hX43 (by simp)) rfl (ft_of rfl rfl) rfl rfl dX10_init_187 (fun _ e => ⟨by simp only [rV, xaN e 100 (by simp)], rfl⟩) (fun E44 e44 => ?_)
  have hX44 : Ext E E44 [101, 102, 103, 104, 105, 106, 107, 108, 109, 110, 111, 112, 113, 114, 115, 116, 117, 118, 119, 120, 121, 122] [(100, 1), (100, 3), (100, 12), (100, 13), (100, 14), (100, 15), (100, 16), (100, 17), (100, 18), (100, 25), (100, 26), (100, 28), (100, 29), (100, 30), (100, 31), (100, 32), (100, 33), (100, 34), (100, 37), (100, 38), (100, 39), (100, 40)] := hX43.trans e44
  exact k_ret rfl rfl rfl rfl hX44 dX10_init_190
