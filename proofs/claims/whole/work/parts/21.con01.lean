set_option maxRecDepth 100000 in
set_option maxHeartbeats 4000000 in
theorem c_f_Ru_close (l : Launch) (t : Nat) (ht : TR t) (x1 : Int32) (x2 : Int32) (x3 : Int32) : CTV l (0) yX7_close cX7_close 4 (none) (fun P => [rf P t, .int x1, .int x2, .int x3]) (fun σ => f_Ru_close t x1 x2 x3 σ) := by
  refine met_V rfl rfl rfl (fun P => Nat.le_of_ble_eq_true rfl) (fun P G K hg σ => ?_)
  change AW P G 4 (EV P G cX7_close) (f_Ru_close t x1 x2 x3 σ) σ 0 [(0, rf P t), (1, .int x1), (2, .int x2), (3, .int x3)] []
  rw [f_Ru_close]
  refine aw_aload_n K 0 dX7_close_0 rfl ?_
  refine aw_getI K dX7_close_1 lk_X7_30_7 (fd_Ru_0 ht) ?_
  refine aw_bipush K dX7_close_4 kb_8 ?_
  refine aw_icmp_ge K 62 dX7_close_6 (by decide) (fun h_1 => ?_) (fun h_1 => ?_)
  · exact aw_vret dX7_close_62
  · refine aw_aload_n K 0 dX7_close_9 rfl ?_
    refine aw_getR K (c' := t + 1) dX7_close_10 lk_X7_9_7 (fd_Ru_1 ht) ?_
    refine aw_aload_n K 0 dX7_close_13 rfl ?_
    refine aw_getI K dX7_close_14 lk_X7_30_7 (fd_Ru_0 ht) ?_
    refine aw_iload_n K 1 dX7_close_17 rfl ?_
    refine aw_gd (fun h_2 => ?_)
    refine aw_ast K dX7_close_18 (kd_Ru_1 ht) h_2 rfl (fun σ1 => ?_)
    refine aw_aload_n K 0 dX7_close_19 rfl ?_
    refine aw_getR K (c' := t + 2) dX7_close_20 lk_X7_15_7 (fd_Ru_2 ht) ?_
    refine aw_aload_n K 0 dX7_close_23 rfl ?_
    refine aw_getI K dX7_close_24 lk_X7_30_7 (fd_Ru_0 ht) ?_
    refine aw_iload_n K 2 dX7_close_27 rfl ?_
    refine aw_gd (fun h_3 => ?_)
    refine aw_ast K dX7_close_28 (kd_Ru_2 ht) h_3 rfl (fun σ2 => ?_)
    refine aw_aload_n K 0 dX7_close_29 rfl ?_
    refine aw_getR K (c' := t + 3) dX7_close_30 lk_X7_18_7 (fd_Ru_3 ht) ?_
    refine aw_aload_n K 0 dX7_close_33 rfl ?_
    refine aw_getI K dX7_close_34 lk_X7_30_7 (fd_Ru_0 ht) ?_
    refine aw_iload_n K 3 dX7_close_37 rfl ?_
    refine aw_gd (fun h_4 => ?_)
    refine aw_ast K dX7_close_38 (kd_Ru_3 ht) h_4 rfl (fun σ3 => ?_)
    refine aw_aload_n K 0 dX7_close_39 rfl ?_
    refine aw_getR K (c' := t + 4) dX7_close_40 lk_X7_21_7 (fd_Ru_4 ht) ?_
    refine aw_aload_n K 0 dX7_close_43 rfl ?_
    refine aw_getI K dX7_close_44 lk_X7_30_7 (fd_Ru_0 ht) ?_
    refine aw_aload_n K 0 dX7_close_47 rfl ?_
    refine aw_getI K dX7_close_48 lk_X7_34_7 (fd_Ru_5 ht) ?_
    refine aw_gd (fun h_5 => ?_)
    refine aw_ast K dX7_close_51 (kd_Ru_4 ht) h_5 rfl (fun σ4 => ?_)
    refine aw_aload_n K 0 dX7_close_52 rfl ?_
    refine aw_dup K dX7_close_53 rfl ?_
    refine aw_getI K dX7_close_54 lk_X7_30_7 (fd_Ru_0 ht) ?_
    refine aw_iconst K dX7_close_57 ki_1 ?_
    refine aw_iadd K dX7_close_58 ?_
    refine aw_putI K dX7_close_59 lp_X7_30_7 (fd_Ru_0 ht) (fun σ5 => ?_)
    exact aw_vret dX7_close_62
set_option maxRecDepth 100000 in
set_option maxHeartbeats 4000000 in
theorem c_f_Rt_isValue (l : Launch) (x0 : Int32) : CTI l (0) yX6_isValue cX6_isValue 1 ((some .boolean)) (fun P => [.int x0]) (fun σ => f_Rt_isValue x0 σ) := by
  refine met_Z rfl rfl rfl (fun P => Nat.le_of_ble_eq_true rfl) (fun P G K hg σ => ?_)
  change AW P G 1 (EZ P G cX6_isValue) (f_Rt_isValue x0 σ) σ 0 [(0, .int x0)] []
  rw [f_Rt_isValue]
  refine aw_iload_n K 0 dX6_isValue_0 rfl ?_
  refine aw_sipush K dX6_isValue_1 ks_10005 ?_
  refine aw_icmp_ge K 11 dX6_isValue_4 (by decide) (fun h_1 => ?_) (fun h_1 => ?_)
  · refine aw_iconst K dX6_isValue_11 ki_0 ?_
    exact aw_zret dX6_isValue_12 (by decide)
  · refine aw_iconst K dX6_isValue_7 ki_1 ?_
    refine aw_goto K 12 dX6_isValue_8 (by decide) ?_
    exact aw_zret dX6_isValue_12 (by decide)
set_option maxRecDepth 100000 in
set_option maxHeartbeats 4000000 in
theorem c_f_Ru_add (l : Launch) (t : Nat) (ht : TR t) (x1 : Int32) : CTV l (0) yX7_add cX7_add 2 (none) (fun P => [rf P t, .int x1]) (fun σ => f_Ru_add t x1 σ) := by
  refine met_V rfl rfl rfl (fun P => Nat.le_of_ble_eq_true rfl) (fun P G K hg σ => ?_)
  change AW P G 2 (EV P G cX7_add) (f_Ru_add t x1 σ) σ 0 [(0, rf P t), (1, .int x1)] []
  rw [f_Ru_add]
  refine aw_aload_n K 0 dX7_add_0 rfl ?_
  refine aw_getI K dX7_add_1 lk_X7_34_7 (fd_Ru_5 ht) ?_
  refine aw_aload_n K 0 dX7_add_4 rfl ?_
  refine aw_getR K (c' := t + 5) dX7_add_5 lk_X7_24_7 (fd_Ru_6 ht) ?_
  refine aw_alen K (v := (200 : Int32)) dX7_add_8 (kd_Ru_6 ht) (by decide) (by decide) ?_
  refine aw_icmp_ge K 32 dX7_add_9 (by decide) (fun h_1 => ?_) (fun h_1 => ?_)
  · exact aw_vret dX7_add_32
  · refine aw_aload_n K 0 dX7_add_12 rfl ?_
    refine aw_getR K (c' := t + 5) dX7_add_13 lk_X7_24_7 (fd_Ru_6 ht) ?_
    refine aw_aload_n K 0 dX7_add_16 rfl ?_
    refine aw_getI K dX7_add_17 lk_X7_34_7 (fd_Ru_5 ht) ?_
    refine aw_iload_n K 1 dX7_add_20 rfl ?_
    refine aw_gd (fun h_2 => ?_)
    refine aw_ast K dX7_add_21 (kd_Ru_6 ht) h_2 rfl (fun σ1 => ?_)
    refine aw_aload_n K 0 dX7_add_22 rfl ?_
    refine aw_dup K dX7_add_23 rfl ?_
    refine aw_getI K dX7_add_24 lk_X7_34_7 (fd_Ru_5 ht) ?_
    refine aw_iconst K dX7_add_27 ki_1 ?_
    refine aw_iadd K dX7_add_28 ?_
    refine aw_putI K dX7_add_29 lp_X7_34_7 (fd_Ru_5 ht) (fun σ2 => ?_)
    exact aw_vret dX7_add_32
set_option maxRecDepth 100000 in
set_option maxHeartbeats 4000000 in
theorem c_f_Rt_readComparison (l : Launch) : CTI l (1) yX6_readComparison cX6_readComparison 4 ((some .boolean)) (fun P => [rf P 130]) (fun σ => f_Rt_readComparison σ) := by
  refine met_Z rfl rfl rfl (fun P => Nat.le_of_ble_eq_true rfl) (fun P G K hg σ => ?_)
  change AW P G 4 (EZ P G cX6_readComparison) (f_Rt_readComparison σ) σ 0 [(0, rf P 130)] []
  rw [f_Rt_readComparison]
  refine aw_aload_n K 0 dX6_readComparison_0 rfl ?_
  refine aw_getR K (c' := 132) dX6_readComparison_1 lk_X6_17_6 fd_130_2 ?_
  refine aw_aload_n K 0 dX6_readComparison_4 rfl ?_
  refine aw_getI K dX6_readComparison_5 lk_X6_35_6 fd_130_4 ?_
  refine aw_gd (fun h_1 => ?_)
  refine aw_ald K dX6_readComparison_8 ad_132 h_1 rfl ?_
  refine aw_istoreX_n K (i := 1) (lv' := fun y1 => [(1, .int y1), (0, rf P 130)]) dX6_readComparison_9 rfl (Nat.le_of_ble_eq_true rfl) (fun _ => rfl) (fun y1 => ?_)
  refine aw_iload_n K 0 dX6_readComparison_10 rfl ?_
  refine aw_callSI K dX6_readComparison_11 vw_X6_143 (c_f_Rt_isValue l _) hg (by decide) rfl (Nat.le_of_ble_eq_true rfl) rfl rfl (fun r3 σ2 _ => ?_)
  refine aw_if_ne K 19 dX6_readComparison_14 (by decide) (fun h_2 => ?_) (fun h_2 => ?_)
  · refine aw_aload_n K 1 dX6_readComparison_19 rfl ?_
    refine aw_dup K dX6_readComparison_20 rfl ?_
    refine aw_getI K dX6_readComparison_21 lk_X6_35_6 fd_130_4 ?_
    refine aw_iconst K dX6_readComparison_24 ki_1 ?_
    refine aw_iadd K dX6_readComparison_25 ?_
    refine aw_putI K dX6_readComparison_26 lp_X6_35_6 fd_130_4 (fun σ4 => ?_)
    refine aw_aload_n K 1 dX6_readComparison_29 rfl ?_
    refine aw_getR K (c' := 132) dX6_readComparison_30 lk_X6_17_6 fd_130_2 ?_
    refine aw_aload_n K 1 dX6_readComparison_33 rfl ?_
    refine aw_getI K dX6_readComparison_34 lk_X6_35_6 fd_130_4 ?_
    refine aw_gd (fun h_3 => ?_)
    refine aw_ald K dX6_readComparison_37 ad_132 h_3 rfl ?_
    refine aw_sipush K dX6_readComparison_38 ks_20060 ?_
    refine aw_isub K dX6_readComparison_41 ?_
    refine aw_istoreX_n K (i := 2) (lv' := fun y5 => [(2, .int y5), (1, .int y1), (0, rf P 130)]) dX6_readComparison_42 rfl (Nat.le_of_ble_eq_true rfl) (fun _ => rfl) (fun y5 => ?_)
    refine aw_iload_n K 0 dX6_readComparison_43 rfl ?_
    refine aw_iconst K dX6_readComparison_44 ki_0 ?_
    refine aw_iconst K dX6_readComparison_45 ki_2 ?_
    refine aw_callNI K dX6_readComparison_46 vw_X6_116 (c_f_H_isIn l _ _ _) hg (by decide) rfl (Nat.le_of_ble_eq_true rfl) rfl rfl (fun r7 σ6 _ => ?_)
    refine aw_if_ne K 54 dX6_readComparison_49 (by decide) (fun h_4 => ?_) (fun h_4 => ?_)
    · refine aw_aload_n K 2 dX6_readComparison_54 rfl ?_
      refine aw_dup K dX6_readComparison_55 rfl ?_
      refine aw_getI K dX6_readComparison_56 lk_X6_35_6 fd_130_4 ?_
      refine aw_iconst K dX6_readComparison_59 ki_1 ?_
      refine aw_iadd K dX6_readComparison_60 ?_
      refine aw_putI K dX6_readComparison_61 lp_X6_35_6 fd_130_4 (fun σ8 => ?_)
      refine aw_aload_n K 2 dX6_readComparison_64 rfl ?_
      refine aw_getR K (c' := 132) dX6_readComparison_65 lk_X6_17_6 fd_130_2 ?_
      refine aw_aload_n K 2 dX6_readComparison_68 rfl ?_
      refine aw_getI K dX6_readComparison_69 lk_X6_35_6 fd_130_4 ?_
      refine aw_gd (fun h_5 => ?_)
      refine aw_ald K dX6_readComparison_72 ad_132 h_5 rfl ?_
      refine aw_istoreX_n K (i := 3) (lv' := fun y9 => [(3, .int y9), (2, .int y5), (1, .int y1), (0, rf P 130)]) dX6_readComparison_73 rfl (Nat.le_of_ble_eq_true rfl) (fun _ => rfl) (fun y9 => ?_)
      refine aw_iload_n K 0 dX6_readComparison_74 rfl ?_
      refine aw_callSI K dX6_readComparison_75 vw_X6_143 (c_f_Rt_isValue l _) hg (by decide) rfl (Nat.le_of_ble_eq_true rfl) rfl rfl (fun r11 σ10 _ => ?_)
      refine aw_if_ne K 83 dX6_readComparison_78 (by decide) (fun h_6 => ?_) (fun h_6 => ?_)
      · refine aw_aload_n K 3 dX6_readComparison_83 rfl ?_
        refine aw_dup K dX6_readComparison_84 rfl ?_
        refine aw_getI K dX6_readComparison_85 lk_X6_35_6 fd_130_4 ?_
        refine aw_iconst K dX6_readComparison_88 ki_1 ?_
        refine aw_iadd K dX6_readComparison_89 ?_
        refine aw_putI K dX6_readComparison_90 lp_X6_35_6 fd_130_4 (fun σ12 => ?_)
        refine aw_aload_n K 3 dX6_readComparison_93 rfl ?_
        refine aw_getR K (c' := 134) dX6_readComparison_94 lk_X6_24_6 fd_130_5 ?_
        refine aw_iload_n K 1 dX6_readComparison_97 rfl ?_
        refine aw_bipush K dX6_readComparison_98 kb_28 ?_
        refine aw_ishl K dX6_readComparison_100 ?_
        refine aw_iload_n K 2 dX6_readComparison_101 rfl ?_
        refine aw_bipush K dX6_readComparison_102 kb_14 ?_
        refine aw_ishl K dX6_readComparison_104 ?_
        refine aw_ior K dX6_readComparison_105 ?_
        refine aw_iload_n K 0 dX6_readComparison_106 rfl ?_
        refine aw_ior K dX6_readComparison_107 ?_
        refine aw_callVV K dX6_readComparison_108 vw_X6_130_7 (c_f_Ru_add l 134 TR.d _) hg (by decide) ob_134 rfl (Nat.le_of_ble_eq_true rfl) rfl rfl (fun _ σ13 _ => ?_)
        refine aw_iconst K dX6_readComparison_111 ki_1 ?_
        exact aw_zret dX6_readComparison_112 (by decide)
      · refine aw_iconst K dX6_readComparison_81 ki_0 ?_
        exact aw_zret dX6_readComparison_82 (by decide)
    · refine aw_iconst K dX6_readComparison_52 ki_0 ?_
      exact aw_zret dX6_readComparison_53 (by decide)
  · refine aw_iconst K dX6_readComparison_17 ki_0 ?_
    exact aw_zret dX6_readComparison_18 (by decide)
set_option maxRecDepth 100000 in
set_option maxHeartbeats 4000000 in
theorem c_f_Rt_readInner (l : Launch) {kR : Nat} {fR : Int32 → SG → Option (Int32 × SG)} (hfR : ∀ (z0 : Int32), CTI l kR yX6_readCondition cX6_readCondition 4 ((some .boolean)) (fun P => [rf P 130, .int z0]) (fun σ => fR z0 σ)) (hkR : 1 ≤ kR) (x1 : Int32) : CTI l (kR + 1) yX6_readInner cX6_readInner 2 ((some .boolean)) (fun P => [rf P 130, .int x1]) (fun σ => f_Rt_readInner fR x1 σ) := by
  refine met_Z rfl rfl rfl (fun P => Nat.le_of_ble_eq_true rfl) (fun P G K hg σ => ?_)
  change AW P G 2 (EZ P G cX6_readInner) (f_Rt_readInner fR x1 σ) σ 0 [(0, rf P 130), (1, .int x1)] []
  rw [f_Rt_readInner]
  refine aw_iload_n K 1 dX6_readInner_0 rfl ?_
  refine aw_iconst K dX6_readInner_1 ki_3 ?_
  refine aw_icmp_lt K 7 dX6_readInner_2 (by decide) (fun h_1 => ?_) (fun h_1 => ?_)
  · refine aw_aload_n K 0 dX6_readInner_7 rfl ?_
    refine aw_dup K dX6_readInner_8 rfl ?_
    refine aw_getI K dX6_readInner_9 lk_X6_35_6 fd_130_4 ?_
    refine aw_iconst K dX6_readInner_12 ki_1 ?_
    refine aw_iadd K dX6_readInner_13 ?_
    refine aw_putI K dX6_readInner_14 lp_X6_35_6 fd_130_4 (fun σ1 => ?_)
    refine aw_aload_n K 0 dX6_readInner_17 rfl ?_
    refine aw_iload_n K 1 dX6_readInner_18 rfl ?_
    refine aw_iconst K dX6_readInner_19 ki_1 ?_
    refine aw_iadd K dX6_readInner_20 ?_
    refine aw_callVI K dX6_readInner_21 vw_X6_120_6 (hfR _) hg (by omega) ob_130 rfl (Nat.le_of_ble_eq_true rfl) rfl rfl (fun r3 σ2 _ => ?_)
    refine aw_if_eq K 42 dX6_readInner_24 (by decide) (fun h_2 => ?_) (fun h_2 => ?_)
    · refine aw_iconst K dX6_readInner_42 ki_0 ?_
      exact aw_zret dX6_readInner_43 (by decide)
    · refine aw_aload_n K 0 dX6_readInner_27 rfl ?_
      refine aw_getR K (c' := 132) dX6_readInner_28 lk_X6_17_6 fd_130_2 ?_
      refine aw_aload_n K 0 dX6_readInner_31 rfl ?_
      refine aw_getI K dX6_readInner_32 lk_X6_35_6 fd_130_4 ?_
      refine aw_gd (fun h_3 => ?_)
      refine aw_ald K dX6_readInner_35 ad_132 h_3 rfl ?_
      refine aw_sipush K dX6_readInner_36 ks_20041 ?_
      refine aw_icmp_eq K 44 dX6_readInner_39 (by decide) (fun h_4 => ?_) (fun h_4 => ?_)
      · refine aw_aload_n K 0 dX6_readInner_44 rfl ?_
        refine aw_dup K dX6_readInner_45 rfl ?_
        refine aw_getI K dX6_readInner_46 lk_X6_35_6 fd_130_4 ?_
        refine aw_iconst K dX6_readInner_49 ki_1 ?_
        refine aw_iadd K dX6_readInner_50 ?_
        refine aw_putI K dX6_readInner_51 lp_X6_35_6 fd_130_4 (fun σ4 => ?_)
        refine aw_iconst K dX6_readInner_54 ki_1 ?_
        exact aw_zret dX6_readInner_55 (by decide)
      · refine aw_iconst K dX6_readInner_42 ki_0 ?_
        exact aw_zret dX6_readInner_43 (by decide)
  · refine aw_iconst K dX6_readInner_5 ki_0 ?_
    exact aw_zret dX6_readInner_6 (by decide)
set_option maxRecDepth 100000 in
set_option maxHeartbeats 4000000 in
theorem a_f_Rt_readOne_52 (l : Launch) {kR : Nat} {fR : Int32 → SG → Option (Int32 × SG)} (hfR : ∀ (z0 : Int32), CTI l kR yX6_readCondition cX6_readCondition 4 ((some .boolean)) (fun P => [rf P 130, .int z0]) (fun σ => fR z0 σ)) (hkR : 1 ≤ kR) {P : PT} {G : GT} (K : CX P G cX6_readOne RX6 (kR + 2) 4) (hg : gl G = l) : ∀ (x1 : Int32) (x2 : Int32) (σ : SG), AW P G 4 (EZ P G cX6_readOne) (f_Rt_readOne_52 fR x1 x2 σ) σ 52 [(0, rf P 130), (1, .int x1), (2, .int x2)] [] := by
  intro x1 x2 σ
  rw [f_Rt_readOne_52]
  refine aw_aload_n K 0 dX6_readOne_52 rfl ?_
  refine aw_getR K (c' := 132) dX6_readOne_53 lk_X6_17_6 fd_130_2 ?_
  refine aw_aload_n K 0 dX6_readOne_56 rfl ?_
  refine aw_getI K dX6_readOne_57 lk_X6_35_6 fd_130_4 ?_
  refine aw_gd (fun h_1 => ?_)
  refine aw_ald K dX6_readOne_60 ad_132 h_1 rfl ?_
  refine aw_sipush K dX6_readOne_61 ks_20040 ?_
  refine aw_icmp_ne K 75 dX6_readOne_64 (by decide) (fun h_2 => ?_) (fun h_2 => ?_)
  · refine aw_aload_n K 0 dX6_readOne_75 rfl ?_
    refine aw_callVI K dX6_readOne_76 vw_X6_140_6 (c_f_Rt_readComparison l) hg (by omega) ob_130 rfl (Nat.le_of_ble_eq_true rfl) rfl rfl (fun r2 σ1 _ => ?_)
    refine aw_istore_n K (i := 3) (lv' := [(3, .int r2), (0, rf P 130), (1, .int x1), (2, .int x2)]) dX6_readOne_79 rfl (Nat.le_of_ble_eq_true rfl) rfl ?_
    refine aw_iload_n K 3 dX6_readOne_80 rfl ?_
    refine aw_if_eq K 93 dX6_readOne_81 (by decide) (fun h_3 => ?_) (fun h_3 => ?_)
    · refine aw_iload_n K 0 dX6_readOne_93 rfl ?_
      refine aw_gd (fun h_4 => ?_)
      exact aw_zret dX6_readOne_94 h_4
    · refine aw_aload_n K 1 dX6_readOne_84 rfl ?_
      refine aw_getR K (c' := 134) dX6_readOne_85 lk_X6_24_6 fd_130_5 ?_
      refine aw_bipush K dX6_readOne_88 kb_m3 ?_
      refine aw_callVV K dX6_readOne_90 vw_X6_130_7 (c_f_Ru_add l 134 TR.d _) hg (by omega) ob_134 rfl (Nat.le_of_ble_eq_true rfl) rfl rfl (fun _ σ3 _ => ?_)
      refine aw_iload_n K 0 dX6_readOne_93 rfl ?_
      refine aw_gd (fun h_5 => ?_)
      exact aw_zret dX6_readOne_94 h_5
  · refine aw_aload_n K 0 dX6_readOne_67 rfl ?_
    refine aw_iload_n K 1 dX6_readOne_68 rfl ?_
    refine aw_callVI K dX6_readOne_69 vw_X6_137_6 (c_f_Rt_readInner l hfR hkR _) hg (by omega) ob_130 rfl (Nat.le_of_ble_eq_true rfl) rfl rfl (fun r5 σ4 _ => ?_)
    refine aw_goto K 79 dX6_readOne_72 (by decide) ?_
    refine aw_istore_n K (i := 3) (lv' := [(3, .int r5), (0, rf P 130), (1, .int x1), (2, .int x2)]) dX6_readOne_79 rfl (Nat.le_of_ble_eq_true rfl) rfl ?_
    refine aw_iload_n K 3 dX6_readOne_80 rfl ?_
    refine aw_if_eq K 93 dX6_readOne_81 (by decide) (fun h_6 => ?_) (fun h_6 => ?_)
    · refine aw_iload_n K 0 dX6_readOne_93 rfl ?_
      refine aw_gd (fun h_7 => ?_)
      exact aw_zret dX6_readOne_94 h_7
    · refine aw_aload_n K 1 dX6_readOne_84 rfl ?_
      refine aw_getR K (c' := 134) dX6_readOne_85 lk_X6_24_6 fd_130_5 ?_
      refine aw_bipush K dX6_readOne_88 kb_m3 ?_
      refine aw_callVV K dX6_readOne_90 vw_X6_130_7 (c_f_Ru_add l 134 TR.d _) hg (by omega) ob_134 rfl (Nat.le_of_ble_eq_true rfl) rfl rfl (fun _ σ6 _ => ?_)
      refine aw_iload_n K 0 dX6_readOne_93 rfl ?_
      refine aw_gd (fun h_8 => ?_)
      exact aw_zret dX6_readOne_94 h_8
set_option maxRecDepth 100000 in
set_option maxHeartbeats 4000000 in
theorem a_f_Rt_readOne_4 (l : Launch) {kR : Nat} {fR : Int32 → SG → Option (Int32 × SG)} (hfR : ∀ (z0 : Int32), CTI l kR yX6_readCondition cX6_readCondition 4 ((some .boolean)) (fun P => [rf P 130, .int z0]) (fun σ => fR z0 σ)) (hkR : 1 ≤ kR) {P : PT} {G : GT} (K : CX P G cX6_readOne RX6 (kR + 2) 4) (hg : gl G = l) : ∀ (n : Nat) (x1 : Int32) (x2 : Int32) (x3 : Int32) (σ : SG), AW P G 4 (EZ P G cX6_readOne) (f_Rt_readOne_4 fR n x1 x2 x3 σ) σ 4 [(0, rf P 130), (1, .int x1), (2, .int x2), (3, .int x3)] [] := by
  intro n
  induction n with
  | zero =>
    intro x1 x2 x3 σ
    rw [f_Rt_readOne_4]
    exact aw_none
  | succ n ih =>
    intro x1 x2 x3 σ
    rw [f_Rt_readOne_4]
    refine aw_iload_n K 3 dX6_readOne_4 rfl ?_
    refine aw_sipush K dX6_readOne_5 ks_200 ?_
    refine aw_icmp_ge K 52 dX6_readOne_8 (by decide) (fun h_1 => ?_) (fun h_1 => ?_)
    · refine aw_lv [0, 1, 2] rfl ?_
      exact (a_f_Rt_readOne_52 l hfR hkR K hg) _ _ _
    · refine aw_aload_n K 0 dX6_readOne_11 rfl ?_
      refine aw_getR K (c' := 132) dX6_readOne_12 lk_X6_17_6 fd_130_2 ?_
      refine aw_aload_n K 0 dX6_readOne_15 rfl ?_
      refine aw_getI K dX6_readOne_16 lk_X6_35_6 fd_130_4 ?_
      refine aw_gd (fun h_2 => ?_)
      refine aw_ald K dX6_readOne_19 ad_132 h_2 rfl ?_
      refine aw_sipush K dX6_readOne_20 ks_10017 ?_
      refine aw_icmp_ne K 52 dX6_readOne_23 (by decide) (fun h_3 => ?_) (fun h_3 => ?_)
      · refine aw_lv [0, 1, 2] rfl ?_
        exact (a_f_Rt_readOne_52 l hfR hkR K hg) _ _ _
      · refine aw_aload_n K 0 dX6_readOne_26 rfl ?_
        refine aw_dup K dX6_readOne_27 rfl ?_
        refine aw_getI K dX6_readOne_28 lk_X6_35_6 fd_130_4 ?_
        refine aw_iconst K dX6_readOne_31 ki_1 ?_
        refine aw_iadd K dX6_readOne_32 ?_
        refine aw_putI K dX6_readOne_33 lp_X6_35_6 fd_130_4 (fun σ1 => ?_)
        refine aw_iload_n K 2 dX6_readOne_36 rfl ?_
        refine aw_if_ne K 44 dX6_readOne_37 (by decide) (fun h_4 => ?_) (fun h_4 => ?_)
        · refine aw_iconst K dX6_readOne_44 ki_0 ?_
          refine aw_istore_n K (i := 2) (lv' := [(2, .int (0 : Int32)), (0, rf P 130), (1, .int x1), (3, .int x3)]) dX6_readOne_45 rfl (Nat.le_of_ble_eq_true rfl) rfl ?_
          refine aw_iinc K (lv' := fun y2 => [(3, .int y2), (2, .int (0 : Int32)), (0, rf P 130), (1, .int x1)]) 3 dX6_readOne_46 rfl ki_1 (Nat.le_of_ble_eq_true rfl) (fun _ => rfl) (fun y2 => ?_)
          refine aw_goto K 4 dX6_readOne_49 (by decide) ?_
          refine aw_lv [2, 3, 1, 0] rfl ?_
          exact ih _ _ _ _
        · refine aw_iconst K dX6_readOne_40 ki_1 ?_
          refine aw_goto K 45 dX6_readOne_41 (by decide) ?_
          refine aw_istore_n K (i := 2) (lv' := [(2, .int (1 : Int32)), (0, rf P 130), (1, .int x1), (3, .int x3)]) dX6_readOne_45 rfl (Nat.le_of_ble_eq_true rfl) rfl ?_
          refine aw_iinc K (lv' := fun y3 => [(3, .int y3), (2, .int (1 : Int32)), (0, rf P 130), (1, .int x1)]) 3 dX6_readOne_46 rfl ki_1 (Nat.le_of_ble_eq_true rfl) (fun _ => rfl) (fun y3 => ?_)
          refine aw_goto K 4 dX6_readOne_49 (by decide) ?_
          refine aw_lv [2, 3, 1, 0] rfl ?_
          exact ih _ _ _ _
set_option maxRecDepth 100000 in
set_option maxHeartbeats 4000000 in
theorem c_f_Rt_readOne (l : Launch) {kR : Nat} {fR : Int32 → SG → Option (Int32 × SG)} (hfR : ∀ (z0 : Int32), CTI l kR yX6_readCondition cX6_readCondition 4 ((some .boolean)) (fun P => [rf P 130, .int z0]) (fun σ => fR z0 σ)) (hkR : 1 ≤ kR) (x1 : Int32) : CTI l (kR + 2) yX6_readOne cX6_readOne 4 ((some .boolean)) (fun P => [rf P 130, .int x1]) (fun σ => f_Rt_readOne fR x1 σ) := by
  refine met_Z rfl rfl rfl (fun P => Nat.le_of_ble_eq_true rfl) (fun P G K hg σ => ?_)
  change AW P G 4 (EZ P G cX6_readOne) (f_Rt_readOne fR x1 σ) σ 0 [(0, rf P 130), (1, .int x1)] []
  rw [f_Rt_readOne]
  refine aw_iconst K dX6_readOne_0 ki_0 ?_
  refine aw_istore_n K (i := 2) (lv' := [(2, .int (0 : Int32)), (0, rf P 130), (1, .int x1)]) dX6_readOne_1 rfl (Nat.le_of_ble_eq_true rfl) rfl ?_
  refine aw_iconst K dX6_readOne_2 ki_0 ?_
  refine aw_istore_n K (i := 3) (lv' := [(3, .int (0 : Int32)), (2, .int (0 : Int32)), (0, rf P 130), (1, .int x1)]) dX6_readOne_3 rfl (Nat.le_of_ble_eq_true rfl) rfl ?_
  refine aw_lv [2, 3, 1, 0] rfl ?_
  exact (a_f_Rt_readOne_4 l hfR hkR K hg FU) _ _ _ _
set_option maxRecDepth 100000 in
set_option maxHeartbeats 4000000 in
theorem a_f_Rt_readAll_8 (l : Launch) {kR : Nat} {fR : Int32 → SG → Option (Int32 × SG)} (hfR : ∀ (z0 : Int32), CTI l kR yX6_readCondition cX6_readCondition 4 ((some .boolean)) (fun P => [rf P 130, .int z0]) (fun σ => fR z0 σ)) (hkR : 1 ≤ kR) {P : PT} {G : GT} (K : CX P G cX6_readAll RX6 (kR + 3) 4) (hg : gl G = l) : ∀ (n : Nat) (x1 : Int32) (x2 : Int32) (x3 : Int32) (σ : SG), AW P G 4 (EZ P G cX6_readAll) (f_Rt_readAll_8 fR n x1 x2 x3 σ) σ 8 [(0, rf P 130), (1, .int x1), (2, .int x2), (3, .int x3)] [] := by
  intro n
  induction n with
  | zero =>
    intro x1 x2 x3 σ
    rw [f_Rt_readAll_8]
    exact aw_none
  | succ n ih =>
    intro x1 x2 x3 σ
    rw [f_Rt_readAll_8]
    refine aw_iload_n K 3 dX6_readAll_8 rfl ?_
    refine aw_sipush K dX6_readAll_9 ks_200 ?_
    refine aw_icmp_ge K 64 dX6_readAll_12 (by decide) (fun h_1 => ?_) (fun h_1 => ?_)
    · refine aw_iload_n K 2 dX6_readAll_64 rfl ?_
      refine aw_gd (fun h_2 => ?_)
      exact aw_zret dX6_readAll_65 h_2
    · refine aw_iload_n K 2 dX6_readAll_15 rfl ?_
      refine aw_if_eq K 64 dX6_readAll_16 (by decide) (fun h_3 => ?_) (fun h_3 => ?_)
      · refine aw_iload_n K 2 dX6_readAll_64 rfl ?_
        refine aw_gd (fun h_4 => ?_)
        exact aw_zret dX6_readAll_65 h_4
      · refine aw_aload_n K 0 dX6_readAll_19 rfl ?_
        refine aw_getR K (c' := 132) dX6_readAll_20 lk_X6_17_6 fd_130_2 ?_
        refine aw_aload_n K 0 dX6_readAll_23 rfl ?_
        refine aw_getI K dX6_readAll_24 lk_X6_35_6 fd_130_4 ?_
        refine aw_gd (fun h_5 => ?_)
        refine aw_ald K dX6_readAll_27 ad_132 h_5 rfl ?_
        refine aw_sipush K dX6_readAll_28 ks_10016 ?_
        refine aw_icmp_ne K 64 dX6_readAll_31 (by decide) (fun h_6 => ?_) (fun h_6 => ?_)
        · refine aw_iload_n K 2 dX6_readAll_64 rfl ?_
          refine aw_gd (fun h_7 => ?_)
          exact aw_zret dX6_readAll_65 h_7
        · refine aw_aload_n K 0 dX6_readAll_34 rfl ?_
          refine aw_dup K dX6_readAll_35 rfl ?_
          refine aw_getI K dX6_readAll_36 lk_X6_35_6 fd_130_4 ?_
          refine aw_iconst K dX6_readAll_39 ki_1 ?_
          refine aw_iadd K dX6_readAll_40 ?_
          refine aw_putI K dX6_readAll_41 lp_X6_35_6 fd_130_4 (fun σ1 => ?_)
          refine aw_aload_n K 0 dX6_readAll_44 rfl ?_
          refine aw_iload_n K 1 dX6_readAll_45 rfl ?_
          refine aw_callVI K dX6_readAll_46 vw_X6_134_6 (c_f_Rt_readOne l hfR hkR _) hg (by omega) ob_130 rfl (Nat.le_of_ble_eq_true rfl) rfl rfl (fun r3 σ2 _ => ?_)
          refine aw_istore_n K (i := 2) (lv' := [(2, .int r3), (0, rf P 130), (1, .int x1), (3, .int x3)]) dX6_readAll_49 rfl (Nat.le_of_ble_eq_true rfl) rfl ?_
          refine aw_aload_n K 1 dX6_readAll_50 rfl ?_
          refine aw_getR K (c' := 134) dX6_readAll_51 lk_X6_24_6 fd_130_5 ?_
          refine aw_iconst K dX6_readAll_54 ki_m1 ?_
          refine aw_callVV K dX6_readAll_55 vw_X6_130_7 (c_f_Ru_add l 134 TR.d _) hg (by omega) ob_134 rfl (Nat.le_of_ble_eq_true rfl) rfl rfl (fun _ σ4 _ => ?_)
          refine aw_iinc K (lv' := fun y5 => [(3, .int y5), (2, .int r3), (0, rf P 130), (1, .int x1)]) 3 dX6_readAll_58 rfl ki_1 (Nat.le_of_ble_eq_true rfl) (fun _ => rfl) (fun y5 => ?_)
          refine aw_goto K 8 dX6_readAll_61 (by decide) ?_
          refine aw_lv [2, 3, 1, 0] rfl ?_
          exact ih _ _ _ _
set_option maxRecDepth 100000 in
set_option maxHeartbeats 4000000 in
theorem c_f_Rt_readAll (l : Launch) {kR : Nat} {fR : Int32 → SG → Option (Int32 × SG)} (hfR : ∀ (z0 : Int32), CTI l kR yX6_readCondition cX6_readCondition 4 ((some .boolean)) (fun P => [rf P 130, .int z0]) (fun σ => fR z0 σ)) (hkR : 1 ≤ kR) (x1 : Int32) : CTI l (kR + 3) yX6_readAll cX6_readAll 4 ((some .boolean)) (fun P => [rf P 130, .int x1]) (fun σ => f_Rt_readAll fR x1 σ) := by
  refine met_Z rfl rfl rfl (fun P => Nat.le_of_ble_eq_true rfl) (fun P G K hg σ => ?_)
  change AW P G 4 (EZ P G cX6_readAll) (f_Rt_readAll fR x1 σ) σ 0 [(0, rf P 130), (1, .int x1)] []
  rw [f_Rt_readAll]
  refine aw_aload_n K 0 dX6_readAll_0 rfl ?_
  refine aw_iload_n K 1 dX6_readAll_1 rfl ?_
  refine aw_callVI K dX6_readAll_2 vw_X6_134_6 (c_f_Rt_readOne l hfR hkR _) hg (by omega) ob_130 rfl (Nat.le_of_ble_eq_true rfl) rfl rfl (fun r2 σ1 _ => ?_)
  refine aw_istore_n K (i := 2) (lv' := [(2, .int r2), (0, rf P 130), (1, .int x1)]) dX6_readAll_5 rfl (Nat.le_of_ble_eq_true rfl) rfl ?_
  refine aw_iconst K dX6_readAll_6 ki_0 ?_
  refine aw_istore_n K (i := 3) (lv' := [(3, .int (0 : Int32)), (2, .int r2), (0, rf P 130), (1, .int x1)]) dX6_readAll_7 rfl (Nat.le_of_ble_eq_true rfl) rfl ?_
  refine aw_lv [2, 3, 1, 0] rfl ?_
  exact (a_f_Rt_readAll_8 l hfR hkR K hg FU) _ _ _ _
set_option maxRecDepth 100000 in
set_option maxHeartbeats 4000000 in
theorem a_f_Rt_readCondition_S_8 (l : Launch) {kR : Nat} {fR : Int32 → SG → Option (Int32 × SG)} (hfR : ∀ (z0 : Int32), CTI l kR yX6_readCondition cX6_readCondition 4 ((some .boolean)) (fun P => [rf P 130, .int z0]) (fun σ => fR z0 σ)) (hkR : 1 ≤ kR) {P : PT} {G : GT} (K : CX P G cX6_readCondition RX6 (kR + 4) 4) (hg : gl G = l) : ∀ (n : Nat) (x1 : Int32) (x2 : Int32) (x3 : Int32) (σ : SG), AW P G 4 (EZ P G cX6_readCondition) (f_Rt_readCondition_S_8 fR n x1 x2 x3 σ) σ 8 [(0, rf P 130), (1, .int x1), (2, .int x2), (3, .int x3)] [] := by
  intro n
  induction n with
  | zero =>
    intro x1 x2 x3 σ
    rw [f_Rt_readCondition_S_8]
    exact aw_none
  | succ n ih =>
    intro x1 x2 x3 σ
    rw [f_Rt_readCondition_S_8]
    refine aw_iload_n K 3 dX6_readCondition_8 rfl ?_
    refine aw_sipush K dX6_readCondition_9 ks_200 ?_
    refine aw_icmp_ge K 65 dX6_readCondition_12 (by decide) (fun h_1 => ?_) (fun h_1 => ?_)
    · refine aw_iload_n K 2 dX6_readCondition_65 rfl ?_
      refine aw_gd (fun h_2 => ?_)
      exact aw_zret dX6_readCondition_66 h_2
    · refine aw_iload_n K 2 dX6_readCondition_15 rfl ?_
      refine aw_if_eq K 65 dX6_readCondition_16 (by decide) (fun h_3 => ?_) (fun h_3 => ?_)
      · refine aw_iload_n K 2 dX6_readCondition_65 rfl ?_
        refine aw_gd (fun h_4 => ?_)
        exact aw_zret dX6_readCondition_66 h_4
      · refine aw_aload_n K 0 dX6_readCondition_19 rfl ?_
        refine aw_getR K (c' := 132) dX6_readCondition_20 lk_X6_17_6 fd_130_2 ?_
        refine aw_aload_n K 0 dX6_readCondition_23 rfl ?_
        refine aw_getI K dX6_readCondition_24 lk_X6_35_6 fd_130_4 ?_
        refine aw_gd (fun h_5 => ?_)
        refine aw_ald K dX6_readCondition_27 ad_132 h_5 rfl ?_
        refine aw_sipush K dX6_readCondition_28 ks_10015 ?_
        refine aw_icmp_ne K 65 dX6_readCondition_31 (by decide) (fun h_6 => ?_) (fun h_6 => ?_)
        · refine aw_iload_n K 2 dX6_readCondition_65 rfl ?_
          refine aw_gd (fun h_7 => ?_)
          exact aw_zret dX6_readCondition_66 h_7
        · refine aw_aload_n K 0 dX6_readCondition_34 rfl ?_
          refine aw_dup K dX6_readCondition_35 rfl ?_
          refine aw_getI K dX6_readCondition_36 lk_X6_35_6 fd_130_4 ?_
          refine aw_iconst K dX6_readCondition_39 ki_1 ?_
          refine aw_iadd K dX6_readCondition_40 ?_
          refine aw_putI K dX6_readCondition_41 lp_X6_35_6 fd_130_4 (fun σ1 => ?_)
          refine aw_aload_n K 0 dX6_readCondition_44 rfl ?_
          refine aw_iload_n K 1 dX6_readCondition_45 rfl ?_
          refine aw_callVI K dX6_readCondition_46 vw_X6_127_6 (c_f_Rt_readAll l hfR hkR _) hg (by omega) ob_130 rfl (Nat.le_of_ble_eq_true rfl) rfl rfl (fun r3 σ2 _ => ?_)
          refine aw_istore_n K (i := 2) (lv' := [(2, .int r3), (0, rf P 130), (1, .int x1), (3, .int x3)]) dX6_readCondition_49 rfl (Nat.le_of_ble_eq_true rfl) rfl ?_
          refine aw_aload_n K 1 dX6_readCondition_50 rfl ?_
          refine aw_getR K (c' := 134) dX6_readCondition_51 lk_X6_24_6 fd_130_5 ?_
          refine aw_bipush K dX6_readCondition_54 kb_m2 ?_
          refine aw_callVV K dX6_readCondition_56 vw_X6_130_7 (c_f_Ru_add l 134 TR.d _) hg (by omega) ob_134 rfl (Nat.le_of_ble_eq_true rfl) rfl rfl (fun _ σ4 _ => ?_)
          refine aw_iinc K (lv' := fun y5 => [(3, .int y5), (2, .int r3), (0, rf P 130), (1, .int x1)]) 3 dX6_readCondition_59 rfl ki_1 (Nat.le_of_ble_eq_true rfl) (fun _ => rfl) (fun y5 => ?_)
          refine aw_goto K 8 dX6_readCondition_62 (by decide) ?_
          refine aw_lv [2, 3, 1, 0] rfl ?_
          exact ih _ _ _ _
set_option maxRecDepth 100000 in
set_option maxHeartbeats 4000000 in
theorem c_f_Rt_readCondition_S (l : Launch) {kR : Nat} {fR : Int32 → SG → Option (Int32 × SG)} (hfR : ∀ (z0 : Int32), CTI l kR yX6_readCondition cX6_readCondition 4 ((some .boolean)) (fun P => [rf P 130, .int z0]) (fun σ => fR z0 σ)) (hkR : 1 ≤ kR) (x1 : Int32) : CTI l (kR + 4) yX6_readCondition cX6_readCondition 4 ((some .boolean)) (fun P => [rf P 130, .int x1]) (fun σ => f_Rt_readCondition_S fR x1 σ) := by
  refine met_Z rfl rfl rfl (fun P => Nat.le_of_ble_eq_true rfl) (fun P G K hg σ => ?_)
  change AW P G 4 (EZ P G cX6_readCondition) (f_Rt_readCondition_S fR x1 σ) σ 0 [(0, rf P 130), (1, .int x1)] []
  rw [f_Rt_readCondition_S]
  refine aw_aload_n K 0 dX6_readCondition_0 rfl ?_
  refine aw_iload_n K 1 dX6_readCondition_1 rfl ?_
  refine aw_callVI K dX6_readCondition_2 vw_X6_127_6 (c_f_Rt_readAll l hfR hkR _) hg (by omega) ob_130 rfl (Nat.le_of_ble_eq_true rfl) rfl rfl (fun r2 σ1 _ => ?_)
  refine aw_istore_n K (i := 2) (lv' := [(2, .int r2), (0, rf P 130), (1, .int x1)]) dX6_readCondition_5 rfl (Nat.le_of_ble_eq_true rfl) rfl ?_
  refine aw_iconst K dX6_readCondition_6 ki_0 ?_
  refine aw_istore_n K (i := 3) (lv' := [(3, .int (0 : Int32)), (2, .int r2), (0, rf P 130), (1, .int x1)]) dX6_readCondition_7 rfl (Nat.le_of_ble_eq_true rfl) rfl ?_
  refine aw_lv [2, 3, 1, 0] rfl ?_
  exact (a_f_Rt_readCondition_S_8 l hfR hkR K hg FU) _ _ _ _
theorem c_f_Rt_readCondition (l : Launch) (d : Nat) : ∀ (z0 : Int32), CTI l (1 + d * 4) yX6_readCondition cX6_readCondition 4 ((some .boolean)) (fun P => [rf P 130, .int z0]) (fun σ => f_Rt_readCondition d z0 σ) := by
  induction d with
  | zero =>
    intro z0 P σ r σ' hf
    cases hf
  | succ d ih =>
    intro z0
    have q := c_f_Rt_readCondition_S l ih (by omega) z0
    rw [show 1 + d * 4 + 4 = 1 + (d + 1) * 4 by omega] at q
    exact q
set_option maxRecDepth 100000 in
set_option maxHeartbeats 4000000 in
theorem a_f_Rt_readRule_154 (l : Launch) {P : PT} {G : GT} (K : CX P G cX6_readRule RX6 (50) 4) (hg : gl G = l) : ∀ (x1 : Int32) (x2 : Int32) (x3 : Int32) (σ : SG), AW P G 4 (EZ P G cX6_readRule) (f_Rt_readRule_154 x1 x2 x3 σ) σ 154 [(0, rf P 130), (1, .int x1), (2, .int x2), (3, .int x3)] [] := by
  intro x1 x2 x3 σ
  rw [f_Rt_readRule_154]
  refine aw_aload_n K 0 dX6_readRule_154 rfl ?_
  refine aw_getR K (c' := 132) dX6_readRule_155 lk_X6_17_6 fd_130_2 ?_
  refine aw_aload_n K 0 dX6_readRule_158 rfl ?_
  refine aw_getI K dX6_readRule_159 lk_X6_35_6 fd_130_4 ?_
  refine aw_gd (fun h_1 => ?_)
  refine aw_ald K dX6_readRule_162 ad_132 h_1 rfl ?_
  refine aw_sipush K dX6_readRule_163 ks_20059 ?_
  refine aw_icmp_eq K 171 dX6_readRule_166 (by decide) (fun h_2 => ?_) (fun h_2 => ?_)
  · refine aw_aload_n K 0 dX6_readRule_171 rfl ?_
    refine aw_dup K dX6_readRule_172 rfl ?_
    refine aw_getI K dX6_readRule_173 lk_X6_35_6 fd_130_4 ?_
    refine aw_iconst K dX6_readRule_176 ki_1 ?_
    refine aw_iadd K dX6_readRule_177 ?_
    refine aw_putI K dX6_readRule_178 lp_X6_35_6 fd_130_4 (fun σ1 => ?_)
    refine aw_aload_n K 0 dX6_readRule_181 rfl ?_
    refine aw_getR K (c' := 134) dX6_readRule_182 lk_X6_24_6 fd_130_5 ?_
    refine aw_iload_n K 1 dX6_readRule_185 rfl ?_
    refine aw_iload_n K 2 dX6_readRule_186 rfl ?_
    refine aw_iload_n K 3 dX6_readRule_187 rfl ?_
    refine aw_callVV K dX6_readRule_188 vw_X6_123_7 (c_f_Ru_close l 134 TR.d _ _ _) hg (by decide) ob_134 rfl (Nat.le_of_ble_eq_true rfl) rfl rfl (fun _ σ2 _ => ?_)
    refine aw_iconst K dX6_readRule_191 ki_1 ?_
    exact aw_zret dX6_readRule_192 (by decide)
  · refine aw_iconst K dX6_readRule_169 ki_0 ?_
    exact aw_zret dX6_readRule_170 (by decide)
set_option maxRecDepth 100000 in
set_option maxHeartbeats 4000000 in
theorem a_f_Rt_readRule_103 (l : Launch) {P : PT} {G : GT} (K : CX P G cX6_readRule RX6 (50) 4) (hg : gl G = l) : ∀ (x1 : Int32) (x2 : Int32) (σ : SG), AW P G 4 (EZ P G cX6_readRule) (f_Rt_readRule_103 x1 x2 σ) σ 103 [(0, rf P 130), (1, .int x1), (2, .int x2)] [] := by
  intro x1 x2 σ
  rw [f_Rt_readRule_103]
  refine aw_aload_n K 0 dX6_readRule_103 rfl ?_
  refine aw_dup K dX6_readRule_104 rfl ?_
  refine aw_getI K dX6_readRule_105 lk_X6_35_6 fd_130_4 ?_
  refine aw_iconst K dX6_readRule_108 ki_1 ?_
  refine aw_iadd K dX6_readRule_109 ?_
  refine aw_putI K dX6_readRule_110 lp_X6_35_6 fd_130_4 (fun σ1 => ?_)
  refine aw_iconst K dX6_readRule_113 ki_0 ?_
  refine aw_istore_n K (i := 3) (lv' := [(3, .int (0 : Int32)), (0, rf P 130), (1, .int x1), (2, .int x2)]) dX6_readRule_114 rfl (Nat.le_of_ble_eq_true rfl) rfl ?_
  refine aw_iload_n K 3 dX6_readRule_115 rfl ?_
  refine aw_sipush K dX6_readRule_116 ks_10014 ?_
  refine aw_icmp_eq K 154 dX6_readRule_119 (by decide) (fun h_1 => ?_) (fun h_1 => ?_)
  · refine aw_lv [1, 2, 3, 0] rfl ?_
    exact (a_f_Rt_readRule_154 l K hg) _ _ _ _
  · refine aw_aload_n K 1 dX6_readRule_122 rfl ?_
    refine aw_getR K (c' := 132) dX6_readRule_123 lk_X6_17_6 fd_130_2 ?_
    refine aw_aload_n K 1 dX6_readRule_126 rfl ?_
    refine aw_getI K dX6_readRule_127 lk_X6_35_6 fd_130_4 ?_
    refine aw_gd (fun h_2 => ?_)
    refine aw_ald K dX6_readRule_130 ad_132 h_2 rfl ?_
    refine aw_istoreX_n K (i := 3) (lv' := fun y2 => [(3, .int y2), (0, rf P 130), (1, .int x1), (2, .int x2)]) dX6_readRule_131 rfl (Nat.le_of_ble_eq_true rfl) (fun _ => rfl) (fun y2 => ?_)
    refine aw_iload_n K 0 dX6_readRule_132 rfl ?_
    refine aw_iconst K dX6_readRule_133 ki_0 ?_
    refine aw_bipush K dX6_readRule_134 kb_99 ?_
    refine aw_callNI K dX6_readRule_136 vw_X6_116 (c_f_H_isIn l _ _ _) hg (by decide) rfl (Nat.le_of_ble_eq_true rfl) rfl rfl (fun r4 σ3 _ => ?_)
    refine aw_if_ne K 144 dX6_readRule_139 (by decide) (fun h_3 => ?_) (fun h_3 => ?_)
    · refine aw_aload_n K 1 dX6_readRule_144 rfl ?_
      refine aw_dup K dX6_readRule_145 rfl ?_
      refine aw_getI K dX6_readRule_146 lk_X6_35_6 fd_130_4 ?_
      refine aw_iconst K dX6_readRule_149 ki_1 ?_
      refine aw_iadd K dX6_readRule_150 ?_
      refine aw_putI K dX6_readRule_151 lp_X6_35_6 fd_130_4 (fun σ5 => ?_)
      refine aw_lv [1, 2, 3, 0] rfl ?_
      exact (a_f_Rt_readRule_154 l K hg) _ _ _ _
    · refine aw_iconst K dX6_readRule_142 ki_0 ?_
      exact aw_zret dX6_readRule_143 (by decide)
set_option maxRecDepth 100000 in
set_option maxHeartbeats 4000000 in
theorem a_f_Rt_readRule_70 (l : Launch) {P : PT} {G : GT} (K : CX P G cX6_readRule RX6 (50) 4) (hg : gl G = l) : ∀ (x1 : Int32) (σ : SG), AW P G 4 (EZ P G cX6_readRule) (f_Rt_readRule_70 x1 σ) σ 70 [(0, rf P 130), (1, .int x1)] [] := by
  intro x1 σ
  rw [f_Rt_readRule_70]
  refine aw_aload_n K 0 dX6_readRule_70 rfl ?_
  refine aw_getR K (c' := 132) dX6_readRule_71 lk_X6_17_6 fd_130_2 ?_
  refine aw_aload_n K 0 dX6_readRule_74 rfl ?_
  refine aw_getI K dX6_readRule_75 lk_X6_35_6 fd_130_4 ?_
  refine aw_gd (fun h_1 => ?_)
  refine aw_ald K dX6_readRule_78 ad_132 h_1 rfl ?_
  refine aw_istoreX_n K (i := 2) (lv' := fun y1 => [(2, .int y1), (0, rf P 130), (1, .int x1)]) dX6_readRule_79 rfl (Nat.le_of_ble_eq_true rfl) (fun _ => rfl) (fun y1 => ?_)
  refine aw_iload_n K 0 dX6_readRule_80 rfl ?_
  refine aw_sipush K dX6_readRule_81 ks_10012 ?_
  refine aw_icmp_eq K 103 dX6_readRule_84 (by decide) (fun h_2 => ?_) (fun h_2 => ?_)
  · refine aw_lv [1, 2, 0] rfl ?_
    exact (a_f_Rt_readRule_103 l K hg) _ _ _
  · refine aw_iload_n K 0 dX6_readRule_87 rfl ?_
    refine aw_sipush K dX6_readRule_88 ks_10013 ?_
    refine aw_icmp_eq K 103 dX6_readRule_91 (by decide) (fun h_3 => ?_) (fun h_3 => ?_)
    · refine aw_lv [1, 2, 0] rfl ?_
      exact (a_f_Rt_readRule_103 l K hg) _ _ _
    · refine aw_iload_n K 0 dX6_readRule_94 rfl ?_
      refine aw_sipush K dX6_readRule_95 ks_10014 ?_
      refine aw_icmp_eq K 103 dX6_readRule_98 (by decide) (fun h_4 => ?_) (fun h_4 => ?_)
      · refine aw_lv [1, 2, 0] rfl ?_
        exact (a_f_Rt_readRule_103 l K hg) _ _ _
      · refine aw_iconst K dX6_readRule_101 ki_0 ?_
        exact aw_zret dX6_readRule_102 (by decide)
set_option maxRecDepth 100000 in
set_option maxHeartbeats 4000000 in
theorem c_f_Rt_readRule (l : Launch) : CTI l (50) yX6_readRule cX6_readRule 4 ((some .boolean)) (fun P => [rf P 130]) (fun σ => f_Rt_readRule σ) := by
  refine met_Z rfl rfl rfl (fun P => Nat.le_of_ble_eq_true rfl) (fun P G K hg σ => ?_)
  change AW P G 4 (EZ P G cX6_readRule) (f_Rt_readRule σ) σ 0 [(0, rf P 130)] []
  rw [f_Rt_readRule]
  refine aw_aload_n K 0 dX6_readRule_0 rfl ?_
  refine aw_getR K (c' := 132) dX6_readRule_1 lk_X6_17_6 fd_130_2 ?_
  refine aw_aload_n K 0 dX6_readRule_4 rfl ?_
  refine aw_getI K dX6_readRule_5 lk_X6_35_6 fd_130_4 ?_
  refine aw_gd (fun h_1 => ?_)
  refine aw_ald K dX6_readRule_8 ad_132 h_1 rfl ?_
  refine aw_sipush K dX6_readRule_9 ks_10005 ?_
  refine aw_isub K dX6_readRule_12 ?_
  refine aw_istoreX_n K (i := 1) (lv' := fun y1 => [(1, .int y1), (0, rf P 130)]) dX6_readRule_13 rfl (Nat.le_of_ble_eq_true rfl) (fun _ => rfl) (fun y1 => ?_)
  refine aw_iload_n K 0 dX6_readRule_14 rfl ?_
  refine aw_iconst K dX6_readRule_15 ki_0 ?_
  refine aw_iconst K dX6_readRule_16 ki_5 ?_
  refine aw_callNI K dX6_readRule_17 vw_X6_116 (c_f_H_isIn l _ _ _) hg (by decide) rfl (Nat.le_of_ble_eq_true rfl) rfl rfl (fun r3 σ2 _ => ?_)
  refine aw_if_ne K 25 dX6_readRule_20 (by decide) (fun h_2 => ?_) (fun h_2 => ?_)
  · refine aw_aload_n K 1 dX6_readRule_25 rfl ?_
    refine aw_dup K dX6_readRule_26 rfl ?_
    refine aw_getI K dX6_readRule_27 lk_X6_35_6 fd_130_4 ?_
    refine aw_iconst K dX6_readRule_30 ki_1 ?_
    refine aw_iadd K dX6_readRule_31 ?_
    refine aw_putI K dX6_readRule_32 lp_X6_35_6 fd_130_4 (fun σ4 => ?_)
    refine aw_aload_n K 1 dX6_readRule_35 rfl ?_
    refine aw_getR K (c' := 132) dX6_readRule_36 lk_X6_17_6 fd_130_2 ?_
    refine aw_aload_n K 1 dX6_readRule_39 rfl ?_
    refine aw_getI K dX6_readRule_40 lk_X6_35_6 fd_130_4 ?_
    refine aw_gd (fun h_3 => ?_)
    refine aw_ald K dX6_readRule_43 ad_132 h_3 rfl ?_
    refine aw_sipush K dX6_readRule_44 ks_10011 ?_
    refine aw_icmp_ne K 70 dX6_readRule_47 (by decide) (fun h_4 => ?_) (fun h_4 => ?_)
    · refine aw_lv [1, 0] rfl ?_
      exact (a_f_Rt_readRule_70 l K hg) _ _
    · refine aw_aload_n K 1 dX6_readRule_50 rfl ?_
      refine aw_dup K dX6_readRule_51 rfl ?_
      refine aw_getI K dX6_readRule_52 lk_X6_35_6 fd_130_4 ?_
      refine aw_iconst K dX6_readRule_55 ki_1 ?_
      refine aw_iadd K dX6_readRule_56 ?_
      refine aw_putI K dX6_readRule_57 lp_X6_35_6 fd_130_4 (fun σ5 => ?_)
      refine aw_aload_n K 1 dX6_readRule_60 rfl ?_
      refine aw_iconst K dX6_readRule_61 ki_0 ?_
      refine aw_callVI K dX6_readRule_62 vw_X6_120_6 (c_f_Rt_readCondition l DP _) hg (by decide) ob_130 rfl (Nat.le_of_ble_eq_true rfl) rfl rfl (fun r7 σ6 _ => ?_)
      refine aw_if_ne K 70 dX6_readRule_65 (by decide) (fun h_5 => ?_) (fun h_5 => ?_)
      · refine aw_lv [1, 0] rfl ?_
        exact (a_f_Rt_readRule_70 l K hg) _ _
      · refine aw_iconst K dX6_readRule_68 ki_0 ?_
        exact aw_zret dX6_readRule_69 (by decide)
  · refine aw_iconst K dX6_readRule_23 ki_0 ?_
    exact aw_zret dX6_readRule_24 (by decide)
set_option maxRecDepth 100000 in
set_option maxHeartbeats 4000000 in
theorem c_f_Rt_isLetter (l : Launch) (x0 : Int32) : CTI l (0) yX6_isLetter cX6_isLetter 1 ((some .boolean)) (fun P => [.int x0]) (fun σ => f_Rt_isLetter x0 σ) := by
  refine met_Z rfl rfl rfl (fun P => Nat.le_of_ble_eq_true rfl) (fun P G K hg σ => ?_)
  change AW P G 1 (EZ P G cX6_isLetter) (f_Rt_isLetter x0 σ) σ 0 [(0, .int x0)] []
  rw [f_Rt_isLetter]
  refine aw_iload_n K 0 dX6_isLetter_0 rfl ?_
  refine aw_bipush K dX6_isLetter_1 kb_97 ?_
  refine aw_icmp_lt K 16 dX6_isLetter_3 (by decide) (fun h_1 => ?_) (fun h_1 => ?_)
  · refine aw_iconst K dX6_isLetter_16 ki_0 ?_
    exact aw_zret dX6_isLetter_17 (by decide)
  · refine aw_iload_n K 0 dX6_isLetter_6 rfl ?_
    refine aw_bipush K dX6_isLetter_7 kb_122 ?_
    refine aw_icmp_gt K 16 dX6_isLetter_9 (by decide) (fun h_2 => ?_) (fun h_2 => ?_)
    · refine aw_iconst K dX6_isLetter_16 ki_0 ?_
      exact aw_zret dX6_isLetter_17 (by decide)
    · refine aw_iconst K dX6_isLetter_12 ki_1 ?_
      refine aw_goto K 17 dX6_isLetter_13 (by decide) ?_
      exact aw_zret dX6_isLetter_17 (by decide)
set_option maxRecDepth 100000 in
set_option maxHeartbeats 4000000 in
theorem c_f_Rt_isDigit (l : Launch) (x0 : Int32) : CTI l (0) yX6_isDigit cX6_isDigit 1 ((some .boolean)) (fun P => [.int x0]) (fun σ => f_Rt_isDigit x0 σ) := by
  refine met_Z rfl rfl rfl (fun P => Nat.le_of_ble_eq_true rfl) (fun P G K hg σ => ?_)
  change AW P G 1 (EZ P G cX6_isDigit) (f_Rt_isDigit x0 σ) σ 0 [(0, .int x0)] []
  rw [f_Rt_isDigit]
  refine aw_iload_n K 0 dX6_isDigit_0 rfl ?_
  refine aw_bipush K dX6_isDigit_1 kb_48 ?_
  refine aw_icmp_lt K 16 dX6_isDigit_3 (by decide) (fun h_1 => ?_) (fun h_1 => ?_)
  · refine aw_iconst K dX6_isDigit_16 ki_0 ?_
    exact aw_zret dX6_isDigit_17 (by decide)
  · refine aw_iload_n K 0 dX6_isDigit_6 rfl ?_
    refine aw_bipush K dX6_isDigit_7 kb_57 ?_
    refine aw_icmp_gt K 16 dX6_isDigit_9 (by decide) (fun h_2 => ?_) (fun h_2 => ?_)
    · refine aw_iconst K dX6_isDigit_16 ki_0 ?_
      exact aw_zret dX6_isDigit_17 (by decide)
    · refine aw_iconst K dX6_isDigit_12 ki_1 ?_
      refine aw_goto K 17 dX6_isDigit_13 (by decide) ?_
      exact aw_zret dX6_isDigit_17 (by decide)
set_option maxRecDepth 100000 in
set_option maxHeartbeats 4000000 in
theorem a_f_Rt_endOf_16 (l : Launch) {P : PT} {G : GT} (K : CX P G cX6_endOf RX6 (1) 3) (hg : gl G = l) : ∀ (n : Nat) (x2 : Int32) (σ : SG), AW P G 3 (EI P G cX6_endOf) (f_Rt_endOf_16 n x2 σ) σ 16 [(0, rf P 130), (2, .int x2)] [] := by
  intro n
  induction n with
  | zero =>
    intro x2 σ
    rw [f_Rt_endOf_16]
    exact aw_none
  | succ n ih =>
    intro x2 σ
    rw [f_Rt_endOf_16]
    refine aw_iload_n K 1 dX6_endOf_16 rfl ?_
    refine aw_aload_n K 0 dX6_endOf_17 rfl ?_
    refine aw_getI K dX6_endOf_18 lk_X6_31_6 fd_130_1 ?_
    refine aw_icmp_ge K 80 dX6_endOf_21 (by decide) (fun h_1 => ?_) (fun h_1 => ?_)
    · refine aw_iload_n K 1 dX6_endOf_80 rfl ?_
      exact aw_iret dX6_endOf_81
    · refine aw_aload_n K 0 dX6_endOf_24 rfl ?_
      refine aw_getR K (c' := 131) dX6_endOf_25 lk_X6_13_6 fd_130_0 ?_
      refine aw_iload_n K 1 dX6_endOf_28 rfl ?_
      refine aw_gd (fun h_2 => ?_)
      refine aw_ald K dX6_endOf_29 ad_131 h_2 rfl ?_
      refine aw_callSI K dX6_endOf_30 vw_X6_53 (c_f_Rt_isLetter l _) hg (by decide) rfl (Nat.le_of_ble_eq_true rfl) rfl rfl (fun r2 σ1 _ => ?_)
      refine aw_if_eq K 80 dX6_endOf_33 (by decide) (fun h_3 => ?_) (fun h_3 => ?_)
      · refine aw_iload_n K 1 dX6_endOf_80 rfl ?_
        exact aw_iret dX6_endOf_81
      · refine aw_iinc K (lv' := fun y3 => [(2, .int y3), (0, rf P 130)]) 1 dX6_endOf_36 rfl ki_1 (Nat.le_of_ble_eq_true rfl) (fun _ => rfl) (fun y3 => ?_)
        refine aw_goto K 16 dX6_endOf_39 (by decide) ?_
        refine aw_lv [1, 0] rfl ?_
        exact ih _ _
set_option maxRecDepth 100000 in
set_option maxHeartbeats 4000000 in
theorem a_f_Rt_endOf_54 (l : Launch) {P : PT} {G : GT} (K : CX P G cX6_endOf RX6 (1) 3) (hg : gl G = l) : ∀ (n : Nat) (x2 : Int32) (σ : SG), AW P G 3 (EI P G cX6_endOf) (f_Rt_endOf_54 n x2 σ) σ 54 [(0, rf P 130), (2, .int x2)] [] := by
  intro n
  induction n with
  | zero =>
    intro x2 σ
    rw [f_Rt_endOf_54]
    exact aw_none
  | succ n ih =>
    intro x2 σ
    rw [f_Rt_endOf_54]
    refine aw_iload_n K 1 dX6_endOf_54 rfl ?_
    refine aw_aload_n K 0 dX6_endOf_55 rfl ?_
    refine aw_getI K dX6_endOf_56 lk_X6_31_6 fd_130_1 ?_
    refine aw_icmp_ge K 80 dX6_endOf_59 (by decide) (fun h_1 => ?_) (fun h_1 => ?_)
    · refine aw_iload_n K 1 dX6_endOf_80 rfl ?_
      exact aw_iret dX6_endOf_81
    · refine aw_aload_n K 0 dX6_endOf_62 rfl ?_
      refine aw_getR K (c' := 131) dX6_endOf_63 lk_X6_13_6 fd_130_0 ?_
      refine aw_iload_n K 1 dX6_endOf_66 rfl ?_
      refine aw_gd (fun h_2 => ?_)
      refine aw_ald K dX6_endOf_67 ad_131 h_2 rfl ?_
      refine aw_callSI K dX6_endOf_68 vw_X6_57 (c_f_Rt_isDigit l _) hg (by decide) rfl (Nat.le_of_ble_eq_true rfl) rfl rfl (fun r2 σ1 _ => ?_)
      refine aw_if_eq K 80 dX6_endOf_71 (by decide) (fun h_3 => ?_) (fun h_3 => ?_)
      · refine aw_iload_n K 1 dX6_endOf_80 rfl ?_
        exact aw_iret dX6_endOf_81
      · refine aw_iinc K (lv' := fun y3 => [(2, .int y3), (0, rf P 130)]) 1 dX6_endOf_74 rfl ki_1 (Nat.le_of_ble_eq_true rfl) (fun _ => rfl) (fun y3 => ?_)
        refine aw_goto K 54 dX6_endOf_77 (by decide) ?_
        refine aw_lv [1, 0] rfl ?_
        exact ih _ _
set_option maxRecDepth 100000 in
set_option maxHeartbeats 4000000 in
theorem c_f_Rt_endOf (l : Launch) (x1 : Int32) : CTI l (1) yX6_endOf cX6_endOf 3 ((some .int)) (fun P => [rf P 130, .int x1]) (fun σ => f_Rt_endOf x1 σ) := by
  refine met_I rfl rfl rfl (fun P => Nat.le_of_ble_eq_true rfl) (fun P G K hg σ => ?_)
  change AW P G 3 (EI P G cX6_endOf) (f_Rt_endOf x1 σ) σ 0 [(0, rf P 130), (1, .int x1)] []
  rw [f_Rt_endOf]
  refine aw_iload_n K 1 dX6_endOf_0 rfl ?_
  refine aw_iconst K dX6_endOf_1 ki_1 ?_
  refine aw_iadd K dX6_endOf_2 ?_
  refine aw_istoreX_n K (i := 2) (lv' := fun y1 => [(2, .int y1), (0, rf P 130), (1, .int x1)]) dX6_endOf_3 rfl (Nat.le_of_ble_eq_true rfl) (fun _ => rfl) (fun y1 => ?_)
  refine aw_aload_n K 1 dX6_endOf_4 rfl ?_
  refine aw_getR K (c' := 131) dX6_endOf_5 lk_X6_13_6 fd_130_0 ?_
  refine aw_iload_n K 2 dX6_endOf_8 rfl ?_
  refine aw_gd (fun h_1 => ?_)
  refine aw_ald K dX6_endOf_9 ad_131 h_1 rfl ?_
  refine aw_callSI K dX6_endOf_10 vw_X6_53 (c_f_Rt_isLetter l _) hg (by decide) rfl (Nat.le_of_ble_eq_true rfl) rfl rfl (fun r3 σ2 _ => ?_)
  refine aw_if_eq K 42 dX6_endOf_13 (by decide) (fun h_2 => ?_) (fun h_2 => ?_)
  · refine aw_aload_n K 1 dX6_endOf_42 rfl ?_
    refine aw_getR K (c' := 131) dX6_endOf_43 lk_X6_13_6 fd_130_0 ?_
    refine aw_iload_n K 2 dX6_endOf_46 rfl ?_
    refine aw_gd (fun h_3 => ?_)
    refine aw_ald K dX6_endOf_47 ad_131 h_3 rfl ?_
    refine aw_callSI K dX6_endOf_48 vw_X6_57 (c_f_Rt_isDigit l _) hg (by decide) rfl (Nat.le_of_ble_eq_true rfl) rfl rfl (fun r5 σ4 _ => ?_)
    refine aw_if_eq K 80 dX6_endOf_51 (by decide) (fun h_4 => ?_) (fun h_4 => ?_)
    · refine aw_iload_n K 0 dX6_endOf_80 rfl ?_
      exact aw_iret dX6_endOf_81
    · refine aw_lv [1, 0] rfl ?_
      exact (a_f_Rt_endOf_54 l K hg FU) _ _
  · refine aw_lv [1, 0] rfl ?_
    exact (a_f_Rt_endOf_16 l K hg FU) _ _
set_option maxRecDepth 100000 in
set_option maxHeartbeats 4000000 in
theorem c_f_Rt_wordOf (l : Launch) (x0 : Int32) : CTS l (0) yX6_wordOf cX6_wordOf 1 ((some (.object "java/lang/String"))) (fun P => [.int x0]) (fun σ => f_Rt_wordOf x0 σ) := by
  refine met_S rfl rfl rfl (fun P => Nat.le_of_ble_eq_true rfl) (fun P G K hg σ => ?_)
  change AW P G 1 (ES P G cX6_wordOf) (f_Rt_wordOf x0 σ) σ 0 [(0, .int x0)] []
  rw [f_Rt_wordOf]
  refine aw_iload_n K 0 dX6_wordOf_0 rfl ?_
  refine aw_ite (fun h_1 => ?_) (fun h_1 => ?_)
  · refine aw_tabIn K 88 (10000) dX6_wordOf_1 (ti_of h_1 kt_10000) (by decide) (by decide) rfl (by decide) ?_
    refine aw_ldcS K (q := 0) dX6_wordOf_88 (List.mem_of_getElem? (i := 0) rfl) ?_
    exact aw_sret dX6_wordOf_90
  refine aw_ite (fun h_2 => ?_) (fun h_2 => ?_)
  · refine aw_tabIn K 91 (10001) dX6_wordOf_1 (ti_of h_2 kt_10001) (by decide) (by decide) rfl (by decide) ?_
    refine aw_ldcS K (q := 1) dX6_wordOf_91 (List.mem_of_getElem? (i := 1) rfl) ?_
    exact aw_sret dX6_wordOf_93
  refine aw_ite (fun h_3 => ?_) (fun h_3 => ?_)
  · refine aw_tabIn K 94 (10002) dX6_wordOf_1 (ti_of h_3 kt_10002) (by decide) (by decide) rfl (by decide) ?_
    refine aw_ldcS K (q := 2) dX6_wordOf_94 (List.mem_of_getElem? (i := 2) rfl) ?_
    exact aw_sret dX6_wordOf_96
  refine aw_ite (fun h_4 => ?_) (fun h_4 => ?_)
  · refine aw_tabIn K 97 (10003) dX6_wordOf_1 (ti_of h_4 kt_10003) (by decide) (by decide) rfl (by decide) ?_
    refine aw_ldcS K (q := 3) dX6_wordOf_97 (List.mem_of_getElem? (i := 3) rfl) ?_
    exact aw_sret dX6_wordOf_99
  refine aw_ite (fun h_5 => ?_) (fun h_5 => ?_)
  · refine aw_tabIn K 100 (10004) dX6_wordOf_1 (ti_of h_5 kt_10004) (by decide) (by decide) rfl (by decide) ?_
    refine aw_ldcS K (q := 4) dX6_wordOf_100 (List.mem_of_getElem? (i := 4) rfl) ?_
    exact aw_sret dX6_wordOf_102
  refine aw_ite (fun h_6 => ?_) (fun h_6 => ?_)
  · refine aw_tabIn K 103 (10005) dX6_wordOf_1 (ti_of h_6 kt_10005) (by decide) (by decide) rfl (by decide) ?_
    refine aw_ldcS K (q := 5) dX6_wordOf_103 (List.mem_of_getElem? (i := 5) rfl) ?_
    exact aw_sret dX6_wordOf_105
  refine aw_ite (fun h_7 => ?_) (fun h_7 => ?_)
  · refine aw_tabIn K 106 (10006) dX6_wordOf_1 (ti_of h_7 kt_10006) (by decide) (by decide) rfl (by decide) ?_
    refine aw_ldcS K (q := 6) dX6_wordOf_106 (List.mem_of_getElem? (i := 6) rfl) ?_
    exact aw_sret dX6_wordOf_108
  refine aw_ite (fun h_8 => ?_) (fun h_8 => ?_)
  · refine aw_tabIn K 109 (10007) dX6_wordOf_1 (ti_of h_8 kt_10007) (by decide) (by decide) rfl (by decide) ?_
    refine aw_ldcS K (q := 7) dX6_wordOf_109 (List.mem_of_getElem? (i := 7) rfl) ?_
    exact aw_sret dX6_wordOf_111
  refine aw_ite (fun h_9 => ?_) (fun h_9 => ?_)
  · refine aw_tabIn K 112 (10008) dX6_wordOf_1 (ti_of h_9 kt_10008) (by decide) (by decide) rfl (by decide) ?_
    refine aw_ldcS K (q := 8) dX6_wordOf_112 (List.mem_of_getElem? (i := 8) rfl) ?_
    exact aw_sret dX6_wordOf_114
  refine aw_ite (fun h_10 => ?_) (fun h_10 => ?_)
  · refine aw_tabIn K 115 (10009) dX6_wordOf_1 (ti_of h_10 kt_10009) (by decide) (by decide) rfl (by decide) ?_
    refine aw_ldcS K (q := 9) dX6_wordOf_115 (List.mem_of_getElem? (i := 9) rfl) ?_
    exact aw_sret dX6_wordOf_117
  refine aw_ite (fun h_11 => ?_) (fun h_11 => ?_)
  · refine aw_tabIn K 118 (10010) dX6_wordOf_1 (ti_of h_11 kt_10010) (by decide) (by decide) rfl (by decide) ?_
    refine aw_ldcS K (q := 10) dX6_wordOf_118 (List.mem_of_getElem? (i := 10) rfl) ?_
    exact aw_sret dX6_wordOf_120
  refine aw_ite (fun h_12 => ?_) (fun h_12 => ?_)
  · refine aw_tabIn K 121 (10011) dX6_wordOf_1 (ti_of h_12 kt_10011) (by decide) (by decide) rfl (by decide) ?_
    refine aw_ldcS K (q := 11) dX6_wordOf_121 (List.mem_of_getElem? (i := 11) rfl) ?_
    exact aw_sret dX6_wordOf_123
  refine aw_ite (fun h_13 => ?_) (fun h_13 => ?_)
  · refine aw_tabIn K 124 (10012) dX6_wordOf_1 (ti_of h_13 kt_10012) (by decide) (by decide) rfl (by decide) ?_
    refine aw_ldcS K (q := 12) dX6_wordOf_124 (List.mem_of_getElem? (i := 12) rfl) ?_
    exact aw_sret dX6_wordOf_126
  refine aw_ite (fun h_14 => ?_) (fun h_14 => ?_)
  · refine aw_tabIn K 127 (10013) dX6_wordOf_1 (ti_of h_14 kt_10013) (by decide) (by decide) rfl (by decide) ?_
    refine aw_ldcS K (q := 13) dX6_wordOf_127 (List.mem_of_getElem? (i := 13) rfl) ?_
    exact aw_sret dX6_wordOf_129
  refine aw_ite (fun h_15 => ?_) (fun h_15 => ?_)
  · refine aw_tabIn K 130 (10014) dX6_wordOf_1 (ti_of h_15 kt_10014) (by decide) (by decide) rfl (by decide) ?_
    refine aw_ldcS K (q := 14) dX6_wordOf_130 (List.mem_of_getElem? (i := 14) rfl) ?_
    exact aw_sret dX6_wordOf_132
  refine aw_ite (fun h_16 => ?_) (fun h_16 => ?_)
  · refine aw_tabIn K 133 (10015) dX6_wordOf_1 (ti_of h_16 kt_10015) (by decide) (by decide) rfl (by decide) ?_
    refine aw_ldcS K (q := 15) dX6_wordOf_133 (List.mem_of_getElem? (i := 15) rfl) ?_
    exact aw_sret dX6_wordOf_135
  refine aw_ite (fun h_17 => ?_) (fun h_17 => ?_)
  · refine aw_tabIn K 136 (10016) dX6_wordOf_1 (ti_of h_17 kt_10016) (by decide) (by decide) rfl (by decide) ?_
    refine aw_ldcS K (q := 16) dX6_wordOf_136 (List.mem_of_getElem? (i := 16) rfl) ?_
    exact aw_sret dX6_wordOf_138
  refine aw_ite (fun h_18 => ?_) (fun h_18 => ?_)
  · refine aw_tabIn K 139 (10017) dX6_wordOf_1 (ti_of h_18 kt_10017) (by decide) (by decide) rfl (by decide) ?_
    refine aw_ldcS K (q := 17) dX6_wordOf_139 (List.mem_of_getElem? (i := 17) rfl) ?_
    exact aw_sret dX6_wordOf_141
  refine aw_tabOut K 142 dX6_wordOf_1 (by have := lv_neT h_1 kt_10000; have := lv_neT h_2 kt_10001; have := lv_neT h_3 kt_10002; have := lv_neT h_4 kt_10003; have := lv_neT h_5 kt_10004; have := lv_neT h_6 kt_10005; have := lv_neT h_7 kt_10006; have := lv_neT h_8 kt_10007; have := lv_neT h_9 kt_10008; have := lv_neT h_10 kt_10009; have := lv_neT h_11 kt_10010; have := lv_neT h_12 kt_10011; have := lv_neT h_13 kt_10012; have := lv_neT h_14 kt_10013; have := lv_neT h_15 kt_10014; have := lv_neT h_16 kt_10015; have := lv_neT h_17 kt_10016; have := lv_neT h_18 kt_10017; omega) (by decide) ?_
  refine aw_ldcS K (q := 18) dX6_wordOf_142 (List.mem_of_getElem? (i := 18) rfl) ?_
  exact aw_sret dX6_wordOf_144
set_option maxRecDepth 100000 in
set_option maxHeartbeats 4000000 in
theorem a_f_Rt_isSame_15 (l : Launch) {P : PT} {G : GT} (K : CX P G cX6_isSame RX6 (5) 5) (hg : gl G = l) : ∀ (n : Nat) (w1 : Nat) (x2 : Int32) (x3 : Int32) (x4 : Int32) (σ : SG), AW P G 5 (EZ P G cX6_isSame) (f_Rt_isSame_15 n w1 x2 x3 x4 σ) σ 15 [(0, rf P 130), (1, .ref (pK P w1)), (2, .int x2), (3, .int x3), (4, .int x4)] [] := by
  intro n
  induction n with
  | zero =>
    intro w1 x2 x3 x4 σ
    rw [f_Rt_isSame_15]
    exact aw_none
  | succ n ih =>
    intro w1 x2 x3 x4 σ
    rw [f_Rt_isSame_15]
    refine aw_iload K 4 dX6_isSame_15 rfl ?_
    refine aw_iload_n K 3 dX6_isSame_17 rfl ?_
    refine aw_icmp_ge K 47 dX6_isSame_18 (by decide) (fun h_1 => ?_) (fun h_1 => ?_)
    · refine aw_iconst K dX6_isSame_47 ki_1 ?_
      exact aw_zret dX6_isSame_48 (by decide)
    · refine aw_aload_n K 1 dX6_isSame_21 rfl ?_
      refine aw_iload K 4 dX6_isSame_22 rfl ?_
      refine aw_iload_n K 2 dX6_isSame_24 rfl ?_
      refine aw_isub K dX6_isSame_25 ?_
      refine aw_gd (fun h_2 => ?_)
      refine aw_scharAt K dX6_isSame_26 l_X6_74 hg (by decide) (Nat.le_of_ble_eq_true rfl) h_2 ?_
      refine aw_aload_n K 0 dX6_isSame_29 rfl ?_
      refine aw_getR K (c' := 131) dX6_isSame_30 lk_X6_13_6 fd_130_0 ?_
      refine aw_iload K 4 dX6_isSame_33 rfl ?_
      refine aw_gd (fun h_3 => ?_)
      refine aw_ald K dX6_isSame_35 ad_131 h_3 rfl ?_
      refine aw_icmp_eq K 41 dX6_isSame_36 (by decide) (fun h_4 => ?_) (fun h_4 => ?_)
      · refine aw_iinc K (lv' := fun y2 => [(4, .int y2), (0, rf P 130), (1, .ref (pK P w1)), (2, .int x2), (3, .int x3)]) 4 dX6_isSame_41 rfl ki_1 (Nat.le_of_ble_eq_true rfl) (fun _ => rfl) (fun y2 => ?_)
        refine aw_goto K 15 dX6_isSame_44 (by decide) ?_
        refine aw_lv [1, 2, 3, 4, 0] rfl ?_
        exact ih _ _ _ _ _
      · refine aw_iconst K dX6_isSame_39 ki_0 ?_
        exact aw_zret dX6_isSame_40 (by decide)
set_option maxRecDepth 100000 in
set_option maxHeartbeats 4000000 in
theorem c_f_Rt_isSame (l : Launch) (w1 : Nat) (x2 : Int32) (x3 : Int32) : CTI l (5) yX6_isSame cX6_isSame 5 ((some .boolean)) (fun P => [rf P 130, .ref (pK P w1), .int x2, .int x3]) (fun σ => f_Rt_isSame w1 x2 x3 σ) := by
  refine met_Z rfl rfl rfl (fun P => Nat.le_of_ble_eq_true rfl) (fun P G K hg σ => ?_)
  change AW P G 5 (EZ P G cX6_isSame) (f_Rt_isSame w1 x2 x3 σ) σ 0 [(0, rf P 130), (1, .ref (pK P w1)), (2, .int x2), (3, .int x3)] []
  rw [f_Rt_isSame]
  refine aw_aload_n K 1 dX6_isSame_0 rfl ?_
  refine aw_gd (fun h_1 => ?_)
  refine aw_slength K dX6_isSame_1 l_X6_68 hg (by decide) (Nat.le_of_ble_eq_true rfl) h_1 ?_
  refine aw_iload_n K 3 dX6_isSame_4 rfl ?_
  refine aw_iload_n K 2 dX6_isSame_5 rfl ?_
  refine aw_isub K dX6_isSame_6 ?_
  refine aw_icmp_eq K 12 dX6_isSame_7 (by decide) (fun h_2 => ?_) (fun h_2 => ?_)
  · refine aw_iload_n K 2 dX6_isSame_12 rfl ?_
    refine aw_istore K (i := 4) (lv' := [(4, .int x2), (0, rf P 130), (1, .ref (pK P w1)), (2, .int x2), (3, .int x3)]) dX6_isSame_13 (Nat.le_of_ble_eq_true rfl) rfl ?_
    refine aw_lv [1, 2, 3, 4, 0] rfl ?_
    exact (a_f_Rt_isSame_15 l K hg FU) _ _ _ _ _
  · refine aw_iconst K dX6_isSame_10 ki_0 ?_
    exact aw_zret dX6_isSame_11 (by decide)
set_option maxRecDepth 100000 in
set_option maxHeartbeats 4000000 in
theorem a_f_Rt_codeOf_16 (l : Launch) {P : PT} {G : GT} (K : CX P G cX6_codeOf RX6 (6) 5) (hg : gl G = l) : ∀ (n : Nat) (x1 : Int32) (x2 : Int32) (x3 : Int32) (σ : SG), AW P G 5 (EI P G cX6_codeOf) (f_Rt_codeOf_16 n x1 x2 x3 σ) σ 16 [(0, rf P 130), (1, .int x1), (2, .int x2), (3, .int x3)] [] := by
  intro n
  induction n with
  | zero =>
    intro x1 x2 x3 σ
    rw [f_Rt_codeOf_16]
    exact aw_none
  | succ n ih =>
    intro x1 x2 x3 σ
    rw [f_Rt_codeOf_16]
    refine aw_iload_n K 3 dX6_codeOf_16 rfl ?_
    refine aw_sipush K dX6_codeOf_17 ks_10018 ?_
    refine aw_icmp_ge K 44 dX6_codeOf_20 (by decide) (fun h_1 => ?_) (fun h_1 => ?_)
    · refine aw_sipush K dX6_codeOf_44 ks_30001 ?_
      exact aw_iret dX6_codeOf_47
    · refine aw_aload_n K 0 dX6_codeOf_23 rfl ?_
      refine aw_iload_n K 3 dX6_codeOf_24 rfl ?_
      refine aw_callSR K dX6_codeOf_25 vw_X6_60 (c_f_Rt_wordOf l _) hg (by decide) rfl (Nat.le_of_ble_eq_true rfl) rfl rfl (fun r2 σ1 _ => ?_)
      refine aw_iload_n K 1 dX6_codeOf_28 rfl ?_
      refine aw_iload_n K 2 dX6_codeOf_29 rfl ?_
      refine aw_callVI K dX6_codeOf_30 vw_X6_64_6 (c_f_Rt_isSame l _ _ _) hg (by decide) ob_130 rfl (Nat.le_of_ble_eq_true rfl) rfl rfl (fun r4 σ3 _ => ?_)
      refine aw_if_eq K 38 dX6_codeOf_33 (by decide) (fun h_2 => ?_) (fun h_2 => ?_)
      · refine aw_iinc K (lv' := fun y5 => [(3, .int y5), (0, rf P 130), (1, .int x1), (2, .int x2)]) 3 dX6_codeOf_38 rfl ki_1 (Nat.le_of_ble_eq_true rfl) (fun _ => rfl) (fun y5 => ?_)
        refine aw_goto K 16 dX6_codeOf_41 (by decide) ?_
        refine aw_lv [1, 2, 3, 0] rfl ?_
        exact ih _ _ _ _
      · refine aw_iload_n K 3 dX6_codeOf_36 rfl ?_
        exact aw_iret dX6_codeOf_37
set_option maxRecDepth 100000 in
set_option maxHeartbeats 4000000 in
theorem a_f_Rt_codeOf_87 (l : Launch) {P : PT} {G : GT} (K : CX P G cX6_codeOf RX6 (6) 5) (hg : gl G = l) : ∀ (n : Nat) (x2 : Int32) (x3 : Int32) (x4 : Int32) (σ : SG), AW P G 5 (EI P G cX6_codeOf) (f_Rt_codeOf_87 n x2 x3 x4 σ) σ 87 [(0, rf P 130), (2, .int x2), (3, .int x3), (4, .int x4)] [] := by
  intro n
  induction n with
  | zero =>
    intro x2 x3 x4 σ
    rw [f_Rt_codeOf_87]
    exact aw_none
  | succ n ih =>
    intro x2 x3 x4 σ
    rw [f_Rt_codeOf_87]
    refine aw_iload K 3 dX6_codeOf_87 rfl ?_
    refine aw_iload_n K 1 dX6_codeOf_89 rfl ?_
    refine aw_icmp_ge K 115 dX6_codeOf_90 (by decide) (fun h_1 => ?_) (fun h_1 => ?_)
    · refine aw_iload_n K 2 dX6_codeOf_115 rfl ?_
      exact aw_iret dX6_codeOf_116
    · refine aw_iload_n K 2 dX6_codeOf_93 rfl ?_
      refine aw_bipush K dX6_codeOf_94 kb_10 ?_
      refine aw_imul K dX6_codeOf_96 ?_
      refine aw_aload_n K 0 dX6_codeOf_97 rfl ?_
      refine aw_getR K (c' := 131) dX6_codeOf_98 lk_X6_13_6 fd_130_0 ?_
      refine aw_iload K 3 dX6_codeOf_101 rfl ?_
      refine aw_gd (fun h_2 => ?_)
      refine aw_ald K dX6_codeOf_103 ad_131 h_2 rfl ?_
      refine aw_iadd K dX6_codeOf_104 ?_
      refine aw_bipush K dX6_codeOf_105 kb_48 ?_
      refine aw_isub K dX6_codeOf_107 ?_
      refine aw_istoreX_n K (i := 3) (lv' := fun y1 => [(3, .int y1), (0, rf P 130), (2, .int x2), (4, .int x4)]) dX6_codeOf_108 rfl (Nat.le_of_ble_eq_true rfl) (fun _ => rfl) (fun y1 => ?_)
      refine aw_iinc K (lv' := fun y2 => [(4, .int y2), (3, .int y1), (0, rf P 130), (2, .int x2)]) 3 dX6_codeOf_109 rfl ki_1 (Nat.le_of_ble_eq_true rfl) (fun _ => rfl) (fun y2 => ?_)
      refine aw_goto K 87 dX6_codeOf_112 (by decide) ?_
      refine aw_lv [2, 3, 1, 0] rfl ?_
      exact ih _ _ _ _
set_option maxRecDepth 100000 in
set_option maxHeartbeats 4000000 in
theorem c_f_Rt_codeOf (l : Launch) (x1 : Int32) (x2 : Int32) : CTI l (6) yX6_codeOf cX6_codeOf 5 ((some .int)) (fun P => [rf P 130, .int x1, .int x2]) (fun σ => f_Rt_codeOf x1 x2 σ) := by
  refine met_I rfl rfl rfl (fun P => Nat.le_of_ble_eq_true rfl) (fun P G K hg σ => ?_)
  change AW P G 5 (EI P G cX6_codeOf) (f_Rt_codeOf x1 x2 σ) σ 0 [(0, rf P 130), (1, .int x1), (2, .int x2)] []
  rw [f_Rt_codeOf]
  refine aw_aload_n K 0 dX6_codeOf_0 rfl ?_
  refine aw_getR K (c' := 131) dX6_codeOf_1 lk_X6_13_6 fd_130_0 ?_
  refine aw_iload_n K 1 dX6_codeOf_4 rfl ?_
  refine aw_gd (fun h_1 => ?_)
  refine aw_ald K dX6_codeOf_5 ad_131 h_1 rfl ?_
  refine aw_callSI K dX6_codeOf_6 vw_X6_53 (c_f_Rt_isLetter l _) hg (by decide) rfl (Nat.le_of_ble_eq_true rfl) rfl rfl (fun r2 σ1 _ => ?_)
  refine aw_if_eq K 48 dX6_codeOf_9 (by decide) (fun h_2 => ?_) (fun h_2 => ?_)
  · refine aw_aload_n K 0 dX6_codeOf_48 rfl ?_
    refine aw_getR K (c' := 131) dX6_codeOf_49 lk_X6_13_6 fd_130_0 ?_
    refine aw_iload_n K 1 dX6_codeOf_52 rfl ?_
    refine aw_gd (fun h_3 => ?_)
    refine aw_ald K dX6_codeOf_53 ad_131 h_3 rfl ?_
    refine aw_callSI K dX6_codeOf_54 vw_X6_57 (c_f_Rt_isDigit l _) hg (by decide) rfl (Nat.le_of_ble_eq_true rfl) rfl rfl (fun r4 σ3 _ => ?_)
    refine aw_if_ne K 71 dX6_codeOf_57 (by decide) (fun h_4 => ?_) (fun h_4 => ?_)
    · refine aw_iload_n K 2 dX6_codeOf_71 rfl ?_
      refine aw_iload_n K 1 dX6_codeOf_72 rfl ?_
      refine aw_isub K dX6_codeOf_73 ?_
      refine aw_iconst K dX6_codeOf_74 ki_4 ?_
      refine aw_icmp_le K 82 dX6_codeOf_75 (by decide) (fun h_5 => ?_) (fun h_5 => ?_)
      · refine aw_iconst K dX6_codeOf_82 ki_0 ?_
        refine aw_istore_n K (i := 3) (lv' := [(3, .int (0 : Int32)), (0, rf P 130), (1, .int x1), (2, .int x2)]) dX6_codeOf_83 rfl (Nat.le_of_ble_eq_true rfl) rfl ?_
        refine aw_iload_n K 2 dX6_codeOf_84 rfl ?_
        refine aw_istore K (i := 4) (lv' := [(4, .int x1), (3, .int (0 : Int32)), (0, rf P 130), (1, .int x1), (2, .int x2)]) dX6_codeOf_85 (Nat.le_of_ble_eq_true rfl) rfl ?_
        refine aw_lv [2, 4, 1, 0] rfl ?_
        exact (a_f_Rt_codeOf_87 l K hg FU) _ _ _ _
      · refine aw_sipush K dX6_codeOf_78 ks_30001 ?_
        exact aw_iret dX6_codeOf_81
    · refine aw_sipush K dX6_codeOf_60 ks_20000 ?_
      refine aw_aload_n K 0 dX6_codeOf_63 rfl ?_
      refine aw_getR K (c' := 131) dX6_codeOf_64 lk_X6_13_6 fd_130_0 ?_
      refine aw_iload_n K 1 dX6_codeOf_67 rfl ?_
      refine aw_gd (fun h_6 => ?_)
      refine aw_ald K dX6_codeOf_68 ad_131 h_6 rfl ?_
      refine aw_iadd K dX6_codeOf_69 ?_
      exact aw_iret dX6_codeOf_70
  · refine aw_sipush K dX6_codeOf_12 ks_10000 ?_
    refine aw_istore_n K (i := 3) (lv' := [(3, .int (10000 : Int32)), (0, rf P 130), (1, .int x1), (2, .int x2)]) dX6_codeOf_15 rfl (Nat.le_of_ble_eq_true rfl) rfl ?_
    refine aw_lv [1, 2, 3, 0] rfl ?_
    exact (a_f_Rt_codeOf_16 l K hg FU) _ _ _ _
set_option maxRecDepth 100000 in
set_option maxHeartbeats 4000000 in
theorem a_f_Rt_cut_6 (l : Launch) {P : PT} {G : GT} (K : CX P G cX6_cut RX6 (7) 5) (hg : gl G = l) : ∀ (n : Nat) (x1 : Int32) (x2 : Int32) (x3 : Int32) (σ : SG), AW P G 5 (EV P G cX6_cut) (f_Rt_cut_6 n x1 x2 x3 σ) σ 6 [(0, rf P 130), (1, .int x1), (2, .int x2), (3, .int x3)] [] := by
  intro n
  induction n with
  | zero =>
    intro x1 x2 x3 σ
    rw [f_Rt_cut_6]
    exact aw_none
  | succ n ih =>
    intro x1 x2 x3 σ
    rw [f_Rt_cut_6]
    refine aw_iload_n K 3 dX6_cut_6 rfl ?_
    refine aw_sipush K dX6_cut_7 ks_200 ?_
    refine aw_icmp_ge K 71 dX6_cut_10 (by decide) (fun h_1 => ?_) (fun h_1 => ?_)
    · refine aw_aload_n K 0 dX6_cut_71 rfl ?_
      refine aw_getR K (c' := 132) dX6_cut_72 lk_X6_17_6 fd_130_2 ?_
      refine aw_iload_n K 1 dX6_cut_75 rfl ?_
      refine aw_sipush K dX6_cut_76 ks_30000 ?_
      refine aw_gd (fun h_2 => ?_)
      refine aw_ast K dX6_cut_79 ad_132 h_2 rfl (fun σ1 => ?_)
      refine aw_aload_n K 0 dX6_cut_80 rfl ?_
      refine aw_getR K (c' := 133) dX6_cut_81 lk_X6_20_6 fd_130_3 ?_
      refine aw_iload_n K 1 dX6_cut_84 rfl ?_
      refine aw_aload_n K 0 dX6_cut_85 rfl ?_
      refine aw_getI K dX6_cut_86 lk_X6_31_6 fd_130_1 ?_
      refine aw_gd (fun h_3 => ?_)
      refine aw_ast K dX6_cut_89 ad_133 h_3 rfl (fun σ2 => ?_)
      exact aw_vret dX6_cut_90
    · refine aw_iload_n K 2 dX6_cut_13 rfl ?_
      refine aw_aload_n K 0 dX6_cut_14 rfl ?_
      refine aw_getI K dX6_cut_15 lk_X6_31_6 fd_130_1 ?_
      refine aw_icmp_ge K 71 dX6_cut_18 (by decide) (fun h_4 => ?_) (fun h_4 => ?_)
      · refine aw_aload_n K 0 dX6_cut_71 rfl ?_
        refine aw_getR K (c' := 132) dX6_cut_72 lk_X6_17_6 fd_130_2 ?_
        refine aw_iload_n K 1 dX6_cut_75 rfl ?_
        refine aw_sipush K dX6_cut_76 ks_30000 ?_
        refine aw_gd (fun h_5 => ?_)
        refine aw_ast K dX6_cut_79 ad_132 h_5 rfl (fun σ3 => ?_)
        refine aw_aload_n K 0 dX6_cut_80 rfl ?_
        refine aw_getR K (c' := 133) dX6_cut_81 lk_X6_20_6 fd_130_3 ?_
        refine aw_iload_n K 1 dX6_cut_84 rfl ?_
        refine aw_aload_n K 0 dX6_cut_85 rfl ?_
        refine aw_getI K dX6_cut_86 lk_X6_31_6 fd_130_1 ?_
        refine aw_gd (fun h_6 => ?_)
        refine aw_ast K dX6_cut_89 ad_133 h_6 rfl (fun σ4 => ?_)
        exact aw_vret dX6_cut_90
      · refine aw_aload_n K 0 dX6_cut_21 rfl ?_
        refine aw_iload_n K 2 dX6_cut_22 rfl ?_
        refine aw_callVI K dX6_cut_23 vw_X6_45_6 (c_f_Rt_endOf l _) hg (by decide) ob_130 rfl (Nat.le_of_ble_eq_true rfl) rfl rfl (fun r6 σ5 _ => ?_)
        refine aw_istore K (i := 4) (lv' := [(4, .int r6), (0, rf P 130), (1, .int x1), (2, .int x2), (3, .int x3)]) dX6_cut_26 (Nat.le_of_ble_eq_true rfl) rfl ?_
        refine aw_aload_n K 1 dX6_cut_28 rfl ?_
        refine aw_getR K (c' := 131) dX6_cut_29 lk_X6_13_6 fd_130_0 ?_
        refine aw_iload_n K 3 dX6_cut_32 rfl ?_
        refine aw_gd (fun h_7 => ?_)
        refine aw_ald K dX6_cut_33 ad_131 h_7 rfl ?_
        refine aw_bipush K dX6_cut_34 kb_32 ?_
        refine aw_icmp_eq K 62 dX6_cut_36 (by decide) (fun h_8 => ?_) (fun h_8 => ?_)
        · refine aw_iload K 0 dX6_cut_62 rfl ?_
          refine aw_istore_n K (i := 2) (lv' := [(2, .int r6), (4, .int r6), (0, rf P 130), (1, .int x1), (3, .int x3)]) dX6_cut_64 rfl (Nat.le_of_ble_eq_true rfl) rfl ?_
          refine aw_iinc K (lv' := fun y7 => [(3, .int y7), (2, .int r6), (4, .int r6), (0, rf P 130), (1, .int x1)]) 4 dX6_cut_65 rfl ki_1 (Nat.le_of_ble_eq_true rfl) (fun _ => rfl) (fun y7 => ?_)
          refine aw_goto K 6 dX6_cut_68 (by decide) ?_
          refine aw_lv [3, 4, 1, 0] rfl ?_
          exact ih _ _ _ _
        · refine aw_aload_n K 1 dX6_cut_39 rfl ?_
          refine aw_getR K (c' := 132) dX6_cut_40 lk_X6_17_6 fd_130_2 ?_
          refine aw_iload_n K 2 dX6_cut_43 rfl ?_
          refine aw_aload_n K 1 dX6_cut_44 rfl ?_
          refine aw_iload_n K 3 dX6_cut_45 rfl ?_
          refine aw_iload K 0 dX6_cut_46 rfl ?_
          refine aw_callVI K dX6_cut_48 vw_X6_49_6 (c_f_Rt_codeOf l _ _) hg (by decide) ob_130 rfl (Nat.le_of_ble_eq_true rfl) rfl rfl (fun r9 σ8 _ => ?_)
          refine aw_gd (fun h_9 => ?_)
          refine aw_ast K dX6_cut_51 ad_132 h_9 rfl (fun σ10 => ?_)
          refine aw_aload_n K 1 dX6_cut_52 rfl ?_
          refine aw_getR K (c' := 133) dX6_cut_53 lk_X6_20_6 fd_130_3 ?_
          refine aw_iload_n K 2 dX6_cut_56 rfl ?_
          refine aw_iload_n K 3 dX6_cut_57 rfl ?_
          refine aw_gd (fun h_10 => ?_)
          refine aw_ast K dX6_cut_58 ad_133 h_10 rfl (fun σ11 => ?_)
          refine aw_iinc K (lv' := fun y12 => [(1, .int y12), (4, .int r6), (0, rf P 130), (2, .int x2), (3, .int x3)]) 2 dX6_cut_59 rfl ki_1 (Nat.le_of_ble_eq_true rfl) (fun _ => rfl) (fun y12 => ?_)
          refine aw_iload K 1 dX6_cut_62 rfl ?_
          refine aw_istore_n K (i := 2) (lv' := [(2, .int r6), (1, .int y12), (4, .int r6), (0, rf P 130), (3, .int x3)]) dX6_cut_64 rfl (Nat.le_of_ble_eq_true rfl) rfl ?_
          refine aw_iinc K (lv' := fun y13 => [(3, .int y13), (2, .int r6), (1, .int y12), (4, .int r6), (0, rf P 130)]) 4 dX6_cut_65 rfl ki_1 (Nat.le_of_ble_eq_true rfl) (fun _ => rfl) (fun y13 => ?_)
          refine aw_goto K 6 dX6_cut_68 (by decide) ?_
          refine aw_lv [4, 2, 1, 0] rfl ?_
          exact ih _ _ _ _
set_option maxRecDepth 100000 in
set_option maxHeartbeats 4000000 in
theorem c_f_Rt_cut (l : Launch) : CTV l (7) yX6_cut cX6_cut 5 (none) (fun P => [rf P 130]) (fun σ => f_Rt_cut σ) := by
  refine met_V rfl rfl rfl (fun P => Nat.le_of_ble_eq_true rfl) (fun P G K hg σ => ?_)
  change AW P G 5 (EV P G cX6_cut) (f_Rt_cut σ) σ 0 [(0, rf P 130)] []
  rw [f_Rt_cut]
  refine aw_iconst K dX6_cut_0 ki_0 ?_
  refine aw_istore_n K (i := 1) (lv' := [(1, .int (0 : Int32)), (0, rf P 130)]) dX6_cut_1 rfl (Nat.le_of_ble_eq_true rfl) rfl ?_
  refine aw_iconst K dX6_cut_2 ki_0 ?_
  refine aw_istore_n K (i := 2) (lv' := [(2, .int (0 : Int32)), (1, .int (0 : Int32)), (0, rf P 130)]) dX6_cut_3 rfl (Nat.le_of_ble_eq_true rfl) rfl ?_
  refine aw_iconst K dX6_cut_4 ki_0 ?_
  refine aw_istore_n K (i := 3) (lv' := [(3, .int (0 : Int32)), (2, .int (0 : Int32)), (1, .int (0 : Int32)), (0, rf P 130)]) dX6_cut_5 rfl (Nat.le_of_ble_eq_true rfl) rfl ?_
  refine aw_lv [3, 2, 1, 0] rfl ?_
  exact (a_f_Rt_cut_6 l K hg FU) _ _ _ _
set_option maxRecDepth 100000 in
set_option maxHeartbeats 4000000 in
theorem c_f_Ru_clear (l : Launch) (t : Nat) (ht : TR t) : CTV l (0) yX7_clear cX7_clear 1 (none) (fun P => [rf P t]) (fun σ => f_Ru_clear t σ) := by
  refine met_V rfl rfl rfl (fun P => Nat.le_of_ble_eq_true rfl) (fun P G K hg σ => ?_)
  change AW P G 1 (EV P G cX7_clear) (f_Ru_clear t σ) σ 0 [(0, rf P t)] []
  rw [f_Ru_clear]
  refine aw_aload_n K 0 dX7_clear_0 rfl ?_
  refine aw_iconst K dX7_clear_1 ki_0 ?_
  refine aw_putI K dX7_clear_2 lp_X7_30_7 (fd_Ru_0 ht) (fun σ1 => ?_)
  refine aw_aload_n K 0 dX7_clear_5 rfl ?_
  refine aw_iconst K dX7_clear_6 ki_0 ?_
  refine aw_putI K dX7_clear_7 lp_X7_34_7 (fd_Ru_5 ht) (fun σ2 => ?_)
  exact aw_vret dX7_clear_10
set_option maxRecDepth 100000 in
set_option maxHeartbeats 4000000 in
theorem a_f_Rt_read_61 (l : Launch) {P : PT} {G : GT} (K : CX P G cX6_read RX6 (51) 3) (hg : gl G = l) : ∀ (x1 : Int32) (σ : SG), AW P G 3 (EI P G cX6_read) (f_Rt_read_61 x1 σ) σ 61 [(0, rf P 130), (1, .int x1)] [] := by
  intro x1 σ
  rw [f_Rt_read_61]
  refine aw_iload_n K 1 dX6_read_61 rfl ?_
  refine aw_if_eq K 85 dX6_read_62 (by decide) (fun h_1 => ?_) (fun h_1 => ?_)
  · refine aw_aload_n K 0 dX6_read_85 rfl ?_
    refine aw_getR K (c' := 133) dX6_read_86 lk_X6_20_6 fd_130_3 ?_
    refine aw_aload_n K 0 dX6_read_89 rfl ?_
    refine aw_getI K dX6_read_90 lk_X6_35_6 fd_130_4 ?_
    refine aw_gd (fun h_2 => ?_)
    refine aw_ald K dX6_read_93 ad_133 h_2 rfl ?_
    exact aw_iret dX6_read_94
  · refine aw_aload_n K 0 dX6_read_65 rfl ?_
    refine aw_getR K (c' := 132) dX6_read_66 lk_X6_17_6 fd_130_2 ?_
    refine aw_aload_n K 0 dX6_read_69 rfl ?_
    refine aw_getI K dX6_read_70 lk_X6_35_6 fd_130_4 ?_
    refine aw_gd (fun h_3 => ?_)
    refine aw_ald K dX6_read_73 ad_132 h_3 rfl ?_
    refine aw_sipush K dX6_read_74 ks_30000 ?_
    refine aw_icmp_ne K 85 dX6_read_77 (by decide) (fun h_4 => ?_) (fun h_4 => ?_)
    · refine aw_aload_n K 0 dX6_read_85 rfl ?_
      refine aw_getR K (c' := 133) dX6_read_86 lk_X6_20_6 fd_130_3 ?_
      refine aw_aload_n K 0 dX6_read_89 rfl ?_
      refine aw_getI K dX6_read_90 lk_X6_35_6 fd_130_4 ?_
      refine aw_gd (fun h_5 => ?_)
      refine aw_ald K dX6_read_93 ad_133 h_5 rfl ?_
      exact aw_iret dX6_read_94
    · refine aw_bipush K dX6_read_80 kb_m3 ?_
      refine aw_goto K 94 dX6_read_82 (by decide) ?_
      exact aw_iret dX6_read_94
set_option maxRecDepth 100000 in
set_option maxHeartbeats 4000000 in
theorem a_f_Rt_read_25 (l : Launch) {P : PT} {G : GT} (K : CX P G cX6_read RX6 (51) 3) (hg : gl G = l) : ∀ (n : Nat) (x1 : Int32) (x2 : Int32) (σ : SG), AW P G 3 (EI P G cX6_read) (f_Rt_read_25 n x1 x2 σ) σ 25 [(0, rf P 130), (1, .int x1), (2, .int x2)] [] := by
  intro n
  induction n with
  | zero =>
    intro x1 x2 σ
    rw [f_Rt_read_25]
    exact aw_none
  | succ n ih =>
    intro x1 x2 σ
    rw [f_Rt_read_25]
    refine aw_iload_n K 2 dX6_read_25 rfl ?_
    refine aw_bipush K dX6_read_26 kb_8 ?_
    refine aw_icmp_ge K 61 dX6_read_28 (by decide) (fun h_1 => ?_) (fun h_1 => ?_)
    · refine aw_lv [0, 1] rfl ?_
      exact (a_f_Rt_read_61 l K hg) _ _
    · refine aw_iload_n K 1 dX6_read_31 rfl ?_
      refine aw_if_eq K 61 dX6_read_32 (by decide) (fun h_2 => ?_) (fun h_2 => ?_)
      · refine aw_lv [0, 1] rfl ?_
        exact (a_f_Rt_read_61 l K hg) _ _
      · refine aw_aload_n K 0 dX6_read_35 rfl ?_
        refine aw_getR K (c' := 132) dX6_read_36 lk_X6_17_6 fd_130_2 ?_
        refine aw_aload_n K 0 dX6_read_39 rfl ?_
        refine aw_getI K dX6_read_40 lk_X6_35_6 fd_130_4 ?_
        refine aw_gd (fun h_3 => ?_)
        refine aw_ald K dX6_read_43 ad_132 h_3 rfl ?_
        refine aw_sipush K dX6_read_44 ks_30000 ?_
        refine aw_icmp_eq K 61 dX6_read_47 (by decide) (fun h_4 => ?_) (fun h_4 => ?_)
        · refine aw_lv [0, 1] rfl ?_
          exact (a_f_Rt_read_61 l K hg) _ _
        · refine aw_aload_n K 0 dX6_read_50 rfl ?_
          refine aw_callVI K dX6_read_51 vw_X6_41_6 (c_f_Rt_readRule l) hg (by decide) ob_130 rfl (Nat.le_of_ble_eq_true rfl) rfl rfl (fun r2 σ1 _ => ?_)
          refine aw_istore_n K (i := 1) (lv' := [(1, .int r2), (0, rf P 130), (2, .int x2)]) dX6_read_54 rfl (Nat.le_of_ble_eq_true rfl) rfl ?_
          refine aw_iinc K (lv' := fun y3 => [(2, .int y3), (1, .int r2), (0, rf P 130)]) 2 dX6_read_55 rfl ki_1 (Nat.le_of_ble_eq_true rfl) (fun _ => rfl) (fun y3 => ?_)
          refine aw_goto K 25 dX6_read_58 (by decide) ?_
          refine aw_lv [2, 1, 0] rfl ?_
          exact ih _ _ _
set_option maxRecDepth 100000 in
set_option maxHeartbeats 4000000 in
theorem c_f_Rt_read (l : Launch) : CTI l (51) yX6_read cX6_read 3 ((some .int)) (fun P => [rf P 130]) (fun σ => f_Rt_read σ) := by
  refine met_I rfl rfl rfl (fun P => Nat.le_of_ble_eq_true rfl) (fun P G K hg σ => ?_)
  change AW P G 3 (EI P G cX6_read) (f_Rt_read σ) σ 0 [(0, rf P 130)] []
  rw [f_Rt_read]
  refine aw_aload_n K 0 dX6_read_0 rfl ?_
  refine aw_callVV K dX6_read_1 vw_X6_28_6 (c_f_Rt_cut l) hg (by decide) ob_130 rfl (Nat.le_of_ble_eq_true rfl) rfl rfl (fun _ σ1 _ => ?_)
  refine aw_aload_n K 0 dX6_read_4 rfl ?_
  refine aw_iconst K dX6_read_5 ki_0 ?_
  refine aw_putI K dX6_read_6 lp_X6_31_6 fd_130_1 (fun σ2 => ?_)
  refine aw_aload_n K 0 dX6_read_9 rfl ?_
  refine aw_iconst K dX6_read_10 ki_0 ?_
  refine aw_putI K dX6_read_11 lp_X6_35_6 fd_130_4 (fun σ3 => ?_)
  refine aw_aload_n K 0 dX6_read_14 rfl ?_
  refine aw_getR K (c' := 134) dX6_read_15 lk_X6_24_6 fd_130_5 ?_
  refine aw_callVV K dX6_read_18 vw_X6_38_7 (c_f_Ru_clear l 134 TR.d) hg (by decide) ob_134 rfl (Nat.le_of_ble_eq_true rfl) rfl rfl (fun _ σ4 _ => ?_)
  refine aw_iconst K dX6_read_21 ki_1 ?_
  refine aw_istore_n K (i := 1) (lv' := [(1, .int (1 : Int32)), (0, rf P 130)]) dX6_read_22 rfl (Nat.le_of_ble_eq_true rfl) rfl ?_
  refine aw_iconst K dX6_read_23 ki_0 ?_
  refine aw_istore_n K (i := 2) (lv' := [(2, .int (0 : Int32)), (1, .int (1 : Int32)), (0, rf P 130)]) dX6_read_24 rfl (Nat.le_of_ble_eq_true rfl) rfl ?_
  refine aw_lv [2, 1, 0] rfl ?_
  exact (a_f_Rt_read_25 l K hg FU) _ _ _
set_option maxRecDepth 100000 in
set_option maxHeartbeats 4000000 in
theorem c_f_Ru_copyFrom (l : Launch) (t : Nat) (ht : TR t) (a1 : Nat) (ha1 : TR a1) : CTV l (1) yX7_copyFrom cX7_copyFrom 2 (none) (fun P => [rf P t, rf P a1]) (fun σ => f_Ru_copyFrom t a1 σ) := by
  refine met_V rfl rfl rfl (fun P => Nat.le_of_ble_eq_true rfl) (fun P G K hg σ => ?_)
  change AW P G 2 (EV P G cX7_copyFrom) (f_Ru_copyFrom t a1 σ) σ 0 [(0, rf P t), (1, rf P a1)] []
  rw [f_Ru_copyFrom]
  refine aw_aload_n K 0 dX7_copyFrom_0 rfl ?_
  refine aw_aload_n K 1 dX7_copyFrom_1 rfl ?_
  refine aw_getI K dX7_copyFrom_2 lk_X7_30_7 (fd_Ru_0 ha1) ?_
  refine aw_putI K dX7_copyFrom_5 lp_X7_30_7 (fd_Ru_0 ht) (fun σ1 => ?_)
  refine aw_aload_n K 0 dX7_copyFrom_8 rfl ?_
  refine aw_aload_n K 1 dX7_copyFrom_9 rfl ?_
  refine aw_getI K dX7_copyFrom_10 lk_X7_34_7 (fd_Ru_5 ha1) ?_
  refine aw_putI K dX7_copyFrom_13 lp_X7_34_7 (fd_Ru_5 ht) (fun σ2 => ?_)
  refine aw_aload_n K 1 dX7_copyFrom_16 rfl ?_
  refine aw_getR K (c' := a1 + 1) dX7_copyFrom_17 lk_X7_9_7 (fd_Ru_1 ha1) ?_
  refine aw_iconst K dX7_copyFrom_20 ki_0 ?_
  refine aw_aload_n K 0 dX7_copyFrom_21 rfl ?_
  refine aw_getR K (c' := t + 1) dX7_copyFrom_22 lk_X7_9_7 (fd_Ru_1 ht) ?_
  refine aw_iconst K dX7_copyFrom_25 ki_0 ?_
  refine aw_aload_n K 0 dX7_copyFrom_26 rfl ?_
  refine aw_getI K dX7_copyFrom_27 lk_X7_30_7 (fd_Ru_0 ht) ?_
  refine aw_gd (fun h_1 => ?_)
  refine aw_copy K dX7_copyFrom_30 (by decide) (in_r24 _ (List.mem_of_getElem? (i := 3) rfl)) (in_r24 _ (List.mem_of_getElem? (i := 4) rfl)) (in_r24 _ (List.mem_of_getElem? (i := 5) rfl)) (in_r24 _ (List.mem_of_getElem? (i := 6) rfl)) (Nat.le_of_ble_eq_true rfl) (kd_Ru_1 ha1) (kd_Ru_1 ht) h_1 (fun σ3 => ?_)
  refine aw_aload_n K 1 dX7_copyFrom_33 rfl ?_
  refine aw_getR K (c' := a1 + 2) dX7_copyFrom_34 lk_X7_15_7 (fd_Ru_2 ha1) ?_
  refine aw_iconst K dX7_copyFrom_37 ki_0 ?_
  refine aw_aload_n K 0 dX7_copyFrom_38 rfl ?_
  refine aw_getR K (c' := t + 2) dX7_copyFrom_39 lk_X7_15_7 (fd_Ru_2 ht) ?_
  refine aw_iconst K dX7_copyFrom_42 ki_0 ?_
  refine aw_aload_n K 0 dX7_copyFrom_43 rfl ?_
  refine aw_getI K dX7_copyFrom_44 lk_X7_30_7 (fd_Ru_0 ht) ?_
  refine aw_gd (fun h_2 => ?_)
  refine aw_copy K dX7_copyFrom_47 (by decide) (in_r24 _ (List.mem_of_getElem? (i := 3) rfl)) (in_r24 _ (List.mem_of_getElem? (i := 4) rfl)) (in_r24 _ (List.mem_of_getElem? (i := 5) rfl)) (in_r24 _ (List.mem_of_getElem? (i := 6) rfl)) (Nat.le_of_ble_eq_true rfl) (kd_Ru_2 ha1) (kd_Ru_2 ht) h_2 (fun σ4 => ?_)
  refine aw_aload_n K 1 dX7_copyFrom_50 rfl ?_
  refine aw_getR K (c' := a1 + 3) dX7_copyFrom_51 lk_X7_18_7 (fd_Ru_3 ha1) ?_
  refine aw_iconst K dX7_copyFrom_54 ki_0 ?_
  refine aw_aload_n K 0 dX7_copyFrom_55 rfl ?_
  refine aw_getR K (c' := t + 3) dX7_copyFrom_56 lk_X7_18_7 (fd_Ru_3 ht) ?_
  refine aw_iconst K dX7_copyFrom_59 ki_0 ?_
  refine aw_aload_n K 0 dX7_copyFrom_60 rfl ?_
  refine aw_getI K dX7_copyFrom_61 lk_X7_30_7 (fd_Ru_0 ht) ?_
  refine aw_gd (fun h_3 => ?_)
  refine aw_copy K dX7_copyFrom_64 (by decide) (in_r24 _ (List.mem_of_getElem? (i := 3) rfl)) (in_r24 _ (List.mem_of_getElem? (i := 4) rfl)) (in_r24 _ (List.mem_of_getElem? (i := 5) rfl)) (in_r24 _ (List.mem_of_getElem? (i := 6) rfl)) (Nat.le_of_ble_eq_true rfl) (kd_Ru_3 ha1) (kd_Ru_3 ht) h_3 (fun σ5 => ?_)
  refine aw_aload_n K 1 dX7_copyFrom_67 rfl ?_
  refine aw_getR K (c' := a1 + 4) dX7_copyFrom_68 lk_X7_21_7 (fd_Ru_4 ha1) ?_
  refine aw_iconst K dX7_copyFrom_71 ki_0 ?_
  refine aw_aload_n K 0 dX7_copyFrom_72 rfl ?_
  refine aw_getR K (c' := t + 4) dX7_copyFrom_73 lk_X7_21_7 (fd_Ru_4 ht) ?_
  refine aw_iconst K dX7_copyFrom_76 ki_0 ?_
  refine aw_aload_n K 0 dX7_copyFrom_77 rfl ?_
  refine aw_getI K dX7_copyFrom_78 lk_X7_30_7 (fd_Ru_0 ht) ?_
  refine aw_gd (fun h_4 => ?_)
  refine aw_copy K dX7_copyFrom_81 (by decide) (in_r24 _ (List.mem_of_getElem? (i := 3) rfl)) (in_r24 _ (List.mem_of_getElem? (i := 4) rfl)) (in_r24 _ (List.mem_of_getElem? (i := 5) rfl)) (in_r24 _ (List.mem_of_getElem? (i := 6) rfl)) (Nat.le_of_ble_eq_true rfl) (kd_Ru_4 ha1) (kd_Ru_4 ht) h_4 (fun σ6 => ?_)
  refine aw_aload_n K 1 dX7_copyFrom_84 rfl ?_
  refine aw_getR K (c' := a1 + 5) dX7_copyFrom_85 lk_X7_24_7 (fd_Ru_6 ha1) ?_
  refine aw_iconst K dX7_copyFrom_88 ki_0 ?_
  refine aw_aload_n K 0 dX7_copyFrom_89 rfl ?_
  refine aw_getR K (c' := t + 5) dX7_copyFrom_90 lk_X7_24_7 (fd_Ru_6 ht) ?_
  refine aw_iconst K dX7_copyFrom_93 ki_0 ?_
  refine aw_aload_n K 0 dX7_copyFrom_94 rfl ?_
  refine aw_getI K dX7_copyFrom_95 lk_X7_34_7 (fd_Ru_5 ht) ?_
  refine aw_gd (fun h_5 => ?_)
  refine aw_copy K dX7_copyFrom_98 (by decide) (in_r24 _ (List.mem_of_getElem? (i := 3) rfl)) (in_r24 _ (List.mem_of_getElem? (i := 4) rfl)) (in_r24 _ (List.mem_of_getElem? (i := 5) rfl)) (in_r24 _ (List.mem_of_getElem? (i := 6) rfl)) (Nat.le_of_ble_eq_true rfl) (kd_Ru_6 ha1) (kd_Ru_6 ht) h_5 (fun σ7 => ?_)
  exact aw_vret dX7_copyFrom_101
set_option maxRecDepth 100000 in
set_option maxHeartbeats 4000000 in
theorem c_f_H_rules (l : Launch) : CTI l (52) yX11_rules cX11_rules 2 ((some .int)) (fun P => [rf P 0]) (fun σ => f_H_rules σ) := by
  refine met_I rfl rfl rfl (fun P => Nat.le_of_ble_eq_true rfl) (fun P G K hg σ => ?_)
  change AW P G 2 (EI P G cX11_rules) (f_H_rules σ) σ 0 [(0, rf P 0)] []
  rw [f_H_rules]
  refine aw_aload_n K 0 dX11_rules_0 rfl ?_
  refine aw_getR K (c' := 130) dX11_rules_1 lk_X11_63_11 fd_0_6 ?_
  refine aw_callVI K dX11_rules_4 vw_X11_140_6 (c_f_Rt_read l) hg (by decide) ob_130 rfl (Nat.le_of_ble_eq_true rfl) rfl rfl (fun r2 σ1 _ => ?_)
  refine aw_istore_n K (i := 1) (lv' := [(1, .int r2), (0, rf P 0)]) dX11_rules_7 rfl (Nat.le_of_ble_eq_true rfl) rfl ?_
  refine aw_iload_n K 0 dX11_rules_8 rfl ?_
  refine aw_if_lt K 17 dX11_rules_9 (by decide) (fun h_1 => ?_) (fun h_1 => ?_)
  · refine aw_aload_n K 1 dX11_rules_17 rfl ?_
    refine aw_getR K (c' := 20) dX11_rules_18 lk_X11_41_11 fd_0_1 ?_
    refine aw_getR K (c' := 21) dX11_rules_21 lk_X11_143_9 fd_20_1 ?_
    refine aw_aload_n K 1 dX11_rules_24 rfl ?_
    refine aw_getR K (c' := 130) dX11_rules_25 lk_X11_63_11 fd_0_6 ?_
    refine aw_getR K (c' := 134) dX11_rules_28 lk_X11_147_6 fd_130_5 ?_
    refine aw_callVV K dX11_rules_31 vw_X11_150_7 (c_f_Ru_copyFrom l 21 TR.a 134 TR.d) hg (by decide) ob_21 rfl (Nat.le_of_ble_eq_true rfl) rfl rfl (fun _ σ3 _ => ?_)
    refine aw_aload_n K 1 dX11_rules_34 rfl ?_
    refine aw_getR K (c' := 20) dX11_rules_35 lk_X11_41_11 fd_0_1 ?_
    refine aw_getR K (c' := 21) dX11_rules_38 lk_X11_143_9 fd_20_1 ?_
    refine aw_getI K dX11_rules_41 lk_X11_156_7 fd_21_0 ?_
    exact aw_iret dX11_rules_44
  · refine aw_bipush K dX11_rules_12 kb_m100 ?_
    refine aw_iload_n K 0 dX11_rules_14 rfl ?_
    refine aw_isub K dX11_rules_15 ?_
    exact aw_iret dX11_rules_16
set_option maxRecDepth 100000 in
set_option maxHeartbeats 4000000 in
theorem c_f_To_isFree (l : Launch) (t : Nat) (ht : TW t) (x1 : Int32) : CTI l (1) yX9_isFree cX9_isFree 2 ((some .boolean)) (fun P => [rf P t, .int x1]) (fun σ => f_To_isFree t x1 σ) := by
  refine met_Z rfl rfl rfl (fun P => Nat.le_of_ble_eq_true rfl) (fun P G K hg σ => ?_)
  change AW P G 2 (EZ P G cX9_isFree) (f_To_isFree t x1 σ) σ 0 [(0, rf P t), (1, .int x1)] []
  rw [f_To_isFree]
  refine aw_aload_n K 0 dX9_isFree_0 rfl ?_
  refine aw_iload_n K 1 dX9_isFree_1 rfl ?_
  refine aw_callVI K dX9_isFree_2 vw_X9_122_9 (c_f_To_isPerson l t ht _) hg (by decide) (ob_To ht) rfl (Nat.le_of_ble_eq_true rfl) rfl rfl (fun r2 σ1 _ => ?_)
  refine aw_if_eq K 28 dX9_isFree_5 (by decide) (fun h_1 => ?_) (fun h_1 => ?_)
  · refine aw_iconst K dX9_isFree_28 ki_0 ?_
    exact aw_zret dX9_isFree_29 (by decide)
  · refine aw_aload_n K 0 dX9_isFree_8 rfl ?_
    refine aw_getI K dX9_isFree_9 lk_X9_83_9 (fd_To_8 ht) ?_
    refine aw_aload_n K 0 dX9_isFree_12 rfl ?_
    refine aw_getI K dX9_isFree_13 lk_X9_86_9 (fd_To_9 ht) ?_
    refine aw_ior K dX9_isFree_16 ?_
    refine aw_iload_n K 1 dX9_isFree_17 rfl ?_
    refine aw_ishr K dX9_isFree_18 ?_
    refine aw_iconst K dX9_isFree_19 ki_1 ?_
    refine aw_iand K dX9_isFree_20 ?_
    refine aw_if_ne K 28 dX9_isFree_21 (by decide) (fun h_2 => ?_) (fun h_2 => ?_)
    · refine aw_iconst K dX9_isFree_28 ki_0 ?_
      exact aw_zret dX9_isFree_29 (by decide)
    · refine aw_iconst K dX9_isFree_24 ki_1 ?_
      refine aw_goto K 29 dX9_isFree_25 (by decide) ?_
      exact aw_zret dX9_isFree_29 (by decide)
set_option maxRecDepth 100000 in
set_option maxHeartbeats 4000000 in
theorem c_f_To_canBe (l : Launch) (t : Nat) (ht : TW t) (x1 : Int32) : CTI l (3) yX9_canBe cX9_canBe 4 ((some .boolean)) (fun P => [rf P t, .int x1]) (fun σ => f_To_canBe t x1 σ) := by
  refine met_Z rfl rfl rfl (fun P => Nat.le_of_ble_eq_true rfl) (fun P G K hg σ => ?_)
  change AW P G 4 (EZ P G cX9_canBe) (f_To_canBe t x1 σ) σ 0 [(0, rf P t), (1, .int x1)] []
  rw [f_To_canBe]
  refine aw_iload_n K 1 dX9_canBe_0 rfl ?_
  refine aw_if_ge K 6 dX9_canBe_1 (by decide) (fun h_1 => ?_) (fun h_1 => ?_)
  · refine aw_iload_n K 1 dX9_canBe_6 rfl ?_
    refine aw_bipush K dX9_canBe_7 kb_10 ?_
    refine aw_idiv K dX9_canBe_9 (by decide) ?_
    refine aw_istoreX_n K (i := 2) (lv' := fun y1 => [(2, .int y1), (0, rf P t), (1, .int x1)]) dX9_canBe_10 rfl (Nat.le_of_ble_eq_true rfl) (fun _ => rfl) (fun y1 => ?_)
    refine aw_iload_n K 2 dX9_canBe_11 rfl ?_
    refine aw_bipush K dX9_canBe_12 kb_10 ?_
    refine aw_irem K dX9_canBe_14 (by decide) ?_
    refine aw_istoreX_n K (i := 3) (lv' := fun y2 => [(3, .int y2), (2, .int y1), (0, rf P t), (1, .int x1)]) dX9_canBe_15 rfl (Nat.le_of_ble_eq_true rfl) (fun _ => rfl) (fun y2 => ?_)
    refine aw_aload_n K 2 dX9_canBe_16 rfl ?_
    refine aw_iload_n K 1 dX9_canBe_17 rfl ?_
    refine aw_callVI K dX9_canBe_18 vw_X9_115_9 (c_f_To_isFree l t ht _) hg (by decide) (ob_To ht) rfl (Nat.le_of_ble_eq_true rfl) rfl rfl (fun r4 σ3 _ => ?_)
    refine aw_if_ne K 26 dX9_canBe_21 (by decide) (fun h_2 => ?_) (fun h_2 => ?_)
    · refine aw_iload_n K 0 dX9_canBe_26 rfl ?_
      refine aw_bipush K dX9_canBe_27 kb_9 ?_
      refine aw_icmp_ne K 82 dX9_canBe_29 (by decide) (fun h_3 => ?_) (fun h_3 => ?_)
      · refine aw_iload_n K 0 dX9_canBe_82 rfl ?_
        refine aw_iload_n K 1 dX9_canBe_83 rfl ?_
        refine aw_icmp_le K 143 dX9_canBe_84 (by decide) (fun h_4 => ?_) (fun h_4 => ?_)
        · refine aw_iconst K dX9_canBe_143 ki_0 ?_
          exact aw_zret dX9_canBe_144 (by decide)
        · refine aw_aload_n K 2 dX9_canBe_87 rfl ?_
          refine aw_iload_n K 0 dX9_canBe_88 rfl ?_
          refine aw_callVI K dX9_canBe_89 vw_X9_115_9 (c_f_To_isFree l t ht _) hg (by decide) (ob_To ht) rfl (Nat.le_of_ble_eq_true rfl) rfl rfl (fun r6 σ5 _ => ?_)
          refine aw_if_eq K 143 dX9_canBe_92 (by decide) (fun h_5 => ?_) (fun h_5 => ?_)
          · refine aw_iconst K dX9_canBe_143 ki_0 ?_
            exact aw_zret dX9_canBe_144 (by decide)
          · refine aw_aload_n K 2 dX9_canBe_95 rfl ?_
            refine aw_getR K (c' := t + 12) dX9_canBe_96 lk_X9_31_9 (fd_To_7 ht) ?_
            refine aw_iload_n K 1 dX9_canBe_99 rfl ?_
            refine aw_gd (fun h_6 => ?_)
            refine aw_ald K dX9_canBe_100 (kd_To_7 ht) h_6 rfl ?_
            refine aw_iload_n K 0 dX9_canBe_101 rfl ?_
            refine aw_ishr K dX9_canBe_102 ?_
            refine aw_iconst K dX9_canBe_103 ki_1 ?_
            refine aw_iand K dX9_canBe_104 ?_
            refine aw_iconst K dX9_canBe_105 ki_1 ?_
            refine aw_icmp_ne K 143 dX9_canBe_106 (by decide) (fun h_7 => ?_) (fun h_7 => ?_)
            · refine aw_iconst K dX9_canBe_143 ki_0 ?_
              exact aw_zret dX9_canBe_144 (by decide)
            · refine aw_aload_n K 2 dX9_canBe_109 rfl ?_
              refine aw_getR K (c' := t + 10) dX9_canBe_110 lk_X9_25_9 (fd_To_5 ht) ?_
              refine aw_iload_n K 1 dX9_canBe_113 rfl ?_
              refine aw_gd (fun h_8 => ?_)
              refine aw_ald K dX9_canBe_114 (kd_To_5 ht) h_8 rfl ?_
              refine aw_aload_n K 2 dX9_canBe_115 rfl ?_
              refine aw_getR K (c' := t + 9) dX9_canBe_116 lk_X9_22_9 (fd_To_4 ht) ?_
              refine aw_iload_n K 0 dX9_canBe_119 rfl ?_
              refine aw_gd (fun h_9 => ?_)
              refine aw_ald K dX9_canBe_120 (kd_To_4 ht) h_9 rfl ?_
              refine aw_icmp_eq K 139 dX9_canBe_121 (by decide) (fun h_10 => ?_) (fun h_10 => ?_)
              · refine aw_iconst K dX9_canBe_139 ki_1 ?_
                refine aw_goto K 144 dX9_canBe_140 (by decide) ?_
                exact aw_zret dX9_canBe_144 (by decide)
              · refine aw_aload_n K 2 dX9_canBe_124 rfl ?_
                refine aw_getR K (c' := t + 10) dX9_canBe_125 lk_X9_25_9 (fd_To_5 ht) ?_
                refine aw_iload_n K 0 dX9_canBe_128 rfl ?_
                refine aw_gd (fun h_11 => ?_)
                refine aw_ald K dX9_canBe_129 (kd_To_5 ht) h_11 rfl ?_
                refine aw_aload_n K 2 dX9_canBe_130 rfl ?_
                refine aw_getR K (c' := t + 9) dX9_canBe_131 lk_X9_22_9 (fd_To_4 ht) ?_
                refine aw_iload_n K 1 dX9_canBe_134 rfl ?_
                refine aw_gd (fun h_12 => ?_)
                refine aw_ald K dX9_canBe_135 (kd_To_4 ht) h_12 rfl ?_
                refine aw_icmp_ne K 143 dX9_canBe_136 (by decide) (fun h_13 => ?_) (fun h_13 => ?_)
                · refine aw_iconst K dX9_canBe_143 ki_0 ?_
                  exact aw_zret dX9_canBe_144 (by decide)
                · refine aw_iconst K dX9_canBe_139 ki_1 ?_
                  refine aw_goto K 144 dX9_canBe_140 (by decide) ?_
                  exact aw_zret dX9_canBe_144 (by decide)
      · refine aw_aload_n K 2 dX9_canBe_32 rfl ?_
        refine aw_getR K (c' := t + 14) dX9_canBe_33 lk_X9_37_9 (fd_To_11 ht) ?_
        refine aw_aload_n K 2 dX9_canBe_36 rfl ?_
        refine aw_getR K (c' := t + 10) dX9_canBe_37 lk_X9_25_9 (fd_To_5 ht) ?_
        refine aw_iload_n K 1 dX9_canBe_40 rfl ?_
        refine aw_gd (fun h_14 => ?_)
        refine aw_ald K dX9_canBe_41 (kd_To_5 ht) h_14 rfl ?_
        refine aw_gd (fun h_15 => ?_)
        refine aw_ald K dX9_canBe_42 (kd_To_11 ht) h_15 rfl ?_
        refine aw_if_le K 80 dX9_canBe_43 (by decide) (fun h_16 => ?_) (fun h_16 => ?_)
        · refine aw_iconst K dX9_canBe_80 ki_0 ?_
          exact aw_zret dX9_canBe_81 (by decide)
        · refine aw_aload_n K 2 dX9_canBe_46 rfl ?_
          refine aw_getR K (c' := t + 14) dX9_canBe_47 lk_X9_37_9 (fd_To_11 ht) ?_
          refine aw_aload_n K 2 dX9_canBe_50 rfl ?_
          refine aw_getR K (c' := t + 9) dX9_canBe_51 lk_X9_22_9 (fd_To_4 ht) ?_
          refine aw_iload_n K 1 dX9_canBe_54 rfl ?_
          refine aw_gd (fun h_17 => ?_)
          refine aw_ald K dX9_canBe_55 (kd_To_4 ht) h_17 rfl ?_
          refine aw_gd (fun h_18 => ?_)
          refine aw_ald K dX9_canBe_56 (kd_To_11 ht) h_18 rfl ?_
          refine aw_bipush K dX9_canBe_57 kb_99 ?_
          refine aw_icmp_ge K 80 dX9_canBe_59 (by decide) (fun h_19 => ?_) (fun h_19 => ?_)
          · refine aw_iconst K dX9_canBe_80 ki_0 ?_
            exact aw_zret dX9_canBe_81 (by decide)
          · refine aw_aload_n K 2 dX9_canBe_62 rfl ?_
            refine aw_getR K (c' := t + 11) dX9_canBe_63 lk_X9_28_9 (fd_To_6 ht) ?_
            refine aw_iload_n K 1 dX9_canBe_66 rfl ?_
            refine aw_gd (fun h_20 => ?_)
            refine aw_ald K dX9_canBe_67 (kd_To_6 ht) h_20 rfl ?_
            refine aw_aload_n K 2 dX9_canBe_68 rfl ?_
            refine aw_iload_n K 1 dX9_canBe_69 rfl ?_
            refine aw_callVI K dX9_canBe_70 vw_X9_119_9 (c_f_To_asks l t ht _) hg (by decide) (ob_To ht) rfl (Nat.le_of_ble_eq_true rfl) rfl rfl (fun r8 σ7 _ => ?_)
            refine aw_icmp_lt K 80 dX9_canBe_73 (by decide) (fun h_21 => ?_) (fun h_21 => ?_)
            · refine aw_iconst K dX9_canBe_80 ki_0 ?_
              exact aw_zret dX9_canBe_81 (by decide)
            · refine aw_iconst K dX9_canBe_76 ki_1 ?_
              refine aw_goto K 81 dX9_canBe_77 (by decide) ?_
              exact aw_zret dX9_canBe_81 (by decide)
    · refine aw_iconst K dX9_canBe_24 ki_0 ?_
      exact aw_zret dX9_canBe_25 (by decide)
  · refine aw_iconst K dX9_canBe_4 ki_0 ?_
    exact aw_zret dX9_canBe_5 (by decide)
set_option maxRecDepth 100000 in
set_option maxHeartbeats 4000000 in
theorem a_f_H_cans_17 (l : Launch) {P : PT} {G : GT} (K : CX P G cX11_cans RX11 (4) 6) (hg : gl G = l) : ∀ (n : Nat) (x1 : Int32) (x3 : Int32) (x4 : Int32) (σ : SG), AW P G 6 (EI P G cX11_cans) (f_H_cans_17 n x1 x3 x4 σ) σ 17 [(0, rf P 0), (1, .int x1), (2, .ref (pC P)), (3, .int x3), (4, .int x4)] [] := by
  intro n
  induction n with
  | zero =>
    intro x1 x3 x4 σ
    rw [f_H_cans_17]
    exact aw_none
  | succ n ih =>
    intro x1 x3 x4 σ
    rw [f_H_cans_17]
    refine aw_iload K 4 dX11_cans_17 rfl ?_
    refine aw_iload_n K 3 dX11_cans_19 rfl ?_
    refine aw_icmp_ge K 56 dX11_cans_20 (by decide) (fun h_1 => ?_) (fun h_1 => ?_)
    · refine aw_bipush K dX11_cans_56 kb_m3 ?_
      exact aw_iret dX11_cans_58
    · refine aw_aload_n K 2 dX11_cans_23 rfl ?_
      refine aw_iload K 4 dX11_cans_24 rfl ?_
      refine aw_gd (fun h_2 => ?_)
      refine aw_tC K dX11_cans_26 h_2 ?_
      refine aw_istoreX K (i := 5) (lv' := fun y1 => [(5, .int y1), (0, rf P 0), (1, .int x1), (2, .ref (pC P)), (3, .int x3), (4, .int x4)]) dX11_cans_27 (Nat.le_of_ble_eq_true rfl) (fun _ => rfl) (fun y1 => ?_)
      refine aw_iload K 0 dX11_cans_29 rfl ?_
      refine aw_iload_n K 2 dX11_cans_31 rfl ?_
      refine aw_icmp_le K 50 dX11_cans_32 (by decide) (fun h_3 => ?_) (fun h_3 => ?_)
      · refine aw_iinc K (lv' := fun y2 => [(4, .int y2), (5, .int y1), (0, rf P 0), (1, .int x1), (2, .ref (pC P)), (3, .int x3)]) 5 dX11_cans_50 rfl ki_1 (Nat.le_of_ble_eq_true rfl) (fun _ => rfl) (fun y2 => ?_)
        refine aw_goto K 17 dX11_cans_53 (by decide) ?_
        refine aw_lv [2, 3, 4, 5, 0] rfl ?_
        exact ih _ _ _ _
      · refine aw_aload_n K 1 dX11_cans_35 rfl ?_
        refine aw_getR K (c' := 20) dX11_cans_36 lk_X11_41_11 fd_0_1 ?_
        refine aw_iload K 0 dX11_cans_39 rfl ?_
        refine aw_callVI K dX11_cans_41 vw_X11_162_9 (c_f_To_canBe l 20 TW.a _) hg (by decide) ob_20 rfl (Nat.le_of_ble_eq_true rfl) rfl rfl (fun r4 σ3 _ => ?_)
        refine aw_if_eq K 50 dX11_cans_44 (by decide) (fun h_4 => ?_) (fun h_4 => ?_)
        · refine aw_iinc K (lv' := fun y5 => [(4, .int y5), (5, .int y1), (0, rf P 0), (1, .int x1), (2, .ref (pC P)), (3, .int x3)]) 5 dX11_cans_50 rfl ki_1 (Nat.le_of_ble_eq_true rfl) (fun _ => rfl) (fun y5 => ?_)
          refine aw_goto K 17 dX11_cans_53 (by decide) ?_
          refine aw_lv [2, 3, 4, 5, 0] rfl ?_
          exact ih _ _ _ _
        · refine aw_iload K 0 dX11_cans_47 rfl ?_
          exact aw_iret dX11_cans_49
set_option maxRecDepth 100000 in
set_option maxHeartbeats 4000000 in
theorem c_f_H_cans (l : Launch) (x1 : Int32) : CTI l (4) yX11_cans cX11_cans 6 ((some .int)) (fun P => [rf P 0, .int x1]) (fun σ => f_H_cans x1 σ) := by
  refine met_I rfl rfl rfl (fun P => Nat.le_of_ble_eq_true rfl) (fun P G K hg σ => ?_)
  change AW P G 6 (EI P G cX11_cans) (f_H_cans x1 σ) σ 0 [(0, rf P 0), (1, .int x1)] []
  rw [f_H_cans]
  refine aw_iload_n K 1 dX11_cans_0 rfl ?_
  refine aw_iconst K dX11_cans_1 ki_m1 ?_
  refine aw_icmp_ge K 7 dX11_cans_2 (by decide) (fun h_1 => ?_) (fun h_1 => ?_)
  · refine aw_getsC K dX11_cans_7 (in_r28 _ (List.mem_of_getElem? (i := 19) rfl)) ?_
    refine aw_astore_n K (i := 2) (lv' := [(2, .ref (pC P)), (0, rf P 0), (1, .int x1)]) dX11_cans_10 rfl (Nat.le_of_ble_eq_true rfl) rfl ?_
    refine aw_aload_n K 0 dX11_cans_11 rfl ?_
    refine aw_tlenC K dX11_cans_12 ?_
    refine aw_istore_n K (i := 3) (lv' := [(3, .int (21 : Int32)), (2, .ref (pC P)), (0, rf P 0), (1, .int x1)]) dX11_cans_13 rfl (Nat.le_of_ble_eq_true rfl) rfl ?_
    refine aw_iconst K dX11_cans_14 ki_0 ?_
    refine aw_istore K (i := 4) (lv' := [(4, .int (0 : Int32)), (3, .int (21 : Int32)), (2, .ref (pC P)), (0, rf P 0), (1, .int x1)]) dX11_cans_15 (Nat.le_of_ble_eq_true rfl) rfl ?_
    refine aw_lv [3, 4, 2, 1, 0] rfl ?_
    exact (a_f_H_cans_17 l K hg FU) _ _ _ _
  · refine aw_iconst K dX11_cans_5 ki_m1 ?_
    exact aw_iret dX11_cans_6
set_option maxRecDepth 100000 in
set_option maxHeartbeats 4000000 in
theorem c_f_To_swap (l : Launch) (t : Nat) (ht : TW t) (x1 : Int32) (x2 : Int32) : CTV l (1) yX9_swap cX9_swap 4 (none) (fun P => [rf P t, .int x1, .int x2]) (fun σ => f_To_swap t x1 x2 σ) := by
  refine met_V rfl rfl rfl (fun P => Nat.le_of_ble_eq_true rfl) (fun P G K hg σ => ?_)
  change AW P G 4 (EV P G cX9_swap) (f_To_swap t x1 x2 σ) σ 0 [(0, rf P t), (1, .int x1), (2, .int x2)] []
  rw [f_To_swap]
  refine aw_aload_n K 0 dX9_swap_0 rfl ?_
  refine aw_getR K (c' := t + 9) dX9_swap_1 lk_X9_22_9 (fd_To_4 ht) ?_
  refine aw_iload_n K 1 dX9_swap_4 rfl ?_
  refine aw_gd (fun h_1 => ?_)
  refine aw_ald K dX9_swap_5 (kd_To_4 ht) h_1 rfl ?_
  refine aw_istoreX_n K (i := 3) (lv' := fun y1 => [(3, .int y1), (0, rf P t), (1, .int x1), (2, .int x2)]) dX9_swap_6 rfl (Nat.le_of_ble_eq_true rfl) (fun _ => rfl) (fun y1 => ?_)
  refine aw_aload_n K 1 dX9_swap_7 rfl ?_
  refine aw_getR K (c' := t + 9) dX9_swap_8 lk_X9_22_9 (fd_To_4 ht) ?_
  refine aw_iload_n K 2 dX9_swap_11 rfl ?_
  refine aw_aload_n K 1 dX9_swap_12 rfl ?_
  refine aw_getR K (c' := t + 9) dX9_swap_13 lk_X9_22_9 (fd_To_4 ht) ?_
  refine aw_iload_n K 3 dX9_swap_16 rfl ?_
  refine aw_gd (fun h_2 => ?_)
  refine aw_ald K dX9_swap_17 (kd_To_4 ht) h_2 rfl ?_
  refine aw_gd (fun h_3 => ?_)
  refine aw_ast K dX9_swap_18 (kd_To_4 ht) h_3 rfl (fun σ2 => ?_)
  refine aw_aload_n K 1 dX9_swap_19 rfl ?_
  refine aw_getR K (c' := t + 9) dX9_swap_20 lk_X9_22_9 (fd_To_4 ht) ?_
  refine aw_iload_n K 3 dX9_swap_23 rfl ?_
  refine aw_iload_n K 0 dX9_swap_24 rfl ?_
  refine aw_gd (fun h_4 => ?_)
  refine aw_ast K dX9_swap_25 (kd_To_4 ht) h_4 rfl (fun σ3 => ?_)
  refine aw_aload_n K 1 dX9_swap_26 rfl ?_
  refine aw_iload_n K 2 dX9_swap_27 rfl ?_
  refine aw_callVV K dX9_swap_28 vw_X9_129_9 (c_f_To_mark l t ht _) hg (by decide) (ob_To ht) rfl (Nat.le_of_ble_eq_true rfl) rfl rfl (fun _ σ4 _ => ?_)
  refine aw_aload_n K 1 dX9_swap_31 rfl ?_
  refine aw_iload_n K 3 dX9_swap_32 rfl ?_
  refine aw_callVV K dX9_swap_33 vw_X9_129_9 (c_f_To_mark l t ht _) hg (by decide) (ob_To ht) rfl (Nat.le_of_ble_eq_true rfl) rfl rfl (fun _ σ5 _ => ?_)
  exact aw_vret dX9_swap_36
set_option maxRecDepth 100000 in
set_option maxHeartbeats 4000000 in
theorem c_f_To_step (l : Launch) (t : Nat) (ht : TW t) (x1 : Int32) : CTI l (3) yX9_step cX9_step 5 ((some .int)) (fun P => [rf P t, .int x1]) (fun σ => f_To_step t x1 σ) := by
  refine met_I rfl rfl rfl (fun P => Nat.le_of_ble_eq_true rfl) (fun P G K hg σ => ?_)
  change AW P G 5 (EI P G cX9_step) (f_To_step t x1 σ) σ 0 [(0, rf P t), (1, .int x1)] []
  rw [f_To_step]
  refine aw_iload_n K 1 dX9_step_0 rfl ?_
  refine aw_bipush K dX9_step_1 kb_10 ?_
  refine aw_idiv K dX9_step_3 (by decide) ?_
  refine aw_istoreX_n K (i := 2) (lv' := fun y1 => [(2, .int y1), (0, rf P t), (1, .int x1)]) dX9_step_4 rfl (Nat.le_of_ble_eq_true rfl) (fun _ => rfl) (fun y1 => ?_)
  refine aw_iload_n K 2 dX9_step_5 rfl ?_
  refine aw_bipush K dX9_step_6 kb_10 ?_
  refine aw_irem K dX9_step_8 (by decide) ?_
  refine aw_istoreX_n K (i := 3) (lv' := fun y2 => [(3, .int y2), (2, .int y1), (0, rf P t), (1, .int x1)]) dX9_step_9 rfl (Nat.le_of_ble_eq_true rfl) (fun _ => rfl) (fun y2 => ?_)
  refine aw_iload_n K 0 dX9_step_10 rfl ?_
  refine aw_bipush K dX9_step_11 kb_9 ?_
  refine aw_icmp_eq K 24 dX9_step_13 (by decide) (fun h_1 => ?_) (fun h_1 => ?_)
  · refine aw_aload_n K 2 dX9_step_24 rfl ?_
    refine aw_iload_n K 1 dX9_step_25 rfl ?_
    refine aw_callVI K dX9_step_26 vw_X9_119_9 (c_f_To_asks l t ht _) hg (by decide) (ob_To ht) rfl (Nat.le_of_ble_eq_true rfl) rfl rfl (fun r4 σ3 _ => ?_)
    refine aw_istore K (i := 4) (lv' := [(4, .int r4), (3, .int y2), (2, .int y1), (0, rf P t), (1, .int x1)]) dX9_step_29 (Nat.le_of_ble_eq_true rfl) rfl ?_
    refine aw_aload_n K 3 dX9_step_31 rfl ?_
    refine aw_getR K (c' := t + 11) dX9_step_32 lk_X9_28_9 (fd_To_6 ht) ?_
    refine aw_iload_n K 2 dX9_step_35 rfl ?_
    refine aw_dup2_11 K dX9_step_36 rfl rfl ?_
    refine aw_gd (fun h_2 => ?_)
    refine aw_ald K dX9_step_37 (kd_To_6 ht) h_2 rfl ?_
    refine aw_iload K 0 dX9_step_38 rfl ?_
    refine aw_isub K dX9_step_40 ?_
    refine aw_gd (fun h_3 => ?_)
    refine aw_ast K dX9_step_41 (kd_To_6 ht) h_3 rfl (fun σ5 => ?_)
    refine aw_aload_n K 3 dX9_step_42 rfl ?_
    refine aw_getR K (c' := t + 14) dX9_step_43 lk_X9_37_9 (fd_To_11 ht) ?_
    refine aw_aload_n K 3 dX9_step_46 rfl ?_
    refine aw_getR K (c' := t + 9) dX9_step_47 lk_X9_22_9 (fd_To_4 ht) ?_
    refine aw_iload_n K 2 dX9_step_50 rfl ?_
    refine aw_gd (fun h_4 => ?_)
    refine aw_ald K dX9_step_51 (kd_To_4 ht) h_4 rfl ?_
    refine aw_dup2_11 K dX9_step_52 rfl rfl ?_
    refine aw_gd (fun h_5 => ?_)
    refine aw_ald K dX9_step_53 (kd_To_11 ht) h_5 rfl ?_
    refine aw_iconst K dX9_step_54 ki_1 ?_
    refine aw_iadd K dX9_step_55 ?_
    refine aw_gd (fun h_6 => ?_)
    refine aw_ast K dX9_step_56 (kd_To_11 ht) h_6 rfl (fun σ6 => ?_)
    refine aw_aload_n K 3 dX9_step_57 rfl ?_
    refine aw_getR K (c' := t + 14) dX9_step_58 lk_X9_37_9 (fd_To_11 ht) ?_
    refine aw_aload_n K 3 dX9_step_61 rfl ?_
    refine aw_getR K (c' := t + 10) dX9_step_62 lk_X9_25_9 (fd_To_5 ht) ?_
    refine aw_iload_n K 2 dX9_step_65 rfl ?_
    refine aw_gd (fun h_7 => ?_)
    refine aw_ald K dX9_step_66 (kd_To_5 ht) h_7 rfl ?_
    refine aw_dup2_11 K dX9_step_67 rfl rfl ?_
    refine aw_gd (fun h_8 => ?_)
    refine aw_ald K dX9_step_68 (kd_To_11 ht) h_8 rfl ?_
    refine aw_iconst K dX9_step_69 ki_1 ?_
    refine aw_isub K dX9_step_70 ?_
    refine aw_gd (fun h_9 => ?_)
    refine aw_ast K dX9_step_71 (kd_To_11 ht) h_9 rfl (fun σ7 => ?_)
    refine aw_aload_n K 3 dX9_step_72 rfl ?_
    refine aw_getR K (c' := t + 9) dX9_step_73 lk_X9_22_9 (fd_To_4 ht) ?_
    refine aw_iload_n K 2 dX9_step_76 rfl ?_
    refine aw_aload_n K 3 dX9_step_77 rfl ?_
    refine aw_getR K (c' := t + 10) dX9_step_78 lk_X9_25_9 (fd_To_5 ht) ?_
    refine aw_iload_n K 2 dX9_step_81 rfl ?_
    refine aw_gd (fun h_10 => ?_)
    refine aw_ald K dX9_step_82 (kd_To_5 ht) h_10 rfl ?_
    refine aw_gd (fun h_11 => ?_)
    refine aw_ast K dX9_step_83 (kd_To_4 ht) h_11 rfl (fun σ8 => ?_)
    refine aw_aload_n K 3 dX9_step_84 rfl ?_
    refine aw_iload_n K 2 dX9_step_85 rfl ?_
    refine aw_callVV K dX9_step_86 vw_X9_129_9 (c_f_To_mark l t ht _) hg (by decide) (ob_To ht) rfl (Nat.le_of_ble_eq_true rfl) rfl rfl (fun _ σ9 _ => ?_)
    refine aw_iload K 0 dX9_step_89 rfl ?_
    exact aw_iret dX9_step_91
  · refine aw_aload_n K 2 dX9_step_16 rfl ?_
    refine aw_iload_n K 1 dX9_step_17 rfl ?_
    refine aw_iload_n K 0 dX9_step_18 rfl ?_
    refine aw_callVV K dX9_step_19 vw_X9_125_9 (c_f_To_swap l t ht _ _) hg (by decide) (ob_To ht) rfl (Nat.le_of_ble_eq_true rfl) rfl rfl (fun _ σ10 _ => ?_)
    refine aw_iconst K dX9_step_22 ki_0 ?_
    exact aw_iret dX9_step_23
