set_option maxRecDepth 100000 in
set_option maxHeartbeats 4000000 in
theorem c_f_H_trace (l : Launch) (x1 : Int32) : CTI l (1) yX11_trace cX11_trace 2 ((some .int)) (fun P => [rf P 0, .int x1]) (fun σ => f_H_trace x1 σ) := by
  refine met_I rfl rfl rfl (fun P => Nat.le_of_ble_eq_true rfl) (fun P G K hg σ => ?_)
  change AW P G 2 (EI P G cX11_trace) (f_H_trace x1 σ) σ 0 [(0, rf P 0), (1, .int x1)] []
  rw [f_H_trace]
  refine aw_iload_n K 1 dX11_trace_0 rfl ?_
  refine aw_iconst K dX11_trace_1 ki_0 ?_
  refine aw_aload_n K 0 dX11_trace_2 rfl ?_
  refine aw_getR K (c' := 1) dX11_trace_3 lk_X11_10_11 fd_0_0 ?_
  refine aw_getI K dX11_trace_6 lk_X11_313_1 fd_1_6 ?_
  refine aw_iconst K dX11_trace_9 ki_1 ?_
  refine aw_isub K dX11_trace_10 ?_
  refine aw_callSI K dX11_trace_11 vw_X11_72 (c_f_H_isIn l _ _ _) hg (by decide) rfl (Nat.le_of_ble_eq_true rfl) rfl rfl (fun r2 σ1 _ => ?_)
  refine aw_if_eq K 29 dX11_trace_14 (by decide) (fun h_1 => ?_) (fun h_1 => ?_)
  · refine aw_bipush K dX11_trace_29 kb_m3 ?_
    exact aw_iret dX11_trace_31
  · refine aw_aload_n K 0 dX11_trace_17 rfl ?_
    refine aw_getR K (c' := 1) dX11_trace_18 lk_X11_10_11 fd_0_0 ?_
    refine aw_getR K (c' := 12) dX11_trace_21 lk_X11_316_1 fd_1_7 ?_
    refine aw_iload_n K 1 dX11_trace_24 rfl ?_
    refine aw_gd (fun h_2 => ?_)
    refine aw_ald K dX11_trace_25 ad_12 h_2 rfl ?_
    refine aw_goto K 31 dX11_trace_26 (by decide) ?_
    exact aw_iret dX11_trace_31
set_option maxRecDepth 100000 in
set_option maxHeartbeats 4000000 in
theorem c_f_H_many (l : Launch) (x1 : Int32) : CTI l (0) yX11_many cX11_many 2 ((some .int)) (fun P => [rf P 0, .int x1]) (fun σ => f_H_many x1 σ) := by
  refine met_I rfl rfl rfl (fun P => Nat.le_of_ble_eq_true rfl) (fun P G K hg σ => ?_)
  change AW P G 2 (EI P G cX11_many) (f_H_many x1 σ) σ 0 [(0, rf P 0), (1, .int x1)] []
  rw [f_H_many]
  refine aw_iload_n K 1 dX11_many_0 rfl ?_
  refine aw_ite (fun h_1 => ?_) (fun h_1 => ?_)
  · refine aw_tabIn K 44 (0) dX11_many_1 (ti_of h_1 kt_0) (by decide) (by decide) rfl (by decide) ?_
    refine aw_aload_n K 0 dX11_many_44 rfl ?_
    refine aw_getR K (c' := 20) dX11_many_45 lk_X11_41_11 fd_0_1 ?_
    refine aw_getI K dX11_many_48 lk_X11_80_9 fd_20_2 ?_
    exact aw_iret dX11_many_51
  refine aw_ite (fun h_2 => ?_) (fun h_2 => ?_)
  · refine aw_tabIn K 52 (1) dX11_many_1 (ti_of h_2 kt_1) (by decide) (by decide) rfl (by decide) ?_
    refine aw_aload_n K 0 dX11_many_52 rfl ?_
    refine aw_getR K (c' := 20) dX11_many_53 lk_X11_41_11 fd_0_1 ?_
    refine aw_getR K (c' := 21) dX11_many_56 lk_X11_143_9 fd_20_1 ?_
    refine aw_getI K dX11_many_59 lk_X11_156_7 fd_21_0 ?_
    exact aw_iret dX11_many_62
  refine aw_ite (fun h_3 => ?_) (fun h_3 => ?_)
  · refine aw_tabIn K 63 (2) dX11_many_1 (ti_of h_3 kt_2) (by decide) (by decide) rfl (by decide) ?_
    refine aw_aload_n K 0 dX11_many_63 rfl ?_
    refine aw_getR K (c' := 20) dX11_many_64 lk_X11_41_11 fd_0_1 ?_
    refine aw_getI K dX11_many_67 lk_X11_131_9 fd_20_14 ?_
    exact aw_iret dX11_many_70
  refine aw_ite (fun h_4 => ?_) (fun h_4 => ?_)
  · refine aw_tabIn K 71 (3) dX11_many_1 (ti_of h_4 kt_3) (by decide) (by decide) rfl (by decide) ?_
    refine aw_aload_n K 0 dX11_many_71 rfl ?_
    refine aw_getR K (c' := 20) dX11_many_72 lk_X11_41_11 fd_0_1 ?_
    refine aw_getI K dX11_many_75 lk_X11_198_9 fd_20_16 ?_
    exact aw_iret dX11_many_78
  refine aw_ite (fun h_5 => ?_) (fun h_5 => ?_)
  · refine aw_tabIn K 79 (4) dX11_many_1 (ti_of h_5 kt_4) (by decide) (by decide) rfl (by decide) ?_
    refine aw_aload_n K 0 dX11_many_79 rfl ?_
    refine aw_getI K dX11_many_80 lk_X11_228_11 fd_0_8 ?_
    exact aw_iret dX11_many_83
  refine aw_ite (fun h_6 => ?_) (fun h_6 => ?_)
  · refine aw_tabIn K 84 (5) dX11_many_1 (ti_of h_6 kt_5) (by decide) (by decide) rfl (by decide) ?_
    refine aw_aload_n K 0 dX11_many_84 rfl ?_
    refine aw_getR K (c' := 130) dX11_many_85 lk_X11_63_11 fd_0_6 ?_
    refine aw_getI K dX11_many_88 lk_X11_134_6 fd_130_1 ?_
    exact aw_iret dX11_many_91
  refine aw_ite (fun h_7 => ?_) (fun h_7 => ?_)
  · refine aw_tabIn K 92 (6) dX11_many_1 (ti_of h_7 kt_6) (by decide) (by decide) rfl (by decide) ?_
    refine aw_aload_n K 0 dX11_many_92 rfl ?_
    refine aw_getR K (c' := 1) dX11_many_93 lk_X11_10_11 fd_0_0 ?_
    refine aw_getI K dX11_many_96 lk_X11_313_1 fd_1_6 ?_
    exact aw_iret dX11_many_99
  refine aw_tabOut K 100 dX11_many_1 (by have := lv_neT h_1 kt_0; have := lv_neT h_2 kt_1; have := lv_neT h_3 kt_2; have := lv_neT h_4 kt_3; have := lv_neT h_5 kt_4; have := lv_neT h_6 kt_5; have := lv_neT h_7 kt_6; omega) (by decide) ?_
  refine aw_iconst K dX11_many_100 ki_m1 ?_
  exact aw_iret dX11_many_101
set_option maxRecDepth 100000 in
set_option maxHeartbeats 4000000 in
theorem c_f_H_keep (l : Launch) : CTI l (4) yX11_keep cX11_keep 1 ((some .int)) (fun P => [rf P 0]) (fun σ => f_H_keep σ) := by
  refine met_I rfl rfl rfl (fun P => Nat.le_of_ble_eq_true rfl) (fun P G K hg σ => ?_)
  change AW P G 1 (EI P G cX11_keep) (f_H_keep σ) σ 0 [(0, rf P 0)] []
  rw [f_H_keep]
  refine aw_aload_n K 0 dX11_keep_0 rfl ?_
  refine aw_getR K (c' := 55) dX11_keep_1 lk_X11_45_11 fd_0_2 ?_
  refine aw_aload_n K 0 dX11_keep_4 rfl ?_
  refine aw_getR K (c' := 20) dX11_keep_5 lk_X11_41_11 fd_0_1 ?_
  refine aw_callVV K dX11_keep_8 vw_X11_216_9 (c_f_To_copyFrom l 55 TW.b 20 TW.a) hg (by decide) ob_55 rfl (Nat.le_of_ble_eq_true rfl) rfl rfl (fun _ σ1 _ => ?_)
  refine aw_aload_n K 0 dX11_keep_11 rfl ?_
  refine aw_iconst K dX11_keep_12 ki_1 ?_
  refine aw_putZ K dX11_keep_13 lp_X11_319_11 fd_0_3 (by decide) (fun σ2 => ?_)
  refine aw_iconst K dX11_keep_16 ki_1 ?_
  exact aw_iret dX11_keep_17
set_option maxRecDepth 100000 in
set_option maxHeartbeats 4000000 in
theorem c_f_H_again (l : Launch) : CTI l (4) yX11_again cX11_again 1 ((some .int)) (fun P => [rf P 0]) (fun σ => f_H_again σ) := by
  refine met_I rfl rfl rfl (fun P => Nat.le_of_ble_eq_true rfl) (fun P G K hg σ => ?_)
  change AW P G 1 (EI P G cX11_again) (f_H_again σ) σ 0 [(0, rf P 0)] []
  rw [f_H_again]
  refine aw_aload_n K 0 dX11_again_0 rfl ?_
  refine aw_getZ K dX11_again_1 lk_X11_319_11 fd_0_3 ?_
  refine aw_if_ne K 10 dX11_again_4 (by decide) (fun h_1 => ?_) (fun h_1 => ?_)
  · refine aw_aload_n K 0 dX11_again_10 rfl ?_
    refine aw_getR K (c' := 20) dX11_again_11 lk_X11_41_11 fd_0_1 ?_
    refine aw_aload_n K 0 dX11_again_14 rfl ?_
    refine aw_getR K (c' := 55) dX11_again_15 lk_X11_45_11 fd_0_2 ?_
    refine aw_callVV K dX11_again_18 vw_X11_216_9 (c_f_To_copyFrom l 20 TW.a 55 TW.b) hg (by decide) ob_20 rfl (Nat.le_of_ble_eq_true rfl) rfl rfl (fun _ σ1 _ => ?_)
    refine aw_aload_n K 0 dX11_again_21 rfl ?_
    refine aw_getR K (c' := 20) dX11_again_22 lk_X11_41_11 fd_0_1 ?_
    refine aw_getI K dX11_again_25 lk_X11_80_9 fd_20_2 ?_
    exact aw_iret dX11_again_28
  · refine aw_bipush K dX11_again_7 kb_m3 ?_
    exact aw_iret dX11_again_9
set_option maxRecDepth 100000 in
set_option maxHeartbeats 4000000 in
theorem c_f_M_in (l : Launch) (x0 : Int64) (x2 : Int64) (x4 : Int64) : CTI l (0) yX12_in cX12_in 6 ((some .boolean)) (fun P => [.long x0, .long x2, .long x4]) (fun σ => f_M_in x0 x2 x4 σ) := by
  refine met_Z rfl rfl rfl (fun P => Nat.le_of_ble_eq_true rfl) (fun P G K hg σ => ?_)
  change AW P G 6 (EZ P G cX12_in) (f_M_in x0 x2 x4 σ) σ 0 [(0, .long x0), (2, .long x2), (4, .long x4)] []
  rw [f_M_in]
  refine aw_lload_n K 0 dX12_in_0 rfl ?_
  refine aw_lload_n K 1 dX12_in_1 rfl ?_
  refine aw_lcmp K dX12_in_2 ?_
  refine aw_if_lt K 17 dX12_in_3 (by decide) (fun h_1 => ?_) (fun h_1 => ?_)
  · refine aw_iconst K dX12_in_17 ki_0 ?_
    exact aw_zret dX12_in_18 (by decide)
  · refine aw_lload_n K 0 dX12_in_6 rfl ?_
    refine aw_lload K 2 dX12_in_7 rfl ?_
    refine aw_lcmp K dX12_in_9 ?_
    refine aw_if_gt K 17 dX12_in_10 (by decide) (fun h_2 => ?_) (fun h_2 => ?_)
    · refine aw_iconst K dX12_in_17 ki_0 ?_
      exact aw_zret dX12_in_18 (by decide)
    · refine aw_iconst K dX12_in_13 ki_1 ?_
      refine aw_goto K 18 dX12_in_14 (by decide) ?_
      exact aw_zret dX12_in_18 (by decide)
set_option maxRecDepth 100000 in
set_option maxHeartbeats 4000000 in
theorem c_f_M_isKind (l : Launch) (x0 : Int32) : CTI l (1) yX12_isKind cX12_isKind 1 ((some .boolean)) (fun P => [.int x0]) (fun σ => f_M_isKind x0 σ) := by
  refine met_Z rfl rfl rfl (fun P => Nat.le_of_ble_eq_true rfl) (fun P G K hg σ => ?_)
  change AW P G 1 (EZ P G cX12_isKind) (f_M_isKind x0 σ) σ 0 [(0, .int x0)] []
  rw [f_M_isKind]
  refine aw_iload_n K 0 dX12_isKind_0 rfl ?_
  refine aw_i2l K dX12_isKind_1 ?_
  refine aw_lconst K dX12_isKind_2 kl_1 ?_
  refine aw_ldc2 K (x := (5 : Int64)) dX12_isKind_3 (in_r8 _ (List.mem_of_getElem? (i := 18) rfl)) ?_
  refine aw_callSI K dX12_isKind_6 vw_X12_68 (c_f_M_in l _ _ _) hg (by decide) rfl (Nat.le_of_ble_eq_true rfl) rfl rfl (fun r2 σ1 _ => ?_)
  refine aw_gd (fun h_1 => ?_)
  exact aw_zret dX12_isKind_9 h_1
set_option maxRecDepth 100000 in
set_option maxHeartbeats 4000000 in
theorem c_f_M_isThing (l : Launch) (x0 : Int32) : CTI l (1) yX12_isThing cX12_isThing 1 ((some .boolean)) (fun P => [.int x0]) (fun σ => f_M_isThing x0 σ) := by
  refine met_Z rfl rfl rfl (fun P => Nat.le_of_ble_eq_true rfl) (fun P G K hg σ => ?_)
  change AW P G 1 (EZ P G cX12_isThing) (f_M_isThing x0 σ) σ 0 [(0, .int x0)] []
  rw [f_M_isThing]
  refine aw_iload_n K 0 dX12_isThing_0 rfl ?_
  refine aw_i2l K dX12_isThing_1 ?_
  refine aw_lconst K dX12_isThing_2 kl_0 ?_
  refine aw_ldc2 K (x := (7 : Int64)) dX12_isThing_3 (in_r9 _ (List.mem_of_getElem? (i := 1) rfl)) ?_
  refine aw_callSI K dX12_isThing_6 vw_X12_68 (c_f_M_in l _ _ _) hg (by decide) rfl (Nat.le_of_ble_eq_true rfl) rfl rfl (fun r2 σ1 _ => ?_)
  refine aw_gd (fun h_1 => ?_)
  exact aw_zret dX12_isThing_9 h_1
set_option maxRecDepth 100000 in
set_option maxHeartbeats 4000000 in
theorem a_f_M_isPart_10 (l : Launch) {P : PT} {G : GT} (K : CX P G cX12_isPart RX12 (2) 2) (hg : gl G = l) : ∀ (x0 : Int32) (x1 : Int32) (σ : SG), AW P G 2 (EZ P G cX12_isPart) (f_M_isPart_10 x0 x1 σ) σ 10 [(0, .int x0), (1, .int x1)] [] := by
  intro x0 x1 σ
  rw [f_M_isPart_10]
  refine aw_iload_n K 1 dX12_isPart_10 rfl ?_
  refine aw_callSI K dX12_isPart_11 vw_X12_80 (c_f_M_isThing l _) hg (by decide) rfl (Nat.le_of_ble_eq_true rfl) rfl rfl (fun r2 σ1 _ => ?_)
  refine aw_if_ne K 34 dX12_isPart_14 (by decide) (fun h_1 => ?_) (fun h_1 => ?_)
  · refine aw_iconst K dX12_isPart_34 ki_1 ?_
    refine aw_goto K 39 dX12_isPart_35 (by decide) ?_
    exact aw_zret dX12_isPart_39 (by decide)
  · refine aw_iload_n K 0 dX12_isPart_17 rfl ?_
    refine aw_iconst K dX12_isPart_18 ki_3 ?_
    refine aw_icmp_ne K 38 dX12_isPart_19 (by decide) (fun h_2 => ?_) (fun h_2 => ?_)
    · refine aw_iconst K dX12_isPart_38 ki_0 ?_
      exact aw_zret dX12_isPart_39 (by decide)
    · refine aw_iload_n K 1 dX12_isPart_22 rfl ?_
      refine aw_i2l K dX12_isPart_23 ?_
      refine aw_lconst K dX12_isPart_24 kl_0 ?_
      refine aw_ldc2 K (x := (999 : Int64)) dX12_isPart_25 (in_r9 _ (List.mem_of_getElem? (i := 5) rfl)) ?_
      refine aw_callSI K dX12_isPart_28 vw_X12_68 (c_f_M_in l _ _ _) hg (by decide) rfl (Nat.le_of_ble_eq_true rfl) rfl rfl (fun r4 σ3 _ => ?_)
      refine aw_if_eq K 38 dX12_isPart_31 (by decide) (fun h_3 => ?_) (fun h_3 => ?_)
      · refine aw_iconst K dX12_isPart_38 ki_0 ?_
        exact aw_zret dX12_isPart_39 (by decide)
      · refine aw_iconst K dX12_isPart_34 ki_1 ?_
        refine aw_goto K 39 dX12_isPart_35 (by decide) ?_
        exact aw_zret dX12_isPart_39 (by decide)
set_option maxRecDepth 100000 in
set_option maxHeartbeats 4000000 in
theorem c_f_M_isPart (l : Launch) (x0 : Int32) (x1 : Int32) : CTI l (2) yX12_isPart cX12_isPart 2 ((some .boolean)) (fun P => [.int x0, .int x1]) (fun σ => f_M_isPart x0 x1 σ) := by
  refine met_Z rfl rfl rfl (fun P => Nat.le_of_ble_eq_true rfl) (fun P G K hg σ => ?_)
  change AW P G 2 (EZ P G cX12_isPart) (f_M_isPart x0 x1 σ) σ 0 [(0, .int x0), (1, .int x1)] []
  rw [f_M_isPart]
  refine aw_iload_n K 0 dX12_isPart_0 rfl ?_
  refine aw_iconst K dX12_isPart_1 ki_1 ?_
  refine aw_icmp_eq K 10 dX12_isPart_2 (by decide) (fun h_1 => ?_) (fun h_1 => ?_)
  · refine aw_lv [0, 1] rfl ?_
    exact (a_f_M_isPart_10 l K hg) _ _ _
  · refine aw_iload_n K 0 dX12_isPart_5 rfl ?_
    refine aw_iconst K dX12_isPart_6 ki_2 ?_
    refine aw_icmp_ne K 17 dX12_isPart_7 (by decide) (fun h_2 => ?_) (fun h_2 => ?_)
    · refine aw_iload_n K 0 dX12_isPart_17 rfl ?_
      refine aw_iconst K dX12_isPart_18 ki_3 ?_
      refine aw_icmp_ne K 38 dX12_isPart_19 (by decide) (fun h_3 => ?_) (fun h_3 => ?_)
      · refine aw_iconst K dX12_isPart_38 ki_0 ?_
        exact aw_zret dX12_isPart_39 (by decide)
      · refine aw_iload_n K 1 dX12_isPart_22 rfl ?_
        refine aw_i2l K dX12_isPart_23 ?_
        refine aw_lconst K dX12_isPart_24 kl_0 ?_
        refine aw_ldc2 K (x := (999 : Int64)) dX12_isPart_25 (in_r9 _ (List.mem_of_getElem? (i := 5) rfl)) ?_
        refine aw_callSI K dX12_isPart_28 vw_X12_68 (c_f_M_in l _ _ _) hg (by decide) rfl (Nat.le_of_ble_eq_true rfl) rfl rfl (fun r2 σ1 _ => ?_)
        refine aw_if_eq K 38 dX12_isPart_31 (by decide) (fun h_4 => ?_) (fun h_4 => ?_)
        · refine aw_iconst K dX12_isPart_38 ki_0 ?_
          exact aw_zret dX12_isPart_39 (by decide)
        · refine aw_iconst K dX12_isPart_34 ki_1 ?_
          refine aw_goto K 39 dX12_isPart_35 (by decide) ?_
          exact aw_zret dX12_isPart_39 (by decide)
    · refine aw_lv [0, 1] rfl ?_
      exact (a_f_M_isPart_10 l K hg) _ _ _
set_option maxRecDepth 100000 in
set_option maxHeartbeats 4000000 in
theorem c_f_M_at (l : Launch) (x0 : Int32) (x1 : Int32) : CTI l (0) yX12_at cX12_at 2 ((some .int)) (fun P => [.int x0, .int x1]) (fun σ => f_M_at x0 x1 σ) := by
  refine met_I rfl rfl rfl (fun P => Nat.le_of_ble_eq_true rfl) (fun P G K hg σ => ?_)
  change AW P G 2 (EI P G cX12_at) (f_M_at x0 x1 σ) σ 0 [(0, .int x0), (1, .int x1)] []
  rw [f_M_at]
  refine aw_bipush K dX12_at_0 kb_22 ?_
  refine aw_iconst K dX12_at_2 ki_5 ?_
  refine aw_iload_n K 0 dX12_at_3 rfl ?_
  refine aw_imul K dX12_at_4 ?_
  refine aw_iadd K dX12_at_5 ?_
  refine aw_iload_n K 1 dX12_at_6 rfl ?_
  refine aw_iadd K dX12_at_7 ?_
  exact aw_iret dX12_at_8
set_option maxRecDepth 100000 in
set_option maxHeartbeats 4000000 in
theorem c_f_M_person (l : Launch) (x1 : Int32) (x2 : Int32) (x3 : Int32) (x4 : Int32) : CTI l (3) yX12_person cX12_person 6 ((some .int)) (fun P => [rf P 148, .int x1, .int x2, .int x3, .int x4]) (fun σ => f_M_person x1 x2 x3 x4 σ) := by
  refine met_I rfl rfl rfl (fun P => Nat.le_of_ble_eq_true rfl) (fun P G K hg σ => ?_)
  change AW P G 6 (EI P G cX12_person) (f_M_person x1 x2 x3 x4 σ) σ 0 [(0, rf P 148), (1, .int x1), (2, .int x2), (3, .int x3), (4, .int x4)] []
  rw [f_M_person]
  refine aw_iload_n K 1 dX12_person_0 rfl ?_
  refine aw_callSI K dX12_person_1 vw_X12_86 (c_f_M_isKind l _) hg (by decide) rfl (Nat.le_of_ble_eq_true rfl) rfl rfl (fun r2 σ1 _ => ?_)
  refine aw_if_eq K 30 dX12_person_4 (by decide) (fun h_1 => ?_) (fun h_1 => ?_)
  · refine aw_iconst K dX12_person_30 ki_m1 ?_
    exact aw_iret dX12_person_31
  · refine aw_iload_n K 2 dX12_person_7 rfl ?_
    refine aw_callSI K dX12_person_8 vw_X12_80 (c_f_M_isThing l _) hg (by decide) rfl (Nat.le_of_ble_eq_true rfl) rfl rfl (fun r4 σ3 _ => ?_)
    refine aw_if_eq K 30 dX12_person_11 (by decide) (fun h_2 => ?_) (fun h_2 => ?_)
    · refine aw_iconst K dX12_person_30 ki_m1 ?_
      exact aw_iret dX12_person_31
    · refine aw_iload_n K 3 dX12_person_14 rfl ?_
      refine aw_callSI K dX12_person_15 vw_X12_80 (c_f_M_isThing l _) hg (by decide) rfl (Nat.le_of_ble_eq_true rfl) rfl rfl (fun r6 σ5 _ => ?_)
      refine aw_if_eq K 30 dX12_person_18 (by decide) (fun h_3 => ?_) (fun h_3 => ?_)
      · refine aw_iconst K dX12_person_30 ki_m1 ?_
        exact aw_iret dX12_person_31
      · refine aw_iconst K dX12_person_21 ki_3 ?_
        refine aw_iload K 4 dX12_person_22 rfl ?_
        refine aw_callSI K dX12_person_24 vw_X12_89 (c_f_M_isPart l _ _) hg (by decide) rfl (Nat.le_of_ble_eq_true rfl) rfl rfl (fun r8 σ7 _ => ?_)
        refine aw_if_ne K 32 dX12_person_27 (by decide) (fun h_4 => ?_) (fun h_4 => ?_)
        · refine aw_aload_n K 0 dX12_person_32 rfl ?_
          refine aw_getR K (c' := 149) dX12_person_33 lk_X12_7_12 fd_148_0 ?_
          refine aw_iconst K dX12_person_36 ki_0 ?_
          refine aw_ald K dX12_person_37 ad_149 (by decide) kn_0 ?_
          refine aw_bipush K dX12_person_38 kb_6 ?_
          refine aw_icmp_ne K 46 dX12_person_40 (by decide) (fun h_5 => ?_) (fun h_5 => ?_)
          · refine aw_aload_n K 0 dX12_person_46 rfl ?_
            refine aw_getR K (c' := 149) dX12_person_47 lk_X12_7_12 fd_148_0 ?_
            refine aw_iconst K dX12_person_50 ki_0 ?_
            refine aw_ald K dX12_person_51 ad_149 (by decide) kn_0 ?_
            refine aw_istoreX K (i := 5) (lv' := fun y9 => [(5, .int y9), (0, rf P 148), (1, .int x1), (2, .int x2), (3, .int x3), (4, .int x4)]) dX12_person_52 (Nat.le_of_ble_eq_true rfl) (fun _ => rfl) (fun y9 => ?_)
            refine aw_aload_n K 1 dX12_person_54 rfl ?_
            refine aw_getR K (c' := 149) dX12_person_55 lk_X12_7_12 fd_148_0 ?_
            refine aw_iload K 0 dX12_person_58 rfl ?_
            refine aw_iconst K dX12_person_60 ki_0 ?_
            refine aw_callSI K dX12_person_61 vw_X12_74 (c_f_M_at l _ _) hg (by decide) rfl (Nat.le_of_ble_eq_true rfl) rfl rfl (fun r11 σ10 _ => ?_)
            refine aw_iload_n K 2 dX12_person_64 rfl ?_
            refine aw_gd (fun h_6 => ?_)
            refine aw_ast K dX12_person_65 ad_149 h_6 rfl (fun σ12 => ?_)
            refine aw_aload_n K 1 dX12_person_66 rfl ?_
            refine aw_getR K (c' := 149) dX12_person_67 lk_X12_7_12 fd_148_0 ?_
            refine aw_iload K 0 dX12_person_70 rfl ?_
            refine aw_iconst K dX12_person_72 ki_1 ?_
            refine aw_callSI K dX12_person_73 vw_X12_74 (c_f_M_at l _ _) hg (by decide) rfl (Nat.le_of_ble_eq_true rfl) rfl rfl (fun r14 σ13 _ => ?_)
            refine aw_iload_n K 3 dX12_person_76 rfl ?_
            refine aw_gd (fun h_7 => ?_)
            refine aw_ast K dX12_person_77 ad_149 h_7 rfl (fun σ15 => ?_)
            refine aw_aload_n K 1 dX12_person_78 rfl ?_
            refine aw_getR K (c' := 149) dX12_person_79 lk_X12_7_12 fd_148_0 ?_
            refine aw_iload K 0 dX12_person_82 rfl ?_
            refine aw_iconst K dX12_person_84 ki_2 ?_
            refine aw_callSI K dX12_person_85 vw_X12_74 (c_f_M_at l _ _) hg (by decide) rfl (Nat.le_of_ble_eq_true rfl) rfl rfl (fun r17 σ16 _ => ?_)
            refine aw_iload_n K 4 dX12_person_88 rfl ?_
            refine aw_gd (fun h_8 => ?_)
            refine aw_ast K dX12_person_89 ad_149 h_8 rfl (fun σ18 => ?_)
            refine aw_aload_n K 1 dX12_person_90 rfl ?_
            refine aw_getR K (c' := 149) dX12_person_91 lk_X12_7_12 fd_148_0 ?_
            refine aw_iload K 0 dX12_person_94 rfl ?_
            refine aw_iconst K dX12_person_96 ki_3 ?_
            refine aw_callSI K dX12_person_97 vw_X12_74 (c_f_M_at l _ _) hg (by decide) rfl (Nat.le_of_ble_eq_true rfl) rfl rfl (fun r20 σ19 _ => ?_)
            refine aw_iload K 5 dX12_person_100 rfl ?_
            refine aw_gd (fun h_9 => ?_)
            refine aw_ast K dX12_person_102 ad_149 h_9 rfl (fun σ21 => ?_)
            refine aw_aload_n K 1 dX12_person_103 rfl ?_
            refine aw_getR K (c' := 149) dX12_person_104 lk_X12_7_12 fd_148_0 ?_
            refine aw_iload K 0 dX12_person_107 rfl ?_
            refine aw_iconst K dX12_person_109 ki_4 ?_
            refine aw_callSI K dX12_person_110 vw_X12_74 (c_f_M_at l _ _) hg (by decide) rfl (Nat.le_of_ble_eq_true rfl) rfl rfl (fun r23 σ22 _ => ?_)
            refine aw_iconst K dX12_person_113 ki_0 ?_
            refine aw_gd (fun h_10 => ?_)
            refine aw_ast K dX12_person_114 ad_149 h_10 rfl (fun σ24 => ?_)
            refine aw_aload_n K 1 dX12_person_115 rfl ?_
            refine aw_getR K (c' := 149) dX12_person_116 lk_X12_7_12 fd_148_0 ?_
            refine aw_iconst K dX12_person_119 ki_0 ?_
            refine aw_dup2_11 K dX12_person_120 rfl rfl ?_
            refine aw_ald K dX12_person_121 ad_149 (by decide) kn_0 ?_
            refine aw_iconst K dX12_person_122 ki_1 ?_
            refine aw_iadd K dX12_person_123 ?_
            refine aw_ast K dX12_person_124 ad_149 (by decide) kn_0 (fun σ25 => ?_)
            refine aw_iload K 0 dX12_person_125 rfl ?_
            exact aw_iret dX12_person_127
          · refine aw_bipush K dX12_person_43 kb_m2 ?_
            exact aw_iret dX12_person_45
        · refine aw_iconst K dX12_person_30 ki_m1 ?_
          exact aw_iret dX12_person_31
set_option maxRecDepth 100000 in
set_option maxHeartbeats 4000000 in
theorem c_f_M_isPerson (l : Launch) (x1 : Int32) : CTI l (1) yX12_isPerson cX12_isPerson 2 ((some .boolean)) (fun P => [rf P 148, .int x1]) (fun σ => f_M_isPerson x1 σ) := by
  refine met_Z rfl rfl rfl (fun P => Nat.le_of_ble_eq_true rfl) (fun P G K hg σ => ?_)
  change AW P G 2 (EZ P G cX12_isPerson) (f_M_isPerson x1 σ) σ 0 [(0, rf P 148), (1, .int x1)] []
  rw [f_M_isPerson]
  refine aw_iload_n K 1 dX12_isPerson_0 rfl ?_
  refine aw_i2l K dX12_isPerson_1 ?_
  refine aw_lconst K dX12_isPerson_2 kl_0 ?_
  refine aw_aload_n K 0 dX12_isPerson_3 rfl ?_
  refine aw_getR K (c' := 149) dX12_isPerson_4 lk_X12_7_12 fd_148_0 ?_
  refine aw_iconst K dX12_isPerson_7 ki_0 ?_
  refine aw_ald K dX12_isPerson_8 ad_149 (by decide) kn_0 ?_
  refine aw_iconst K dX12_isPerson_9 ki_1 ?_
  refine aw_isub K dX12_isPerson_10 ?_
  refine aw_i2l K dX12_isPerson_11 ?_
  refine aw_callSI K dX12_isPerson_12 vw_X12_68 (c_f_M_in l _ _ _) hg (by decide) rfl (Nat.le_of_ble_eq_true rfl) rfl rfl (fun r2 σ1 _ => ?_)
  refine aw_gd (fun h_1 => ?_)
  exact aw_zret dX12_isPerson_15 h_1
set_option maxRecDepth 100000 in
set_option maxHeartbeats 4000000 in
theorem c_f_M_its (l : Launch) (x1 : Int32) (x2 : Int32) : CTI l (1) yX12_its cX12_its 3 ((some .int)) (fun P => [rf P 148, .int x1, .int x2]) (fun σ => f_M_its x1 x2 σ) := by
  refine met_I rfl rfl rfl (fun P => Nat.le_of_ble_eq_true rfl) (fun P G K hg σ => ?_)
  change AW P G 3 (EI P G cX12_its) (f_M_its x1 x2 σ) σ 0 [(0, rf P 148), (1, .int x1), (2, .int x2)] []
  rw [f_M_its]
  refine aw_aload_n K 0 dX12_its_0 rfl ?_
  refine aw_getR K (c' := 149) dX12_its_1 lk_X12_7_12 fd_148_0 ?_
  refine aw_iload_n K 1 dX12_its_4 rfl ?_
  refine aw_iload_n K 2 dX12_its_5 rfl ?_
  refine aw_callSI K dX12_its_6 vw_X12_74 (c_f_M_at l _ _) hg (by decide) rfl (Nat.le_of_ble_eq_true rfl) rfl rfl (fun r2 σ1 _ => ?_)
  refine aw_gd (fun h_1 => ?_)
  refine aw_ald K dX12_its_9 ad_149 h_1 rfl ?_
  exact aw_iret dX12_its_10
set_option maxRecDepth 100000 in
set_option maxHeartbeats 4000000 in
theorem c_f_M_isWhole (l : Launch) (x1 : Int32) : CTI l (2) yX12_isWhole cX12_isWhole 2 ((some .boolean)) (fun P => [rf P 148, .int x1]) (fun σ => f_M_isWhole x1 σ) := by
  refine met_Z rfl rfl rfl (fun P => Nat.le_of_ble_eq_true rfl) (fun P G K hg σ => ?_)
  change AW P G 2 (EZ P G cX12_isWhole) (f_M_isWhole x1 σ) σ 0 [(0, rf P 148), (1, .int x1)] []
  rw [f_M_isWhole]
  refine aw_aload_n K 0 dX12_isWhole_0 rfl ?_
  refine aw_iload_n K 1 dX12_isWhole_1 rfl ?_
  refine aw_iconst K dX12_isWhole_2 ki_1 ?_
  refine aw_callVI K dX12_isWhole_3 vw_X12_93_12 (c_f_M_its l _ _) hg (by decide) ob_148 rfl (Nat.le_of_ble_eq_true rfl) rfl rfl (fun r2 σ1 _ => ?_)
  refine aw_aload_n K 0 dX12_isWhole_6 rfl ?_
  refine aw_iload_n K 1 dX12_isWhole_7 rfl ?_
  refine aw_iconst K dX12_isWhole_8 ki_2 ?_
  refine aw_callVI K dX12_isWhole_9 vw_X12_93_12 (c_f_M_its l _ _) hg (by decide) ob_148 rfl (Nat.le_of_ble_eq_true rfl) rfl rfl (fun r4 σ3 _ => ?_)
  refine aw_icmp_ne K 19 dX12_isWhole_12 (by decide) (fun h_1 => ?_) (fun h_1 => ?_)
  · refine aw_iconst K dX12_isWhole_19 ki_0 ?_
    exact aw_zret dX12_isWhole_20 (by decide)
  · refine aw_iconst K dX12_isWhole_15 ki_1 ?_
    refine aw_goto K 20 dX12_isWhole_16 (by decide) ?_
    exact aw_zret dX12_isWhole_20 (by decide)
set_option maxRecDepth 100000 in
set_option maxHeartbeats 4000000 in
theorem c_f_M_atLeast (l : Launch) (x0 : Int32) : CTI l (0) yX12_atLeast cX12_atLeast 1 ((some .int)) (fun P => [.int x0]) (fun σ => f_M_atLeast x0 σ) := by
  refine met_I rfl rfl rfl (fun P => Nat.le_of_ble_eq_true rfl) (fun P G K hg σ => ?_)
  change AW P G 1 (EI P G cX12_atLeast) (f_M_atLeast x0 σ) σ 0 [(0, .int x0)] []
  rw [f_M_atLeast]
  refine aw_iload_n K 0 dX12_atLeast_0 rfl ?_
  refine aw_if_ge K 8 dX12_atLeast_1 (by decide) (fun h_1 => ?_) (fun h_1 => ?_)
  · refine aw_iload_n K 0 dX12_atLeast_8 rfl ?_
    exact aw_iret dX12_atLeast_9
  · refine aw_iconst K dX12_atLeast_4 ki_0 ?_
    refine aw_goto K 9 dX12_atLeast_5 (by decide) ?_
    exact aw_iret dX12_atLeast_9
set_option maxRecDepth 100000 in
set_option maxHeartbeats 4000000 in
theorem a_f_M_wholeSet_4 (l : Launch) {P : PT} {G : GT} (K : CX P G cX12_wholeSet RX12 (3) 3) (hg : gl G = l) : ∀ (n : Nat) (x1 : Int32) (x2 : Int32) (σ : SG), AW P G 3 (EI P G cX12_wholeSet) (f_M_wholeSet_4 n x1 x2 σ) σ 4 [(0, rf P 148), (1, .int x1), (2, .int x2)] [] := by
  intro n
  induction n with
  | zero =>
    intro x1 x2 σ
    rw [f_M_wholeSet_4]
    exact aw_none
  | succ n ih =>
    intro x1 x2 σ
    rw [f_M_wholeSet_4]
    refine aw_iload_n K 2 dX12_wholeSet_4 rfl ?_
    refine aw_aload_n K 0 dX12_wholeSet_5 rfl ?_
    refine aw_getR K (c' := 149) dX12_wholeSet_6 lk_X12_7_12 fd_148_0 ?_
    refine aw_iconst K dX12_wholeSet_9 ki_0 ?_
    refine aw_ald K dX12_wholeSet_10 ad_149 (by decide) kn_0 ?_
    refine aw_icmp_ge K 46 dX12_wholeSet_11 (by decide) (fun h_1 => ?_) (fun h_1 => ?_)
    · refine aw_iload_n K 1 dX12_wholeSet_46 rfl ?_
      exact aw_iret dX12_wholeSet_47
    · refine aw_iload_n K 1 dX12_wholeSet_14 rfl ?_
      refine aw_iload_n K 2 dX12_wholeSet_15 rfl ?_
      refine aw_aload_n K 0 dX12_wholeSet_16 rfl ?_
      refine aw_getI K dX12_wholeSet_17 lk_X12_19_12 fd_148_4 ?_
      refine aw_icmp_eq K 37 dX12_wholeSet_20 (by decide) (fun h_2 => ?_) (fun h_2 => ?_)
      · refine aw_iconst K dX12_wholeSet_37 ki_0 ?_
        refine aw_ior K dX12_wholeSet_38 ?_
        refine aw_istoreX_n K (i := 1) (lv' := fun y1 => [(1, .int y1), (0, rf P 148), (2, .int x2)]) dX12_wholeSet_39 rfl (Nat.le_of_ble_eq_true rfl) (fun _ => rfl) (fun y1 => ?_)
        refine aw_iinc K (lv' := fun y2 => [(2, .int y2), (1, .int y1), (0, rf P 148)]) 2 dX12_wholeSet_40 rfl ki_1 (Nat.le_of_ble_eq_true rfl) (fun _ => rfl) (fun y2 => ?_)
        refine aw_goto K 4 dX12_wholeSet_43 (by decide) ?_
        refine aw_lv [2, 1, 0] rfl ?_
        exact ih _ _ _
      · refine aw_aload_n K 0 dX12_wholeSet_23 rfl ?_
        refine aw_iload_n K 2 dX12_wholeSet_24 rfl ?_
        refine aw_callVI K dX12_wholeSet_25 vw_X12_96_12 (c_f_M_isWhole l _) hg (by decide) ob_148 rfl (Nat.le_of_ble_eq_true rfl) rfl rfl (fun r4 σ3 _ => ?_)
        refine aw_if_eq K 37 dX12_wholeSet_28 (by decide) (fun h_3 => ?_) (fun h_3 => ?_)
        · refine aw_iconst K dX12_wholeSet_37 ki_0 ?_
          refine aw_ior K dX12_wholeSet_38 ?_
          refine aw_istoreX_n K (i := 1) (lv' := fun y5 => [(1, .int y5), (0, rf P 148), (2, .int x2)]) dX12_wholeSet_39 rfl (Nat.le_of_ble_eq_true rfl) (fun _ => rfl) (fun y5 => ?_)
          refine aw_iinc K (lv' := fun y6 => [(2, .int y6), (1, .int y5), (0, rf P 148)]) 2 dX12_wholeSet_40 rfl ki_1 (Nat.le_of_ble_eq_true rfl) (fun _ => rfl) (fun y6 => ?_)
          refine aw_goto K 4 dX12_wholeSet_43 (by decide) ?_
          refine aw_lv [2, 1, 0] rfl ?_
          exact ih _ _ _
        · refine aw_iconst K dX12_wholeSet_31 ki_1 ?_
          refine aw_iload_n K 2 dX12_wholeSet_32 rfl ?_
          refine aw_ishl K dX12_wholeSet_33 ?_
          refine aw_goto K 38 dX12_wholeSet_34 (by decide) ?_
          refine aw_ior K dX12_wholeSet_38 ?_
          refine aw_istoreX_n K (i := 1) (lv' := fun y7 => [(1, .int y7), (0, rf P 148), (2, .int x2)]) dX12_wholeSet_39 rfl (Nat.le_of_ble_eq_true rfl) (fun _ => rfl) (fun y7 => ?_)
          refine aw_iinc K (lv' := fun y8 => [(2, .int y8), (1, .int y7), (0, rf P 148)]) 2 dX12_wholeSet_40 rfl ki_1 (Nat.le_of_ble_eq_true rfl) (fun _ => rfl) (fun y8 => ?_)
          refine aw_goto K 4 dX12_wholeSet_43 (by decide) ?_
          refine aw_lv [2, 1, 0] rfl ?_
          exact ih _ _ _
set_option maxRecDepth 100000 in
set_option maxHeartbeats 4000000 in
theorem c_f_M_wholeSet (l : Launch) : CTI l (3) yX12_wholeSet cX12_wholeSet 3 ((some .int)) (fun P => [rf P 148]) (fun σ => f_M_wholeSet σ) := by
  refine met_I rfl rfl rfl (fun P => Nat.le_of_ble_eq_true rfl) (fun P G K hg σ => ?_)
  change AW P G 3 (EI P G cX12_wholeSet) (f_M_wholeSet σ) σ 0 [(0, rf P 148)] []
  rw [f_M_wholeSet]
  refine aw_iconst K dX12_wholeSet_0 ki_0 ?_
  refine aw_istore_n K (i := 1) (lv' := [(1, .int (0 : Int32)), (0, rf P 148)]) dX12_wholeSet_1 rfl (Nat.le_of_ble_eq_true rfl) rfl ?_
  refine aw_iconst K dX12_wholeSet_2 ki_0 ?_
  refine aw_istore_n K (i := 2) (lv' := [(2, .int (0 : Int32)), (1, .int (0 : Int32)), (0, rf P 148)]) dX12_wholeSet_3 rfl (Nat.le_of_ble_eq_true rfl) rfl ?_
  refine aw_lv [2, 1, 0] rfl ?_
  exact (a_f_M_wholeSet_4 l K hg FU) _ _ _
set_option maxRecDepth 100000 in
set_option maxHeartbeats 4000000 in
theorem c_f_M_isUnder (l : Launch) (x0 : Int32) (x1 : Int32) : CTI l (0) yX12_isUnder cX12_isUnder 2 ((some .boolean)) (fun P => [.int x0, .int x1]) (fun σ => f_M_isUnder x0 x1 σ) := by
  refine met_Z rfl rfl rfl (fun P => Nat.le_of_ble_eq_true rfl) (fun P G K hg σ => ?_)
  change AW P G 2 (EZ P G cX12_isUnder) (f_M_isUnder x0 x1 σ) σ 0 [(0, .int x0), (1, .int x1)] []
  rw [f_M_isUnder]
  refine aw_iload_n K 1 dX12_isUnder_0 rfl ?_
  refine aw_if_eq K 29 dX12_isUnder_1 (by decide) (fun h_1 => ?_) (fun h_1 => ?_)
  · refine aw_iconst K dX12_isUnder_29 ki_1 ?_
    refine aw_goto K 34 dX12_isUnder_30 (by decide) ?_
    exact aw_zret dX12_isUnder_34 (by decide)
  · refine aw_iload_n K 0 dX12_isUnder_4 rfl ?_
    refine aw_iload_n K 1 dX12_isUnder_5 rfl ?_
    refine aw_icmp_eq K 29 dX12_isUnder_6 (by decide) (fun h_2 => ?_) (fun h_2 => ?_)
    · refine aw_iconst K dX12_isUnder_29 ki_1 ?_
      refine aw_goto K 34 dX12_isUnder_30 (by decide) ?_
      exact aw_zret dX12_isUnder_34 (by decide)
    · refine aw_iload_n K 1 dX12_isUnder_9 rfl ?_
      refine aw_iconst K dX12_isUnder_10 ki_2 ?_
      refine aw_icmp_ne K 19 dX12_isUnder_11 (by decide) (fun h_3 => ?_) (fun h_3 => ?_)
      · refine aw_iload_n K 1 dX12_isUnder_19 rfl ?_
        refine aw_iconst K dX12_isUnder_20 ki_4 ?_
        refine aw_icmp_ne K 33 dX12_isUnder_21 (by decide) (fun h_4 => ?_) (fun h_4 => ?_)
        · refine aw_iconst K dX12_isUnder_33 ki_0 ?_
          exact aw_zret dX12_isUnder_34 (by decide)
        · refine aw_iload_n K 0 dX12_isUnder_24 rfl ?_
          refine aw_iconst K dX12_isUnder_25 ki_5 ?_
          refine aw_icmp_ne K 33 dX12_isUnder_26 (by decide) (fun h_5 => ?_) (fun h_5 => ?_)
          · refine aw_iconst K dX12_isUnder_33 ki_0 ?_
            exact aw_zret dX12_isUnder_34 (by decide)
          · refine aw_iconst K dX12_isUnder_29 ki_1 ?_
            refine aw_goto K 34 dX12_isUnder_30 (by decide) ?_
            exact aw_zret dX12_isUnder_34 (by decide)
      · refine aw_iload_n K 0 dX12_isUnder_14 rfl ?_
        refine aw_iconst K dX12_isUnder_15 ki_3 ?_
        refine aw_icmp_eq K 29 dX12_isUnder_16 (by decide) (fun h_6 => ?_) (fun h_6 => ?_)
        · refine aw_iconst K dX12_isUnder_29 ki_1 ?_
          refine aw_goto K 34 dX12_isUnder_30 (by decide) ?_
          exact aw_zret dX12_isUnder_34 (by decide)
        · refine aw_iload_n K 1 dX12_isUnder_19 rfl ?_
          refine aw_iconst K dX12_isUnder_20 ki_4 ?_
          refine aw_icmp_ne K 33 dX12_isUnder_21 (by decide) (fun h_7 => ?_) (fun h_7 => ?_)
          · refine aw_iconst K dX12_isUnder_33 ki_0 ?_
            exact aw_zret dX12_isUnder_34 (by decide)
          · refine aw_iload_n K 0 dX12_isUnder_24 rfl ?_
            refine aw_iconst K dX12_isUnder_25 ki_5 ?_
            refine aw_icmp_ne K 33 dX12_isUnder_26 (by decide) (fun h_8 => ?_) (fun h_8 => ?_)
            · refine aw_iconst K dX12_isUnder_33 ki_0 ?_
              exact aw_zret dX12_isUnder_34 (by decide)
            · refine aw_iconst K dX12_isUnder_29 ki_1 ?_
              refine aw_goto K 34 dX12_isUnder_30 (by decide) ?_
              exact aw_zret dX12_isUnder_34 (by decide)
set_option maxRecDepth 100000 in
set_option maxHeartbeats 4000000 in
theorem c_f_M_isHolding (l : Launch) (x0 : Int32) (x1 : Int32) (x2 : Int32) : CTI l (0) yX12_isHolding cX12_isHolding 3 ((some .boolean)) (fun P => [.int x0, .int x1, .int x2]) (fun σ => f_M_isHolding x0 x1 x2 σ) := by
  refine met_Z rfl rfl rfl (fun P => Nat.le_of_ble_eq_true rfl) (fun P G K hg σ => ?_)
  change AW P G 3 (EZ P G cX12_isHolding) (f_M_isHolding x0 x1 x2 σ) σ 0 [(0, .int x0), (1, .int x1), (2, .int x2)] []
  rw [f_M_isHolding]
  refine aw_iload_n K 0 dX12_isHolding_0 rfl ?_
  refine aw_ite (fun h_1 => ?_) (fun h_1 => ?_)
  · refine aw_look K (off := 76) 77 dX12_isHolding_1 rfl (by rw [ti_of h_1 kt_m21] <;> rfl) (by decide) ?_
    refine aw_iload_n K 1 dX12_isHolding_77 rfl ?_
    refine aw_iconst K dX12_isHolding_78 ki_1 ?_
    refine aw_icmp_ne K 91 dX12_isHolding_79 (by decide) (fun h_2 => ?_) (fun h_2 => ?_)
    · refine aw_iconst K dX12_isHolding_91 ki_0 ?_
      exact aw_zret dX12_isHolding_92 (by decide)
    · refine aw_iload_n K 2 dX12_isHolding_82 rfl ?_
      refine aw_iconst K dX12_isHolding_83 ki_1 ?_
      refine aw_icmp_ne K 91 dX12_isHolding_84 (by decide) (fun h_3 => ?_) (fun h_3 => ?_)
      · refine aw_iconst K dX12_isHolding_91 ki_0 ?_
        exact aw_zret dX12_isHolding_92 (by decide)
      · refine aw_iconst K dX12_isHolding_87 ki_1 ?_
        refine aw_goto K 92 dX12_isHolding_88 (by decide) ?_
        exact aw_zret dX12_isHolding_92 (by decide)
  refine aw_ite (fun h_4 => ?_) (fun h_4 => ?_)
  · refine aw_look K (off := 65) 66 dX12_isHolding_1 rfl (by rw [ti_of h_4 kt_m13] <;> rfl) (by decide) ?_
    refine aw_iload_n K 1 dX12_isHolding_66 rfl ?_
    refine aw_iload_n K 2 dX12_isHolding_67 rfl ?_
    refine aw_icmp_le K 75 dX12_isHolding_68 (by decide) (fun h_5 => ?_) (fun h_5 => ?_)
    · refine aw_iconst K dX12_isHolding_75 ki_0 ?_
      exact aw_zret dX12_isHolding_76 (by decide)
    · refine aw_iconst K dX12_isHolding_71 ki_1 ?_
      refine aw_goto K 76 dX12_isHolding_72 (by decide) ?_
      exact aw_zret dX12_isHolding_76 (by decide)
  refine aw_ite (fun h_6 => ?_) (fun h_6 => ?_)
  · refine aw_look K (off := 54) 55 dX12_isHolding_1 rfl (by rw [ti_of h_6 kt_m12] <;> rfl) (by decide) ?_
    refine aw_iload_n K 1 dX12_isHolding_55 rfl ?_
    refine aw_iload_n K 2 dX12_isHolding_56 rfl ?_
    refine aw_icmp_ne K 64 dX12_isHolding_57 (by decide) (fun h_7 => ?_) (fun h_7 => ?_)
    · refine aw_iconst K dX12_isHolding_64 ki_0 ?_
      exact aw_zret dX12_isHolding_65 (by decide)
    · refine aw_iconst K dX12_isHolding_60 ki_1 ?_
      refine aw_goto K 65 dX12_isHolding_61 (by decide) ?_
      exact aw_zret dX12_isHolding_65 (by decide)
  refine aw_ite (fun h_8 => ?_) (fun h_8 => ?_)
  · refine aw_look K (off := 43) 44 dX12_isHolding_1 rfl (by rw [ti_of h_8 kt_m11] <;> rfl) (by decide) ?_
    refine aw_iload_n K 1 dX12_isHolding_44 rfl ?_
    refine aw_iload_n K 2 dX12_isHolding_45 rfl ?_
    refine aw_icmp_ge K 53 dX12_isHolding_46 (by decide) (fun h_9 => ?_) (fun h_9 => ?_)
    · refine aw_iconst K dX12_isHolding_53 ki_0 ?_
      exact aw_zret dX12_isHolding_54 (by decide)
    · refine aw_iconst K dX12_isHolding_49 ki_1 ?_
      refine aw_goto K 54 dX12_isHolding_50 (by decide) ?_
      exact aw_zret dX12_isHolding_54 (by decide)
  refine aw_look K (off := 92) 93 dX12_isHolding_1 rfl (by rw [lv_osw h_1 kt_m21, lv_osw h_4 kt_m13, lv_osw h_6 kt_m12, lv_osw h_8 kt_m11] <;> rfl) (by decide) ?_
  refine aw_iload_n K 1 dX12_isHolding_93 rfl ?_
  refine aw_iconst K dX12_isHolding_94 ki_1 ?_
  refine aw_icmp_eq K 103 dX12_isHolding_95 (by decide) (fun h_10 => ?_) (fun h_10 => ?_)
  · refine aw_iconst K dX12_isHolding_103 ki_1 ?_
    refine aw_goto K 108 dX12_isHolding_104 (by decide) ?_
    exact aw_zret dX12_isHolding_108 (by decide)
  · refine aw_iload_n K 2 dX12_isHolding_98 rfl ?_
    refine aw_iconst K dX12_isHolding_99 ki_1 ?_
    refine aw_icmp_ne K 107 dX12_isHolding_100 (by decide) (fun h_11 => ?_) (fun h_11 => ?_)
    · refine aw_iconst K dX12_isHolding_107 ki_0 ?_
      exact aw_zret dX12_isHolding_108 (by decide)
    · refine aw_iconst K dX12_isHolding_103 ki_1 ?_
      refine aw_goto K 108 dX12_isHolding_104 (by decide) ?_
      exact aw_zret dX12_isHolding_108 (by decide)
set_option maxRecDepth 100000 in
set_option maxHeartbeats 4000000 in
theorem a_f_M_ones_4 (l : Launch) {P : PT} {G : GT} (K : CX P G cX12_ones RX12 (0) 3) (hg : gl G = l) : ∀ (n : Nat) (x1 : Int32) (x2 : Int32) (σ : SG), AW P G 3 (EI P G cX12_ones) (f_M_ones_4 n x1 x2 σ) σ 4 [(1, .int x1), (2, .int x2)] [] := by
  intro n
  induction n with
  | zero =>
    intro x1 x2 σ
    rw [f_M_ones_4]
    exact aw_none
  | succ n ih =>
    intro x1 x2 σ
    rw [f_M_ones_4]
    refine aw_iload_n K 1 dX12_ones_4 rfl ?_
    refine aw_if_eq K 20 dX12_ones_5 (by decide) (fun h_1 => ?_) (fun h_1 => ?_)
    · refine aw_iload_n K 0 dX12_ones_20 rfl ?_
      exact aw_iret dX12_ones_21
    · refine aw_iinc K (lv' := fun y1 => [(1, .int y1), (2, .int x2)]) 0 dX12_ones_8 rfl ki_1 (Nat.le_of_ble_eq_true rfl) (fun _ => rfl) (fun y1 => ?_)
      refine aw_iload_n K 1 dX12_ones_11 rfl ?_
      refine aw_iload_n K 1 dX12_ones_12 rfl ?_
      refine aw_iconst K dX12_ones_13 ki_1 ?_
      refine aw_isub K dX12_ones_14 ?_
      refine aw_iand K dX12_ones_15 ?_
      refine aw_istoreX_n K (i := 2) (lv' := fun y2 => [(2, .int y2), (1, .int y1)]) dX12_ones_16 rfl (Nat.le_of_ble_eq_true rfl) (fun _ => rfl) (fun y2 => ?_)
      refine aw_goto K 4 dX12_ones_17 (by decide) ?_
      refine aw_lv [1, 0] rfl ?_
      exact ih _ _ _
set_option maxRecDepth 100000 in
set_option maxHeartbeats 4000000 in
theorem c_f_M_ones (l : Launch) (x0 : Int32) : CTI l (0) yX12_ones cX12_ones 3 ((some .int)) (fun P => [.int x0]) (fun σ => f_M_ones x0 σ) := by
  refine met_I rfl rfl rfl (fun P => Nat.le_of_ble_eq_true rfl) (fun P G K hg σ => ?_)
  change AW P G 3 (EI P G cX12_ones) (f_M_ones x0 σ) σ 0 [(0, .int x0)] []
  rw [f_M_ones]
  refine aw_iconst K dX12_ones_0 ki_0 ?_
  refine aw_istore_n K (i := 1) (lv' := [(1, .int (0 : Int32)), (0, .int x0)]) dX12_ones_1 rfl (Nat.le_of_ble_eq_true rfl) rfl ?_
  refine aw_iload_n K 1 dX12_ones_2 rfl ?_
  refine aw_istore_n K (i := 2) (lv' := [(2, .int x0), (1, .int (0 : Int32)), (0, .int x0)]) dX12_ones_3 rfl (Nat.le_of_ble_eq_true rfl) rfl ?_
  refine aw_lv [1, 0] rfl ?_
  exact (a_f_M_ones_4 l K hg FU) _ _ _
set_option maxRecDepth 100000 in
set_option maxHeartbeats 4000000 in
theorem c_f_M_fact (l : Launch) (x1 : Int32) (x2 : Int32) : CTI l (4) yX12_fact cX12_fact 3 ((some .int)) (fun P => [rf P 148, .int x1, .int x2]) (fun σ => f_M_fact x1 x2 σ) := by
  refine met_I rfl rfl rfl (fun P => Nat.le_of_ble_eq_true rfl) (fun P G K hg σ => ?_)
  change AW P G 3 (EI P G cX12_fact) (f_M_fact x1 x2 σ) σ 0 [(0, rf P 148), (1, .int x1), (2, .int x2)] []
  rw [f_M_fact]
  refine aw_iload_n K 1 dX12_fact_0 rfl ?_
  refine aw_ite (fun h_1 => ?_) (fun h_1 => ?_)
  · refine aw_tabIn K 81 (-5) dX12_fact_1 (ti_of h_1 kt_m5) (by decide) (by decide) rfl (by decide) ?_
    refine aw_iload_n K 2 dX12_fact_81 rfl ?_
    exact aw_iret dX12_fact_82
  refine aw_ite (fun h_2 => ?_) (fun h_2 => ?_)
  · refine aw_tabIn K 73 (-4) dX12_fact_1 (ti_of h_2 kt_m4) (by decide) (by decide) rfl (by decide) ?_
    refine aw_aload_n K 0 dX12_fact_73 rfl ?_
    refine aw_callVI K dX12_fact_74 vw_X12_99_12 (c_f_M_wholeSet l) hg (by decide) ob_148 rfl (Nat.le_of_ble_eq_true rfl) rfl rfl (fun r2 σ1 _ => ?_)
    refine aw_callSI K dX12_fact_77 vw_X12_103 (c_f_M_ones l _) hg (by decide) rfl (Nat.le_of_ble_eq_true rfl) rfl rfl (fun r4 σ3 _ => ?_)
    exact aw_iret dX12_fact_80
  refine aw_ite (fun h_3 => ?_) (fun h_3 => ?_)
  · refine aw_tabIn K 66 (-3) dX12_fact_1 (ti_of h_3 kt_m3) (by decide) (by decide) rfl (by decide) ?_
    refine aw_aload_n K 0 dX12_fact_66 rfl ?_
    refine aw_iload_n K 2 dX12_fact_67 rfl ?_
    refine aw_iconst K dX12_fact_68 ki_3 ?_
    refine aw_callVI K dX12_fact_69 vw_X12_93_12 (c_f_M_its l _ _) hg (by decide) ob_148 rfl (Nat.le_of_ble_eq_true rfl) rfl rfl (fun r6 σ5 _ => ?_)
    exact aw_iret dX12_fact_72
  refine aw_ite (fun h_4 => ?_) (fun h_4 => ?_)
  · refine aw_tabIn K 51 (-2) dX12_fact_1 (ti_of h_4 kt_m2) (by decide) (by decide) rfl (by decide) ?_
    refine aw_aload_n K 0 dX12_fact_51 rfl ?_
    refine aw_getR K (c' := 149) dX12_fact_52 lk_X12_7_12 fd_148_0 ?_
    refine aw_bipush K dX12_fact_55 kb_6 ?_
    refine aw_aload_n K 0 dX12_fact_57 rfl ?_
    refine aw_iload_n K 2 dX12_fact_58 rfl ?_
    refine aw_iconst K dX12_fact_59 ki_2 ?_
    refine aw_callVI K dX12_fact_60 vw_X12_93_12 (c_f_M_its l _ _) hg (by decide) ob_148 rfl (Nat.le_of_ble_eq_true rfl) rfl rfl (fun r8 σ7 _ => ?_)
    refine aw_iadd K dX12_fact_63 ?_
    refine aw_gd (fun h_5 => ?_)
    refine aw_ald K dX12_fact_64 ad_149 h_5 rfl ?_
    exact aw_iret dX12_fact_65
  refine aw_ite (fun h_6 => ?_) (fun h_6 => ?_)
  · refine aw_tabIn K 36 (-1) dX12_fact_1 (ti_of h_6 kt_m1) (by decide) (by decide) rfl (by decide) ?_
    refine aw_aload_n K 0 dX12_fact_36 rfl ?_
    refine aw_getR K (c' := 149) dX12_fact_37 lk_X12_7_12 fd_148_0 ?_
    refine aw_bipush K dX12_fact_40 kb_6 ?_
    refine aw_aload_n K 0 dX12_fact_42 rfl ?_
    refine aw_iload_n K 2 dX12_fact_43 rfl ?_
    refine aw_iconst K dX12_fact_44 ki_1 ?_
    refine aw_callVI K dX12_fact_45 vw_X12_93_12 (c_f_M_its l _ _) hg (by decide) ob_148 rfl (Nat.le_of_ble_eq_true rfl) rfl rfl (fun r10 σ9 _ => ?_)
    refine aw_iadd K dX12_fact_48 ?_
    refine aw_gd (fun h_7 => ?_)
    refine aw_ald K dX12_fact_49 ad_149 h_7 rfl ?_
    exact aw_iret dX12_fact_50
  refine aw_tabOut K 83 dX12_fact_1 (by have := lv_neT h_1 kt_m5; have := lv_neT h_2 kt_m4; have := lv_neT h_3 kt_m3; have := lv_neT h_4 kt_m2; have := lv_neT h_6 kt_m1; omega) (by decide) ?_
  refine aw_iload_n K 1 dX12_fact_83 rfl ?_
  exact aw_iret dX12_fact_84
set_option maxRecDepth 100000 in
set_option maxHeartbeats 4000000 in
theorem a_f_M_isSo_6 (l : Launch) {P : PT} {G : GT} (K : CX P G cX12_isSo RX12 (5) 7) (hg : gl G = l) : ∀ (n : Nat) (x2 : Int32) (x3 : Int32) (x4 : Int32) (x5 : Int32) (σ : SG), AW P G 7 (EZ P G cX12_isSo) (f_M_isSo_6 n x2 x3 x4 x5 σ) σ 6 [(0, rf P 148), (2, .int x2), (3, .int x3), (4, .int x4), (5, .int x5)] [] := by
  intro n
  induction n with
  | zero =>
    intro x2 x3 x4 x5 σ
    rw [f_M_isSo_6]
    exact aw_none
  | succ n ih =>
    intro x2 x3 x4 x5 σ
    rw [f_M_isSo_6]
    refine aw_iload K 4 dX12_isSo_6 rfl ?_
    refine aw_iload_n K 1 dX12_isSo_8 rfl ?_
    refine aw_icmp_ge K 129 dX12_isSo_9 (by decide) (fun h_1 => ?_) (fun h_1 => ?_)
    · refine aw_iload K 3 dX12_isSo_129 rfl ?_
      refine aw_if_eq K 144 dX12_isSo_131 (by decide) (fun h_2 => ?_) (fun h_2 => ?_)
      · refine aw_iconst K dX12_isSo_144 ki_1 ?_
        refine aw_goto K 149 dX12_isSo_145 (by decide) ?_
        exact aw_zret dX12_isSo_149 (by decide)
      · refine aw_aload_n K 0 dX12_isSo_134 rfl ?_
        refine aw_getR K (c' := 152) dX12_isSo_135 lk_X12_23_12 fd_148_5 ?_
        refine aw_iconst K dX12_isSo_138 ki_0 ?_
        refine aw_ald K dX12_isSo_139 ad_152 (by decide) kn_0 ?_
        refine aw_iconst K dX12_isSo_140 ki_1 ?_
        refine aw_icmp_ne K 148 dX12_isSo_141 (by decide) (fun h_3 => ?_) (fun h_3 => ?_)
        · refine aw_iconst K dX12_isSo_148 ki_0 ?_
          exact aw_zret dX12_isSo_149 (by decide)
        · refine aw_iconst K dX12_isSo_144 ki_1 ?_
          refine aw_goto K 149 dX12_isSo_145 (by decide) ?_
          exact aw_zret dX12_isSo_149 (by decide)
    · refine aw_aload_n K 0 dX12_isSo_12 rfl ?_
      refine aw_getR K (c' := 149) dX12_isSo_13 lk_X12_7_12 fd_148_0 ?_
      refine aw_sipush K dX12_isSo_16 ks_138 ?_
      refine aw_iload K 4 dX12_isSo_19 rfl ?_
      refine aw_iadd K dX12_isSo_21 ?_
      refine aw_gd (fun h_4 => ?_)
      refine aw_ald K dX12_isSo_22 ad_149 h_4 rfl ?_
      refine aw_istoreX K (i := 6) (lv' := fun y1 => [(6, .int y1), (0, rf P 148), (2, .int x2), (3, .int x3), (4, .int x4), (5, .int x5)]) dX12_isSo_23 (Nat.le_of_ble_eq_true rfl) (fun _ => rfl) (fun y1 => ?_)
      refine aw_iload K 0 dX12_isSo_25 rfl ?_
      refine aw_bipush K dX12_isSo_27 kb_m10 ?_
      refine aw_icmp_le K 52 dX12_isSo_29 (by decide) (fun h_5 => ?_) (fun h_5 => ?_)
      · refine aw_iload K 0 dX12_isSo_52 rfl ?_
        refine aw_bipush K dX12_isSo_54 kb_m20 ?_
        refine aw_icmp_ne K 82 dX12_isSo_56 (by decide) (fun h_6 => ?_) (fun h_6 => ?_)
        · refine aw_iinc K (lv' := fun y2 => [(4, .int y2), (6, .int y1), (0, rf P 148), (2, .int x2), (3, .int x3), (5, .int x5)]) 4 dX12_isSo_82 rfl ki_m1 (Nat.le_of_ble_eq_true rfl) (fun _ => rfl) (fun y2 => ?_)
          refine aw_aload_n K 2 dX12_isSo_85 rfl ?_
          refine aw_getR K (c' := 152) dX12_isSo_86 lk_X12_23_12 fd_148_5 ?_
          refine aw_iload K 0 dX12_isSo_89 rfl ?_
          refine aw_iconst K dX12_isSo_91 ki_1 ?_
          refine aw_isub K dX12_isSo_92 ?_
          refine aw_iload K 1 dX12_isSo_93 rfl ?_
          refine aw_aload_n K 2 dX12_isSo_95 rfl ?_
          refine aw_getR K (c' := 152) dX12_isSo_96 lk_X12_23_12 fd_148_5 ?_
          refine aw_iload K 0 dX12_isSo_99 rfl ?_
          refine aw_iconst K dX12_isSo_101 ki_1 ?_
          refine aw_isub K dX12_isSo_102 ?_
          refine aw_gd (fun h_7 => ?_)
          refine aw_ald K dX12_isSo_103 ad_152 h_7 rfl ?_
          refine aw_aload_n K 2 dX12_isSo_104 rfl ?_
          refine aw_getR K (c' := 152) dX12_isSo_105 lk_X12_23_12 fd_148_5 ?_
          refine aw_iload K 0 dX12_isSo_108 rfl ?_
          refine aw_gd (fun h_8 => ?_)
          refine aw_ald K dX12_isSo_110 ad_152 h_8 rfl ?_
          refine aw_callSI K dX12_isSo_111 vw_X12_110 (c_f_M_isHolding l _ _ _) hg (by decide) rfl (Nat.le_of_ble_eq_true rfl) rfl rfl (fun r4 σ3 _ => ?_)
          refine aw_if_eq K 121 dX12_isSo_114 (by decide) (fun h_9 => ?_) (fun h_9 => ?_)
          · refine aw_iconst K dX12_isSo_121 ki_0 ?_
            refine aw_gd (fun h_10 => ?_)
            refine aw_ast K dX12_isSo_122 ad_152 h_10 rfl (fun σ5 => ?_)
            refine aw_iinc K (lv' := fun y6 => [(5, .int y6), (4, .int y2), (6, .int y1), (0, rf P 148), (2, .int x2), (3, .int x3)]) 5 dX12_isSo_123 rfl ki_1 (Nat.le_of_ble_eq_true rfl) (fun _ => rfl) (fun y6 => ?_)
            refine aw_goto K 6 dX12_isSo_126 (by decide) ?_
            refine aw_lv [3, 4, 5, 1, 0] rfl ?_
            exact ih _ _ _ _ _
          · refine aw_iconst K dX12_isSo_117 ki_1 ?_
            refine aw_goto K 122 dX12_isSo_118 (by decide) ?_
            refine aw_gd (fun h_11 => ?_)
            refine aw_ast K dX12_isSo_122 ad_152 h_11 rfl (fun σ7 => ?_)
            refine aw_iinc K (lv' := fun y8 => [(5, .int y8), (4, .int y2), (6, .int y1), (0, rf P 148), (2, .int x2), (3, .int x3)]) 5 dX12_isSo_123 rfl ki_1 (Nat.le_of_ble_eq_true rfl) (fun _ => rfl) (fun y8 => ?_)
            refine aw_goto K 6 dX12_isSo_126 (by decide) ?_
            refine aw_lv [3, 4, 5, 1, 0] rfl ?_
            exact ih _ _ _ _ _
        · refine aw_aload_n K 1 dX12_isSo_59 rfl ?_
          refine aw_getR K (c' := 152) dX12_isSo_60 lk_X12_23_12 fd_148_5 ?_
          refine aw_iload K 4 dX12_isSo_63 rfl ?_
          refine aw_iconst K dX12_isSo_65 ki_1 ?_
          refine aw_isub K dX12_isSo_66 ?_
          refine aw_iconst K dX12_isSo_67 ki_1 ?_
          refine aw_aload_n K 1 dX12_isSo_68 rfl ?_
          refine aw_getR K (c' := 152) dX12_isSo_69 lk_X12_23_12 fd_148_5 ?_
          refine aw_iload K 4 dX12_isSo_72 rfl ?_
          refine aw_iconst K dX12_isSo_74 ki_1 ?_
          refine aw_isub K dX12_isSo_75 ?_
          refine aw_gd (fun h_12 => ?_)
          refine aw_ald K dX12_isSo_76 ad_152 h_12 rfl ?_
          refine aw_isub K dX12_isSo_77 ?_
          refine aw_gd (fun h_13 => ?_)
          refine aw_ast K dX12_isSo_78 ad_152 h_13 rfl (fun σ9 => ?_)
          refine aw_goto K 123 dX12_isSo_79 (by decide) ?_
          refine aw_iinc K (lv' := fun y10 => [(5, .int y10), (6, .int y1), (0, rf P 148), (2, .int x2), (3, .int x3), (4, .int x4)]) 5 dX12_isSo_123 rfl ki_1 (Nat.le_of_ble_eq_true rfl) (fun _ => rfl) (fun y10 => ?_)
          refine aw_goto K 6 dX12_isSo_126 (by decide) ?_
          refine aw_lv [2, 3, 4, 5, 0] rfl ?_
          exact ih _ _ _ _ _
      · refine aw_aload_n K 1 dX12_isSo_32 rfl ?_
        refine aw_getR K (c' := 152) dX12_isSo_33 lk_X12_23_12 fd_148_5 ?_
        refine aw_iload K 4 dX12_isSo_36 rfl ?_
        refine aw_aload_n K 1 dX12_isSo_38 rfl ?_
        refine aw_iload K 0 dX12_isSo_39 rfl ?_
        refine aw_iload_n K 3 dX12_isSo_41 rfl ?_
        refine aw_callVI K dX12_isSo_42 vw_X12_107_12 (c_f_M_fact l _ _) hg (by decide) ob_148 rfl (Nat.le_of_ble_eq_true rfl) rfl rfl (fun r12 σ11 _ => ?_)
        refine aw_gd (fun h_14 => ?_)
        refine aw_ast K dX12_isSo_45 ad_152 h_14 rfl (fun σ13 => ?_)
        refine aw_iinc K (lv' := fun y14 => [(4, .int y14), (6, .int y1), (0, rf P 148), (2, .int x2), (3, .int x3), (5, .int x5)]) 4 dX12_isSo_46 rfl ki_1 (Nat.le_of_ble_eq_true rfl) (fun _ => rfl) (fun y14 => ?_)
        refine aw_goto K 123 dX12_isSo_49 (by decide) ?_
        refine aw_iinc K (lv' := fun y15 => [(5, .int y15), (4, .int y14), (6, .int y1), (0, rf P 148), (2, .int x2), (3, .int x3)]) 5 dX12_isSo_123 rfl ki_1 (Nat.le_of_ble_eq_true rfl) (fun _ => rfl) (fun y15 => ?_)
        refine aw_goto K 6 dX12_isSo_126 (by decide) ?_
        refine aw_lv [3, 4, 5, 1, 0] rfl ?_
        exact ih _ _ _ _ _
set_option maxRecDepth 100000 in
set_option maxHeartbeats 4000000 in
theorem c_f_M_isSo (l : Launch) (x1 : Int32) (x2 : Int32) (x3 : Int32) : CTI l (5) yX12_isSo cX12_isSo 7 ((some .boolean)) (fun P => [rf P 148, .int x1, .int x2, .int x3]) (fun σ => f_M_isSo x1 x2 x3 σ) := by
  refine met_Z rfl rfl rfl (fun P => Nat.le_of_ble_eq_true rfl) (fun P G K hg σ => ?_)
  change AW P G 7 (EZ P G cX12_isSo) (f_M_isSo x1 x2 x3 σ) σ 0 [(0, rf P 148), (1, .int x1), (2, .int x2), (3, .int x3)] []
  rw [f_M_isSo]
  refine aw_iconst K dX12_isSo_0 ki_0 ?_
  refine aw_istore K (i := 4) (lv' := [(4, .int (0 : Int32)), (0, rf P 148), (1, .int x1), (2, .int x2), (3, .int x3)]) dX12_isSo_1 (Nat.le_of_ble_eq_true rfl) rfl ?_
  refine aw_iload_n K 2 dX12_isSo_3 rfl ?_
  refine aw_istore K (i := 5) (lv' := [(5, .int x1), (4, .int (0 : Int32)), (0, rf P 148), (1, .int x1), (2, .int x2), (3, .int x3)]) dX12_isSo_4 (Nat.le_of_ble_eq_true rfl) rfl ?_
  refine aw_lv [2, 4, 5, 1, 0] rfl ?_
  exact (a_f_M_isSo_6 l K hg FU) _ _ _ _ _
set_option maxRecDepth 100000 in
set_option maxHeartbeats 4000000 in
theorem a_f_M_asked_217 (l : Launch) {P : PT} {G : GT} (K : CX P G cX12_asked RX12 (6) 9) (hg : gl G = l) : ∀ (x1 : Int32) (x2 : Int32) (xs0 : Int32) (σ : SG), AW P G 9 (EI P G cX12_asked) (f_M_asked_217 x1 x2 xs0 σ) σ 217 [(0, rf P 148), (1, .int x1), (2, .int x2)] [.int xs0] := by
  intro x1 x2 xs0 σ
  rw [f_M_asked_217]
  refine aw_istore K (i := 7) (lv' := [(7, .int xs0), (0, rf P 148), (1, .int x1), (2, .int x2)]) dX12_asked_217 (Nat.le_of_ble_eq_true rfl) rfl ?_
  refine aw_iload K 0 dX12_asked_219 rfl ?_
  refine aw_aload_n K 1 dX12_asked_221 rfl ?_
  refine aw_iload_n K 2 dX12_asked_222 rfl ?_
  refine aw_iconst K dX12_asked_223 ki_3 ?_
  refine aw_callVI K dX12_asked_224 vw_X12_93_12 (c_f_M_its l _ _) hg (by decide) ob_148 rfl (Nat.le_of_ble_eq_true rfl) rfl rfl (fun r2 σ1 _ => ?_)
  refine aw_bipush K dX12_asked_227 kb_10 ?_
  refine aw_idiv K dX12_asked_229 (by decide) ?_
  refine aw_isub K dX12_asked_230 ?_
  refine aw_callSI K dX12_asked_231 vw_X12_120 (c_f_M_atLeast l _) hg (by decide) rfl (Nat.le_of_ble_eq_true rfl) rfl rfl (fun r4 σ3 _ => ?_)
  refine aw_istore K (i := 8) (lv' := [(8, .int r4), (7, .int xs0), (0, rf P 148), (1, .int x1), (2, .int x2)]) dX12_asked_234 (Nat.le_of_ble_eq_true rfl) rfl ?_
  refine aw_iload_n K 4 dX12_asked_236 rfl ?_
  refine aw_ite (fun h_1 => ?_) (fun h_1 => ?_)
  · refine aw_tabIn K 268 (2) dX12_asked_237 (ti_of h_1 kt_2) (by decide) (by decide) rfl (by decide) ?_
    refine aw_iload K 0 dX12_asked_268 rfl ?_
    exact aw_iret dX12_asked_270
  refine aw_ite (fun h_2 => ?_) (fun h_2 => ?_)
  · refine aw_tabIn K 271 (3) dX12_asked_237 (ti_of h_2 kt_3) (by decide) (by decide) rfl (by decide) ?_
    refine aw_aload_n K 2 dX12_asked_271 rfl ?_
    refine aw_callVI K dX12_asked_272 vw_X12_99_12 (c_f_M_wholeSet l) hg (by decide) ob_148 rfl (Nat.le_of_ble_eq_true rfl) rfl rfl (fun r6 σ5 _ => ?_)
    refine aw_if_ne K 285 dX12_asked_275 (by decide) (fun h_3 => ?_) (fun h_3 => ?_)
    · refine aw_iload K 0 dX12_asked_285 rfl ?_
      exact aw_iret dX12_asked_287
    · refine aw_iload K 0 dX12_asked_278 rfl ?_
      refine aw_iconst K dX12_asked_280 ki_2 ?_
      refine aw_idiv K dX12_asked_281 (by decide) ?_
      refine aw_goto K 287 dX12_asked_282 (by decide) ?_
      exact aw_iret dX12_asked_287
  refine aw_ite (fun h_4 => ?_) (fun h_4 => ?_)
  · refine aw_tabIn K 288 (4) dX12_asked_237 (ti_of h_4 kt_4) (by decide) (by decide) rfl (by decide) ?_
    refine aw_iconst K dX12_asked_288 ki_2 ?_
    refine aw_iload K 1 dX12_asked_289 rfl ?_
    refine aw_imul K dX12_asked_291 ?_
    exact aw_iret dX12_asked_292
  refine aw_ite (fun h_5 => ?_) (fun h_5 => ?_)
  · refine aw_tabIn K 293 (5) dX12_asked_237 (ti_of h_5 kt_5) (by decide) (by decide) rfl (by decide) ?_
    refine aw_iconst K dX12_asked_293 ki_2 ?_
    refine aw_iload K 1 dX12_asked_294 rfl ?_
    refine aw_imul K dX12_asked_296 ?_
    refine aw_bipush K dX12_asked_297 kb_7 ?_
    refine aw_isub K dX12_asked_299 ?_
    refine aw_callSI K dX12_asked_300 vw_X12_120 (c_f_M_atLeast l _) hg (by decide) rfl (Nat.le_of_ble_eq_true rfl) rfl rfl (fun r8 σ7 _ => ?_)
    exact aw_iret dX12_asked_303
  refine aw_tabOut K 304 dX12_asked_237 (by have := lv_neT h_1 kt_2; have := lv_neT h_2 kt_3; have := lv_neT h_4 kt_4; have := lv_neT h_5 kt_5; omega) (by decide) ?_
  refine aw_iload K 1 dX12_asked_304 rfl ?_
  exact aw_iret dX12_asked_306
set_option maxRecDepth 100000 in
set_option maxHeartbeats 4000000 in
theorem a_f_M_asked_132 (l : Launch) {P : PT} {G : GT} (K : CX P G cX12_asked RX12 (6) 9) (hg : gl G = l) : ∀ (x1 : Int32) (x2 : Int32) (x5 : Int32) (xs0 : Int32) (σ : SG), AW P G 9 (EI P G cX12_asked) (f_M_asked_132 x1 x2 x5 xs0 σ) σ 132 [(0, rf P 148), (1, .int x1), (2, .int x2), (5, .int x5)] [.int xs0] := by
  intro x1 x2 x5 xs0 σ
  rw [f_M_asked_132]
  refine aw_istore K (i := 6) (lv' := [(6, .int xs0), (0, rf P 148), (1, .int x1), (2, .int x2), (5, .int x5)]) dX12_asked_132 (Nat.le_of_ble_eq_true rfl) rfl ?_
  refine aw_aload_n K 1 dX12_asked_134 rfl ?_
  refine aw_getR K (c' := 149) dX12_asked_135 lk_X12_7_12 fd_148_0 ?_
  refine aw_bipush K dX12_asked_138 kb_6 ?_
  refine aw_aload_n K 1 dX12_asked_140 rfl ?_
  refine aw_iload_n K 2 dX12_asked_141 rfl ?_
  refine aw_iconst K dX12_asked_142 ki_2 ?_
  refine aw_callVI K dX12_asked_143 vw_X12_93_12 (c_f_M_its l _ _) hg (by decide) ob_148 rfl (Nat.le_of_ble_eq_true rfl) rfl rfl (fun r2 σ1 _ => ?_)
  refine aw_iadd K dX12_asked_146 ?_
  refine aw_gd (fun h_1 => ?_)
  refine aw_ald K dX12_asked_147 ad_149 h_1 rfl ?_
  refine aw_aload_n K 1 dX12_asked_148 rfl ?_
  refine aw_getR K (c' := 149) dX12_asked_149 lk_X12_7_12 fd_148_0 ?_
  refine aw_bipush K dX12_asked_152 kb_6 ?_
  refine aw_aload_n K 1 dX12_asked_154 rfl ?_
  refine aw_iload_n K 2 dX12_asked_155 rfl ?_
  refine aw_iconst K dX12_asked_156 ki_1 ?_
  refine aw_callVI K dX12_asked_157 vw_X12_93_12 (c_f_M_its l _ _) hg (by decide) ob_148 rfl (Nat.le_of_ble_eq_true rfl) rfl rfl (fun r4 σ3 _ => ?_)
  refine aw_iadd K dX12_asked_160 ?_
  refine aw_gd (fun h_2 => ?_)
  refine aw_ald K dX12_asked_161 ad_149 h_2 rfl ?_
  refine aw_isub K dX12_asked_162 ?_
  refine aw_callSI K dX12_asked_163 vw_X12_120 (c_f_M_atLeast l _) hg (by decide) rfl (Nat.le_of_ble_eq_true rfl) rfl rfl (fun r6 σ5 _ => ?_)
  refine aw_aload_n K 1 dX12_asked_166 rfl ?_
  refine aw_getR K (c' := 149) dX12_asked_167 lk_X12_7_12 fd_148_0 ?_
  refine aw_iconst K dX12_asked_170 ki_2 ?_
  refine aw_ald K dX12_asked_171 ad_149 (by decide) kn_2 ?_
  refine aw_iadd K dX12_asked_172 ?_
  refine aw_istoreX K (i := 7) (lv' := fun y7 => [(7, .int y7), (6, .int xs0), (0, rf P 148), (1, .int x1), (2, .int x2), (5, .int x5)]) dX12_asked_173 (Nat.le_of_ble_eq_true rfl) (fun _ => rfl) (fun y7 => ?_)
  refine aw_iload K 5 dX12_asked_175 rfl ?_
  refine aw_if_ne K 188 dX12_asked_177 (by decide) (fun h_3 => ?_) (fun h_3 => ?_)
  · refine aw_iload K 5 dX12_asked_188 rfl ?_
    refine aw_iconst K dX12_asked_190 ki_1 ?_
    refine aw_icmp_ne K 205 dX12_asked_191 (by decide) (fun h_4 => ?_) (fun h_4 => ?_)
    · refine aw_iload K 5 dX12_asked_205 rfl ?_
      refine aw_iconst K dX12_asked_207 ki_2 ?_
      refine aw_icmp_ne K 215 dX12_asked_208 (by decide) (fun h_5 => ?_) (fun h_5 => ?_)
      · refine aw_iload K 0 dX12_asked_215 rfl ?_
        refine aw_lv [2, 3, 4] rfl ?_
        exact (a_f_M_asked_217 l K hg) _ _ _ _
      · refine aw_iconst K dX12_asked_211 ki_0 ?_
        refine aw_goto K 217 dX12_asked_212 (by decide) ?_
        refine aw_lv [2, 3, 4] rfl ?_
        exact (a_f_M_asked_217 l K hg) _ _ _ _
    · refine aw_iload K 0 dX12_asked_194 rfl ?_
      refine aw_iload K 1 dX12_asked_196 rfl ?_
      refine aw_isub K dX12_asked_198 ?_
      refine aw_callSI K dX12_asked_199 vw_X12_120 (c_f_M_atLeast l _) hg (by decide) rfl (Nat.le_of_ble_eq_true rfl) rfl rfl (fun r9 σ8 _ => ?_)
      refine aw_goto K 217 dX12_asked_202 (by decide) ?_
      refine aw_lv [2, 3, 4] rfl ?_
      exact (a_f_M_asked_217 l K hg) _ _ _ _
  · refine aw_iload K 0 dX12_asked_180 rfl ?_
    refine aw_iload K 1 dX12_asked_182 rfl ?_
    refine aw_iadd K dX12_asked_184 ?_
    refine aw_goto K 217 dX12_asked_185 (by decide) ?_
    refine aw_lv [2, 3, 4] rfl ?_
    exact (a_f_M_asked_217 l K hg) _ _ _ _
set_option maxRecDepth 100000 in
set_option maxHeartbeats 4000000 in
theorem a_f_M_asked_98 (l : Launch) {P : PT} {G : GT} (K : CX P G cX12_asked RX12 (6) 9) (hg : gl G = l) : ∀ (x1 : Int32) (x2 : Int32) (x3 : Int32) (σ : SG), AW P G 9 (EI P G cX12_asked) (f_M_asked_98 x1 x2 x3 σ) σ 98 [(0, rf P 148), (1, .int x1), (2, .int x2), (3, .int x3)] [] := by
  intro x1 x2 x3 σ
  rw [f_M_asked_98]
  refine aw_iload_n K 3 dX12_asked_98 rfl ?_
  refine aw_if_ge K 106 dX12_asked_99 (by decide) (fun h_1 => ?_) (fun h_1 => ?_)
  · refine aw_aload_n K 0 dX12_asked_106 rfl ?_
    refine aw_getR K (c' := 149) dX12_asked_107 lk_X12_7_12 fd_148_0 ?_
    refine aw_iload_n K 3 dX12_asked_110 rfl ?_
    refine aw_iconst K dX12_asked_111 ki_1 ?_
    refine aw_iadd K dX12_asked_112 ?_
    refine aw_gd (fun h_2 => ?_)
    refine aw_ald K dX12_asked_113 ad_149 h_2 rfl ?_
    refine aw_istoreX K (i := 5) (lv' := fun y1 => [(5, .int y1), (0, rf P 148), (1, .int x1), (2, .int x2), (3, .int x3)]) dX12_asked_114 (Nat.le_of_ble_eq_true rfl) (fun _ => rfl) (fun y1 => ?_)
    refine aw_iload_n K 4 dX12_asked_116 rfl ?_
    refine aw_if_ge K 124 dX12_asked_117 (by decide) (fun h_3 => ?_) (fun h_3 => ?_)
    · refine aw_aload_n K 1 dX12_asked_124 rfl ?_
      refine aw_getR K (c' := 149) dX12_asked_125 lk_X12_7_12 fd_148_0 ?_
      refine aw_iload_n K 4 dX12_asked_128 rfl ?_
      refine aw_iconst K dX12_asked_129 ki_2 ?_
      refine aw_iadd K dX12_asked_130 ?_
      refine aw_gd (fun h_4 => ?_)
      refine aw_ald K dX12_asked_131 ad_149 h_4 rfl ?_
      refine aw_lv [1, 2, 3, 0] rfl ?_
      exact (a_f_M_asked_132 l K hg) _ _ _ _ _
    · refine aw_iconst K dX12_asked_120 ki_0 ?_
      refine aw_goto K 132 dX12_asked_121 (by decide) ?_
      refine aw_lv [1, 2, 3, 0] rfl ?_
      exact (a_f_M_asked_132 l K hg) _ _ _ _ _
  · refine aw_iconst K dX12_asked_102 ki_m1 ?_
    refine aw_goto K 114 dX12_asked_103 (by decide) ?_
    refine aw_istore K (i := 5) (lv' := [(5, .int (-1 : Int32)), (0, rf P 148), (1, .int x1), (2, .int x2), (3, .int x3)]) dX12_asked_114 (Nat.le_of_ble_eq_true rfl) rfl ?_
    refine aw_iload_n K 4 dX12_asked_116 rfl ?_
    refine aw_if_ge K 124 dX12_asked_117 (by decide) (fun h_5 => ?_) (fun h_5 => ?_)
    · refine aw_aload_n K 1 dX12_asked_124 rfl ?_
      refine aw_getR K (c' := 149) dX12_asked_125 lk_X12_7_12 fd_148_0 ?_
      refine aw_iload_n K 4 dX12_asked_128 rfl ?_
      refine aw_iconst K dX12_asked_129 ki_2 ?_
      refine aw_iadd K dX12_asked_130 ?_
      refine aw_gd (fun h_6 => ?_)
      refine aw_ald K dX12_asked_131 ad_149 h_6 rfl ?_
      refine aw_lv [1, 2, 3, 0] rfl ?_
      exact (a_f_M_asked_132 l K hg) _ _ _ _ _
    · refine aw_iconst K dX12_asked_120 ki_0 ?_
      refine aw_goto K 132 dX12_asked_121 (by decide) ?_
      refine aw_lv [1, 2, 3, 0] rfl ?_
      exact (a_f_M_asked_132 l K hg) _ _ _ _ _
set_option maxRecDepth 100000 in
set_option maxHeartbeats 4000000 in
theorem a_f_M_asked_15 (l : Launch) {P : PT} {G : GT} (K : CX P G cX12_asked RX12 (6) 9) (hg : gl G = l) : ∀ (n : Nat) (x1 : Int32) (x2 : Int32) (x3 : Int32) (x4 : Int32) (x5 : Int32) (σ : SG), AW P G 9 (EI P G cX12_asked) (f_M_asked_15 n x1 x2 x3 x4 x5 σ) σ 15 [(0, rf P 148), (1, .int x1), (2, .int x2), (3, .int x3), (4, .int x4), (5, .int x5)] [] := by
  intro n
  induction n with
  | zero =>
    intro x1 x2 x3 x4 x5 σ
    rw [f_M_asked_15]
    exact aw_none
  | succ n ih =>
    intro x1 x2 x3 x4 x5 σ
    rw [f_M_asked_15]
    refine aw_iload K 5 dX12_asked_15 rfl ?_
    refine aw_aload_n K 0 dX12_asked_17 rfl ?_
    refine aw_getR K (c' := 149) dX12_asked_18 lk_X12_7_12 fd_148_0 ?_
    refine aw_iconst K dX12_asked_21 ki_1 ?_
    refine aw_ald K dX12_asked_22 ad_149 (by decide) kn_1 ?_
    refine aw_icmp_ge K 98 dX12_asked_23 (by decide) (fun h_1 => ?_) (fun h_1 => ?_)
    · refine aw_lv [0, 1, 2, 3] rfl ?_
      exact (a_f_M_asked_98 l K hg) _ _ _ _
    · refine aw_iload_n K 3 dX12_asked_26 rfl ?_
      refine aw_if_ge K 98 dX12_asked_27 (by decide) (fun h_2 => ?_) (fun h_2 => ?_)
      · refine aw_lv [0, 1, 2, 3] rfl ?_
        exact (a_f_M_asked_98 l K hg) _ _ _ _
      · refine aw_bipush K dX12_asked_30 kb_106 ?_
        refine aw_iconst K dX12_asked_32 ki_4 ?_
        refine aw_iload K 5 dX12_asked_33 rfl ?_
        refine aw_imul K dX12_asked_35 ?_
        refine aw_iadd K dX12_asked_36 ?_
        refine aw_istoreX K (i := 6) (lv' := fun y1 => [(6, .int y1), (0, rf P 148), (1, .int x1), (2, .int x2), (3, .int x3), (4, .int x4), (5, .int x5)]) dX12_asked_37 (Nat.le_of_ble_eq_true rfl) (fun _ => rfl) (fun y1 => ?_)
        refine aw_iload_n K 3 dX12_asked_39 rfl ?_
        refine aw_aload_n K 1 dX12_asked_40 rfl ?_
        refine aw_getR K (c' := 149) dX12_asked_41 lk_X12_7_12 fd_148_0 ?_
        refine aw_iload K 0 dX12_asked_44 rfl ?_
        refine aw_iconst K dX12_asked_46 ki_0 ?_
        refine aw_iadd K dX12_asked_47 ?_
        refine aw_gd (fun h_3 => ?_)
        refine aw_ald K dX12_asked_48 ad_149 h_3 rfl ?_
        refine aw_callSI K dX12_asked_49 vw_X12_114 (c_f_M_isUnder l _ _) hg (by decide) rfl (Nat.le_of_ble_eq_true rfl) rfl rfl (fun r3 σ2 _ => ?_)
        refine aw_if_eq K 79 dX12_asked_52 (by decide) (fun h_4 => ?_) (fun h_4 => ?_)
        · refine aw_iconst K dX12_asked_79 ki_m1 ?_
          refine aw_istore_n K (i := 3) (lv' := [(3, .int (-1 : Int32)), (6, .int y1), (0, rf P 148), (1, .int x1), (2, .int x2), (4, .int x4), (5, .int x5)]) dX12_asked_80 rfl (Nat.le_of_ble_eq_true rfl) rfl ?_
          refine aw_aload_n K 2 dX12_asked_81 rfl ?_
          refine aw_getR K (c' := 149) dX12_asked_82 lk_X12_7_12 fd_148_0 ?_
          refine aw_iload K 1 dX12_asked_85 rfl ?_
          refine aw_iconst K dX12_asked_87 ki_3 ?_
          refine aw_iadd K dX12_asked_88 ?_
          refine aw_gd (fun h_5 => ?_)
          refine aw_ald K dX12_asked_89 ad_149 h_5 rfl ?_
          refine aw_istoreX K (i := 4) (lv' := fun y4 => [(4, .int y4), (3, .int (-1 : Int32)), (6, .int y1), (0, rf P 148), (1, .int x1), (2, .int x2), (5, .int x5)]) dX12_asked_90 (Nat.le_of_ble_eq_true rfl) (fun _ => rfl) (fun y4 => ?_)
          refine aw_iinc K (lv' := fun y5 => [(5, .int y5), (4, .int y4), (3, .int (-1 : Int32)), (6, .int y1), (0, rf P 148), (1, .int x1), (2, .int x2)]) 6 dX12_asked_92 rfl ki_1 (Nat.le_of_ble_eq_true rfl) (fun _ => rfl) (fun y5 => ?_)
          refine aw_goto K 15 dX12_asked_95 (by decide) ?_
          refine aw_lv [4, 5, 6, 2, 1, 0] rfl ?_
          exact ih _ _ _ _ _ _
        · refine aw_aload_n K 1 dX12_asked_55 rfl ?_
          refine aw_iload K 5 dX12_asked_56 rfl ?_
          refine aw_aload_n K 1 dX12_asked_58 rfl ?_
          refine aw_getR K (c' := 149) dX12_asked_59 lk_X12_7_12 fd_148_0 ?_
          refine aw_iload K 0 dX12_asked_62 rfl ?_
          refine aw_iconst K dX12_asked_64 ki_3 ?_
          refine aw_iadd K dX12_asked_65 ?_
          refine aw_gd (fun h_6 => ?_)
          refine aw_ald K dX12_asked_66 ad_149 h_6 rfl ?_
          refine aw_iload_n K 2 dX12_asked_67 rfl ?_
          refine aw_callVI K dX12_asked_68 vw_X12_117_12 (c_f_M_isSo l _ _ _) hg (by decide) ob_148 rfl (Nat.le_of_ble_eq_true rfl) rfl rfl (fun r7 σ6 _ => ?_)
          refine aw_if_eq K 79 dX12_asked_71 (by decide) (fun h_7 => ?_) (fun h_7 => ?_)
          · refine aw_iconst K dX12_asked_79 ki_m1 ?_
            refine aw_istore_n K (i := 3) (lv' := [(3, .int (-1 : Int32)), (6, .int y1), (0, rf P 148), (1, .int x1), (2, .int x2), (4, .int x4), (5, .int x5)]) dX12_asked_80 rfl (Nat.le_of_ble_eq_true rfl) rfl ?_
            refine aw_aload_n K 2 dX12_asked_81 rfl ?_
            refine aw_getR K (c' := 149) dX12_asked_82 lk_X12_7_12 fd_148_0 ?_
            refine aw_iload K 1 dX12_asked_85 rfl ?_
            refine aw_iconst K dX12_asked_87 ki_3 ?_
            refine aw_iadd K dX12_asked_88 ?_
            refine aw_gd (fun h_8 => ?_)
            refine aw_ald K dX12_asked_89 ad_149 h_8 rfl ?_
            refine aw_istoreX K (i := 4) (lv' := fun y8 => [(4, .int y8), (3, .int (-1 : Int32)), (6, .int y1), (0, rf P 148), (1, .int x1), (2, .int x2), (5, .int x5)]) dX12_asked_90 (Nat.le_of_ble_eq_true rfl) (fun _ => rfl) (fun y8 => ?_)
            refine aw_iinc K (lv' := fun y9 => [(5, .int y9), (4, .int y8), (3, .int (-1 : Int32)), (6, .int y1), (0, rf P 148), (1, .int x1), (2, .int x2)]) 6 dX12_asked_92 rfl ki_1 (Nat.le_of_ble_eq_true rfl) (fun _ => rfl) (fun y9 => ?_)
            refine aw_goto K 15 dX12_asked_95 (by decide) ?_
            refine aw_lv [4, 5, 6, 2, 1, 0] rfl ?_
            exact ih _ _ _ _ _ _
          · refine aw_iload K 0 dX12_asked_74 rfl ?_
            refine aw_goto K 80 dX12_asked_76 (by decide) ?_
            refine aw_istore_n K (i := 3) (lv' := [(3, .int y1), (6, .int y1), (0, rf P 148), (1, .int x1), (2, .int x2), (4, .int x4), (5, .int x5)]) dX12_asked_80 rfl (Nat.le_of_ble_eq_true rfl) rfl ?_
            refine aw_aload_n K 2 dX12_asked_81 rfl ?_
            refine aw_getR K (c' := 149) dX12_asked_82 lk_X12_7_12 fd_148_0 ?_
            refine aw_iload K 1 dX12_asked_85 rfl ?_
            refine aw_iconst K dX12_asked_87 ki_3 ?_
            refine aw_iadd K dX12_asked_88 ?_
            refine aw_gd (fun h_9 => ?_)
            refine aw_ald K dX12_asked_89 ad_149 h_9 rfl ?_
            refine aw_istoreX K (i := 4) (lv' := fun y10 => [(4, .int y10), (3, .int y1), (6, .int y1), (0, rf P 148), (1, .int x1), (2, .int x2), (5, .int x5)]) dX12_asked_90 (Nat.le_of_ble_eq_true rfl) (fun _ => rfl) (fun y10 => ?_)
            refine aw_iinc K (lv' := fun y11 => [(5, .int y11), (4, .int y10), (3, .int y1), (6, .int y1), (0, rf P 148), (1, .int x1), (2, .int x2)]) 6 dX12_asked_92 rfl ki_1 (Nat.le_of_ble_eq_true rfl) (fun _ => rfl) (fun y11 => ?_)
            refine aw_goto K 15 dX12_asked_95 (by decide) ?_
            refine aw_lv [4, 5, 6, 2, 1, 0] rfl ?_
            exact ih _ _ _ _ _ _
set_option maxRecDepth 100000 in
set_option maxHeartbeats 4000000 in
theorem c_f_M_asked (l : Launch) (x1 : Int32) : CTI l (6) yX12_asked cX12_asked 9 ((some .int)) (fun P => [rf P 148, .int x1]) (fun σ => f_M_asked x1 σ) := by
  refine met_I rfl rfl rfl (fun P => Nat.le_of_ble_eq_true rfl) (fun P G K hg σ => ?_)
  change AW P G 9 (EI P G cX12_asked) (f_M_asked x1 σ) σ 0 [(0, rf P 148), (1, .int x1)] []
  rw [f_M_asked]
  refine aw_aload_n K 0 dX12_asked_0 rfl ?_
  refine aw_iload_n K 1 dX12_asked_1 rfl ?_
  refine aw_iconst K dX12_asked_2 ki_0 ?_
  refine aw_callVI K dX12_asked_3 vw_X12_93_12 (c_f_M_its l _ _) hg (by decide) ob_148 rfl (Nat.le_of_ble_eq_true rfl) rfl rfl (fun r2 σ1 _ => ?_)
  refine aw_istore_n K (i := 2) (lv' := [(2, .int r2), (0, rf P 148), (1, .int x1)]) dX12_asked_6 rfl (Nat.le_of_ble_eq_true rfl) rfl ?_
  refine aw_iconst K dX12_asked_7 ki_m1 ?_
  refine aw_istore_n K (i := 3) (lv' := [(3, .int (-1 : Int32)), (2, .int r2), (0, rf P 148), (1, .int x1)]) dX12_asked_8 rfl (Nat.le_of_ble_eq_true rfl) rfl ?_
  refine aw_iconst K dX12_asked_9 ki_0 ?_
  refine aw_istore K (i := 4) (lv' := [(4, .int (0 : Int32)), (3, .int (-1 : Int32)), (2, .int r2), (0, rf P 148), (1, .int x1)]) dX12_asked_10 (Nat.le_of_ble_eq_true rfl) rfl ?_
  refine aw_iconst K dX12_asked_12 ki_0 ?_
  refine aw_istore K (i := 5) (lv' := [(5, .int (0 : Int32)), (4, .int (0 : Int32)), (3, .int (-1 : Int32)), (2, .int r2), (0, rf P 148), (1, .int x1)]) dX12_asked_13 (Nat.le_of_ble_eq_true rfl) rfl ?_
  refine aw_lv [4, 5, 3, 2, 1, 0] rfl ?_
  exact (a_f_M_asked_15 l K hg FU) _ _ _ _ _ _
set_option maxRecDepth 100000 in
set_option maxHeartbeats 4000000 in
theorem c_f_M_personOf (l : Launch) (x1 : Int32) (x2 : Int32) : CTI l (7) yX12_personOf cX12_personOf 3 ((some .int)) (fun P => [rf P 148, .int x1, .int x2]) (fun σ => f_M_personOf x1 x2 σ) := by
  refine met_I rfl rfl rfl (fun P => Nat.le_of_ble_eq_true rfl) (fun P G K hg σ => ?_)
  change AW P G 3 (EI P G cX12_personOf) (f_M_personOf x1 x2 σ) σ 0 [(0, rf P 148), (1, .int x1), (2, .int x2)] []
  rw [f_M_personOf]
  refine aw_aload_n K 0 dX12_personOf_0 rfl ?_
  refine aw_iload_n K 1 dX12_personOf_1 rfl ?_
  refine aw_callVI K dX12_personOf_2 vw_X12_123_12 (c_f_M_isPerson l _) hg (by decide) ob_148 rfl (Nat.le_of_ble_eq_true rfl) rfl rfl (fun r2 σ1 _ => ?_)
  refine aw_if_eq K 20 dX12_personOf_5 (by decide) (fun h_1 => ?_) (fun h_1 => ?_)
  · refine aw_iconst K dX12_personOf_20 ki_m1 ?_
    exact aw_iret dX12_personOf_21
  · refine aw_iload_n K 2 dX12_personOf_8 rfl ?_
    refine aw_i2l K dX12_personOf_9 ?_
    refine aw_lconst K dX12_personOf_10 kl_0 ?_
    refine aw_ldc2 K (x := (6 : Int64)) dX12_personOf_11 (in_r12 _ (List.mem_of_getElem? (i := 7) rfl)) ?_
    refine aw_callSI K dX12_personOf_14 vw_X12_68 (c_f_M_in l _ _ _) hg (by decide) rfl (Nat.le_of_ble_eq_true rfl) rfl rfl (fun r4 σ3 _ => ?_)
    refine aw_if_ne K 22 dX12_personOf_17 (by decide) (fun h_2 => ?_) (fun h_2 => ?_)
    · refine aw_iload_n K 2 dX12_personOf_22 rfl ?_
      refine aw_iconst K dX12_personOf_23 ki_4 ?_
      refine aw_icmp_ne K 35 dX12_personOf_24 (by decide) (fun h_3 => ?_) (fun h_3 => ?_)
      · refine aw_iload_n K 2 dX12_personOf_35 rfl ?_
        refine aw_iconst K dX12_personOf_36 ki_5 ?_
        refine aw_icmp_ne K 56 dX12_personOf_37 (by decide) (fun h_4 => ?_) (fun h_4 => ?_)
        · refine aw_aload_n K 0 dX12_personOf_56 rfl ?_
          refine aw_iload_n K 1 dX12_personOf_57 rfl ?_
          refine aw_iload_n K 2 dX12_personOf_58 rfl ?_
          refine aw_bipush K dX12_personOf_59 kb_6 ?_
          refine aw_icmp_ne K 68 dX12_personOf_61 (by decide) (fun h_5 => ?_) (fun h_5 => ?_)
          · refine aw_iload_n K 2 dX12_personOf_68 rfl ?_
            refine aw_callVI K dX12_personOf_69 vw_X12_93_12 (c_f_M_its l _ _) hg (by decide) ob_148 rfl (Nat.le_of_ble_eq_true rfl) rfl rfl (fun r6 σ5 _ => ?_)
            exact aw_iret dX12_personOf_72
          · refine aw_iconst K dX12_personOf_64 ki_4 ?_
            refine aw_goto K 69 dX12_personOf_65 (by decide) ?_
            refine aw_callVI K dX12_personOf_69 vw_X12_93_12 (c_f_M_its l _ _) hg (by decide) ob_148 rfl (Nat.le_of_ble_eq_true rfl) rfl rfl (fun r8 σ7 _ => ?_)
            exact aw_iret dX12_personOf_72
        · refine aw_aload_n K 0 dX12_personOf_40 rfl ?_
          refine aw_iload_n K 1 dX12_personOf_41 rfl ?_
          refine aw_callVI K dX12_personOf_42 vw_X12_96_12 (c_f_M_isWhole l _) hg (by decide) ob_148 rfl (Nat.le_of_ble_eq_true rfl) rfl rfl (fun r10 σ9 _ => ?_)
          refine aw_if_eq K 52 dX12_personOf_45 (by decide) (fun h_6 => ?_) (fun h_6 => ?_)
          · refine aw_iconst K dX12_personOf_52 ki_0 ?_
            refine aw_goto K 72 dX12_personOf_53 (by decide) ?_
            exact aw_iret dX12_personOf_72
          · refine aw_iconst K dX12_personOf_48 ki_1 ?_
            refine aw_goto K 72 dX12_personOf_49 (by decide) ?_
            exact aw_iret dX12_personOf_72
      · refine aw_aload_n K 0 dX12_personOf_27 rfl ?_
        refine aw_iload_n K 1 dX12_personOf_28 rfl ?_
        refine aw_callVI K dX12_personOf_29 vw_X12_128_12 (c_f_M_asked l _) hg (by decide) ob_148 rfl (Nat.le_of_ble_eq_true rfl) rfl rfl (fun r12 σ11 _ => ?_)
        refine aw_goto K 72 dX12_personOf_32 (by decide) ?_
        exact aw_iret dX12_personOf_72
    · refine aw_iconst K dX12_personOf_20 ki_m1 ?_
      exact aw_iret dX12_personOf_21
set_option maxRecDepth 100000 in
set_option maxHeartbeats 4000000 in
theorem c_f_M_becomes (l : Launch) (x1 : Int32) (x2 : Int32) : CTI l (0) yX12_becomes cX12_becomes 4 ((some .int)) (fun P => [rf P 148, .int x1, .int x2]) (fun σ => f_M_becomes x1 x2 σ) := by
  refine met_I rfl rfl rfl (fun P => Nat.le_of_ble_eq_true rfl) (fun P G K hg σ => ?_)
  change AW P G 4 (EI P G cX12_becomes) (f_M_becomes x1 x2 σ) σ 0 [(0, rf P 148), (1, .int x1), (2, .int x2)] []
  rw [f_M_becomes]
  refine aw_aload_n K 0 dX12_becomes_0 rfl ?_
  refine aw_getR K (c' := 149) dX12_becomes_1 lk_X12_7_12 fd_148_0 ?_
  refine aw_iload_n K 1 dX12_becomes_4 rfl ?_
  refine aw_gd (fun h_1 => ?_)
  refine aw_ald K dX12_becomes_5 ad_149 h_1 rfl ?_
  refine aw_istoreX_n K (i := 3) (lv' := fun y1 => [(3, .int y1), (0, rf P 148), (1, .int x1), (2, .int x2)]) dX12_becomes_6 rfl (Nat.le_of_ble_eq_true rfl) (fun _ => rfl) (fun y1 => ?_)
  refine aw_aload_n K 1 dX12_becomes_7 rfl ?_
  refine aw_getR K (c' := 149) dX12_becomes_8 lk_X12_7_12 fd_148_0 ?_
  refine aw_iload_n K 2 dX12_becomes_11 rfl ?_
  refine aw_iload_n K 3 dX12_becomes_12 rfl ?_
  refine aw_gd (fun h_2 => ?_)
  refine aw_ast K dX12_becomes_13 ad_149 h_2 rfl (fun σ2 => ?_)
  refine aw_iload_n K 0 dX12_becomes_14 rfl ?_
  exact aw_iret dX12_becomes_15
set_option maxRecDepth 100000 in
set_option maxHeartbeats 4000000 in
theorem c_f_M_change (l : Launch) (x1 : Int32) (x2 : Int32) (x3 : Int32) : CTI l (3) yX12_change cX12_change 4 ((some .int)) (fun P => [rf P 148, .int x1, .int x2, .int x3]) (fun σ => f_M_change x1 x2 x3 σ) := by
  refine met_I rfl rfl rfl (fun P => Nat.le_of_ble_eq_true rfl) (fun P G K hg σ => ?_)
  change AW P G 4 (EI P G cX12_change) (f_M_change x1 x2 x3 σ) σ 0 [(0, rf P 148), (1, .int x1), (2, .int x2), (3, .int x3)] []
  rw [f_M_change]
  refine aw_aload_n K 0 dX12_change_0 rfl ?_
  refine aw_iload_n K 1 dX12_change_1 rfl ?_
  refine aw_callVI K dX12_change_2 vw_X12_123_12 (c_f_M_isPerson l _) hg (by decide) ob_148 rfl (Nat.le_of_ble_eq_true rfl) rfl rfl (fun r2 σ1 _ => ?_)
  refine aw_if_eq K 29 dX12_change_5 (by decide) (fun h_1 => ?_) (fun h_1 => ?_)
  · refine aw_iconst K dX12_change_29 ki_m1 ?_
    exact aw_iret dX12_change_30
  · refine aw_iload_n K 2 dX12_change_8 rfl ?_
    refine aw_iload_n K 3 dX12_change_9 rfl ?_
    refine aw_callSI K dX12_change_10 vw_X12_89 (c_f_M_isPart l _ _) hg (by decide) rfl (Nat.le_of_ble_eq_true rfl) rfl rfl (fun r4 σ3 _ => ?_)
    refine aw_if_eq K 29 dX12_change_13 (by decide) (fun h_2 => ?_) (fun h_2 => ?_)
    · refine aw_iconst K dX12_change_29 ki_m1 ?_
      exact aw_iret dX12_change_30
    · refine aw_aload_n K 0 dX12_change_16 rfl ?_
      refine aw_iload_n K 1 dX12_change_17 rfl ?_
      refine aw_iload_n K 2 dX12_change_18 rfl ?_
      refine aw_callSI K dX12_change_19 vw_X12_74 (c_f_M_at l _ _) hg (by decide) rfl (Nat.le_of_ble_eq_true rfl) rfl rfl (fun r6 σ5 _ => ?_)
      refine aw_iload_n K 3 dX12_change_22 rfl ?_
      refine aw_callVI K dX12_change_23 vw_X12_131_12 (c_f_M_becomes l _ _) hg (by decide) ob_148 rfl (Nat.le_of_ble_eq_true rfl) rfl rfl (fun r8 σ7 _ => ?_)
      refine aw_goto K 30 dX12_change_26 (by decide) ?_
      exact aw_iret dX12_change_30
set_option maxRecDepth 100000 in
set_option maxHeartbeats 4000000 in
theorem c_f_M_remake (l : Launch) (x1 : Int32) (x2 : Int32) : CTI l (2) yX12_remake cX12_remake 3 ((some .int)) (fun P => [rf P 148, .int x1, .int x2]) (fun σ => f_M_remake x1 x2 σ) := by
  refine met_I rfl rfl rfl (fun P => Nat.le_of_ble_eq_true rfl) (fun P G K hg σ => ?_)
  change AW P G 3 (EI P G cX12_remake) (f_M_remake x1 x2 σ) σ 0 [(0, rf P 148), (1, .int x1), (2, .int x2)] []
  rw [f_M_remake]
  refine aw_aload_n K 0 dX12_remake_0 rfl ?_
  refine aw_iload_n K 1 dX12_remake_1 rfl ?_
  refine aw_callVI K dX12_remake_2 vw_X12_123_12 (c_f_M_isPerson l _) hg (by decide) ob_148 rfl (Nat.le_of_ble_eq_true rfl) rfl rfl (fun r2 σ1 _ => ?_)
  refine aw_if_eq K 28 dX12_remake_5 (by decide) (fun h_1 => ?_) (fun h_1 => ?_)
  · refine aw_iconst K dX12_remake_28 ki_m1 ?_
    exact aw_iret dX12_remake_29
  · refine aw_iload_n K 2 dX12_remake_8 rfl ?_
    refine aw_callSI K dX12_remake_9 vw_X12_86 (c_f_M_isKind l _) hg (by decide) rfl (Nat.le_of_ble_eq_true rfl) rfl rfl (fun r4 σ3 _ => ?_)
    refine aw_if_eq K 28 dX12_remake_12 (by decide) (fun h_2 => ?_) (fun h_2 => ?_)
    · refine aw_iconst K dX12_remake_28 ki_m1 ?_
      exact aw_iret dX12_remake_29
    · refine aw_aload_n K 0 dX12_remake_15 rfl ?_
      refine aw_iload_n K 1 dX12_remake_16 rfl ?_
      refine aw_iconst K dX12_remake_17 ki_0 ?_
      refine aw_callSI K dX12_remake_18 vw_X12_74 (c_f_M_at l _ _) hg (by decide) rfl (Nat.le_of_ble_eq_true rfl) rfl rfl (fun r6 σ5 _ => ?_)
      refine aw_iload_n K 2 dX12_remake_21 rfl ?_
      refine aw_callVI K dX12_remake_22 vw_X12_131_12 (c_f_M_becomes l _ _) hg (by decide) ob_148 rfl (Nat.le_of_ble_eq_true rfl) rfl rfl (fun r8 σ7 _ => ?_)
      refine aw_goto K 29 dX12_remake_25 (by decide) ?_
      exact aw_iret dX12_remake_29
set_option maxRecDepth 100000 in
set_option maxHeartbeats 4000000 in
theorem c_f_M_doMeet (l : Launch) (x1 : Int32) (x2 : Int32) : CTI l (2) yX12_doMeet cX12_doMeet 3 ((some .boolean)) (fun P => [rf P 148, .int x1, .int x2]) (fun σ => f_M_doMeet x1 x2 σ) := by
  refine met_Z rfl rfl rfl (fun P => Nat.le_of_ble_eq_true rfl) (fun P G K hg σ => ?_)
  change AW P G 3 (EZ P G cX12_doMeet) (f_M_doMeet x1 x2 σ) σ 0 [(0, rf P 148), (1, .int x1), (2, .int x2)] []
  rw [f_M_doMeet]
  refine aw_aload_n K 0 dX12_doMeet_0 rfl ?_
  refine aw_iload_n K 1 dX12_doMeet_1 rfl ?_
  refine aw_iconst K dX12_doMeet_2 ki_4 ?_
  refine aw_callVI K dX12_doMeet_3 vw_X12_93_12 (c_f_M_its l _ _) hg (by decide) ob_148 rfl (Nat.le_of_ble_eq_true rfl) rfl rfl (fun r2 σ1 _ => ?_)
  refine aw_iload_n K 2 dX12_doMeet_6 rfl ?_
  refine aw_ishr K dX12_doMeet_7 ?_
  refine aw_iconst K dX12_doMeet_8 ki_1 ?_
  refine aw_iand K dX12_doMeet_9 ?_
  refine aw_iconst K dX12_doMeet_10 ki_1 ?_
  refine aw_icmp_ne K 18 dX12_doMeet_11 (by decide) (fun h_1 => ?_) (fun h_1 => ?_)
  · refine aw_iconst K dX12_doMeet_18 ki_0 ?_
    exact aw_zret dX12_doMeet_19 (by decide)
  · refine aw_iconst K dX12_doMeet_14 ki_1 ?_
    refine aw_goto K 19 dX12_doMeet_15 (by decide) ?_
    exact aw_zret dX12_doMeet_19 (by decide)
set_option maxRecDepth 100000 in
set_option maxHeartbeats 4000000 in
theorem c_f_M_lets (l : Launch) (x1 : Int32) (x2 : Int32) (x3 : Int32) : CTV l (2) yX12_lets cX12_lets 5 (none) (fun P => [rf P 148, .int x1, .int x2, .int x3]) (fun σ => f_M_lets x1 x2 x3 σ) := by
  refine met_V rfl rfl rfl (fun P => Nat.le_of_ble_eq_true rfl) (fun P G K hg σ => ?_)
  change AW P G 5 (EV P G cX12_lets) (f_M_lets x1 x2 x3 σ) σ 0 [(0, rf P 148), (1, .int x1), (2, .int x2), (3, .int x3)] []
  rw [f_M_lets]
  refine aw_aload_n K 0 dX12_lets_0 rfl ?_
  refine aw_iload_n K 1 dX12_lets_1 rfl ?_
  refine aw_iconst K dX12_lets_2 ki_4 ?_
  refine aw_callVI K dX12_lets_3 vw_X12_93_12 (c_f_M_its l _ _) hg (by decide) ob_148 rfl (Nat.le_of_ble_eq_true rfl) rfl rfl (fun r2 σ1 _ => ?_)
  refine aw_istore K (i := 4) (lv' := [(4, .int r2), (0, rf P 148), (1, .int x1), (2, .int x2), (3, .int x3)]) dX12_lets_6 (Nat.le_of_ble_eq_true rfl) rfl ?_
  refine aw_aload_n K 1 dX12_lets_8 rfl ?_
  refine aw_getR K (c' := 149) dX12_lets_9 lk_X12_7_12 fd_148_0 ?_
  refine aw_iload_n K 2 dX12_lets_12 rfl ?_
  refine aw_iconst K dX12_lets_13 ki_4 ?_
  refine aw_callSI K dX12_lets_14 vw_X12_74 (c_f_M_at l _ _) hg (by decide) rfl (Nat.le_of_ble_eq_true rfl) rfl rfl (fun r4 σ3 _ => ?_)
  refine aw_iload_n K 4 dX12_lets_17 rfl ?_
  refine aw_if_eq K 30 dX12_lets_18 (by decide) (fun h_1 => ?_) (fun h_1 => ?_)
  · refine aw_iload K 0 dX12_lets_30 rfl ?_
    refine aw_iconst K dX12_lets_32 ki_1 ?_
    refine aw_iload_n K 3 dX12_lets_33 rfl ?_
    refine aw_ishl K dX12_lets_34 ?_
    refine aw_iconst K dX12_lets_35 ki_m1 ?_
    refine aw_ixor K dX12_lets_36 ?_
    refine aw_iand K dX12_lets_37 ?_
    refine aw_gd (fun h_2 => ?_)
    refine aw_ast K dX12_lets_38 ad_149 h_2 rfl (fun σ5 => ?_)
    exact aw_vret dX12_lets_39
  · refine aw_iload K 0 dX12_lets_21 rfl ?_
    refine aw_iconst K dX12_lets_23 ki_1 ?_
    refine aw_iload_n K 3 dX12_lets_24 rfl ?_
    refine aw_ishl K dX12_lets_25 ?_
    refine aw_ior K dX12_lets_26 ?_
    refine aw_goto K 38 dX12_lets_27 (by decide) ?_
    refine aw_gd (fun h_3 => ?_)
    refine aw_ast K dX12_lets_38 ad_149 h_3 rfl (fun σ6 => ?_)
    exact aw_vret dX12_lets_39
set_option maxRecDepth 100000 in
set_option maxHeartbeats 4000000 in
theorem c_f_M_meets (l : Launch) (x1 : Int32) (x2 : Int32) (x3 : Int32) : CTI l (3) yX12_meets cX12_meets 5 ((some .int)) (fun P => [rf P 148, .int x1, .int x2, .int x3]) (fun σ => f_M_meets x1 x2 x3 σ) := by
  refine met_I rfl rfl rfl (fun P => Nat.le_of_ble_eq_true rfl) (fun P G K hg σ => ?_)
  change AW P G 5 (EI P G cX12_meets) (f_M_meets x1 x2 x3 σ) σ 0 [(0, rf P 148), (1, .int x1), (2, .int x2), (3, .int x3)] []
  rw [f_M_meets]
  refine aw_aload_n K 0 dX12_meets_0 rfl ?_
  refine aw_iload_n K 1 dX12_meets_1 rfl ?_
  refine aw_callVI K dX12_meets_2 vw_X12_123_12 (c_f_M_isPerson l _) hg (by decide) ob_148 rfl (Nat.le_of_ble_eq_true rfl) rfl rfl (fun r2 σ1 _ => ?_)
  refine aw_if_eq K 21 dX12_meets_5 (by decide) (fun h_1 => ?_) (fun h_1 => ?_)
  · refine aw_iconst K dX12_meets_21 ki_m1 ?_
    exact aw_iret dX12_meets_22
  · refine aw_aload_n K 0 dX12_meets_8 rfl ?_
    refine aw_iload_n K 2 dX12_meets_9 rfl ?_
    refine aw_callVI K dX12_meets_10 vw_X12_123_12 (c_f_M_isPerson l _) hg (by decide) ob_148 rfl (Nat.le_of_ble_eq_true rfl) rfl rfl (fun r4 σ3 _ => ?_)
    refine aw_if_eq K 21 dX12_meets_13 (by decide) (fun h_2 => ?_) (fun h_2 => ?_)
    · refine aw_iconst K dX12_meets_21 ki_m1 ?_
      exact aw_iret dX12_meets_22
    · refine aw_iload_n K 1 dX12_meets_16 rfl ?_
      refine aw_iload_n K 2 dX12_meets_17 rfl ?_
      refine aw_icmp_ne K 23 dX12_meets_18 (by decide) (fun h_3 => ?_) (fun h_3 => ?_)
      · refine aw_aload_n K 0 dX12_meets_23 rfl ?_
        refine aw_iload_n K 1 dX12_meets_24 rfl ?_
        refine aw_iload_n K 2 dX12_meets_25 rfl ?_
        refine aw_callVI K dX12_meets_26 vw_X12_134_12 (c_f_M_doMeet l _ _) hg (by decide) ob_148 rfl (Nat.le_of_ble_eq_true rfl) rfl rfl (fun r6 σ5 _ => ?_)
        refine aw_if_eq K 36 dX12_meets_29 (by decide) (fun h_4 => ?_) (fun h_4 => ?_)
        · refine aw_iconst K dX12_meets_36 ki_0 ?_
          refine aw_istore K (i := 4) (lv' := [(4, .int (0 : Int32)), (0, rf P 148), (1, .int x1), (2, .int x2), (3, .int x3)]) dX12_meets_37 (Nat.le_of_ble_eq_true rfl) rfl ?_
          refine aw_aload_n K 1 dX12_meets_39 rfl ?_
          refine aw_iload_n K 2 dX12_meets_40 rfl ?_
          refine aw_iload_n K 3 dX12_meets_41 rfl ?_
          refine aw_iload_n K 4 dX12_meets_42 rfl ?_
          refine aw_callVV K dX12_meets_43 vw_X12_137_12 (c_f_M_lets l _ _ _) hg (by decide) ob_148 rfl (Nat.le_of_ble_eq_true rfl) rfl rfl (fun _ σ7 _ => ?_)
          refine aw_aload_n K 1 dX12_meets_46 rfl ?_
          refine aw_iload_n K 3 dX12_meets_47 rfl ?_
          refine aw_iload_n K 2 dX12_meets_48 rfl ?_
          refine aw_iload_n K 4 dX12_meets_49 rfl ?_
          refine aw_callVV K dX12_meets_50 vw_X12_137_12 (c_f_M_lets l _ _ _) hg (by decide) ob_148 rfl (Nat.le_of_ble_eq_true rfl) rfl rfl (fun _ σ8 _ => ?_)
          refine aw_iload K 0 dX12_meets_53 rfl ?_
          exact aw_iret dX12_meets_55
        · refine aw_iconst K dX12_meets_32 ki_1 ?_
          refine aw_goto K 37 dX12_meets_33 (by decide) ?_
          refine aw_istore K (i := 4) (lv' := [(4, .int (1 : Int32)), (0, rf P 148), (1, .int x1), (2, .int x2), (3, .int x3)]) dX12_meets_37 (Nat.le_of_ble_eq_true rfl) rfl ?_
          refine aw_aload_n K 1 dX12_meets_39 rfl ?_
          refine aw_iload_n K 2 dX12_meets_40 rfl ?_
          refine aw_iload_n K 3 dX12_meets_41 rfl ?_
          refine aw_iload_n K 4 dX12_meets_42 rfl ?_
          refine aw_callVV K dX12_meets_43 vw_X12_137_12 (c_f_M_lets l _ _ _) hg (by decide) ob_148 rfl (Nat.le_of_ble_eq_true rfl) rfl rfl (fun _ σ9 _ => ?_)
          refine aw_aload_n K 1 dX12_meets_46 rfl ?_
          refine aw_iload_n K 3 dX12_meets_47 rfl ?_
          refine aw_iload_n K 2 dX12_meets_48 rfl ?_
          refine aw_iload_n K 4 dX12_meets_49 rfl ?_
          refine aw_callVV K dX12_meets_50 vw_X12_137_12 (c_f_M_lets l _ _ _) hg (by decide) ob_148 rfl (Nat.le_of_ble_eq_true rfl) rfl rfl (fun _ σ10 _ => ?_)
          refine aw_iload K 0 dX12_meets_53 rfl ?_
          exact aw_iret dX12_meets_55
      · refine aw_iconst K dX12_meets_21 ki_m1 ?_
        exact aw_iret dX12_meets_22
set_option maxRecDepth 100000 in
set_option maxHeartbeats 4000000 in
theorem c_f_M_worth (l : Launch) (x1 : Int32) (x2 : Int32) : CTI l (2) yX12_worth cX12_worth 3 ((some .int)) (fun P => [rf P 148, .int x1, .int x2]) (fun σ => f_M_worth x1 x2 σ) := by
  refine met_I rfl rfl rfl (fun P => Nat.le_of_ble_eq_true rfl) (fun P G K hg σ => ?_)
  change AW P G 3 (EI P G cX12_worth) (f_M_worth x1 x2 σ) σ 0 [(0, rf P 148), (1, .int x1), (2, .int x2)] []
  rw [f_M_worth]
  refine aw_iload_n K 1 dX12_worth_0 rfl ?_
  refine aw_callSI K dX12_worth_1 vw_X12_80 (c_f_M_isThing l _) hg (by decide) rfl (Nat.le_of_ble_eq_true rfl) rfl rfl (fun r2 σ1 _ => ?_)
  refine aw_if_eq K 31 dX12_worth_4 (by decide) (fun h_1 => ?_) (fun h_1 => ?_)
  · refine aw_iconst K dX12_worth_31 ki_m1 ?_
    exact aw_iret dX12_worth_32
  · refine aw_iload_n K 2 dX12_worth_7 rfl ?_
    refine aw_i2l K dX12_worth_8 ?_
    refine aw_lconst K dX12_worth_9 kl_0 ?_
    refine aw_ldc2 K (x := (99 : Int64)) dX12_worth_10 (in_r15 _ (List.mem_of_getElem? (i := 21) rfl)) ?_
    refine aw_callSI K dX12_worth_13 vw_X12_68 (c_f_M_in l _ _ _) hg (by decide) rfl (Nat.le_of_ble_eq_true rfl) rfl rfl (fun r4 σ3 _ => ?_)
    refine aw_if_eq K 31 dX12_worth_16 (by decide) (fun h_2 => ?_) (fun h_2 => ?_)
    · refine aw_iconst K dX12_worth_31 ki_m1 ?_
      exact aw_iret dX12_worth_32
    · refine aw_aload_n K 0 dX12_worth_19 rfl ?_
      refine aw_bipush K dX12_worth_20 kb_6 ?_
      refine aw_iload_n K 1 dX12_worth_22 rfl ?_
      refine aw_iadd K dX12_worth_23 ?_
      refine aw_iload_n K 2 dX12_worth_24 rfl ?_
      refine aw_callVI K dX12_worth_25 vw_X12_131_12 (c_f_M_becomes l _ _) hg (by decide) ob_148 rfl (Nat.le_of_ble_eq_true rfl) rfl rfl (fun r6 σ5 _ => ?_)
      refine aw_goto K 32 dX12_worth_28 (by decide) ?_
      exact aw_iret dX12_worth_32
set_option maxRecDepth 100000 in
set_option maxHeartbeats 4000000 in
theorem c_f_M_jar (l : Launch) (x1 : Int32) (x2 : Int32) : CTI l (2) yX12_jar cX12_jar 3 ((some .int)) (fun P => [rf P 148, .int x1, .int x2]) (fun σ => f_M_jar x1 x2 σ) := by
  refine met_I rfl rfl rfl (fun P => Nat.le_of_ble_eq_true rfl) (fun P G K hg σ => ?_)
  change AW P G 3 (EI P G cX12_jar) (f_M_jar x1 x2 σ) σ 0 [(0, rf P 148), (1, .int x1), (2, .int x2)] []
  rw [f_M_jar]
  refine aw_iload_n K 1 dX12_jar_0 rfl ?_
  refine aw_callSI K dX12_jar_1 vw_X12_80 (c_f_M_isThing l _) hg (by decide) rfl (Nat.le_of_ble_eq_true rfl) rfl rfl (fun r2 σ1 _ => ?_)
  refine aw_if_eq K 31 dX12_jar_4 (by decide) (fun h_1 => ?_) (fun h_1 => ?_)
  · refine aw_iconst K dX12_jar_31 ki_m1 ?_
    exact aw_iret dX12_jar_32
  · refine aw_iload_n K 2 dX12_jar_7 rfl ?_
    refine aw_i2l K dX12_jar_8 ?_
    refine aw_lconst K dX12_jar_9 kl_0 ?_
    refine aw_ldc2 K (x := (9 : Int64)) dX12_jar_10 (in_r16 _ (List.mem_of_getElem? (i := 7) rfl)) ?_
    refine aw_callSI K dX12_jar_13 vw_X12_68 (c_f_M_in l _ _ _) hg (by decide) rfl (Nat.le_of_ble_eq_true rfl) rfl rfl (fun r4 σ3 _ => ?_)
    refine aw_if_eq K 31 dX12_jar_16 (by decide) (fun h_2 => ?_) (fun h_2 => ?_)
    · refine aw_iconst K dX12_jar_31 ki_m1 ?_
      exact aw_iret dX12_jar_32
    · refine aw_aload_n K 0 dX12_jar_19 rfl ?_
      refine aw_bipush K dX12_jar_20 kb_14 ?_
      refine aw_iload_n K 1 dX12_jar_22 rfl ?_
      refine aw_iadd K dX12_jar_23 ?_
      refine aw_iload_n K 2 dX12_jar_24 rfl ?_
      refine aw_callVI K dX12_jar_25 vw_X12_131_12 (c_f_M_becomes l _ _) hg (by decide) ob_148 rfl (Nat.le_of_ble_eq_true rfl) rfl rfl (fun r6 σ5 _ => ?_)
      refine aw_goto K 32 dX12_jar_28 (by decide) ?_
      exact aw_iret dX12_jar_32
set_option maxRecDepth 100000 in
set_option maxHeartbeats 4000000 in
theorem c_f_M_fee (l : Launch) (x1 : Int32) : CTI l (1) yX12_fee cX12_fee 2 ((some .int)) (fun P => [rf P 148, .int x1]) (fun σ => f_M_fee x1 σ) := by
  refine met_I rfl rfl rfl (fun P => Nat.le_of_ble_eq_true rfl) (fun P G K hg σ => ?_)
  change AW P G 2 (EI P G cX12_fee) (f_M_fee x1 σ) σ 0 [(0, rf P 148), (1, .int x1)] []
  rw [f_M_fee]
  refine aw_iload_n K 1 dX12_fee_0 rfl ?_
  refine aw_i2l K dX12_fee_1 ?_
  refine aw_lconst K dX12_fee_2 kl_0 ?_
  refine aw_ldc2 K (x := (50 : Int64)) dX12_fee_3 (in_r16 _ (List.mem_of_getElem? (i := 17) rfl)) ?_
  refine aw_callSI K dX12_fee_6 vw_X12_68 (c_f_M_in l _ _ _) hg (by decide) rfl (Nat.le_of_ble_eq_true rfl) rfl rfl (fun r2 σ1 _ => ?_)
  refine aw_if_eq K 21 dX12_fee_9 (by decide) (fun h_1 => ?_) (fun h_1 => ?_)
  · refine aw_iconst K dX12_fee_21 ki_m1 ?_
    exact aw_iret dX12_fee_22
  · refine aw_aload_n K 0 dX12_fee_12 rfl ?_
    refine aw_iconst K dX12_fee_13 ki_2 ?_
    refine aw_iload_n K 1 dX12_fee_14 rfl ?_
    refine aw_callVI K dX12_fee_15 vw_X12_131_12 (c_f_M_becomes l _ _) hg (by decide) ob_148 rfl (Nat.le_of_ble_eq_true rfl) rfl rfl (fun r4 σ3 _ => ?_)
    refine aw_goto K 22 dX12_fee_18 (by decide) ?_
    exact aw_iret dX12_fee_22
set_option maxRecDepth 100000 in
set_option maxHeartbeats 4000000 in
theorem a_f_M_whoWith_5 (l : Launch) {P : PT} {G : GT} (K : CX P G cX12_whoWith RX12 (2) 5) (hg : gl G = l) : ∀ (n : Nat) (x1 : Int32) (x2 : Int32) (x3 : Int32) (x4 : Int32) (σ : SG), AW P G 5 (EI P G cX12_whoWith) (f_M_whoWith_5 n x1 x2 x3 x4 σ) σ 5 [(0, rf P 148), (1, .int x1), (2, .int x2), (3, .int x3), (4, .int x4)] [] := by
  intro n
  induction n with
  | zero =>
    intro x1 x2 x3 x4 σ
    rw [f_M_whoWith_5]
    exact aw_none
  | succ n ih =>
    intro x1 x2 x3 x4 σ
    rw [f_M_whoWith_5]
    refine aw_iload K 4 dX12_whoWith_5 rfl ?_
    refine aw_aload_n K 0 dX12_whoWith_7 rfl ?_
    refine aw_getR K (c' := 149) dX12_whoWith_8 lk_X12_7_12 fd_148_0 ?_
    refine aw_iconst K dX12_whoWith_11 ki_0 ?_
    refine aw_ald K dX12_whoWith_12 ad_149 (by decide) kn_0 ?_
    refine aw_icmp_ge K 44 dX12_whoWith_13 (by decide) (fun h_1 => ?_) (fun h_1 => ?_)
    · refine aw_iload_n K 3 dX12_whoWith_44 rfl ?_
      exact aw_iret dX12_whoWith_45
    · refine aw_iload_n K 3 dX12_whoWith_16 rfl ?_
      refine aw_aload_n K 0 dX12_whoWith_17 rfl ?_
      refine aw_iload K 4 dX12_whoWith_18 rfl ?_
      refine aw_iload_n K 1 dX12_whoWith_20 rfl ?_
      refine aw_callVI K dX12_whoWith_21 vw_X12_93_12 (c_f_M_its l _ _) hg (by decide) ob_148 rfl (Nat.le_of_ble_eq_true rfl) rfl rfl (fun r2 σ1 _ => ?_)
      refine aw_iload_n K 2 dX12_whoWith_24 rfl ?_
      refine aw_icmp_ne K 35 dX12_whoWith_25 (by decide) (fun h_2 => ?_) (fun h_2 => ?_)
      · refine aw_iconst K dX12_whoWith_35 ki_0 ?_
        refine aw_ior K dX12_whoWith_36 ?_
        refine aw_istoreX_n K (i := 3) (lv' := fun y3 => [(3, .int y3), (0, rf P 148), (1, .int x1), (2, .int x2), (4, .int x4)]) dX12_whoWith_37 rfl (Nat.le_of_ble_eq_true rfl) (fun _ => rfl) (fun y3 => ?_)
        refine aw_iinc K (lv' := fun y4 => [(4, .int y4), (3, .int y3), (0, rf P 148), (1, .int x1), (2, .int x2)]) 4 dX12_whoWith_38 rfl ki_1 (Nat.le_of_ble_eq_true rfl) (fun _ => rfl) (fun y4 => ?_)
        refine aw_goto K 5 dX12_whoWith_41 (by decide) ?_
        refine aw_lv [2, 3, 4, 1, 0] rfl ?_
        exact ih _ _ _ _ _
      · refine aw_iconst K dX12_whoWith_28 ki_1 ?_
        refine aw_iload K 4 dX12_whoWith_29 rfl ?_
        refine aw_ishl K dX12_whoWith_31 ?_
        refine aw_goto K 36 dX12_whoWith_32 (by decide) ?_
        refine aw_ior K dX12_whoWith_36 ?_
        refine aw_istoreX_n K (i := 3) (lv' := fun y5 => [(3, .int y5), (0, rf P 148), (1, .int x1), (2, .int x2), (4, .int x4)]) dX12_whoWith_37 rfl (Nat.le_of_ble_eq_true rfl) (fun _ => rfl) (fun y5 => ?_)
        refine aw_iinc K (lv' := fun y6 => [(4, .int y6), (3, .int y5), (0, rf P 148), (1, .int x1), (2, .int x2)]) 4 dX12_whoWith_38 rfl ki_1 (Nat.le_of_ble_eq_true rfl) (fun _ => rfl) (fun y6 => ?_)
        refine aw_goto K 5 dX12_whoWith_41 (by decide) ?_
        refine aw_lv [2, 3, 4, 1, 0] rfl ?_
        exact ih _ _ _ _ _
set_option maxRecDepth 100000 in
set_option maxHeartbeats 4000000 in
theorem c_f_M_whoWith (l : Launch) (x1 : Int32) (x2 : Int32) : CTI l (2) yX12_whoWith cX12_whoWith 5 ((some .int)) (fun P => [rf P 148, .int x1, .int x2]) (fun σ => f_M_whoWith x1 x2 σ) := by
  refine met_I rfl rfl rfl (fun P => Nat.le_of_ble_eq_true rfl) (fun P G K hg σ => ?_)
  change AW P G 5 (EI P G cX12_whoWith) (f_M_whoWith x1 x2 σ) σ 0 [(0, rf P 148), (1, .int x1), (2, .int x2)] []
  rw [f_M_whoWith]
  refine aw_iconst K dX12_whoWith_0 ki_0 ?_
  refine aw_istore_n K (i := 3) (lv' := [(3, .int (0 : Int32)), (0, rf P 148), (1, .int x1), (2, .int x2)]) dX12_whoWith_1 rfl (Nat.le_of_ble_eq_true rfl) rfl ?_
  refine aw_iconst K dX12_whoWith_2 ki_0 ?_
  refine aw_istore K (i := 4) (lv' := [(4, .int (0 : Int32)), (3, .int (0 : Int32)), (0, rf P 148), (1, .int x1), (2, .int x2)]) dX12_whoWith_3 (Nat.le_of_ble_eq_true rfl) rfl ?_
  refine aw_lv [2, 3, 4, 1, 0] rfl ?_
  exact (a_f_M_whoWith_5 l K hg FU) _ _ _ _ _
set_option maxRecDepth 100000 in
set_option maxHeartbeats 4000000 in
theorem c_f_M_thing (l : Launch) (x1 : Int32) (x2 : Int32) : CTI l (3) yX12_thing cX12_thing 3 ((some .int)) (fun P => [rf P 148, .int x1, .int x2]) (fun σ => f_M_thing x1 x2 σ) := by
  refine met_I rfl rfl rfl (fun P => Nat.le_of_ble_eq_true rfl) (fun P G K hg σ => ?_)
  change AW P G 3 (EI P G cX12_thing) (f_M_thing x1 x2 σ) σ 0 [(0, rf P 148), (1, .int x1), (2, .int x2)] []
  rw [f_M_thing]
  refine aw_iload_n K 1 dX12_thing_0 rfl ?_
  refine aw_callSI K dX12_thing_1 vw_X12_80 (c_f_M_isThing l _) hg (by decide) rfl (Nat.le_of_ble_eq_true rfl) rfl rfl (fun r2 σ1 _ => ?_)
  refine aw_if_ne K 9 dX12_thing_4 (by decide) (fun h_1 => ?_) (fun h_1 => ?_)
  · refine aw_iload_n K 2 dX12_thing_9 rfl ?_
    refine aw_ite (fun h_2 => ?_) (fun h_2 => ?_)
    · refine aw_tabIn K 40 (0) dX12_thing_10 (ti_of h_2 kt_0) (by decide) (by decide) rfl (by decide) ?_
      refine aw_aload_n K 0 dX12_thing_40 rfl ?_
      refine aw_getR K (c' := 149) dX12_thing_41 lk_X12_7_12 fd_148_0 ?_
      refine aw_bipush K dX12_thing_44 kb_6 ?_
      refine aw_iload_n K 1 dX12_thing_46 rfl ?_
      refine aw_iadd K dX12_thing_47 ?_
      refine aw_gd (fun h_3 => ?_)
      refine aw_ald K dX12_thing_48 ad_149 h_3 rfl ?_
      exact aw_iret dX12_thing_49
    refine aw_ite (fun h_4 => ?_) (fun h_4 => ?_)
    · refine aw_tabIn K 50 (1) dX12_thing_10 (ti_of h_4 kt_1) (by decide) (by decide) rfl (by decide) ?_
      refine aw_aload_n K 0 dX12_thing_50 rfl ?_
      refine aw_getR K (c' := 149) dX12_thing_51 lk_X12_7_12 fd_148_0 ?_
      refine aw_bipush K dX12_thing_54 kb_14 ?_
      refine aw_iload_n K 1 dX12_thing_56 rfl ?_
      refine aw_iadd K dX12_thing_57 ?_
      refine aw_gd (fun h_5 => ?_)
      refine aw_ald K dX12_thing_58 ad_149 h_5 rfl ?_
      exact aw_iret dX12_thing_59
    refine aw_ite (fun h_6 => ?_) (fun h_6 => ?_)
    · refine aw_tabIn K 60 (2) dX12_thing_10 (ti_of h_6 kt_2) (by decide) (by decide) rfl (by decide) ?_
      refine aw_aload_n K 0 dX12_thing_60 rfl ?_
      refine aw_iconst K dX12_thing_61 ki_1 ?_
      refine aw_iload_n K 1 dX12_thing_62 rfl ?_
      refine aw_callVI K dX12_thing_63 vw_X12_147_12 (c_f_M_whoWith l _ _) hg (by decide) ob_148 rfl (Nat.le_of_ble_eq_true rfl) rfl rfl (fun r4 σ3 _ => ?_)
      exact aw_iret dX12_thing_66
    refine aw_ite (fun h_7 => ?_) (fun h_7 => ?_)
    · refine aw_tabIn K 67 (3) dX12_thing_10 (ti_of h_7 kt_3) (by decide) (by decide) rfl (by decide) ?_
      refine aw_aload_n K 0 dX12_thing_67 rfl ?_
      refine aw_iconst K dX12_thing_68 ki_2 ?_
      refine aw_iload_n K 1 dX12_thing_69 rfl ?_
      refine aw_callVI K dX12_thing_70 vw_X12_147_12 (c_f_M_whoWith l _ _) hg (by decide) ob_148 rfl (Nat.le_of_ble_eq_true rfl) rfl rfl (fun r6 σ5 _ => ?_)
      exact aw_iret dX12_thing_73
    refine aw_tabOut K 74 dX12_thing_10 (by have := lv_neT h_2 kt_0; have := lv_neT h_4 kt_1; have := lv_neT h_6 kt_2; have := lv_neT h_7 kt_3; omega) (by decide) ?_
    refine aw_iconst K dX12_thing_74 ki_m1 ?_
    exact aw_iret dX12_thing_75
  · refine aw_iconst K dX12_thing_7 ki_m1 ?_
    exact aw_iret dX12_thing_8
set_option maxRecDepth 100000 in
set_option maxHeartbeats 4000000 in
theorem a_f_M_coinsAll_4 (l : Launch) {P : PT} {G : GT} (K : CX P G cX12_coinsAll RX12 (2) 3) (hg : gl G = l) : ∀ (n : Nat) (x1 : Int32) (x2 : Int32) (σ : SG), AW P G 3 (EI P G cX12_coinsAll) (f_M_coinsAll_4 n x1 x2 σ) σ 4 [(0, rf P 148), (1, .int x1), (2, .int x2)] [] := by
  intro n
  induction n with
  | zero =>
    intro x1 x2 σ
    rw [f_M_coinsAll_4]
    exact aw_none
  | succ n ih =>
    intro x1 x2 σ
    rw [f_M_coinsAll_4]
    refine aw_iload_n K 2 dX12_coinsAll_4 rfl ?_
    refine aw_aload_n K 0 dX12_coinsAll_5 rfl ?_
    refine aw_getR K (c' := 149) dX12_coinsAll_6 lk_X12_7_12 fd_148_0 ?_
    refine aw_iconst K dX12_coinsAll_9 ki_0 ?_
    refine aw_ald K dX12_coinsAll_10 ad_149 (by decide) kn_0 ?_
    refine aw_icmp_ge K 29 dX12_coinsAll_11 (by decide) (fun h_1 => ?_) (fun h_1 => ?_)
    · refine aw_iload_n K 1 dX12_coinsAll_29 rfl ?_
      exact aw_iret dX12_coinsAll_30
    · refine aw_iload_n K 1 dX12_coinsAll_14 rfl ?_
      refine aw_aload_n K 0 dX12_coinsAll_15 rfl ?_
      refine aw_iload_n K 2 dX12_coinsAll_16 rfl ?_
      refine aw_iconst K dX12_coinsAll_17 ki_3 ?_
      refine aw_callVI K dX12_coinsAll_18 vw_X12_93_12 (c_f_M_its l _ _) hg (by decide) ob_148 rfl (Nat.le_of_ble_eq_true rfl) rfl rfl (fun r2 σ1 _ => ?_)
      refine aw_iadd K dX12_coinsAll_21 ?_
      refine aw_istoreX_n K (i := 1) (lv' := fun y3 => [(1, .int y3), (0, rf P 148), (2, .int x2)]) dX12_coinsAll_22 rfl (Nat.le_of_ble_eq_true rfl) (fun _ => rfl) (fun y3 => ?_)
      refine aw_iinc K (lv' := fun y4 => [(2, .int y4), (1, .int y3), (0, rf P 148)]) 2 dX12_coinsAll_23 rfl ki_1 (Nat.le_of_ble_eq_true rfl) (fun _ => rfl) (fun y4 => ?_)
      refine aw_goto K 4 dX12_coinsAll_26 (by decide) ?_
      refine aw_lv [2, 1, 0] rfl ?_
      exact ih _ _ _
set_option maxRecDepth 100000 in
set_option maxHeartbeats 4000000 in
theorem c_f_M_coinsAll (l : Launch) : CTI l (2) yX12_coinsAll cX12_coinsAll 3 ((some .int)) (fun P => [rf P 148]) (fun σ => f_M_coinsAll σ) := by
  refine met_I rfl rfl rfl (fun P => Nat.le_of_ble_eq_true rfl) (fun P G K hg σ => ?_)
  change AW P G 3 (EI P G cX12_coinsAll) (f_M_coinsAll σ) σ 0 [(0, rf P 148)] []
  rw [f_M_coinsAll]
  refine aw_iconst K dX12_coinsAll_0 ki_0 ?_
  refine aw_istore_n K (i := 1) (lv' := [(1, .int (0 : Int32)), (0, rf P 148)]) dX12_coinsAll_1 rfl (Nat.le_of_ble_eq_true rfl) rfl ?_
  refine aw_iconst K dX12_coinsAll_2 ki_0 ?_
  refine aw_istore_n K (i := 2) (lv' := [(2, .int (0 : Int32)), (1, .int (0 : Int32)), (0, rf P 148)]) dX12_coinsAll_3 rfl (Nat.le_of_ble_eq_true rfl) rfl ?_
  refine aw_lv [2, 1, 0] rfl ?_
  exact (a_f_M_coinsAll_4 l K hg FU) _ _ _
set_option maxRecDepth 100000 in
set_option maxHeartbeats 4000000 in
theorem c_f_M_state (l : Launch) (x1 : Int32) : CTI l (4) yX12_state cX12_state 2 ((some .int)) (fun P => [rf P 148, .int x1]) (fun σ => f_M_state x1 σ) := by
  refine met_I rfl rfl rfl (fun P => Nat.le_of_ble_eq_true rfl) (fun P G K hg σ => ?_)
  change AW P G 2 (EI P G cX12_state) (f_M_state x1 σ) σ 0 [(0, rf P 148), (1, .int x1)] []
  rw [f_M_state]
  refine aw_iload_n K 1 dX12_state_0 rfl ?_
  refine aw_ite (fun h_1 => ?_) (fun h_1 => ?_)
  · refine aw_tabIn K 32 (0) dX12_state_1 (ti_of h_1 kt_0) (by decide) (by decide) rfl (by decide) ?_
    refine aw_aload_n K 0 dX12_state_32 rfl ?_
    refine aw_callVI K dX12_state_33 vw_X12_99_12 (c_f_M_wholeSet l) hg (by decide) ob_148 rfl (Nat.le_of_ble_eq_true rfl) rfl rfl (fun r2 σ1 _ => ?_)
    exact aw_iret dX12_state_36
  refine aw_ite (fun h_2 => ?_) (fun h_2 => ?_)
  · refine aw_tabIn K 37 (1) dX12_state_1 (ti_of h_2 kt_1) (by decide) (by decide) rfl (by decide) ?_
    refine aw_aload_n K 0 dX12_state_37 rfl ?_
    refine aw_callVI K dX12_state_38 vw_X12_150_12 (c_f_M_coinsAll l) hg (by decide) ob_148 rfl (Nat.le_of_ble_eq_true rfl) rfl rfl (fun r4 σ3 _ => ?_)
    exact aw_iret dX12_state_41
  refine aw_ite (fun h_3 => ?_) (fun h_3 => ?_)
  · refine aw_tabIn K 42 (2) dX12_state_1 (ti_of h_3 kt_2) (by decide) (by decide) rfl (by decide) ?_
    refine aw_aload_n K 0 dX12_state_42 rfl ?_
    refine aw_getR K (c' := 149) dX12_state_43 lk_X12_7_12 fd_148_0 ?_
    refine aw_iconst K dX12_state_46 ki_2 ?_
    refine aw_ald K dX12_state_47 ad_149 (by decide) kn_2 ?_
    exact aw_iret dX12_state_48
  refine aw_ite (fun h_4 => ?_) (fun h_4 => ?_)
  · refine aw_tabIn K 49 (3) dX12_state_1 (ti_of h_4 kt_3) (by decide) (by decide) rfl (by decide) ?_
    refine aw_aload_n K 0 dX12_state_49 rfl ?_
    refine aw_getR K (c' := 149) dX12_state_50 lk_X12_7_12 fd_148_0 ?_
    refine aw_iconst K dX12_state_53 ki_4 ?_
    refine aw_ald K dX12_state_54 ad_149 (by decide) kn_4 ?_
    exact aw_iret dX12_state_55
  refine aw_tabOut K 56 dX12_state_1 (by have := lv_neT h_1 kt_0; have := lv_neT h_2 kt_1; have := lv_neT h_3 kt_2; have := lv_neT h_4 kt_3; omega) (by decide) ?_
  refine aw_iconst K dX12_state_56 ki_m1 ?_
  exact aw_iret dX12_state_57
