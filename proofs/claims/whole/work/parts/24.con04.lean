set_option maxRecDepth 100000 in
set_option maxHeartbeats 4000000 in
theorem c_f_H_isSheet (l : Launch) (x0 : Int32) : CTI l (1) yX11_isSheet cX11_isSheet 1 ((some .boolean)) (fun P => [.int x0]) (fun σ => f_H_isSheet x0 σ) := by
  refine met_Z rfl rfl rfl (fun P => Nat.le_of_ble_eq_true rfl) (fun P G K hg σ => ?_)
  change AW P G 1 (EZ P G cX11_isSheet) (f_H_isSheet x0 σ) σ 0 [(0, .int x0)] []
  rw [f_H_isSheet]
  refine aw_iload_n K 0 dX11_isSheet_0 rfl ?_
  refine aw_iconst K dX11_isSheet_1 ki_0 ?_
  refine aw_iconst K dX11_isSheet_2 ki_3 ?_
  refine aw_callSI K dX11_isSheet_3 vw_X11_72 (c_f_H_isIn l _ _ _) hg (by decide) rfl (Nat.le_of_ble_eq_true rfl) rfl rfl (fun r2 σ1 _ => ?_)
  refine aw_gd (fun h_1 => ?_)
  exact aw_zret dX11_isSheet_6 h_1
set_option maxRecDepth 100000 in
set_option maxHeartbeats 4000000 in
theorem a_f_H_sheet_28 (l : Launch) {P : PT} {G : GT} (K : CX P G cX11_sheet RX11 (2) 5) (hg : gl G = l) : ∀ (x1 : Int32) (x2 : Int32) (xs0 : Int32) (σ : SG), AW P G 5 (EI P G cX11_sheet) (f_H_sheet_28 x1 x2 xs0 σ) σ 28 [(0, rf P 0), (1, .int x1), (2, .int x2)] [.int xs0] := by
  intro x1 x2 xs0 σ
  rw [f_H_sheet_28]
  refine aw_istore K (i := 4) (lv' := [(4, .int xs0), (0, rf P 0), (1, .int x1), (2, .int x2)]) dX11_sheet_28 (Nat.le_of_ble_eq_true rfl) rfl ?_
  refine aw_iload K 0 dX11_sheet_30 rfl ?_
  refine aw_bipush K dX11_sheet_32 kb_40 ?_
  refine aw_icmp_le K 39 dX11_sheet_34 (by decide) (fun h_1 => ?_) (fun h_1 => ?_)
  · refine aw_iload K 0 dX11_sheet_39 rfl ?_
    refine aw_if_ge K 47 dX11_sheet_41 (by decide) (fun h_2 => ?_) (fun h_2 => ?_)
    · refine aw_aload_n K 1 dX11_sheet_47 rfl ?_
      refine aw_getR K (c' := 1) dX11_sheet_48 lk_X11_10_11 fd_0_0 ?_
      refine aw_getR K (c' := 2) dX11_sheet_51 lk_X11_237_1 fd_1_0 ?_
      refine aw_iload_n K 2 dX11_sheet_54 rfl ?_
      refine aw_iload_n K 3 dX11_sheet_55 rfl ?_
      refine aw_gd (fun h_3 => ?_)
      refine aw_ast K dX11_sheet_56 ad_2 h_3 rfl (fun σ1 => ?_)
      refine aw_aload_n K 1 dX11_sheet_57 rfl ?_
      refine aw_getR K (c' := 1) dX11_sheet_58 lk_X11_10_11 fd_0_0 ?_
      refine aw_getR K (c' := 3) dX11_sheet_61 lk_X11_240_1 fd_1_1 ?_
      refine aw_iload_n K 2 dX11_sheet_64 rfl ?_
      refine aw_iload K 0 dX11_sheet_65 rfl ?_
      refine aw_gd (fun h_4 => ?_)
      refine aw_ast K dX11_sheet_67 ad_3 h_4 rfl (fun σ2 => ?_)
      refine aw_aload_n K 1 dX11_sheet_68 rfl ?_
      refine aw_getR K (c' := 1) dX11_sheet_69 lk_X11_10_11 fd_0_0 ?_
      refine aw_getR K (c' := 4) dX11_sheet_72 lk_X11_242_1 fd_1_2 ?_
      refine aw_iload_n K 2 dX11_sheet_75 rfl ?_
      refine aw_gd (fun h_5 => ?_)
      refine aw_aald K dX11_sheet_76 rw_4.1 h_5 rfl ?_
      refine aw_iconst K dX11_sheet_77 ki_0 ?_
      refine aw_fill K dX11_sheet_78 l_X11_245 hg (by decide) (Nat.le_of_ble_eq_true rfl) (rw_4.2 _ (ix_lt h_5)) (fun σ3 => ?_)
      refine aw_iconst K dX11_sheet_81 ki_1 ?_
      exact aw_iret dX11_sheet_82
    · refine aw_bipush K dX11_sheet_44 kb_m14 ?_
      exact aw_iret dX11_sheet_46
  · refine aw_iconst K dX11_sheet_37 ki_m1 ?_
    exact aw_iret dX11_sheet_38
set_option maxRecDepth 100000 in
set_option maxHeartbeats 4000000 in
theorem c_f_H_sheet (l : Launch) (x1 : Int32) (x2 : Int32) (x3 : Int32) : CTI l (2) yX11_sheet cX11_sheet 5 ((some .int)) (fun P => [rf P 0, .int x1, .int x2, .int x3]) (fun σ => f_H_sheet x1 x2 x3 σ) := by
  refine met_I rfl rfl rfl (fun P => Nat.le_of_ble_eq_true rfl) (fun P G K hg σ => ?_)
  change AW P G 5 (EI P G cX11_sheet) (f_H_sheet x1 x2 x3 σ) σ 0 [(0, rf P 0), (1, .int x1), (2, .int x2), (3, .int x3)] []
  rw [f_H_sheet]
  refine aw_iload_n K 1 dX11_sheet_0 rfl ?_
  refine aw_callSI K dX11_sheet_1 vw_X11_234 (c_f_H_isSheet l _) hg (by decide) rfl (Nat.le_of_ble_eq_true rfl) rfl rfl (fun r2 σ1 _ => ?_)
  refine aw_if_eq K 16 dX11_sheet_4 (by decide) (fun h_1 => ?_) (fun h_1 => ?_)
  · refine aw_iconst K dX11_sheet_16 ki_m1 ?_
    exact aw_iret dX11_sheet_17
  · refine aw_iload_n K 2 dX11_sheet_7 rfl ?_
    refine aw_iconst K dX11_sheet_8 ki_m1 ?_
    refine aw_iconst K dX11_sheet_9 ki_4 ?_
    refine aw_callSI K dX11_sheet_10 vw_X11_72 (c_f_H_isIn l _ _ _) hg (by decide) rfl (Nat.le_of_ble_eq_true rfl) rfl rfl (fun r4 σ3 _ => ?_)
    refine aw_if_ne K 18 dX11_sheet_13 (by decide) (fun h_2 => ?_) (fun h_2 => ?_)
    · refine aw_iload_n K 2 dX11_sheet_18 rfl ?_
      refine aw_iconst K dX11_sheet_19 ki_m1 ?_
      refine aw_icmp_ne K 27 dX11_sheet_20 (by decide) (fun h_3 => ?_) (fun h_3 => ?_)
      · refine aw_iload_n K 3 dX11_sheet_27 rfl ?_
        refine aw_lv [0, 1, 2] rfl ?_
        exact (a_f_H_sheet_28 l K hg) _ _ _ _
      · refine aw_iconst K dX11_sheet_23 ki_0 ?_
        refine aw_goto K 28 dX11_sheet_24 (by decide) ?_
        refine aw_lv [0, 1, 2] rfl ?_
        exact (a_f_H_sheet_28 l K hg) _ _ _ _
    · refine aw_iconst K dX11_sheet_16 ki_m1 ?_
      exact aw_iret dX11_sheet_17
set_option maxRecDepth 100000 in
set_option maxHeartbeats 4000000 in
theorem c_f_Ho_isPlace (l : Launch) (x1 : Int32) (x2 : Int32) : CTI l (0) yX1_isPlace cX1_isPlace 3 ((some .boolean)) (fun P => [rf P 1, .int x1, .int x2]) (fun σ => f_Ho_isPlace x1 x2 σ) := by
  refine met_Z rfl rfl rfl (fun P => Nat.le_of_ble_eq_true rfl) (fun P G K hg σ => ?_)
  change AW P G 3 (EZ P G cX1_isPlace) (f_Ho_isPlace x1 x2 σ) σ 0 [(0, rf P 1), (1, .int x1), (2, .int x2)] []
  rw [f_Ho_isPlace]
  refine aw_iload_n K 2 dX1_isPlace_0 rfl ?_
  refine aw_if_lt K 18 dX1_isPlace_1 (by decide) (fun h_1 => ?_) (fun h_1 => ?_)
  · refine aw_iconst K dX1_isPlace_18 ki_0 ?_
    exact aw_zret dX1_isPlace_19 (by decide)
  · refine aw_iload_n K 2 dX1_isPlace_4 rfl ?_
    refine aw_aload_n K 0 dX1_isPlace_5 rfl ?_
    refine aw_getR K (c' := 3) dX1_isPlace_6 lk_X1_15_1 fd_1_1 ?_
    refine aw_iload_n K 1 dX1_isPlace_9 rfl ?_
    refine aw_gd (fun h_2 => ?_)
    refine aw_ald K dX1_isPlace_10 ad_3 h_2 rfl ?_
    refine aw_icmp_ge K 18 dX1_isPlace_11 (by decide) (fun h_3 => ?_) (fun h_3 => ?_)
    · refine aw_iconst K dX1_isPlace_18 ki_0 ?_
      exact aw_zret dX1_isPlace_19 (by decide)
    · refine aw_iconst K dX1_isPlace_14 ki_1 ?_
      refine aw_goto K 19 dX1_isPlace_15 (by decide) ?_
      exact aw_zret dX1_isPlace_19 (by decide)
set_option maxRecDepth 100000 in
set_option maxHeartbeats 4000000 in
theorem c_f_Ho_narrowed (l : Launch) (x1 : Int32) (x2 : Int32) : CTI l (0) yX1_narrowed cX1_narrowed 3 ((some .int)) (fun P => [rf P 1, .int x1, .int x2]) (fun σ => f_Ho_narrowed x1 x2 σ) := by
  refine met_I rfl rfl rfl (fun P => Nat.le_of_ble_eq_true rfl) (fun P G K hg σ => ?_)
  change AW P G 3 (EI P G cX1_narrowed) (f_Ho_narrowed x1 x2 σ) σ 0 [(0, rf P 1), (1, .int x1), (2, .int x2)] []
  rw [f_Ho_narrowed]
  refine aw_iload_n K 1 dX1_narrowed_0 rfl ?_
  refine aw_ite (fun h_1 => ?_) (fun h_1 => ?_)
  · refine aw_tabIn K 36 (0) dX1_narrowed_1 (ti_of h_1 kt_0) (by decide) (by decide) rfl (by decide) ?_
    refine aw_iload_n K 2 dX1_narrowed_36 rfl ?_
    refine aw_i2b K dX1_narrowed_37 ?_
    exact aw_iret dX1_narrowed_38
  refine aw_ite (fun h_2 => ?_) (fun h_2 => ?_)
  · refine aw_tabIn K 39 (1) dX1_narrowed_1 (ti_of h_2 kt_1) (by decide) (by decide) rfl (by decide) ?_
    refine aw_iload_n K 2 dX1_narrowed_39 rfl ?_
    refine aw_i2s K dX1_narrowed_40 ?_
    exact aw_iret dX1_narrowed_41
  refine aw_ite (fun h_3 => ?_) (fun h_3 => ?_)
  · refine aw_tabIn K 52 (2) dX1_narrowed_1 (ti_of h_3 kt_2) (by decide) (by decide) rfl (by decide) ?_
    refine aw_iload_n K 2 dX1_narrowed_52 rfl ?_
    exact aw_iret dX1_narrowed_53
  refine aw_ite (fun h_4 => ?_) (fun h_4 => ?_)
  · refine aw_tabIn K 52 (3) dX1_narrowed_1 (ti_of h_4 kt_3) (by decide) (by decide) rfl (by decide) ?_
    refine aw_iload_n K 2 dX1_narrowed_52 rfl ?_
    exact aw_iret dX1_narrowed_53
  refine aw_ite (fun h_5 => ?_) (fun h_5 => ?_)
  · refine aw_tabIn K 42 (4) dX1_narrowed_1 (ti_of h_5 kt_4) (by decide) (by decide) rfl (by decide) ?_
    refine aw_iload_n K 2 dX1_narrowed_42 rfl ?_
    refine aw_if_eq K 50 dX1_narrowed_43 (by decide) (fun h_6 => ?_) (fun h_6 => ?_)
    · refine aw_iconst K dX1_narrowed_50 ki_0 ?_
      exact aw_iret dX1_narrowed_51
    · refine aw_iconst K dX1_narrowed_46 ki_1 ?_
      refine aw_goto K 51 dX1_narrowed_47 (by decide) ?_
      exact aw_iret dX1_narrowed_51
  refine aw_tabOut K 52 dX1_narrowed_1 (by have := lv_neT h_1 kt_0; have := lv_neT h_2 kt_1; have := lv_neT h_3 kt_2; have := lv_neT h_4 kt_3; have := lv_neT h_5 kt_4; omega) (by decide) ?_
  refine aw_iload_n K 2 dX1_narrowed_52 rfl ?_
  exact aw_iret dX1_narrowed_53
set_option maxRecDepth 100000 in
set_option maxHeartbeats 4000000 in
theorem c_f_H_write (l : Launch) (x1 : Int32) (x2 : Int32) (x3 : Int32) : CTI l (2) yX11_write cX11_write 4 ((some .int)) (fun P => [rf P 0, .int x1, .int x2, .int x3]) (fun σ => f_H_write x1 x2 x3 σ) := by
  refine met_I rfl rfl rfl (fun P => Nat.le_of_ble_eq_true rfl) (fun P G K hg σ => ?_)
  change AW P G 4 (EI P G cX11_write) (f_H_write x1 x2 x3 σ) σ 0 [(0, rf P 0), (1, .int x1), (2, .int x2), (3, .int x3)] []
  rw [f_H_write]
  refine aw_iload_n K 1 dX11_write_0 rfl ?_
  refine aw_callSI K dX11_write_1 vw_X11_234 (c_f_H_isSheet l _) hg (by decide) rfl (Nat.le_of_ble_eq_true rfl) rfl rfl (fun r2 σ1 _ => ?_)
  refine aw_if_ne K 9 dX11_write_4 (by decide) (fun h_1 => ?_) (fun h_1 => ?_)
  · refine aw_aload_n K 0 dX11_write_9 rfl ?_
    refine aw_getR K (c' := 1) dX11_write_10 lk_X11_10_11 fd_0_0 ?_
    refine aw_getR K (c' := 2) dX11_write_13 lk_X11_237_1 fd_1_0 ?_
    refine aw_iload_n K 1 dX11_write_16 rfl ?_
    refine aw_gd (fun h_2 => ?_)
    refine aw_ald K dX11_write_17 ad_2 h_2 rfl ?_
    refine aw_iconst K dX11_write_18 ki_m1 ?_
    refine aw_icmp_ne K 25 dX11_write_19 (by decide) (fun h_3 => ?_) (fun h_3 => ?_)
    · refine aw_aload_n K 0 dX11_write_25 rfl ?_
      refine aw_getR K (c' := 1) dX11_write_26 lk_X11_10_11 fd_0_0 ?_
      refine aw_iload_n K 1 dX11_write_29 rfl ?_
      refine aw_iload_n K 2 dX11_write_30 rfl ?_
      refine aw_callVI K dX11_write_31 vw_X11_251_1 (c_f_Ho_isPlace l _ _) hg (by decide) ob_1 rfl (Nat.le_of_ble_eq_true rfl) rfl rfl (fun r4 σ3 _ => ?_)
      refine aw_if_ne K 40 dX11_write_34 (by decide) (fun h_4 => ?_) (fun h_4 => ?_)
      · refine aw_aload_n K 0 dX11_write_40 rfl ?_
        refine aw_getR K (c' := 1) dX11_write_41 lk_X11_10_11 fd_0_0 ?_
        refine aw_getR K (c' := 4) dX11_write_44 lk_X11_242_1 fd_1_2 ?_
        refine aw_iload_n K 1 dX11_write_47 rfl ?_
        refine aw_gd (fun h_5 => ?_)
        refine aw_aald K dX11_write_48 rw_4.1 h_5 rfl ?_
        refine aw_iload_n K 2 dX11_write_49 rfl ?_
        refine aw_aload_n K 0 dX11_write_50 rfl ?_
        refine aw_getR K (c' := 1) dX11_write_51 lk_X11_10_11 fd_0_0 ?_
        refine aw_aload_n K 0 dX11_write_54 rfl ?_
        refine aw_getR K (c' := 1) dX11_write_55 lk_X11_10_11 fd_0_0 ?_
        refine aw_getR K (c' := 2) dX11_write_58 lk_X11_237_1 fd_1_0 ?_
        refine aw_iload_n K 1 dX11_write_61 rfl ?_
        refine aw_gd (fun h_6 => ?_)
        refine aw_ald K dX11_write_62 ad_2 h_6 rfl ?_
        refine aw_iload_n K 3 dX11_write_63 rfl ?_
        refine aw_callVI K dX11_write_64 vw_X11_255_1 (c_f_Ho_narrowed l _ _) hg (by decide) ob_1 rfl (Nat.le_of_ble_eq_true rfl) rfl rfl (fun r6 σ5 _ => ?_)
        refine aw_gd (fun h_7 => ?_)
        refine aw_ast K dX11_write_67 (rw_4.2 _ (ix_lt h_5)) h_7 rfl (fun σ7 => ?_)
        refine aw_iconst K dX11_write_68 ki_1 ?_
        exact aw_iret dX11_write_69
      · refine aw_bipush K dX11_write_37 kb_m12 ?_
        exact aw_iret dX11_write_39
    · refine aw_bipush K dX11_write_22 kb_m11 ?_
      exact aw_iret dX11_write_24
  · refine aw_iconst K dX11_write_7 ki_m1 ?_
    exact aw_iret dX11_write_8
set_option maxRecDepth 100000 in
set_option maxHeartbeats 4000000 in
theorem c_f_Ho_refusal (l : Launch) (x1 : Int32) (x2 : Int32) : CTI l (0) yX1_refusal cX1_refusal 3 ((some .int)) (fun P => [rf P 1, .int x1, .int x2]) (fun σ => f_Ho_refusal x1 x2 σ) := by
  refine met_I rfl rfl rfl (fun P => Nat.le_of_ble_eq_true rfl) (fun P G K hg σ => ?_)
  change AW P G 3 (EI P G cX1_refusal) (f_Ho_refusal x1 x2 σ) σ 0 [(0, rf P 1), (1, .int x1), (2, .int x2)] []
  rw [f_Ho_refusal]
  refine aw_aload_n K 0 dX1_refusal_0 rfl ?_
  refine aw_getR K (c' := 2) dX1_refusal_1 lk_X1_11_1 fd_1_0 ?_
  refine aw_iload_n K 1 dX1_refusal_4 rfl ?_
  refine aw_gd (fun h_1 => ?_)
  refine aw_ald K dX1_refusal_5 ad_2 h_1 rfl ?_
  refine aw_iconst K dX1_refusal_6 ki_m1 ?_
  refine aw_icmp_ne K 13 dX1_refusal_7 (by decide) (fun h_2 => ?_) (fun h_2 => ?_)
  · refine aw_aload_n K 0 dX1_refusal_13 rfl ?_
    refine aw_getR K (c' := 2) dX1_refusal_14 lk_X1_11_1 fd_1_0 ?_
    refine aw_iload_n K 1 dX1_refusal_17 rfl ?_
    refine aw_gd (fun h_3 => ?_)
    refine aw_ald K dX1_refusal_18 ad_2 h_3 rfl ?_
    refine aw_iload_n K 2 dX1_refusal_19 rfl ?_
    refine aw_icmp_ne K 27 dX1_refusal_20 (by decide) (fun h_4 => ?_) (fun h_4 => ?_)
    · refine aw_bipush K dX1_refusal_27 kb_m13 ?_
      exact aw_iret dX1_refusal_29
    · refine aw_iconst K dX1_refusal_23 ki_0 ?_
      refine aw_goto K 29 dX1_refusal_24 (by decide) ?_
      exact aw_iret dX1_refusal_29
  · refine aw_bipush K dX1_refusal_10 kb_m11 ?_
    exact aw_iret dX1_refusal_12
set_option maxRecDepth 100000 in
set_option maxHeartbeats 4000000 in
theorem c_f_H_item (l : Launch) (x1 : Int32) (x2 : Int32) (x3 : Int32) : CTI l (2) yX11_item cX11_item 5 ((some .int)) (fun P => [rf P 0, .int x1, .int x2, .int x3]) (fun σ => f_H_item x1 x2 x3 σ) := by
  refine met_I rfl rfl rfl (fun P => Nat.le_of_ble_eq_true rfl) (fun P G K hg σ => ?_)
  change AW P G 5 (EI P G cX11_item) (f_H_item x1 x2 x3 σ) σ 0 [(0, rf P 0), (1, .int x1), (2, .int x2), (3, .int x3)] []
  rw [f_H_item]
  refine aw_iload_n K 1 dX11_item_0 rfl ?_
  refine aw_callSI K dX11_item_1 vw_X11_234 (c_f_H_isSheet l _) hg (by decide) rfl (Nat.le_of_ble_eq_true rfl) rfl rfl (fun r2 σ1 _ => ?_)
  refine aw_if_eq K 16 dX11_item_4 (by decide) (fun h_1 => ?_) (fun h_1 => ?_)
  · refine aw_iconst K dX11_item_16 ki_m1 ?_
    exact aw_iret dX11_item_17
  · refine aw_iload_n K 2 dX11_item_7 rfl ?_
    refine aw_iconst K dX11_item_8 ki_0 ?_
    refine aw_iconst K dX11_item_9 ki_4 ?_
    refine aw_callSI K dX11_item_10 vw_X11_72 (c_f_H_isIn l _ _ _) hg (by decide) rfl (Nat.le_of_ble_eq_true rfl) rfl rfl (fun r4 σ3 _ => ?_)
    refine aw_if_ne K 18 dX11_item_13 (by decide) (fun h_2 => ?_) (fun h_2 => ?_)
    · refine aw_aload_n K 0 dX11_item_18 rfl ?_
      refine aw_getR K (c' := 1) dX11_item_19 lk_X11_10_11 fd_0_0 ?_
      refine aw_iload_n K 1 dX11_item_22 rfl ?_
      refine aw_iload_n K 2 dX11_item_23 rfl ?_
      refine aw_callVI K dX11_item_24 vw_X11_259_1 (c_f_Ho_refusal l _ _) hg (by decide) ob_1 rfl (Nat.le_of_ble_eq_true rfl) rfl rfl (fun r6 σ5 _ => ?_)
      refine aw_istore K (i := 4) (lv' := [(4, .int r6), (0, rf P 0), (1, .int x1), (2, .int x2), (3, .int x3)]) dX11_item_27 (Nat.le_of_ble_eq_true rfl) rfl ?_
      refine aw_iload K 0 dX11_item_29 rfl ?_
      refine aw_if_eq K 37 dX11_item_31 (by decide) (fun h_3 => ?_) (fun h_3 => ?_)
      · refine aw_aload_n K 1 dX11_item_37 rfl ?_
        refine aw_getR K (c' := 1) dX11_item_38 lk_X11_10_11 fd_0_0 ?_
        refine aw_iload_n K 2 dX11_item_41 rfl ?_
        refine aw_iload_n K 4 dX11_item_42 rfl ?_
        refine aw_callVI K dX11_item_43 vw_X11_251_1 (c_f_Ho_isPlace l _ _) hg (by decide) ob_1 rfl (Nat.le_of_ble_eq_true rfl) rfl rfl (fun r8 σ7 _ => ?_)
        refine aw_if_eq K 63 dX11_item_46 (by decide) (fun h_4 => ?_) (fun h_4 => ?_)
        · refine aw_bipush K dX11_item_63 kb_m12 ?_
          exact aw_iret dX11_item_65
        · refine aw_aload_n K 1 dX11_item_49 rfl ?_
          refine aw_getR K (c' := 1) dX11_item_50 lk_X11_10_11 fd_0_0 ?_
          refine aw_getR K (c' := 4) dX11_item_53 lk_X11_242_1 fd_1_2 ?_
          refine aw_iload_n K 2 dX11_item_56 rfl ?_
          refine aw_gd (fun h_5 => ?_)
          refine aw_aald K dX11_item_57 rw_4.1 h_5 rfl ?_
          refine aw_iload_n K 4 dX11_item_58 rfl ?_
          refine aw_gd (fun h_6 => ?_)
          refine aw_ald K dX11_item_59 (rw_4.2 _ (ix_lt h_5)) h_6 rfl ?_
          refine aw_goto K 65 dX11_item_60 (by decide) ?_
          exact aw_iret dX11_item_65
      · refine aw_iload K 0 dX11_item_34 rfl ?_
        exact aw_iret dX11_item_36
    · refine aw_iconst K dX11_item_16 ki_m1 ?_
      exact aw_iret dX11_item_17
set_option maxRecDepth 100000 in
set_option maxHeartbeats 4000000 in
theorem a_f_H_makeAll_44 (l : Launch) {P : PT} {G : GT} (K : CX P G cX11_makeAll RX11 (5) 8) (hg : gl G = l) : ∀ (n : Nat) (x1 : Int32) (x2 : Int32) (x3 : Int32) (x5 : Int32) (x6 : Int32) (σ : SG), AW P G 8 (EI P G cX11_makeAll) (f_H_makeAll_44 n x1 x2 x3 x5 x6 σ) σ 44 [(0, rf P 0), (1, .int x1), (2, .int x2), (3, .int x3), (5, .int x5), (6, .int x6)] [] := by
  intro n
  induction n with
  | zero =>
    intro x1 x2 x3 x5 x6 σ
    rw [f_H_makeAll_44]
    exact aw_none
  | succ n ih =>
    intro x1 x2 x3 x5 x6 σ
    rw [f_H_makeAll_44]
    refine aw_iload K 5 dX11_makeAll_44 rfl ?_
    refine aw_iload_n K 3 dX11_makeAll_46 rfl ?_
    refine aw_icmp_ge K 115 dX11_makeAll_47 (by decide) (fun h_1 => ?_) (fun h_1 => ?_)
    · refine aw_iload K 4 dX11_makeAll_115 rfl ?_
      exact aw_iret dX11_makeAll_117
    · refine aw_aload_n K 0 dX11_makeAll_50 rfl ?_
      refine aw_getR K (c' := 1) dX11_makeAll_51 lk_X11_10_11 fd_0_0 ?_
      refine aw_iload_n K 1 dX11_makeAll_54 rfl ?_
      refine aw_iload_n K 2 dX11_makeAll_55 rfl ?_
      refine aw_iload K 5 dX11_makeAll_56 rfl ?_
      refine aw_iadd K dX11_makeAll_58 ?_
      refine aw_callVI K dX11_makeAll_59 vw_X11_251_1 (c_f_Ho_isPlace l _ _) hg (by decide) ob_1 rfl (Nat.le_of_ble_eq_true rfl) rfl rfl (fun r2 σ1 _ => ?_)
      refine aw_if_ne K 68 dX11_makeAll_62 (by decide) (fun h_2 => ?_) (fun h_2 => ?_)
      · refine aw_aload_n K 0 dX11_makeAll_68 rfl ?_
        refine aw_getR K (c' := 1) dX11_makeAll_69 lk_X11_10_11 fd_0_0 ?_
        refine aw_getR K (c' := 4) dX11_makeAll_72 lk_X11_242_1 fd_1_2 ?_
        refine aw_iload_n K 1 dX11_makeAll_75 rfl ?_
        refine aw_gd (fun h_3 => ?_)
        refine aw_aald K dX11_makeAll_76 rw_4.1 h_3 rfl ?_
        refine aw_iload_n K 2 dX11_makeAll_77 rfl ?_
        refine aw_iload K 5 dX11_makeAll_78 rfl ?_
        refine aw_iadd K dX11_makeAll_80 ?_
        refine aw_gd (fun h_4 => ?_)
        refine aw_ald K dX11_makeAll_81 (rw_4.2 _ (ix_lt h_3)) h_4 rfl ?_
        refine aw_istoreX K (i := 7) (lv' := fun y3 => [(7, .int y3), (0, rf P 0), (1, .int x1), (2, .int x2), (3, .int x3), (5, .int x5), (6, .int x6)]) dX11_makeAll_82 (Nat.le_of_ble_eq_true rfl) (fun _ => rfl) (fun y3 => ?_)
        refine aw_aload_n K 1 dX11_makeAll_84 rfl ?_
        refine aw_getR K (c' := 20) dX11_makeAll_85 lk_X11_41_11 fd_0_1 ?_
        refine aw_iload K 0 dX11_makeAll_88 rfl ?_
        refine aw_callVI K dX11_makeAll_90 vw_X11_162_9 (c_f_To_canBe l 20 TW.a _) hg (by decide) ob_20 rfl (Nat.le_of_ble_eq_true rfl) rfl rfl (fun r5 σ4 _ => ?_)
        refine aw_if_eq K 109 dX11_makeAll_93 (by decide) (fun h_5 => ?_) (fun h_5 => ?_)
        · refine aw_iinc K (lv' := fun y6 => [(6, .int y6), (7, .int y3), (0, rf P 0), (1, .int x1), (2, .int x2), (3, .int x3), (5, .int x5)]) 6 dX11_makeAll_109 rfl ki_1 (Nat.le_of_ble_eq_true rfl) (fun _ => rfl) (fun y6 => ?_)
          refine aw_goto K 44 dX11_makeAll_112 (by decide) ?_
          refine aw_lv [2, 3, 4, 5, 6, 0] rfl ?_
          exact ih _ _ _ _ _ _
        · refine aw_aload_n K 1 dX11_makeAll_96 rfl ?_
          refine aw_getR K (c' := 20) dX11_makeAll_97 lk_X11_41_11 fd_0_1 ?_
          refine aw_iload K 0 dX11_makeAll_100 rfl ?_
          refine aw_callVI K dX11_makeAll_102 vw_X11_165_9 (c_f_To_enter l 20 TW.a _) hg (by decide) ob_20 rfl (Nat.le_of_ble_eq_true rfl) rfl rfl (fun r8 σ7 _ => ?_)
          refine aw_pop K dX11_makeAll_105 rfl ?_
          refine aw_iinc K (lv' := fun y9 => [(5, .int y9), (7, .int y3), (0, rf P 0), (1, .int x1), (2, .int x2), (3, .int x3), (6, .int x6)]) 5 dX11_makeAll_106 rfl ki_1 (Nat.le_of_ble_eq_true rfl) (fun _ => rfl) (fun y9 => ?_)
          refine aw_iinc K (lv' := fun y10 => [(6, .int y10), (5, .int y9), (7, .int y3), (0, rf P 0), (1, .int x1), (2, .int x2), (3, .int x3)]) 6 dX11_makeAll_109 rfl ki_1 (Nat.le_of_ble_eq_true rfl) (fun _ => rfl) (fun y10 => ?_)
          refine aw_goto K 44 dX11_makeAll_112 (by decide) ?_
          refine aw_lv [3, 4, 5, 6, 1, 0] rfl ?_
          exact ih _ _ _ _ _ _
      · refine aw_bipush K dX11_makeAll_65 kb_m12 ?_
        exact aw_iret dX11_makeAll_67
set_option maxRecDepth 100000 in
set_option maxHeartbeats 4000000 in
theorem c_f_H_makeAll (l : Launch) (x1 : Int32) (x2 : Int32) (x3 : Int32) : CTI l (5) yX11_makeAll cX11_makeAll 8 ((some .int)) (fun P => [rf P 0, .int x1, .int x2, .int x3]) (fun σ => f_H_makeAll x1 x2 x3 σ) := by
  refine met_I rfl rfl rfl (fun P => Nat.le_of_ble_eq_true rfl) (fun P G K hg σ => ?_)
  change AW P G 8 (EI P G cX11_makeAll) (f_H_makeAll x1 x2 x3 σ) σ 0 [(0, rf P 0), (1, .int x1), (2, .int x2), (3, .int x3)] []
  rw [f_H_makeAll]
  refine aw_iload_n K 1 dX11_makeAll_0 rfl ?_
  refine aw_callSI K dX11_makeAll_1 vw_X11_234 (c_f_H_isSheet l _) hg (by decide) rfl (Nat.le_of_ble_eq_true rfl) rfl rfl (fun r2 σ1 _ => ?_)
  refine aw_if_eq K 17 dX11_makeAll_4 (by decide) (fun h_1 => ?_) (fun h_1 => ?_)
  · refine aw_iconst K dX11_makeAll_17 ki_m1 ?_
    exact aw_iret dX11_makeAll_18
  · refine aw_iload_n K 3 dX11_makeAll_7 rfl ?_
    refine aw_iconst K dX11_makeAll_8 ki_0 ?_
    refine aw_bipush K dX11_makeAll_9 kb_20 ?_
    refine aw_callSI K dX11_makeAll_11 vw_X11_72 (c_f_H_isIn l _ _ _) hg (by decide) rfl (Nat.le_of_ble_eq_true rfl) rfl rfl (fun r4 σ3 _ => ?_)
    refine aw_if_ne K 19 dX11_makeAll_14 (by decide) (fun h_2 => ?_) (fun h_2 => ?_)
    · refine aw_aload_n K 0 dX11_makeAll_19 rfl ?_
      refine aw_getR K (c' := 1) dX11_makeAll_20 lk_X11_10_11 fd_0_0 ?_
      refine aw_iload_n K 1 dX11_makeAll_23 rfl ?_
      refine aw_iconst K dX11_makeAll_24 ki_0 ?_
      refine aw_callVI K dX11_makeAll_25 vw_X11_259_1 (c_f_Ho_refusal l _ _) hg (by decide) ob_1 rfl (Nat.le_of_ble_eq_true rfl) rfl rfl (fun r6 σ5 _ => ?_)
      refine aw_istore K (i := 4) (lv' := [(4, .int r6), (0, rf P 0), (1, .int x1), (2, .int x2), (3, .int x3)]) dX11_makeAll_28 (Nat.le_of_ble_eq_true rfl) rfl ?_
      refine aw_iload K 0 dX11_makeAll_30 rfl ?_
      refine aw_if_eq K 38 dX11_makeAll_32 (by decide) (fun h_3 => ?_) (fun h_3 => ?_)
      · refine aw_iconst K dX11_makeAll_38 ki_0 ?_
        refine aw_istore K (i := 5) (lv' := [(5, .int (0 : Int32)), (4, .int r6), (0, rf P 0), (1, .int x1), (2, .int x2), (3, .int x3)]) dX11_makeAll_39 (Nat.le_of_ble_eq_true rfl) rfl ?_
        refine aw_iconst K dX11_makeAll_41 ki_0 ?_
        refine aw_istore K (i := 6) (lv' := [(6, .int (0 : Int32)), (5, .int (0 : Int32)), (4, .int r6), (0, rf P 0), (1, .int x1), (2, .int x2), (3, .int x3)]) dX11_makeAll_42 (Nat.le_of_ble_eq_true rfl) rfl ?_
        refine aw_lv [3, 4, 5, 6, 1, 0] rfl ?_
        exact (a_f_H_makeAll_44 l K hg FU) _ _ _ _ _ _
      · refine aw_iload K 0 dX11_makeAll_35 rfl ?_
        exact aw_iret dX11_makeAll_37
    · refine aw_iconst K dX11_makeAll_17 ki_m1 ?_
      exact aw_iret dX11_makeAll_18
set_option maxRecDepth 100000 in
set_option maxHeartbeats 4000000 in
theorem a_f_H_wouldCost_55 (l : Launch) {P : PT} {G : GT} (K : CX P G cX11_wouldCost RX11 (4) 8) (hg : gl G = l) : ∀ (n : Nat) (x1 : Int32) (x2 : Int32) (x3 : Int32) (x5 : Int32) (x6 : Int32) (σ : SG), AW P G 8 (EI P G cX11_wouldCost) (f_H_wouldCost_55 n x1 x2 x3 x5 x6 σ) σ 55 [(0, rf P 0), (1, .int x1), (2, .int x2), (3, .int x3), (5, .int x5), (6, .int x6)] [] := by
  intro n
  induction n with
  | zero =>
    intro x1 x2 x3 x5 x6 σ
    rw [f_H_wouldCost_55]
    exact aw_none
  | succ n ih =>
    intro x1 x2 x3 x5 x6 σ
    rw [f_H_wouldCost_55]
    refine aw_iload K 5 dX11_wouldCost_55 rfl ?_
    refine aw_iload_n K 3 dX11_wouldCost_57 rfl ?_
    refine aw_icmp_ge K 130 dX11_wouldCost_58 (by decide) (fun h_1 => ?_) (fun h_1 => ?_)
    · refine aw_iload K 4 dX11_wouldCost_130 rfl ?_
      exact aw_iret dX11_wouldCost_132
    · refine aw_aload_n K 0 dX11_wouldCost_61 rfl ?_
      refine aw_getR K (c' := 1) dX11_wouldCost_62 lk_X11_10_11 fd_0_0 ?_
      refine aw_iload_n K 1 dX11_wouldCost_65 rfl ?_
      refine aw_iload_n K 2 dX11_wouldCost_66 rfl ?_
      refine aw_iload K 5 dX11_wouldCost_67 rfl ?_
      refine aw_iadd K dX11_wouldCost_69 ?_
      refine aw_callVI K dX11_wouldCost_70 vw_X11_251_1 (c_f_Ho_isPlace l _ _) hg (by decide) ob_1 rfl (Nat.le_of_ble_eq_true rfl) rfl rfl (fun r2 σ1 _ => ?_)
      refine aw_if_ne K 79 dX11_wouldCost_73 (by decide) (fun h_2 => ?_) (fun h_2 => ?_)
      · refine aw_aload_n K 0 dX11_wouldCost_79 rfl ?_
        refine aw_getR K (c' := 1) dX11_wouldCost_80 lk_X11_10_11 fd_0_0 ?_
        refine aw_getR K (c' := 4) dX11_wouldCost_83 lk_X11_242_1 fd_1_2 ?_
        refine aw_iload_n K 1 dX11_wouldCost_86 rfl ?_
        refine aw_gd (fun h_3 => ?_)
        refine aw_aald K dX11_wouldCost_87 rw_4.1 h_3 rfl ?_
        refine aw_iload_n K 2 dX11_wouldCost_88 rfl ?_
        refine aw_iload K 5 dX11_wouldCost_89 rfl ?_
        refine aw_iadd K dX11_wouldCost_91 ?_
        refine aw_gd (fun h_4 => ?_)
        refine aw_ald K dX11_wouldCost_92 (rw_4.2 _ (ix_lt h_3)) h_4 rfl ?_
        refine aw_istoreX K (i := 7) (lv' := fun y3 => [(7, .int y3), (0, rf P 0), (1, .int x1), (2, .int x2), (3, .int x3), (5, .int x5), (6, .int x6)]) dX11_wouldCost_93 (Nat.le_of_ble_eq_true rfl) (fun _ => rfl) (fun y3 => ?_)
        refine aw_aload_n K 1 dX11_wouldCost_95 rfl ?_
        refine aw_getR K (c' := 90) dX11_wouldCost_96 lk_X11_48_11 fd_0_4 ?_
        refine aw_iload K 0 dX11_wouldCost_99 rfl ?_
        refine aw_callVI K dX11_wouldCost_101 vw_X11_162_9 (c_f_To_canBe l 90 TW.c _) hg (by decide) ob_90 rfl (Nat.le_of_ble_eq_true rfl) rfl rfl (fun r5 σ4 _ => ?_)
        refine aw_if_ne K 110 dX11_wouldCost_104 (by decide) (fun h_5 => ?_) (fun h_5 => ?_)
        · refine aw_iload K 5 dX11_wouldCost_110 rfl ?_
          refine aw_aload_n K 1 dX11_wouldCost_112 rfl ?_
          refine aw_getR K (c' := 90) dX11_wouldCost_113 lk_X11_48_11 fd_0_4 ?_
          refine aw_iload K 0 dX11_wouldCost_116 rfl ?_
          refine aw_callVI K dX11_wouldCost_118 vw_X11_231_9 (c_f_To_step l 90 TW.c _) hg (by decide) ob_90 rfl (Nat.le_of_ble_eq_true rfl) rfl rfl (fun r7 σ6 _ => ?_)
          refine aw_iadd K dX11_wouldCost_121 ?_
          refine aw_istoreX K (i := 5) (lv' := fun y8 => [(5, .int y8), (7, .int y3), (0, rf P 0), (1, .int x1), (2, .int x2), (3, .int x3), (6, .int x6)]) dX11_wouldCost_122 (Nat.le_of_ble_eq_true rfl) (fun _ => rfl) (fun y8 => ?_)
          refine aw_iinc K (lv' := fun y9 => [(6, .int y9), (5, .int y8), (7, .int y3), (0, rf P 0), (1, .int x1), (2, .int x2), (3, .int x3)]) 6 dX11_wouldCost_124 rfl ki_1 (Nat.le_of_ble_eq_true rfl) (fun _ => rfl) (fun y9 => ?_)
          refine aw_goto K 55 dX11_wouldCost_127 (by decide) ?_
          refine aw_lv [3, 4, 5, 6, 1, 0] rfl ?_
          exact ih _ _ _ _ _ _
        · refine aw_bipush K dX11_wouldCost_107 kb_m4 ?_
          exact aw_iret dX11_wouldCost_109
      · refine aw_bipush K dX11_wouldCost_76 kb_m12 ?_
        exact aw_iret dX11_wouldCost_78
set_option maxRecDepth 100000 in
set_option maxHeartbeats 4000000 in
theorem c_f_H_wouldCost (l : Launch) (x1 : Int32) (x2 : Int32) (x3 : Int32) : CTI l (4) yX11_wouldCost cX11_wouldCost 8 ((some .int)) (fun P => [rf P 0, .int x1, .int x2, .int x3]) (fun σ => f_H_wouldCost x1 x2 x3 σ) := by
  refine met_I rfl rfl rfl (fun P => Nat.le_of_ble_eq_true rfl) (fun P G K hg σ => ?_)
  change AW P G 8 (EI P G cX11_wouldCost) (f_H_wouldCost x1 x2 x3 σ) σ 0 [(0, rf P 0), (1, .int x1), (2, .int x2), (3, .int x3)] []
  rw [f_H_wouldCost]
  refine aw_iload_n K 1 dX11_wouldCost_0 rfl ?_
  refine aw_callSI K dX11_wouldCost_1 vw_X11_234 (c_f_H_isSheet l _) hg (by decide) rfl (Nat.le_of_ble_eq_true rfl) rfl rfl (fun r2 σ1 _ => ?_)
  refine aw_if_eq K 17 dX11_wouldCost_4 (by decide) (fun h_1 => ?_) (fun h_1 => ?_)
  · refine aw_iconst K dX11_wouldCost_17 ki_m1 ?_
    exact aw_iret dX11_wouldCost_18
  · refine aw_iload_n K 3 dX11_wouldCost_7 rfl ?_
    refine aw_iconst K dX11_wouldCost_8 ki_0 ?_
    refine aw_bipush K dX11_wouldCost_9 kb_20 ?_
    refine aw_callSI K dX11_wouldCost_11 vw_X11_72 (c_f_H_isIn l _ _ _) hg (by decide) rfl (Nat.le_of_ble_eq_true rfl) rfl rfl (fun r4 σ3 _ => ?_)
    refine aw_if_ne K 19 dX11_wouldCost_14 (by decide) (fun h_2 => ?_) (fun h_2 => ?_)
    · refine aw_aload_n K 0 dX11_wouldCost_19 rfl ?_
      refine aw_getR K (c' := 1) dX11_wouldCost_20 lk_X11_10_11 fd_0_0 ?_
      refine aw_iload_n K 1 dX11_wouldCost_23 rfl ?_
      refine aw_iconst K dX11_wouldCost_24 ki_0 ?_
      refine aw_callVI K dX11_wouldCost_25 vw_X11_259_1 (c_f_Ho_refusal l _ _) hg (by decide) ob_1 rfl (Nat.le_of_ble_eq_true rfl) rfl rfl (fun r6 σ5 _ => ?_)
      refine aw_istore K (i := 4) (lv' := [(4, .int r6), (0, rf P 0), (1, .int x1), (2, .int x2), (3, .int x3)]) dX11_wouldCost_28 (Nat.le_of_ble_eq_true rfl) rfl ?_
      refine aw_iload K 0 dX11_wouldCost_30 rfl ?_
      refine aw_if_eq K 38 dX11_wouldCost_32 (by decide) (fun h_3 => ?_) (fun h_3 => ?_)
      · refine aw_aload_n K 1 dX11_wouldCost_38 rfl ?_
        refine aw_getR K (c' := 90) dX11_wouldCost_39 lk_X11_48_11 fd_0_4 ?_
        refine aw_aload_n K 1 dX11_wouldCost_42 rfl ?_
        refine aw_getR K (c' := 20) dX11_wouldCost_43 lk_X11_41_11 fd_0_1 ?_
        refine aw_callVV K dX11_wouldCost_46 vw_X11_218_9 (c_f_To_copyPlayFrom l 90 TW.c 20 TW.a) hg (by decide) ob_90 rfl (Nat.le_of_ble_eq_true rfl) rfl rfl (fun _ σ7 _ => ?_)
        refine aw_iconst K dX11_wouldCost_49 ki_0 ?_
        refine aw_istore K (i := 5) (lv' := [(5, .int (0 : Int32)), (4, .int r6), (0, rf P 0), (1, .int x1), (2, .int x2), (3, .int x3)]) dX11_wouldCost_50 (Nat.le_of_ble_eq_true rfl) rfl ?_
        refine aw_iconst K dX11_wouldCost_52 ki_0 ?_
        refine aw_istore K (i := 6) (lv' := [(6, .int (0 : Int32)), (5, .int (0 : Int32)), (4, .int r6), (0, rf P 0), (1, .int x1), (2, .int x2), (3, .int x3)]) dX11_wouldCost_53 (Nat.le_of_ble_eq_true rfl) rfl ?_
        refine aw_lv [3, 4, 5, 6, 1, 0] rfl ?_
        exact (a_f_H_wouldCost_55 l K hg FU) _ _ _ _ _ _
      · refine aw_iload K 0 dX11_wouldCost_35 rfl ?_
        exact aw_iret dX11_wouldCost_37
    · refine aw_iconst K dX11_wouldCost_17 ki_m1 ?_
      exact aw_iret dX11_wouldCost_18
set_option maxRecDepth 100000 in
set_option maxHeartbeats 4000000 in
theorem c_f_Ho_hold (l : Launch) (x1 : Int32) (x2 : Int32) (x3 : Int32) (x4 : Int32) : CTI l (0) yX1_hold cX1_hold 5 ((some .int)) (fun P => [rf P 1, .int x1, .int x2, .int x3, .int x4]) (fun σ => f_Ho_hold x1 x2 x3 x4 σ) := by
  refine met_I rfl rfl rfl (fun P => Nat.le_of_ble_eq_true rfl) (fun P G K hg σ => ?_)
  change AW P G 5 (EI P G cX1_hold) (f_Ho_hold x1 x2 x3 x4 σ) σ 0 [(0, rf P 1), (1, .int x1), (2, .int x2), (3, .int x3), (4, .int x4)] []
  rw [f_Ho_hold]
  refine aw_aload_n K 0 dX1_hold_0 rfl ?_
  refine aw_getR K (c' := 9) dX1_hold_1 lk_X1_23_1 fd_1_3 ?_
  refine aw_iload_n K 1 dX1_hold_4 rfl ?_
  refine aw_iload_n K 2 dX1_hold_5 rfl ?_
  refine aw_gd (fun h_1 => ?_)
  refine aw_ast K dX1_hold_6 ad_9 h_1 rfl (fun σ1 => ?_)
  refine aw_aload_n K 0 dX1_hold_7 rfl ?_
  refine aw_getR K (c' := 10) dX1_hold_8 lk_X1_26_1 fd_1_4 ?_
  refine aw_iload_n K 1 dX1_hold_11 rfl ?_
  refine aw_iload_n K 3 dX1_hold_12 rfl ?_
  refine aw_gd (fun h_2 => ?_)
  refine aw_ast K dX1_hold_13 ad_10 h_2 rfl (fun σ2 => ?_)
  refine aw_aload_n K 0 dX1_hold_14 rfl ?_
  refine aw_getR K (c' := 11) dX1_hold_15 lk_X1_29_1 fd_1_5 ?_
  refine aw_iload_n K 1 dX1_hold_18 rfl ?_
  refine aw_iload K 4 dX1_hold_19 rfl ?_
  refine aw_gd (fun h_3 => ?_)
  refine aw_ast K dX1_hold_21 ad_11 h_3 rfl (fun σ3 => ?_)
  refine aw_iconst K dX1_hold_22 ki_1 ?_
  exact aw_iret dX1_hold_23
set_option maxRecDepth 100000 in
set_option maxHeartbeats 4000000 in
theorem c_f_Ho_holdRow (l : Launch) (x1 : Int32) (x2 : Int32) : CTI l (1) yX1_holdRow cX1_holdRow 3 ((some .int)) (fun P => [rf P 1, .int x1, .int x2]) (fun σ => f_Ho_holdRow x1 x2 σ) := by
  refine met_I rfl rfl rfl (fun P => Nat.le_of_ble_eq_true rfl) (fun P G K hg σ => ?_)
  change AW P G 3 (EI P G cX1_holdRow) (f_Ho_holdRow x1 x2 σ) σ 0 [(0, rf P 1), (1, .int x1), (2, .int x2)] []
  rw [f_Ho_holdRow]
  refine aw_aload_n K 0 dX1_holdRow_0 rfl ?_
  refine aw_iload_n K 1 dX1_holdRow_1 rfl ?_
  refine aw_aload_n K 0 dX1_holdRow_2 rfl ?_
  refine aw_getR K (c' := 2) dX1_holdRow_3 lk_X1_11_1 fd_1_0 ?_
  refine aw_iload_n K 2 dX1_holdRow_6 rfl ?_
  refine aw_gd (fun h_1 => ?_)
  refine aw_ald K dX1_holdRow_7 ad_2 h_1 rfl ?_
  refine aw_iconst K dX1_holdRow_8 ki_m1 ?_
  refine aw_icmp_ne K 16 dX1_holdRow_9 (by decide) (fun h_2 => ?_) (fun h_2 => ?_)
  · refine aw_iconst K dX1_holdRow_16 ki_2 ?_
    refine aw_aload_n K 0 dX1_holdRow_17 rfl ?_
    refine aw_getR K (c' := 2) dX1_holdRow_18 lk_X1_11_1 fd_1_0 ?_
    refine aw_iload_n K 2 dX1_holdRow_21 rfl ?_
    refine aw_gd (fun h_3 => ?_)
    refine aw_ald K dX1_holdRow_22 ad_2 h_3 rfl ?_
    refine aw_aload_n K 0 dX1_holdRow_23 rfl ?_
    refine aw_getR K (c' := 3) dX1_holdRow_24 lk_X1_15_1 fd_1_1 ?_
    refine aw_iload_n K 2 dX1_holdRow_27 rfl ?_
    refine aw_gd (fun h_4 => ?_)
    refine aw_ald K dX1_holdRow_28 ad_3 h_4 rfl ?_
    refine aw_callVI K dX1_holdRow_29 vw_X1_35_1 (c_f_Ho_hold l _ _ _ _) hg (by decide) ob_1 rfl (Nat.le_of_ble_eq_true rfl) rfl rfl (fun r2 σ1 _ => ?_)
    exact aw_iret dX1_holdRow_32
  · refine aw_iconst K dX1_holdRow_12 ki_0 ?_
    refine aw_goto K 17 dX1_holdRow_13 (by decide) ?_
    refine aw_aload_n K 0 dX1_holdRow_17 rfl ?_
    refine aw_getR K (c' := 2) dX1_holdRow_18 lk_X1_11_1 fd_1_0 ?_
    refine aw_iload_n K 2 dX1_holdRow_21 rfl ?_
    refine aw_gd (fun h_5 => ?_)
    refine aw_ald K dX1_holdRow_22 ad_2 h_5 rfl ?_
    refine aw_aload_n K 0 dX1_holdRow_23 rfl ?_
    refine aw_getR K (c' := 3) dX1_holdRow_24 lk_X1_15_1 fd_1_1 ?_
    refine aw_iload_n K 2 dX1_holdRow_27 rfl ?_
    refine aw_gd (fun h_6 => ?_)
    refine aw_ald K dX1_holdRow_28 ad_3 h_6 rfl ?_
    refine aw_callVI K dX1_holdRow_29 vw_X1_35_1 (c_f_Ho_hold l _ _ _ _) hg (by decide) ob_1 rfl (Nat.le_of_ble_eq_true rfl) rfl rfl (fun r4 σ3 _ => ?_)
    exact aw_iret dX1_holdRow_32
set_option maxRecDepth 100000 in
set_option maxHeartbeats 4000000 in
theorem c_f_H_shelf (l : Launch) (x1 : Int32) (x2 : Int32) (x3 : Int32) : CTI l (2) yX11_shelf cX11_shelf 4 ((some .int)) (fun P => [rf P 0, .int x1, .int x2, .int x3]) (fun σ => f_H_shelf x1 x2 x3 σ) := by
  refine met_I rfl rfl rfl (fun P => Nat.le_of_ble_eq_true rfl) (fun P G K hg σ => ?_)
  change AW P G 4 (EI P G cX11_shelf) (f_H_shelf x1 x2 x3 σ) σ 0 [(0, rf P 0), (1, .int x1), (2, .int x2), (3, .int x3)] []
  rw [f_H_shelf]
  refine aw_iload_n K 1 dX11_shelf_0 rfl ?_
  refine aw_callSI K dX11_shelf_1 vw_X11_234 (c_f_H_isSheet l _) hg (by decide) rfl (Nat.le_of_ble_eq_true rfl) rfl rfl (fun r2 σ1 _ => ?_)
  refine aw_if_ne K 9 dX11_shelf_4 (by decide) (fun h_1 => ?_) (fun h_1 => ?_)
  · refine aw_iload_n K 2 dX11_shelf_9 rfl ?_
    refine aw_ite (fun h_2 => ?_) (fun h_2 => ?_)
    · refine aw_tabIn K 36 (0) dX11_shelf_10 (ti_of h_2 kt_0) (by decide) (by decide) rfl (by decide) ?_
      refine aw_aload_n K 0 dX11_shelf_36 rfl ?_
      refine aw_getR K (c' := 20) dX11_shelf_37 lk_X11_41_11 fd_0_1 ?_
      refine aw_iload_n K 3 dX11_shelf_40 rfl ?_
      refine aw_callVI K dX11_shelf_41 vw_X11_104_9 (c_f_To_isPerson l 20 TW.a _) hg (by decide) ob_20 rfl (Nat.le_of_ble_eq_true rfl) rfl rfl (fun r4 σ3 _ => ?_)
      refine aw_if_eq K 61 dX11_shelf_44 (by decide) (fun h_3 => ?_) (fun h_3 => ?_)
      · refine aw_iconst K dX11_shelf_61 ki_m1 ?_
        exact aw_iret dX11_shelf_62
      · refine aw_aload_n K 0 dX11_shelf_47 rfl ?_
        refine aw_getR K (c' := 1) dX11_shelf_48 lk_X11_10_11 fd_0_0 ?_
        refine aw_iload_n K 1 dX11_shelf_51 rfl ?_
        refine aw_iconst K dX11_shelf_52 ki_1 ?_
        refine aw_iload_n K 3 dX11_shelf_53 rfl ?_
        refine aw_iconst K dX11_shelf_54 ki_0 ?_
        refine aw_callVI K dX11_shelf_55 vw_X11_262_1 (c_f_Ho_hold l _ _ _ _) hg (by decide) ob_1 rfl (Nat.le_of_ble_eq_true rfl) rfl rfl (fun r6 σ5 _ => ?_)
        refine aw_goto K 62 dX11_shelf_58 (by decide) ?_
        exact aw_iret dX11_shelf_62
    refine aw_ite (fun h_4 => ?_) (fun h_4 => ?_)
    · refine aw_tabIn K 63 (1) dX11_shelf_10 (ti_of h_4 kt_1) (by decide) (by decide) rfl (by decide) ?_
      refine aw_iload_n K 3 dX11_shelf_63 rfl ?_
      refine aw_callSI K dX11_shelf_64 vw_X11_234 (c_f_H_isSheet l _) hg (by decide) rfl (Nat.le_of_ble_eq_true rfl) rfl rfl (fun r8 σ7 _ => ?_)
      refine aw_if_eq K 82 dX11_shelf_67 (by decide) (fun h_5 => ?_) (fun h_5 => ?_)
      · refine aw_iconst K dX11_shelf_82 ki_m1 ?_
        exact aw_iret dX11_shelf_83
      · refine aw_aload_n K 0 dX11_shelf_70 rfl ?_
        refine aw_getR K (c' := 1) dX11_shelf_71 lk_X11_10_11 fd_0_0 ?_
        refine aw_iload_n K 1 dX11_shelf_74 rfl ?_
        refine aw_iload_n K 3 dX11_shelf_75 rfl ?_
        refine aw_callVI K dX11_shelf_76 vw_X11_266_1 (c_f_Ho_holdRow l _ _) hg (by decide) ob_1 rfl (Nat.le_of_ble_eq_true rfl) rfl rfl (fun r10 σ9 _ => ?_)
        refine aw_goto K 83 dX11_shelf_79 (by decide) ?_
        exact aw_iret dX11_shelf_83
    refine aw_ite (fun h_6 => ?_) (fun h_6 => ?_)
    · refine aw_tabIn K 84 (2) dX11_shelf_10 (ti_of h_6 kt_2) (by decide) (by decide) rfl (by decide) ?_
      refine aw_aload_n K 0 dX11_shelf_84 rfl ?_
      refine aw_getR K (c' := 1) dX11_shelf_85 lk_X11_10_11 fd_0_0 ?_
      refine aw_iload_n K 1 dX11_shelf_88 rfl ?_
      refine aw_iconst K dX11_shelf_89 ki_0 ?_
      refine aw_iconst K dX11_shelf_90 ki_0 ?_
      refine aw_iconst K dX11_shelf_91 ki_0 ?_
      refine aw_callVI K dX11_shelf_92 vw_X11_262_1 (c_f_Ho_hold l _ _ _ _) hg (by decide) ob_1 rfl (Nat.le_of_ble_eq_true rfl) rfl rfl (fun r12 σ11 _ => ?_)
      exact aw_iret dX11_shelf_95
    refine aw_tabOut K 96 dX11_shelf_10 (by have := lv_neT h_2 kt_0; have := lv_neT h_4 kt_1; have := lv_neT h_6 kt_2; omega) (by decide) ?_
    refine aw_iconst K dX11_shelf_96 ki_m1 ?_
    exact aw_iret dX11_shelf_97
  · refine aw_iconst K dX11_shelf_7 ki_m1 ?_
    exact aw_iret dX11_shelf_8
set_option maxRecDepth 100000 in
set_option maxHeartbeats 4000000 in
theorem c_f_H_personOn (l : Launch) (x1 : Int32) : CTI l (2) yX11_personOn cX11_personOn 2 ((some .int)) (fun P => [rf P 0, .int x1]) (fun σ => f_H_personOn x1 σ) := by
  refine met_I rfl rfl rfl (fun P => Nat.le_of_ble_eq_true rfl) (fun P G K hg σ => ?_)
  change AW P G 2 (EI P G cX11_personOn) (f_H_personOn x1 σ) σ 0 [(0, rf P 0), (1, .int x1)] []
  rw [f_H_personOn]
  refine aw_iload_n K 1 dX11_personOn_0 rfl ?_
  refine aw_callSI K dX11_personOn_1 vw_X11_234 (c_f_H_isSheet l _) hg (by decide) rfl (Nat.le_of_ble_eq_true rfl) rfl rfl (fun r2 σ1 _ => ?_)
  refine aw_if_eq K 39 dX11_personOn_4 (by decide) (fun h_1 => ?_) (fun h_1 => ?_)
  · refine aw_bipush K dX11_personOn_39 kb_m3 ?_
    exact aw_iret dX11_personOn_41
  · refine aw_aload_n K 0 dX11_personOn_7 rfl ?_
    refine aw_getR K (c' := 1) dX11_personOn_8 lk_X11_10_11 fd_0_0 ?_
    refine aw_getR K (c' := 9) dX11_personOn_11 lk_X11_269_1 fd_1_3 ?_
    refine aw_iload_n K 1 dX11_personOn_14 rfl ?_
    refine aw_gd (fun h_2 => ?_)
    refine aw_ald K dX11_personOn_15 ad_9 h_2 rfl ?_
    refine aw_iconst K dX11_personOn_16 ki_1 ?_
    refine aw_icmp_ne K 39 dX11_personOn_17 (by decide) (fun h_3 => ?_) (fun h_3 => ?_)
    · refine aw_bipush K dX11_personOn_39 kb_m3 ?_
      exact aw_iret dX11_personOn_41
    · refine aw_aload_n K 0 dX11_personOn_20 rfl ?_
      refine aw_getR K (c' := 20) dX11_personOn_21 lk_X11_41_11 fd_0_1 ?_
      refine aw_aload_n K 0 dX11_personOn_24 rfl ?_
      refine aw_getR K (c' := 1) dX11_personOn_25 lk_X11_10_11 fd_0_0 ?_
      refine aw_getR K (c' := 10) dX11_personOn_28 lk_X11_272_1 fd_1_4 ?_
      refine aw_iload_n K 1 dX11_personOn_31 rfl ?_
      refine aw_gd (fun h_4 => ?_)
      refine aw_ald K dX11_personOn_32 ad_10 h_4 rfl ?_
      refine aw_callVI K dX11_personOn_33 vw_X11_104_9 (c_f_To_isPerson l 20 TW.a _) hg (by decide) ob_20 rfl (Nat.le_of_ble_eq_true rfl) rfl rfl (fun r4 σ3 _ => ?_)
      refine aw_if_ne K 42 dX11_personOn_36 (by decide) (fun h_5 => ?_) (fun h_5 => ?_)
      · refine aw_aload_n K 0 dX11_personOn_42 rfl ?_
        refine aw_getR K (c' := 1) dX11_personOn_43 lk_X11_10_11 fd_0_0 ?_
        refine aw_getR K (c' := 10) dX11_personOn_46 lk_X11_272_1 fd_1_4 ?_
        refine aw_iload_n K 1 dX11_personOn_49 rfl ?_
        refine aw_gd (fun h_6 => ?_)
        refine aw_ald K dX11_personOn_50 ad_10 h_6 rfl ?_
        exact aw_iret dX11_personOn_51
      · refine aw_bipush K dX11_personOn_39 kb_m3 ?_
        exact aw_iret dX11_personOn_41
set_option maxRecDepth 100000 in
set_option maxHeartbeats 4000000 in
theorem a_f_H_taken_31 (l : Launch) {P : PT} {G : GT} (K : CX P G cX11_taken RX11 (3) 5) (hg : gl G = l) : ∀ (x1 : Int32) (x2 : Int32) (x3 : Int32) (σ : SG), AW P G 5 (EI P G cX11_taken) (f_H_taken_31 x1 x2 x3 σ) σ 31 [(0, rf P 0), (1, .int x1), (2, .int x2), (3, .int x3)] [] := by
  intro x1 x2 x3 σ
  rw [f_H_taken_31]
  refine aw_aload_n K 0 dX11_taken_31 rfl ?_
  refine aw_getR K (c' := 1) dX11_taken_32 lk_X11_10_11 fd_0_0 ?_
  refine aw_getR K (c' := 9) dX11_taken_35 lk_X11_269_1 fd_1_3 ?_
  refine aw_iload_n K 1 dX11_taken_38 rfl ?_
  refine aw_gd (fun h_1 => ?_)
  refine aw_ald K dX11_taken_39 ad_9 h_1 rfl ?_
  refine aw_iconst K dX11_taken_40 ki_2 ?_
  refine aw_icmp_ne K 79 dX11_taken_41 (by decide) (fun h_2 => ?_) (fun h_2 => ?_)
  · refine aw_aload_n K 0 dX11_taken_79 rfl ?_
    refine aw_iload_n K 1 dX11_taken_80 rfl ?_
    refine aw_callVI K dX11_taken_81 vw_X11_278_11 (c_f_H_personOn l _) hg (by decide) ob_0 rfl (Nat.le_of_ble_eq_true rfl) rfl rfl (fun r2 σ1 _ => ?_)
    refine aw_istore K (i := 4) (lv' := [(4, .int r2), (0, rf P 0), (1, .int x1), (2, .int x2), (3, .int x3)]) dX11_taken_84 (Nat.le_of_ble_eq_true rfl) rfl ?_
    refine aw_iload K 0 dX11_taken_86 rfl ?_
    refine aw_if_ge K 94 dX11_taken_88 (by decide) (fun h_3 => ?_) (fun h_3 => ?_)
    · refine aw_iload_n K 4 dX11_taken_94 rfl ?_
      refine aw_if_ne K 120 dX11_taken_95 (by decide) (fun h_4 => ?_) (fun h_4 => ?_)
      · refine aw_bipush K dX11_taken_120 kb_m13 ?_
        exact aw_iret dX11_taken_122
      · refine aw_aload_n K 1 dX11_taken_98 rfl ?_
        refine aw_getR K (c' := 20) dX11_taken_99 lk_X11_41_11 fd_0_1 ?_
        refine aw_getR K (c' := 28) dX11_taken_102 lk_X11_84_9 fd_20_3 ?_
        refine aw_iload K 0 dX11_taken_105 rfl ?_
        refine aw_gd (fun h_5 => ?_)
        refine aw_ald K dX11_taken_107 ad_28 h_5 rfl ?_
        refine aw_iload_n K 3 dX11_taken_108 rfl ?_
        refine aw_callSI K dX11_taken_109 vw_X11_281 (c_f_H_isUnder l _ _) hg (by decide) rfl (Nat.le_of_ble_eq_true rfl) rfl rfl (fun r4 σ3 _ => ?_)
        refine aw_if_eq K 120 dX11_taken_112 (by decide) (fun h_6 => ?_) (fun h_6 => ?_)
        · refine aw_bipush K dX11_taken_120 kb_m13 ?_
          exact aw_iret dX11_taken_122
        · refine aw_iload K 0 dX11_taken_115 rfl ?_
          refine aw_goto K 122 dX11_taken_117 (by decide) ?_
          exact aw_iret dX11_taken_122
    · refine aw_bipush K dX11_taken_91 kb_m11 ?_
      exact aw_iret dX11_taken_93
  · refine aw_iload_n K 3 dX11_taken_44 rfl ?_
    refine aw_if_eq K 76 dX11_taken_45 (by decide) (fun h_7 => ?_) (fun h_7 => ?_)
    · refine aw_bipush K dX11_taken_76 kb_m13 ?_
      exact aw_iret dX11_taken_78
    · refine aw_aload_n K 0 dX11_taken_48 rfl ?_
      refine aw_getR K (c' := 1) dX11_taken_49 lk_X11_10_11 fd_0_0 ?_
      refine aw_getR K (c' := 10) dX11_taken_52 lk_X11_272_1 fd_1_4 ?_
      refine aw_iload_n K 1 dX11_taken_55 rfl ?_
      refine aw_gd (fun h_8 => ?_)
      refine aw_ald K dX11_taken_56 ad_10 h_8 rfl ?_
      refine aw_iload_n K 2 dX11_taken_57 rfl ?_
      refine aw_bipush K dX11_taken_58 kb_10 ?_
      refine aw_isub K dX11_taken_60 ?_
      refine aw_icmp_ne K 76 dX11_taken_61 (by decide) (fun h_9 => ?_) (fun h_9 => ?_)
      · refine aw_bipush K dX11_taken_76 kb_m13 ?_
        exact aw_iret dX11_taken_78
      · refine aw_aload_n K 0 dX11_taken_64 rfl ?_
        refine aw_getR K (c' := 1) dX11_taken_65 lk_X11_10_11 fd_0_0 ?_
        refine aw_getR K (c' := 11) dX11_taken_68 lk_X11_275_1 fd_1_5 ?_
        refine aw_iload_n K 1 dX11_taken_71 rfl ?_
        refine aw_gd (fun h_10 => ?_)
        refine aw_ald K dX11_taken_72 ad_11 h_10 rfl ?_
        refine aw_goto K 78 dX11_taken_73 (by decide) ?_
        exact aw_iret dX11_taken_78
set_option maxRecDepth 100000 in
set_option maxHeartbeats 4000000 in
theorem c_f_H_taken (l : Launch) (x1 : Int32) (x2 : Int32) : CTI l (3) yX11_taken cX11_taken 5 ((some .int)) (fun P => [rf P 0, .int x1, .int x2]) (fun σ => f_H_taken x1 x2 σ) := by
  refine met_I rfl rfl rfl (fun P => Nat.le_of_ble_eq_true rfl) (fun P G K hg σ => ?_)
  change AW P G 5 (EI P G cX11_taken) (f_H_taken x1 x2 σ) σ 0 [(0, rf P 0), (1, .int x1), (2, .int x2)] []
  rw [f_H_taken]
  refine aw_iload_n K 2 dX11_taken_0 rfl ?_
  refine aw_bipush K dX11_taken_1 kb_10 ?_
  refine aw_bipush K dX11_taken_3 kb_14 ?_
  refine aw_callSI K dX11_taken_5 vw_X11_72 (c_f_H_isIn l _ _ _) hg (by decide) rfl (Nat.le_of_ble_eq_true rfl) rfl rfl (fun r2 σ1 _ => ?_)
  refine aw_istore_n K (i := 3) (lv' := [(3, .int r2), (0, rf P 0), (1, .int x1), (2, .int x2)]) dX11_taken_8 rfl (Nat.le_of_ble_eq_true rfl) rfl ?_
  refine aw_iload_n K 2 dX11_taken_9 rfl ?_
  refine aw_callSI K dX11_taken_10 vw_X11_234 (c_f_H_isSheet l _) hg (by decide) rfl (Nat.le_of_ble_eq_true rfl) rfl rfl (fun r4 σ3 _ => ?_)
  refine aw_if_eq K 29 dX11_taken_13 (by decide) (fun h_1 => ?_) (fun h_1 => ?_)
  · refine aw_iconst K dX11_taken_29 ki_m1 ?_
    exact aw_iret dX11_taken_30
  · refine aw_iload_n K 0 dX11_taken_16 rfl ?_
    refine aw_if_ne K 31 dX11_taken_17 (by decide) (fun h_2 => ?_) (fun h_2 => ?_)
    · refine aw_lv [1, 2, 3, 0] rfl ?_
      exact (a_f_H_taken_31 l K hg) _ _ _ _
    · refine aw_iload_n K 3 dX11_taken_20 rfl ?_
      refine aw_iconst K dX11_taken_21 ki_0 ?_
      refine aw_iconst K dX11_taken_22 ki_5 ?_
      refine aw_callSI K dX11_taken_23 vw_X11_72 (c_f_H_isIn l _ _ _) hg (by decide) rfl (Nat.le_of_ble_eq_true rfl) rfl rfl (fun r6 σ5 _ => ?_)
      refine aw_if_ne K 31 dX11_taken_26 (by decide) (fun h_3 => ?_) (fun h_3 => ?_)
      · refine aw_lv [1, 2, 3, 0] rfl ?_
        exact (a_f_H_taken_31 l K hg) _ _ _ _
      · refine aw_iconst K dX11_taken_29 ki_m1 ?_
        exact aw_iret dX11_taken_30
set_option maxRecDepth 100000 in
set_option maxHeartbeats 4000000 in
theorem c_f_Ho_startTrace (l : Launch) : CTV l (0) yX1_startTrace cX1_startTrace 1 (none) (fun P => [rf P 1]) (fun σ => f_Ho_startTrace σ) := by
  refine met_V rfl rfl rfl (fun P => Nat.le_of_ble_eq_true rfl) (fun P G K hg σ => ?_)
  change AW P G 1 (EV P G cX1_startTrace) (f_Ho_startTrace σ) σ 0 [(0, rf P 1)] []
  rw [f_Ho_startTrace]
  refine aw_aload_n K 0 dX1_startTrace_0 rfl ?_
  refine aw_iconst K dX1_startTrace_1 ki_0 ?_
  refine aw_putI K dX1_startTrace_2 lp_X1_39_1 fd_1_6 (fun σ1 => ?_)
  refine aw_aload_n K 0 dX1_startTrace_5 rfl ?_
  refine aw_iconst K dX1_startTrace_6 ki_0 ?_
  refine aw_putZ K dX1_startTrace_7 lp_X1_43_1 fd_1_8 (by decide) (fun σ2 => ?_)
  exact aw_vret dX1_startTrace_10
set_option maxRecDepth 100000 in
set_option maxHeartbeats 4000000 in
theorem c_f_Ho_began (l : Launch) (x1 : Int32) : CTV l (0) yX1_began cX1_began 2 (none) (fun P => [rf P 1, .int x1]) (fun σ => f_Ho_began x1 σ) := by
  refine met_V rfl rfl rfl (fun P => Nat.le_of_ble_eq_true rfl) (fun P G K hg σ => ?_)
  change AW P G 2 (EV P G cX1_began) (f_Ho_began x1 σ) σ 0 [(0, rf P 1), (1, .int x1)] []
  rw [f_Ho_began]
  refine aw_aload_n K 0 dX1_began_0 rfl ?_
  refine aw_getZ K dX1_began_1 lk_X1_43_1 fd_1_8 ?_
  refine aw_if_ne K 36 dX1_began_4 (by decide) (fun h_1 => ?_) (fun h_1 => ?_)
  · exact aw_vret dX1_began_36
  · refine aw_aload_n K 0 dX1_began_7 rfl ?_
    refine aw_getI K dX1_began_8 lk_X1_39_1 fd_1_6 ?_
    refine aw_bipush K dX1_began_11 kb_30 ?_
    refine aw_icmp_ge K 36 dX1_began_13 (by decide) (fun h_2 => ?_) (fun h_2 => ?_)
    · exact aw_vret dX1_began_36
    · refine aw_aload_n K 0 dX1_began_16 rfl ?_
      refine aw_getR K (c' := 12) dX1_began_17 lk_X1_32_1 fd_1_7 ?_
      refine aw_aload_n K 0 dX1_began_20 rfl ?_
      refine aw_getI K dX1_began_21 lk_X1_39_1 fd_1_6 ?_
      refine aw_iload_n K 1 dX1_began_24 rfl ?_
      refine aw_gd (fun h_3 => ?_)
      refine aw_ast K dX1_began_25 ad_12 h_3 rfl (fun σ1 => ?_)
      refine aw_aload_n K 0 dX1_began_26 rfl ?_
      refine aw_dup K dX1_began_27 rfl ?_
      refine aw_getI K dX1_began_28 lk_X1_39_1 fd_1_6 ?_
      refine aw_iconst K dX1_began_31 ki_1 ?_
      refine aw_iadd K dX1_began_32 ?_
      refine aw_putI K dX1_began_33 lp_X1_39_1 fd_1_6 (fun σ2 => ?_)
      exact aw_vret dX1_began_36
set_option maxRecDepth 100000 in
set_option maxHeartbeats 4000000 in
theorem c_f_Pe_gives (l : Launch) (x1 : Int32) : CTI l (1) yX4_gives cX4_gives 2 ((some .int)) (fun P => [rf P 14, .int x1]) (fun σ => f_Pe_gives x1 σ) := by
  refine met_I rfl rfl rfl (fun P => Nat.le_of_ble_eq_true rfl) (fun P G K hg σ => ?_)
  change AW P G 2 (EI P G cX4_gives) (f_Pe_gives x1 σ) σ 0 [(0, rf P 14), (1, .int x1)] []
  rw [f_Pe_gives]
  refine aw_aload_n K 0 dX4_gives_0 rfl ?_
  refine aw_getR K (c' := 1) dX4_gives_1 lk_X4_7_4 fd_14_0 ?_
  refine aw_bipush K dX4_gives_4 kb_10 ?_
  refine aw_callVV K dX4_gives_6 vw_X4_13_1 (c_f_Ho_began l _) hg (by decide) ob_1 rfl (Nat.le_of_ble_eq_true rfl) rfl rfl (fun _ σ1 _ => ?_)
  refine aw_iload_n K 1 dX4_gives_9 rfl ?_
  refine aw_aload_n K 0 dX4_gives_10 rfl ?_
  refine aw_getI K dX4_gives_11 lk_X4_19_4 fd_14_2 ?_
  refine aw_iadd K dX4_gives_14 ?_
  exact aw_iret dX4_gives_15
set_option maxRecDepth 100000 in
set_option maxHeartbeats 4000000 in
theorem c_f_Pe_takes (l : Launch) (x1 : Int32) : CTI l (2) yX4_takes cX4_takes 2 ((some .int)) (fun P => [rf P 14, .int x1]) (fun σ => f_Pe_takes x1 σ) := by
  refine met_I rfl rfl rfl (fun P => Nat.le_of_ble_eq_true rfl) (fun P G K hg σ => ?_)
  change AW P G 2 (EI P G cX4_takes) (f_Pe_takes x1 σ) σ 0 [(0, rf P 14), (1, .int x1)] []
  rw [f_Pe_takes]
  refine aw_aload_n K 0 dX4_takes_0 rfl ?_
  refine aw_getR K (c' := 1) dX4_takes_1 lk_X4_7_4 fd_14_0 ?_
  refine aw_bipush K dX4_takes_4 kb_11 ?_
  refine aw_callVV K dX4_takes_6 vw_X4_13_1 (c_f_Ho_began l _) hg (by decide) ob_1 rfl (Nat.le_of_ble_eq_true rfl) rfl rfl (fun _ σ1 _ => ?_)
  refine aw_aload_n K 0 dX4_takes_9 rfl ?_
  refine aw_iload_n K 1 dX4_takes_10 rfl ?_
  refine aw_callVI K dX4_takes_11 vw_X4_23_4 (c_f_Pe_gives l _) hg (by decide) ob_14 rfl (Nat.le_of_ble_eq_true rfl) rfl rfl (fun r3 σ2 _ => ?_)
  refine aw_aload_n K 0 dX4_takes_14 rfl ?_
  refine aw_getI K dX4_takes_15 lk_X4_27_4 fd_14_1 ?_
  refine aw_isub K dX4_takes_18 ?_
  exact aw_iret dX4_takes_19
set_option maxRecDepth 100000 in
set_option maxHeartbeats 4000000 in
theorem c_f_Pe_halves (l : Launch) (x1 : Int32) : CTI l (1) yX4_halves cX4_halves 2 ((some .int)) (fun P => [rf P 14, .int x1]) (fun σ => f_Pe_halves x1 σ) := by
  refine met_I rfl rfl rfl (fun P => Nat.le_of_ble_eq_true rfl) (fun P G K hg σ => ?_)
  change AW P G 2 (EI P G cX4_halves) (f_Pe_halves x1 σ) σ 0 [(0, rf P 14), (1, .int x1)] []
  rw [f_Pe_halves]
  refine aw_aload_n K 0 dX4_halves_0 rfl ?_
  refine aw_getR K (c' := 1) dX4_halves_1 lk_X4_7_4 fd_14_0 ?_
  refine aw_bipush K dX4_halves_4 kb_12 ?_
  refine aw_callVV K dX4_halves_6 vw_X4_13_1 (c_f_Ho_began l _) hg (by decide) ob_1 rfl (Nat.le_of_ble_eq_true rfl) rfl rfl (fun _ σ1 _ => ?_)
  refine aw_aload_n K 0 dX4_halves_9 rfl ?_
  refine aw_getI K dX4_halves_10 lk_X4_19_4 fd_14_2 ?_
  refine aw_aload_n K 0 dX4_halves_13 rfl ?_
  refine aw_getI K dX4_halves_14 lk_X4_27_4 fd_14_1 ?_
  refine aw_icmp_ne K 30 dX4_halves_17 (by decide) (fun h_1 => ?_) (fun h_1 => ?_)
  · refine aw_iload_n K 1 dX4_halves_30 rfl ?_
    refine aw_aload_n K 0 dX4_halves_31 rfl ?_
    refine aw_getI K dX4_halves_32 lk_X4_19_4 fd_14_2 ?_
    refine aw_aload_n K 0 dX4_halves_35 rfl ?_
    refine aw_getI K dX4_halves_36 lk_X4_27_4 fd_14_1 ?_
    refine aw_isub K dX4_halves_39 ?_
    refine aw_gd (fun h_2 => ?_)
    refine aw_idiv K dX4_halves_40 h_2 ?_
    exact aw_iret dX4_halves_41
  · refine aw_aload_n K 0 dX4_halves_20 rfl ?_
    refine aw_getR K (c' := 1) dX4_halves_21 lk_X4_7_4 fd_14_0 ?_
    refine aw_iconst K dX4_halves_24 ki_1 ?_
    refine aw_putZ K dX4_halves_25 lp_X4_30_1 fd_1_8 (by decide) (fun σ2 => ?_)
    refine aw_iconst K dX4_halves_28 ki_0 ?_
    exact aw_iret dX4_halves_29
set_option maxRecDepth 100000 in
set_option maxHeartbeats 4000000 in
theorem c_f_Pe_owes (l : Launch) (x1 : Int32) : CTI l (3) yX4_owes cX4_owes 2 ((some .int)) (fun P => [rf P 14, .int x1]) (fun σ => f_Pe_owes x1 σ) := by
  refine met_I rfl rfl rfl (fun P => Nat.le_of_ble_eq_true rfl) (fun P G K hg σ => ?_)
  change AW P G 2 (EI P G cX4_owes) (f_Pe_owes x1 σ) σ 0 [(0, rf P 14), (1, .int x1)] []
  rw [f_Pe_owes]
  refine aw_aload_n K 0 dX4_owes_0 rfl ?_
  refine aw_getR K (c' := 1) dX4_owes_1 lk_X4_7_4 fd_14_0 ?_
  refine aw_bipush K dX4_owes_4 kb_13 ?_
  refine aw_callVV K dX4_owes_6 vw_X4_13_1 (c_f_Ho_began l _) hg (by decide) ob_1 rfl (Nat.le_of_ble_eq_true rfl) rfl rfl (fun _ σ1 _ => ?_)
  refine aw_aload_n K 0 dX4_owes_9 rfl ?_
  refine aw_iload_n K 1 dX4_owes_10 rfl ?_
  refine aw_callVI K dX4_owes_11 vw_X4_34_4 (c_f_Pe_takes l _) hg (by decide) ob_14 rfl (Nat.le_of_ble_eq_true rfl) rfl rfl (fun r3 σ2 _ => ?_)
  refine aw_aload_n K 0 dX4_owes_14 rfl ?_
  refine aw_getI K dX4_owes_15 lk_X4_19_4 fd_14_2 ?_
  refine aw_ixor K dX4_owes_18 ?_
  exact aw_iret dX4_owes_19
set_option maxRecDepth 100000 in
set_option maxHeartbeats 4000000 in
theorem c_f_Pe_gives_15 (l : Launch) (x1 : Int32) : CTI l (1) yX4_gives cX4_gives 2 ((some .int)) (fun P => [rf P 15, .int x1]) (fun σ => f_Pe_gives_15 x1 σ) := by
  refine met_I rfl rfl rfl (fun P => Nat.le_of_ble_eq_true rfl) (fun P G K hg σ => ?_)
  change AW P G 2 (EI P G cX4_gives) (f_Pe_gives_15 x1 σ) σ 0 [(0, rf P 15), (1, .int x1)] []
  rw [f_Pe_gives_15]
  refine aw_aload_n K 0 dX4_gives_0 rfl ?_
  refine aw_getR K (c' := 1) dX4_gives_1 lk_X4_7_2 fd_15_0 ?_
  refine aw_bipush K dX4_gives_4 kb_10 ?_
  refine aw_callVV K dX4_gives_6 vw_X4_13_1 (c_f_Ho_began l _) hg (by decide) ob_1 rfl (Nat.le_of_ble_eq_true rfl) rfl rfl (fun _ σ1 _ => ?_)
  refine aw_iload_n K 1 dX4_gives_9 rfl ?_
  refine aw_aload_n K 0 dX4_gives_10 rfl ?_
  refine aw_getI K dX4_gives_11 lk_X4_19_2 fd_15_2 ?_
  refine aw_iadd K dX4_gives_14 ?_
  exact aw_iret dX4_gives_15
set_option maxRecDepth 100000 in
set_option maxHeartbeats 4000000 in
theorem c_f_Ma_gives (l : Launch) (x1 : Int32) : CTI l (2) yX2_gives cX2_gives 2 ((some .int)) (fun P => [rf P 15, .int x1]) (fun σ => f_Ma_gives x1 σ) := by
  refine met_I rfl rfl rfl (fun P => Nat.le_of_ble_eq_true rfl) (fun P G K hg σ => ?_)
  change AW P G 2 (EI P G cX2_gives) (f_Ma_gives x1 σ) σ 0 [(0, rf P 15), (1, .int x1)] []
  rw [f_Ma_gives]
  refine aw_aload_n K 0 dX2_gives_0 rfl ?_
  refine aw_getR K (c' := 1) dX2_gives_1 lk_X2_7_2 fd_15_0 ?_
  refine aw_bipush K dX2_gives_4 kb_20 ?_
  refine aw_callVV K dX2_gives_6 vw_X2_13_1 (c_f_Ho_began l _) hg (by decide) ob_1 rfl (Nat.le_of_ble_eq_true rfl) rfl rfl (fun _ σ1 _ => ?_)
  refine aw_aload_n K 0 dX2_gives_9 rfl ?_
  refine aw_iload_n K 1 dX2_gives_10 rfl ?_
  refine aw_callXI K dX2_gives_11 vw_X2_19_2 (c_f_Pe_gives_15 l _) hg (by decide) ob_15 rfl (Nat.le_of_ble_eq_true rfl) rfl rfl (fun r3 σ2 _ => ?_)
  refine aw_iconst K dX2_gives_14 ki_2 ?_
  refine aw_imul K dX2_gives_15 ?_
  exact aw_iret dX2_gives_16
set_option maxRecDepth 100000 in
set_option maxHeartbeats 4000000 in
theorem c_f_Pe_takes_15 (l : Launch) (x1 : Int32) : CTI l (3) yX4_takes cX4_takes 2 ((some .int)) (fun P => [rf P 15, .int x1]) (fun σ => f_Pe_takes_15 x1 σ) := by
  refine met_I rfl rfl rfl (fun P => Nat.le_of_ble_eq_true rfl) (fun P G K hg σ => ?_)
  change AW P G 2 (EI P G cX4_takes) (f_Pe_takes_15 x1 σ) σ 0 [(0, rf P 15), (1, .int x1)] []
  rw [f_Pe_takes_15]
  refine aw_aload_n K 0 dX4_takes_0 rfl ?_
  refine aw_getR K (c' := 1) dX4_takes_1 lk_X4_7_2 fd_15_0 ?_
  refine aw_bipush K dX4_takes_4 kb_11 ?_
  refine aw_callVV K dX4_takes_6 vw_X4_13_1 (c_f_Ho_began l _) hg (by decide) ob_1 rfl (Nat.le_of_ble_eq_true rfl) rfl rfl (fun _ σ1 _ => ?_)
  refine aw_aload_n K 0 dX4_takes_9 rfl ?_
  refine aw_iload_n K 1 dX4_takes_10 rfl ?_
  refine aw_callOI K dX4_takes_11 vw_X4_23_2 (c_f_Ma_gives l _) hg (by decide) ob_15 rfl (Nat.le_of_ble_eq_true rfl) rfl rfl (fun r3 σ2 _ => ?_)
  refine aw_aload_n K 0 dX4_takes_14 rfl ?_
  refine aw_getI K dX4_takes_15 lk_X4_27_2 fd_15_1 ?_
  refine aw_isub K dX4_takes_18 ?_
  exact aw_iret dX4_takes_19
set_option maxRecDepth 100000 in
set_option maxHeartbeats 4000000 in
theorem c_f_Pe_halves_15 (l : Launch) (x1 : Int32) : CTI l (1) yX4_halves cX4_halves 2 ((some .int)) (fun P => [rf P 15, .int x1]) (fun σ => f_Pe_halves_15 x1 σ) := by
  refine met_I rfl rfl rfl (fun P => Nat.le_of_ble_eq_true rfl) (fun P G K hg σ => ?_)
  change AW P G 2 (EI P G cX4_halves) (f_Pe_halves_15 x1 σ) σ 0 [(0, rf P 15), (1, .int x1)] []
  rw [f_Pe_halves_15]
  refine aw_aload_n K 0 dX4_halves_0 rfl ?_
  refine aw_getR K (c' := 1) dX4_halves_1 lk_X4_7_2 fd_15_0 ?_
  refine aw_bipush K dX4_halves_4 kb_12 ?_
  refine aw_callVV K dX4_halves_6 vw_X4_13_1 (c_f_Ho_began l _) hg (by decide) ob_1 rfl (Nat.le_of_ble_eq_true rfl) rfl rfl (fun _ σ1 _ => ?_)
  refine aw_aload_n K 0 dX4_halves_9 rfl ?_
  refine aw_getI K dX4_halves_10 lk_X4_19_2 fd_15_2 ?_
  refine aw_aload_n K 0 dX4_halves_13 rfl ?_
  refine aw_getI K dX4_halves_14 lk_X4_27_2 fd_15_1 ?_
  refine aw_icmp_ne K 30 dX4_halves_17 (by decide) (fun h_1 => ?_) (fun h_1 => ?_)
  · refine aw_iload_n K 1 dX4_halves_30 rfl ?_
    refine aw_aload_n K 0 dX4_halves_31 rfl ?_
    refine aw_getI K dX4_halves_32 lk_X4_19_2 fd_15_2 ?_
    refine aw_aload_n K 0 dX4_halves_35 rfl ?_
    refine aw_getI K dX4_halves_36 lk_X4_27_2 fd_15_1 ?_
    refine aw_isub K dX4_halves_39 ?_
    refine aw_gd (fun h_2 => ?_)
    refine aw_idiv K dX4_halves_40 h_2 ?_
    exact aw_iret dX4_halves_41
  · refine aw_aload_n K 0 dX4_halves_20 rfl ?_
    refine aw_getR K (c' := 1) dX4_halves_21 lk_X4_7_2 fd_15_0 ?_
    refine aw_iconst K dX4_halves_24 ki_1 ?_
    refine aw_putZ K dX4_halves_25 lp_X4_30_1 fd_1_8 (by decide) (fun σ2 => ?_)
    refine aw_iconst K dX4_halves_28 ki_0 ?_
    exact aw_iret dX4_halves_29
set_option maxRecDepth 100000 in
set_option maxHeartbeats 4000000 in
theorem c_f_Pe_owes_15 (l : Launch) (x1 : Int32) : CTI l (4) yX4_owes cX4_owes 2 ((some .int)) (fun P => [rf P 15, .int x1]) (fun σ => f_Pe_owes_15 x1 σ) := by
  refine met_I rfl rfl rfl (fun P => Nat.le_of_ble_eq_true rfl) (fun P G K hg σ => ?_)
  change AW P G 2 (EI P G cX4_owes) (f_Pe_owes_15 x1 σ) σ 0 [(0, rf P 15), (1, .int x1)] []
  rw [f_Pe_owes_15]
  refine aw_aload_n K 0 dX4_owes_0 rfl ?_
  refine aw_getR K (c' := 1) dX4_owes_1 lk_X4_7_2 fd_15_0 ?_
  refine aw_bipush K dX4_owes_4 kb_13 ?_
  refine aw_callVV K dX4_owes_6 vw_X4_13_1 (c_f_Ho_began l _) hg (by decide) ob_1 rfl (Nat.le_of_ble_eq_true rfl) rfl rfl (fun _ σ1 _ => ?_)
  refine aw_aload_n K 0 dX4_owes_9 rfl ?_
  refine aw_iload_n K 1 dX4_owes_10 rfl ?_
  refine aw_callUI K dX4_owes_11 vw_X4_34_2 (c_f_Pe_takes_15 l _) hg (by decide) ob_15 rfl (Nat.le_of_ble_eq_true rfl) rfl rfl (fun r3 σ2 _ => ?_)
  refine aw_aload_n K 0 dX4_owes_14 rfl ?_
  refine aw_getI K dX4_owes_15 lk_X4_19_2 fd_15_2 ?_
  refine aw_ixor K dX4_owes_18 ?_
  exact aw_iret dX4_owes_19
set_option maxRecDepth 100000 in
set_option maxHeartbeats 4000000 in
theorem c_f_Pe_gives_16 (l : Launch) (x1 : Int32) : CTI l (1) yX4_gives cX4_gives 2 ((some .int)) (fun P => [rf P 16, .int x1]) (fun σ => f_Pe_gives_16 x1 σ) := by
  refine met_I rfl rfl rfl (fun P => Nat.le_of_ble_eq_true rfl) (fun P G K hg σ => ?_)
  change AW P G 2 (EI P G cX4_gives) (f_Pe_gives_16 x1 σ) σ 0 [(0, rf P 16), (1, .int x1)] []
  rw [f_Pe_gives_16]
  refine aw_aload_n K 0 dX4_gives_0 rfl ?_
  refine aw_getR K (c' := 1) dX4_gives_1 lk_X4_7_3 fd_16_0 ?_
  refine aw_bipush K dX4_gives_4 kb_10 ?_
  refine aw_callVV K dX4_gives_6 vw_X4_13_1 (c_f_Ho_began l _) hg (by decide) ob_1 rfl (Nat.le_of_ble_eq_true rfl) rfl rfl (fun _ σ1 _ => ?_)
  refine aw_iload_n K 1 dX4_gives_9 rfl ?_
  refine aw_aload_n K 0 dX4_gives_10 rfl ?_
  refine aw_getI K dX4_gives_11 lk_X4_19_3 fd_16_2 ?_
  refine aw_iadd K dX4_gives_14 ?_
  exact aw_iret dX4_gives_15
set_option maxRecDepth 100000 in
set_option maxHeartbeats 4000000 in
theorem c_f_Pe_takes_16 (l : Launch) (x1 : Int32) : CTI l (2) yX4_takes cX4_takes 2 ((some .int)) (fun P => [rf P 16, .int x1]) (fun σ => f_Pe_takes_16 x1 σ) := by
  refine met_I rfl rfl rfl (fun P => Nat.le_of_ble_eq_true rfl) (fun P G K hg σ => ?_)
  change AW P G 2 (EI P G cX4_takes) (f_Pe_takes_16 x1 σ) σ 0 [(0, rf P 16), (1, .int x1)] []
  rw [f_Pe_takes_16]
  refine aw_aload_n K 0 dX4_takes_0 rfl ?_
  refine aw_getR K (c' := 1) dX4_takes_1 lk_X4_7_3 fd_16_0 ?_
  refine aw_bipush K dX4_takes_4 kb_11 ?_
  refine aw_callVV K dX4_takes_6 vw_X4_13_1 (c_f_Ho_began l _) hg (by decide) ob_1 rfl (Nat.le_of_ble_eq_true rfl) rfl rfl (fun _ σ1 _ => ?_)
  refine aw_aload_n K 0 dX4_takes_9 rfl ?_
  refine aw_iload_n K 1 dX4_takes_10 rfl ?_
  refine aw_callUI K dX4_takes_11 vw_X4_23_3 (c_f_Pe_gives_16 l _) hg (by decide) ob_16 rfl (Nat.le_of_ble_eq_true rfl) rfl rfl (fun r3 σ2 _ => ?_)
  refine aw_aload_n K 0 dX4_takes_14 rfl ?_
  refine aw_getI K dX4_takes_15 lk_X4_27_3 fd_16_1 ?_
  refine aw_isub K dX4_takes_18 ?_
  exact aw_iret dX4_takes_19
set_option maxRecDepth 100000 in
set_option maxHeartbeats 4000000 in
theorem c_f_Mi_takes (l : Launch) (x1 : Int32) : CTI l (3) yX3_takes cX3_takes 2 ((some .int)) (fun P => [rf P 16, .int x1]) (fun σ => f_Mi_takes x1 σ) := by
  refine met_I rfl rfl rfl (fun P => Nat.le_of_ble_eq_true rfl) (fun P G K hg σ => ?_)
  change AW P G 2 (EI P G cX3_takes) (f_Mi_takes x1 σ) σ 0 [(0, rf P 16), (1, .int x1)] []
  rw [f_Mi_takes]
  refine aw_aload_n K 0 dX3_takes_0 rfl ?_
  refine aw_getR K (c' := 1) dX3_takes_1 lk_X3_7_3 fd_16_0 ?_
  refine aw_bipush K dX3_takes_4 kb_30 ?_
  refine aw_callVV K dX3_takes_6 vw_X3_13_1 (c_f_Ho_began l _) hg (by decide) ob_1 rfl (Nat.le_of_ble_eq_true rfl) rfl rfl (fun _ σ1 _ => ?_)
  refine aw_aload_n K 0 dX3_takes_9 rfl ?_
  refine aw_iload_n K 1 dX3_takes_10 rfl ?_
  refine aw_callXI K dX3_takes_11 vw_X3_19_3 (c_f_Pe_takes_16 l _) hg (by decide) ob_16 rfl (Nat.le_of_ble_eq_true rfl) rfl rfl (fun r3 σ2 _ => ?_)
  refine aw_aload_n K 0 dX3_takes_14 rfl ?_
  refine aw_getI K dX3_takes_15 lk_X3_23_3 fd_16_1 ?_
  refine aw_ixor K dX3_takes_18 ?_
  exact aw_iret dX3_takes_19
set_option maxRecDepth 100000 in
set_option maxHeartbeats 4000000 in
theorem c_f_Pe_halves_16 (l : Launch) (x1 : Int32) : CTI l (1) yX4_halves cX4_halves 2 ((some .int)) (fun P => [rf P 16, .int x1]) (fun σ => f_Pe_halves_16 x1 σ) := by
  refine met_I rfl rfl rfl (fun P => Nat.le_of_ble_eq_true rfl) (fun P G K hg σ => ?_)
  change AW P G 2 (EI P G cX4_halves) (f_Pe_halves_16 x1 σ) σ 0 [(0, rf P 16), (1, .int x1)] []
  rw [f_Pe_halves_16]
  refine aw_aload_n K 0 dX4_halves_0 rfl ?_
  refine aw_getR K (c' := 1) dX4_halves_1 lk_X4_7_3 fd_16_0 ?_
  refine aw_bipush K dX4_halves_4 kb_12 ?_
  refine aw_callVV K dX4_halves_6 vw_X4_13_1 (c_f_Ho_began l _) hg (by decide) ob_1 rfl (Nat.le_of_ble_eq_true rfl) rfl rfl (fun _ σ1 _ => ?_)
  refine aw_aload_n K 0 dX4_halves_9 rfl ?_
  refine aw_getI K dX4_halves_10 lk_X4_19_3 fd_16_2 ?_
  refine aw_aload_n K 0 dX4_halves_13 rfl ?_
  refine aw_getI K dX4_halves_14 lk_X4_27_3 fd_16_1 ?_
  refine aw_icmp_ne K 30 dX4_halves_17 (by decide) (fun h_1 => ?_) (fun h_1 => ?_)
  · refine aw_iload_n K 1 dX4_halves_30 rfl ?_
    refine aw_aload_n K 0 dX4_halves_31 rfl ?_
    refine aw_getI K dX4_halves_32 lk_X4_19_3 fd_16_2 ?_
    refine aw_aload_n K 0 dX4_halves_35 rfl ?_
    refine aw_getI K dX4_halves_36 lk_X4_27_3 fd_16_1 ?_
    refine aw_isub K dX4_halves_39 ?_
    refine aw_gd (fun h_2 => ?_)
    refine aw_idiv K dX4_halves_40 h_2 ?_
    exact aw_iret dX4_halves_41
  · refine aw_aload_n K 0 dX4_halves_20 rfl ?_
    refine aw_getR K (c' := 1) dX4_halves_21 lk_X4_7_3 fd_16_0 ?_
    refine aw_iconst K dX4_halves_24 ki_1 ?_
    refine aw_putZ K dX4_halves_25 lp_X4_30_1 fd_1_8 (by decide) (fun σ2 => ?_)
    refine aw_iconst K dX4_halves_28 ki_0 ?_
    exact aw_iret dX4_halves_29
set_option maxRecDepth 100000 in
set_option maxHeartbeats 4000000 in
theorem c_f_Pe_owes_16 (l : Launch) (x1 : Int32) : CTI l (4) yX4_owes cX4_owes 2 ((some .int)) (fun P => [rf P 16, .int x1]) (fun σ => f_Pe_owes_16 x1 σ) := by
  refine met_I rfl rfl rfl (fun P => Nat.le_of_ble_eq_true rfl) (fun P G K hg σ => ?_)
  change AW P G 2 (EI P G cX4_owes) (f_Pe_owes_16 x1 σ) σ 0 [(0, rf P 16), (1, .int x1)] []
  rw [f_Pe_owes_16]
  refine aw_aload_n K 0 dX4_owes_0 rfl ?_
  refine aw_getR K (c' := 1) dX4_owes_1 lk_X4_7_3 fd_16_0 ?_
  refine aw_bipush K dX4_owes_4 kb_13 ?_
  refine aw_callVV K dX4_owes_6 vw_X4_13_1 (c_f_Ho_began l _) hg (by decide) ob_1 rfl (Nat.le_of_ble_eq_true rfl) rfl rfl (fun _ σ1 _ => ?_)
  refine aw_aload_n K 0 dX4_owes_9 rfl ?_
  refine aw_iload_n K 1 dX4_owes_10 rfl ?_
  refine aw_callOI K dX4_owes_11 vw_X4_34_3 (c_f_Mi_takes l _) hg (by decide) ob_16 rfl (Nat.le_of_ble_eq_true rfl) rfl rfl (fun r3 σ2 _ => ?_)
  refine aw_aload_n K 0 dX4_owes_14 rfl ?_
  refine aw_getI K dX4_owes_15 lk_X4_19_3 fd_16_2 ?_
  refine aw_ixor K dX4_owes_18 ?_
  exact aw_iret dX4_owes_19
set_option maxRecDepth 100000 in
set_option maxHeartbeats 4000000 in
theorem c_f_Pe_gives_17 (l : Launch) (x1 : Int32) : CTI l (1) yX4_gives cX4_gives 2 ((some .int)) (fun P => [rf P 17, .int x1]) (fun σ => f_Pe_gives_17 x1 σ) := by
  refine met_I rfl rfl rfl (fun P => Nat.le_of_ble_eq_true rfl) (fun P G K hg σ => ?_)
  change AW P G 2 (EI P G cX4_gives) (f_Pe_gives_17 x1 σ) σ 0 [(0, rf P 17), (1, .int x1)] []
  rw [f_Pe_gives_17]
  refine aw_aload_n K 0 dX4_gives_0 rfl ?_
  refine aw_getR K (c' := 1) dX4_gives_1 lk_X4_7_10 fd_17_0 ?_
  refine aw_bipush K dX4_gives_4 kb_10 ?_
  refine aw_callVV K dX4_gives_6 vw_X4_13_1 (c_f_Ho_began l _) hg (by decide) ob_1 rfl (Nat.le_of_ble_eq_true rfl) rfl rfl (fun _ σ1 _ => ?_)
  refine aw_iload_n K 1 dX4_gives_9 rfl ?_
  refine aw_aload_n K 0 dX4_gives_10 rfl ?_
  refine aw_getI K dX4_gives_11 lk_X4_19_10 fd_17_2 ?_
  refine aw_iadd K dX4_gives_14 ?_
  exact aw_iret dX4_gives_15
set_option maxRecDepth 100000 in
set_option maxHeartbeats 4000000 in
theorem c_f_Wi_gives (l : Launch) (x1 : Int32) : CTI l (2) yX10_gives cX10_gives 2 ((some .int)) (fun P => [rf P 17, .int x1]) (fun σ => f_Wi_gives x1 σ) := by
  refine met_I rfl rfl rfl (fun P => Nat.le_of_ble_eq_true rfl) (fun P G K hg σ => ?_)
  change AW P G 2 (EI P G cX10_gives) (f_Wi_gives x1 σ) σ 0 [(0, rf P 17), (1, .int x1)] []
  rw [f_Wi_gives]
  refine aw_aload_n K 0 dX10_gives_0 rfl ?_
  refine aw_getR K (c' := 1) dX10_gives_1 lk_X10_11_10 fd_17_0 ?_
  refine aw_bipush K dX10_gives_4 kb_50 ?_
  refine aw_callVV K dX10_gives_6 vw_X10_17_1 (c_f_Ho_began l _) hg (by decide) ob_1 rfl (Nat.le_of_ble_eq_true rfl) rfl rfl (fun _ σ1 _ => ?_)
  refine aw_aload_n K 0 dX10_gives_9 rfl ?_
  refine aw_iload_n K 1 dX10_gives_10 rfl ?_
  refine aw_callYI K dX10_gives_11 vw_X10_23_10 (c_f_Pe_gives_17 l _) hg (by decide) ob_17 rfl (Nat.le_of_ble_eq_true rfl) rfl rfl (fun r3 σ2 _ => ?_)
  refine aw_iconst K dX10_gives_14 ki_1 ?_
  refine aw_isub K dX10_gives_15 ?_
  exact aw_iret dX10_gives_16
set_option maxRecDepth 100000 in
set_option maxHeartbeats 4000000 in
theorem c_f_Pe_takes_17 (l : Launch) (x1 : Int32) : CTI l (3) yX4_takes cX4_takes 2 ((some .int)) (fun P => [rf P 17, .int x1]) (fun σ => f_Pe_takes_17 x1 σ) := by
  refine met_I rfl rfl rfl (fun P => Nat.le_of_ble_eq_true rfl) (fun P G K hg σ => ?_)
  change AW P G 2 (EI P G cX4_takes) (f_Pe_takes_17 x1 σ) σ 0 [(0, rf P 17), (1, .int x1)] []
  rw [f_Pe_takes_17]
  refine aw_aload_n K 0 dX4_takes_0 rfl ?_
  refine aw_getR K (c' := 1) dX4_takes_1 lk_X4_7_10 fd_17_0 ?_
  refine aw_bipush K dX4_takes_4 kb_11 ?_
  refine aw_callVV K dX4_takes_6 vw_X4_13_1 (c_f_Ho_began l _) hg (by decide) ob_1 rfl (Nat.le_of_ble_eq_true rfl) rfl rfl (fun _ σ1 _ => ?_)
  refine aw_aload_n K 0 dX4_takes_9 rfl ?_
  refine aw_iload_n K 1 dX4_takes_10 rfl ?_
  refine aw_callOI K dX4_takes_11 vw_X4_23_10 (c_f_Wi_gives l _) hg (by decide) ob_17 rfl (Nat.le_of_ble_eq_true rfl) rfl rfl (fun r3 σ2 _ => ?_)
  refine aw_aload_n K 0 dX4_takes_14 rfl ?_
  refine aw_getI K dX4_takes_15 lk_X4_27_10 fd_17_1 ?_
  refine aw_isub K dX4_takes_18 ?_
  exact aw_iret dX4_takes_19
set_option maxRecDepth 100000 in
set_option maxHeartbeats 4000000 in
theorem c_f_Mi_takes_17 (l : Launch) (x1 : Int32) : CTI l (4) yX3_takes cX3_takes 2 ((some .int)) (fun P => [rf P 17, .int x1]) (fun σ => f_Mi_takes_17 x1 σ) := by
  refine met_I rfl rfl rfl (fun P => Nat.le_of_ble_eq_true rfl) (fun P G K hg σ => ?_)
  change AW P G 2 (EI P G cX3_takes) (f_Mi_takes_17 x1 σ) σ 0 [(0, rf P 17), (1, .int x1)] []
  rw [f_Mi_takes_17]
  refine aw_aload_n K 0 dX3_takes_0 rfl ?_
  refine aw_getR K (c' := 1) dX3_takes_1 lk_X3_7_10 fd_17_0 ?_
  refine aw_bipush K dX3_takes_4 kb_30 ?_
  refine aw_callVV K dX3_takes_6 vw_X3_13_1 (c_f_Ho_began l _) hg (by decide) ob_1 rfl (Nat.le_of_ble_eq_true rfl) rfl rfl (fun _ σ1 _ => ?_)
  refine aw_aload_n K 0 dX3_takes_9 rfl ?_
  refine aw_iload_n K 1 dX3_takes_10 rfl ?_
  refine aw_callXI K dX3_takes_11 vw_X3_19_10 (c_f_Pe_takes_17 l _) hg (by decide) ob_17 rfl (Nat.le_of_ble_eq_true rfl) rfl rfl (fun r3 σ2 _ => ?_)
  refine aw_aload_n K 0 dX3_takes_14 rfl ?_
  refine aw_getI K dX3_takes_15 lk_X3_23_10 fd_17_1 ?_
  refine aw_ixor K dX3_takes_18 ?_
  exact aw_iret dX3_takes_19
set_option maxRecDepth 100000 in
set_option maxHeartbeats 4000000 in
theorem c_f_Pe_halves_17 (l : Launch) (x1 : Int32) : CTI l (1) yX4_halves cX4_halves 2 ((some .int)) (fun P => [rf P 17, .int x1]) (fun σ => f_Pe_halves_17 x1 σ) := by
  refine met_I rfl rfl rfl (fun P => Nat.le_of_ble_eq_true rfl) (fun P G K hg σ => ?_)
  change AW P G 2 (EI P G cX4_halves) (f_Pe_halves_17 x1 σ) σ 0 [(0, rf P 17), (1, .int x1)] []
  rw [f_Pe_halves_17]
  refine aw_aload_n K 0 dX4_halves_0 rfl ?_
  refine aw_getR K (c' := 1) dX4_halves_1 lk_X4_7_10 fd_17_0 ?_
  refine aw_bipush K dX4_halves_4 kb_12 ?_
  refine aw_callVV K dX4_halves_6 vw_X4_13_1 (c_f_Ho_began l _) hg (by decide) ob_1 rfl (Nat.le_of_ble_eq_true rfl) rfl rfl (fun _ σ1 _ => ?_)
  refine aw_aload_n K 0 dX4_halves_9 rfl ?_
  refine aw_getI K dX4_halves_10 lk_X4_19_10 fd_17_2 ?_
  refine aw_aload_n K 0 dX4_halves_13 rfl ?_
  refine aw_getI K dX4_halves_14 lk_X4_27_10 fd_17_1 ?_
  refine aw_icmp_ne K 30 dX4_halves_17 (by decide) (fun h_1 => ?_) (fun h_1 => ?_)
  · refine aw_iload_n K 1 dX4_halves_30 rfl ?_
    refine aw_aload_n K 0 dX4_halves_31 rfl ?_
    refine aw_getI K dX4_halves_32 lk_X4_19_10 fd_17_2 ?_
    refine aw_aload_n K 0 dX4_halves_35 rfl ?_
    refine aw_getI K dX4_halves_36 lk_X4_27_10 fd_17_1 ?_
    refine aw_isub K dX4_halves_39 ?_
    refine aw_gd (fun h_2 => ?_)
    refine aw_idiv K dX4_halves_40 h_2 ?_
    exact aw_iret dX4_halves_41
  · refine aw_aload_n K 0 dX4_halves_20 rfl ?_
    refine aw_getR K (c' := 1) dX4_halves_21 lk_X4_7_10 fd_17_0 ?_
    refine aw_iconst K dX4_halves_24 ki_1 ?_
    refine aw_putZ K dX4_halves_25 lp_X4_30_1 fd_1_8 (by decide) (fun σ2 => ?_)
    refine aw_iconst K dX4_halves_28 ki_0 ?_
    exact aw_iret dX4_halves_29
set_option maxRecDepth 100000 in
set_option maxHeartbeats 4000000 in
theorem c_f_Pe_owes_17 (l : Launch) (x1 : Int32) : CTI l (5) yX4_owes cX4_owes 2 ((some .int)) (fun P => [rf P 17, .int x1]) (fun σ => f_Pe_owes_17 x1 σ) := by
  refine met_I rfl rfl rfl (fun P => Nat.le_of_ble_eq_true rfl) (fun P G K hg σ => ?_)
  change AW P G 2 (EI P G cX4_owes) (f_Pe_owes_17 x1 σ) σ 0 [(0, rf P 17), (1, .int x1)] []
  rw [f_Pe_owes_17]
  refine aw_aload_n K 0 dX4_owes_0 rfl ?_
  refine aw_getR K (c' := 1) dX4_owes_1 lk_X4_7_10 fd_17_0 ?_
  refine aw_bipush K dX4_owes_4 kb_13 ?_
  refine aw_callVV K dX4_owes_6 vw_X4_13_1 (c_f_Ho_began l _) hg (by decide) ob_1 rfl (Nat.le_of_ble_eq_true rfl) rfl rfl (fun _ σ1 _ => ?_)
  refine aw_aload_n K 0 dX4_owes_9 rfl ?_
  refine aw_iload_n K 1 dX4_owes_10 rfl ?_
  refine aw_callOI K dX4_owes_11 vw_X4_34_10 (c_f_Mi_takes_17 l _) hg (by decide) ob_17 rfl (Nat.le_of_ble_eq_true rfl) rfl rfl (fun r3 σ2 _ => ?_)
  refine aw_aload_n K 0 dX4_owes_14 rfl ?_
  refine aw_getI K dX4_owes_15 lk_X4_19_10 fd_17_2 ?_
  refine aw_ixor K dX4_owes_18 ?_
  exact aw_iret dX4_owes_19
set_option maxRecDepth 100000 in
set_option maxHeartbeats 4000000 in
theorem c_f_Wi_owes (l : Launch) (x1 : Int32) : CTI l (6) yX10_owes cX10_owes 2 ((some .int)) (fun P => [rf P 17, .int x1]) (fun σ => f_Wi_owes x1 σ) := by
  refine met_I rfl rfl rfl (fun P => Nat.le_of_ble_eq_true rfl) (fun P G K hg σ => ?_)
  change AW P G 2 (EI P G cX10_owes) (f_Wi_owes x1 σ) σ 0 [(0, rf P 17), (1, .int x1)] []
  rw [f_Wi_owes]
  refine aw_aload_n K 0 dX10_owes_0 rfl ?_
  refine aw_getR K (c' := 1) dX10_owes_1 lk_X10_11_10 fd_17_0 ?_
  refine aw_bipush K dX10_owes_4 kb_51 ?_
  refine aw_callVV K dX10_owes_6 vw_X10_17_1 (c_f_Ho_began l _) hg (by decide) ob_1 rfl (Nat.le_of_ble_eq_true rfl) rfl rfl (fun _ σ1 _ => ?_)
  refine aw_aload_n K 0 dX10_owes_9 rfl ?_
  refine aw_iload_n K 1 dX10_owes_10 rfl ?_
  refine aw_callYI K dX10_owes_11 vw_X10_27_10 (c_f_Pe_owes_17 l _) hg (by decide) ob_17 rfl (Nat.le_of_ble_eq_true rfl) rfl rfl (fun r3 σ2 _ => ?_)
  refine aw_aload_n K 0 dX10_owes_14 rfl ?_
  refine aw_aload_n K 0 dX10_owes_15 rfl ?_
  refine aw_getI K dX10_owes_16 lk_X10_30_10 fd_17_2 ?_
  refine aw_callUI K dX10_owes_19 vw_X10_34_10 (c_f_Pe_halves_17 l _) hg (by decide) ob_17 rfl (Nat.le_of_ble_eq_true rfl) rfl rfl (fun r5 σ4 _ => ?_)
  refine aw_iadd K dX10_owes_22 ?_
  exact aw_iret dX10_owes_23
set_option maxRecDepth 100000 in
set_option maxHeartbeats 4000000 in
theorem c_f_Pe_gives_18 (l : Launch) (x1 : Int32) : CTI l (1) yX4_gives cX4_gives 2 ((some .int)) (fun P => [rf P 18, .int x1]) (fun σ => f_Pe_gives_18 x1 σ) := by
  refine met_I rfl rfl rfl (fun P => Nat.le_of_ble_eq_true rfl) (fun P G K hg σ => ?_)
  change AW P G 2 (EI P G cX4_gives) (f_Pe_gives_18 x1 σ) σ 0 [(0, rf P 18), (1, .int x1)] []
  rw [f_Pe_gives_18]
  refine aw_aload_n K 0 dX4_gives_0 rfl ?_
  refine aw_getR K (c' := 1) dX4_gives_1 lk_X4_7_5 fd_18_0 ?_
  refine aw_bipush K dX4_gives_4 kb_10 ?_
  refine aw_callVV K dX4_gives_6 vw_X4_13_1 (c_f_Ho_began l _) hg (by decide) ob_1 rfl (Nat.le_of_ble_eq_true rfl) rfl rfl (fun _ σ1 _ => ?_)
  refine aw_iload_n K 1 dX4_gives_9 rfl ?_
  refine aw_aload_n K 0 dX4_gives_10 rfl ?_
  refine aw_getI K dX4_gives_11 lk_X4_19_5 fd_18_2 ?_
  refine aw_iadd K dX4_gives_14 ?_
  exact aw_iret dX4_gives_15
set_option maxRecDepth 100000 in
set_option maxHeartbeats 4000000 in
theorem c_f_Pe_takes_18 (l : Launch) (x1 : Int32) : CTI l (2) yX4_takes cX4_takes 2 ((some .int)) (fun P => [rf P 18, .int x1]) (fun σ => f_Pe_takes_18 x1 σ) := by
  refine met_I rfl rfl rfl (fun P => Nat.le_of_ble_eq_true rfl) (fun P G K hg σ => ?_)
  change AW P G 2 (EI P G cX4_takes) (f_Pe_takes_18 x1 σ) σ 0 [(0, rf P 18), (1, .int x1)] []
  rw [f_Pe_takes_18]
  refine aw_aload_n K 0 dX4_takes_0 rfl ?_
  refine aw_getR K (c' := 1) dX4_takes_1 lk_X4_7_5 fd_18_0 ?_
  refine aw_bipush K dX4_takes_4 kb_11 ?_
  refine aw_callVV K dX4_takes_6 vw_X4_13_1 (c_f_Ho_began l _) hg (by decide) ob_1 rfl (Nat.le_of_ble_eq_true rfl) rfl rfl (fun _ σ1 _ => ?_)
  refine aw_aload_n K 0 dX4_takes_9 rfl ?_
  refine aw_iload_n K 1 dX4_takes_10 rfl ?_
  refine aw_callUI K dX4_takes_11 vw_X4_23_5 (c_f_Pe_gives_18 l _) hg (by decide) ob_18 rfl (Nat.le_of_ble_eq_true rfl) rfl rfl (fun r3 σ2 _ => ?_)
  refine aw_aload_n K 0 dX4_takes_14 rfl ?_
  refine aw_getI K dX4_takes_15 lk_X4_27_5 fd_18_1 ?_
  refine aw_isub K dX4_takes_18 ?_
  exact aw_iret dX4_takes_19
set_option maxRecDepth 100000 in
set_option maxHeartbeats 4000000 in
theorem c_f_Pe_halves_18 (l : Launch) (x1 : Int32) : CTI l (1) yX4_halves cX4_halves 2 ((some .int)) (fun P => [rf P 18, .int x1]) (fun σ => f_Pe_halves_18 x1 σ) := by
  refine met_I rfl rfl rfl (fun P => Nat.le_of_ble_eq_true rfl) (fun P G K hg σ => ?_)
  change AW P G 2 (EI P G cX4_halves) (f_Pe_halves_18 x1 σ) σ 0 [(0, rf P 18), (1, .int x1)] []
  rw [f_Pe_halves_18]
  refine aw_aload_n K 0 dX4_halves_0 rfl ?_
  refine aw_getR K (c' := 1) dX4_halves_1 lk_X4_7_5 fd_18_0 ?_
  refine aw_bipush K dX4_halves_4 kb_12 ?_
  refine aw_callVV K dX4_halves_6 vw_X4_13_1 (c_f_Ho_began l _) hg (by decide) ob_1 rfl (Nat.le_of_ble_eq_true rfl) rfl rfl (fun _ σ1 _ => ?_)
  refine aw_aload_n K 0 dX4_halves_9 rfl ?_
  refine aw_getI K dX4_halves_10 lk_X4_19_5 fd_18_2 ?_
  refine aw_aload_n K 0 dX4_halves_13 rfl ?_
  refine aw_getI K dX4_halves_14 lk_X4_27_5 fd_18_1 ?_
  refine aw_icmp_ne K 30 dX4_halves_17 (by decide) (fun h_1 => ?_) (fun h_1 => ?_)
  · refine aw_iload_n K 1 dX4_halves_30 rfl ?_
    refine aw_aload_n K 0 dX4_halves_31 rfl ?_
    refine aw_getI K dX4_halves_32 lk_X4_19_5 fd_18_2 ?_
    refine aw_aload_n K 0 dX4_halves_35 rfl ?_
    refine aw_getI K dX4_halves_36 lk_X4_27_5 fd_18_1 ?_
    refine aw_isub K dX4_halves_39 ?_
    refine aw_gd (fun h_2 => ?_)
    refine aw_idiv K dX4_halves_40 h_2 ?_
    exact aw_iret dX4_halves_41
  · refine aw_aload_n K 0 dX4_halves_20 rfl ?_
    refine aw_getR K (c' := 1) dX4_halves_21 lk_X4_7_5 fd_18_0 ?_
    refine aw_iconst K dX4_halves_24 ki_1 ?_
    refine aw_putZ K dX4_halves_25 lp_X4_30_1 fd_1_8 (by decide) (fun σ2 => ?_)
    refine aw_iconst K dX4_halves_28 ki_0 ?_
    exact aw_iret dX4_halves_29
set_option maxRecDepth 100000 in
set_option maxHeartbeats 4000000 in
theorem c_f_Pr_halves (l : Launch) (x1 : Int32) : CTI l (2) yX5_halves cX5_halves 2 ((some .int)) (fun P => [rf P 18, .int x1]) (fun σ => f_Pr_halves x1 σ) := by
  refine met_I rfl rfl rfl (fun P => Nat.le_of_ble_eq_true rfl) (fun P G K hg σ => ?_)
  change AW P G 2 (EI P G cX5_halves) (f_Pr_halves x1 σ) σ 0 [(0, rf P 18), (1, .int x1)] []
  rw [f_Pr_halves]
  refine aw_aload_n K 0 dX5_halves_0 rfl ?_
  refine aw_getR K (c' := 1) dX5_halves_1 lk_X5_7_5 fd_18_0 ?_
  refine aw_bipush K dX5_halves_4 kb_40 ?_
  refine aw_callVV K dX5_halves_6 vw_X5_13_1 (c_f_Ho_began l _) hg (by decide) ob_1 rfl (Nat.le_of_ble_eq_true rfl) rfl rfl (fun _ σ1 _ => ?_)
  refine aw_aload_n K 0 dX5_halves_9 rfl ?_
  refine aw_iload_n K 1 dX5_halves_10 rfl ?_
  refine aw_iconst K dX5_halves_11 ki_3 ?_
  refine aw_isub K dX5_halves_12 ?_
  refine aw_callXI K dX5_halves_13 vw_X5_19_5 (c_f_Pe_halves_18 l _) hg (by decide) ob_18 rfl (Nat.le_of_ble_eq_true rfl) rfl rfl (fun r3 σ2 _ => ?_)
  exact aw_iret dX5_halves_16
set_option maxRecDepth 100000 in
set_option maxHeartbeats 4000000 in
theorem c_f_Pe_owes_18 (l : Launch) (x1 : Int32) : CTI l (3) yX4_owes cX4_owes 2 ((some .int)) (fun P => [rf P 18, .int x1]) (fun σ => f_Pe_owes_18 x1 σ) := by
  refine met_I rfl rfl rfl (fun P => Nat.le_of_ble_eq_true rfl) (fun P G K hg σ => ?_)
  change AW P G 2 (EI P G cX4_owes) (f_Pe_owes_18 x1 σ) σ 0 [(0, rf P 18), (1, .int x1)] []
  rw [f_Pe_owes_18]
  refine aw_aload_n K 0 dX4_owes_0 rfl ?_
  refine aw_getR K (c' := 1) dX4_owes_1 lk_X4_7_5 fd_18_0 ?_
  refine aw_bipush K dX4_owes_4 kb_13 ?_
  refine aw_callVV K dX4_owes_6 vw_X4_13_1 (c_f_Ho_began l _) hg (by decide) ob_1 rfl (Nat.le_of_ble_eq_true rfl) rfl rfl (fun _ σ1 _ => ?_)
  refine aw_aload_n K 0 dX4_owes_9 rfl ?_
  refine aw_iload_n K 1 dX4_owes_10 rfl ?_
  refine aw_callUI K dX4_owes_11 vw_X4_34_5 (c_f_Pe_takes_18 l _) hg (by decide) ob_18 rfl (Nat.le_of_ble_eq_true rfl) rfl rfl (fun r3 σ2 _ => ?_)
  refine aw_aload_n K 0 dX4_owes_14 rfl ?_
  refine aw_getI K dX4_owes_15 lk_X4_19_5 fd_18_2 ?_
  refine aw_ixor K dX4_owes_18 ?_
  exact aw_iret dX4_owes_19
set_option maxRecDepth 100000 in
set_option maxHeartbeats 4000000 in
theorem c_f_Pe_gives_19 (l : Launch) (x1 : Int32) : CTI l (1) yX4_gives cX4_gives 2 ((some .int)) (fun P => [rf P 19, .int x1]) (fun σ => f_Pe_gives_19 x1 σ) := by
  refine met_I rfl rfl rfl (fun P => Nat.le_of_ble_eq_true rfl) (fun P G K hg σ => ?_)
  change AW P G 2 (EI P G cX4_gives) (f_Pe_gives_19 x1 σ) σ 0 [(0, rf P 19), (1, .int x1)] []
  rw [f_Pe_gives_19]
  refine aw_aload_n K 0 dX4_gives_0 rfl ?_
  refine aw_getR K (c' := 1) dX4_gives_1 lk_X4_7_0 fd_19_0 ?_
  refine aw_bipush K dX4_gives_4 kb_10 ?_
  refine aw_callVV K dX4_gives_6 vw_X4_13_1 (c_f_Ho_began l _) hg (by decide) ob_1 rfl (Nat.le_of_ble_eq_true rfl) rfl rfl (fun _ σ1 _ => ?_)
  refine aw_iload_n K 1 dX4_gives_9 rfl ?_
  refine aw_aload_n K 0 dX4_gives_10 rfl ?_
  refine aw_getI K dX4_gives_11 lk_X4_19_0 fd_19_2 ?_
  refine aw_iadd K dX4_gives_14 ?_
  exact aw_iret dX4_gives_15
set_option maxRecDepth 100000 in
set_option maxHeartbeats 4000000 in
theorem c_f_Pe_takes_19 (l : Launch) (x1 : Int32) : CTI l (2) yX4_takes cX4_takes 2 ((some .int)) (fun P => [rf P 19, .int x1]) (fun σ => f_Pe_takes_19 x1 σ) := by
  refine met_I rfl rfl rfl (fun P => Nat.le_of_ble_eq_true rfl) (fun P G K hg σ => ?_)
  change AW P G 2 (EI P G cX4_takes) (f_Pe_takes_19 x1 σ) σ 0 [(0, rf P 19), (1, .int x1)] []
  rw [f_Pe_takes_19]
  refine aw_aload_n K 0 dX4_takes_0 rfl ?_
  refine aw_getR K (c' := 1) dX4_takes_1 lk_X4_7_0 fd_19_0 ?_
  refine aw_bipush K dX4_takes_4 kb_11 ?_
  refine aw_callVV K dX4_takes_6 vw_X4_13_1 (c_f_Ho_began l _) hg (by decide) ob_1 rfl (Nat.le_of_ble_eq_true rfl) rfl rfl (fun _ σ1 _ => ?_)
  refine aw_aload_n K 0 dX4_takes_9 rfl ?_
  refine aw_iload_n K 1 dX4_takes_10 rfl ?_
  refine aw_callUI K dX4_takes_11 vw_X4_23_0 (c_f_Pe_gives_19 l _) hg (by decide) ob_19 rfl (Nat.le_of_ble_eq_true rfl) rfl rfl (fun r3 σ2 _ => ?_)
  refine aw_aload_n K 0 dX4_takes_14 rfl ?_
  refine aw_getI K dX4_takes_15 lk_X4_27_0 fd_19_1 ?_
  refine aw_isub K dX4_takes_18 ?_
  exact aw_iret dX4_takes_19
set_option maxRecDepth 100000 in
set_option maxHeartbeats 4000000 in
theorem c_f_Be_takes (l : Launch) (x1 : Int32) : CTI l (3) yX0_takes cX0_takes 2 ((some .int)) (fun P => [rf P 19, .int x1]) (fun σ => f_Be_takes x1 σ) := by
  refine met_I rfl rfl rfl (fun P => Nat.le_of_ble_eq_true rfl) (fun P G K hg σ => ?_)
  change AW P G 2 (EI P G cX0_takes) (f_Be_takes x1 σ) σ 0 [(0, rf P 19), (1, .int x1)] []
  rw [f_Be_takes]
  refine aw_aload_n K 0 dX0_takes_0 rfl ?_
  refine aw_getR K (c' := 1) dX0_takes_1 lk_X0_11_0 fd_19_0 ?_
  refine aw_bipush K dX0_takes_4 kb_60 ?_
  refine aw_callVV K dX0_takes_6 vw_X0_17_1 (c_f_Ho_began l _) hg (by decide) ob_1 rfl (Nat.le_of_ble_eq_true rfl) rfl rfl (fun _ σ1 _ => ?_)
  refine aw_iconst K dX0_takes_9 ki_0 ?_
  refine aw_aload_n K 0 dX0_takes_10 rfl ?_
  refine aw_iload_n K 1 dX0_takes_11 rfl ?_
  refine aw_callYI K dX0_takes_12 vw_X0_23_0 (c_f_Pe_takes_19 l _) hg (by decide) ob_19 rfl (Nat.le_of_ble_eq_true rfl) rfl rfl (fun r3 σ2 _ => ?_)
  refine aw_isub K dX0_takes_15 ?_
  exact aw_iret dX0_takes_16
set_option maxRecDepth 100000 in
set_option maxHeartbeats 4000000 in
theorem c_f_Pe_halves_19 (l : Launch) (x1 : Int32) : CTI l (1) yX4_halves cX4_halves 2 ((some .int)) (fun P => [rf P 19, .int x1]) (fun σ => f_Pe_halves_19 x1 σ) := by
  refine met_I rfl rfl rfl (fun P => Nat.le_of_ble_eq_true rfl) (fun P G K hg σ => ?_)
  change AW P G 2 (EI P G cX4_halves) (f_Pe_halves_19 x1 σ) σ 0 [(0, rf P 19), (1, .int x1)] []
  rw [f_Pe_halves_19]
  refine aw_aload_n K 0 dX4_halves_0 rfl ?_
  refine aw_getR K (c' := 1) dX4_halves_1 lk_X4_7_0 fd_19_0 ?_
  refine aw_bipush K dX4_halves_4 kb_12 ?_
  refine aw_callVV K dX4_halves_6 vw_X4_13_1 (c_f_Ho_began l _) hg (by decide) ob_1 rfl (Nat.le_of_ble_eq_true rfl) rfl rfl (fun _ σ1 _ => ?_)
  refine aw_aload_n K 0 dX4_halves_9 rfl ?_
  refine aw_getI K dX4_halves_10 lk_X4_19_0 fd_19_2 ?_
  refine aw_aload_n K 0 dX4_halves_13 rfl ?_
  refine aw_getI K dX4_halves_14 lk_X4_27_0 fd_19_1 ?_
  refine aw_icmp_ne K 30 dX4_halves_17 (by decide) (fun h_1 => ?_) (fun h_1 => ?_)
  · refine aw_iload_n K 1 dX4_halves_30 rfl ?_
    refine aw_aload_n K 0 dX4_halves_31 rfl ?_
    refine aw_getI K dX4_halves_32 lk_X4_19_0 fd_19_2 ?_
    refine aw_aload_n K 0 dX4_halves_35 rfl ?_
    refine aw_getI K dX4_halves_36 lk_X4_27_0 fd_19_1 ?_
    refine aw_isub K dX4_halves_39 ?_
    refine aw_gd (fun h_2 => ?_)
    refine aw_idiv K dX4_halves_40 h_2 ?_
    exact aw_iret dX4_halves_41
  · refine aw_aload_n K 0 dX4_halves_20 rfl ?_
    refine aw_getR K (c' := 1) dX4_halves_21 lk_X4_7_0 fd_19_0 ?_
    refine aw_iconst K dX4_halves_24 ki_1 ?_
    refine aw_putZ K dX4_halves_25 lp_X4_30_1 fd_1_8 (by decide) (fun σ2 => ?_)
    refine aw_iconst K dX4_halves_28 ki_0 ?_
    exact aw_iret dX4_halves_29
set_option maxRecDepth 100000 in
set_option maxHeartbeats 4000000 in
theorem c_f_Pr_halves_19 (l : Launch) (x1 : Int32) : CTI l (2) yX5_halves cX5_halves 2 ((some .int)) (fun P => [rf P 19, .int x1]) (fun σ => f_Pr_halves_19 x1 σ) := by
  refine met_I rfl rfl rfl (fun P => Nat.le_of_ble_eq_true rfl) (fun P G K hg σ => ?_)
  change AW P G 2 (EI P G cX5_halves) (f_Pr_halves_19 x1 σ) σ 0 [(0, rf P 19), (1, .int x1)] []
  rw [f_Pr_halves_19]
  refine aw_aload_n K 0 dX5_halves_0 rfl ?_
  refine aw_getR K (c' := 1) dX5_halves_1 lk_X5_7_0 fd_19_0 ?_
  refine aw_bipush K dX5_halves_4 kb_40 ?_
  refine aw_callVV K dX5_halves_6 vw_X5_13_1 (c_f_Ho_began l _) hg (by decide) ob_1 rfl (Nat.le_of_ble_eq_true rfl) rfl rfl (fun _ σ1 _ => ?_)
  refine aw_aload_n K 0 dX5_halves_9 rfl ?_
  refine aw_iload_n K 1 dX5_halves_10 rfl ?_
  refine aw_iconst K dX5_halves_11 ki_3 ?_
  refine aw_isub K dX5_halves_12 ?_
  refine aw_callXI K dX5_halves_13 vw_X5_19_0 (c_f_Pe_halves_19 l _) hg (by decide) ob_19 rfl (Nat.le_of_ble_eq_true rfl) rfl rfl (fun r3 σ2 _ => ?_)
  exact aw_iret dX5_halves_16
set_option maxRecDepth 100000 in
set_option maxHeartbeats 4000000 in
theorem c_f_Be_halves (l : Launch) (x1 : Int32) : CTI l (3) yX0_halves cX0_halves 2 ((some .int)) (fun P => [rf P 19, .int x1]) (fun σ => f_Be_halves x1 σ) := by
  refine met_I rfl rfl rfl (fun P => Nat.le_of_ble_eq_true rfl) (fun P G K hg σ => ?_)
  change AW P G 2 (EI P G cX0_halves) (f_Be_halves x1 σ) σ 0 [(0, rf P 19), (1, .int x1)] []
  rw [f_Be_halves]
  refine aw_aload_n K 0 dX0_halves_0 rfl ?_
  refine aw_getR K (c' := 1) dX0_halves_1 lk_X0_11_0 fd_19_0 ?_
  refine aw_bipush K dX0_halves_4 kb_61 ?_
  refine aw_callVV K dX0_halves_6 vw_X0_17_1 (c_f_Ho_began l _) hg (by decide) ob_1 rfl (Nat.le_of_ble_eq_true rfl) rfl rfl (fun _ σ1 _ => ?_)
  refine aw_aload_n K 0 dX0_halves_9 rfl ?_
  refine aw_iload_n K 1 dX0_halves_10 rfl ?_
  refine aw_callXI K dX0_halves_11 vw_X0_27_0 (c_f_Pr_halves_19 l _) hg (by decide) ob_19 rfl (Nat.le_of_ble_eq_true rfl) rfl rfl (fun r3 σ2 _ => ?_)
  refine aw_aload_n K 0 dX0_halves_14 rfl ?_
  refine aw_aload_n K 0 dX0_halves_15 rfl ?_
  refine aw_getI K dX0_halves_16 lk_X0_30_0 fd_19_1 ?_
  refine aw_callUI K dX0_halves_19 vw_X0_34_0 (c_f_Pe_gives_19 l _) hg (by decide) ob_19 rfl (Nat.le_of_ble_eq_true rfl) rfl rfl (fun r5 σ4 _ => ?_)
  refine aw_isub K dX0_halves_22 ?_
  exact aw_iret dX0_halves_23
set_option maxRecDepth 100000 in
set_option maxHeartbeats 4000000 in
theorem c_f_Pe_owes_19 (l : Launch) (x1 : Int32) : CTI l (4) yX4_owes cX4_owes 2 ((some .int)) (fun P => [rf P 19, .int x1]) (fun σ => f_Pe_owes_19 x1 σ) := by
  refine met_I rfl rfl rfl (fun P => Nat.le_of_ble_eq_true rfl) (fun P G K hg σ => ?_)
  change AW P G 2 (EI P G cX4_owes) (f_Pe_owes_19 x1 σ) σ 0 [(0, rf P 19), (1, .int x1)] []
  rw [f_Pe_owes_19]
  refine aw_aload_n K 0 dX4_owes_0 rfl ?_
  refine aw_getR K (c' := 1) dX4_owes_1 lk_X4_7_0 fd_19_0 ?_
  refine aw_bipush K dX4_owes_4 kb_13 ?_
  refine aw_callVV K dX4_owes_6 vw_X4_13_1 (c_f_Ho_began l _) hg (by decide) ob_1 rfl (Nat.le_of_ble_eq_true rfl) rfl rfl (fun _ σ1 _ => ?_)
  refine aw_aload_n K 0 dX4_owes_9 rfl ?_
  refine aw_iload_n K 1 dX4_owes_10 rfl ?_
  refine aw_callOI K dX4_owes_11 vw_X4_34_0 (c_f_Be_takes l _) hg (by decide) ob_19 rfl (Nat.le_of_ble_eq_true rfl) rfl rfl (fun r3 σ2 _ => ?_)
  refine aw_aload_n K 0 dX4_owes_14 rfl ?_
  refine aw_getI K dX4_owes_15 lk_X4_19_0 fd_19_2 ?_
  refine aw_ixor K dX4_owes_18 ?_
  exact aw_iret dX4_owes_19
set_option maxRecDepth 100000 in
set_option maxHeartbeats 4000000 in
theorem c_f_H_act (l : Launch) (x1 : Int32) (x2 : Int32) (x3 : Int32) : CTI l (7) yX11_act cX11_act 7 ((some .int)) (fun P => [rf P 0, .int x1, .int x2, .int x3]) (fun σ => f_H_act x1 x2 x3 σ) := by
  refine met_I rfl rfl rfl (fun P => Nat.le_of_ble_eq_true rfl) (fun P G K hg σ => ?_)
  change AW P G 7 (EI P G cX11_act) (f_H_act x1 x2 x3 σ) σ 0 [(0, rf P 0), (1, .int x1), (2, .int x2), (3, .int x3)] []
  rw [f_H_act]
  refine aw_aload_n K 0 dX11_act_0 rfl ?_
  refine aw_getR K (c' := 1) dX11_act_1 lk_X11_10_11 fd_0_0 ?_
  refine aw_callVV K dX11_act_4 vw_X11_284_1 (c_f_Ho_startTrace l) hg (by decide) ob_1 rfl (Nat.le_of_ble_eq_true rfl) rfl rfl (fun _ σ1 _ => ?_)
  refine aw_aload_n K 0 dX11_act_7 rfl ?_
  refine aw_iload_n K 1 dX11_act_8 rfl ?_
  refine aw_callVI K dX11_act_9 vw_X11_278_11 (c_f_H_personOn l _) hg (by decide) ob_0 rfl (Nat.le_of_ble_eq_true rfl) rfl rfl (fun r3 σ2 _ => ?_)
  refine aw_istore K (i := 4) (lv' := [(4, .int r3), (0, rf P 0), (1, .int x1), (2, .int x2), (3, .int x3)]) dX11_act_12 (Nat.le_of_ble_eq_true rfl) rfl ?_
  refine aw_iload K 0 dX11_act_14 rfl ?_
  refine aw_if_lt K 28 dX11_act_16 (by decide) (fun h_1 => ?_) (fun h_1 => ?_)
  · refine aw_iconst K dX11_act_28 ki_0 ?_
    exact aw_iret dX11_act_29
  · refine aw_iload_n K 3 dX11_act_19 rfl ?_
    refine aw_iconst K dX11_act_20 ki_0 ?_
    refine aw_iconst K dX11_act_21 ki_3 ?_
    refine aw_callSI K dX11_act_22 vw_X11_72 (c_f_H_isIn l _ _ _) hg (by decide) rfl (Nat.le_of_ble_eq_true rfl) rfl rfl (fun r5 σ4 _ => ?_)
    refine aw_if_ne K 30 dX11_act_25 (by decide) (fun h_2 => ?_) (fun h_2 => ?_)
    · refine aw_aload_n K 1 dX11_act_30 rfl ?_
      refine aw_getR K (c' := 20) dX11_act_31 lk_X11_41_11 fd_0_1 ?_
      refine aw_getR K (c' := 13) dX11_act_34 lk_X11_287_9 fd_20_0 ?_
      refine aw_aload_n K 1 dX11_act_37 rfl ?_
      refine aw_getR K (c' := 20) dX11_act_38 lk_X11_41_11 fd_0_1 ?_
      refine aw_getR K (c' := 28) dX11_act_41 lk_X11_84_9 fd_20_3 ?_
      refine aw_iload K 0 dX11_act_44 rfl ?_
      refine aw_gd (fun h_3 => ?_)
      refine aw_ald K dX11_act_46 ad_28 h_3 rfl ?_
      refine aw_gd (fun h_4 => ?_)
      refine aw_ite (fun h_5 => ?_) (fun h_5 => ?_)
      · refine aw_aaldP K (q := 14) dX11_act_47 ad_13 h_4 (by rw [h_5, kn_0]) ?_
        refine aw_astore K (i := 5) (lv' := [(5, rf P 14), (4, .int r3), (0, rf P 0), (1, .int x1), (2, .int x2), (3, .int x3)]) dX11_act_48 (Nat.le_of_ble_eq_true rfl) rfl ?_
        refine aw_aload K 0 dX11_act_50 rfl ?_
        refine aw_iload K 1 dX11_act_52 rfl ?_
        refine aw_putI K dX11_act_54 lp_X11_291_4 fd_14_1 (fun σ6 => ?_)
        refine aw_aload K 0 dX11_act_57 rfl ?_
        refine aw_aload_n K 2 dX11_act_59 rfl ?_
        refine aw_getR K (c' := 20) dX11_act_60 lk_X11_41_11 fd_0_1 ?_
        refine aw_getR K (c' := 30) dX11_act_63 lk_X11_91_9 fd_20_5 ?_
        refine aw_iload K 1 dX11_act_66 rfl ?_
        refine aw_gd (fun h_6 => ?_)
        refine aw_ald K dX11_act_68 ad_30 h_6 rfl ?_
        refine aw_putI K dX11_act_69 lp_X11_294_4 fd_14_2 (fun σ7 => ?_)
        refine aw_iload_n K 4 dX11_act_72 rfl ?_
        refine aw_ite (fun h_7 => ?_) (fun h_7 => ?_)
        · refine aw_tabIn K 100 (0) dX11_act_73 (ti_of h_7 kt_0) (by decide) (by decide) rfl (by decide) ?_
          refine aw_aload K 0 dX11_act_100 rfl ?_
          refine aw_iload_n K 5 dX11_act_102 rfl ?_
          refine aw_callVI K dX11_act_103 vw_X11_297_4 (c_f_Pe_gives l _) hg (by decide) ob_14 rfl (Nat.le_of_ble_eq_true rfl) rfl rfl (fun r9 σ8 _ => ?_)
          refine aw_istore K (i := 6) (lv' := [(6, .int r9), (5, rf P 14), (4, .int r3), (0, rf P 0), (1, .int x1), (2, .int x2), (3, .int x3)]) dX11_act_106 (Nat.le_of_ble_eq_true rfl) rfl ?_
          refine aw_goto K 141 dX11_act_108 (by decide) ?_
          refine aw_aload_n K 3 dX11_act_141 rfl ?_
          refine aw_getR K (c' := 1) dX11_act_142 lk_X11_10_11 fd_0_0 ?_
          refine aw_getZ K dX11_act_145 lk_X11_309_1 fd_1_8 ?_
          refine aw_if_eq K 156 dX11_act_148 (by decide) (fun h_8 => ?_) (fun h_8 => ?_)
          · refine aw_iload K 0 dX11_act_156 rfl ?_
            exact aw_iret dX11_act_158
          · refine aw_bipush K dX11_act_151 kb_m15 ?_
            refine aw_goto K 158 dX11_act_153 (by decide) ?_
            exact aw_iret dX11_act_158
        refine aw_ite (fun h_9 => ?_) (fun h_9 => ?_)
        · refine aw_tabIn K 111 (1) dX11_act_73 (ti_of h_9 kt_1) (by decide) (by decide) rfl (by decide) ?_
          refine aw_aload K 0 dX11_act_111 rfl ?_
          refine aw_iload_n K 5 dX11_act_113 rfl ?_
          refine aw_callVI K dX11_act_114 vw_X11_300_4 (c_f_Pe_takes l _) hg (by decide) ob_14 rfl (Nat.le_of_ble_eq_true rfl) rfl rfl (fun r11 σ10 _ => ?_)
          refine aw_istore K (i := 6) (lv' := [(6, .int r11), (5, rf P 14), (4, .int r3), (0, rf P 0), (1, .int x1), (2, .int x2), (3, .int x3)]) dX11_act_117 (Nat.le_of_ble_eq_true rfl) rfl ?_
          refine aw_goto K 141 dX11_act_119 (by decide) ?_
          refine aw_aload_n K 3 dX11_act_141 rfl ?_
          refine aw_getR K (c' := 1) dX11_act_142 lk_X11_10_11 fd_0_0 ?_
          refine aw_getZ K dX11_act_145 lk_X11_309_1 fd_1_8 ?_
          refine aw_if_eq K 156 dX11_act_148 (by decide) (fun h_10 => ?_) (fun h_10 => ?_)
          · refine aw_iload K 0 dX11_act_156 rfl ?_
            exact aw_iret dX11_act_158
          · refine aw_bipush K dX11_act_151 kb_m15 ?_
            refine aw_goto K 158 dX11_act_153 (by decide) ?_
            exact aw_iret dX11_act_158
        refine aw_ite (fun h_11 => ?_) (fun h_11 => ?_)
        · refine aw_tabIn K 122 (2) dX11_act_73 (ti_of h_11 kt_2) (by decide) (by decide) rfl (by decide) ?_
          refine aw_aload K 0 dX11_act_122 rfl ?_
          refine aw_iload_n K 5 dX11_act_124 rfl ?_
          refine aw_callVI K dX11_act_125 vw_X11_303_4 (c_f_Pe_halves l _) hg (by decide) ob_14 rfl (Nat.le_of_ble_eq_true rfl) rfl rfl (fun r13 σ12 _ => ?_)
          refine aw_istore K (i := 6) (lv' := [(6, .int r13), (5, rf P 14), (4, .int r3), (0, rf P 0), (1, .int x1), (2, .int x2), (3, .int x3)]) dX11_act_128 (Nat.le_of_ble_eq_true rfl) rfl ?_
          refine aw_goto K 141 dX11_act_130 (by decide) ?_
          refine aw_aload_n K 3 dX11_act_141 rfl ?_
          refine aw_getR K (c' := 1) dX11_act_142 lk_X11_10_11 fd_0_0 ?_
          refine aw_getZ K dX11_act_145 lk_X11_309_1 fd_1_8 ?_
          refine aw_if_eq K 156 dX11_act_148 (by decide) (fun h_12 => ?_) (fun h_12 => ?_)
          · refine aw_iload K 0 dX11_act_156 rfl ?_
            exact aw_iret dX11_act_158
          · refine aw_bipush K dX11_act_151 kb_m15 ?_
            refine aw_goto K 158 dX11_act_153 (by decide) ?_
            exact aw_iret dX11_act_158
        refine aw_tabOut K 133 dX11_act_73 (by have := lv_neT h_7 kt_0; have := lv_neT h_9 kt_1; have := lv_neT h_11 kt_2; omega) (by decide) ?_
        refine aw_aload K 0 dX11_act_133 rfl ?_
        refine aw_iload_n K 5 dX11_act_135 rfl ?_
        refine aw_callVI K dX11_act_136 vw_X11_306_4 (c_f_Pe_owes l _) hg (by decide) ob_14 rfl (Nat.le_of_ble_eq_true rfl) rfl rfl (fun r15 σ14 _ => ?_)
        refine aw_istore K (i := 6) (lv' := [(6, .int r15), (5, rf P 14), (4, .int r3), (0, rf P 0), (1, .int x1), (2, .int x2), (3, .int x3)]) dX11_act_139 (Nat.le_of_ble_eq_true rfl) rfl ?_
        refine aw_aload_n K 3 dX11_act_141 rfl ?_
        refine aw_getR K (c' := 1) dX11_act_142 lk_X11_10_11 fd_0_0 ?_
        refine aw_getZ K dX11_act_145 lk_X11_309_1 fd_1_8 ?_
        refine aw_if_eq K 156 dX11_act_148 (by decide) (fun h_13 => ?_) (fun h_13 => ?_)
        · refine aw_iload K 0 dX11_act_156 rfl ?_
          exact aw_iret dX11_act_158
        · refine aw_bipush K dX11_act_151 kb_m15 ?_
          refine aw_goto K 158 dX11_act_153 (by decide) ?_
          exact aw_iret dX11_act_158
      refine aw_ite (fun h_14 => ?_) (fun h_14 => ?_)
      · refine aw_aaldP K (q := 15) dX11_act_47 ad_13 h_4 (by rw [h_14, kn_1]) ?_
        refine aw_astore K (i := 5) (lv' := [(5, rf P 15), (4, .int r3), (0, rf P 0), (1, .int x1), (2, .int x2), (3, .int x3)]) dX11_act_48 (Nat.le_of_ble_eq_true rfl) rfl ?_
        refine aw_aload K 0 dX11_act_50 rfl ?_
        refine aw_iload K 1 dX11_act_52 rfl ?_
        refine aw_putI K dX11_act_54 lp_X11_291_2 fd_15_1 (fun σ16 => ?_)
        refine aw_aload K 0 dX11_act_57 rfl ?_
        refine aw_aload_n K 2 dX11_act_59 rfl ?_
        refine aw_getR K (c' := 20) dX11_act_60 lk_X11_41_11 fd_0_1 ?_
        refine aw_getR K (c' := 30) dX11_act_63 lk_X11_91_9 fd_20_5 ?_
        refine aw_iload K 1 dX11_act_66 rfl ?_
        refine aw_gd (fun h_15 => ?_)
        refine aw_ald K dX11_act_68 ad_30 h_15 rfl ?_
        refine aw_putI K dX11_act_69 lp_X11_294_2 fd_15_2 (fun σ17 => ?_)
        refine aw_iload_n K 4 dX11_act_72 rfl ?_
        refine aw_ite (fun h_16 => ?_) (fun h_16 => ?_)
        · refine aw_tabIn K 100 (0) dX11_act_73 (ti_of h_16 kt_0) (by decide) (by decide) rfl (by decide) ?_
          refine aw_aload K 0 dX11_act_100 rfl ?_
          refine aw_iload_n K 5 dX11_act_102 rfl ?_
          refine aw_callOI K dX11_act_103 vw_X11_297_2 (c_f_Ma_gives l _) hg (by decide) ob_15 rfl (Nat.le_of_ble_eq_true rfl) rfl rfl (fun r19 σ18 _ => ?_)
          refine aw_istore K (i := 6) (lv' := [(6, .int r19), (5, rf P 15), (4, .int r3), (0, rf P 0), (1, .int x1), (2, .int x2), (3, .int x3)]) dX11_act_106 (Nat.le_of_ble_eq_true rfl) rfl ?_
          refine aw_goto K 141 dX11_act_108 (by decide) ?_
          refine aw_aload_n K 3 dX11_act_141 rfl ?_
          refine aw_getR K (c' := 1) dX11_act_142 lk_X11_10_11 fd_0_0 ?_
          refine aw_getZ K dX11_act_145 lk_X11_309_1 fd_1_8 ?_
          refine aw_if_eq K 156 dX11_act_148 (by decide) (fun h_17 => ?_) (fun h_17 => ?_)
          · refine aw_iload K 0 dX11_act_156 rfl ?_
            exact aw_iret dX11_act_158
          · refine aw_bipush K dX11_act_151 kb_m15 ?_
            refine aw_goto K 158 dX11_act_153 (by decide) ?_
            exact aw_iret dX11_act_158
        refine aw_ite (fun h_18 => ?_) (fun h_18 => ?_)
        · refine aw_tabIn K 111 (1) dX11_act_73 (ti_of h_18 kt_1) (by decide) (by decide) rfl (by decide) ?_
          refine aw_aload K 0 dX11_act_111 rfl ?_
          refine aw_iload_n K 5 dX11_act_113 rfl ?_
          refine aw_callUI K dX11_act_114 vw_X11_300_2 (c_f_Pe_takes_15 l _) hg (by decide) ob_15 rfl (Nat.le_of_ble_eq_true rfl) rfl rfl (fun r21 σ20 _ => ?_)
          refine aw_istore K (i := 6) (lv' := [(6, .int r21), (5, rf P 15), (4, .int r3), (0, rf P 0), (1, .int x1), (2, .int x2), (3, .int x3)]) dX11_act_117 (Nat.le_of_ble_eq_true rfl) rfl ?_
          refine aw_goto K 141 dX11_act_119 (by decide) ?_
          refine aw_aload_n K 3 dX11_act_141 rfl ?_
          refine aw_getR K (c' := 1) dX11_act_142 lk_X11_10_11 fd_0_0 ?_
          refine aw_getZ K dX11_act_145 lk_X11_309_1 fd_1_8 ?_
          refine aw_if_eq K 156 dX11_act_148 (by decide) (fun h_19 => ?_) (fun h_19 => ?_)
          · refine aw_iload K 0 dX11_act_156 rfl ?_
            exact aw_iret dX11_act_158
          · refine aw_bipush K dX11_act_151 kb_m15 ?_
            refine aw_goto K 158 dX11_act_153 (by decide) ?_
            exact aw_iret dX11_act_158
        refine aw_ite (fun h_20 => ?_) (fun h_20 => ?_)
        · refine aw_tabIn K 122 (2) dX11_act_73 (ti_of h_20 kt_2) (by decide) (by decide) rfl (by decide) ?_
          refine aw_aload K 0 dX11_act_122 rfl ?_
          refine aw_iload_n K 5 dX11_act_124 rfl ?_
          refine aw_callUI K dX11_act_125 vw_X11_303_2 (c_f_Pe_halves_15 l _) hg (by decide) ob_15 rfl (Nat.le_of_ble_eq_true rfl) rfl rfl (fun r23 σ22 _ => ?_)
          refine aw_istore K (i := 6) (lv' := [(6, .int r23), (5, rf P 15), (4, .int r3), (0, rf P 0), (1, .int x1), (2, .int x2), (3, .int x3)]) dX11_act_128 (Nat.le_of_ble_eq_true rfl) rfl ?_
          refine aw_goto K 141 dX11_act_130 (by decide) ?_
          refine aw_aload_n K 3 dX11_act_141 rfl ?_
          refine aw_getR K (c' := 1) dX11_act_142 lk_X11_10_11 fd_0_0 ?_
          refine aw_getZ K dX11_act_145 lk_X11_309_1 fd_1_8 ?_
          refine aw_if_eq K 156 dX11_act_148 (by decide) (fun h_21 => ?_) (fun h_21 => ?_)
          · refine aw_iload K 0 dX11_act_156 rfl ?_
            exact aw_iret dX11_act_158
          · refine aw_bipush K dX11_act_151 kb_m15 ?_
            refine aw_goto K 158 dX11_act_153 (by decide) ?_
            exact aw_iret dX11_act_158
        refine aw_tabOut K 133 dX11_act_73 (by have := lv_neT h_16 kt_0; have := lv_neT h_18 kt_1; have := lv_neT h_20 kt_2; omega) (by decide) ?_
        refine aw_aload K 0 dX11_act_133 rfl ?_
        refine aw_iload_n K 5 dX11_act_135 rfl ?_
        refine aw_callUI K dX11_act_136 vw_X11_306_2 (c_f_Pe_owes_15 l _) hg (by decide) ob_15 rfl (Nat.le_of_ble_eq_true rfl) rfl rfl (fun r25 σ24 _ => ?_)
        refine aw_istore K (i := 6) (lv' := [(6, .int r25), (5, rf P 15), (4, .int r3), (0, rf P 0), (1, .int x1), (2, .int x2), (3, .int x3)]) dX11_act_139 (Nat.le_of_ble_eq_true rfl) rfl ?_
        refine aw_aload_n K 3 dX11_act_141 rfl ?_
        refine aw_getR K (c' := 1) dX11_act_142 lk_X11_10_11 fd_0_0 ?_
        refine aw_getZ K dX11_act_145 lk_X11_309_1 fd_1_8 ?_
        refine aw_if_eq K 156 dX11_act_148 (by decide) (fun h_22 => ?_) (fun h_22 => ?_)
        · refine aw_iload K 0 dX11_act_156 rfl ?_
          exact aw_iret dX11_act_158
        · refine aw_bipush K dX11_act_151 kb_m15 ?_
          refine aw_goto K 158 dX11_act_153 (by decide) ?_
          exact aw_iret dX11_act_158
      refine aw_ite (fun h_23 => ?_) (fun h_23 => ?_)
      · refine aw_aaldP K (q := 16) dX11_act_47 ad_13 h_4 (by rw [h_23, kn_2]) ?_
        refine aw_astore K (i := 5) (lv' := [(5, rf P 16), (4, .int r3), (0, rf P 0), (1, .int x1), (2, .int x2), (3, .int x3)]) dX11_act_48 (Nat.le_of_ble_eq_true rfl) rfl ?_
        refine aw_aload K 0 dX11_act_50 rfl ?_
        refine aw_iload K 1 dX11_act_52 rfl ?_
        refine aw_putI K dX11_act_54 lp_X11_291_3 fd_16_1 (fun σ26 => ?_)
        refine aw_aload K 0 dX11_act_57 rfl ?_
        refine aw_aload_n K 2 dX11_act_59 rfl ?_
        refine aw_getR K (c' := 20) dX11_act_60 lk_X11_41_11 fd_0_1 ?_
        refine aw_getR K (c' := 30) dX11_act_63 lk_X11_91_9 fd_20_5 ?_
        refine aw_iload K 1 dX11_act_66 rfl ?_
        refine aw_gd (fun h_24 => ?_)
        refine aw_ald K dX11_act_68 ad_30 h_24 rfl ?_
        refine aw_putI K dX11_act_69 lp_X11_294_3 fd_16_2 (fun σ27 => ?_)
        refine aw_iload_n K 4 dX11_act_72 rfl ?_
        refine aw_ite (fun h_25 => ?_) (fun h_25 => ?_)
        · refine aw_tabIn K 100 (0) dX11_act_73 (ti_of h_25 kt_0) (by decide) (by decide) rfl (by decide) ?_
          refine aw_aload K 0 dX11_act_100 rfl ?_
          refine aw_iload_n K 5 dX11_act_102 rfl ?_
          refine aw_callUI K dX11_act_103 vw_X11_297_3 (c_f_Pe_gives_16 l _) hg (by decide) ob_16 rfl (Nat.le_of_ble_eq_true rfl) rfl rfl (fun r29 σ28 _ => ?_)
          refine aw_istore K (i := 6) (lv' := [(6, .int r29), (5, rf P 16), (4, .int r3), (0, rf P 0), (1, .int x1), (2, .int x2), (3, .int x3)]) dX11_act_106 (Nat.le_of_ble_eq_true rfl) rfl ?_
          refine aw_goto K 141 dX11_act_108 (by decide) ?_
          refine aw_aload_n K 3 dX11_act_141 rfl ?_
          refine aw_getR K (c' := 1) dX11_act_142 lk_X11_10_11 fd_0_0 ?_
          refine aw_getZ K dX11_act_145 lk_X11_309_1 fd_1_8 ?_
          refine aw_if_eq K 156 dX11_act_148 (by decide) (fun h_26 => ?_) (fun h_26 => ?_)
          · refine aw_iload K 0 dX11_act_156 rfl ?_
            exact aw_iret dX11_act_158
          · refine aw_bipush K dX11_act_151 kb_m15 ?_
            refine aw_goto K 158 dX11_act_153 (by decide) ?_
            exact aw_iret dX11_act_158
        refine aw_ite (fun h_27 => ?_) (fun h_27 => ?_)
        · refine aw_tabIn K 111 (1) dX11_act_73 (ti_of h_27 kt_1) (by decide) (by decide) rfl (by decide) ?_
          refine aw_aload K 0 dX11_act_111 rfl ?_
          refine aw_iload_n K 5 dX11_act_113 rfl ?_
          refine aw_callOI K dX11_act_114 vw_X11_300_3 (c_f_Mi_takes l _) hg (by decide) ob_16 rfl (Nat.le_of_ble_eq_true rfl) rfl rfl (fun r31 σ30 _ => ?_)
          refine aw_istore K (i := 6) (lv' := [(6, .int r31), (5, rf P 16), (4, .int r3), (0, rf P 0), (1, .int x1), (2, .int x2), (3, .int x3)]) dX11_act_117 (Nat.le_of_ble_eq_true rfl) rfl ?_
          refine aw_goto K 141 dX11_act_119 (by decide) ?_
          refine aw_aload_n K 3 dX11_act_141 rfl ?_
          refine aw_getR K (c' := 1) dX11_act_142 lk_X11_10_11 fd_0_0 ?_
          refine aw_getZ K dX11_act_145 lk_X11_309_1 fd_1_8 ?_
          refine aw_if_eq K 156 dX11_act_148 (by decide) (fun h_28 => ?_) (fun h_28 => ?_)
          · refine aw_iload K 0 dX11_act_156 rfl ?_
            exact aw_iret dX11_act_158
          · refine aw_bipush K dX11_act_151 kb_m15 ?_
            refine aw_goto K 158 dX11_act_153 (by decide) ?_
            exact aw_iret dX11_act_158
        refine aw_ite (fun h_29 => ?_) (fun h_29 => ?_)
        · refine aw_tabIn K 122 (2) dX11_act_73 (ti_of h_29 kt_2) (by decide) (by decide) rfl (by decide) ?_
          refine aw_aload K 0 dX11_act_122 rfl ?_
          refine aw_iload_n K 5 dX11_act_124 rfl ?_
          refine aw_callUI K dX11_act_125 vw_X11_303_3 (c_f_Pe_halves_16 l _) hg (by decide) ob_16 rfl (Nat.le_of_ble_eq_true rfl) rfl rfl (fun r33 σ32 _ => ?_)
          refine aw_istore K (i := 6) (lv' := [(6, .int r33), (5, rf P 16), (4, .int r3), (0, rf P 0), (1, .int x1), (2, .int x2), (3, .int x3)]) dX11_act_128 (Nat.le_of_ble_eq_true rfl) rfl ?_
          refine aw_goto K 141 dX11_act_130 (by decide) ?_
          refine aw_aload_n K 3 dX11_act_141 rfl ?_
          refine aw_getR K (c' := 1) dX11_act_142 lk_X11_10_11 fd_0_0 ?_
          refine aw_getZ K dX11_act_145 lk_X11_309_1 fd_1_8 ?_
          refine aw_if_eq K 156 dX11_act_148 (by decide) (fun h_30 => ?_) (fun h_30 => ?_)
          · refine aw_iload K 0 dX11_act_156 rfl ?_
            exact aw_iret dX11_act_158
          · refine aw_bipush K dX11_act_151 kb_m15 ?_
            refine aw_goto K 158 dX11_act_153 (by decide) ?_
            exact aw_iret dX11_act_158
        refine aw_tabOut K 133 dX11_act_73 (by have := lv_neT h_25 kt_0; have := lv_neT h_27 kt_1; have := lv_neT h_29 kt_2; omega) (by decide) ?_
        refine aw_aload K 0 dX11_act_133 rfl ?_
        refine aw_iload_n K 5 dX11_act_135 rfl ?_
        refine aw_callUI K dX11_act_136 vw_X11_306_3 (c_f_Pe_owes_16 l _) hg (by decide) ob_16 rfl (Nat.le_of_ble_eq_true rfl) rfl rfl (fun r35 σ34 _ => ?_)
        refine aw_istore K (i := 6) (lv' := [(6, .int r35), (5, rf P 16), (4, .int r3), (0, rf P 0), (1, .int x1), (2, .int x2), (3, .int x3)]) dX11_act_139 (Nat.le_of_ble_eq_true rfl) rfl ?_
        refine aw_aload_n K 3 dX11_act_141 rfl ?_
        refine aw_getR K (c' := 1) dX11_act_142 lk_X11_10_11 fd_0_0 ?_
        refine aw_getZ K dX11_act_145 lk_X11_309_1 fd_1_8 ?_
        refine aw_if_eq K 156 dX11_act_148 (by decide) (fun h_31 => ?_) (fun h_31 => ?_)
        · refine aw_iload K 0 dX11_act_156 rfl ?_
          exact aw_iret dX11_act_158
        · refine aw_bipush K dX11_act_151 kb_m15 ?_
          refine aw_goto K 158 dX11_act_153 (by decide) ?_
          exact aw_iret dX11_act_158
      refine aw_ite (fun h_32 => ?_) (fun h_32 => ?_)
      · refine aw_aaldP K (q := 17) dX11_act_47 ad_13 h_4 (by rw [h_32, kn_3]) ?_
        refine aw_astore K (i := 5) (lv' := [(5, rf P 17), (4, .int r3), (0, rf P 0), (1, .int x1), (2, .int x2), (3, .int x3)]) dX11_act_48 (Nat.le_of_ble_eq_true rfl) rfl ?_
        refine aw_aload K 0 dX11_act_50 rfl ?_
        refine aw_iload K 1 dX11_act_52 rfl ?_
        refine aw_putI K dX11_act_54 lp_X11_291_10 fd_17_1 (fun σ36 => ?_)
        refine aw_aload K 0 dX11_act_57 rfl ?_
        refine aw_aload_n K 2 dX11_act_59 rfl ?_
        refine aw_getR K (c' := 20) dX11_act_60 lk_X11_41_11 fd_0_1 ?_
        refine aw_getR K (c' := 30) dX11_act_63 lk_X11_91_9 fd_20_5 ?_
        refine aw_iload K 1 dX11_act_66 rfl ?_
        refine aw_gd (fun h_33 => ?_)
        refine aw_ald K dX11_act_68 ad_30 h_33 rfl ?_
        refine aw_putI K dX11_act_69 lp_X11_294_10 fd_17_2 (fun σ37 => ?_)
        refine aw_iload_n K 4 dX11_act_72 rfl ?_
        refine aw_ite (fun h_34 => ?_) (fun h_34 => ?_)
        · refine aw_tabIn K 100 (0) dX11_act_73 (ti_of h_34 kt_0) (by decide) (by decide) rfl (by decide) ?_
          refine aw_aload K 0 dX11_act_100 rfl ?_
          refine aw_iload_n K 5 dX11_act_102 rfl ?_
          refine aw_callOI K dX11_act_103 vw_X11_297_10 (c_f_Wi_gives l _) hg (by decide) ob_17 rfl (Nat.le_of_ble_eq_true rfl) rfl rfl (fun r39 σ38 _ => ?_)
          refine aw_istore K (i := 6) (lv' := [(6, .int r39), (5, rf P 17), (4, .int r3), (0, rf P 0), (1, .int x1), (2, .int x2), (3, .int x3)]) dX11_act_106 (Nat.le_of_ble_eq_true rfl) rfl ?_
          refine aw_goto K 141 dX11_act_108 (by decide) ?_
          refine aw_aload_n K 3 dX11_act_141 rfl ?_
          refine aw_getR K (c' := 1) dX11_act_142 lk_X11_10_11 fd_0_0 ?_
          refine aw_getZ K dX11_act_145 lk_X11_309_1 fd_1_8 ?_
          refine aw_if_eq K 156 dX11_act_148 (by decide) (fun h_35 => ?_) (fun h_35 => ?_)
          · refine aw_iload K 0 dX11_act_156 rfl ?_
            exact aw_iret dX11_act_158
          · refine aw_bipush K dX11_act_151 kb_m15 ?_
            refine aw_goto K 158 dX11_act_153 (by decide) ?_
            exact aw_iret dX11_act_158
        refine aw_ite (fun h_36 => ?_) (fun h_36 => ?_)
        · refine aw_tabIn K 111 (1) dX11_act_73 (ti_of h_36 kt_1) (by decide) (by decide) rfl (by decide) ?_
          refine aw_aload K 0 dX11_act_111 rfl ?_
          refine aw_iload_n K 5 dX11_act_113 rfl ?_
          refine aw_callOI K dX11_act_114 vw_X11_300_10 (c_f_Mi_takes_17 l _) hg (by decide) ob_17 rfl (Nat.le_of_ble_eq_true rfl) rfl rfl (fun r41 σ40 _ => ?_)
          refine aw_istore K (i := 6) (lv' := [(6, .int r41), (5, rf P 17), (4, .int r3), (0, rf P 0), (1, .int x1), (2, .int x2), (3, .int x3)]) dX11_act_117 (Nat.le_of_ble_eq_true rfl) rfl ?_
          refine aw_goto K 141 dX11_act_119 (by decide) ?_
          refine aw_aload_n K 3 dX11_act_141 rfl ?_
          refine aw_getR K (c' := 1) dX11_act_142 lk_X11_10_11 fd_0_0 ?_
          refine aw_getZ K dX11_act_145 lk_X11_309_1 fd_1_8 ?_
          refine aw_if_eq K 156 dX11_act_148 (by decide) (fun h_37 => ?_) (fun h_37 => ?_)
          · refine aw_iload K 0 dX11_act_156 rfl ?_
            exact aw_iret dX11_act_158
          · refine aw_bipush K dX11_act_151 kb_m15 ?_
            refine aw_goto K 158 dX11_act_153 (by decide) ?_
            exact aw_iret dX11_act_158
        refine aw_ite (fun h_38 => ?_) (fun h_38 => ?_)
        · refine aw_tabIn K 122 (2) dX11_act_73 (ti_of h_38 kt_2) (by decide) (by decide) rfl (by decide) ?_
          refine aw_aload K 0 dX11_act_122 rfl ?_
          refine aw_iload_n K 5 dX11_act_124 rfl ?_
          refine aw_callUI K dX11_act_125 vw_X11_303_10 (c_f_Pe_halves_17 l _) hg (by decide) ob_17 rfl (Nat.le_of_ble_eq_true rfl) rfl rfl (fun r43 σ42 _ => ?_)
          refine aw_istore K (i := 6) (lv' := [(6, .int r43), (5, rf P 17), (4, .int r3), (0, rf P 0), (1, .int x1), (2, .int x2), (3, .int x3)]) dX11_act_128 (Nat.le_of_ble_eq_true rfl) rfl ?_
          refine aw_goto K 141 dX11_act_130 (by decide) ?_
          refine aw_aload_n K 3 dX11_act_141 rfl ?_
          refine aw_getR K (c' := 1) dX11_act_142 lk_X11_10_11 fd_0_0 ?_
          refine aw_getZ K dX11_act_145 lk_X11_309_1 fd_1_8 ?_
          refine aw_if_eq K 156 dX11_act_148 (by decide) (fun h_39 => ?_) (fun h_39 => ?_)
          · refine aw_iload K 0 dX11_act_156 rfl ?_
            exact aw_iret dX11_act_158
          · refine aw_bipush K dX11_act_151 kb_m15 ?_
            refine aw_goto K 158 dX11_act_153 (by decide) ?_
            exact aw_iret dX11_act_158
        refine aw_tabOut K 133 dX11_act_73 (by have := lv_neT h_34 kt_0; have := lv_neT h_36 kt_1; have := lv_neT h_38 kt_2; omega) (by decide) ?_
        refine aw_aload K 0 dX11_act_133 rfl ?_
        refine aw_iload_n K 5 dX11_act_135 rfl ?_
        refine aw_callOI K dX11_act_136 vw_X11_306_10 (c_f_Wi_owes l _) hg (by decide) ob_17 rfl (Nat.le_of_ble_eq_true rfl) rfl rfl (fun r45 σ44 _ => ?_)
        refine aw_istore K (i := 6) (lv' := [(6, .int r45), (5, rf P 17), (4, .int r3), (0, rf P 0), (1, .int x1), (2, .int x2), (3, .int x3)]) dX11_act_139 (Nat.le_of_ble_eq_true rfl) rfl ?_
        refine aw_aload_n K 3 dX11_act_141 rfl ?_
        refine aw_getR K (c' := 1) dX11_act_142 lk_X11_10_11 fd_0_0 ?_
        refine aw_getZ K dX11_act_145 lk_X11_309_1 fd_1_8 ?_
        refine aw_if_eq K 156 dX11_act_148 (by decide) (fun h_40 => ?_) (fun h_40 => ?_)
        · refine aw_iload K 0 dX11_act_156 rfl ?_
          exact aw_iret dX11_act_158
        · refine aw_bipush K dX11_act_151 kb_m15 ?_
          refine aw_goto K 158 dX11_act_153 (by decide) ?_
          exact aw_iret dX11_act_158
      refine aw_ite (fun h_41 => ?_) (fun h_41 => ?_)
      · refine aw_aaldP K (q := 18) dX11_act_47 ad_13 h_4 (by rw [h_41, kn_4]) ?_
        refine aw_astore K (i := 5) (lv' := [(5, rf P 18), (4, .int r3), (0, rf P 0), (1, .int x1), (2, .int x2), (3, .int x3)]) dX11_act_48 (Nat.le_of_ble_eq_true rfl) rfl ?_
        refine aw_aload K 0 dX11_act_50 rfl ?_
        refine aw_iload K 1 dX11_act_52 rfl ?_
        refine aw_putI K dX11_act_54 lp_X11_291_5 fd_18_1 (fun σ46 => ?_)
        refine aw_aload K 0 dX11_act_57 rfl ?_
        refine aw_aload_n K 2 dX11_act_59 rfl ?_
        refine aw_getR K (c' := 20) dX11_act_60 lk_X11_41_11 fd_0_1 ?_
        refine aw_getR K (c' := 30) dX11_act_63 lk_X11_91_9 fd_20_5 ?_
        refine aw_iload K 1 dX11_act_66 rfl ?_
        refine aw_gd (fun h_42 => ?_)
        refine aw_ald K dX11_act_68 ad_30 h_42 rfl ?_
        refine aw_putI K dX11_act_69 lp_X11_294_5 fd_18_2 (fun σ47 => ?_)
        refine aw_iload_n K 4 dX11_act_72 rfl ?_
        refine aw_ite (fun h_43 => ?_) (fun h_43 => ?_)
        · refine aw_tabIn K 100 (0) dX11_act_73 (ti_of h_43 kt_0) (by decide) (by decide) rfl (by decide) ?_
          refine aw_aload K 0 dX11_act_100 rfl ?_
          refine aw_iload_n K 5 dX11_act_102 rfl ?_
          refine aw_callUI K dX11_act_103 vw_X11_297_5 (c_f_Pe_gives_18 l _) hg (by decide) ob_18 rfl (Nat.le_of_ble_eq_true rfl) rfl rfl (fun r49 σ48 _ => ?_)
          refine aw_istore K (i := 6) (lv' := [(6, .int r49), (5, rf P 18), (4, .int r3), (0, rf P 0), (1, .int x1), (2, .int x2), (3, .int x3)]) dX11_act_106 (Nat.le_of_ble_eq_true rfl) rfl ?_
          refine aw_goto K 141 dX11_act_108 (by decide) ?_
          refine aw_aload_n K 3 dX11_act_141 rfl ?_
          refine aw_getR K (c' := 1) dX11_act_142 lk_X11_10_11 fd_0_0 ?_
          refine aw_getZ K dX11_act_145 lk_X11_309_1 fd_1_8 ?_
          refine aw_if_eq K 156 dX11_act_148 (by decide) (fun h_44 => ?_) (fun h_44 => ?_)
          · refine aw_iload K 0 dX11_act_156 rfl ?_
            exact aw_iret dX11_act_158
          · refine aw_bipush K dX11_act_151 kb_m15 ?_
            refine aw_goto K 158 dX11_act_153 (by decide) ?_
            exact aw_iret dX11_act_158
        refine aw_ite (fun h_45 => ?_) (fun h_45 => ?_)
        · refine aw_tabIn K 111 (1) dX11_act_73 (ti_of h_45 kt_1) (by decide) (by decide) rfl (by decide) ?_
          refine aw_aload K 0 dX11_act_111 rfl ?_
          refine aw_iload_n K 5 dX11_act_113 rfl ?_
          refine aw_callUI K dX11_act_114 vw_X11_300_5 (c_f_Pe_takes_18 l _) hg (by decide) ob_18 rfl (Nat.le_of_ble_eq_true rfl) rfl rfl (fun r51 σ50 _ => ?_)
          refine aw_istore K (i := 6) (lv' := [(6, .int r51), (5, rf P 18), (4, .int r3), (0, rf P 0), (1, .int x1), (2, .int x2), (3, .int x3)]) dX11_act_117 (Nat.le_of_ble_eq_true rfl) rfl ?_
          refine aw_goto K 141 dX11_act_119 (by decide) ?_
          refine aw_aload_n K 3 dX11_act_141 rfl ?_
          refine aw_getR K (c' := 1) dX11_act_142 lk_X11_10_11 fd_0_0 ?_
          refine aw_getZ K dX11_act_145 lk_X11_309_1 fd_1_8 ?_
          refine aw_if_eq K 156 dX11_act_148 (by decide) (fun h_46 => ?_) (fun h_46 => ?_)
          · refine aw_iload K 0 dX11_act_156 rfl ?_
            exact aw_iret dX11_act_158
          · refine aw_bipush K dX11_act_151 kb_m15 ?_
            refine aw_goto K 158 dX11_act_153 (by decide) ?_
            exact aw_iret dX11_act_158
        refine aw_ite (fun h_47 => ?_) (fun h_47 => ?_)
        · refine aw_tabIn K 122 (2) dX11_act_73 (ti_of h_47 kt_2) (by decide) (by decide) rfl (by decide) ?_
          refine aw_aload K 0 dX11_act_122 rfl ?_
          refine aw_iload_n K 5 dX11_act_124 rfl ?_
          refine aw_callOI K dX11_act_125 vw_X11_303_5 (c_f_Pr_halves l _) hg (by decide) ob_18 rfl (Nat.le_of_ble_eq_true rfl) rfl rfl (fun r53 σ52 _ => ?_)
          refine aw_istore K (i := 6) (lv' := [(6, .int r53), (5, rf P 18), (4, .int r3), (0, rf P 0), (1, .int x1), (2, .int x2), (3, .int x3)]) dX11_act_128 (Nat.le_of_ble_eq_true rfl) rfl ?_
          refine aw_goto K 141 dX11_act_130 (by decide) ?_
          refine aw_aload_n K 3 dX11_act_141 rfl ?_
          refine aw_getR K (c' := 1) dX11_act_142 lk_X11_10_11 fd_0_0 ?_
          refine aw_getZ K dX11_act_145 lk_X11_309_1 fd_1_8 ?_
          refine aw_if_eq K 156 dX11_act_148 (by decide) (fun h_48 => ?_) (fun h_48 => ?_)
          · refine aw_iload K 0 dX11_act_156 rfl ?_
            exact aw_iret dX11_act_158
          · refine aw_bipush K dX11_act_151 kb_m15 ?_
            refine aw_goto K 158 dX11_act_153 (by decide) ?_
            exact aw_iret dX11_act_158
        refine aw_tabOut K 133 dX11_act_73 (by have := lv_neT h_43 kt_0; have := lv_neT h_45 kt_1; have := lv_neT h_47 kt_2; omega) (by decide) ?_
        refine aw_aload K 0 dX11_act_133 rfl ?_
        refine aw_iload_n K 5 dX11_act_135 rfl ?_
        refine aw_callUI K dX11_act_136 vw_X11_306_5 (c_f_Pe_owes_18 l _) hg (by decide) ob_18 rfl (Nat.le_of_ble_eq_true rfl) rfl rfl (fun r55 σ54 _ => ?_)
        refine aw_istore K (i := 6) (lv' := [(6, .int r55), (5, rf P 18), (4, .int r3), (0, rf P 0), (1, .int x1), (2, .int x2), (3, .int x3)]) dX11_act_139 (Nat.le_of_ble_eq_true rfl) rfl ?_
        refine aw_aload_n K 3 dX11_act_141 rfl ?_
        refine aw_getR K (c' := 1) dX11_act_142 lk_X11_10_11 fd_0_0 ?_
        refine aw_getZ K dX11_act_145 lk_X11_309_1 fd_1_8 ?_
        refine aw_if_eq K 156 dX11_act_148 (by decide) (fun h_49 => ?_) (fun h_49 => ?_)
        · refine aw_iload K 0 dX11_act_156 rfl ?_
          exact aw_iret dX11_act_158
        · refine aw_bipush K dX11_act_151 kb_m15 ?_
          refine aw_goto K 158 dX11_act_153 (by decide) ?_
          exact aw_iret dX11_act_158
      refine aw_aaldP K (q := 19) dX11_act_47 ad_13 h_4 (nx_last5 h_4 h_5 h_14 h_23 h_32 h_41) ?_
      refine aw_astore K (i := 5) (lv' := [(5, rf P 19), (4, .int r3), (0, rf P 0), (1, .int x1), (2, .int x2), (3, .int x3)]) dX11_act_48 (Nat.le_of_ble_eq_true rfl) rfl ?_
      refine aw_aload K 0 dX11_act_50 rfl ?_
      refine aw_iload K 1 dX11_act_52 rfl ?_
      refine aw_putI K dX11_act_54 lp_X11_291_0 fd_19_1 (fun σ56 => ?_)
      refine aw_aload K 0 dX11_act_57 rfl ?_
      refine aw_aload_n K 2 dX11_act_59 rfl ?_
      refine aw_getR K (c' := 20) dX11_act_60 lk_X11_41_11 fd_0_1 ?_
      refine aw_getR K (c' := 30) dX11_act_63 lk_X11_91_9 fd_20_5 ?_
      refine aw_iload K 1 dX11_act_66 rfl ?_
      refine aw_gd (fun h_50 => ?_)
      refine aw_ald K dX11_act_68 ad_30 h_50 rfl ?_
      refine aw_putI K dX11_act_69 lp_X11_294_0 fd_19_2 (fun σ57 => ?_)
      refine aw_iload_n K 4 dX11_act_72 rfl ?_
      refine aw_ite (fun h_51 => ?_) (fun h_51 => ?_)
      · refine aw_tabIn K 100 (0) dX11_act_73 (ti_of h_51 kt_0) (by decide) (by decide) rfl (by decide) ?_
        refine aw_aload K 0 dX11_act_100 rfl ?_
        refine aw_iload_n K 5 dX11_act_102 rfl ?_
        refine aw_callUI K dX11_act_103 vw_X11_297_0 (c_f_Pe_gives_19 l _) hg (by decide) ob_19 rfl (Nat.le_of_ble_eq_true rfl) rfl rfl (fun r59 σ58 _ => ?_)
        refine aw_istore K (i := 6) (lv' := [(6, .int r59), (5, rf P 19), (4, .int r3), (0, rf P 0), (1, .int x1), (2, .int x2), (3, .int x3)]) dX11_act_106 (Nat.le_of_ble_eq_true rfl) rfl ?_
        refine aw_goto K 141 dX11_act_108 (by decide) ?_
        refine aw_aload_n K 3 dX11_act_141 rfl ?_
        refine aw_getR K (c' := 1) dX11_act_142 lk_X11_10_11 fd_0_0 ?_
        refine aw_getZ K dX11_act_145 lk_X11_309_1 fd_1_8 ?_
        refine aw_if_eq K 156 dX11_act_148 (by decide) (fun h_52 => ?_) (fun h_52 => ?_)
        · refine aw_iload K 0 dX11_act_156 rfl ?_
          exact aw_iret dX11_act_158
        · refine aw_bipush K dX11_act_151 kb_m15 ?_
          refine aw_goto K 158 dX11_act_153 (by decide) ?_
          exact aw_iret dX11_act_158
      refine aw_ite (fun h_53 => ?_) (fun h_53 => ?_)
      · refine aw_tabIn K 111 (1) dX11_act_73 (ti_of h_53 kt_1) (by decide) (by decide) rfl (by decide) ?_
        refine aw_aload K 0 dX11_act_111 rfl ?_
        refine aw_iload_n K 5 dX11_act_113 rfl ?_
        refine aw_callOI K dX11_act_114 vw_X11_300_0 (c_f_Be_takes l _) hg (by decide) ob_19 rfl (Nat.le_of_ble_eq_true rfl) rfl rfl (fun r61 σ60 _ => ?_)
        refine aw_istore K (i := 6) (lv' := [(6, .int r61), (5, rf P 19), (4, .int r3), (0, rf P 0), (1, .int x1), (2, .int x2), (3, .int x3)]) dX11_act_117 (Nat.le_of_ble_eq_true rfl) rfl ?_
        refine aw_goto K 141 dX11_act_119 (by decide) ?_
        refine aw_aload_n K 3 dX11_act_141 rfl ?_
        refine aw_getR K (c' := 1) dX11_act_142 lk_X11_10_11 fd_0_0 ?_
        refine aw_getZ K dX11_act_145 lk_X11_309_1 fd_1_8 ?_
        refine aw_if_eq K 156 dX11_act_148 (by decide) (fun h_54 => ?_) (fun h_54 => ?_)
        · refine aw_iload K 0 dX11_act_156 rfl ?_
          exact aw_iret dX11_act_158
        · refine aw_bipush K dX11_act_151 kb_m15 ?_
          refine aw_goto K 158 dX11_act_153 (by decide) ?_
          exact aw_iret dX11_act_158
      refine aw_ite (fun h_55 => ?_) (fun h_55 => ?_)
      · refine aw_tabIn K 122 (2) dX11_act_73 (ti_of h_55 kt_2) (by decide) (by decide) rfl (by decide) ?_
        refine aw_aload K 0 dX11_act_122 rfl ?_
        refine aw_iload_n K 5 dX11_act_124 rfl ?_
        refine aw_callOI K dX11_act_125 vw_X11_303_0 (c_f_Be_halves l _) hg (by decide) ob_19 rfl (Nat.le_of_ble_eq_true rfl) rfl rfl (fun r63 σ62 _ => ?_)
        refine aw_istore K (i := 6) (lv' := [(6, .int r63), (5, rf P 19), (4, .int r3), (0, rf P 0), (1, .int x1), (2, .int x2), (3, .int x3)]) dX11_act_128 (Nat.le_of_ble_eq_true rfl) rfl ?_
        refine aw_goto K 141 dX11_act_130 (by decide) ?_
        refine aw_aload_n K 3 dX11_act_141 rfl ?_
        refine aw_getR K (c' := 1) dX11_act_142 lk_X11_10_11 fd_0_0 ?_
        refine aw_getZ K dX11_act_145 lk_X11_309_1 fd_1_8 ?_
        refine aw_if_eq K 156 dX11_act_148 (by decide) (fun h_56 => ?_) (fun h_56 => ?_)
        · refine aw_iload K 0 dX11_act_156 rfl ?_
          exact aw_iret dX11_act_158
        · refine aw_bipush K dX11_act_151 kb_m15 ?_
          refine aw_goto K 158 dX11_act_153 (by decide) ?_
          exact aw_iret dX11_act_158
      refine aw_tabOut K 133 dX11_act_73 (by have := lv_neT h_51 kt_0; have := lv_neT h_53 kt_1; have := lv_neT h_55 kt_2; omega) (by decide) ?_
      refine aw_aload K 0 dX11_act_133 rfl ?_
      refine aw_iload_n K 5 dX11_act_135 rfl ?_
      refine aw_callUI K dX11_act_136 vw_X11_306_0 (c_f_Pe_owes_19 l _) hg (by decide) ob_19 rfl (Nat.le_of_ble_eq_true rfl) rfl rfl (fun r65 σ64 _ => ?_)
      refine aw_istore K (i := 6) (lv' := [(6, .int r65), (5, rf P 19), (4, .int r3), (0, rf P 0), (1, .int x1), (2, .int x2), (3, .int x3)]) dX11_act_139 (Nat.le_of_ble_eq_true rfl) rfl ?_
      refine aw_aload_n K 3 dX11_act_141 rfl ?_
      refine aw_getR K (c' := 1) dX11_act_142 lk_X11_10_11 fd_0_0 ?_
      refine aw_getZ K dX11_act_145 lk_X11_309_1 fd_1_8 ?_
      refine aw_if_eq K 156 dX11_act_148 (by decide) (fun h_57 => ?_) (fun h_57 => ?_)
      · refine aw_iload K 0 dX11_act_156 rfl ?_
        exact aw_iret dX11_act_158
      · refine aw_bipush K dX11_act_151 kb_m15 ?_
        refine aw_goto K 158 dX11_act_153 (by decide) ?_
        exact aw_iret dX11_act_158
    · refine aw_iconst K dX11_act_28 ki_0 ?_
      exact aw_iret dX11_act_29
