set_option maxRecDepth 100000 in
set_option maxHeartbeats 4000000 in
theorem c_f_H_isIn (l : Launch) (x0 : Int32) (x1 : Int32) (x2 : Int32) : CTI l (0) yX11_isIn cX11_isIn 3 ((some .boolean)) (fun P => [.int x0, .int x1, .int x2]) (fun σ => f_H_isIn x0 x1 x2 σ) := by
  refine met_Z rfl rfl rfl (fun P => Nat.le_of_ble_eq_true rfl) (fun P G K hg σ => ?_)
  change AW P G 3 (EZ P G cX11_isIn) (f_H_isIn x0 x1 x2 σ) σ 0 [(0, .int x0), (1, .int x1), (2, .int x2)] []
  rw [f_H_isIn]
  refine aw_iload_n K 0 dX11_isIn_0 rfl ?_
  refine aw_iload_n K 1 dX11_isIn_1 rfl ?_
  refine aw_icmp_lt K 14 dX11_isIn_2 (by decide) (fun h_1 => ?_) (fun h_1 => ?_)
  · refine aw_iconst K dX11_isIn_14 ki_0 ?_
    exact aw_zret dX11_isIn_15 (by decide)
  · refine aw_iload_n K 0 dX11_isIn_5 rfl ?_
    refine aw_iload_n K 2 dX11_isIn_6 rfl ?_
    refine aw_icmp_gt K 14 dX11_isIn_7 (by decide) (fun h_2 => ?_) (fun h_2 => ?_)
    · refine aw_iconst K dX11_isIn_14 ki_0 ?_
      exact aw_zret dX11_isIn_15 (by decide)
    · refine aw_iconst K dX11_isIn_10 ki_1 ?_
      refine aw_goto K 15 dX11_isIn_11 (by decide) ?_
      exact aw_zret dX11_isIn_15 (by decide)
set_option maxRecDepth 100000 in
set_option maxHeartbeats 4000000 in
theorem c_f_H_isThing (l : Launch) (x0 : Int32) : CTI l (1) yX11_isThing cX11_isThing 1 ((some .boolean)) (fun P => [.int x0]) (fun σ => f_H_isThing x0 σ) := by
  refine met_Z rfl rfl rfl (fun P => Nat.le_of_ble_eq_true rfl) (fun P G K hg σ => ?_)
  change AW P G 1 (EZ P G cX11_isThing) (f_H_isThing x0 σ) σ 0 [(0, .int x0)] []
  rw [f_H_isThing]
  refine aw_iload_n K 0 dX11_isThing_0 rfl ?_
  refine aw_iconst K dX11_isThing_1 ki_0 ?_
  refine aw_bipush K dX11_isThing_2 kb_7 ?_
  refine aw_callSI K dX11_isThing_4 vw_X11_72 (c_f_H_isIn l _ _ _) hg (by decide) rfl (Nat.le_of_ble_eq_true rfl) rfl rfl (fun r2 σ1 _ => ?_)
  refine aw_gd (fun h_1 => ?_)
  exact aw_zret dX11_isThing_7 h_1
set_option maxRecDepth 100000 in
set_option maxHeartbeats 4000000 in
theorem c_f_To_mark (l : Launch) (t : Nat) (ht : TW t) (x1 : Int32) : CTV l (0) yX9_mark cX9_mark 2 (none) (fun P => [rf P t, .int x1]) (fun σ => f_To_mark t x1 σ) := by
  refine met_V rfl rfl rfl (fun P => Nat.le_of_ble_eq_true rfl) (fun P G K hg σ => ?_)
  change AW P G 2 (EV P G cX9_mark) (f_To_mark t x1 σ) σ 0 [(0, rf P t), (1, .int x1)] []
  rw [f_To_mark]
  refine aw_aload_n K 0 dX9_mark_0 rfl ?_
  refine aw_getR K (c' := t + 9) dX9_mark_1 lk_X9_22_9 (fd_To_4 ht) ?_
  refine aw_iload_n K 1 dX9_mark_4 rfl ?_
  refine aw_gd (fun h_1 => ?_)
  refine aw_ald K dX9_mark_5 (kd_To_4 ht) h_1 rfl ?_
  refine aw_aload_n K 0 dX9_mark_6 rfl ?_
  refine aw_getR K (c' := t + 10) dX9_mark_7 lk_X9_25_9 (fd_To_5 ht) ?_
  refine aw_iload_n K 1 dX9_mark_10 rfl ?_
  refine aw_gd (fun h_2 => ?_)
  refine aw_ald K dX9_mark_11 (kd_To_5 ht) h_2 rfl ?_
  refine aw_icmp_ne K 30 dX9_mark_12 (by decide) (fun h_3 => ?_) (fun h_3 => ?_)
  · refine aw_aload_n K 0 dX9_mark_30 rfl ?_
    refine aw_dup K dX9_mark_31 rfl ?_
    refine aw_getI K dX9_mark_32 lk_X9_83_9 (fd_To_8 ht) ?_
    refine aw_iconst K dX9_mark_35 ki_1 ?_
    refine aw_iload_n K 1 dX9_mark_36 rfl ?_
    refine aw_ishl K dX9_mark_37 ?_
    refine aw_iconst K dX9_mark_38 ki_m1 ?_
    refine aw_ixor K dX9_mark_39 ?_
    refine aw_iand K dX9_mark_40 ?_
    refine aw_putI K dX9_mark_41 lp_X9_83_9 (fd_To_8 ht) (fun σ1 => ?_)
    exact aw_vret dX9_mark_44
  · refine aw_aload_n K 0 dX9_mark_15 rfl ?_
    refine aw_dup K dX9_mark_16 rfl ?_
    refine aw_getI K dX9_mark_17 lk_X9_83_9 (fd_To_8 ht) ?_
    refine aw_iconst K dX9_mark_20 ki_1 ?_
    refine aw_iload_n K 1 dX9_mark_21 rfl ?_
    refine aw_ishl K dX9_mark_22 ?_
    refine aw_ior K dX9_mark_23 ?_
    refine aw_putI K dX9_mark_24 lp_X9_83_9 (fd_To_8 ht) (fun σ2 => ?_)
    refine aw_goto K 44 dX9_mark_27 (by decide) ?_
    exact aw_vret dX9_mark_44
set_option maxRecDepth 100000 in
set_option maxHeartbeats 4000000 in
theorem c_f_H_person (l : Launch) (x1 : Int32) (x2 : Int32) (x3 : Int32) (x4 : Int32) : CTI l (2) yX11_person cX11_person 6 ((some .int)) (fun P => [rf P 0, .int x1, .int x2, .int x3, .int x4]) (fun σ => f_H_person x1 x2 x3 x4 σ) := by
  refine met_I rfl rfl rfl (fun P => Nat.le_of_ble_eq_true rfl) (fun P G K hg σ => ?_)
  change AW P G 6 (EI P G cX11_person) (f_H_person x1 x2 x3 x4 σ) σ 0 [(0, rf P 0), (1, .int x1), (2, .int x2), (3, .int x3), (4, .int x4)] []
  rw [f_H_person]
  refine aw_iload_n K 1 dX11_person_0 rfl ?_
  refine aw_iconst K dX11_person_1 ki_1 ?_
  refine aw_iconst K dX11_person_2 ki_5 ?_
  refine aw_callSI K dX11_person_3 vw_X11_72 (c_f_H_isIn l _ _ _) hg (by decide) rfl (Nat.le_of_ble_eq_true rfl) rfl rfl (fun r2 σ1 _ => ?_)
  refine aw_if_eq K 35 dX11_person_6 (by decide) (fun h_1 => ?_) (fun h_1 => ?_)
  · refine aw_iconst K dX11_person_35 ki_m1 ?_
    exact aw_iret dX11_person_36
  · refine aw_iload_n K 2 dX11_person_9 rfl ?_
    refine aw_callSI K dX11_person_10 vw_X11_76 (c_f_H_isThing l _) hg (by decide) rfl (Nat.le_of_ble_eq_true rfl) rfl rfl (fun r4 σ3 _ => ?_)
    refine aw_if_eq K 35 dX11_person_13 (by decide) (fun h_2 => ?_) (fun h_2 => ?_)
    · refine aw_iconst K dX11_person_35 ki_m1 ?_
      exact aw_iret dX11_person_36
    · refine aw_iload_n K 3 dX11_person_16 rfl ?_
      refine aw_callSI K dX11_person_17 vw_X11_76 (c_f_H_isThing l _) hg (by decide) rfl (Nat.le_of_ble_eq_true rfl) rfl rfl (fun r6 σ5 _ => ?_)
      refine aw_if_eq K 35 dX11_person_20 (by decide) (fun h_3 => ?_) (fun h_3 => ?_)
      · refine aw_iconst K dX11_person_35 ki_m1 ?_
        exact aw_iret dX11_person_36
      · refine aw_iload K 4 dX11_person_23 rfl ?_
        refine aw_iconst K dX11_person_25 ki_0 ?_
        refine aw_sipush K dX11_person_26 ks_999 ?_
        refine aw_callSI K dX11_person_29 vw_X11_72 (c_f_H_isIn l _ _ _) hg (by decide) rfl (Nat.le_of_ble_eq_true rfl) rfl rfl (fun r8 σ7 _ => ?_)
        refine aw_if_ne K 37 dX11_person_32 (by decide) (fun h_4 => ?_) (fun h_4 => ?_)
        · refine aw_aload_n K 0 dX11_person_37 rfl ?_
          refine aw_getR K (c' := 20) dX11_person_38 lk_X11_41_11 fd_0_1 ?_
          refine aw_getI K dX11_person_41 lk_X11_80_9 fd_20_2 ?_
          refine aw_bipush K dX11_person_44 kb_6 ?_
          refine aw_icmp_lt K 52 dX11_person_46 (by decide) (fun h_5 => ?_) (fun h_5 => ?_)
          · refine aw_aload_n K 0 dX11_person_52 rfl ?_
            refine aw_getR K (c' := 20) dX11_person_53 lk_X11_41_11 fd_0_1 ?_
            refine aw_getI K dX11_person_56 lk_X11_80_9 fd_20_2 ?_
            refine aw_istoreX K (i := 5) (lv' := fun y9 => [(5, .int y9), (0, rf P 0), (1, .int x1), (2, .int x2), (3, .int x3), (4, .int x4)]) dX11_person_59 (Nat.le_of_ble_eq_true rfl) (fun _ => rfl) (fun y9 => ?_)
            refine aw_aload_n K 1 dX11_person_61 rfl ?_
            refine aw_getR K (c' := 20) dX11_person_62 lk_X11_41_11 fd_0_1 ?_
            refine aw_dup K dX11_person_65 rfl ?_
            refine aw_getI K dX11_person_66 lk_X11_80_9 fd_20_2 ?_
            refine aw_iconst K dX11_person_69 ki_1 ?_
            refine aw_iadd K dX11_person_70 ?_
            refine aw_putI K dX11_person_71 lp_X11_80_9 fd_20_2 (fun σ10 => ?_)
            refine aw_aload_n K 1 dX11_person_74 rfl ?_
            refine aw_getR K (c' := 20) dX11_person_75 lk_X11_41_11 fd_0_1 ?_
            refine aw_getR K (c' := 28) dX11_person_78 lk_X11_84_9 fd_20_3 ?_
            refine aw_iload K 0 dX11_person_81 rfl ?_
            refine aw_iload_n K 2 dX11_person_83 rfl ?_
            refine aw_gd (fun h_6 => ?_)
            refine aw_ast K dX11_person_84 ad_28 h_6 rfl (fun σ11 => ?_)
            refine aw_aload_n K 1 dX11_person_85 rfl ?_
            refine aw_getR K (c' := 20) dX11_person_86 lk_X11_41_11 fd_0_1 ?_
            refine aw_getR K (c' := 29) dX11_person_89 lk_X11_88_9 fd_20_4 ?_
            refine aw_iload K 0 dX11_person_92 rfl ?_
            refine aw_iload_n K 3 dX11_person_94 rfl ?_
            refine aw_gd (fun h_7 => ?_)
            refine aw_ast K dX11_person_95 ad_29 h_7 rfl (fun σ12 => ?_)
            refine aw_aload_n K 1 dX11_person_96 rfl ?_
            refine aw_getR K (c' := 20) dX11_person_97 lk_X11_41_11 fd_0_1 ?_
            refine aw_getR K (c' := 30) dX11_person_100 lk_X11_91_9 fd_20_5 ?_
            refine aw_iload K 0 dX11_person_103 rfl ?_
            refine aw_iload_n K 4 dX11_person_105 rfl ?_
            refine aw_gd (fun h_8 => ?_)
            refine aw_ast K dX11_person_106 ad_30 h_8 rfl (fun σ13 => ?_)
            refine aw_aload_n K 1 dX11_person_107 rfl ?_
            refine aw_getR K (c' := 20) dX11_person_108 lk_X11_41_11 fd_0_1 ?_
            refine aw_getR K (c' := 31) dX11_person_111 lk_X11_94_9 fd_20_6 ?_
            refine aw_iload K 0 dX11_person_114 rfl ?_
            refine aw_iload K 5 dX11_person_116 rfl ?_
            refine aw_gd (fun h_9 => ?_)
            refine aw_ast K dX11_person_118 ad_31 h_9 rfl (fun σ14 => ?_)
            refine aw_aload_n K 1 dX11_person_119 rfl ?_
            refine aw_getR K (c' := 20) dX11_person_120 lk_X11_41_11 fd_0_1 ?_
            refine aw_getR K (c' := 32) dX11_person_123 lk_X11_97_9 fd_20_7 ?_
            refine aw_iload K 0 dX11_person_126 rfl ?_
            refine aw_iconst K dX11_person_128 ki_0 ?_
            refine aw_gd (fun h_10 => ?_)
            refine aw_ast K dX11_person_129 ad_32 h_10 rfl (fun σ15 => ?_)
            refine aw_aload_n K 1 dX11_person_130 rfl ?_
            refine aw_getR K (c' := 20) dX11_person_131 lk_X11_41_11 fd_0_1 ?_
            refine aw_iload K 0 dX11_person_134 rfl ?_
            refine aw_callVV K dX11_person_136 vw_X11_100_9 (c_f_To_mark l 20 TW.a _) hg (by decide) ob_20 rfl (Nat.le_of_ble_eq_true rfl) rfl rfl (fun _ σ16 _ => ?_)
            refine aw_iload K 0 dX11_person_139 rfl ?_
            exact aw_iret dX11_person_141
          · refine aw_bipush K dX11_person_49 kb_m2 ?_
            exact aw_iret dX11_person_51
        · refine aw_iconst K dX11_person_35 ki_m1 ?_
          exact aw_iret dX11_person_36
set_option maxRecDepth 100000 in
set_option maxHeartbeats 4000000 in
theorem c_f_To_isPerson (l : Launch) (t : Nat) (ht : TW t) (x1 : Int32) : CTI l (0) yX9_isPerson cX9_isPerson 2 ((some .boolean)) (fun P => [rf P t, .int x1]) (fun σ => f_To_isPerson t x1 σ) := by
  refine met_Z rfl rfl rfl (fun P => Nat.le_of_ble_eq_true rfl) (fun P G K hg σ => ?_)
  change AW P G 2 (EZ P G cX9_isPerson) (f_To_isPerson t x1 σ) σ 0 [(0, rf P t), (1, .int x1)] []
  rw [f_To_isPerson]
  refine aw_iload_n K 1 dX9_isPerson_0 rfl ?_
  refine aw_if_lt K 16 dX9_isPerson_1 (by decide) (fun h_1 => ?_) (fun h_1 => ?_)
  · refine aw_iconst K dX9_isPerson_16 ki_0 ?_
    exact aw_zret dX9_isPerson_17 (by decide)
  · refine aw_iload_n K 1 dX9_isPerson_4 rfl ?_
    refine aw_aload_n K 0 dX9_isPerson_5 rfl ?_
    refine aw_getI K dX9_isPerson_6 lk_X9_74_9 (fd_To_2 ht) ?_
    refine aw_icmp_ge K 16 dX9_isPerson_9 (by decide) (fun h_2 => ?_) (fun h_2 => ?_)
    · refine aw_iconst K dX9_isPerson_16 ki_0 ?_
      exact aw_zret dX9_isPerson_17 (by decide)
    · refine aw_iconst K dX9_isPerson_12 ki_1 ?_
      refine aw_goto K 17 dX9_isPerson_13 (by decide) ?_
      exact aw_zret dX9_isPerson_17 (by decide)
set_option maxRecDepth 100000 in
set_option maxHeartbeats 4000000 in
theorem c_f_Pe_isAsked (l : Launch) (x1 : Int32) (x2 : Int32) (x3 : Int32) : CTI l (0) yX4_isAsked cX4_isAsked 4 ((some .int)) (fun P => [rf P 14, .int x1, .int x2, .int x3]) (fun σ => f_Pe_isAsked x1 x2 x3 σ) := by
  refine met_I rfl rfl rfl (fun P => Nat.le_of_ble_eq_true rfl) (fun P G K hg σ => ?_)
  change AW P G 4 (EI P G cX4_isAsked) (f_Pe_isAsked x1 x2 x3 σ) σ 0 [(0, rf P 14), (1, .int x1), (2, .int x2), (3, .int x3)] []
  rw [f_Pe_isAsked]
  refine aw_iload_n K 1 dX4_isAsked_0 rfl ?_
  exact aw_iret dX4_isAsked_1
set_option maxRecDepth 100000 in
set_option maxHeartbeats 4000000 in
theorem c_f_Pe_isAsked_15 (l : Launch) (x1 : Int32) (x2 : Int32) (x3 : Int32) : CTI l (0) yX4_isAsked cX4_isAsked 4 ((some .int)) (fun P => [rf P 15, .int x1, .int x2, .int x3]) (fun σ => f_Pe_isAsked_15 x1 x2 x3 σ) := by
  refine met_I rfl rfl rfl (fun P => Nat.le_of_ble_eq_true rfl) (fun P G K hg σ => ?_)
  change AW P G 4 (EI P G cX4_isAsked) (f_Pe_isAsked_15 x1 x2 x3 σ) σ 0 [(0, rf P 15), (1, .int x1), (2, .int x2), (3, .int x3)] []
  rw [f_Pe_isAsked_15]
  refine aw_iload_n K 1 dX4_isAsked_0 rfl ?_
  exact aw_iret dX4_isAsked_1
set_option maxRecDepth 100000 in
set_option maxHeartbeats 4000000 in
theorem c_f_Mi_isAsked (l : Launch) (x1 : Int32) (x2 : Int32) (x3 : Int32) : CTI l (0) yX3_isAsked cX3_isAsked 5 ((some .int)) (fun P => [rf P 16, .int x1, .int x2, .int x3]) (fun σ => f_Mi_isAsked x1 x2 x3 σ) := by
  refine met_I rfl rfl rfl (fun P => Nat.le_of_ble_eq_true rfl) (fun P G K hg σ => ?_)
  change AW P G 5 (EI P G cX3_isAsked) (f_Mi_isAsked x1 x2 x3 σ) σ 0 [(0, rf P 16), (1, .int x1), (2, .int x2), (3, .int x3)] []
  rw [f_Mi_isAsked]
  refine aw_iload_n K 2 dX3_isAsked_0 rfl ?_
  refine aw_bipush K dX3_isAsked_1 kb_10 ?_
  refine aw_idiv K dX3_isAsked_3 (by decide) ?_
  refine aw_istoreX K (i := 4) (lv' := fun y1 => [(4, .int y1), (0, rf P 16), (1, .int x1), (2, .int x2), (3, .int x3)]) dX3_isAsked_4 (Nat.le_of_ble_eq_true rfl) (fun _ => rfl) (fun y1 => ?_)
  refine aw_iload_n K 2 dX3_isAsked_6 rfl ?_
  refine aw_iload K 0 dX3_isAsked_7 rfl ?_
  refine aw_icmp_le K 19 dX3_isAsked_9 (by decide) (fun h_1 => ?_) (fun h_1 => ?_)
  · refine aw_iconst K dX3_isAsked_19 ki_0 ?_
    exact aw_iret dX3_isAsked_20
  · refine aw_iload_n K 2 dX3_isAsked_12 rfl ?_
    refine aw_iload K 0 dX3_isAsked_13 rfl ?_
    refine aw_isub K dX3_isAsked_15 ?_
    refine aw_goto K 20 dX3_isAsked_16 (by decide) ?_
    exact aw_iret dX3_isAsked_20
set_option maxRecDepth 100000 in
set_option maxHeartbeats 4000000 in
theorem c_f_Mi_isAsked_17 (l : Launch) (x1 : Int32) (x2 : Int32) (x3 : Int32) : CTI l (0) yX3_isAsked cX3_isAsked 5 ((some .int)) (fun P => [rf P 17, .int x1, .int x2, .int x3]) (fun σ => f_Mi_isAsked_17 x1 x2 x3 σ) := by
  refine met_I rfl rfl rfl (fun P => Nat.le_of_ble_eq_true rfl) (fun P G K hg σ => ?_)
  change AW P G 5 (EI P G cX3_isAsked) (f_Mi_isAsked_17 x1 x2 x3 σ) σ 0 [(0, rf P 17), (1, .int x1), (2, .int x2), (3, .int x3)] []
  rw [f_Mi_isAsked_17]
  refine aw_iload_n K 2 dX3_isAsked_0 rfl ?_
  refine aw_bipush K dX3_isAsked_1 kb_10 ?_
  refine aw_idiv K dX3_isAsked_3 (by decide) ?_
  refine aw_istoreX K (i := 4) (lv' := fun y1 => [(4, .int y1), (0, rf P 17), (1, .int x1), (2, .int x2), (3, .int x3)]) dX3_isAsked_4 (Nat.le_of_ble_eq_true rfl) (fun _ => rfl) (fun y1 => ?_)
  refine aw_iload_n K 2 dX3_isAsked_6 rfl ?_
  refine aw_iload K 0 dX3_isAsked_7 rfl ?_
  refine aw_icmp_le K 19 dX3_isAsked_9 (by decide) (fun h_1 => ?_) (fun h_1 => ?_)
  · refine aw_iconst K dX3_isAsked_19 ki_0 ?_
    exact aw_iret dX3_isAsked_20
  · refine aw_iload_n K 2 dX3_isAsked_12 rfl ?_
    refine aw_iload K 0 dX3_isAsked_13 rfl ?_
    refine aw_isub K dX3_isAsked_15 ?_
    refine aw_goto K 20 dX3_isAsked_16 (by decide) ?_
    exact aw_iret dX3_isAsked_20
set_option maxRecDepth 100000 in
set_option maxHeartbeats 4000000 in
theorem c_f_Wi_isAsked (l : Launch) (x1 : Int32) (x2 : Int32) (x3 : Int32) : CTI l (1) yX10_isAsked cX10_isAsked 5 ((some .int)) (fun P => [rf P 17, .int x1, .int x2, .int x3]) (fun σ => f_Wi_isAsked x1 x2 x3 σ) := by
  refine met_I rfl rfl rfl (fun P => Nat.le_of_ble_eq_true rfl) (fun P G K hg σ => ?_)
  change AW P G 5 (EI P G cX10_isAsked) (f_Wi_isAsked x1 x2 x3 σ) σ 0 [(0, rf P 17), (1, .int x1), (2, .int x2), (3, .int x3)] []
  rw [f_Wi_isAsked]
  refine aw_aload_n K 0 dX10_isAsked_0 rfl ?_
  refine aw_iload_n K 1 dX10_isAsked_1 rfl ?_
  refine aw_iload_n K 2 dX10_isAsked_2 rfl ?_
  refine aw_iload_n K 3 dX10_isAsked_3 rfl ?_
  refine aw_callXI K dX10_isAsked_4 vw_X10_7_10 (c_f_Mi_isAsked_17 l _ _ _) hg (by decide) ob_17 rfl (Nat.le_of_ble_eq_true rfl) rfl rfl (fun r2 σ1 _ => ?_)
  refine aw_istore K (i := 4) (lv' := [(4, .int r2), (0, rf P 17), (1, .int x1), (2, .int x2), (3, .int x3)]) dX10_isAsked_7 (Nat.le_of_ble_eq_true rfl) rfl ?_
  refine aw_iload_n K 4 dX10_isAsked_9 rfl ?_
  refine aw_if_eq K 20 dX10_isAsked_10 (by decide) (fun h_1 => ?_) (fun h_1 => ?_)
  · refine aw_iload K 0 dX10_isAsked_20 rfl ?_
    exact aw_iret dX10_isAsked_22
  · refine aw_iload K 0 dX10_isAsked_13 rfl ?_
    refine aw_iconst K dX10_isAsked_15 ki_2 ?_
    refine aw_idiv K dX10_isAsked_16 (by decide) ?_
    refine aw_goto K 22 dX10_isAsked_17 (by decide) ?_
    exact aw_iret dX10_isAsked_22
set_option maxRecDepth 100000 in
set_option maxHeartbeats 4000000 in
theorem c_f_Pr_isAsked (l : Launch) (x1 : Int32) (x2 : Int32) (x3 : Int32) : CTI l (0) yX5_isAsked cX5_isAsked 4 ((some .int)) (fun P => [rf P 18, .int x1, .int x2, .int x3]) (fun σ => f_Pr_isAsked x1 x2 x3 σ) := by
  refine met_I rfl rfl rfl (fun P => Nat.le_of_ble_eq_true rfl) (fun P G K hg σ => ?_)
  change AW P G 4 (EI P G cX5_isAsked) (f_Pr_isAsked x1 x2 x3 σ) σ 0 [(0, rf P 18), (1, .int x1), (2, .int x2), (3, .int x3)] []
  rw [f_Pr_isAsked]
  refine aw_iconst K dX5_isAsked_0 ki_2 ?_
  refine aw_iload_n K 1 dX5_isAsked_1 rfl ?_
  refine aw_imul K dX5_isAsked_2 ?_
  exact aw_iret dX5_isAsked_3
set_option maxRecDepth 100000 in
set_option maxHeartbeats 4000000 in
theorem c_f_Pr_isAsked_19 (l : Launch) (x1 : Int32) (x2 : Int32) (x3 : Int32) : CTI l (0) yX5_isAsked cX5_isAsked 4 ((some .int)) (fun P => [rf P 19, .int x1, .int x2, .int x3]) (fun σ => f_Pr_isAsked_19 x1 x2 x3 σ) := by
  refine met_I rfl rfl rfl (fun P => Nat.le_of_ble_eq_true rfl) (fun P G K hg σ => ?_)
  change AW P G 4 (EI P G cX5_isAsked) (f_Pr_isAsked_19 x1 x2 x3 σ) σ 0 [(0, rf P 19), (1, .int x1), (2, .int x2), (3, .int x3)] []
  rw [f_Pr_isAsked_19]
  refine aw_iconst K dX5_isAsked_0 ki_2 ?_
  refine aw_iload_n K 1 dX5_isAsked_1 rfl ?_
  refine aw_imul K dX5_isAsked_2 ?_
  exact aw_iret dX5_isAsked_3
set_option maxRecDepth 100000 in
set_option maxHeartbeats 4000000 in
theorem c_f_Be_isAsked (l : Launch) (x1 : Int32) (x2 : Int32) (x3 : Int32) : CTI l (1) yX0_isAsked cX0_isAsked 5 ((some .int)) (fun P => [rf P 19, .int x1, .int x2, .int x3]) (fun σ => f_Be_isAsked x1 x2 x3 σ) := by
  refine met_I rfl rfl rfl (fun P => Nat.le_of_ble_eq_true rfl) (fun P G K hg σ => ?_)
  change AW P G 5 (EI P G cX0_isAsked) (f_Be_isAsked x1 x2 x3 σ) σ 0 [(0, rf P 19), (1, .int x1), (2, .int x2), (3, .int x3)] []
  rw [f_Be_isAsked]
  refine aw_aload_n K 0 dX0_isAsked_0 rfl ?_
  refine aw_iload_n K 1 dX0_isAsked_1 rfl ?_
  refine aw_iload_n K 2 dX0_isAsked_2 rfl ?_
  refine aw_iload_n K 3 dX0_isAsked_3 rfl ?_
  refine aw_callXI K dX0_isAsked_4 vw_X0_7_0 (c_f_Pr_isAsked_19 l _ _ _) hg (by decide) ob_19 rfl (Nat.le_of_ble_eq_true rfl) rfl rfl (fun r2 σ1 _ => ?_)
  refine aw_istore K (i := 4) (lv' := [(4, .int r2), (0, rf P 19), (1, .int x1), (2, .int x2), (3, .int x3)]) dX0_isAsked_7 (Nat.le_of_ble_eq_true rfl) rfl ?_
  refine aw_iload K 0 dX0_isAsked_9 rfl ?_
  refine aw_bipush K dX0_isAsked_11 kb_7 ?_
  refine aw_icmp_le K 24 dX0_isAsked_13 (by decide) (fun h_1 => ?_) (fun h_1 => ?_)
  · refine aw_iconst K dX0_isAsked_24 ki_0 ?_
    exact aw_iret dX0_isAsked_25
  · refine aw_iload K 0 dX0_isAsked_16 rfl ?_
    refine aw_bipush K dX0_isAsked_18 kb_7 ?_
    refine aw_isub K dX0_isAsked_20 ?_
    refine aw_goto K 25 dX0_isAsked_21 (by decide) ?_
    exact aw_iret dX0_isAsked_25
set_option maxRecDepth 100000 in
set_option maxHeartbeats 4000000 in
theorem c_f_Ru_look (l : Launch) (t : Nat) (ht : TR t) (x1 : Int32) (x2 : Int32) (x3 : Int32) (x4 : Int32) (x5 : Int32) : CTV l (0) yX7_look cX7_look 6 (none) (fun P => [rf P t, .int x1, .int x2, .int x3, .int x4, .int x5]) (fun σ => f_Ru_look t x1 x2 x3 x4 x5 σ) := by
  refine met_V rfl rfl rfl (fun P => Nat.le_of_ble_eq_true rfl) (fun P G K hg σ => ?_)
  change AW P G 6 (EV P G cX7_look) (f_Ru_look t x1 x2 x3 x4 x5 σ) σ 0 [(0, rf P t), (1, .int x1), (2, .int x2), (3, .int x3), (4, .int x4), (5, .int x5)] []
  rw [f_Ru_look]
  refine aw_aload_n K 0 dX7_look_0 rfl ?_
  refine aw_getR K (c' := t + 6) dX7_look_1 lk_X7_27_7 (fd_Ru_7 ht) ?_
  refine aw_iconst K dX7_look_4 ki_0 ?_
  refine aw_iload_n K 1 dX7_look_5 rfl ?_
  refine aw_ast K dX7_look_6 (kd_Ru_7 ht) (by decide) kn_0 (fun σ1 => ?_)
  refine aw_aload_n K 0 dX7_look_7 rfl ?_
  refine aw_getR K (c' := t + 6) dX7_look_8 lk_X7_27_7 (fd_Ru_7 ht) ?_
  refine aw_iconst K dX7_look_11 ki_1 ?_
  refine aw_iload_n K 2 dX7_look_12 rfl ?_
  refine aw_ast K dX7_look_13 (kd_Ru_7 ht) (by decide) kn_1 (fun σ2 => ?_)
  refine aw_aload_n K 0 dX7_look_14 rfl ?_
  refine aw_getR K (c' := t + 6) dX7_look_15 lk_X7_27_7 (fd_Ru_7 ht) ?_
  refine aw_iconst K dX7_look_18 ki_2 ?_
  refine aw_iload_n K 3 dX7_look_19 rfl ?_
  refine aw_ast K dX7_look_20 (kd_Ru_7 ht) (by decide) kn_2 (fun σ3 => ?_)
  refine aw_aload_n K 0 dX7_look_21 rfl ?_
  refine aw_getR K (c' := t + 6) dX7_look_22 lk_X7_27_7 (fd_Ru_7 ht) ?_
  refine aw_iconst K dX7_look_25 ki_3 ?_
  refine aw_iload K 4 dX7_look_26 rfl ?_
  refine aw_ast K dX7_look_28 (kd_Ru_7 ht) (by decide) kn_3 (fun σ4 => ?_)
  refine aw_aload_n K 0 dX7_look_29 rfl ?_
  refine aw_getR K (c' := t + 6) dX7_look_30 lk_X7_27_7 (fd_Ru_7 ht) ?_
  refine aw_iconst K dX7_look_33 ki_4 ?_
  refine aw_iload K 5 dX7_look_34 rfl ?_
  refine aw_ast K dX7_look_36 (kd_Ru_7 ht) (by decide) kn_4 (fun σ5 => ?_)
  exact aw_vret dX7_look_37
set_option maxRecDepth 100000 in
set_option maxHeartbeats 4000000 in
theorem c_f_H_isUnder (l : Launch) (x0 : Int32) (x1 : Int32) : CTI l (0) yX11_isUnder cX11_isUnder 2 ((some .boolean)) (fun P => [.int x0, .int x1]) (fun σ => f_H_isUnder x0 x1 σ) := by
  refine met_Z rfl rfl rfl (fun P => Nat.le_of_ble_eq_true rfl) (fun P G K hg σ => ?_)
  change AW P G 2 (EZ P G cX11_isUnder) (f_H_isUnder x0 x1 σ) σ 0 [(0, .int x0), (1, .int x1)] []
  rw [f_H_isUnder]
  refine aw_iload_n K 1 dX11_isUnder_0 rfl ?_
  refine aw_if_eq K 18 dX11_isUnder_1 (by decide) (fun h_1 => ?_) (fun h_1 => ?_)
  · refine aw_iconst K dX11_isUnder_18 ki_1 ?_
    refine aw_goto K 23 dX11_isUnder_19 (by decide) ?_
    exact aw_zret dX11_isUnder_23 (by decide)
  · refine aw_iload_n K 0 dX11_isUnder_4 rfl ?_
    refine aw_iload_n K 1 dX11_isUnder_5 rfl ?_
    refine aw_icmp_eq K 18 dX11_isUnder_6 (by decide) (fun h_2 => ?_) (fun h_2 => ?_)
    · refine aw_iconst K dX11_isUnder_18 ki_1 ?_
      refine aw_goto K 23 dX11_isUnder_19 (by decide) ?_
      exact aw_zret dX11_isUnder_23 (by decide)
    · refine aw_getsA K dX11_isUnder_9 (in_r10 _ (List.mem_of_getElem? (i := 20) rfl)) ?_
      refine aw_iload_n K 0 dX11_isUnder_12 rfl ?_
      refine aw_gd (fun h_3 => ?_)
      refine aw_tA K dX11_isUnder_13 h_3 ?_
      refine aw_iload_n K 1 dX11_isUnder_14 rfl ?_
      refine aw_icmp_ne K 22 dX11_isUnder_15 (by decide) (fun h_4 => ?_) (fun h_4 => ?_)
      · refine aw_iconst K dX11_isUnder_22 ki_0 ?_
        exact aw_zret dX11_isUnder_23 (by decide)
      · refine aw_iconst K dX11_isUnder_18 ki_1 ?_
        refine aw_goto K 23 dX11_isUnder_19 (by decide) ?_
        exact aw_zret dX11_isUnder_23 (by decide)
set_option maxRecDepth 100000 in
set_option maxHeartbeats 4000000 in
theorem a_f_Ru_holds_201 (l : Launch) (t : Nat) (ht : TR t) {P : PT} {G : GT} (K : CX P G cX7_holds RX7 (0) 12) (hg : gl G = l) {K5 : Int32 → Int32 → Int32 → SG → Option (Int32 × SG)} (hK5 : ∀ (x2 : Int32) (x3 : Int32) (x4 : Int32) (σ : SG), AW P G 12 (EZ P G cX7_holds) (K5 x2 x3 x4 σ) σ 5 [(0, rf P t), (2, .int x2), (3, .int x3), (4, .int x4)] []) : ∀ (x2 : Int32) (x3 : Int32) (x4 : Int32) (xs0 : Int32) (σ : SG), AW P G 12 (EZ P G cX7_holds) (f_Ru_holds_201 t K5 x2 x3 x4 xs0 σ) σ 201 [(0, rf P t), (2, .int x2), (3, .int x3), (4, .int x4)] [.int xs0] := by
  intro x2 x3 x4 xs0 σ
  rw [f_Ru_holds_201]
  refine aw_istore K (i := 11) (lv' := [(11, .int xs0), (0, rf P t), (2, .int x2), (3, .int x3), (4, .int x4)]) dX7_holds_201 (Nat.le_of_ble_eq_true rfl) rfl ?_
  refine aw_iload_n K 3 dX7_holds_203 rfl ?_
  refine aw_iconst K dX7_holds_204 ki_1 ?_
  refine aw_ishl K dX7_holds_205 ?_
  refine aw_iload K 0 dX7_holds_206 rfl ?_
  refine aw_if_eq K 215 dX7_holds_208 (by decide) (fun h_1 => ?_) (fun h_1 => ?_)
  · refine aw_iconst K dX7_holds_215 ki_0 ?_
    refine aw_ior K dX7_holds_216 ?_
    refine aw_istoreX_n K (i := 3) (lv' := fun y1 => [(3, .int y1), (11, .int xs0), (0, rf P t), (2, .int x2), (4, .int x4)]) dX7_holds_217 rfl (Nat.le_of_ble_eq_true rfl) (fun _ => rfl) (fun y1 => ?_)
    refine aw_iinc K (lv' := fun y2 => [(4, .int y2), (3, .int y1), (11, .int xs0), (0, rf P t), (2, .int x2)]) 4 dX7_holds_218 rfl ki_1 (Nat.le_of_ble_eq_true rfl) (fun _ => rfl) (fun y2 => ?_)
    refine aw_goto K 5 dX7_holds_221 (by decide) ?_
    refine aw_lv [3, 4, 1, 0] rfl ?_
    exact hK5 _ _ _ _
  · refine aw_iconst K dX7_holds_211 ki_1 ?_
    refine aw_goto K 216 dX7_holds_212 (by decide) ?_
    refine aw_ior K dX7_holds_216 ?_
    refine aw_istoreX_n K (i := 3) (lv' := fun y3 => [(3, .int y3), (11, .int xs0), (0, rf P t), (2, .int x2), (4, .int x4)]) dX7_holds_217 rfl (Nat.le_of_ble_eq_true rfl) (fun _ => rfl) (fun y3 => ?_)
    refine aw_iinc K (lv' := fun y4 => [(4, .int y4), (3, .int y3), (11, .int xs0), (0, rf P t), (2, .int x2)]) 4 dX7_holds_218 rfl ki_1 (Nat.le_of_ble_eq_true rfl) (fun _ => rfl) (fun y4 => ?_)
    refine aw_goto K 5 dX7_holds_221 (by decide) ?_
    refine aw_lv [3, 4, 1, 0] rfl ?_
    exact hK5 _ _ _ _
set_option maxRecDepth 100000 in
set_option maxHeartbeats 4000000 in
theorem a_f_Ru_holds_139 (l : Launch) (t : Nat) (ht : TR t) {P : PT} {G : GT} (K : CX P G cX7_holds RX7 (0) 12) (hg : gl G = l) {K5 : Int32 → Int32 → Int32 → SG → Option (Int32 × SG)} (hK5 : ∀ (x2 : Int32) (x3 : Int32) (x4 : Int32) (σ : SG), AW P G 12 (EZ P G cX7_holds) (K5 x2 x3 x4 σ) σ 5 [(0, rf P t), (2, .int x2), (3, .int x3), (4, .int x4)] []) : ∀ (x2 : Int32) (x3 : Int32) (x4 : Int32) (x5 : Int32) (x8 : Int32) (xs0 : Int32) (σ : SG), AW P G 12 (EZ P G cX7_holds) (f_Ru_holds_139 t K5 x2 x3 x4 x5 x8 xs0 σ) σ 139 [(0, rf P t), (2, .int x2), (3, .int x3), (4, .int x4), (5, .int x5), (8, .int x8)] [.int xs0] := by
  intro x2 x3 x4 x5 x8 xs0 σ
  rw [f_Ru_holds_139]
  refine aw_istore K (i := 9) (lv' := [(9, .int xs0), (0, rf P t), (2, .int x2), (3, .int x3), (4, .int x4), (5, .int x5), (8, .int x8)]) dX7_holds_139 (Nat.le_of_ble_eq_true rfl) rfl ?_
  refine aw_iload K 5 dX7_holds_141 rfl ?_
  refine aw_bipush K dX7_holds_143 kb_28 ?_
  refine aw_ishr K dX7_holds_145 ?_
  refine aw_istoreX K (i := 10) (lv' := fun y1 => [(10, .int y1), (9, .int xs0), (0, rf P t), (2, .int x2), (3, .int x3), (4, .int x4), (5, .int x5), (8, .int x8)]) dX7_holds_146 (Nat.le_of_ble_eq_true rfl) (fun _ => rfl) (fun y1 => ?_)
  refine aw_iload K 0 dX7_holds_148 rfl ?_
  refine aw_if_ne K 168 dX7_holds_150 (by decide) (fun h_1 => ?_) (fun h_1 => ?_)
  · refine aw_iload K 0 dX7_holds_168 rfl ?_
    refine aw_iconst K dX7_holds_170 ki_1 ?_
    refine aw_icmp_ne K 189 dX7_holds_171 (by decide) (fun h_2 => ?_) (fun h_2 => ?_)
    · refine aw_iload K 7 dX7_holds_189 rfl ?_
      refine aw_iload K 1 dX7_holds_191 rfl ?_
      refine aw_icmp_le K 200 dX7_holds_193 (by decide) (fun h_3 => ?_) (fun h_3 => ?_)
      · refine aw_iconst K dX7_holds_200 ki_0 ?_
        refine aw_lv [2, 3, 4, 5] rfl ?_
        exact (a_f_Ru_holds_201 l t ht K hg hK5) _ _ _ _ _
      · refine aw_iconst K dX7_holds_196 ki_1 ?_
        refine aw_goto K 201 dX7_holds_197 (by decide) ?_
        refine aw_lv [2, 3, 4, 5] rfl ?_
        exact (a_f_Ru_holds_201 l t ht K hg hK5) _ _ _ _ _
    · refine aw_iload K 7 dX7_holds_174 rfl ?_
      refine aw_iload K 1 dX7_holds_176 rfl ?_
      refine aw_icmp_ne K 185 dX7_holds_178 (by decide) (fun h_4 => ?_) (fun h_4 => ?_)
      · refine aw_iconst K dX7_holds_185 ki_0 ?_
        refine aw_goto K 201 dX7_holds_186 (by decide) ?_
        refine aw_lv [2, 3, 4, 5] rfl ?_
        exact (a_f_Ru_holds_201 l t ht K hg hK5) _ _ _ _ _
      · refine aw_iconst K dX7_holds_181 ki_1 ?_
        refine aw_goto K 201 dX7_holds_182 (by decide) ?_
        refine aw_lv [2, 3, 4, 5] rfl ?_
        exact (a_f_Ru_holds_201 l t ht K hg hK5) _ _ _ _ _
  · refine aw_iload K 7 dX7_holds_153 rfl ?_
    refine aw_iload K 1 dX7_holds_155 rfl ?_
    refine aw_icmp_ge K 164 dX7_holds_157 (by decide) (fun h_5 => ?_) (fun h_5 => ?_)
    · refine aw_iconst K dX7_holds_164 ki_0 ?_
      refine aw_goto K 201 dX7_holds_165 (by decide) ?_
      refine aw_lv [2, 3, 4, 5] rfl ?_
      exact (a_f_Ru_holds_201 l t ht K hg hK5) _ _ _ _ _
    · refine aw_iconst K dX7_holds_160 ki_1 ?_
      refine aw_goto K 201 dX7_holds_161 (by decide) ?_
      refine aw_lv [2, 3, 4, 5] rfl ?_
      exact (a_f_Ru_holds_201 l t ht K hg hK5) _ _ _ _ _
set_option maxRecDepth 100000 in
set_option maxHeartbeats 4000000 in
theorem a_f_Ru_holds_5 (l : Launch) (t : Nat) (ht : TR t) {P : PT} {G : GT} (K : CX P G cX7_holds RX7 (0) 12) (hg : gl G = l) : ∀ (n : Nat) (x2 : Int32) (x3 : Int32) (x4 : Int32) (σ : SG), AW P G 12 (EZ P G cX7_holds) (f_Ru_holds_5 t n x2 x3 x4 σ) σ 5 [(0, rf P t), (2, .int x2), (3, .int x3), (4, .int x4)] [] := by
  intro n
  induction n with
  | zero =>
    intro x2 x3 x4 σ
    rw [f_Ru_holds_5]
    exact aw_none
  | succ n ih =>
    intro x2 x3 x4 σ
    rw [f_Ru_holds_5]
    refine aw_iload K 3 dX7_holds_5 rfl ?_
    refine aw_iload_n K 1 dX7_holds_7 rfl ?_
    refine aw_icmp_ge K 224 dX7_holds_8 (by decide) (fun h_1 => ?_) (fun h_1 => ?_)
    · refine aw_iload_n K 2 dX7_holds_224 rfl ?_
      refine aw_iconst K dX7_holds_225 ki_1 ?_
      refine aw_iand K dX7_holds_226 ?_
      refine aw_iconst K dX7_holds_227 ki_1 ?_
      refine aw_icmp_ne K 235 dX7_holds_228 (by decide) (fun h_2 => ?_) (fun h_2 => ?_)
      · refine aw_iconst K dX7_holds_235 ki_0 ?_
        exact aw_zret dX7_holds_236 (by decide)
      · refine aw_iconst K dX7_holds_231 ki_1 ?_
        refine aw_goto K 236 dX7_holds_232 (by decide) ?_
        exact aw_zret dX7_holds_236 (by decide)
    · refine aw_aload_n K 0 dX7_holds_11 rfl ?_
      refine aw_getR K (c' := t + 5) dX7_holds_12 lk_X7_24_7 (fd_Ru_6 ht) ?_
      refine aw_iload K 3 dX7_holds_15 rfl ?_
      refine aw_gd (fun h_3 => ?_)
      refine aw_ald K dX7_holds_17 (kd_Ru_6 ht) h_3 rfl ?_
      refine aw_istoreX K (i := 5) (lv' := fun y1 => [(5, .int y1), (0, rf P t), (2, .int x2), (3, .int x3), (4, .int x4)]) dX7_holds_18 (Nat.le_of_ble_eq_true rfl) (fun _ => rfl) (fun y1 => ?_)
      refine aw_iload K 0 dX7_holds_20 rfl ?_
      refine aw_bipush K dX7_holds_22 kb_m3 ?_
      refine aw_icmp_ne K 34 dX7_holds_24 (by decide) (fun h_4 => ?_) (fun h_4 => ?_)
      · refine aw_iload K 0 dX7_holds_34 rfl ?_
        refine aw_iconst K dX7_holds_36 ki_m1 ?_
        refine aw_icmp_ne K 52 dX7_holds_37 (by decide) (fun h_5 => ?_) (fun h_5 => ?_)
        · refine aw_iload K 0 dX7_holds_52 rfl ?_
          refine aw_bipush K dX7_holds_54 kb_m2 ?_
          refine aw_icmp_ne K 70 dX7_holds_56 (by decide) (fun h_6 => ?_) (fun h_6 => ?_)
          · refine aw_iload K 0 dX7_holds_70 rfl ?_
            refine aw_bipush K dX7_holds_72 kb_14 ?_
            refine aw_ishr K dX7_holds_74 ?_
            refine aw_sipush K dX7_holds_75 ks_16383 ?_
            refine aw_iand K dX7_holds_78 ?_
            refine aw_istoreX K (i := 6) (lv' := fun y2 => [(6, .int y2), (5, .int y1), (0, rf P t), (2, .int x2), (3, .int x3), (4, .int x4)]) dX7_holds_79 (Nat.le_of_ble_eq_true rfl) (fun _ => rfl) (fun y2 => ?_)
            refine aw_iload K 1 dX7_holds_81 rfl ?_
            refine aw_sipush K dX7_holds_83 ks_16383 ?_
            refine aw_iand K dX7_holds_86 ?_
            refine aw_istoreX K (i := 7) (lv' := fun y3 => [(7, .int y3), (6, .int y2), (5, .int y1), (0, rf P t), (2, .int x2), (3, .int x3), (4, .int x4)]) dX7_holds_87 (Nat.le_of_ble_eq_true rfl) (fun _ => rfl) (fun y3 => ?_)
            refine aw_iload K 1 dX7_holds_89 rfl ?_
            refine aw_sipush K dX7_holds_91 ks_10000 ?_
            refine aw_icmp_ge K 102 dX7_holds_94 (by decide) (fun h_7 => ?_) (fun h_7 => ?_)
            · refine aw_aload_n K 3 dX7_holds_102 rfl ?_
              refine aw_getR K (c' := t + 6) dX7_holds_103 lk_X7_27_7 (fd_Ru_7 ht) ?_
              refine aw_iload K 1 dX7_holds_106 rfl ?_
              refine aw_sipush K dX7_holds_108 ks_10000 ?_
              refine aw_isub K dX7_holds_111 ?_
              refine aw_gd (fun h_8 => ?_)
              refine aw_ald K dX7_holds_112 (kd_Ru_7 ht) h_8 rfl ?_
              refine aw_istoreX K (i := 8) (lv' := fun y4 => [(8, .int y4), (7, .int y3), (6, .int y2), (5, .int y1), (0, rf P t), (2, .int x2), (3, .int x3), (4, .int x4)]) dX7_holds_113 (Nat.le_of_ble_eq_true rfl) (fun _ => rfl) (fun y4 => ?_)
              refine aw_iload K 1 dX7_holds_115 rfl ?_
              refine aw_sipush K dX7_holds_117 ks_10000 ?_
              refine aw_icmp_ge K 128 dX7_holds_120 (by decide) (fun h_9 => ?_) (fun h_9 => ?_)
              · refine aw_aload_n K 4 dX7_holds_128 rfl ?_
                refine aw_getR K (c' := t + 6) dX7_holds_129 lk_X7_27_7 (fd_Ru_7 ht) ?_
                refine aw_iload K 1 dX7_holds_132 rfl ?_
                refine aw_sipush K dX7_holds_134 ks_10000 ?_
                refine aw_isub K dX7_holds_137 ?_
                refine aw_gd (fun h_10 => ?_)
                refine aw_ald K dX7_holds_138 (kd_Ru_7 ht) h_10 rfl ?_
                refine aw_lv [4, 5, 6, 7, 3, 0] rfl ?_
                exact (a_f_Ru_holds_139 l t ht K hg ih) _ _ _ _ _ _ _
              · refine aw_iload K 1 dX7_holds_123 rfl ?_
                refine aw_goto K 139 dX7_holds_125 (by decide) ?_
                refine aw_lv [4, 5, 6, 7, 3, 0] rfl ?_
                exact (a_f_Ru_holds_139 l t ht K hg ih) _ _ _ _ _ _ _
            · refine aw_iload K 1 dX7_holds_97 rfl ?_
              refine aw_goto K 113 dX7_holds_99 (by decide) ?_
              refine aw_istore K (i := 8) (lv' := [(8, .int y2), (7, .int y3), (6, .int y2), (5, .int y1), (0, rf P t), (2, .int x2), (3, .int x3), (4, .int x4)]) dX7_holds_113 (Nat.le_of_ble_eq_true rfl) rfl ?_
              refine aw_iload K 1 dX7_holds_115 rfl ?_
              refine aw_sipush K dX7_holds_117 ks_10000 ?_
              refine aw_icmp_ge K 128 dX7_holds_120 (by decide) (fun h_11 => ?_) (fun h_11 => ?_)
              · refine aw_aload_n K 4 dX7_holds_128 rfl ?_
                refine aw_getR K (c' := t + 6) dX7_holds_129 lk_X7_27_7 (fd_Ru_7 ht) ?_
                refine aw_iload K 1 dX7_holds_132 rfl ?_
                refine aw_sipush K dX7_holds_134 ks_10000 ?_
                refine aw_isub K dX7_holds_137 ?_
                refine aw_gd (fun h_12 => ?_)
                refine aw_ald K dX7_holds_138 (kd_Ru_7 ht) h_12 rfl ?_
                refine aw_lv [4, 5, 6, 7, 3, 0] rfl ?_
                exact (a_f_Ru_holds_139 l t ht K hg ih) _ _ _ _ _ _ _
              · refine aw_iload K 1 dX7_holds_123 rfl ?_
                refine aw_goto K 139 dX7_holds_125 (by decide) ?_
                refine aw_lv [4, 5, 6, 7, 3, 0] rfl ?_
                exact (a_f_Ru_holds_139 l t ht K hg ih) _ _ _ _ _ _ _
          · refine aw_iload_n K 3 dX7_holds_59 rfl ?_
            refine aw_iconst K dX7_holds_60 ki_1 ?_
            refine aw_ishr K dX7_holds_61 ?_
            refine aw_iload_n K 3 dX7_holds_62 rfl ?_
            refine aw_iconst K dX7_holds_63 ki_1 ?_
            refine aw_iand K dX7_holds_64 ?_
            refine aw_ior K dX7_holds_65 ?_
            refine aw_istoreX_n K (i := 3) (lv' := fun y5 => [(3, .int y5), (5, .int y1), (0, rf P t), (2, .int x2), (4, .int x4)]) dX7_holds_66 rfl (Nat.le_of_ble_eq_true rfl) (fun _ => rfl) (fun y5 => ?_)
            refine aw_goto K 218 dX7_holds_67 (by decide) ?_
            refine aw_iinc K (lv' := fun y6 => [(4, .int y6), (3, .int y5), (5, .int y1), (0, rf P t), (2, .int x2)]) 4 dX7_holds_218 rfl ki_1 (Nat.le_of_ble_eq_true rfl) (fun _ => rfl) (fun y6 => ?_)
            refine aw_goto K 5 dX7_holds_221 (by decide) ?_
            refine aw_lv [3, 4, 1, 0] rfl ?_
            exact ih _ _ _ _
        · refine aw_iload_n K 3 dX7_holds_40 rfl ?_
          refine aw_iconst K dX7_holds_41 ki_1 ?_
          refine aw_ishr K dX7_holds_42 ?_
          refine aw_iload_n K 3 dX7_holds_43 rfl ?_
          refine aw_bipush K dX7_holds_44 kb_m2 ?_
          refine aw_ior K dX7_holds_46 ?_
          refine aw_iand K dX7_holds_47 ?_
          refine aw_istoreX_n K (i := 3) (lv' := fun y7 => [(3, .int y7), (5, .int y1), (0, rf P t), (2, .int x2), (4, .int x4)]) dX7_holds_48 rfl (Nat.le_of_ble_eq_true rfl) (fun _ => rfl) (fun y7 => ?_)
          refine aw_goto K 218 dX7_holds_49 (by decide) ?_
          refine aw_iinc K (lv' := fun y8 => [(4, .int y8), (3, .int y7), (5, .int y1), (0, rf P t), (2, .int x2)]) 4 dX7_holds_218 rfl ki_1 (Nat.le_of_ble_eq_true rfl) (fun _ => rfl) (fun y8 => ?_)
          refine aw_goto K 5 dX7_holds_221 (by decide) ?_
          refine aw_lv [3, 4, 1, 0] rfl ?_
          exact ih _ _ _ _
      · refine aw_iload_n K 3 dX7_holds_27 rfl ?_
        refine aw_iconst K dX7_holds_28 ki_1 ?_
        refine aw_ixor K dX7_holds_29 ?_
        refine aw_istoreX_n K (i := 3) (lv' := fun y9 => [(3, .int y9), (5, .int y1), (0, rf P t), (2, .int x2), (4, .int x4)]) dX7_holds_30 rfl (Nat.le_of_ble_eq_true rfl) (fun _ => rfl) (fun y9 => ?_)
        refine aw_goto K 218 dX7_holds_31 (by decide) ?_
        refine aw_iinc K (lv' := fun y10 => [(4, .int y10), (3, .int y9), (5, .int y1), (0, rf P t), (2, .int x2)]) 4 dX7_holds_218 rfl ki_1 (Nat.le_of_ble_eq_true rfl) (fun _ => rfl) (fun y10 => ?_)
        refine aw_goto K 5 dX7_holds_221 (by decide) ?_
        refine aw_lv [3, 4, 1, 0] rfl ?_
        exact ih _ _ _ _
set_option maxRecDepth 100000 in
set_option maxHeartbeats 4000000 in
theorem c_f_Ru_holds (l : Launch) (t : Nat) (ht : TR t) (x1 : Int32) (x2 : Int32) : CTI l (0) yX7_holds cX7_holds 12 ((some .boolean)) (fun P => [rf P t, .int x1, .int x2]) (fun σ => f_Ru_holds t x1 x2 σ) := by
  refine met_Z rfl rfl rfl (fun P => Nat.le_of_ble_eq_true rfl) (fun P G K hg σ => ?_)
  change AW P G 12 (EZ P G cX7_holds) (f_Ru_holds t x1 x2 σ) σ 0 [(0, rf P t), (1, .int x1), (2, .int x2)] []
  rw [f_Ru_holds]
  refine aw_iconst K dX7_holds_0 ki_1 ?_
  refine aw_istore_n K (i := 3) (lv' := [(3, .int (1 : Int32)), (0, rf P t), (1, .int x1), (2, .int x2)]) dX7_holds_1 rfl (Nat.le_of_ble_eq_true rfl) rfl ?_
  refine aw_iload_n K 2 dX7_holds_2 rfl ?_
  refine aw_istore K (i := 4) (lv' := [(4, .int x1), (3, .int (1 : Int32)), (0, rf P t), (1, .int x1), (2, .int x2)]) dX7_holds_3 (Nat.le_of_ble_eq_true rfl) rfl ?_
  refine aw_lv [2, 4, 1, 0] rfl ?_
  exact (a_f_Ru_holds_5 l t ht K hg FU) _ _ _ _
set_option maxRecDepth 100000 in
set_option maxHeartbeats 4000000 in
theorem a_f_Ru_changed_5 (l : Launch) (t : Nat) (ht : TR t) {P : PT} {G : GT} (K : CX P G cX7_changed RX7 (1) 5) (hg : gl G = l) : ∀ (n : Nat) (x1 : Int32) (x2 : Int32) (x3 : Int32) (x4 : Int32) (σ : SG), AW P G 5 (EI P G cX7_changed) (f_Ru_changed_5 t n x1 x2 x3 x4 σ) σ 5 [(0, rf P t), (1, .int x1), (2, .int x2), (3, .int x3), (4, .int x4)] [] := by
  intro n
  induction n with
  | zero =>
    intro x1 x2 x3 x4 σ
    rw [f_Ru_changed_5]
    exact aw_none
  | succ n ih =>
    intro x1 x2 x3 x4 σ
    rw [f_Ru_changed_5]
    refine aw_iload K 4 dX7_changed_5 rfl ?_
    refine aw_aload_n K 0 dX7_changed_7 rfl ?_
    refine aw_getI K dX7_changed_8 lk_X7_30_7 (fd_Ru_0 ht) ?_
    refine aw_icmp_ge K 127 dX7_changed_11 (by decide) (fun h_1 => ?_) (fun h_1 => ?_)
    · refine aw_iload_n K 1 dX7_changed_127 rfl ?_
      exact aw_iret dX7_changed_128
    · refine aw_iload_n K 2 dX7_changed_14 rfl ?_
      refine aw_aload_n K 0 dX7_changed_15 rfl ?_
      refine aw_getR K (c' := t + 1) dX7_changed_16 lk_X7_9_7 (fd_Ru_1 ht) ?_
      refine aw_iload K 4 dX7_changed_19 rfl ?_
      refine aw_gd (fun h_2 => ?_)
      refine aw_ald K dX7_changed_21 (kd_Ru_1 ht) h_2 rfl ?_
      refine aw_callNI K dX7_changed_22 vw_X7_43 (c_f_H_isUnder l _ _) hg (by decide) rfl (Nat.le_of_ble_eq_true rfl) rfl rfl (fun r2 σ1 _ => ?_)
      refine aw_if_eq K 113 dX7_changed_25 (by decide) (fun h_3 => ?_) (fun h_3 => ?_)
      · refine aw_aload_n K 0 dX7_changed_113 rfl ?_
        refine aw_getR K (c' := t + 4) dX7_changed_114 lk_X7_21_7 (fd_Ru_4 ht) ?_
        refine aw_iload K 4 dX7_changed_117 rfl ?_
        refine aw_gd (fun h_4 => ?_)
        refine aw_ald K dX7_changed_119 (kd_Ru_4 ht) h_4 rfl ?_
        refine aw_istoreX_n K (i := 3) (lv' := fun y3 => [(3, .int y3), (0, rf P t), (1, .int x1), (2, .int x2), (4, .int x4)]) dX7_changed_120 rfl (Nat.le_of_ble_eq_true rfl) (fun _ => rfl) (fun y3 => ?_)
        refine aw_iinc K (lv' := fun y4 => [(4, .int y4), (3, .int y3), (0, rf P t), (1, .int x1), (2, .int x2)]) 4 dX7_changed_121 rfl ki_1 (Nat.le_of_ble_eq_true rfl) (fun _ => rfl) (fun y4 => ?_)
        refine aw_goto K 5 dX7_changed_124 (by decide) ?_
        refine aw_lv [2, 3, 4, 1, 0] rfl ?_
        exact ih _ _ _ _ _
      · refine aw_aload_n K 0 dX7_changed_28 rfl ?_
        refine aw_iload_n K 3 dX7_changed_29 rfl ?_
        refine aw_aload_n K 0 dX7_changed_30 rfl ?_
        refine aw_getR K (c' := t + 4) dX7_changed_31 lk_X7_21_7 (fd_Ru_4 ht) ?_
        refine aw_iload K 4 dX7_changed_34 rfl ?_
        refine aw_gd (fun h_5 => ?_)
        refine aw_ald K dX7_changed_36 (kd_Ru_4 ht) h_5 rfl ?_
        refine aw_callVI K dX7_changed_37 vw_X7_47_7 (c_f_Ru_holds l t ht _ _) hg (by decide) (ob_Ru ht) rfl (Nat.le_of_ble_eq_true rfl) rfl rfl (fun r6 σ5 _ => ?_)
        refine aw_if_eq K 113 dX7_changed_40 (by decide) (fun h_6 => ?_) (fun h_6 => ?_)
        · refine aw_aload_n K 0 dX7_changed_113 rfl ?_
          refine aw_getR K (c' := t + 4) dX7_changed_114 lk_X7_21_7 (fd_Ru_4 ht) ?_
          refine aw_iload K 4 dX7_changed_117 rfl ?_
          refine aw_gd (fun h_7 => ?_)
          refine aw_ald K dX7_changed_119 (kd_Ru_4 ht) h_7 rfl ?_
          refine aw_istoreX_n K (i := 3) (lv' := fun y7 => [(3, .int y7), (0, rf P t), (1, .int x1), (2, .int x2), (4, .int x4)]) dX7_changed_120 rfl (Nat.le_of_ble_eq_true rfl) (fun _ => rfl) (fun y7 => ?_)
          refine aw_iinc K (lv' := fun y8 => [(4, .int y8), (3, .int y7), (0, rf P t), (1, .int x1), (2, .int x2)]) 4 dX7_changed_121 rfl ki_1 (Nat.le_of_ble_eq_true rfl) (fun _ => rfl) (fun y8 => ?_)
          refine aw_goto K 5 dX7_changed_124 (by decide) ?_
          refine aw_lv [2, 3, 4, 1, 0] rfl ?_
          exact ih _ _ _ _ _
        · refine aw_aload_n K 0 dX7_changed_43 rfl ?_
          refine aw_getR K (c' := t + 2) dX7_changed_44 lk_X7_15_7 (fd_Ru_2 ht) ?_
          refine aw_iload K 4 dX7_changed_47 rfl ?_
          refine aw_gd (fun h_8 => ?_)
          refine aw_ald K dX7_changed_49 (kd_Ru_2 ht) h_8 rfl ?_
          refine aw_ite (fun h_9 => ?_) (fun h_9 => ?_)
          · refine aw_look K (off := 26) 76 dX7_changed_50 rfl (by rw [ti_of h_9 kt_10012] <;> rfl) (by decide) ?_
            refine aw_iload_n K 1 dX7_changed_76 rfl ?_
            refine aw_aload_n K 0 dX7_changed_77 rfl ?_
            refine aw_getR K (c' := t + 3) dX7_changed_78 lk_X7_18_7 (fd_Ru_3 ht) ?_
            refine aw_iload K 4 dX7_changed_81 rfl ?_
            refine aw_gd (fun h_10 => ?_)
            refine aw_ald K dX7_changed_83 (kd_Ru_3 ht) h_10 rfl ?_
            refine aw_iadd K dX7_changed_84 ?_
            exact aw_iret dX7_changed_85
          refine aw_ite (fun h_11 => ?_) (fun h_11 => ?_)
          · refine aw_look K (off := 36) 86 dX7_changed_50 rfl (by rw [ti_of h_11 kt_10013] <;> rfl) (by decide) ?_
            refine aw_iload_n K 1 dX7_changed_86 rfl ?_
            refine aw_aload_n K 0 dX7_changed_87 rfl ?_
            refine aw_getR K (c' := t + 3) dX7_changed_88 lk_X7_18_7 (fd_Ru_3 ht) ?_
            refine aw_iload K 4 dX7_changed_91 rfl ?_
            refine aw_gd (fun h_12 => ?_)
            refine aw_ald K dX7_changed_93 (kd_Ru_3 ht) h_12 rfl ?_
            refine aw_icmp_le K 109 dX7_changed_94 (by decide) (fun h_13 => ?_) (fun h_13 => ?_)
            · refine aw_iconst K dX7_changed_109 ki_0 ?_
              exact aw_iret dX7_changed_110
            · refine aw_iload_n K 1 dX7_changed_97 rfl ?_
              refine aw_aload_n K 0 dX7_changed_98 rfl ?_
              refine aw_getR K (c' := t + 3) dX7_changed_99 lk_X7_18_7 (fd_Ru_3 ht) ?_
              refine aw_iload K 4 dX7_changed_102 rfl ?_
              refine aw_gd (fun h_14 => ?_)
              refine aw_ald K dX7_changed_104 (kd_Ru_3 ht) h_14 rfl ?_
              refine aw_isub K dX7_changed_105 ?_
              refine aw_goto K 110 dX7_changed_106 (by decide) ?_
              exact aw_iret dX7_changed_110
          refine aw_look K (off := 61) 111 dX7_changed_50 rfl (by rw [lv_osw h_9 kt_10012, lv_osw h_11 kt_10013] <;> rfl) (by decide) ?_
          refine aw_iconst K dX7_changed_111 ki_0 ?_
          exact aw_iret dX7_changed_112
set_option maxRecDepth 100000 in
set_option maxHeartbeats 4000000 in
theorem c_f_Ru_changed (l : Launch) (t : Nat) (ht : TR t) (x1 : Int32) (x2 : Int32) : CTI l (1) yX7_changed cX7_changed 5 ((some .int)) (fun P => [rf P t, .int x1, .int x2]) (fun σ => f_Ru_changed t x1 x2 σ) := by
  refine met_I rfl rfl rfl (fun P => Nat.le_of_ble_eq_true rfl) (fun P G K hg σ => ?_)
  change AW P G 5 (EI P G cX7_changed) (f_Ru_changed t x1 x2 σ) σ 0 [(0, rf P t), (1, .int x1), (2, .int x2)] []
  rw [f_Ru_changed]
  refine aw_iconst K dX7_changed_0 ki_0 ?_
  refine aw_istore_n K (i := 3) (lv' := [(3, .int (0 : Int32)), (0, rf P t), (1, .int x1), (2, .int x2)]) dX7_changed_1 rfl (Nat.le_of_ble_eq_true rfl) rfl ?_
  refine aw_iconst K dX7_changed_2 ki_0 ?_
  refine aw_istore K (i := 4) (lv' := [(4, .int (0 : Int32)), (3, .int (0 : Int32)), (0, rf P t), (1, .int x1), (2, .int x2)]) dX7_changed_3 (Nat.le_of_ble_eq_true rfl) rfl ?_
  refine aw_lv [2, 3, 4, 1, 0] rfl ?_
  exact (a_f_Ru_changed_5 l t ht K hg FU) _ _ _ _ _
set_option maxRecDepth 100000 in
set_option maxHeartbeats 4000000 in
theorem a_f_To_asks_107 (l : Launch) (t : Nat) (ht : TW t) {P : PT} {G : GT} (K : CX P G cX9_asks RX9 (2) 6) (hg : gl G = l) : ∀ (x1 : Int32) (x4 : Int32) (x5 : Int32) (σ : SG), AW P G 6 (EI P G cX9_asks) (f_To_asks_107 t x1 x4 x5 σ) σ 107 [(0, rf P t), (1, .int x1), (4, .int x4), (5, .int x5)] [] := by
  intro x1 x4 x5 σ
  rw [f_To_asks_107]
  refine aw_aload_n K 0 dX9_asks_107 rfl ?_
  refine aw_getR K (c' := 13) dX9_asks_108 lk_X9_52_9 (fd_To_0 ht) ?_
  refine aw_aload_n K 0 dX9_asks_111 rfl ?_
  refine aw_getR K (c' := t + 8) dX9_asks_112 lk_X9_18_9 (fd_To_3 ht) ?_
  refine aw_iload_n K 1 dX9_asks_115 rfl ?_
  refine aw_gd (fun h_1 => ?_)
  refine aw_ald K dX9_asks_116 (kd_To_3 ht) h_1 rfl ?_
  refine aw_gd (fun h_2 => ?_)
  refine aw_ite (fun h_3 => ?_) (fun h_3 => ?_)
  · refine aw_aaldP K (q := 14) dX9_asks_117 ad_13 h_2 (by rw [h_3, kn_0]) ?_
    refine aw_iload K 2 dX9_asks_118 rfl ?_
    refine aw_aload_n K 0 dX9_asks_120 rfl ?_
    refine aw_getR K (c' := t + 11) dX9_asks_121 lk_X9_28_9 (fd_To_6 ht) ?_
    refine aw_iload_n K 1 dX9_asks_124 rfl ?_
    refine aw_gd (fun h_4 => ?_)
    refine aw_ald K dX9_asks_125 (kd_To_6 ht) h_4 rfl ?_
    refine aw_iload K 3 dX9_asks_126 rfl ?_
    refine aw_if_ne K 135 dX9_asks_128 (by decide) (fun h_5 => ?_) (fun h_5 => ?_)
    · refine aw_iconst K dX9_asks_135 ki_0 ?_
      refine aw_callVI K dX9_asks_136 vw_X9_109_4 (c_f_Pe_isAsked l _ _ _) hg (by decide) ob_14 rfl (Nat.le_of_ble_eq_true rfl) rfl rfl (fun r2 σ1 _ => ?_)
      exact aw_iret dX9_asks_139
    · refine aw_iconst K dX9_asks_131 ki_1 ?_
      refine aw_goto K 136 dX9_asks_132 (by decide) ?_
      refine aw_callVI K dX9_asks_136 vw_X9_109_4 (c_f_Pe_isAsked l _ _ _) hg (by decide) ob_14 rfl (Nat.le_of_ble_eq_true rfl) rfl rfl (fun r4 σ3 _ => ?_)
      exact aw_iret dX9_asks_139
  refine aw_ite (fun h_6 => ?_) (fun h_6 => ?_)
  · refine aw_aaldP K (q := 15) dX9_asks_117 ad_13 h_2 (by rw [h_6, kn_1]) ?_
    refine aw_iload K 2 dX9_asks_118 rfl ?_
    refine aw_aload_n K 0 dX9_asks_120 rfl ?_
    refine aw_getR K (c' := t + 11) dX9_asks_121 lk_X9_28_9 (fd_To_6 ht) ?_
    refine aw_iload_n K 1 dX9_asks_124 rfl ?_
    refine aw_gd (fun h_7 => ?_)
    refine aw_ald K dX9_asks_125 (kd_To_6 ht) h_7 rfl ?_
    refine aw_iload K 3 dX9_asks_126 rfl ?_
    refine aw_if_ne K 135 dX9_asks_128 (by decide) (fun h_8 => ?_) (fun h_8 => ?_)
    · refine aw_iconst K dX9_asks_135 ki_0 ?_
      refine aw_callUI K dX9_asks_136 vw_X9_109_2 (c_f_Pe_isAsked_15 l _ _ _) hg (by decide) ob_15 rfl (Nat.le_of_ble_eq_true rfl) rfl rfl (fun r6 σ5 _ => ?_)
      exact aw_iret dX9_asks_139
    · refine aw_iconst K dX9_asks_131 ki_1 ?_
      refine aw_goto K 136 dX9_asks_132 (by decide) ?_
      refine aw_callUI K dX9_asks_136 vw_X9_109_2 (c_f_Pe_isAsked_15 l _ _ _) hg (by decide) ob_15 rfl (Nat.le_of_ble_eq_true rfl) rfl rfl (fun r8 σ7 _ => ?_)
      exact aw_iret dX9_asks_139
  refine aw_ite (fun h_9 => ?_) (fun h_9 => ?_)
  · refine aw_aaldP K (q := 16) dX9_asks_117 ad_13 h_2 (by rw [h_9, kn_2]) ?_
    refine aw_iload K 2 dX9_asks_118 rfl ?_
    refine aw_aload_n K 0 dX9_asks_120 rfl ?_
    refine aw_getR K (c' := t + 11) dX9_asks_121 lk_X9_28_9 (fd_To_6 ht) ?_
    refine aw_iload_n K 1 dX9_asks_124 rfl ?_
    refine aw_gd (fun h_10 => ?_)
    refine aw_ald K dX9_asks_125 (kd_To_6 ht) h_10 rfl ?_
    refine aw_iload K 3 dX9_asks_126 rfl ?_
    refine aw_if_ne K 135 dX9_asks_128 (by decide) (fun h_11 => ?_) (fun h_11 => ?_)
    · refine aw_iconst K dX9_asks_135 ki_0 ?_
      refine aw_callOI K dX9_asks_136 vw_X9_109_3 (c_f_Mi_isAsked l _ _ _) hg (by decide) ob_16 rfl (Nat.le_of_ble_eq_true rfl) rfl rfl (fun r10 σ9 _ => ?_)
      exact aw_iret dX9_asks_139
    · refine aw_iconst K dX9_asks_131 ki_1 ?_
      refine aw_goto K 136 dX9_asks_132 (by decide) ?_
      refine aw_callOI K dX9_asks_136 vw_X9_109_3 (c_f_Mi_isAsked l _ _ _) hg (by decide) ob_16 rfl (Nat.le_of_ble_eq_true rfl) rfl rfl (fun r12 σ11 _ => ?_)
      exact aw_iret dX9_asks_139
  refine aw_ite (fun h_12 => ?_) (fun h_12 => ?_)
  · refine aw_aaldP K (q := 17) dX9_asks_117 ad_13 h_2 (by rw [h_12, kn_3]) ?_
    refine aw_iload K 2 dX9_asks_118 rfl ?_
    refine aw_aload_n K 0 dX9_asks_120 rfl ?_
    refine aw_getR K (c' := t + 11) dX9_asks_121 lk_X9_28_9 (fd_To_6 ht) ?_
    refine aw_iload_n K 1 dX9_asks_124 rfl ?_
    refine aw_gd (fun h_13 => ?_)
    refine aw_ald K dX9_asks_125 (kd_To_6 ht) h_13 rfl ?_
    refine aw_iload K 3 dX9_asks_126 rfl ?_
    refine aw_if_ne K 135 dX9_asks_128 (by decide) (fun h_14 => ?_) (fun h_14 => ?_)
    · refine aw_iconst K dX9_asks_135 ki_0 ?_
      refine aw_callOI K dX9_asks_136 vw_X9_109_10 (c_f_Wi_isAsked l _ _ _) hg (by decide) ob_17 rfl (Nat.le_of_ble_eq_true rfl) rfl rfl (fun r14 σ13 _ => ?_)
      exact aw_iret dX9_asks_139
    · refine aw_iconst K dX9_asks_131 ki_1 ?_
      refine aw_goto K 136 dX9_asks_132 (by decide) ?_
      refine aw_callOI K dX9_asks_136 vw_X9_109_10 (c_f_Wi_isAsked l _ _ _) hg (by decide) ob_17 rfl (Nat.le_of_ble_eq_true rfl) rfl rfl (fun r16 σ15 _ => ?_)
      exact aw_iret dX9_asks_139
  refine aw_ite (fun h_15 => ?_) (fun h_15 => ?_)
  · refine aw_aaldP K (q := 18) dX9_asks_117 ad_13 h_2 (by rw [h_15, kn_4]) ?_
    refine aw_iload K 2 dX9_asks_118 rfl ?_
    refine aw_aload_n K 0 dX9_asks_120 rfl ?_
    refine aw_getR K (c' := t + 11) dX9_asks_121 lk_X9_28_9 (fd_To_6 ht) ?_
    refine aw_iload_n K 1 dX9_asks_124 rfl ?_
    refine aw_gd (fun h_16 => ?_)
    refine aw_ald K dX9_asks_125 (kd_To_6 ht) h_16 rfl ?_
    refine aw_iload K 3 dX9_asks_126 rfl ?_
    refine aw_if_ne K 135 dX9_asks_128 (by decide) (fun h_17 => ?_) (fun h_17 => ?_)
    · refine aw_iconst K dX9_asks_135 ki_0 ?_
      refine aw_callOI K dX9_asks_136 vw_X9_109_5 (c_f_Pr_isAsked l _ _ _) hg (by decide) ob_18 rfl (Nat.le_of_ble_eq_true rfl) rfl rfl (fun r18 σ17 _ => ?_)
      exact aw_iret dX9_asks_139
    · refine aw_iconst K dX9_asks_131 ki_1 ?_
      refine aw_goto K 136 dX9_asks_132 (by decide) ?_
      refine aw_callOI K dX9_asks_136 vw_X9_109_5 (c_f_Pr_isAsked l _ _ _) hg (by decide) ob_18 rfl (Nat.le_of_ble_eq_true rfl) rfl rfl (fun r20 σ19 _ => ?_)
      exact aw_iret dX9_asks_139
  refine aw_aaldP K (q := 19) dX9_asks_117 ad_13 h_2 (nx_last5 h_2 h_3 h_6 h_9 h_12 h_15) ?_
  refine aw_iload K 2 dX9_asks_118 rfl ?_
  refine aw_aload_n K 0 dX9_asks_120 rfl ?_
  refine aw_getR K (c' := t + 11) dX9_asks_121 lk_X9_28_9 (fd_To_6 ht) ?_
  refine aw_iload_n K 1 dX9_asks_124 rfl ?_
  refine aw_gd (fun h_18 => ?_)
  refine aw_ald K dX9_asks_125 (kd_To_6 ht) h_18 rfl ?_
  refine aw_iload K 3 dX9_asks_126 rfl ?_
  refine aw_if_ne K 135 dX9_asks_128 (by decide) (fun h_19 => ?_) (fun h_19 => ?_)
  · refine aw_iconst K dX9_asks_135 ki_0 ?_
    refine aw_callOI K dX9_asks_136 vw_X9_109_0 (c_f_Be_isAsked l _ _ _) hg (by decide) ob_19 rfl (Nat.le_of_ble_eq_true rfl) rfl rfl (fun r22 σ21 _ => ?_)
    exact aw_iret dX9_asks_139
  · refine aw_iconst K dX9_asks_131 ki_1 ?_
    refine aw_goto K 136 dX9_asks_132 (by decide) ?_
    refine aw_callOI K dX9_asks_136 vw_X9_109_0 (c_f_Be_isAsked l _ _ _) hg (by decide) ob_19 rfl (Nat.le_of_ble_eq_true rfl) rfl rfl (fun r24 σ23 _ => ?_)
    exact aw_iret dX9_asks_139
set_option maxRecDepth 100000 in
set_option maxHeartbeats 4000000 in
theorem a_f_To_asks_44 (l : Launch) (t : Nat) (ht : TW t) {P : PT} {G : GT} (K : CX P G cX9_asks RX9 (2) 6) (hg : gl G = l) : ∀ (x1 : Int32) (x2 : Int32) (x3 : Int32) (xs0 : Int32) (σ : SG), AW P G 6 (EI P G cX9_asks) (f_To_asks_44 t x1 x2 x3 xs0 σ) σ 44 [(0, rf P t), (1, .int x1), (2, .int x2), (3, .int x3)] [.int xs0] := by
  intro x1 x2 x3 xs0 σ
  rw [f_To_asks_44]
  refine aw_istore K (i := 4) (lv' := [(4, .int xs0), (0, rf P t), (1, .int x1), (2, .int x2), (3, .int x3)]) dX9_asks_44 (Nat.le_of_ble_eq_true rfl) rfl ?_
  refine aw_aload_n K 1 dX9_asks_46 rfl ?_
  refine aw_getI K dX9_asks_47 lk_X9_83_9 (fd_To_8 ht) ?_
  refine aw_aload_n K 1 dX9_asks_50 rfl ?_
  refine aw_getI K dX9_asks_51 lk_X9_86_9 (fd_To_9 ht) ?_
  refine aw_iconst K dX9_asks_54 ki_m1 ?_
  refine aw_ixor K dX9_asks_55 ?_
  refine aw_iand K dX9_asks_56 ?_
  refine aw_istoreX K (i := 5) (lv' := fun y1 => [(5, .int y1), (4, .int xs0), (0, rf P t), (1, .int x1), (2, .int x2), (3, .int x3)]) dX9_asks_57 (Nat.le_of_ble_eq_true rfl) (fun _ => rfl) (fun y1 => ?_)
  refine aw_aload_n K 2 dX9_asks_59 rfl ?_
  refine aw_getR K (c' := t + 1) dX9_asks_60 lk_X9_12_9 (fd_To_1 ht) ?_
  refine aw_getI K dX9_asks_63 lk_X9_92_7 (fd_Ru_0 (kd_To_1 ht)) ?_
  refine aw_if_le K 107 dX9_asks_66 (by decide) (fun h_1 => ?_) (fun h_1 => ?_)
  · refine aw_lv [2, 3, 1, 0] rfl ?_
    exact (a_f_To_asks_107 l t ht K hg) _ _ _ _
  · refine aw_aload_n K 2 dX9_asks_69 rfl ?_
    refine aw_getR K (c' := t + 1) dX9_asks_70 lk_X9_12_9 (fd_To_1 ht) ?_
    refine aw_iload_n K 4 dX9_asks_73 rfl ?_
    refine aw_iload_n K 5 dX9_asks_74 rfl ?_
    refine aw_aload_n K 2 dX9_asks_75 rfl ?_
    refine aw_getR K (c' := t + 11) dX9_asks_76 lk_X9_28_9 (fd_To_6 ht) ?_
    refine aw_iload_n K 3 dX9_asks_79 rfl ?_
    refine aw_gd (fun h_2 => ?_)
    refine aw_ald K dX9_asks_80 (kd_To_6 ht) h_2 rfl ?_
    refine aw_iload K 0 dX9_asks_81 rfl ?_
    refine aw_bitCount K dX9_asks_83 l_X9_95 hg (by decide) (Nat.le_of_ble_eq_true rfl)  ?_
    refine aw_iload_n K 3 dX9_asks_86 rfl ?_
    refine aw_callVV K dX9_asks_87 vw_X9_101_7 (c_f_Ru_look l (t + 1) (kd_To_1 ht) _ _ _ _ _) hg (by decide) (ob_Ru (kd_To_1 ht)) rfl (Nat.le_of_ble_eq_true rfl) rfl rfl (fun _ σ3 _ => ?_)
    refine aw_aload_n K 2 dX9_asks_90 rfl ?_
    refine aw_getR K (c' := t + 1) dX9_asks_91 lk_X9_12_9 (fd_To_1 ht) ?_
    refine aw_iload K 1 dX9_asks_94 rfl ?_
    refine aw_aload_n K 2 dX9_asks_96 rfl ?_
    refine aw_getR K (c' := t + 8) dX9_asks_97 lk_X9_18_9 (fd_To_3 ht) ?_
    refine aw_iload_n K 3 dX9_asks_100 rfl ?_
    refine aw_gd (fun h_3 => ?_)
    refine aw_ald K dX9_asks_101 (kd_To_3 ht) h_3 rfl ?_
    refine aw_callVI K dX9_asks_102 vw_X9_105_7 (c_f_Ru_changed l (t + 1) (kd_To_1 ht) _ _) hg (by decide) (ob_Ru (kd_To_1 ht)) rfl (Nat.le_of_ble_eq_true rfl) rfl rfl (fun r5 σ4 _ => ?_)
    refine aw_istore K (i := 4) (lv' := [(4, .int r5), (5, .int y1), (0, rf P t), (1, .int x1), (2, .int x2), (3, .int x3)]) dX9_asks_105 (Nat.le_of_ble_eq_true rfl) rfl ?_
    refine aw_lv [2, 3, 0, 1] rfl ?_
    exact (a_f_To_asks_107 l t ht K hg) _ _ _ _
set_option maxRecDepth 100000 in
set_option maxHeartbeats 4000000 in
theorem c_f_To_asks (l : Launch) (t : Nat) (ht : TW t) (x1 : Int32) : CTI l (2) yX9_asks cX9_asks 6 ((some .int)) (fun P => [rf P t, .int x1]) (fun σ => f_To_asks t x1 σ) := by
  refine met_I rfl rfl rfl (fun P => Nat.le_of_ble_eq_true rfl) (fun P G K hg σ => ?_)
  change AW P G 6 (EI P G cX9_asks) (f_To_asks t x1 σ) σ 0 [(0, rf P t), (1, .int x1)] []
  rw [f_To_asks]
  refine aw_aload_n K 0 dX9_asks_0 rfl ?_
  refine aw_getR K (c' := t + 13) dX9_asks_1 lk_X9_34_9 (fd_To_10 ht) ?_
  refine aw_aload_n K 0 dX9_asks_4 rfl ?_
  refine aw_getR K (c' := t + 9) dX9_asks_5 lk_X9_22_9 (fd_To_4 ht) ?_
  refine aw_iload_n K 1 dX9_asks_8 rfl ?_
  refine aw_gd (fun h_1 => ?_)
  refine aw_ald K dX9_asks_9 (kd_To_4 ht) h_1 rfl ?_
  refine aw_gd (fun h_2 => ?_)
  refine aw_ald K dX9_asks_10 (kd_To_10 ht) h_2 rfl ?_
  refine aw_istoreX_n K (i := 2) (lv' := fun y1 => [(2, .int y1), (0, rf P t), (1, .int x1)]) dX9_asks_11 rfl (Nat.le_of_ble_eq_true rfl) (fun _ => rfl) (fun y1 => ?_)
  refine aw_aload_n K 1 dX9_asks_12 rfl ?_
  refine aw_getR K (c' := t + 13) dX9_asks_13 lk_X9_34_9 (fd_To_10 ht) ?_
  refine aw_aload_n K 1 dX9_asks_16 rfl ?_
  refine aw_getR K (c' := t + 10) dX9_asks_17 lk_X9_25_9 (fd_To_5 ht) ?_
  refine aw_iload_n K 2 dX9_asks_20 rfl ?_
  refine aw_gd (fun h_3 => ?_)
  refine aw_ald K dX9_asks_21 (kd_To_5 ht) h_3 rfl ?_
  refine aw_gd (fun h_4 => ?_)
  refine aw_ald K dX9_asks_22 (kd_To_10 ht) h_4 rfl ?_
  refine aw_istoreX_n K (i := 3) (lv' := fun y2 => [(3, .int y2), (2, .int y1), (0, rf P t), (1, .int x1)]) dX9_asks_23 rfl (Nat.le_of_ble_eq_true rfl) (fun _ => rfl) (fun y2 => ?_)
  refine aw_iload_n K 0 dX9_asks_24 rfl ?_
  refine aw_iload_n K 1 dX9_asks_25 rfl ?_
  refine aw_icmp_le K 40 dX9_asks_26 (by decide) (fun h_5 => ?_) (fun h_5 => ?_)
  · refine aw_aload_n K 2 dX9_asks_40 rfl ?_
    refine aw_getI K dX9_asks_41 lk_X9_89_9 (fd_To_12 ht) ?_
    refine aw_lv [2, 3, 1, 0] rfl ?_
    exact (a_f_To_asks_44 l t ht K hg) _ _ _ _ _
  · refine aw_iload_n K 0 dX9_asks_29 rfl ?_
    refine aw_iload_n K 1 dX9_asks_30 rfl ?_
    refine aw_isub K dX9_asks_31 ?_
    refine aw_aload_n K 2 dX9_asks_32 rfl ?_
    refine aw_getI K dX9_asks_33 lk_X9_89_9 (fd_To_12 ht) ?_
    refine aw_iadd K dX9_asks_36 ?_
    refine aw_goto K 44 dX9_asks_37 (by decide) ?_
    refine aw_lv [2, 3, 1, 0] rfl ?_
    exact (a_f_To_asks_44 l t ht K hg) _ _ _ _ _
set_option maxRecDepth 100000 in
set_option maxHeartbeats 4000000 in
theorem c_f_H_personOf (l : Launch) (x1 : Int32) (x2 : Int32) : CTI l (3) yX11_personOf cX11_personOf 3 ((some .int)) (fun P => [rf P 0, .int x1, .int x2]) (fun σ => f_H_personOf x1 x2 σ) := by
  refine met_I rfl rfl rfl (fun P => Nat.le_of_ble_eq_true rfl) (fun P G K hg σ => ?_)
  change AW P G 3 (EI P G cX11_personOf) (f_H_personOf x1 x2 σ) σ 0 [(0, rf P 0), (1, .int x1), (2, .int x2)] []
  rw [f_H_personOf]
  refine aw_aload_n K 0 dX11_personOf_0 rfl ?_
  refine aw_getR K (c' := 20) dX11_personOf_1 lk_X11_41_11 fd_0_1 ?_
  refine aw_iload_n K 1 dX11_personOf_4 rfl ?_
  refine aw_callVI K dX11_personOf_5 vw_X11_104_9 (c_f_To_isPerson l 20 TW.a _) hg (by decide) ob_20 rfl (Nat.le_of_ble_eq_true rfl) rfl rfl (fun r2 σ1 _ => ?_)
  refine aw_if_ne K 13 dX11_personOf_8 (by decide) (fun h_1 => ?_) (fun h_1 => ?_)
  · refine aw_iload_n K 2 dX11_personOf_13 rfl ?_
    refine aw_ite (fun h_2 => ?_) (fun h_2 => ?_)
    · refine aw_tabIn K 56 (0) dX11_personOf_14 (ti_of h_2 kt_0) (by decide) (by decide) rfl (by decide) ?_
      refine aw_aload_n K 0 dX11_personOf_56 rfl ?_
      refine aw_getR K (c' := 20) dX11_personOf_57 lk_X11_41_11 fd_0_1 ?_
      refine aw_getR K (c' := 28) dX11_personOf_60 lk_X11_84_9 fd_20_3 ?_
      refine aw_iload_n K 1 dX11_personOf_63 rfl ?_
      refine aw_gd (fun h_3 => ?_)
      refine aw_ald K dX11_personOf_64 ad_28 h_3 rfl ?_
      exact aw_iret dX11_personOf_65
    refine aw_ite (fun h_4 => ?_) (fun h_4 => ?_)
    · refine aw_tabIn K 66 (1) dX11_personOf_14 (ti_of h_4 kt_1) (by decide) (by decide) rfl (by decide) ?_
      refine aw_aload_n K 0 dX11_personOf_66 rfl ?_
      refine aw_getR K (c' := 20) dX11_personOf_67 lk_X11_41_11 fd_0_1 ?_
      refine aw_getR K (c' := 29) dX11_personOf_70 lk_X11_88_9 fd_20_4 ?_
      refine aw_iload_n K 1 dX11_personOf_73 rfl ?_
      refine aw_gd (fun h_5 => ?_)
      refine aw_ald K dX11_personOf_74 ad_29 h_5 rfl ?_
      exact aw_iret dX11_personOf_75
    refine aw_ite (fun h_6 => ?_) (fun h_6 => ?_)
    · refine aw_tabIn K 76 (2) dX11_personOf_14 (ti_of h_6 kt_2) (by decide) (by decide) rfl (by decide) ?_
      refine aw_aload_n K 0 dX11_personOf_76 rfl ?_
      refine aw_getR K (c' := 20) dX11_personOf_77 lk_X11_41_11 fd_0_1 ?_
      refine aw_getR K (c' := 30) dX11_personOf_80 lk_X11_91_9 fd_20_5 ?_
      refine aw_iload_n K 1 dX11_personOf_83 rfl ?_
      refine aw_gd (fun h_7 => ?_)
      refine aw_ald K dX11_personOf_84 ad_30 h_7 rfl ?_
      exact aw_iret dX11_personOf_85
    refine aw_ite (fun h_8 => ?_) (fun h_8 => ?_)
    · refine aw_tabIn K 86 (3) dX11_personOf_14 (ti_of h_8 kt_3) (by decide) (by decide) rfl (by decide) ?_
      refine aw_aload_n K 0 dX11_personOf_86 rfl ?_
      refine aw_getR K (c' := 20) dX11_personOf_87 lk_X11_41_11 fd_0_1 ?_
      refine aw_getR K (c' := 31) dX11_personOf_90 lk_X11_94_9 fd_20_6 ?_
      refine aw_iload_n K 1 dX11_personOf_93 rfl ?_
      refine aw_gd (fun h_9 => ?_)
      refine aw_ald K dX11_personOf_94 ad_31 h_9 rfl ?_
      exact aw_iret dX11_personOf_95
    refine aw_ite (fun h_10 => ?_) (fun h_10 => ?_)
    · refine aw_tabIn K 96 (4) dX11_personOf_14 (ti_of h_10 kt_4) (by decide) (by decide) rfl (by decide) ?_
      refine aw_aload_n K 0 dX11_personOf_96 rfl ?_
      refine aw_getR K (c' := 20) dX11_personOf_97 lk_X11_41_11 fd_0_1 ?_
      refine aw_iload_n K 1 dX11_personOf_100 rfl ?_
      refine aw_callVI K dX11_personOf_101 vw_X11_107_9 (c_f_To_asks l 20 TW.a _) hg (by decide) ob_20 rfl (Nat.le_of_ble_eq_true rfl) rfl rfl (fun r4 σ3 _ => ?_)
      exact aw_iret dX11_personOf_104
    refine aw_ite (fun h_11 => ?_) (fun h_11 => ?_)
    · refine aw_tabIn K 105 (5) dX11_personOf_14 (ti_of h_11 kt_5) (by decide) (by decide) rfl (by decide) ?_
      refine aw_aload_n K 0 dX11_personOf_105 rfl ?_
      refine aw_getR K (c' := 20) dX11_personOf_106 lk_X11_41_11 fd_0_1 ?_
      refine aw_getI K dX11_personOf_109 lk_X11_111_9 fd_20_8 ?_
      refine aw_iload_n K 1 dX11_personOf_112 rfl ?_
      refine aw_ishr K dX11_personOf_113 ?_
      refine aw_iconst K dX11_personOf_114 ki_1 ?_
      refine aw_iand K dX11_personOf_115 ?_
      exact aw_iret dX11_personOf_116
    refine aw_ite (fun h_12 => ?_) (fun h_12 => ?_)
    · refine aw_tabIn K 117 (6) dX11_personOf_14 (ti_of h_12 kt_6) (by decide) (by decide) rfl (by decide) ?_
      refine aw_aload_n K 0 dX11_personOf_117 rfl ?_
      refine aw_getR K (c' := 20) dX11_personOf_118 lk_X11_41_11 fd_0_1 ?_
      refine aw_getR K (c' := 32) dX11_personOf_121 lk_X11_97_9 fd_20_7 ?_
      refine aw_iload_n K 1 dX11_personOf_124 rfl ?_
      refine aw_gd (fun h_13 => ?_)
      refine aw_ald K dX11_personOf_125 ad_32 h_13 rfl ?_
      exact aw_iret dX11_personOf_126
    refine aw_tabOut K 127 dX11_personOf_14 (by have := lv_neT h_2 kt_0; have := lv_neT h_4 kt_1; have := lv_neT h_6 kt_2; have := lv_neT h_8 kt_3; have := lv_neT h_10 kt_4; have := lv_neT h_11 kt_5; have := lv_neT h_12 kt_6; omega) (by decide) ?_
    refine aw_iconst K dX11_personOf_127 ki_m1 ?_
    exact aw_iret dX11_personOf_128
  · refine aw_iconst K dX11_personOf_11 ki_m1 ?_
    exact aw_iret dX11_personOf_12
set_option maxRecDepth 100000 in
set_option maxHeartbeats 4000000 in
theorem a_f_H_change_35 (l : Launch) {P : PT} {G : GT} (K : CX P G cX11_change RX11 (1) 6) (hg : gl G = l) : ∀ (x1 : Int32) (x2 : Int32) (x3 : Int32) (xs0 : Int32) (xs1 : Int32) (xs2 : Int32) (σ : SG), AW P G 6 (EI P G cX11_change) (f_H_change_35 x1 x2 x3 xs0 xs1 xs2 σ) σ 35 [(0, rf P 0), (1, .int x1), (2, .int x2), (3, .int x3)] [.int xs0, .int xs1, .int xs2] := by
  intro x1 x2 x3 xs0 xs1 xs2 σ
  rw [f_H_change_35]
  refine aw_callSI K dX11_change_35 vw_X11_72 (c_f_H_isIn l _ _ _) hg (by decide) rfl (Nat.le_of_ble_eq_true rfl) rfl rfl (fun r2 σ1 _ => ?_)
  refine aw_if_ne K 43 dX11_change_38 (by decide) (fun h_1 => ?_) (fun h_1 => ?_)
  · refine aw_iload_n K 2 dX11_change_43 rfl ?_
    refine aw_iconst K dX11_change_44 ki_1 ?_
    refine aw_icmp_ne K 58 dX11_change_45 (by decide) (fun h_2 => ?_) (fun h_2 => ?_)
    · refine aw_iload_n K 2 dX11_change_58 rfl ?_
      refine aw_iconst K dX11_change_59 ki_2 ?_
      refine aw_icmp_ne K 73 dX11_change_60 (by decide) (fun h_3 => ?_) (fun h_3 => ?_)
      · refine aw_aload_n K 0 dX11_change_73 rfl ?_
        refine aw_getR K (c' := 20) dX11_change_74 lk_X11_41_11 fd_0_1 ?_
        refine aw_getR K (c' := 31) dX11_change_77 lk_X11_94_9 fd_20_6 ?_
        refine aw_astore K (i := 4) (lv' := [(4, rf P 31), (0, rf P 0), (1, .int x1), (2, .int x2), (3, .int x3)]) dX11_change_80 (Nat.le_of_ble_eq_true rfl) rfl ?_
        refine aw_aload K 0 dX11_change_82 rfl ?_
        refine aw_iload_n K 2 dX11_change_84 rfl ?_
        refine aw_gd (fun h_4 => ?_)
        refine aw_ald K dX11_change_85 ad_31 h_4 rfl ?_
        refine aw_istoreX K (i := 5) (lv' := fun y3 => [(5, .int y3), (4, rf P 31), (0, rf P 0), (1, .int x1), (2, .int x2), (3, .int x3)]) dX11_change_86 (Nat.le_of_ble_eq_true rfl) (fun _ => rfl) (fun y3 => ?_)
        refine aw_aload K 1 dX11_change_88 rfl ?_
        refine aw_iload_n K 3 dX11_change_90 rfl ?_
        refine aw_iload_n K 5 dX11_change_91 rfl ?_
        refine aw_gd (fun h_5 => ?_)
        refine aw_ast K dX11_change_92 ad_31 h_5 rfl (fun σ4 => ?_)
        refine aw_aload_n K 2 dX11_change_93 rfl ?_
        refine aw_getR K (c' := 20) dX11_change_94 lk_X11_41_11 fd_0_1 ?_
        refine aw_iload_n K 3 dX11_change_97 rfl ?_
        refine aw_callVV K dX11_change_98 vw_X11_100_9 (c_f_To_mark l 20 TW.a _) hg (by decide) ob_20 rfl (Nat.le_of_ble_eq_true rfl) rfl rfl (fun _ σ5 _ => ?_)
        refine aw_iload K 0 dX11_change_101 rfl ?_
        exact aw_iret dX11_change_103
      · refine aw_aload_n K 0 dX11_change_63 rfl ?_
        refine aw_getR K (c' := 20) dX11_change_64 lk_X11_41_11 fd_0_1 ?_
        refine aw_getR K (c' := 30) dX11_change_67 lk_X11_91_9 fd_20_5 ?_
        refine aw_goto K 80 dX11_change_70 (by decide) ?_
        refine aw_astore K (i := 4) (lv' := [(4, rf P 30), (0, rf P 0), (1, .int x1), (2, .int x2), (3, .int x3)]) dX11_change_80 (Nat.le_of_ble_eq_true rfl) rfl ?_
        refine aw_aload K 0 dX11_change_82 rfl ?_
        refine aw_iload_n K 2 dX11_change_84 rfl ?_
        refine aw_gd (fun h_6 => ?_)
        refine aw_ald K dX11_change_85 ad_30 h_6 rfl ?_
        refine aw_istoreX K (i := 5) (lv' := fun y6 => [(5, .int y6), (4, rf P 30), (0, rf P 0), (1, .int x1), (2, .int x2), (3, .int x3)]) dX11_change_86 (Nat.le_of_ble_eq_true rfl) (fun _ => rfl) (fun y6 => ?_)
        refine aw_aload K 1 dX11_change_88 rfl ?_
        refine aw_iload_n K 3 dX11_change_90 rfl ?_
        refine aw_iload_n K 5 dX11_change_91 rfl ?_
        refine aw_gd (fun h_7 => ?_)
        refine aw_ast K dX11_change_92 ad_30 h_7 rfl (fun σ7 => ?_)
        refine aw_aload_n K 2 dX11_change_93 rfl ?_
        refine aw_getR K (c' := 20) dX11_change_94 lk_X11_41_11 fd_0_1 ?_
        refine aw_iload_n K 3 dX11_change_97 rfl ?_
        refine aw_callVV K dX11_change_98 vw_X11_100_9 (c_f_To_mark l 20 TW.a _) hg (by decide) ob_20 rfl (Nat.le_of_ble_eq_true rfl) rfl rfl (fun _ σ8 _ => ?_)
        refine aw_iload K 0 dX11_change_101 rfl ?_
        exact aw_iret dX11_change_103
    · refine aw_aload_n K 0 dX11_change_48 rfl ?_
      refine aw_getR K (c' := 20) dX11_change_49 lk_X11_41_11 fd_0_1 ?_
      refine aw_getR K (c' := 29) dX11_change_52 lk_X11_88_9 fd_20_4 ?_
      refine aw_goto K 80 dX11_change_55 (by decide) ?_
      refine aw_astore K (i := 4) (lv' := [(4, rf P 29), (0, rf P 0), (1, .int x1), (2, .int x2), (3, .int x3)]) dX11_change_80 (Nat.le_of_ble_eq_true rfl) rfl ?_
      refine aw_aload K 0 dX11_change_82 rfl ?_
      refine aw_iload_n K 2 dX11_change_84 rfl ?_
      refine aw_gd (fun h_8 => ?_)
      refine aw_ald K dX11_change_85 ad_29 h_8 rfl ?_
      refine aw_istoreX K (i := 5) (lv' := fun y9 => [(5, .int y9), (4, rf P 29), (0, rf P 0), (1, .int x1), (2, .int x2), (3, .int x3)]) dX11_change_86 (Nat.le_of_ble_eq_true rfl) (fun _ => rfl) (fun y9 => ?_)
      refine aw_aload K 1 dX11_change_88 rfl ?_
      refine aw_iload_n K 3 dX11_change_90 rfl ?_
      refine aw_iload_n K 5 dX11_change_91 rfl ?_
      refine aw_gd (fun h_9 => ?_)
      refine aw_ast K dX11_change_92 ad_29 h_9 rfl (fun σ10 => ?_)
      refine aw_aload_n K 2 dX11_change_93 rfl ?_
      refine aw_getR K (c' := 20) dX11_change_94 lk_X11_41_11 fd_0_1 ?_
      refine aw_iload_n K 3 dX11_change_97 rfl ?_
      refine aw_callVV K dX11_change_98 vw_X11_100_9 (c_f_To_mark l 20 TW.a _) hg (by decide) ob_20 rfl (Nat.le_of_ble_eq_true rfl) rfl rfl (fun _ σ11 _ => ?_)
      refine aw_iload K 0 dX11_change_101 rfl ?_
      exact aw_iret dX11_change_103
  · refine aw_iconst K dX11_change_41 ki_m1 ?_
    exact aw_iret dX11_change_42
set_option maxRecDepth 100000 in
set_option maxHeartbeats 4000000 in
theorem c_f_H_change (l : Launch) (x1 : Int32) (x2 : Int32) (x3 : Int32) : CTI l (1) yX11_change cX11_change 6 ((some .int)) (fun P => [rf P 0, .int x1, .int x2, .int x3]) (fun σ => f_H_change x1 x2 x3 σ) := by
  refine met_I rfl rfl rfl (fun P => Nat.le_of_ble_eq_true rfl) (fun P G K hg σ => ?_)
  change AW P G 6 (EI P G cX11_change) (f_H_change x1 x2 x3 σ) σ 0 [(0, rf P 0), (1, .int x1), (2, .int x2), (3, .int x3)] []
  rw [f_H_change]
  refine aw_aload_n K 0 dX11_change_0 rfl ?_
  refine aw_getR K (c' := 20) dX11_change_1 lk_X11_41_11 fd_0_1 ?_
  refine aw_iload_n K 1 dX11_change_4 rfl ?_
  refine aw_callVI K dX11_change_5 vw_X11_104_9 (c_f_To_isPerson l 20 TW.a _) hg (by decide) ob_20 rfl (Nat.le_of_ble_eq_true rfl) rfl rfl (fun r2 σ1 _ => ?_)
  refine aw_if_eq K 41 dX11_change_8 (by decide) (fun h_1 => ?_) (fun h_1 => ?_)
  · refine aw_iconst K dX11_change_41 ki_m1 ?_
    exact aw_iret dX11_change_42
  · refine aw_iload_n K 2 dX11_change_11 rfl ?_
    refine aw_iconst K dX11_change_12 ki_1 ?_
    refine aw_iconst K dX11_change_13 ki_3 ?_
    refine aw_callSI K dX11_change_14 vw_X11_72 (c_f_H_isIn l _ _ _) hg (by decide) rfl (Nat.le_of_ble_eq_true rfl) rfl rfl (fun r4 σ3 _ => ?_)
    refine aw_if_eq K 41 dX11_change_17 (by decide) (fun h_2 => ?_) (fun h_2 => ?_)
    · refine aw_iconst K dX11_change_41 ki_m1 ?_
      exact aw_iret dX11_change_42
    · refine aw_iload_n K 3 dX11_change_20 rfl ?_
      refine aw_iconst K dX11_change_21 ki_0 ?_
      refine aw_iload_n K 2 dX11_change_22 rfl ?_
      refine aw_iconst K dX11_change_23 ki_3 ?_
      refine aw_icmp_ne K 33 dX11_change_24 (by decide) (fun h_3 => ?_) (fun h_3 => ?_)
      · refine aw_bipush K dX11_change_33 kb_7 ?_
        refine aw_lv [0, 1, 2, 3] rfl ?_
        exact (a_f_H_change_35 l K hg) _ _ _ _ _ _ _
      · refine aw_sipush K dX11_change_27 ks_999 ?_
        refine aw_goto K 35 dX11_change_30 (by decide) ?_
        refine aw_lv [0, 1, 2, 3] rfl ?_
        exact (a_f_H_change_35 l K hg) _ _ _ _ _ _ _
set_option maxRecDepth 100000 in
set_option maxHeartbeats 4000000 in
theorem c_f_H_remake (l : Launch) (x1 : Int32) (x2 : Int32) : CTI l (1) yX11_remake cX11_remake 4 ((some .int)) (fun P => [rf P 0, .int x1, .int x2]) (fun σ => f_H_remake x1 x2 σ) := by
  refine met_I rfl rfl rfl (fun P => Nat.le_of_ble_eq_true rfl) (fun P G K hg σ => ?_)
  change AW P G 4 (EI P G cX11_remake) (f_H_remake x1 x2 σ) σ 0 [(0, rf P 0), (1, .int x1), (2, .int x2)] []
  rw [f_H_remake]
  refine aw_aload_n K 0 dX11_remake_0 rfl ?_
  refine aw_getR K (c' := 20) dX11_remake_1 lk_X11_41_11 fd_0_1 ?_
  refine aw_iload_n K 1 dX11_remake_4 rfl ?_
  refine aw_callVI K dX11_remake_5 vw_X11_104_9 (c_f_To_isPerson l 20 TW.a _) hg (by decide) ob_20 rfl (Nat.le_of_ble_eq_true rfl) rfl rfl (fun r2 σ1 _ => ?_)
  refine aw_if_eq K 20 dX11_remake_8 (by decide) (fun h_1 => ?_) (fun h_1 => ?_)
  · refine aw_iconst K dX11_remake_20 ki_m1 ?_
    exact aw_iret dX11_remake_21
  · refine aw_iload_n K 2 dX11_remake_11 rfl ?_
    refine aw_iconst K dX11_remake_12 ki_1 ?_
    refine aw_iconst K dX11_remake_13 ki_5 ?_
    refine aw_callSI K dX11_remake_14 vw_X11_72 (c_f_H_isIn l _ _ _) hg (by decide) rfl (Nat.le_of_ble_eq_true rfl) rfl rfl (fun r4 σ3 _ => ?_)
    refine aw_if_ne K 22 dX11_remake_17 (by decide) (fun h_2 => ?_) (fun h_2 => ?_)
    · refine aw_aload_n K 0 dX11_remake_22 rfl ?_
      refine aw_getR K (c' := 20) dX11_remake_23 lk_X11_41_11 fd_0_1 ?_
      refine aw_getR K (c' := 28) dX11_remake_26 lk_X11_84_9 fd_20_3 ?_
      refine aw_iload_n K 1 dX11_remake_29 rfl ?_
      refine aw_gd (fun h_3 => ?_)
      refine aw_ald K dX11_remake_30 ad_28 h_3 rfl ?_
      refine aw_istoreX_n K (i := 3) (lv' := fun y5 => [(3, .int y5), (0, rf P 0), (1, .int x1), (2, .int x2)]) dX11_remake_31 rfl (Nat.le_of_ble_eq_true rfl) (fun _ => rfl) (fun y5 => ?_)
      refine aw_aload_n K 1 dX11_remake_32 rfl ?_
      refine aw_getR K (c' := 20) dX11_remake_33 lk_X11_41_11 fd_0_1 ?_
      refine aw_getR K (c' := 28) dX11_remake_36 lk_X11_84_9 fd_20_3 ?_
      refine aw_iload_n K 2 dX11_remake_39 rfl ?_
      refine aw_iload_n K 3 dX11_remake_40 rfl ?_
      refine aw_gd (fun h_4 => ?_)
      refine aw_ast K dX11_remake_41 ad_28 h_4 rfl (fun σ6 => ?_)
      refine aw_iload_n K 0 dX11_remake_42 rfl ?_
      exact aw_iret dX11_remake_43
    · refine aw_iconst K dX11_remake_20 ki_m1 ?_
      exact aw_iret dX11_remake_21
set_option maxRecDepth 100000 in
set_option maxHeartbeats 4000000 in
theorem c_f_H_meets (l : Launch) (x1 : Int32) (x2 : Int32) (x3 : Int32) : CTI l (1) yX11_meets cX11_meets 5 ((some .int)) (fun P => [rf P 0, .int x1, .int x2, .int x3]) (fun σ => f_H_meets x1 x2 x3 σ) := by
  refine met_I rfl rfl rfl (fun P => Nat.le_of_ble_eq_true rfl) (fun P G K hg σ => ?_)
  change AW P G 5 (EI P G cX11_meets) (f_H_meets x1 x2 x3 σ) σ 0 [(0, rf P 0), (1, .int x1), (2, .int x2), (3, .int x3)] []
  rw [f_H_meets]
  refine aw_aload_n K 0 dX11_meets_0 rfl ?_
  refine aw_getR K (c' := 20) dX11_meets_1 lk_X11_41_11 fd_0_1 ?_
  refine aw_iload_n K 1 dX11_meets_4 rfl ?_
  refine aw_callVI K dX11_meets_5 vw_X11_104_9 (c_f_To_isPerson l 20 TW.a _) hg (by decide) ob_20 rfl (Nat.le_of_ble_eq_true rfl) rfl rfl (fun r2 σ1 _ => ?_)
  refine aw_if_eq K 27 dX11_meets_8 (by decide) (fun h_1 => ?_) (fun h_1 => ?_)
  · refine aw_iconst K dX11_meets_27 ki_m1 ?_
    exact aw_iret dX11_meets_28
  · refine aw_aload_n K 0 dX11_meets_11 rfl ?_
    refine aw_getR K (c' := 20) dX11_meets_12 lk_X11_41_11 fd_0_1 ?_
    refine aw_iload_n K 2 dX11_meets_15 rfl ?_
    refine aw_callVI K dX11_meets_16 vw_X11_104_9 (c_f_To_isPerson l 20 TW.a _) hg (by decide) ob_20 rfl (Nat.le_of_ble_eq_true rfl) rfl rfl (fun r4 σ3 _ => ?_)
    refine aw_if_eq K 27 dX11_meets_19 (by decide) (fun h_2 => ?_) (fun h_2 => ?_)
    · refine aw_iconst K dX11_meets_27 ki_m1 ?_
      exact aw_iret dX11_meets_28
    · refine aw_iload_n K 1 dX11_meets_22 rfl ?_
      refine aw_iload_n K 2 dX11_meets_23 rfl ?_
      refine aw_icmp_ne K 29 dX11_meets_24 (by decide) (fun h_3 => ?_) (fun h_3 => ?_)
      · refine aw_aload_n K 0 dX11_meets_29 rfl ?_
        refine aw_getR K (c' := 20) dX11_meets_30 lk_X11_41_11 fd_0_1 ?_
        refine aw_getR K (c' := 32) dX11_meets_33 lk_X11_97_9 fd_20_7 ?_
        refine aw_iload_n K 1 dX11_meets_36 rfl ?_
        refine aw_gd (fun h_4 => ?_)
        refine aw_ald K dX11_meets_37 ad_32 h_4 rfl ?_
        refine aw_iload_n K 2 dX11_meets_38 rfl ?_
        refine aw_ishr K dX11_meets_39 ?_
        refine aw_iconst K dX11_meets_40 ki_1 ?_
        refine aw_iand K dX11_meets_41 ?_
        refine aw_istoreX K (i := 4) (lv' := fun y5 => [(4, .int y5), (0, rf P 0), (1, .int x1), (2, .int x2), (3, .int x3)]) dX11_meets_42 (Nat.le_of_ble_eq_true rfl) (fun _ => rfl) (fun y5 => ?_)
        refine aw_iload_n K 4 dX11_meets_44 rfl ?_
        refine aw_if_eq K 81 dX11_meets_45 (by decide) (fun h_5 => ?_) (fun h_5 => ?_)
        · refine aw_aload_n K 1 dX11_meets_81 rfl ?_
          refine aw_getR K (c' := 20) dX11_meets_82 lk_X11_41_11 fd_0_1 ?_
          refine aw_getR K (c' := 32) dX11_meets_85 lk_X11_97_9 fd_20_7 ?_
          refine aw_iload_n K 2 dX11_meets_88 rfl ?_
          refine aw_dup2_11 K dX11_meets_89 rfl rfl ?_
          refine aw_gd (fun h_6 => ?_)
          refine aw_ald K dX11_meets_90 ad_32 h_6 rfl ?_
          refine aw_iconst K dX11_meets_91 ki_1 ?_
          refine aw_iload_n K 3 dX11_meets_92 rfl ?_
          refine aw_ishl K dX11_meets_93 ?_
          refine aw_iconst K dX11_meets_94 ki_m1 ?_
          refine aw_ixor K dX11_meets_95 ?_
          refine aw_iand K dX11_meets_96 ?_
          refine aw_gd (fun h_7 => ?_)
          refine aw_ast K dX11_meets_97 ad_32 h_7 rfl (fun σ6 => ?_)
          refine aw_aload_n K 1 dX11_meets_98 rfl ?_
          refine aw_getR K (c' := 20) dX11_meets_99 lk_X11_41_11 fd_0_1 ?_
          refine aw_getR K (c' := 32) dX11_meets_102 lk_X11_97_9 fd_20_7 ?_
          refine aw_iload_n K 3 dX11_meets_105 rfl ?_
          refine aw_dup2_11 K dX11_meets_106 rfl rfl ?_
          refine aw_gd (fun h_8 => ?_)
          refine aw_ald K dX11_meets_107 ad_32 h_8 rfl ?_
          refine aw_iconst K dX11_meets_108 ki_1 ?_
          refine aw_iload_n K 2 dX11_meets_109 rfl ?_
          refine aw_ishl K dX11_meets_110 ?_
          refine aw_iconst K dX11_meets_111 ki_m1 ?_
          refine aw_ixor K dX11_meets_112 ?_
          refine aw_iand K dX11_meets_113 ?_
          refine aw_gd (fun h_9 => ?_)
          refine aw_ast K dX11_meets_114 ad_32 h_9 rfl (fun σ7 => ?_)
          refine aw_iload K 0 dX11_meets_115 rfl ?_
          exact aw_iret dX11_meets_117
        · refine aw_aload_n K 1 dX11_meets_48 rfl ?_
          refine aw_getR K (c' := 20) dX11_meets_49 lk_X11_41_11 fd_0_1 ?_
          refine aw_getR K (c' := 32) dX11_meets_52 lk_X11_97_9 fd_20_7 ?_
          refine aw_iload_n K 2 dX11_meets_55 rfl ?_
          refine aw_dup2_11 K dX11_meets_56 rfl rfl ?_
          refine aw_gd (fun h_10 => ?_)
          refine aw_ald K dX11_meets_57 ad_32 h_10 rfl ?_
          refine aw_iconst K dX11_meets_58 ki_1 ?_
          refine aw_iload_n K 3 dX11_meets_59 rfl ?_
          refine aw_ishl K dX11_meets_60 ?_
          refine aw_ior K dX11_meets_61 ?_
          refine aw_gd (fun h_11 => ?_)
          refine aw_ast K dX11_meets_62 ad_32 h_11 rfl (fun σ8 => ?_)
          refine aw_aload_n K 1 dX11_meets_63 rfl ?_
          refine aw_getR K (c' := 20) dX11_meets_64 lk_X11_41_11 fd_0_1 ?_
          refine aw_getR K (c' := 32) dX11_meets_67 lk_X11_97_9 fd_20_7 ?_
          refine aw_iload_n K 3 dX11_meets_70 rfl ?_
          refine aw_dup2_11 K dX11_meets_71 rfl rfl ?_
          refine aw_gd (fun h_12 => ?_)
          refine aw_ald K dX11_meets_72 ad_32 h_12 rfl ?_
          refine aw_iconst K dX11_meets_73 ki_1 ?_
          refine aw_iload_n K 2 dX11_meets_74 rfl ?_
          refine aw_ishl K dX11_meets_75 ?_
          refine aw_ior K dX11_meets_76 ?_
          refine aw_gd (fun h_13 => ?_)
          refine aw_ast K dX11_meets_77 ad_32 h_13 rfl (fun σ9 => ?_)
          refine aw_goto K 115 dX11_meets_78 (by decide) ?_
          refine aw_iload K 0 dX11_meets_115 rfl ?_
          exact aw_iret dX11_meets_117
      · refine aw_iconst K dX11_meets_27 ki_m1 ?_
        exact aw_iret dX11_meets_28
set_option maxRecDepth 100000 in
set_option maxHeartbeats 4000000 in
theorem c_f_H_worth (l : Launch) (x1 : Int32) (x2 : Int32) : CTI l (2) yX11_worth cX11_worth 4 ((some .int)) (fun P => [rf P 0, .int x1, .int x2]) (fun σ => f_H_worth x1 x2 σ) := by
  refine met_I rfl rfl rfl (fun P => Nat.le_of_ble_eq_true rfl) (fun P G K hg σ => ?_)
  change AW P G 4 (EI P G cX11_worth) (f_H_worth x1 x2 σ) σ 0 [(0, rf P 0), (1, .int x1), (2, .int x2)] []
  rw [f_H_worth]
  refine aw_iload_n K 1 dX11_worth_0 rfl ?_
  refine aw_callSI K dX11_worth_1 vw_X11_76 (c_f_H_isThing l _) hg (by decide) rfl (Nat.le_of_ble_eq_true rfl) rfl rfl (fun r2 σ1 _ => ?_)
  refine aw_if_eq K 17 dX11_worth_4 (by decide) (fun h_1 => ?_) (fun h_1 => ?_)
  · refine aw_iconst K dX11_worth_17 ki_m1 ?_
    exact aw_iret dX11_worth_18
  · refine aw_iload_n K 2 dX11_worth_7 rfl ?_
    refine aw_iconst K dX11_worth_8 ki_0 ?_
    refine aw_bipush K dX11_worth_9 kb_99 ?_
    refine aw_callSI K dX11_worth_11 vw_X11_72 (c_f_H_isIn l _ _ _) hg (by decide) rfl (Nat.le_of_ble_eq_true rfl) rfl rfl (fun r4 σ3 _ => ?_)
    refine aw_if_ne K 19 dX11_worth_14 (by decide) (fun h_2 => ?_) (fun h_2 => ?_)
    · refine aw_aload_n K 0 dX11_worth_19 rfl ?_
      refine aw_getR K (c' := 20) dX11_worth_20 lk_X11_41_11 fd_0_1 ?_
      refine aw_getR K (c' := 33) dX11_worth_23 lk_X11_114_9 fd_20_10 ?_
      refine aw_iload_n K 1 dX11_worth_26 rfl ?_
      refine aw_gd (fun h_3 => ?_)
      refine aw_ald K dX11_worth_27 ad_33 h_3 rfl ?_
      refine aw_istoreX_n K (i := 3) (lv' := fun y5 => [(3, .int y5), (0, rf P 0), (1, .int x1), (2, .int x2)]) dX11_worth_28 rfl (Nat.le_of_ble_eq_true rfl) (fun _ => rfl) (fun y5 => ?_)
      refine aw_aload_n K 1 dX11_worth_29 rfl ?_
      refine aw_getR K (c' := 20) dX11_worth_30 lk_X11_41_11 fd_0_1 ?_
      refine aw_getR K (c' := 33) dX11_worth_33 lk_X11_114_9 fd_20_10 ?_
      refine aw_iload_n K 2 dX11_worth_36 rfl ?_
      refine aw_iload_n K 3 dX11_worth_37 rfl ?_
      refine aw_gd (fun h_4 => ?_)
      refine aw_ast K dX11_worth_38 ad_33 h_4 rfl (fun σ6 => ?_)
      refine aw_iload_n K 0 dX11_worth_39 rfl ?_
      exact aw_iret dX11_worth_40
    · refine aw_iconst K dX11_worth_17 ki_m1 ?_
      exact aw_iret dX11_worth_18
set_option maxRecDepth 100000 in
set_option maxHeartbeats 4000000 in
theorem c_f_H_jar (l : Launch) (x1 : Int32) (x2 : Int32) : CTI l (2) yX11_jar cX11_jar 4 ((some .int)) (fun P => [rf P 0, .int x1, .int x2]) (fun σ => f_H_jar x1 x2 σ) := by
  refine met_I rfl rfl rfl (fun P => Nat.le_of_ble_eq_true rfl) (fun P G K hg σ => ?_)
  change AW P G 4 (EI P G cX11_jar) (f_H_jar x1 x2 σ) σ 0 [(0, rf P 0), (1, .int x1), (2, .int x2)] []
  rw [f_H_jar]
  refine aw_iload_n K 1 dX11_jar_0 rfl ?_
  refine aw_callSI K dX11_jar_1 vw_X11_76 (c_f_H_isThing l _) hg (by decide) rfl (Nat.le_of_ble_eq_true rfl) rfl rfl (fun r2 σ1 _ => ?_)
  refine aw_if_eq K 17 dX11_jar_4 (by decide) (fun h_1 => ?_) (fun h_1 => ?_)
  · refine aw_iconst K dX11_jar_17 ki_m1 ?_
    exact aw_iret dX11_jar_18
  · refine aw_iload_n K 2 dX11_jar_7 rfl ?_
    refine aw_iconst K dX11_jar_8 ki_0 ?_
    refine aw_bipush K dX11_jar_9 kb_9 ?_
    refine aw_callSI K dX11_jar_11 vw_X11_72 (c_f_H_isIn l _ _ _) hg (by decide) rfl (Nat.le_of_ble_eq_true rfl) rfl rfl (fun r4 σ3 _ => ?_)
    refine aw_if_ne K 19 dX11_jar_14 (by decide) (fun h_2 => ?_) (fun h_2 => ?_)
    · refine aw_aload_n K 0 dX11_jar_19 rfl ?_
      refine aw_getR K (c' := 20) dX11_jar_20 lk_X11_41_11 fd_0_1 ?_
      refine aw_getR K (c' := 34) dX11_jar_23 lk_X11_117_9 fd_20_11 ?_
      refine aw_iload_n K 1 dX11_jar_26 rfl ?_
      refine aw_gd (fun h_3 => ?_)
      refine aw_ald K dX11_jar_27 ad_34 h_3 rfl ?_
      refine aw_istoreX_n K (i := 3) (lv' := fun y5 => [(3, .int y5), (0, rf P 0), (1, .int x1), (2, .int x2)]) dX11_jar_28 rfl (Nat.le_of_ble_eq_true rfl) (fun _ => rfl) (fun y5 => ?_)
      refine aw_aload_n K 1 dX11_jar_29 rfl ?_
      refine aw_getR K (c' := 20) dX11_jar_30 lk_X11_41_11 fd_0_1 ?_
      refine aw_getR K (c' := 34) dX11_jar_33 lk_X11_117_9 fd_20_11 ?_
      refine aw_iload_n K 2 dX11_jar_36 rfl ?_
      refine aw_iload_n K 3 dX11_jar_37 rfl ?_
      refine aw_gd (fun h_4 => ?_)
      refine aw_ast K dX11_jar_38 ad_34 h_4 rfl (fun σ6 => ?_)
      refine aw_iload_n K 0 dX11_jar_39 rfl ?_
      exact aw_iret dX11_jar_40
    · refine aw_iconst K dX11_jar_17 ki_m1 ?_
      exact aw_iret dX11_jar_18
set_option maxRecDepth 100000 in
set_option maxHeartbeats 4000000 in
theorem c_f_H_fee (l : Launch) (x1 : Int32) : CTI l (1) yX11_fee cX11_fee 3 ((some .int)) (fun P => [rf P 0, .int x1]) (fun σ => f_H_fee x1 σ) := by
  refine met_I rfl rfl rfl (fun P => Nat.le_of_ble_eq_true rfl) (fun P G K hg σ => ?_)
  change AW P G 3 (EI P G cX11_fee) (f_H_fee x1 σ) σ 0 [(0, rf P 0), (1, .int x1)] []
  rw [f_H_fee]
  refine aw_iload_n K 1 dX11_fee_0 rfl ?_
  refine aw_iconst K dX11_fee_1 ki_0 ?_
  refine aw_bipush K dX11_fee_2 kb_50 ?_
  refine aw_callSI K dX11_fee_4 vw_X11_72 (c_f_H_isIn l _ _ _) hg (by decide) rfl (Nat.le_of_ble_eq_true rfl) rfl rfl (fun r2 σ1 _ => ?_)
  refine aw_if_ne K 12 dX11_fee_7 (by decide) (fun h_1 => ?_) (fun h_1 => ?_)
  · refine aw_aload_n K 0 dX11_fee_12 rfl ?_
    refine aw_getR K (c' := 20) dX11_fee_13 lk_X11_41_11 fd_0_1 ?_
    refine aw_getI K dX11_fee_16 lk_X11_120_9 fd_20_12 ?_
    refine aw_istoreX_n K (i := 2) (lv' := fun y3 => [(2, .int y3), (0, rf P 0), (1, .int x1)]) dX11_fee_19 rfl (Nat.le_of_ble_eq_true rfl) (fun _ => rfl) (fun y3 => ?_)
    refine aw_aload_n K 1 dX11_fee_20 rfl ?_
    refine aw_getR K (c' := 20) dX11_fee_21 lk_X11_41_11 fd_0_1 ?_
    refine aw_iload_n K 2 dX11_fee_24 rfl ?_
    refine aw_putI K dX11_fee_25 lp_X11_120_9 fd_20_12 (fun σ4 => ?_)
    refine aw_iload_n K 0 dX11_fee_28 rfl ?_
    exact aw_iret dX11_fee_29
  · refine aw_iconst K dX11_fee_10 ki_m1 ?_
    exact aw_iret dX11_fee_11
set_option maxRecDepth 100000 in
set_option maxHeartbeats 4000000 in
theorem a_f_To_thoseWith_5 (l : Launch) (t : Nat) (ht : TW t) (a1 : Nat) (ha1 : AD a1 0 6 0) {P : PT} {G : GT} (K : CX P G cX9_thoseWith RX9 (0) 5) (hg : gl G = l) : ∀ (n : Nat) (x2 : Int32) (x3 : Int32) (x4 : Int32) (σ : SG), AW P G 5 (EI P G cX9_thoseWith) (f_To_thoseWith_5 t a1 n x2 x3 x4 σ) σ 5 [(0, rf P t), (1, rf P a1), (2, .int x2), (3, .int x3), (4, .int x4)] [] := by
  intro n
  induction n with
  | zero =>
    intro x2 x3 x4 σ
    rw [f_To_thoseWith_5]
    exact aw_none
  | succ n ih =>
    intro x2 x3 x4 σ
    rw [f_To_thoseWith_5]
    refine aw_iload K 4 dX9_thoseWith_5 rfl ?_
    refine aw_aload_n K 0 dX9_thoseWith_7 rfl ?_
    refine aw_getI K dX9_thoseWith_8 lk_X9_74_9 (fd_To_2 ht) ?_
    refine aw_icmp_ge K 35 dX9_thoseWith_11 (by decide) (fun h_1 => ?_) (fun h_1 => ?_)
    · refine aw_iload_n K 3 dX9_thoseWith_35 rfl ?_
      exact aw_iret dX9_thoseWith_36
    · refine aw_aload_n K 1 dX9_thoseWith_14 rfl ?_
      refine aw_iload K 4 dX9_thoseWith_15 rfl ?_
      refine aw_gd (fun h_2 => ?_)
      refine aw_ald K dX9_thoseWith_17 ha1 h_2 rfl ?_
      refine aw_iload_n K 2 dX9_thoseWith_18 rfl ?_
      refine aw_icmp_ne K 29 dX9_thoseWith_19 (by decide) (fun h_3 => ?_) (fun h_3 => ?_)
      · refine aw_iinc K (lv' := fun y1 => [(4, .int y1), (0, rf P t), (1, rf P a1), (2, .int x2), (3, .int x3)]) 4 dX9_thoseWith_29 rfl ki_1 (Nat.le_of_ble_eq_true rfl) (fun _ => rfl) (fun y1 => ?_)
        refine aw_goto K 5 dX9_thoseWith_32 (by decide) ?_
        refine aw_lv [1, 2, 3, 4, 0] rfl ?_
        exact ih _ _ _ _
      · refine aw_iload_n K 3 dX9_thoseWith_22 rfl ?_
        refine aw_iconst K dX9_thoseWith_23 ki_1 ?_
        refine aw_iload K 4 dX9_thoseWith_24 rfl ?_
        refine aw_ishl K dX9_thoseWith_26 ?_
        refine aw_ior K dX9_thoseWith_27 ?_
        refine aw_istoreX_n K (i := 3) (lv' := fun y2 => [(3, .int y2), (0, rf P t), (1, rf P a1), (2, .int x2), (4, .int x4)]) dX9_thoseWith_28 rfl (Nat.le_of_ble_eq_true rfl) (fun _ => rfl) (fun y2 => ?_)
        refine aw_iinc K (lv' := fun y3 => [(4, .int y3), (3, .int y2), (0, rf P t), (1, rf P a1), (2, .int x2)]) 4 dX9_thoseWith_29 rfl ki_1 (Nat.le_of_ble_eq_true rfl) (fun _ => rfl) (fun y3 => ?_)
        refine aw_goto K 5 dX9_thoseWith_32 (by decide) ?_
        refine aw_lv [2, 3, 4, 1, 0] rfl ?_
        exact ih _ _ _ _
set_option maxRecDepth 100000 in
set_option maxHeartbeats 4000000 in
theorem c_f_To_thoseWith (l : Launch) (t : Nat) (ht : TW t) (a1 : Nat) (ha1 : AD a1 0 6 0) (x2 : Int32) : CTI l (0) yX9_thoseWith cX9_thoseWith 5 ((some .int)) (fun P => [rf P t, rf P a1, .int x2]) (fun σ => f_To_thoseWith t a1 x2 σ) := by
  refine met_I rfl rfl rfl (fun P => Nat.le_of_ble_eq_true rfl) (fun P G K hg σ => ?_)
  change AW P G 5 (EI P G cX9_thoseWith) (f_To_thoseWith t a1 x2 σ) σ 0 [(0, rf P t), (1, rf P a1), (2, .int x2)] []
  rw [f_To_thoseWith]
  refine aw_iconst K dX9_thoseWith_0 ki_0 ?_
  refine aw_istore_n K (i := 3) (lv' := [(3, .int (0 : Int32)), (0, rf P t), (1, rf P a1), (2, .int x2)]) dX9_thoseWith_1 rfl (Nat.le_of_ble_eq_true rfl) rfl ?_
  refine aw_iconst K dX9_thoseWith_2 ki_0 ?_
  refine aw_istore K (i := 4) (lv' := [(4, .int (0 : Int32)), (3, .int (0 : Int32)), (0, rf P t), (1, rf P a1), (2, .int x2)]) dX9_thoseWith_3 (Nat.le_of_ble_eq_true rfl) rfl ?_
  refine aw_lv [2, 3, 4, 1, 0] rfl ?_
  exact (a_f_To_thoseWith_5 l t ht a1 ha1 K hg FU) _ _ _ _
set_option maxRecDepth 100000 in
set_option maxHeartbeats 4000000 in
theorem c_f_H_thing (l : Launch) (x1 : Int32) (x2 : Int32) : CTI l (2) yX11_thing cX11_thing 3 ((some .int)) (fun P => [rf P 0, .int x1, .int x2]) (fun σ => f_H_thing x1 x2 σ) := by
  refine met_I rfl rfl rfl (fun P => Nat.le_of_ble_eq_true rfl) (fun P G K hg σ => ?_)
  change AW P G 3 (EI P G cX11_thing) (f_H_thing x1 x2 σ) σ 0 [(0, rf P 0), (1, .int x1), (2, .int x2)] []
  rw [f_H_thing]
  refine aw_iload_n K 1 dX11_thing_0 rfl ?_
  refine aw_callSI K dX11_thing_1 vw_X11_76 (c_f_H_isThing l _) hg (by decide) rfl (Nat.le_of_ble_eq_true rfl) rfl rfl (fun r2 σ1 _ => ?_)
  refine aw_if_ne K 9 dX11_thing_4 (by decide) (fun h_1 => ?_) (fun h_1 => ?_)
  · refine aw_iload_n K 2 dX11_thing_9 rfl ?_
    refine aw_ite (fun h_2 => ?_) (fun h_2 => ?_)
    · refine aw_tabIn K 40 (0) dX11_thing_10 (ti_of h_2 kt_0) (by decide) (by decide) rfl (by decide) ?_
      refine aw_aload_n K 0 dX11_thing_40 rfl ?_
      refine aw_getR K (c' := 20) dX11_thing_41 lk_X11_41_11 fd_0_1 ?_
      refine aw_getR K (c' := 33) dX11_thing_44 lk_X11_114_9 fd_20_10 ?_
      refine aw_iload_n K 1 dX11_thing_47 rfl ?_
      refine aw_gd (fun h_3 => ?_)
      refine aw_ald K dX11_thing_48 ad_33 h_3 rfl ?_
      exact aw_iret dX11_thing_49
    refine aw_ite (fun h_4 => ?_) (fun h_4 => ?_)
    · refine aw_tabIn K 50 (1) dX11_thing_10 (ti_of h_4 kt_1) (by decide) (by decide) rfl (by decide) ?_
      refine aw_aload_n K 0 dX11_thing_50 rfl ?_
      refine aw_getR K (c' := 20) dX11_thing_51 lk_X11_41_11 fd_0_1 ?_
      refine aw_getR K (c' := 34) dX11_thing_54 lk_X11_117_9 fd_20_11 ?_
      refine aw_iload_n K 1 dX11_thing_57 rfl ?_
      refine aw_gd (fun h_5 => ?_)
      refine aw_ald K dX11_thing_58 ad_34 h_5 rfl ?_
      exact aw_iret dX11_thing_59
    refine aw_ite (fun h_6 => ?_) (fun h_6 => ?_)
    · refine aw_tabIn K 60 (2) dX11_thing_10 (ti_of h_6 kt_2) (by decide) (by decide) rfl (by decide) ?_
      refine aw_aload_n K 0 dX11_thing_60 rfl ?_
      refine aw_getR K (c' := 20) dX11_thing_61 lk_X11_41_11 fd_0_1 ?_
      refine aw_aload_n K 0 dX11_thing_64 rfl ?_
      refine aw_getR K (c' := 20) dX11_thing_65 lk_X11_41_11 fd_0_1 ?_
      refine aw_getR K (c' := 29) dX11_thing_68 lk_X11_88_9 fd_20_4 ?_
      refine aw_iload_n K 1 dX11_thing_71 rfl ?_
      refine aw_callVI K dX11_thing_72 vw_X11_123_9 (c_f_To_thoseWith l 20 TW.a 29 ad_29 _) hg (by decide) ob_20 rfl (Nat.le_of_ble_eq_true rfl) rfl rfl (fun r4 σ3 _ => ?_)
      exact aw_iret dX11_thing_75
    refine aw_ite (fun h_7 => ?_) (fun h_7 => ?_)
    · refine aw_tabIn K 76 (3) dX11_thing_10 (ti_of h_7 kt_3) (by decide) (by decide) rfl (by decide) ?_
      refine aw_aload_n K 0 dX11_thing_76 rfl ?_
      refine aw_getR K (c' := 20) dX11_thing_77 lk_X11_41_11 fd_0_1 ?_
      refine aw_aload_n K 0 dX11_thing_80 rfl ?_
      refine aw_getR K (c' := 20) dX11_thing_81 lk_X11_41_11 fd_0_1 ?_
      refine aw_getR K (c' := 30) dX11_thing_84 lk_X11_91_9 fd_20_5 ?_
      refine aw_iload_n K 1 dX11_thing_87 rfl ?_
      refine aw_callVI K dX11_thing_88 vw_X11_123_9 (c_f_To_thoseWith l 20 TW.a 30 ad_30 _) hg (by decide) ob_20 rfl (Nat.le_of_ble_eq_true rfl) rfl rfl (fun r6 σ5 _ => ?_)
      exact aw_iret dX11_thing_91
    refine aw_tabOut K 92 dX11_thing_10 (by have := lv_neT h_2 kt_0; have := lv_neT h_4 kt_1; have := lv_neT h_6 kt_2; have := lv_neT h_7 kt_3; omega) (by decide) ?_
    refine aw_iconst K dX11_thing_92 ki_m1 ?_
    exact aw_iret dX11_thing_93
  · refine aw_iconst K dX11_thing_7 ki_m1 ?_
    exact aw_iret dX11_thing_8
set_option maxRecDepth 100000 in
set_option maxHeartbeats 4000000 in
theorem a_f_To_coinsOfAll_4 (l : Launch) (t : Nat) (ht : TW t) {P : PT} {G : GT} (K : CX P G cX9_coinsOfAll RX9 (0) 3) (hg : gl G = l) : ∀ (n : Nat) (x1 : Int32) (x2 : Int32) (σ : SG), AW P G 3 (EI P G cX9_coinsOfAll) (f_To_coinsOfAll_4 t n x1 x2 σ) σ 4 [(0, rf P t), (1, .int x1), (2, .int x2)] [] := by
  intro n
  induction n with
  | zero =>
    intro x1 x2 σ
    rw [f_To_coinsOfAll_4]
    exact aw_none
  | succ n ih =>
    intro x1 x2 σ
    rw [f_To_coinsOfAll_4]
    refine aw_iload_n K 2 dX9_coinsOfAll_4 rfl ?_
    refine aw_aload_n K 0 dX9_coinsOfAll_5 rfl ?_
    refine aw_getI K dX9_coinsOfAll_6 lk_X9_74_9 (fd_To_2 ht) ?_
    refine aw_icmp_ge K 27 dX9_coinsOfAll_9 (by decide) (fun h_1 => ?_) (fun h_1 => ?_)
    · refine aw_iload_n K 1 dX9_coinsOfAll_27 rfl ?_
      exact aw_iret dX9_coinsOfAll_28
    · refine aw_iload_n K 1 dX9_coinsOfAll_12 rfl ?_
      refine aw_aload_n K 0 dX9_coinsOfAll_13 rfl ?_
      refine aw_getR K (c' := t + 11) dX9_coinsOfAll_14 lk_X9_28_9 (fd_To_6 ht) ?_
      refine aw_iload_n K 2 dX9_coinsOfAll_17 rfl ?_
      refine aw_gd (fun h_2 => ?_)
      refine aw_ald K dX9_coinsOfAll_18 (kd_To_6 ht) h_2 rfl ?_
      refine aw_iadd K dX9_coinsOfAll_19 ?_
      refine aw_istoreX_n K (i := 1) (lv' := fun y1 => [(1, .int y1), (0, rf P t), (2, .int x2)]) dX9_coinsOfAll_20 rfl (Nat.le_of_ble_eq_true rfl) (fun _ => rfl) (fun y1 => ?_)
      refine aw_iinc K (lv' := fun y2 => [(2, .int y2), (1, .int y1), (0, rf P t)]) 2 dX9_coinsOfAll_21 rfl ki_1 (Nat.le_of_ble_eq_true rfl) (fun _ => rfl) (fun y2 => ?_)
      refine aw_goto K 4 dX9_coinsOfAll_24 (by decide) ?_
      refine aw_lv [2, 1, 0] rfl ?_
      exact ih _ _ _
set_option maxRecDepth 100000 in
set_option maxHeartbeats 4000000 in
theorem c_f_To_coinsOfAll (l : Launch) (t : Nat) (ht : TW t) : CTI l (0) yX9_coinsOfAll cX9_coinsOfAll 3 ((some .int)) (fun P => [rf P t]) (fun σ => f_To_coinsOfAll t σ) := by
  refine met_I rfl rfl rfl (fun P => Nat.le_of_ble_eq_true rfl) (fun P G K hg σ => ?_)
  change AW P G 3 (EI P G cX9_coinsOfAll) (f_To_coinsOfAll t σ) σ 0 [(0, rf P t)] []
  rw [f_To_coinsOfAll]
  refine aw_iconst K dX9_coinsOfAll_0 ki_0 ?_
  refine aw_istore_n K (i := 1) (lv' := [(1, .int (0 : Int32)), (0, rf P t)]) dX9_coinsOfAll_1 rfl (Nat.le_of_ble_eq_true rfl) rfl ?_
  refine aw_iconst K dX9_coinsOfAll_2 ki_0 ?_
  refine aw_istore_n K (i := 2) (lv' := [(2, .int (0 : Int32)), (1, .int (0 : Int32)), (0, rf P t)]) dX9_coinsOfAll_3 rfl (Nat.le_of_ble_eq_true rfl) rfl ?_
  refine aw_lv [2, 1, 0] rfl ?_
  exact (a_f_To_coinsOfAll_4 l t ht K hg FU) _ _ _
set_option maxRecDepth 100000 in
set_option maxHeartbeats 4000000 in
theorem c_f_H_state (l : Launch) (x1 : Int32) : CTI l (1) yX11_state cX11_state 2 ((some .int)) (fun P => [rf P 0, .int x1]) (fun σ => f_H_state x1 σ) := by
  refine met_I rfl rfl rfl (fun P => Nat.le_of_ble_eq_true rfl) (fun P G K hg σ => ?_)
  change AW P G 2 (EI P G cX11_state) (f_H_state x1 σ) σ 0 [(0, rf P 0), (1, .int x1)] []
  rw [f_H_state]
  refine aw_iload_n K 1 dX11_state_0 rfl ?_
  refine aw_ite (fun h_1 => ?_) (fun h_1 => ?_)
  · refine aw_tabIn K 32 (0) dX11_state_1 (ti_of h_1 kt_0) (by decide) (by decide) rfl (by decide) ?_
    refine aw_aload_n K 0 dX11_state_32 rfl ?_
    refine aw_getR K (c' := 20) dX11_state_33 lk_X11_41_11 fd_0_1 ?_
    refine aw_getI K dX11_state_36 lk_X11_111_9 fd_20_8 ?_
    exact aw_iret dX11_state_39
  refine aw_ite (fun h_2 => ?_) (fun h_2 => ?_)
  · refine aw_tabIn K 40 (1) dX11_state_1 (ti_of h_2 kt_1) (by decide) (by decide) rfl (by decide) ?_
    refine aw_aload_n K 0 dX11_state_40 rfl ?_
    refine aw_getR K (c' := 20) dX11_state_41 lk_X11_41_11 fd_0_1 ?_
    refine aw_callVI K dX11_state_44 vw_X11_127_9 (c_f_To_coinsOfAll l 20 TW.a) hg (by decide) ob_20 rfl (Nat.le_of_ble_eq_true rfl) rfl rfl (fun r2 σ1 _ => ?_)
    exact aw_iret dX11_state_47
  refine aw_ite (fun h_3 => ?_) (fun h_3 => ?_)
  · refine aw_tabIn K 48 (2) dX11_state_1 (ti_of h_3 kt_2) (by decide) (by decide) rfl (by decide) ?_
    refine aw_aload_n K 0 dX11_state_48 rfl ?_
    refine aw_getR K (c' := 20) dX11_state_49 lk_X11_41_11 fd_0_1 ?_
    refine aw_getI K dX11_state_52 lk_X11_120_9 fd_20_12 ?_
    exact aw_iret dX11_state_55
  refine aw_ite (fun h_4 => ?_) (fun h_4 => ?_)
  · refine aw_tabIn K 56 (3) dX11_state_1 (ti_of h_4 kt_3) (by decide) (by decide) rfl (by decide) ?_
    refine aw_aload_n K 0 dX11_state_56 rfl ?_
    refine aw_getR K (c' := 20) dX11_state_57 lk_X11_41_11 fd_0_1 ?_
    refine aw_getI K dX11_state_60 lk_X11_131_9 fd_20_14 ?_
    exact aw_iret dX11_state_63
  refine aw_tabOut K 64 dX11_state_1 (by have := lv_neT h_1 kt_0; have := lv_neT h_2 kt_1; have := lv_neT h_3 kt_2; have := lv_neT h_4 kt_3; omega) (by decide) ?_
  refine aw_iconst K dX11_state_64 ki_m1 ?_
  exact aw_iret dX11_state_65
set_option maxRecDepth 100000 in
set_option maxHeartbeats 4000000 in
theorem a_f_H_feed_33 (l : Launch) {P : PT} {G : GT} (K : CX P G cX11_feed RX11 (1) 5) (hg : gl G = l) : ∀ (n : Nat) (x1 : Int64) (x3 : Int32) (x4 : Int32) (σ : SG), AW P G 5 (EI P G cX11_feed) (f_H_feed_33 n x1 x3 x4 σ) σ 33 [(0, rf P 0), (1, .long x1), (3, .int x3), (4, .int x4)] [] := by
  intro n
  induction n with
  | zero =>
    intro x1 x3 x4 σ
    rw [f_H_feed_33]
    exact aw_none
  | succ n ih =>
    intro x1 x3 x4 σ
    rw [f_H_feed_33]
    refine aw_iload K 3 dX11_feed_33 rfl ?_
    refine aw_iload_n K 2 dX11_feed_35 rfl ?_
    refine aw_icmp_ge K 85 dX11_feed_36 (by decide) (fun h_1 => ?_) (fun h_1 => ?_)
    · refine aw_aload_n K 0 dX11_feed_85 rfl ?_
      refine aw_getR K (c' := 130) dX11_feed_86 lk_X11_63_11 fd_0_6 ?_
      refine aw_getI K dX11_feed_89 lk_X11_134_6 fd_130_1 ?_
      exact aw_iret dX11_feed_92
    · refine aw_aload_n K 0 dX11_feed_39 rfl ?_
      refine aw_getR K (c' := 130) dX11_feed_40 lk_X11_63_11 fd_0_6 ?_
      refine aw_getR K (c' := 131) dX11_feed_43 lk_X11_137_6 fd_130_0 ?_
      refine aw_aload_n K 0 dX11_feed_46 rfl ?_
      refine aw_getR K (c' := 130) dX11_feed_47 lk_X11_63_11 fd_0_6 ?_
      refine aw_getI K dX11_feed_50 lk_X11_134_6 fd_130_1 ?_
      refine aw_lload_n K 1 dX11_feed_53 rfl ?_
      refine aw_bipush K dX11_feed_54 kb_8 ?_
      refine aw_iload K 3 dX11_feed_56 rfl ?_
      refine aw_imul K dX11_feed_58 ?_
      refine aw_lushr K dX11_feed_59 ?_
      refine aw_l2i K dX11_feed_60 ?_
      refine aw_sipush K dX11_feed_61 ks_255 ?_
      refine aw_iand K dX11_feed_64 ?_
      refine aw_gd (fun h_2 => ?_)
      refine aw_ast K dX11_feed_65 ad_131 h_2 rfl (fun σ1 => ?_)
      refine aw_aload_n K 0 dX11_feed_66 rfl ?_
      refine aw_getR K (c' := 130) dX11_feed_67 lk_X11_63_11 fd_0_6 ?_
      refine aw_dup K dX11_feed_70 rfl ?_
      refine aw_getI K dX11_feed_71 lk_X11_134_6 fd_130_1 ?_
      refine aw_iconst K dX11_feed_74 ki_1 ?_
      refine aw_iadd K dX11_feed_75 ?_
      refine aw_putI K dX11_feed_76 lp_X11_134_6 fd_130_1 (fun σ2 => ?_)
      refine aw_iinc K (lv' := fun y3 => [(4, .int y3), (0, rf P 0), (1, .long x1), (3, .int x3)]) 3 dX11_feed_79 rfl ki_1 (Nat.le_of_ble_eq_true rfl) (fun _ => rfl) (fun y3 => ?_)
      refine aw_goto K 33 dX11_feed_82 (by decide) ?_
      refine aw_lv [1, 2, 3, 0] rfl ?_
      exact ih _ _ _ _
set_option maxRecDepth 100000 in
set_option maxHeartbeats 4000000 in
theorem c_f_H_feed (l : Launch) (x1 : Int64) (x3 : Int32) : CTI l (1) yX11_feed cX11_feed 5 ((some .int)) (fun P => [rf P 0, .long x1, .int x3]) (fun σ => f_H_feed x1 x3 σ) := by
  refine met_I rfl rfl rfl (fun P => Nat.le_of_ble_eq_true rfl) (fun P G K hg σ => ?_)
  change AW P G 5 (EI P G cX11_feed) (f_H_feed x1 x3 σ) σ 0 [(0, rf P 0), (1, .long x1), (3, .int x3)] []
  rw [f_H_feed]
  refine aw_iload_n K 2 dX11_feed_0 rfl ?_
  refine aw_iconst K dX11_feed_1 ki_1 ?_
  refine aw_bipush K dX11_feed_2 kb_8 ?_
  refine aw_callSI K dX11_feed_4 vw_X11_72 (c_f_H_isIn l _ _ _) hg (by decide) rfl (Nat.le_of_ble_eq_true rfl) rfl rfl (fun r2 σ1 _ => ?_)
  refine aw_if_ne K 12 dX11_feed_7 (by decide) (fun h_1 => ?_) (fun h_1 => ?_)
  · refine aw_aload_n K 0 dX11_feed_12 rfl ?_
    refine aw_getR K (c' := 130) dX11_feed_13 lk_X11_63_11 fd_0_6 ?_
    refine aw_getI K dX11_feed_16 lk_X11_134_6 fd_130_1 ?_
    refine aw_iload_n K 2 dX11_feed_19 rfl ?_
    refine aw_iadd K dX11_feed_20 ?_
    refine aw_sipush K dX11_feed_21 ks_200 ?_
    refine aw_icmp_le K 30 dX11_feed_24 (by decide) (fun h_2 => ?_) (fun h_2 => ?_)
    · refine aw_iconst K dX11_feed_30 ki_0 ?_
      refine aw_istore K (i := 4) (lv' := [(4, .int (0 : Int32)), (0, rf P 0), (1, .long x1), (3, .int x3)]) dX11_feed_31 (Nat.le_of_ble_eq_true rfl) rfl ?_
      refine aw_lv [1, 2, 3, 0] rfl ?_
      exact (a_f_H_feed_33 l K hg FU) _ _ _ _
    · refine aw_bipush K dX11_feed_27 kb_m2 ?_
      exact aw_iret dX11_feed_29
  · refine aw_iconst K dX11_feed_10 ki_m1 ?_
    exact aw_iret dX11_feed_11
