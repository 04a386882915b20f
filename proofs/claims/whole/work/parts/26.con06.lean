set_option maxRecDepth 100000 in
set_option maxHeartbeats 4000000 in
theorem c_f_M_isChange (l : Launch) (x1 : Int32) (x2 : Int32) : CTI l (2) yX12_isChange cX12_isChange 3 ((some .boolean)) (fun P => [rf P 148, .int x1, .int x2]) (fun σ => f_M_isChange x1 x2 σ) := by
  refine met_Z rfl rfl rfl (fun P => Nat.le_of_ble_eq_true rfl) (fun P G K hg σ => ?_)
  change AW P G 3 (EZ P G cX12_isChange) (f_M_isChange x1 x2 σ) σ 0 [(0, rf P 148), (1, .int x1), (2, .int x2)] []
  rw [f_M_isChange]
  refine aw_aload_n K 0 dX12_isChange_0 rfl ?_
  refine aw_iload_n K 1 dX12_isChange_1 rfl ?_
  refine aw_callVI K dX12_isChange_2 vw_X12_123_12 (c_f_M_isPerson l _) hg (by decide) ob_148 rfl (Nat.le_of_ble_eq_true rfl) rfl rfl (fun r2 σ1 _ => ?_)
  refine aw_if_eq K 31 dX12_isChange_5 (by decide) (fun h_1 => ?_) (fun h_1 => ?_)
  · refine aw_iconst K dX12_isChange_31 ki_0 ?_
    exact aw_zret dX12_isChange_32 (by decide)
  · refine aw_iload_n K 2 dX12_isChange_8 rfl ?_
    refine aw_bipush K dX12_isChange_9 kb_9 ?_
    refine aw_icmp_eq K 27 dX12_isChange_11 (by decide) (fun h_2 => ?_) (fun h_2 => ?_)
    · refine aw_iconst K dX12_isChange_27 ki_1 ?_
      refine aw_goto K 32 dX12_isChange_28 (by decide) ?_
      exact aw_zret dX12_isChange_32 (by decide)
    · refine aw_iload_n K 2 dX12_isChange_14 rfl ?_
      refine aw_iload_n K 1 dX12_isChange_15 rfl ?_
      refine aw_icmp_le K 31 dX12_isChange_16 (by decide) (fun h_3 => ?_) (fun h_3 => ?_)
      · refine aw_iconst K dX12_isChange_31 ki_0 ?_
        exact aw_zret dX12_isChange_32 (by decide)
      · refine aw_aload_n K 0 dX12_isChange_19 rfl ?_
        refine aw_iload_n K 2 dX12_isChange_20 rfl ?_
        refine aw_callVI K dX12_isChange_21 vw_X12_123_12 (c_f_M_isPerson l _) hg (by decide) ob_148 rfl (Nat.le_of_ble_eq_true rfl) rfl rfl (fun r4 σ3 _ => ?_)
        refine aw_if_eq K 31 dX12_isChange_24 (by decide) (fun h_4 => ?_) (fun h_4 => ?_)
        · refine aw_iconst K dX12_isChange_31 ki_0 ?_
          exact aw_zret dX12_isChange_32 (by decide)
        · refine aw_iconst K dX12_isChange_27 ki_1 ?_
          refine aw_goto K 32 dX12_isChange_28 (by decide) ?_
          exact aw_zret dX12_isChange_32 (by decide)
set_option maxRecDepth 100000 in
set_option maxHeartbeats 4000000 in
theorem c_f_M_isNumber (l : Launch) (x1 : Int32) : CTI l (3) yX12_isNumber cX12_isNumber 2 ((some .boolean)) (fun P => [rf P 148, .int x1]) (fun σ => f_M_isNumber x1 σ) := by
  refine met_Z rfl rfl rfl (fun P => Nat.le_of_ble_eq_true rfl) (fun P G K hg σ => ?_)
  change AW P G 2 (EZ P G cX12_isNumber) (f_M_isNumber x1 σ) σ 0 [(0, rf P 148), (1, .int x1)] []
  rw [f_M_isNumber]
  refine aw_iload_n K 1 dX12_isNumber_0 rfl ?_
  refine aw_if_lt K 23 dX12_isNumber_1 (by decide) (fun h_1 => ?_) (fun h_1 => ?_)
  · refine aw_iconst K dX12_isNumber_23 ki_0 ?_
    exact aw_zret dX12_isNumber_24 (by decide)
  · refine aw_aload_n K 0 dX12_isNumber_4 rfl ?_
    refine aw_iload_n K 1 dX12_isNumber_5 rfl ?_
    refine aw_bipush K dX12_isNumber_6 kb_10 ?_
    refine aw_idiv K dX12_isNumber_8 (by decide) ?_
    refine aw_iload_n K 1 dX12_isNumber_9 rfl ?_
    refine aw_bipush K dX12_isNumber_10 kb_10 ?_
    refine aw_irem K dX12_isNumber_12 (by decide) ?_
    refine aw_callVI K dX12_isNumber_13 vw_X12_153_12 (c_f_M_isChange l _ _) hg (by decide) ob_148 rfl (Nat.le_of_ble_eq_true rfl) rfl rfl (fun r2 σ1 _ => ?_)
    refine aw_if_eq K 23 dX12_isNumber_16 (by decide) (fun h_2 => ?_) (fun h_2 => ?_)
    · refine aw_iconst K dX12_isNumber_23 ki_0 ?_
      exact aw_zret dX12_isNumber_24 (by decide)
    · refine aw_iconst K dX12_isNumber_19 ki_1 ?_
      refine aw_goto K 24 dX12_isNumber_20 (by decide) ?_
      exact aw_zret dX12_isNumber_24 (by decide)
set_option maxRecDepth 100000 in
set_option maxHeartbeats 4000000 in
theorem c_f_M_isThere (l : Launch) (x1 : Int32) : CTI l (3) yX12_isThere cX12_isThere 2 ((some .boolean)) (fun P => [rf P 148, .int x1]) (fun σ => f_M_isThere x1 σ) := by
  refine met_Z rfl rfl rfl (fun P => Nat.le_of_ble_eq_true rfl) (fun P G K hg σ => ?_)
  change AW P G 2 (EZ P G cX12_isThere) (f_M_isThere x1 σ) σ 0 [(0, rf P 148), (1, .int x1)] []
  rw [f_M_isThere]
  refine aw_iload_n K 1 dX12_isThere_0 rfl ?_
  refine aw_aload_n K 0 dX12_isThere_1 rfl ?_
  refine aw_getI K dX12_isThere_2 lk_X12_19_12 fd_148_4 ?_
  refine aw_icmp_eq K 20 dX12_isThere_5 (by decide) (fun h_1 => ?_) (fun h_1 => ?_)
  · refine aw_iconst K dX12_isThere_20 ki_0 ?_
    exact aw_zret dX12_isThere_21 (by decide)
  · refine aw_aload_n K 0 dX12_isThere_8 rfl ?_
    refine aw_iload_n K 1 dX12_isThere_9 rfl ?_
    refine aw_callVI K dX12_isThere_10 vw_X12_96_12 (c_f_M_isWhole l _) hg (by decide) ob_148 rfl (Nat.le_of_ble_eq_true rfl) rfl rfl (fun r2 σ1 _ => ?_)
    refine aw_if_ne K 20 dX12_isThere_13 (by decide) (fun h_2 => ?_) (fun h_2 => ?_)
    · refine aw_iconst K dX12_isThere_20 ki_0 ?_
      exact aw_zret dX12_isThere_21 (by decide)
    · refine aw_iconst K dX12_isThere_16 ki_1 ?_
      refine aw_goto K 21 dX12_isThere_17 (by decide) ?_
      exact aw_zret dX12_isThere_21 (by decide)
set_option maxRecDepth 100000 in
set_option maxHeartbeats 4000000 in
theorem c_f_M_canBe (l : Launch) (x1 : Int32) : CTI l (7) yX12_canBe cX12_canBe 4 ((some .boolean)) (fun P => [rf P 148, .int x1]) (fun σ => f_M_canBe x1 σ) := by
  refine met_Z rfl rfl rfl (fun P => Nat.le_of_ble_eq_true rfl) (fun P G K hg σ => ?_)
  change AW P G 4 (EZ P G cX12_canBe) (f_M_canBe x1 σ) σ 0 [(0, rf P 148), (1, .int x1)] []
  rw [f_M_canBe]
  refine aw_iload_n K 1 dX12_canBe_0 rfl ?_
  refine aw_bipush K dX12_canBe_1 kb_10 ?_
  refine aw_idiv K dX12_canBe_3 (by decide) ?_
  refine aw_istoreX_n K (i := 2) (lv' := fun y1 => [(2, .int y1), (0, rf P 148), (1, .int x1)]) dX12_canBe_4 rfl (Nat.le_of_ble_eq_true rfl) (fun _ => rfl) (fun y1 => ?_)
  refine aw_iload_n K 2 dX12_canBe_5 rfl ?_
  refine aw_bipush K dX12_canBe_6 kb_10 ?_
  refine aw_irem K dX12_canBe_8 (by decide) ?_
  refine aw_istoreX_n K (i := 3) (lv' := fun y2 => [(3, .int y2), (2, .int y1), (0, rf P 148), (1, .int x1)]) dX12_canBe_9 rfl (Nat.le_of_ble_eq_true rfl) (fun _ => rfl) (fun y2 => ?_)
  refine aw_aload_n K 2 dX12_canBe_10 rfl ?_
  refine aw_iload_n K 1 dX12_canBe_11 rfl ?_
  refine aw_callVI K dX12_canBe_12 vw_X12_156_12 (c_f_M_isThere l _) hg (by decide) ob_148 rfl (Nat.le_of_ble_eq_true rfl) rfl rfl (fun r4 σ3 _ => ?_)
  refine aw_if_ne K 20 dX12_canBe_15 (by decide) (fun h_1 => ?_) (fun h_1 => ?_)
  · refine aw_iload_n K 0 dX12_canBe_20 rfl ?_
    refine aw_bipush K dX12_canBe_21 kb_9 ?_
    refine aw_icmp_ne K 82 dX12_canBe_23 (by decide) (fun h_2 => ?_) (fun h_2 => ?_)
    · refine aw_aload_n K 2 dX12_canBe_82 rfl ?_
      refine aw_iload_n K 0 dX12_canBe_83 rfl ?_
      refine aw_callVI K dX12_canBe_84 vw_X12_156_12 (c_f_M_isThere l _) hg (by decide) ob_148 rfl (Nat.le_of_ble_eq_true rfl) rfl rfl (fun r6 σ5 _ => ?_)
      refine aw_if_eq K 133 dX12_canBe_87 (by decide) (fun h_3 => ?_) (fun h_3 => ?_)
      · refine aw_iconst K dX12_canBe_133 ki_0 ?_
        exact aw_zret dX12_canBe_134 (by decide)
      · refine aw_aload_n K 2 dX12_canBe_90 rfl ?_
        refine aw_iload_n K 1 dX12_canBe_91 rfl ?_
        refine aw_iload_n K 0 dX12_canBe_92 rfl ?_
        refine aw_callVI K dX12_canBe_93 vw_X12_134_12 (c_f_M_doMeet l _ _) hg (by decide) ob_148 rfl (Nat.le_of_ble_eq_true rfl) rfl rfl (fun r8 σ7 _ => ?_)
        refine aw_if_eq K 133 dX12_canBe_96 (by decide) (fun h_4 => ?_) (fun h_4 => ?_)
        · refine aw_iconst K dX12_canBe_133 ki_0 ?_
          exact aw_zret dX12_canBe_134 (by decide)
        · refine aw_aload_n K 2 dX12_canBe_99 rfl ?_
          refine aw_iload_n K 1 dX12_canBe_100 rfl ?_
          refine aw_iconst K dX12_canBe_101 ki_1 ?_
          refine aw_callVI K dX12_canBe_102 vw_X12_93_12 (c_f_M_its l _ _) hg (by decide) ob_148 rfl (Nat.le_of_ble_eq_true rfl) rfl rfl (fun r10 σ9 _ => ?_)
          refine aw_aload_n K 2 dX12_canBe_105 rfl ?_
          refine aw_iload_n K 0 dX12_canBe_106 rfl ?_
          refine aw_iconst K dX12_canBe_107 ki_2 ?_
          refine aw_callVI K dX12_canBe_108 vw_X12_93_12 (c_f_M_its l _ _) hg (by decide) ob_148 rfl (Nat.le_of_ble_eq_true rfl) rfl rfl (fun r12 σ11 _ => ?_)
          refine aw_icmp_eq K 129 dX12_canBe_111 (by decide) (fun h_5 => ?_) (fun h_5 => ?_)
          · refine aw_iconst K dX12_canBe_129 ki_1 ?_
            refine aw_goto K 134 dX12_canBe_130 (by decide) ?_
            exact aw_zret dX12_canBe_134 (by decide)
          · refine aw_aload_n K 2 dX12_canBe_114 rfl ?_
            refine aw_iload_n K 0 dX12_canBe_115 rfl ?_
            refine aw_iconst K dX12_canBe_116 ki_1 ?_
            refine aw_callVI K dX12_canBe_117 vw_X12_93_12 (c_f_M_its l _ _) hg (by decide) ob_148 rfl (Nat.le_of_ble_eq_true rfl) rfl rfl (fun r14 σ13 _ => ?_)
            refine aw_aload_n K 2 dX12_canBe_120 rfl ?_
            refine aw_iload_n K 1 dX12_canBe_121 rfl ?_
            refine aw_iconst K dX12_canBe_122 ki_2 ?_
            refine aw_callVI K dX12_canBe_123 vw_X12_93_12 (c_f_M_its l _ _) hg (by decide) ob_148 rfl (Nat.le_of_ble_eq_true rfl) rfl rfl (fun r16 σ15 _ => ?_)
            refine aw_icmp_ne K 133 dX12_canBe_126 (by decide) (fun h_6 => ?_) (fun h_6 => ?_)
            · refine aw_iconst K dX12_canBe_133 ki_0 ?_
              exact aw_zret dX12_canBe_134 (by decide)
            · refine aw_iconst K dX12_canBe_129 ki_1 ?_
              refine aw_goto K 134 dX12_canBe_130 (by decide) ?_
              exact aw_zret dX12_canBe_134 (by decide)
    · refine aw_aload_n K 2 dX12_canBe_26 rfl ?_
      refine aw_getR K (c' := 149) dX12_canBe_27 lk_X12_7_12 fd_148_0 ?_
      refine aw_bipush K dX12_canBe_30 kb_14 ?_
      refine aw_aload_n K 2 dX12_canBe_32 rfl ?_
      refine aw_iload_n K 1 dX12_canBe_33 rfl ?_
      refine aw_iconst K dX12_canBe_34 ki_2 ?_
      refine aw_callVI K dX12_canBe_35 vw_X12_93_12 (c_f_M_its l _ _) hg (by decide) ob_148 rfl (Nat.le_of_ble_eq_true rfl) rfl rfl (fun r18 σ17 _ => ?_)
      refine aw_iadd K dX12_canBe_38 ?_
      refine aw_gd (fun h_7 => ?_)
      refine aw_ald K dX12_canBe_39 ad_149 h_7 rfl ?_
      refine aw_if_le K 80 dX12_canBe_40 (by decide) (fun h_8 => ?_) (fun h_8 => ?_)
      · refine aw_iconst K dX12_canBe_80 ki_0 ?_
        exact aw_zret dX12_canBe_81 (by decide)
      · refine aw_aload_n K 2 dX12_canBe_43 rfl ?_
        refine aw_getR K (c' := 149) dX12_canBe_44 lk_X12_7_12 fd_148_0 ?_
        refine aw_bipush K dX12_canBe_47 kb_14 ?_
        refine aw_aload_n K 2 dX12_canBe_49 rfl ?_
        refine aw_iload_n K 1 dX12_canBe_50 rfl ?_
        refine aw_iconst K dX12_canBe_51 ki_1 ?_
        refine aw_callVI K dX12_canBe_52 vw_X12_93_12 (c_f_M_its l _ _) hg (by decide) ob_148 rfl (Nat.le_of_ble_eq_true rfl) rfl rfl (fun r20 σ19 _ => ?_)
        refine aw_iadd K dX12_canBe_55 ?_
        refine aw_gd (fun h_9 => ?_)
        refine aw_ald K dX12_canBe_56 ad_149 h_9 rfl ?_
        refine aw_bipush K dX12_canBe_57 kb_99 ?_
        refine aw_icmp_ge K 80 dX12_canBe_59 (by decide) (fun h_10 => ?_) (fun h_10 => ?_)
        · refine aw_iconst K dX12_canBe_80 ki_0 ?_
          exact aw_zret dX12_canBe_81 (by decide)
        · refine aw_aload_n K 2 dX12_canBe_62 rfl ?_
          refine aw_iload_n K 1 dX12_canBe_63 rfl ?_
          refine aw_iconst K dX12_canBe_64 ki_3 ?_
          refine aw_callVI K dX12_canBe_65 vw_X12_93_12 (c_f_M_its l _ _) hg (by decide) ob_148 rfl (Nat.le_of_ble_eq_true rfl) rfl rfl (fun r22 σ21 _ => ?_)
          refine aw_aload_n K 2 dX12_canBe_68 rfl ?_
          refine aw_iload_n K 1 dX12_canBe_69 rfl ?_
          refine aw_callVI K dX12_canBe_70 vw_X12_128_12 (c_f_M_asked l _) hg (by decide) ob_148 rfl (Nat.le_of_ble_eq_true rfl) rfl rfl (fun r24 σ23 _ => ?_)
          refine aw_icmp_lt K 80 dX12_canBe_73 (by decide) (fun h_11 => ?_) (fun h_11 => ?_)
          · refine aw_iconst K dX12_canBe_80 ki_0 ?_
            exact aw_zret dX12_canBe_81 (by decide)
          · refine aw_iconst K dX12_canBe_76 ki_1 ?_
            refine aw_goto K 81 dX12_canBe_77 (by decide) ?_
            exact aw_zret dX12_canBe_81 (by decide)
  · refine aw_iconst K dX12_canBe_18 ki_0 ?_
    exact aw_zret dX12_canBe_19 (by decide)
set_option maxRecDepth 100000 in
set_option maxHeartbeats 4000000 in
theorem a_f_M_nextChange_14 (l : Launch) {P : PT} {G : GT} (K : CX P G cX12_nextChange RX12 (8) 4) (hg : gl G = l) : ∀ (n : Nat) (x1 : Int32) (x2 : Int32) (x3 : Int32) (σ : SG), AW P G 4 (EI P G cX12_nextChange) (f_M_nextChange_14 n x1 x2 x3 σ) σ 14 [(0, rf P 148), (1, .int x1), (2, .int x2), (3, .int x3)] [] := by
  intro n
  induction n with
  | zero =>
    intro x1 x2 x3 σ
    rw [f_M_nextChange_14]
    exact aw_none
  | succ n ih =>
    intro x1 x2 x3 σ
    rw [f_M_nextChange_14]
    refine aw_iload_n K 1 dX12_nextChange_14 rfl ?_
    refine aw_iload_n K 2 dX12_nextChange_15 rfl ?_
    refine aw_icmp_ge K 48 dX12_nextChange_16 (by decide) (fun h_1 => ?_) (fun h_1 => ?_)
    · refine aw_iconst K dX12_nextChange_48 ki_m1 ?_
      exact aw_iret dX12_nextChange_49
    · refine aw_iload_n K 3 dX12_nextChange_19 rfl ?_
      refine aw_iload_n K 2 dX12_nextChange_20 rfl ?_
      refine aw_icmp_ge K 48 dX12_nextChange_21 (by decide) (fun h_2 => ?_) (fun h_2 => ?_)
      · refine aw_iconst K dX12_nextChange_48 ki_m1 ?_
        exact aw_iret dX12_nextChange_49
      · refine aw_aload_n K 0 dX12_nextChange_24 rfl ?_
        refine aw_iload_n K 3 dX12_nextChange_25 rfl ?_
        refine aw_callVI K dX12_nextChange_26 vw_X12_159_12 (c_f_M_isNumber l _) hg (by decide) ob_148 rfl (Nat.le_of_ble_eq_true rfl) rfl rfl (fun r2 σ1 _ => ?_)
        refine aw_if_eq K 42 dX12_nextChange_29 (by decide) (fun h_3 => ?_) (fun h_3 => ?_)
        · refine aw_iinc K (lv' := fun y3 => [(3, .int y3), (0, rf P 148), (1, .int x1), (2, .int x2)]) 3 dX12_nextChange_42 rfl ki_1 (Nat.le_of_ble_eq_true rfl) (fun _ => rfl) (fun y3 => ?_)
          refine aw_goto K 14 dX12_nextChange_45 (by decide) ?_
          refine aw_lv [1, 2, 3, 0] rfl ?_
          exact ih _ _ _ _
        · refine aw_aload_n K 0 dX12_nextChange_32 rfl ?_
          refine aw_iload_n K 3 dX12_nextChange_33 rfl ?_
          refine aw_callVI K dX12_nextChange_34 vw_X12_162_12 (c_f_M_canBe l _) hg (by decide) ob_148 rfl (Nat.le_of_ble_eq_true rfl) rfl rfl (fun r5 σ4 _ => ?_)
          refine aw_if_eq K 42 dX12_nextChange_37 (by decide) (fun h_4 => ?_) (fun h_4 => ?_)
          · refine aw_iinc K (lv' := fun y6 => [(3, .int y6), (0, rf P 148), (1, .int x1), (2, .int x2)]) 3 dX12_nextChange_42 rfl ki_1 (Nat.le_of_ble_eq_true rfl) (fun _ => rfl) (fun y6 => ?_)
            refine aw_goto K 14 dX12_nextChange_45 (by decide) ?_
            refine aw_lv [1, 2, 3, 0] rfl ?_
            exact ih _ _ _ _
          · refine aw_iload_n K 3 dX12_nextChange_40 rfl ?_
            exact aw_iret dX12_nextChange_41
set_option maxRecDepth 100000 in
set_option maxHeartbeats 4000000 in
theorem c_f_M_nextChange (l : Launch) (x1 : Int32) : CTI l (8) yX12_nextChange cX12_nextChange 4 ((some .int)) (fun P => [rf P 148, .int x1]) (fun σ => f_M_nextChange x1 σ) := by
  refine met_I rfl rfl rfl (fun P => Nat.le_of_ble_eq_true rfl) (fun P G K hg σ => ?_)
  change AW P G 4 (EI P G cX12_nextChange) (f_M_nextChange x1 σ) σ 0 [(0, rf P 148), (1, .int x1)] []
  rw [f_M_nextChange]
  refine aw_bipush K dX12_nextChange_0 kb_10 ?_
  refine aw_aload_n K 0 dX12_nextChange_2 rfl ?_
  refine aw_getR K (c' := 149) dX12_nextChange_3 lk_X12_7_12 fd_148_0 ?_
  refine aw_iconst K dX12_nextChange_6 ki_0 ?_
  refine aw_ald K dX12_nextChange_7 ad_149 (by decide) kn_0 ?_
  refine aw_imul K dX12_nextChange_8 ?_
  refine aw_istoreX_n K (i := 2) (lv' := fun y1 => [(2, .int y1), (0, rf P 148), (1, .int x1)]) dX12_nextChange_9 rfl (Nat.le_of_ble_eq_true rfl) (fun _ => rfl) (fun y1 => ?_)
  refine aw_iload_n K 2 dX12_nextChange_10 rfl ?_
  refine aw_iconst K dX12_nextChange_11 ki_1 ?_
  refine aw_iadd K dX12_nextChange_12 ?_
  refine aw_istoreX_n K (i := 3) (lv' := fun y2 => [(3, .int y2), (2, .int y1), (0, rf P 148), (1, .int x1)]) dX12_nextChange_13 rfl (Nat.le_of_ble_eq_true rfl) (fun _ => rfl) (fun y2 => ?_)
  refine aw_lv [2, 3, 1, 0] rfl ?_
  exact (a_f_M_nextChange_14 l K hg FU) _ _ _ _
set_option maxRecDepth 100000 in
set_option maxHeartbeats 4000000 in
theorem c_f_M_cans (l : Launch) (x1 : Int32) : CTI l (9) yX12_cans cX12_cans 3 ((some .int)) (fun P => [rf P 148, .int x1]) (fun σ => f_M_cans x1 σ) := by
  refine met_I rfl rfl rfl (fun P => Nat.le_of_ble_eq_true rfl) (fun P G K hg σ => ?_)
  change AW P G 3 (EI P G cX12_cans) (f_M_cans x1 σ) σ 0 [(0, rf P 148), (1, .int x1)] []
  rw [f_M_cans]
  refine aw_iload_n K 1 dX12_cans_0 rfl ?_
  refine aw_iconst K dX12_cans_1 ki_m1 ?_
  refine aw_icmp_ge K 7 dX12_cans_2 (by decide) (fun h_1 => ?_) (fun h_1 => ?_)
  · refine aw_aload_n K 0 dX12_cans_7 rfl ?_
    refine aw_iload_n K 1 dX12_cans_8 rfl ?_
    refine aw_callVI K dX12_cans_9 vw_X12_179_12 (c_f_M_nextChange l _) hg (by decide) ob_148 rfl (Nat.le_of_ble_eq_true rfl) rfl rfl (fun r2 σ1 _ => ?_)
    refine aw_istore_n K (i := 2) (lv' := [(2, .int r2), (0, rf P 148), (1, .int x1)]) dX12_cans_12 rfl (Nat.le_of_ble_eq_true rfl) rfl ?_
    refine aw_iload_n K 0 dX12_cans_13 rfl ?_
    refine aw_if_ge K 22 dX12_cans_14 (by decide) (fun h_2 => ?_) (fun h_2 => ?_)
    · refine aw_iload_n K 0 dX12_cans_22 rfl ?_
      exact aw_iret dX12_cans_23
    · refine aw_bipush K dX12_cans_17 kb_m3 ?_
      refine aw_goto K 23 dX12_cans_19 (by decide) ?_
      exact aw_iret dX12_cans_23
  · refine aw_iconst K dX12_cans_5 ki_m1 ?_
    exact aw_iret dX12_cans_6
set_option maxRecDepth 100000 in
set_option maxHeartbeats 4000000 in
theorem c_f_M_swaps (l : Launch) (x1 : Int32) (x2 : Int32) : CTV l (2) yX12_swaps cX12_swaps 4 (none) (fun P => [rf P 148, .int x1, .int x2]) (fun σ => f_M_swaps x1 x2 σ) := by
  refine met_V rfl rfl rfl (fun P => Nat.le_of_ble_eq_true rfl) (fun P G K hg σ => ?_)
  change AW P G 4 (EV P G cX12_swaps) (f_M_swaps x1 x2 σ) σ 0 [(0, rf P 148), (1, .int x1), (2, .int x2)] []
  rw [f_M_swaps]
  refine aw_aload_n K 0 dX12_swaps_0 rfl ?_
  refine aw_iload_n K 1 dX12_swaps_1 rfl ?_
  refine aw_iconst K dX12_swaps_2 ki_1 ?_
  refine aw_callVI K dX12_swaps_3 vw_X12_93_12 (c_f_M_its l _ _) hg (by decide) ob_148 rfl (Nat.le_of_ble_eq_true rfl) rfl rfl (fun r2 σ1 _ => ?_)
  refine aw_istore_n K (i := 3) (lv' := [(3, .int r2), (0, rf P 148), (1, .int x1), (2, .int x2)]) dX12_swaps_6 rfl (Nat.le_of_ble_eq_true rfl) rfl ?_
  refine aw_aload_n K 1 dX12_swaps_7 rfl ?_
  refine aw_getR K (c' := 149) dX12_swaps_8 lk_X12_7_12 fd_148_0 ?_
  refine aw_iload_n K 2 dX12_swaps_11 rfl ?_
  refine aw_iconst K dX12_swaps_12 ki_1 ?_
  refine aw_callSI K dX12_swaps_13 vw_X12_74 (c_f_M_at l _ _) hg (by decide) rfl (Nat.le_of_ble_eq_true rfl) rfl rfl (fun r4 σ3 _ => ?_)
  refine aw_aload_n K 1 dX12_swaps_16 rfl ?_
  refine aw_iload_n K 3 dX12_swaps_17 rfl ?_
  refine aw_iconst K dX12_swaps_18 ki_1 ?_
  refine aw_callVI K dX12_swaps_19 vw_X12_93_12 (c_f_M_its l _ _) hg (by decide) ob_148 rfl (Nat.le_of_ble_eq_true rfl) rfl rfl (fun r6 σ5 _ => ?_)
  refine aw_gd (fun h_1 => ?_)
  refine aw_ast K dX12_swaps_22 ad_149 h_1 rfl (fun σ7 => ?_)
  refine aw_aload_n K 1 dX12_swaps_23 rfl ?_
  refine aw_getR K (c' := 149) dX12_swaps_24 lk_X12_7_12 fd_148_0 ?_
  refine aw_iload_n K 3 dX12_swaps_27 rfl ?_
  refine aw_iconst K dX12_swaps_28 ki_1 ?_
  refine aw_callSI K dX12_swaps_29 vw_X12_74 (c_f_M_at l _ _) hg (by decide) rfl (Nat.le_of_ble_eq_true rfl) rfl rfl (fun r9 σ8 _ => ?_)
  refine aw_iload_n K 0 dX12_swaps_32 rfl ?_
  refine aw_gd (fun h_2 => ?_)
  refine aw_ast K dX12_swaps_33 ad_149 h_2 rfl (fun σ10 => ?_)
  exact aw_vret dX12_swaps_34
set_option maxRecDepth 100000 in
set_option maxHeartbeats 4000000 in
theorem c_f_M_does (l : Launch) (x1 : Int32) : CTV l (7) yX12_does cX12_does 4 (none) (fun P => [rf P 148, .int x1]) (fun σ => f_M_does x1 σ) := by
  refine met_V rfl rfl rfl (fun P => Nat.le_of_ble_eq_true rfl) (fun P G K hg σ => ?_)
  change AW P G 4 (EV P G cX12_does) (f_M_does x1 σ) σ 0 [(0, rf P 148), (1, .int x1)] []
  rw [f_M_does]
  refine aw_iload_n K 1 dX12_does_0 rfl ?_
  refine aw_bipush K dX12_does_1 kb_10 ?_
  refine aw_idiv K dX12_does_3 (by decide) ?_
  refine aw_istoreX_n K (i := 2) (lv' := fun y1 => [(2, .int y1), (0, rf P 148), (1, .int x1)]) dX12_does_4 rfl (Nat.le_of_ble_eq_true rfl) (fun _ => rfl) (fun y1 => ?_)
  refine aw_iload_n K 2 dX12_does_5 rfl ?_
  refine aw_bipush K dX12_does_6 kb_10 ?_
  refine aw_irem K dX12_does_8 (by decide) ?_
  refine aw_istoreX_n K (i := 3) (lv' := fun y2 => [(3, .int y2), (2, .int y1), (0, rf P 148), (1, .int x1)]) dX12_does_9 rfl (Nat.le_of_ble_eq_true rfl) (fun _ => rfl) (fun y2 => ?_)
  refine aw_aload_n K 2 dX12_does_10 rfl ?_
  refine aw_aload_n K 2 dX12_does_11 rfl ?_
  refine aw_iload_n K 1 dX12_does_12 rfl ?_
  refine aw_iconst K dX12_does_13 ki_1 ?_
  refine aw_callVI K dX12_does_14 vw_X12_93_12 (c_f_M_its l _ _) hg (by decide) ob_148 rfl (Nat.le_of_ble_eq_true rfl) rfl rfl (fun r4 σ3 _ => ?_)
  refine aw_putI K dX12_does_17 lp_X12_165_12 fd_148_6 (fun σ5 => ?_)
  refine aw_aload_n K 2 dX12_does_20 rfl ?_
  refine aw_iconst K dX12_does_21 ki_0 ?_
  refine aw_putI K dX12_does_22 lp_X12_168_12 fd_148_7 (fun σ6 => ?_)
  refine aw_iload_n K 0 dX12_does_25 rfl ?_
  refine aw_bipush K dX12_does_26 kb_9 ?_
  refine aw_icmp_ne K 110 dX12_does_28 (by decide) (fun h_1 => ?_) (fun h_1 => ?_)
  · refine aw_aload_n K 2 dX12_does_110 rfl ?_
    refine aw_iload_n K 1 dX12_does_111 rfl ?_
    refine aw_iload_n K 0 dX12_does_112 rfl ?_
    refine aw_callVV K dX12_does_113 vw_X12_171_12 (c_f_M_swaps l _ _) hg (by decide) ob_148 rfl (Nat.le_of_ble_eq_true rfl) rfl rfl (fun _ σ7 _ => ?_)
    exact aw_vret dX12_does_116
  · refine aw_aload_n K 2 dX12_does_31 rfl ?_
    refine aw_aload_n K 2 dX12_does_32 rfl ?_
    refine aw_iload_n K 1 dX12_does_33 rfl ?_
    refine aw_callVI K dX12_does_34 vw_X12_128_12 (c_f_M_asked l _) hg (by decide) ob_148 rfl (Nat.le_of_ble_eq_true rfl) rfl rfl (fun r9 σ8 _ => ?_)
    refine aw_putI K dX12_does_37 lp_X12_168_12 fd_148_7 (fun σ10 => ?_)
    refine aw_aload_n K 2 dX12_does_40 rfl ?_
    refine aw_getR K (c' := 149) dX12_does_41 lk_X12_7_12 fd_148_0 ?_
    refine aw_bipush K dX12_does_44 kb_14 ?_
    refine aw_aload_n K 2 dX12_does_46 rfl ?_
    refine aw_getI K dX12_does_47 lk_X12_165_12 fd_148_6 ?_
    refine aw_iadd K dX12_does_50 ?_
    refine aw_dup2_11 K dX12_does_51 rfl rfl ?_
    refine aw_gd (fun h_2 => ?_)
    refine aw_ald K dX12_does_52 ad_149 h_2 rfl ?_
    refine aw_iconst K dX12_does_53 ki_1 ?_
    refine aw_iadd K dX12_does_54 ?_
    refine aw_gd (fun h_3 => ?_)
    refine aw_ast K dX12_does_55 ad_149 h_3 rfl (fun σ11 => ?_)
    refine aw_aload_n K 2 dX12_does_56 rfl ?_
    refine aw_getR K (c' := 149) dX12_does_57 lk_X12_7_12 fd_148_0 ?_
    refine aw_bipush K dX12_does_60 kb_14 ?_
    refine aw_aload_n K 2 dX12_does_62 rfl ?_
    refine aw_iload_n K 1 dX12_does_63 rfl ?_
    refine aw_iconst K dX12_does_64 ki_2 ?_
    refine aw_callVI K dX12_does_65 vw_X12_93_12 (c_f_M_its l _ _) hg (by decide) ob_148 rfl (Nat.le_of_ble_eq_true rfl) rfl rfl (fun r13 σ12 _ => ?_)
    refine aw_iadd K dX12_does_68 ?_
    refine aw_dup2_11 K dX12_does_69 rfl rfl ?_
    refine aw_gd (fun h_4 => ?_)
    refine aw_ald K dX12_does_70 ad_149 h_4 rfl ?_
    refine aw_iconst K dX12_does_71 ki_1 ?_
    refine aw_isub K dX12_does_72 ?_
    refine aw_gd (fun h_5 => ?_)
    refine aw_ast K dX12_does_73 ad_149 h_5 rfl (fun σ14 => ?_)
    refine aw_aload_n K 2 dX12_does_74 rfl ?_
    refine aw_getR K (c' := 149) dX12_does_75 lk_X12_7_12 fd_148_0 ?_
    refine aw_iload_n K 1 dX12_does_78 rfl ?_
    refine aw_iconst K dX12_does_79 ki_1 ?_
    refine aw_callSI K dX12_does_80 vw_X12_74 (c_f_M_at l _ _) hg (by decide) rfl (Nat.le_of_ble_eq_true rfl) rfl rfl (fun r16 σ15 _ => ?_)
    refine aw_aload_n K 2 dX12_does_83 rfl ?_
    refine aw_iload_n K 1 dX12_does_84 rfl ?_
    refine aw_iconst K dX12_does_85 ki_2 ?_
    refine aw_callVI K dX12_does_86 vw_X12_93_12 (c_f_M_its l _ _) hg (by decide) ob_148 rfl (Nat.le_of_ble_eq_true rfl) rfl rfl (fun r18 σ17 _ => ?_)
    refine aw_gd (fun h_6 => ?_)
    refine aw_ast K dX12_does_89 ad_149 h_6 rfl (fun σ19 => ?_)
    refine aw_aload_n K 2 dX12_does_90 rfl ?_
    refine aw_getR K (c' := 149) dX12_does_91 lk_X12_7_12 fd_148_0 ?_
    refine aw_iload_n K 1 dX12_does_94 rfl ?_
    refine aw_iconst K dX12_does_95 ki_3 ?_
    refine aw_callSI K dX12_does_96 vw_X12_74 (c_f_M_at l _ _) hg (by decide) rfl (Nat.le_of_ble_eq_true rfl) rfl rfl (fun r21 σ20 _ => ?_)
    refine aw_dup2_11 K dX12_does_99 rfl rfl ?_
    refine aw_gd (fun h_7 => ?_)
    refine aw_ald K dX12_does_100 ad_149 h_7 rfl ?_
    refine aw_aload_n K 2 dX12_does_101 rfl ?_
    refine aw_getI K dX12_does_102 lk_X12_168_12 fd_148_7 ?_
    refine aw_isub K dX12_does_105 ?_
    refine aw_gd (fun h_8 => ?_)
    refine aw_ast K dX12_does_106 ad_149 h_8 rfl (fun σ22 => ?_)
    refine aw_goto K 116 dX12_does_107 (by decide) ?_
    exact aw_vret dX12_does_116
set_option maxRecDepth 100000 in
set_option maxHeartbeats 4000000 in
theorem a_f_M_makes_55 (l : Launch) {P : PT} {G : GT} (K : CX P G cX12_makes RX12 (8) 4) (hg : gl G = l) : ∀ (x1 : Int32) (σ : SG), AW P G 4 (EV P G cX12_makes) (f_M_makes_55 x1 σ) σ 55 [(0, rf P 148), (1, .int x1)] [] := by
  intro x1 σ
  rw [f_M_makes_55]
  refine aw_bipush K dX12_makes_55 kb_70 ?_
  refine aw_iconst K dX12_makes_57 ki_3 ?_
  refine aw_aload_n K 0 dX12_makes_58 rfl ?_
  refine aw_getR K (c' := 149) dX12_makes_59 lk_X12_7_12 fd_148_0 ?_
  refine aw_iconst K dX12_makes_62 ki_4 ?_
  refine aw_ald K dX12_makes_63 ad_149 (by decide) kn_4 ?_
  refine aw_imul K dX12_makes_64 ?_
  refine aw_iadd K dX12_makes_65 ?_
  refine aw_istoreX_n K (i := 2) (lv' := fun y1 => [(2, .int y1), (0, rf P 148), (1, .int x1)]) dX12_makes_66 rfl (Nat.le_of_ble_eq_true rfl) (fun _ => rfl) (fun y1 => ?_)
  refine aw_iload_n K 2 dX12_makes_67 rfl ?_
  refine aw_bipush K dX12_makes_68 kb_10 ?_
  refine aw_irem K dX12_makes_70 (by decide) ?_
  refine aw_istoreX_n K (i := 3) (lv' := fun y2 => [(3, .int y2), (2, .int y1), (0, rf P 148), (1, .int x1)]) dX12_makes_71 rfl (Nat.le_of_ble_eq_true rfl) (fun _ => rfl) (fun y2 => ?_)
  refine aw_aload_n K 2 dX12_makes_72 rfl ?_
  refine aw_getR K (c' := 149) dX12_makes_73 lk_X12_7_12 fd_148_0 ?_
  refine aw_iload_n K 1 dX12_makes_76 rfl ?_
  refine aw_iload_n K 3 dX12_makes_77 rfl ?_
  refine aw_gd (fun h_1 => ?_)
  refine aw_ast K dX12_makes_78 ad_149 h_1 rfl (fun σ3 => ?_)
  refine aw_aload_n K 2 dX12_makes_79 rfl ?_
  refine aw_getR K (c' := 149) dX12_makes_80 lk_X12_7_12 fd_148_0 ?_
  refine aw_iload_n K 1 dX12_makes_83 rfl ?_
  refine aw_iconst K dX12_makes_84 ki_1 ?_
  refine aw_iadd K dX12_makes_85 ?_
  refine aw_aload_n K 2 dX12_makes_86 rfl ?_
  refine aw_iload_n K 3 dX12_makes_87 rfl ?_
  refine aw_bipush K dX12_makes_88 kb_10 ?_
  refine aw_idiv K dX12_makes_90 (by decide) ?_
  refine aw_iconst K dX12_makes_91 ki_1 ?_
  refine aw_callVI K dX12_makes_92 vw_X12_93_12 (c_f_M_its l _ _) hg (by decide) ob_148 rfl (Nat.le_of_ble_eq_true rfl) rfl rfl (fun r5 σ4 _ => ?_)
  refine aw_gd (fun h_2 => ?_)
  refine aw_ast K dX12_makes_95 ad_149 h_2 rfl (fun σ6 => ?_)
  refine aw_aload_n K 2 dX12_makes_96 rfl ?_
  refine aw_getR K (c' := 149) dX12_makes_97 lk_X12_7_12 fd_148_0 ?_
  refine aw_iload_n K 1 dX12_makes_100 rfl ?_
  refine aw_iconst K dX12_makes_101 ki_2 ?_
  refine aw_iadd K dX12_makes_102 ?_
  refine aw_iload_n K 0 dX12_makes_103 rfl ?_
  refine aw_bipush K dX12_makes_104 kb_9 ?_
  refine aw_icmp_ne K 116 dX12_makes_106 (by decide) (fun h_3 => ?_) (fun h_3 => ?_)
  · refine aw_aload_n K 2 dX12_makes_116 rfl ?_
    refine aw_iload_n K 0 dX12_makes_117 rfl ?_
    refine aw_iconst K dX12_makes_118 ki_1 ?_
    refine aw_callVI K dX12_makes_119 vw_X12_93_12 (c_f_M_its l _ _) hg (by decide) ob_148 rfl (Nat.le_of_ble_eq_true rfl) rfl rfl (fun r8 σ7 _ => ?_)
    refine aw_gd (fun h_4 => ?_)
    refine aw_ast K dX12_makes_122 ad_149 h_4 rfl (fun σ9 => ?_)
    refine aw_aload_n K 2 dX12_makes_123 rfl ?_
    refine aw_getR K (c' := 149) dX12_makes_124 lk_X12_7_12 fd_148_0 ?_
    refine aw_iconst K dX12_makes_127 ki_4 ?_
    refine aw_dup2_11 K dX12_makes_128 rfl rfl ?_
    refine aw_ald K dX12_makes_129 ad_149 (by decide) kn_4 ?_
    refine aw_iconst K dX12_makes_130 ki_1 ?_
    refine aw_iadd K dX12_makes_131 ?_
    refine aw_ast K dX12_makes_132 ad_149 (by decide) kn_4 (fun σ10 => ?_)
    exact aw_vret dX12_makes_133
  · refine aw_aload_n K 2 dX12_makes_109 rfl ?_
    refine aw_getI K dX12_makes_110 lk_X12_165_12 fd_148_6 ?_
    refine aw_goto K 122 dX12_makes_113 (by decide) ?_
    refine aw_gd (fun h_5 => ?_)
    refine aw_ast K dX12_makes_122 ad_149 h_5 rfl (fun σ11 => ?_)
    refine aw_aload_n K 2 dX12_makes_123 rfl ?_
    refine aw_getR K (c' := 149) dX12_makes_124 lk_X12_7_12 fd_148_0 ?_
    refine aw_iconst K dX12_makes_127 ki_4 ?_
    refine aw_dup2_11 K dX12_makes_128 rfl rfl ?_
    refine aw_ald K dX12_makes_129 ad_149 (by decide) kn_4 ?_
    refine aw_iconst K dX12_makes_130 ki_1 ?_
    refine aw_iadd K dX12_makes_131 ?_
    refine aw_ast K dX12_makes_132 ad_149 (by decide) kn_4 (fun σ12 => ?_)
    exact aw_vret dX12_makes_133
set_option maxRecDepth 100000 in
set_option maxHeartbeats 4000000 in
theorem a_f_M_makes_19 (l : Launch) {P : PT} {G : GT} (K : CX P G cX12_makes RX12 (8) 4) (hg : gl G = l) {K55 : Int32 → SG → Option (Unit × SG)} (hK55 : ∀ (x1 : Int32) (σ : SG), AW P G 4 (EV P G cX12_makes) (K55 x1 σ) σ 55 [(0, rf P 148), (1, .int x1)] []) : ∀ (n : Nat) (x1 : Int32) (x2 : Int32) (σ : SG), AW P G 4 (EV P G cX12_makes) (f_M_makes_19 K55 n x1 x2 σ) σ 19 [(0, rf P 148), (1, .int x1), (2, .int x2)] [] := by
  intro n
  induction n with
  | zero =>
    intro x1 x2 σ
    rw [f_M_makes_19]
    exact aw_none
  | succ n ih =>
    intro x1 x2 σ
    rw [f_M_makes_19]
    refine aw_iload_n K 2 dX12_makes_19 rfl ?_
    refine aw_bipush K dX12_makes_20 kb_103 ?_
    refine aw_icmp_ge K 45 dX12_makes_22 (by decide) (fun h_1 => ?_) (fun h_1 => ?_)
    · refine aw_aload_n K 0 dX12_makes_45 rfl ?_
      refine aw_getR K (c' := 149) dX12_makes_46 lk_X12_7_12 fd_148_0 ?_
      refine aw_iconst K dX12_makes_49 ki_4 ?_
      refine aw_dup2_11 K dX12_makes_50 rfl rfl ?_
      refine aw_ald K dX12_makes_51 ad_149 (by decide) kn_4 ?_
      refine aw_iconst K dX12_makes_52 ki_1 ?_
      refine aw_isub K dX12_makes_53 ?_
      refine aw_ast K dX12_makes_54 ad_149 (by decide) kn_4 (fun σ1 => ?_)
      refine aw_lv [0, 1] rfl ?_
      exact hK55 _ _
    · refine aw_aload_n K 0 dX12_makes_25 rfl ?_
      refine aw_getR K (c' := 149) dX12_makes_26 lk_X12_7_12 fd_148_0 ?_
      refine aw_iload_n K 2 dX12_makes_29 rfl ?_
      refine aw_aload_n K 0 dX12_makes_30 rfl ?_
      refine aw_getR K (c' := 149) dX12_makes_31 lk_X12_7_12 fd_148_0 ?_
      refine aw_iload_n K 2 dX12_makes_34 rfl ?_
      refine aw_iconst K dX12_makes_35 ki_3 ?_
      refine aw_iadd K dX12_makes_36 ?_
      refine aw_gd (fun h_2 => ?_)
      refine aw_ald K dX12_makes_37 ad_149 h_2 rfl ?_
      refine aw_gd (fun h_3 => ?_)
      refine aw_ast K dX12_makes_38 ad_149 h_3 rfl (fun σ2 => ?_)
      refine aw_iinc K (lv' := fun y3 => [(2, .int y3), (0, rf P 148), (1, .int x1)]) 2 dX12_makes_39 rfl ki_1 (Nat.le_of_ble_eq_true rfl) (fun _ => rfl) (fun y3 => ?_)
      refine aw_goto K 19 dX12_makes_42 (by decide) ?_
      refine aw_lv [1, 2, 0] rfl ?_
      exact ih _ _ _
set_option maxRecDepth 100000 in
set_option maxHeartbeats 4000000 in
theorem c_f_M_makes (l : Launch) (x1 : Int32) : CTV l (8) yX12_makes cX12_makes 4 (none) (fun P => [rf P 148, .int x1]) (fun σ => f_M_makes x1 σ) := by
  refine met_V rfl rfl rfl (fun P => Nat.le_of_ble_eq_true rfl) (fun P G K hg σ => ?_)
  change AW P G 4 (EV P G cX12_makes) (f_M_makes x1 σ) σ 0 [(0, rf P 148), (1, .int x1)] []
  rw [f_M_makes]
  refine aw_aload_n K 0 dX12_makes_0 rfl ?_
  refine aw_iload_n K 1 dX12_makes_1 rfl ?_
  refine aw_callVV K dX12_makes_2 vw_X12_175_12 (c_f_M_does l _) hg (by decide) ob_148 rfl (Nat.le_of_ble_eq_true rfl) rfl rfl (fun _ σ1 _ => ?_)
  refine aw_aload_n K 0 dX12_makes_5 rfl ?_
  refine aw_getR K (c' := 149) dX12_makes_6 lk_X12_7_12 fd_148_0 ?_
  refine aw_iconst K dX12_makes_9 ki_4 ?_
  refine aw_ald K dX12_makes_10 ad_149 (by decide) kn_4 ?_
  refine aw_bipush K dX12_makes_11 kb_12 ?_
  refine aw_icmp_ne K 55 dX12_makes_13 (by decide) (fun h_1 => ?_) (fun h_1 => ?_)
  · refine aw_lv [0, 1] rfl ?_
    exact (a_f_M_makes_55 l K hg) _ _
  · refine aw_bipush K dX12_makes_16 kb_70 ?_
    refine aw_istore_n K (i := 2) (lv' := [(2, .int (70 : Int32)), (0, rf P 148), (1, .int x1)]) dX12_makes_18 rfl (Nat.le_of_ble_eq_true rfl) rfl ?_
    refine aw_lv [1, 2, 0] rfl ?_
    exact (a_f_M_makes_19 l K hg (a_f_M_makes_55 l K hg) FU) _ _ _
set_option maxRecDepth 100000 in
set_option maxHeartbeats 4000000 in
theorem c_f_M_make (l : Launch) (x1 : Int32) (x2 : Int32) : CTI l (9) yX12_make cX12_make 3 ((some .int)) (fun P => [rf P 148, .int x1, .int x2]) (fun σ => f_M_make x1 x2 σ) := by
  refine met_I rfl rfl rfl (fun P => Nat.le_of_ble_eq_true rfl) (fun P G K hg σ => ?_)
  change AW P G 3 (EI P G cX12_make) (f_M_make x1 x2 σ) σ 0 [(0, rf P 148), (1, .int x1), (2, .int x2)] []
  rw [f_M_make]
  refine aw_aload_n K 0 dX12_make_0 rfl ?_
  refine aw_iload_n K 1 dX12_make_1 rfl ?_
  refine aw_iload_n K 2 dX12_make_2 rfl ?_
  refine aw_callVI K dX12_make_3 vw_X12_153_12 (c_f_M_isChange l _ _) hg (by decide) ob_148 rfl (Nat.le_of_ble_eq_true rfl) rfl rfl (fun r2 σ1 _ => ?_)
  refine aw_if_ne K 11 dX12_make_6 (by decide) (fun h_1 => ?_) (fun h_1 => ?_)
  · refine aw_aload_n K 0 dX12_make_11 rfl ?_
    refine aw_bipush K dX12_make_12 kb_10 ?_
    refine aw_iload_n K 1 dX12_make_14 rfl ?_
    refine aw_imul K dX12_make_15 ?_
    refine aw_iload_n K 2 dX12_make_16 rfl ?_
    refine aw_iadd K dX12_make_17 ?_
    refine aw_callVI K dX12_make_18 vw_X12_162_12 (c_f_M_canBe l _) hg (by decide) ob_148 rfl (Nat.le_of_ble_eq_true rfl) rfl rfl (fun r4 σ3 _ => ?_)
    refine aw_if_ne K 27 dX12_make_21 (by decide) (fun h_2 => ?_) (fun h_2 => ?_)
    · refine aw_aload_n K 0 dX12_make_27 rfl ?_
      refine aw_bipush K dX12_make_28 kb_10 ?_
      refine aw_iload_n K 1 dX12_make_30 rfl ?_
      refine aw_imul K dX12_make_31 ?_
      refine aw_iload_n K 2 dX12_make_32 rfl ?_
      refine aw_iadd K dX12_make_33 ?_
      refine aw_callVV K dX12_make_34 vw_X12_182_12 (c_f_M_makes l _) hg (by decide) ob_148 rfl (Nat.le_of_ble_eq_true rfl) rfl rfl (fun _ σ5 _ => ?_)
      refine aw_aload_n K 0 dX12_make_37 rfl ?_
      refine aw_getI K dX12_make_38 lk_X12_168_12 fd_148_7 ?_
      exact aw_iret dX12_make_41
    · refine aw_bipush K dX12_make_24 kb_m4 ?_
      exact aw_iret dX12_make_26
  · refine aw_iconst K dX12_make_9 ki_m1 ?_
    exact aw_iret dX12_make_10
set_option maxRecDepth 100000 in
set_option maxHeartbeats 4000000 in
theorem c_f_M_undoes (l : Launch) (x1 : Int32) (x2 : Int32) (x3 : Int32) : CTV l (3) yX12_undoes cX12_undoes 6 (none) (fun P => [rf P 148, .int x1, .int x2, .int x3]) (fun σ => f_M_undoes x1 x2 x3 σ) := by
  refine met_V rfl rfl rfl (fun P => Nat.le_of_ble_eq_true rfl) (fun P G K hg σ => ?_)
  change AW P G 6 (EV P G cX12_undoes) (f_M_undoes x1 x2 x3 σ) σ 0 [(0, rf P 148), (1, .int x1), (2, .int x2), (3, .int x3)] []
  rw [f_M_undoes]
  refine aw_iload_n K 1 dX12_undoes_0 rfl ?_
  refine aw_bipush K dX12_undoes_1 kb_10 ?_
  refine aw_idiv K dX12_undoes_3 (by decide) ?_
  refine aw_istoreX K (i := 4) (lv' := fun y1 => [(4, .int y1), (0, rf P 148), (1, .int x1), (2, .int x2), (3, .int x3)]) dX12_undoes_4 (Nat.le_of_ble_eq_true rfl) (fun _ => rfl) (fun y1 => ?_)
  refine aw_iload_n K 2 dX12_undoes_6 rfl ?_
  refine aw_bipush K dX12_undoes_7 kb_10 ?_
  refine aw_irem K dX12_undoes_9 (by decide) ?_
  refine aw_istoreX K (i := 5) (lv' := fun y2 => [(5, .int y2), (4, .int y1), (0, rf P 148), (1, .int x1), (2, .int x2), (3, .int x3)]) dX12_undoes_10 (Nat.le_of_ble_eq_true rfl) (fun _ => rfl) (fun y2 => ?_)
  refine aw_iload K 0 dX12_undoes_12 rfl ?_
  refine aw_bipush K dX12_undoes_14 kb_9 ?_
  refine aw_icmp_ne K 81 dX12_undoes_16 (by decide) (fun h_1 => ?_) (fun h_1 => ?_)
  · refine aw_aload_n K 2 dX12_undoes_81 rfl ?_
    refine aw_iload K 1 dX12_undoes_82 rfl ?_
    refine aw_iload K 0 dX12_undoes_84 rfl ?_
    refine aw_callVV K dX12_undoes_86 vw_X12_171_12 (c_f_M_swaps l _ _) hg (by decide) ob_148 rfl (Nat.le_of_ble_eq_true rfl) rfl rfl (fun _ σ3 _ => ?_)
    exact aw_vret dX12_undoes_89
  · refine aw_aload_n K 2 dX12_undoes_19 rfl ?_
    refine aw_getR K (c' := 149) dX12_undoes_20 lk_X12_7_12 fd_148_0 ?_
    refine aw_bipush K dX12_undoes_23 kb_14 ?_
    refine aw_aload_n K 2 dX12_undoes_25 rfl ?_
    refine aw_iload K 1 dX12_undoes_26 rfl ?_
    refine aw_iconst K dX12_undoes_28 ki_1 ?_
    refine aw_callVI K dX12_undoes_29 vw_X12_93_12 (c_f_M_its l _ _) hg (by decide) ob_148 rfl (Nat.le_of_ble_eq_true rfl) rfl rfl (fun r5 σ4 _ => ?_)
    refine aw_iadd K dX12_undoes_32 ?_
    refine aw_dup2_11 K dX12_undoes_33 rfl rfl ?_
    refine aw_gd (fun h_2 => ?_)
    refine aw_ald K dX12_undoes_34 ad_149 h_2 rfl ?_
    refine aw_iconst K dX12_undoes_35 ki_1 ?_
    refine aw_iadd K dX12_undoes_36 ?_
    refine aw_gd (fun h_3 => ?_)
    refine aw_ast K dX12_undoes_37 ad_149 h_3 rfl (fun σ6 => ?_)
    refine aw_aload_n K 2 dX12_undoes_38 rfl ?_
    refine aw_getR K (c' := 149) dX12_undoes_39 lk_X12_7_12 fd_148_0 ?_
    refine aw_bipush K dX12_undoes_42 kb_14 ?_
    refine aw_iload_n K 4 dX12_undoes_44 rfl ?_
    refine aw_iadd K dX12_undoes_45 ?_
    refine aw_dup2_11 K dX12_undoes_46 rfl rfl ?_
    refine aw_gd (fun h_4 => ?_)
    refine aw_ald K dX12_undoes_47 ad_149 h_4 rfl ?_
    refine aw_iconst K dX12_undoes_48 ki_1 ?_
    refine aw_isub K dX12_undoes_49 ?_
    refine aw_gd (fun h_5 => ?_)
    refine aw_ast K dX12_undoes_50 ad_149 h_5 rfl (fun σ7 => ?_)
    refine aw_aload_n K 2 dX12_undoes_51 rfl ?_
    refine aw_getR K (c' := 149) dX12_undoes_52 lk_X12_7_12 fd_148_0 ?_
    refine aw_iload K 1 dX12_undoes_55 rfl ?_
    refine aw_iconst K dX12_undoes_57 ki_1 ?_
    refine aw_callSI K dX12_undoes_58 vw_X12_74 (c_f_M_at l _ _) hg (by decide) rfl (Nat.le_of_ble_eq_true rfl) rfl rfl (fun r9 σ8 _ => ?_)
    refine aw_iload_n K 4 dX12_undoes_61 rfl ?_
    refine aw_gd (fun h_6 => ?_)
    refine aw_ast K dX12_undoes_62 ad_149 h_6 rfl (fun σ10 => ?_)
    refine aw_aload_n K 2 dX12_undoes_63 rfl ?_
    refine aw_getR K (c' := 149) dX12_undoes_64 lk_X12_7_12 fd_148_0 ?_
    refine aw_iload K 1 dX12_undoes_67 rfl ?_
    refine aw_iconst K dX12_undoes_69 ki_3 ?_
    refine aw_callSI K dX12_undoes_70 vw_X12_74 (c_f_M_at l _ _) hg (by decide) rfl (Nat.le_of_ble_eq_true rfl) rfl rfl (fun r12 σ11 _ => ?_)
    refine aw_dup2_11 K dX12_undoes_73 rfl rfl ?_
    refine aw_gd (fun h_7 => ?_)
    refine aw_ald K dX12_undoes_74 ad_149 h_7 rfl ?_
    refine aw_iload_n K 5 dX12_undoes_75 rfl ?_
    refine aw_iadd K dX12_undoes_76 ?_
    refine aw_gd (fun h_8 => ?_)
    refine aw_ast K dX12_undoes_77 ad_149 h_8 rfl (fun σ13 => ?_)
    refine aw_goto K 89 dX12_undoes_78 (by decide) ?_
    exact aw_vret dX12_undoes_89
set_option maxRecDepth 100000 in
set_option maxHeartbeats 4000000 in
theorem a_f_M_back_66 (l : Launch) {P : PT} {G : GT} (K : CX P G cX12_back RX12 (4) 7) (hg : gl G = l) : ∀ (x1 : Int32) (x2 : Int32) (x3 : Int32) (x4 : Int32) (xs0 : Int32) (σ : SG), AW P G 7 (EI P G cX12_back) (f_M_back_66 x1 x2 x3 x4 xs0 σ) σ 66 [(0, rf P 148), (1, .int x1), (2, .int x2), (3, .int x3), (4, .int x4)] [.int xs0] := by
  intro x1 x2 x3 x4 xs0 σ
  rw [f_M_back_66]
  refine aw_istore K (i := 5) (lv' := [(5, .int xs0), (0, rf P 148), (1, .int x1), (2, .int x2), (3, .int x3), (4, .int x4)]) dX12_back_66 (Nat.le_of_ble_eq_true rfl) rfl ?_
  refine aw_iload K 5 dX12_back_68 rfl ?_
  refine aw_bipush K dX12_back_70 kb_9 ?_
  refine aw_icmp_ne K 136 dX12_back_72 (by decide) (fun h_1 => ?_) (fun h_1 => ?_)
  · refine aw_iload K 0 dX12_back_136 rfl ?_
    refine aw_if_eq K 159 dX12_back_138 (by decide) (fun h_2 => ?_) (fun h_2 => ?_)
    · refine aw_bipush K dX12_back_159 kb_m4 ?_
      exact aw_iret dX12_back_161
    · refine aw_aload_n K 1 dX12_back_141 rfl ?_
      refine aw_iload K 5 dX12_back_142 rfl ?_
      refine aw_iconst K dX12_back_144 ki_1 ?_
      refine aw_callVI K dX12_back_145 vw_X12_93_12 (c_f_M_its l _ _) hg (by decide) ob_148 rfl (Nat.le_of_ble_eq_true rfl) rfl rfl (fun r2 σ1 _ => ?_)
      refine aw_aload_n K 1 dX12_back_148 rfl ?_
      refine aw_getR K (c' := 149) dX12_back_149 lk_X12_7_12 fd_148_0 ?_
      refine aw_iload_n K 2 dX12_back_152 rfl ?_
      refine aw_iconst K dX12_back_153 ki_2 ?_
      refine aw_iadd K dX12_back_154 ?_
      refine aw_gd (fun h_3 => ?_)
      refine aw_ald K dX12_back_155 ad_149 h_3 rfl ?_
      refine aw_icmp_eq K 162 dX12_back_156 (by decide) (fun h_4 => ?_) (fun h_4 => ?_)
      · refine aw_aload_n K 1 dX12_back_162 rfl ?_
        refine aw_iload_n K 4 dX12_back_163 rfl ?_
        refine aw_iload K 5 dX12_back_164 rfl ?_
        refine aw_callVV K dX12_back_166 vw_X12_171_12 (c_f_M_swaps l _ _) hg (by decide) ob_148 rfl (Nat.le_of_ble_eq_true rfl) rfl rfl (fun _ σ3 _ => ?_)
        refine aw_aload_n K 1 dX12_back_169 rfl ?_
        refine aw_getR K (c' := 149) dX12_back_170 lk_X12_7_12 fd_148_0 ?_
        refine aw_iconst K dX12_back_173 ki_4 ?_
        refine aw_dup2_11 K dX12_back_174 rfl rfl ?_
        refine aw_ald K dX12_back_175 ad_149 (by decide) kn_4 ?_
        refine aw_iconst K dX12_back_176 ki_1 ?_
        refine aw_isub K dX12_back_177 ?_
        refine aw_ast K dX12_back_178 ad_149 (by decide) kn_4 (fun σ4 => ?_)
        refine aw_iload_n K 3 dX12_back_179 rfl ?_
        exact aw_iret dX12_back_180
      · refine aw_bipush K dX12_back_159 kb_m4 ?_
        exact aw_iret dX12_back_161
  · refine aw_aload_n K 1 dX12_back_75 rfl ?_
    refine aw_getR K (c' := 149) dX12_back_76 lk_X12_7_12 fd_148_0 ?_
    refine aw_iload_n K 2 dX12_back_79 rfl ?_
    refine aw_iconst K dX12_back_80 ki_2 ?_
    refine aw_iadd K dX12_back_81 ?_
    refine aw_gd (fun h_5 => ?_)
    refine aw_ald K dX12_back_82 ad_149 h_5 rfl ?_
    refine aw_istoreX K (i := 6) (lv' := fun y5 => [(6, .int y5), (5, .int xs0), (0, rf P 148), (1, .int x1), (2, .int x2), (3, .int x3), (4, .int x4)]) dX12_back_83 (Nat.le_of_ble_eq_true rfl) (fun _ => rfl) (fun y5 => ?_)
    refine aw_iload K 1 dX12_back_85 rfl ?_
    refine aw_if_eq K 122 dX12_back_87 (by decide) (fun h_6 => ?_) (fun h_6 => ?_)
    · refine aw_bipush K dX12_back_122 kb_m4 ?_
      exact aw_iret dX12_back_124
    · refine aw_aload_n K 2 dX12_back_90 rfl ?_
      refine aw_getR K (c' := 149) dX12_back_91 lk_X12_7_12 fd_148_0 ?_
      refine aw_bipush K dX12_back_94 kb_14 ?_
      refine aw_iload K 0 dX12_back_96 rfl ?_
      refine aw_iadd K dX12_back_98 ?_
      refine aw_gd (fun h_7 => ?_)
      refine aw_ald K dX12_back_99 ad_149 h_7 rfl ?_
      refine aw_if_eq K 122 dX12_back_100 (by decide) (fun h_8 => ?_) (fun h_8 => ?_)
      · refine aw_bipush K dX12_back_122 kb_m4 ?_
        exact aw_iret dX12_back_124
      · refine aw_aload_n K 2 dX12_back_103 rfl ?_
        refine aw_getR K (c' := 149) dX12_back_104 lk_X12_7_12 fd_148_0 ?_
        refine aw_bipush K dX12_back_107 kb_14 ?_
        refine aw_aload_n K 2 dX12_back_109 rfl ?_
        refine aw_iload_n K 5 dX12_back_110 rfl ?_
        refine aw_iconst K dX12_back_111 ki_1 ?_
        refine aw_callVI K dX12_back_112 vw_X12_93_12 (c_f_M_its l _ _) hg (by decide) ob_148 rfl (Nat.le_of_ble_eq_true rfl) rfl rfl (fun r7 σ6 _ => ?_)
        refine aw_iadd K dX12_back_115 ?_
        refine aw_gd (fun h_9 => ?_)
        refine aw_ald K dX12_back_116 ad_149 h_9 rfl ?_
        refine aw_bipush K dX12_back_117 kb_99 ?_
        refine aw_icmp_ne K 125 dX12_back_119 (by decide) (fun h_10 => ?_) (fun h_10 => ?_)
        · refine aw_aload_n K 2 dX12_back_125 rfl ?_
          refine aw_iload_n K 4 dX12_back_126 rfl ?_
          refine aw_iload K 0 dX12_back_127 rfl ?_
          refine aw_iconst K dX12_back_129 ki_0 ?_
          refine aw_callVV K dX12_back_130 vw_X12_185_12 (c_f_M_undoes l _ _ _) hg (by decide) ob_148 rfl (Nat.le_of_ble_eq_true rfl) rfl rfl (fun _ σ8 _ => ?_)
          refine aw_goto K 169 dX12_back_133 (by decide) ?_
          refine aw_aload_n K 2 dX12_back_169 rfl ?_
          refine aw_getR K (c' := 149) dX12_back_170 lk_X12_7_12 fd_148_0 ?_
          refine aw_iconst K dX12_back_173 ki_4 ?_
          refine aw_dup2_11 K dX12_back_174 rfl rfl ?_
          refine aw_ald K dX12_back_175 ad_149 (by decide) kn_4 ?_
          refine aw_iconst K dX12_back_176 ki_1 ?_
          refine aw_isub K dX12_back_177 ?_
          refine aw_ast K dX12_back_178 ad_149 (by decide) kn_4 (fun σ9 => ?_)
          refine aw_iload_n K 4 dX12_back_179 rfl ?_
          exact aw_iret dX12_back_180
        · refine aw_bipush K dX12_back_122 kb_m4 ?_
          exact aw_iret dX12_back_124
set_option maxRecDepth 100000 in
set_option maxHeartbeats 4000000 in
theorem c_f_M_back (l : Launch) : CTI l (4) yX12_back cX12_back 7 ((some .int)) (fun P => [rf P 148]) (fun σ => f_M_back σ) := by
  refine met_I rfl rfl rfl (fun P => Nat.le_of_ble_eq_true rfl) (fun P G K hg σ => ?_)
  change AW P G 7 (EI P G cX12_back) (f_M_back σ) σ 0 [(0, rf P 148)] []
  rw [f_M_back]
  refine aw_aload_n K 0 dX12_back_0 rfl ?_
  refine aw_getR K (c' := 149) dX12_back_1 lk_X12_7_12 fd_148_0 ?_
  refine aw_iconst K dX12_back_4 ki_4 ?_
  refine aw_ald K dX12_back_5 ad_149 (by decide) kn_4 ?_
  refine aw_if_ne K 12 dX12_back_6 (by decide) (fun h_1 => ?_) (fun h_1 => ?_)
  · refine aw_bipush K dX12_back_12 kb_70 ?_
    refine aw_iconst K dX12_back_14 ki_3 ?_
    refine aw_aload_n K 0 dX12_back_15 rfl ?_
    refine aw_getR K (c' := 149) dX12_back_16 lk_X12_7_12 fd_148_0 ?_
    refine aw_iconst K dX12_back_19 ki_4 ?_
    refine aw_ald K dX12_back_20 ad_149 (by decide) kn_4 ?_
    refine aw_imul K dX12_back_21 ?_
    refine aw_iadd K dX12_back_22 ?_
    refine aw_iconst K dX12_back_23 ki_3 ?_
    refine aw_isub K dX12_back_24 ?_
    refine aw_istoreX_n K (i := 1) (lv' := fun y1 => [(1, .int y1), (0, rf P 148)]) dX12_back_25 rfl (Nat.le_of_ble_eq_true rfl) (fun _ => rfl) (fun y1 => ?_)
    refine aw_aload_n K 1 dX12_back_26 rfl ?_
    refine aw_getR K (c' := 149) dX12_back_27 lk_X12_7_12 fd_148_0 ?_
    refine aw_iload_n K 0 dX12_back_30 rfl ?_
    refine aw_gd (fun h_2 => ?_)
    refine aw_ald K dX12_back_31 ad_149 h_2 rfl ?_
    refine aw_istoreX_n K (i := 2) (lv' := fun y2 => [(2, .int y2), (1, .int y1), (0, rf P 148)]) dX12_back_32 rfl (Nat.le_of_ble_eq_true rfl) (fun _ => rfl) (fun y2 => ?_)
    refine aw_iload_n K 0 dX12_back_33 rfl ?_
    refine aw_bipush K dX12_back_34 kb_10 ?_
    refine aw_idiv K dX12_back_36 (by decide) ?_
    refine aw_istoreX_n K (i := 3) (lv' := fun y3 => [(3, .int y3), (2, .int y2), (1, .int y1), (0, rf P 148)]) dX12_back_37 rfl (Nat.le_of_ble_eq_true rfl) (fun _ => rfl) (fun y3 => ?_)
    refine aw_iload_n K 1 dX12_back_38 rfl ?_
    refine aw_bipush K dX12_back_39 kb_10 ?_
    refine aw_irem K dX12_back_41 (by decide) ?_
    refine aw_istoreX K (i := 4) (lv' := fun y4 => [(4, .int y4), (3, .int y3), (2, .int y2), (1, .int y1), (0, rf P 148)]) dX12_back_42 (Nat.le_of_ble_eq_true rfl) (fun _ => rfl) (fun y4 => ?_)
    refine aw_aload_n K 4 dX12_back_44 rfl ?_
    refine aw_iload_n K 1 dX12_back_45 rfl ?_
    refine aw_iconst K dX12_back_46 ki_1 ?_
    refine aw_callVI K dX12_back_47 vw_X12_93_12 (c_f_M_its l _ _) hg (by decide) ob_148 rfl (Nat.le_of_ble_eq_true rfl) rfl rfl (fun r6 σ5 _ => ?_)
    refine aw_aload_n K 4 dX12_back_50 rfl ?_
    refine aw_getR K (c' := 149) dX12_back_51 lk_X12_7_12 fd_148_0 ?_
    refine aw_iload_n K 3 dX12_back_54 rfl ?_
    refine aw_iconst K dX12_back_55 ki_1 ?_
    refine aw_iadd K dX12_back_56 ?_
    refine aw_gd (fun h_3 => ?_)
    refine aw_ald K dX12_back_57 ad_149 h_3 rfl ?_
    refine aw_icmp_ne K 65 dX12_back_58 (by decide) (fun h_4 => ?_) (fun h_4 => ?_)
    · refine aw_iconst K dX12_back_65 ki_0 ?_
      refine aw_lv [4, 3, 2, 1, 0] rfl ?_
      exact (a_f_M_back_66 l K hg) _ _ _ _ _ _
    · refine aw_iconst K dX12_back_61 ki_1 ?_
      refine aw_goto K 66 dX12_back_62 (by decide) ?_
      refine aw_lv [4, 3, 2, 1, 0] rfl ?_
      exact (a_f_M_back_66 l K hg) _ _ _ _ _ _
  · refine aw_bipush K dX12_back_9 kb_m3 ?_
    exact aw_iret dX12_back_11
set_option maxRecDepth 100000 in
set_option maxHeartbeats 4000000 in
theorem c_f_M_thereSet (l : Launch) : CTI l (0) yX12_thereSet cX12_thereSet 2 ((some .int)) (fun P => [rf P 148]) (fun σ => f_M_thereSet σ) := by
  refine met_I rfl rfl rfl (fun P => Nat.le_of_ble_eq_true rfl) (fun P G K hg σ => ?_)
  change AW P G 2 (EI P G cX12_thereSet) (f_M_thereSet σ) σ 0 [(0, rf P 148)] []
  rw [f_M_thereSet]
  refine aw_iconst K dX12_thereSet_0 ki_1 ?_
  refine aw_aload_n K 0 dX12_thereSet_1 rfl ?_
  refine aw_getR K (c' := 149) dX12_thereSet_2 lk_X12_7_12 fd_148_0 ?_
  refine aw_iconst K dX12_thereSet_5 ki_0 ?_
  refine aw_ald K dX12_thereSet_6 ad_149 (by decide) kn_0 ?_
  refine aw_ishl K dX12_thereSet_7 ?_
  refine aw_iconst K dX12_thereSet_8 ki_1 ?_
  refine aw_isub K dX12_thereSet_9 ?_
  refine aw_istoreX_n K (i := 1) (lv' := fun y1 => [(1, .int y1), (0, rf P 148)]) dX12_thereSet_10 rfl (Nat.le_of_ble_eq_true rfl) (fun _ => rfl) (fun y1 => ?_)
  refine aw_aload_n K 1 dX12_thereSet_11 rfl ?_
  refine aw_getI K dX12_thereSet_12 lk_X12_19_12 fd_148_4 ?_
  refine aw_if_ge K 22 dX12_thereSet_15 (by decide) (fun h_1 => ?_) (fun h_1 => ?_)
  · refine aw_iload_n K 0 dX12_thereSet_22 rfl ?_
    refine aw_iconst K dX12_thereSet_23 ki_1 ?_
    refine aw_aload_n K 1 dX12_thereSet_24 rfl ?_
    refine aw_getI K dX12_thereSet_25 lk_X12_19_12 fd_148_4 ?_
    refine aw_ishl K dX12_thereSet_28 ?_
    refine aw_iconst K dX12_thereSet_29 ki_m1 ?_
    refine aw_ixor K dX12_thereSet_30 ?_
    refine aw_iand K dX12_thereSet_31 ?_
    exact aw_iret dX12_thereSet_32
  · refine aw_iload_n K 0 dX12_thereSet_18 rfl ?_
    refine aw_goto K 32 dX12_thereSet_19 (by decide) ?_
    exact aw_iret dX12_thereSet_32
set_option maxRecDepth 100000 in
set_option maxHeartbeats 4000000 in
theorem a_f_M_keeps_82 (l : Launch) {P : PT} {G : GT} (K : CX P G cX12_keeps RX12 (0) 4) (hg : gl G = l) : ∀ (n : Nat) (x1 : Int32) (x3 : Int32) (σ : SG), AW P G 4 (EV P G cX12_keeps) (f_M_keeps_82 n x1 x3 σ) σ 82 [(0, rf P 148), (1, .int x1), (3, .int x3)] [] := by
  intro n
  induction n with
  | zero =>
    intro x1 x3 σ
    rw [f_M_keeps_82]
    exact aw_none
  | succ n ih =>
    intro x1 x3 σ
    rw [f_M_keeps_82]
    refine aw_iload_n K 2 dX12_keeps_82 rfl ?_
    refine aw_iload_n K 1 dX12_keeps_83 rfl ?_
    refine aw_icmp_ge K 105 dX12_keeps_84 (by decide) (fun h_1 => ?_) (fun h_1 => ?_)
    · exact aw_vret dX12_keeps_105
    · refine aw_aload_n K 0 dX12_keeps_87 rfl ?_
      refine aw_getR K (c' := 155) dX12_keeps_88 lk_X12_32_12 fd_148_10 ?_
      refine aw_iload_n K 2 dX12_keeps_91 rfl ?_
      refine aw_aload_n K 0 dX12_keeps_92 rfl ?_
      refine aw_getR K (c' := 153) dX12_keeps_93 lk_X12_26_12 fd_148_8 ?_
      refine aw_iload_n K 2 dX12_keeps_96 rfl ?_
      refine aw_gd (fun h_2 => ?_)
      refine aw_ald K dX12_keeps_97 ad_153 h_2 rfl ?_
      refine aw_gd (fun h_3 => ?_)
      refine aw_ast K dX12_keeps_98 ad_155 h_3 rfl (fun σ1 => ?_)
      refine aw_iinc K (lv' := fun y2 => [(3, .int y2), (0, rf P 148), (1, .int x1)]) 2 dX12_keeps_99 rfl ki_1 (Nat.le_of_ble_eq_true rfl) (fun _ => rfl) (fun y2 => ?_)
      refine aw_goto K 82 dX12_keeps_102 (by decide) ?_
      refine aw_lv [1, 2, 0] rfl ?_
      exact ih _ _ _
set_option maxRecDepth 100000 in
set_option maxHeartbeats 4000000 in
theorem a_f_M_keeps_55 (l : Launch) {P : PT} {G : GT} (K : CX P G cX12_keeps RX12 (0) 4) (hg : gl G = l) : ∀ (x1 : Int32) (x2 : Int32) (σ : SG), AW P G 4 (EV P G cX12_keeps) (f_M_keeps_55 x1 x2 σ) σ 55 [(0, rf P 148), (1, .int x1), (2, .int x2)] [] := by
  intro x1 x2 σ
  rw [f_M_keeps_55]
  refine aw_aload_n K 0 dX12_keeps_55 rfl ?_
  refine aw_getI K dX12_keeps_56 lk_X12_195_12 fd_148_14 ?_
  refine aw_if_lt K 70 dX12_keeps_59 (by decide) (fun h_1 => ?_) (fun h_1 => ?_)
  · refine aw_aload_n K 0 dX12_keeps_70 rfl ?_
    refine aw_iload_n K 2 dX12_keeps_71 rfl ?_
    refine aw_putI K dX12_keeps_72 lp_X12_195_12 fd_148_14 (fun σ1 => ?_)
    refine aw_aload_n K 0 dX12_keeps_75 rfl ?_
    refine aw_iload_n K 1 dX12_keeps_76 rfl ?_
    refine aw_putI K dX12_keeps_77 lp_X12_198_12 fd_148_15 (fun σ2 => ?_)
    refine aw_iconst K dX12_keeps_80 ki_0 ?_
    refine aw_istore_n K (i := 3) (lv' := [(3, .int (0 : Int32)), (0, rf P 148), (1, .int x1), (2, .int x2)]) dX12_keeps_81 rfl (Nat.le_of_ble_eq_true rfl) rfl ?_
    refine aw_lv [1, 2, 0] rfl ?_
    exact (a_f_M_keeps_82 l K hg FU) _ _ _
  · refine aw_iload_n K 2 dX12_keeps_62 rfl ?_
    refine aw_aload_n K 0 dX12_keeps_63 rfl ?_
    refine aw_getI K dX12_keeps_64 lk_X12_195_12 fd_148_14 ?_
    refine aw_icmp_ge K 105 dX12_keeps_67 (by decide) (fun h_2 => ?_) (fun h_2 => ?_)
    · exact aw_vret dX12_keeps_105
    · refine aw_aload_n K 0 dX12_keeps_70 rfl ?_
      refine aw_iload_n K 2 dX12_keeps_71 rfl ?_
      refine aw_putI K dX12_keeps_72 lp_X12_195_12 fd_148_14 (fun σ3 => ?_)
      refine aw_aload_n K 0 dX12_keeps_75 rfl ?_
      refine aw_iload_n K 1 dX12_keeps_76 rfl ?_
      refine aw_putI K dX12_keeps_77 lp_X12_198_12 fd_148_15 (fun σ4 => ?_)
      refine aw_iconst K dX12_keeps_80 ki_0 ?_
      refine aw_istore_n K (i := 3) (lv' := [(3, .int (0 : Int32)), (0, rf P 148), (1, .int x1), (2, .int x2)]) dX12_keeps_81 rfl (Nat.le_of_ble_eq_true rfl) rfl ?_
      refine aw_lv [1, 2, 0] rfl ?_
      exact (a_f_M_keeps_82 l K hg FU) _ _ _
set_option maxRecDepth 100000 in
set_option maxHeartbeats 4000000 in
theorem a_f_M_keeps_32 (l : Launch) {P : PT} {G : GT} (K : CX P G cX12_keeps RX12 (0) 4) (hg : gl G = l) {K55 : Int32 → Int32 → SG → Option (Unit × SG)} (hK55 : ∀ (x1 : Int32) (x2 : Int32) (σ : SG), AW P G 4 (EV P G cX12_keeps) (K55 x1 x2 σ) σ 55 [(0, rf P 148), (1, .int x1), (2, .int x2)] []) : ∀ (n : Nat) (x1 : Int32) (x2 : Int32) (x3 : Int32) (σ : SG), AW P G 4 (EV P G cX12_keeps) (f_M_keeps_32 K55 n x1 x2 x3 σ) σ 32 [(0, rf P 148), (1, .int x1), (2, .int x2), (3, .int x3)] [] := by
  intro n
  induction n with
  | zero =>
    intro x1 x2 x3 σ
    rw [f_M_keeps_32]
    exact aw_none
  | succ n ih =>
    intro x1 x2 x3 σ
    rw [f_M_keeps_32]
    refine aw_iload_n K 3 dX12_keeps_32 rfl ?_
    refine aw_iload_n K 1 dX12_keeps_33 rfl ?_
    refine aw_icmp_ge K 55 dX12_keeps_34 (by decide) (fun h_1 => ?_) (fun h_1 => ?_)
    · refine aw_lv [0, 1, 2] rfl ?_
      exact hK55 _ _ _
    · refine aw_aload_n K 0 dX12_keeps_37 rfl ?_
      refine aw_getR K (c' := 154) dX12_keeps_38 lk_X12_29_12 fd_148_9 ?_
      refine aw_iload_n K 3 dX12_keeps_41 rfl ?_
      refine aw_aload_n K 0 dX12_keeps_42 rfl ?_
      refine aw_getR K (c' := 153) dX12_keeps_43 lk_X12_26_12 fd_148_8 ?_
      refine aw_iload_n K 3 dX12_keeps_46 rfl ?_
      refine aw_gd (fun h_2 => ?_)
      refine aw_ald K dX12_keeps_47 ad_153 h_2 rfl ?_
      refine aw_gd (fun h_3 => ?_)
      refine aw_ast K dX12_keeps_48 ad_154 h_3 rfl (fun σ1 => ?_)
      refine aw_iinc K (lv' := fun y2 => [(3, .int y2), (0, rf P 148), (1, .int x1), (2, .int x2)]) 3 dX12_keeps_49 rfl ki_1 (Nat.le_of_ble_eq_true rfl) (fun _ => rfl) (fun y2 => ?_)
      refine aw_goto K 32 dX12_keeps_52 (by decide) ?_
      refine aw_lv [1, 2, 3, 0] rfl ?_
      exact ih _ _ _ _
set_option maxRecDepth 100000 in
set_option maxHeartbeats 4000000 in
theorem c_f_M_keeps (l : Launch) (x1 : Int32) (x2 : Int32) : CTV l (0) yX12_keeps cX12_keeps 4 (none) (fun P => [rf P 148, .int x1, .int x2]) (fun σ => f_M_keeps x1 x2 σ) := by
  refine met_V rfl rfl rfl (fun P => Nat.le_of_ble_eq_true rfl) (fun P G K hg σ => ?_)
  change AW P G 4 (EV P G cX12_keeps) (f_M_keeps x1 x2 σ) σ 0 [(0, rf P 148), (1, .int x1), (2, .int x2)] []
  rw [f_M_keeps]
  refine aw_aload_n K 0 dX12_keeps_0 rfl ?_
  refine aw_dup K dX12_keeps_1 rfl ?_
  refine aw_getI K dX12_keeps_2 lk_X12_189_12 fd_148_11 ?_
  refine aw_iconst K dX12_keeps_5 ki_1 ?_
  refine aw_iadd K dX12_keeps_6 ?_
  refine aw_putI K dX12_keeps_7 lp_X12_189_12 fd_148_11 (fun σ1 => ?_)
  refine aw_aload_n K 0 dX12_keeps_10 rfl ?_
  refine aw_getI K dX12_keeps_11 lk_X12_192_12 fd_148_13 ?_
  refine aw_if_lt K 25 dX12_keeps_14 (by decide) (fun h_1 => ?_) (fun h_1 => ?_)
  · refine aw_aload_n K 0 dX12_keeps_25 rfl ?_
    refine aw_iload_n K 1 dX12_keeps_26 rfl ?_
    refine aw_putI K dX12_keeps_27 lp_X12_192_12 fd_148_13 (fun σ2 => ?_)
    refine aw_iconst K dX12_keeps_30 ki_0 ?_
    refine aw_istore_n K (i := 3) (lv' := [(3, .int (0 : Int32)), (0, rf P 148), (1, .int x1), (2, .int x2)]) dX12_keeps_31 rfl (Nat.le_of_ble_eq_true rfl) rfl ?_
    refine aw_lv [1, 2, 3, 0] rfl ?_
    exact (a_f_M_keeps_32 l K hg (a_f_M_keeps_55 l K hg) FU) _ _ _ _
  · refine aw_iload_n K 1 dX12_keeps_17 rfl ?_
    refine aw_aload_n K 0 dX12_keeps_18 rfl ?_
    refine aw_getI K dX12_keeps_19 lk_X12_192_12 fd_148_13 ?_
    refine aw_icmp_ge K 55 dX12_keeps_22 (by decide) (fun h_2 => ?_) (fun h_2 => ?_)
    · refine aw_lv [0, 1, 2] rfl ?_
      exact (a_f_M_keeps_55 l K hg) _ _ _
    · refine aw_aload_n K 0 dX12_keeps_25 rfl ?_
      refine aw_iload_n K 1 dX12_keeps_26 rfl ?_
      refine aw_putI K dX12_keeps_27 lp_X12_192_12 fd_148_13 (fun σ3 => ?_)
      refine aw_iconst K dX12_keeps_30 ki_0 ?_
      refine aw_istore_n K (i := 3) (lv' := [(3, .int (0 : Int32)), (0, rf P 148), (1, .int x1), (2, .int x2)]) dX12_keeps_31 rfl (Nat.le_of_ble_eq_true rfl) rfl ?_
      refine aw_lv [1, 2, 3, 0] rfl ?_
      exact (a_f_M_keeps_32 l K hg (a_f_M_keeps_55 l K hg) FU) _ _ _ _
set_option maxRecDepth 100000 in
set_option maxHeartbeats 4000000 in
theorem a_f_M_goes_S_64 (l : Launch) {kR : Nat} {fR : Int32 → Int32 → Int32 → SG → Option (Unit × SG)} (hfR : ∀ (z0 : Int32) (z1 : Int32) (z2 : Int32), CTV l kR yX12_goes cX12_goes 9 (none) (fun P => [rf P 148, .int z0, .int z1, .int z2]) (fun σ => fR z0 z1 z2 σ)) (hkR : 8 ≤ kR) {P : PT} {G : GT} (K : CX P G cX12_goes RX12 (kR + 1) 9) (hg : gl G = l) : ∀ (n : Nat) (x1 : Int32) (x2 : Int32) (x3 : Int32) (x6 : Int32) (σ : SG), AW P G 9 (EV P G cX12_goes) (f_M_goes_S_64 fR n x1 x2 x3 x6 σ) σ 64 [(0, rf P 148), (1, .int x1), (2, .int x2), (3, .int x3), (6, .int x6)] [] := by
  intro n
  induction n with
  | zero =>
    intro x1 x2 x3 x6 σ
    rw [f_M_goes_S_64]
    exact aw_none
  | succ n ih =>
    intro x1 x2 x3 x6 σ
    rw [f_M_goes_S_64]
    refine aw_iload K 4 dX12_goes_64 rfl ?_
    refine aw_if_lt K 128 dX12_goes_66 (by decide) (fun h_1 => ?_) (fun h_1 => ?_)
    · exact aw_vret dX12_goes_128
    · refine aw_aload_n K 0 dX12_goes_69 rfl ?_
      refine aw_iload K 4 dX12_goes_70 rfl ?_
      refine aw_callVV K dX12_goes_72 vw_X12_175_12 (c_f_M_does l _) hg (by omega) ob_148 rfl (Nat.le_of_ble_eq_true rfl) rfl rfl (fun _ σ1 _ => ?_)
      refine aw_aload_n K 0 dX12_goes_75 rfl ?_
      refine aw_getI K dX12_goes_76 lk_X12_165_12 fd_148_6 ?_
      refine aw_istoreX K (i := 7) (lv' := fun y2 => [(7, .int y2), (0, rf P 148), (1, .int x1), (2, .int x2), (3, .int x3), (6, .int x6)]) dX12_goes_79 (Nat.le_of_ble_eq_true rfl) (fun _ => rfl) (fun y2 => ?_)
      refine aw_aload_n K 1 dX12_goes_81 rfl ?_
      refine aw_getI K dX12_goes_82 lk_X12_168_12 fd_148_7 ?_
      refine aw_istoreX K (i := 8) (lv' := fun y3 => [(8, .int y3), (7, .int y2), (0, rf P 148), (1, .int x1), (2, .int x2), (3, .int x3), (6, .int x6)]) dX12_goes_85 (Nat.le_of_ble_eq_true rfl) (fun _ => rfl) (fun y3 => ?_)
      refine aw_aload_n K 2 dX12_goes_87 rfl ?_
      refine aw_getR K (c' := 153) dX12_goes_88 lk_X12_26_12 fd_148_8 ?_
      refine aw_iload_n K 3 dX12_goes_91 rfl ?_
      refine aw_iload K 6 dX12_goes_92 rfl ?_
      refine aw_gd (fun h_2 => ?_)
      refine aw_ast K dX12_goes_94 ad_153 h_2 rfl (fun σ4 => ?_)
      refine aw_aload_n K 2 dX12_goes_95 rfl ?_
      refine aw_iload_n K 3 dX12_goes_96 rfl ?_
      refine aw_iconst K dX12_goes_97 ki_1 ?_
      refine aw_iadd K dX12_goes_98 ?_
      refine aw_iload_n K 4 dX12_goes_99 rfl ?_
      refine aw_iload_n K 5 dX12_goes_100 rfl ?_
      refine aw_iload K 0 dX12_goes_101 rfl ?_
      refine aw_iadd K dX12_goes_103 ?_
      refine aw_callVV K dX12_goes_104 vw_X12_210_12 (hfR _ _ _) hg (by omega) ob_148 rfl (Nat.le_of_ble_eq_true rfl) rfl rfl (fun _ σ5 _ => ?_)
      refine aw_aload_n K 2 dX12_goes_107 rfl ?_
      refine aw_iload K 6 dX12_goes_108 rfl ?_
      refine aw_iload K 1 dX12_goes_110 rfl ?_
      refine aw_iload K 0 dX12_goes_112 rfl ?_
      refine aw_callVV K dX12_goes_114 vw_X12_185_12 (c_f_M_undoes l _ _ _) hg (by omega) ob_148 rfl (Nat.le_of_ble_eq_true rfl) rfl rfl (fun _ σ6 _ => ?_)
      refine aw_aload_n K 2 dX12_goes_117 rfl ?_
      refine aw_iload K 6 dX12_goes_118 rfl ?_
      refine aw_callVI K dX12_goes_120 vw_X12_179_12 (c_f_M_nextChange l _) hg (by omega) ob_148 rfl (Nat.le_of_ble_eq_true rfl) rfl rfl (fun r8 σ7 _ => ?_)
      refine aw_istore K (i := 6) (lv' := [(6, .int r8), (8, .int y3), (7, .int y2), (0, rf P 148), (1, .int x1), (2, .int x2), (3, .int x3)]) dX12_goes_123 (Nat.le_of_ble_eq_true rfl) rfl ?_
      refine aw_goto K 64 dX12_goes_125 (by decide) ?_
      refine aw_lv [3, 4, 5, 6, 0] rfl ?_
      exact ih _ _ _ _ _
set_option maxRecDepth 100000 in
set_option maxHeartbeats 4000000 in
theorem a_f_M_goes_S_32 (l : Launch) {kR : Nat} {fR : Int32 → Int32 → Int32 → SG → Option (Unit × SG)} (hfR : ∀ (z0 : Int32) (z1 : Int32) (z2 : Int32), CTV l kR yX12_goes cX12_goes 9 (none) (fun P => [rf P 148, .int z0, .int z1, .int z2]) (fun σ => fR z0 z1 z2 σ)) (hkR : 8 ≤ kR) {P : PT} {G : GT} (K : CX P G cX12_goes RX12 (kR + 1) 9) (hg : gl G = l) : ∀ (x1 : Int32) (x2 : Int32) (x3 : Int32) (x4 : Int32) (xs0 : Int32) (σ : SG), AW P G 9 (EV P G cX12_goes) (f_M_goes_S_32 fR x1 x2 x3 x4 xs0 σ) σ 32 [(0, rf P 148), (1, .int x1), (2, .int x2), (3, .int x3), (4, .int x4)] [.int xs0, rf P 148] := by
  intro x1 x2 x3 x4 xs0 σ
  rw [f_M_goes_S_32]
  refine aw_putI K dX12_goes_32 lp_X12_201_12 fd_148_12 (fun σ1 => ?_)
  refine aw_iload K 4 dX12_goes_35 rfl ?_
  refine aw_aload_n K 0 dX12_goes_37 rfl ?_
  refine aw_callVI K dX12_goes_38 vw_X12_204_12 (c_f_M_thereSet l) hg (by omega) ob_148 rfl (Nat.le_of_ble_eq_true rfl) rfl rfl (fun r3 σ2 _ => ?_)
  refine aw_icmp_ne K 51 dX12_goes_41 (by decide) (fun h_1 => ?_) (fun h_1 => ?_)
  · refine aw_iload_n K 1 dX12_goes_51 rfl ?_
    refine aw_iload_n K 2 dX12_goes_52 rfl ?_
    refine aw_icmp_ne K 57 dX12_goes_53 (by decide) (fun h_2 => ?_) (fun h_2 => ?_)
    · refine aw_aload_n K 0 dX12_goes_57 rfl ?_
      refine aw_iconst K dX12_goes_58 ki_m1 ?_
      refine aw_callVI K dX12_goes_59 vw_X12_179_12 (c_f_M_nextChange l _) hg (by omega) ob_148 rfl (Nat.le_of_ble_eq_true rfl) rfl rfl (fun r5 σ4 _ => ?_)
      refine aw_istore K (i := 6) (lv' := [(6, .int r5), (0, rf P 148), (1, .int x1), (2, .int x2), (3, .int x3), (4, .int x4)]) dX12_goes_62 (Nat.le_of_ble_eq_true rfl) rfl ?_
      refine aw_lv [1, 2, 3, 4, 0] rfl ?_
      exact (a_f_M_goes_S_64 l hfR hkR K hg FU) _ _ _ _ _
    · exact aw_vret dX12_goes_56
  · refine aw_aload_n K 0 dX12_goes_44 rfl ?_
    refine aw_iload_n K 1 dX12_goes_45 rfl ?_
    refine aw_iload_n K 3 dX12_goes_46 rfl ?_
    refine aw_callVV K dX12_goes_47 vw_X12_207_12 (c_f_M_keeps l _ _) hg (by omega) ob_148 rfl (Nat.le_of_ble_eq_true rfl) rfl rfl (fun _ σ6 _ => ?_)
    exact aw_vret dX12_goes_50
set_option maxRecDepth 100000 in
set_option maxHeartbeats 4000000 in
theorem c_f_M_goes_S (l : Launch) {kR : Nat} {fR : Int32 → Int32 → Int32 → SG → Option (Unit × SG)} (hfR : ∀ (z0 : Int32) (z1 : Int32) (z2 : Int32), CTV l kR yX12_goes cX12_goes 9 (none) (fun P => [rf P 148, .int z0, .int z1, .int z2]) (fun σ => fR z0 z1 z2 σ)) (hkR : 8 ≤ kR) (x1 : Int32) (x2 : Int32) (x3 : Int32) : CTV l (kR + 1) yX12_goes cX12_goes 9 (none) (fun P => [rf P 148, .int x1, .int x2, .int x3]) (fun σ => f_M_goes_S fR x1 x2 x3 σ) := by
  refine met_V rfl rfl rfl (fun P => Nat.le_of_ble_eq_true rfl) (fun P G K hg σ => ?_)
  change AW P G 9 (EV P G cX12_goes) (f_M_goes_S fR x1 x2 x3 σ) σ 0 [(0, rf P 148), (1, .int x1), (2, .int x2), (3, .int x3)] []
  rw [f_M_goes_S]
  refine aw_aload_n K 0 dX12_goes_0 rfl ?_
  refine aw_callVI K dX12_goes_1 vw_X12_99_12 (c_f_M_wholeSet l) hg (by omega) ob_148 rfl (Nat.le_of_ble_eq_true rfl) rfl rfl (fun r2 σ1 _ => ?_)
  refine aw_istore K (i := 4) (lv' := [(4, .int r2), (0, rf P 148), (1, .int x1), (2, .int x2), (3, .int x3)]) dX12_goes_4 (Nat.le_of_ble_eq_true rfl) rfl ?_
  refine aw_iload K 0 dX12_goes_6 rfl ?_
  refine aw_callSI K dX12_goes_8 vw_X12_103 (c_f_M_ones l _) hg (by omega) rfl (Nat.le_of_ble_eq_true rfl) rfl rfl (fun r4 σ3 _ => ?_)
  refine aw_istore K (i := 5) (lv' := [(5, .int r4), (4, .int r2), (0, rf P 148), (1, .int x1), (2, .int x2), (3, .int x3)]) dX12_goes_11 (Nat.le_of_ble_eq_true rfl) rfl ?_
  refine aw_aload_n K 2 dX12_goes_13 rfl ?_
  refine aw_iload K 0 dX12_goes_14 rfl ?_
  refine aw_aload_n K 2 dX12_goes_16 rfl ?_
  refine aw_getI K dX12_goes_17 lk_X12_201_12 fd_148_12 ?_
  refine aw_icmp_le K 28 dX12_goes_20 (by decide) (fun h_1 => ?_) (fun h_1 => ?_)
  · refine aw_aload_n K 2 dX12_goes_28 rfl ?_
    refine aw_getI K dX12_goes_29 lk_X12_201_12 fd_148_12 ?_
    refine aw_lv [2, 3, 4, 5, 1] rfl ?_
    exact (a_f_M_goes_S_32 l hfR hkR K hg) _ _ _ _ _ _
  · refine aw_iload K 0 dX12_goes_23 rfl ?_
    refine aw_goto K 32 dX12_goes_25 (by decide) ?_
    refine aw_lv [2, 3, 4, 5, 1] rfl ?_
    exact (a_f_M_goes_S_32 l hfR hkR K hg) _ _ _ _ _ _
theorem c_f_M_goes (l : Launch) (d : Nat) : ∀ (z0 : Int32) (z1 : Int32) (z2 : Int32), CTV l (8 + d * 1) yX12_goes cX12_goes 9 (none) (fun P => [rf P 148, .int z0, .int z1, .int z2]) (fun σ => f_M_goes d z0 z1 z2 σ) := by
  induction d with
  | zero =>
    intro z0 z1 z2 P σ r σ' hf
    cases hf
  | succ d ih =>
    intro z0 z1 z2
    have q := c_f_M_goes_S l ih (by omega) z0 z1 z2
    rw [show 8 + d * 1 + 1 = 8 + (d + 1) * 1 by omega] at q
    exact q
set_option maxRecDepth 100000 in
set_option maxHeartbeats 4000000 in
theorem c_f_M_goesAll (l : Launch) (x1 : Int32) : CTV l (21) yX12_goesAll cX12_goesAll 2 (none) (fun P => [rf P 148, .int x1]) (fun σ => f_M_goesAll x1 σ) := by
  refine met_V rfl rfl rfl (fun P => Nat.le_of_ble_eq_true rfl) (fun P G K hg σ => ?_)
  change AW P G 2 (EV P G cX12_goesAll) (f_M_goesAll x1 σ) σ 0 [(0, rf P 148), (1, .int x1)] []
  rw [f_M_goesAll]
  refine aw_aload_n K 0 dX12_goesAll_0 rfl ?_
  refine aw_iconst K dX12_goesAll_1 ki_0 ?_
  refine aw_putI K dX12_goesAll_2 lp_X12_189_12 fd_148_11 (fun σ1 => ?_)
  refine aw_aload_n K 0 dX12_goesAll_5 rfl ?_
  refine aw_iconst K dX12_goesAll_6 ki_0 ?_
  refine aw_putI K dX12_goesAll_7 lp_X12_201_12 fd_148_12 (fun σ2 => ?_)
  refine aw_aload_n K 0 dX12_goesAll_10 rfl ?_
  refine aw_iconst K dX12_goesAll_11 ki_m1 ?_
  refine aw_putI K dX12_goesAll_12 lp_X12_192_12 fd_148_13 (fun σ3 => ?_)
  refine aw_aload_n K 0 dX12_goesAll_15 rfl ?_
  refine aw_iconst K dX12_goesAll_16 ki_m1 ?_
  refine aw_putI K dX12_goesAll_17 lp_X12_195_12 fd_148_14 (fun σ4 => ?_)
  refine aw_aload_n K 0 dX12_goesAll_20 rfl ?_
  refine aw_iconst K dX12_goesAll_21 ki_0 ?_
  refine aw_iload_n K 1 dX12_goesAll_22 rfl ?_
  refine aw_iconst K dX12_goesAll_23 ki_0 ?_
  refine aw_callVV K dX12_goesAll_24 vw_X12_210_12 (c_f_M_goes l DP _ _ _) hg (by decide) ob_148 rfl (Nat.le_of_ble_eq_true rfl) rfl rfl (fun _ σ5 _ => ?_)
  exact aw_vret dX12_goesAll_27
set_option maxRecDepth 100000 in
set_option maxHeartbeats 4000000 in
theorem c_f_M_fewest (l : Launch) : CTI l (22) yX12_fewest cX12_fewest 1 ((some .int)) (fun P => [rf P 148]) (fun σ => f_M_fewest σ) := by
  refine met_I rfl rfl rfl (fun P => Nat.le_of_ble_eq_true rfl) (fun P G K hg σ => ?_)
  change AW P G 1 (EI P G cX12_fewest) (f_M_fewest σ) σ 0 [(0, rf P 148)] []
  rw [f_M_fewest]
  refine aw_aload_n K 0 dX12_fewest_0 rfl ?_
  refine aw_bipush K dX12_fewest_1 kb_6 ?_
  refine aw_callVV K dX12_fewest_3 vw_X12_213_12 (c_f_M_goesAll l _) hg (by decide) ob_148 rfl (Nat.le_of_ble_eq_true rfl) rfl rfl (fun _ σ1 _ => ?_)
  refine aw_aload_n K 0 dX12_fewest_6 rfl ?_
  refine aw_getI K dX12_fewest_7 lk_X12_192_12 fd_148_13 ?_
  refine aw_if_ge K 18 dX12_fewest_10 (by decide) (fun h_1 => ?_) (fun h_1 => ?_)
  · refine aw_aload_n K 0 dX12_fewest_18 rfl ?_
    refine aw_getI K dX12_fewest_19 lk_X12_192_12 fd_148_13 ?_
    exact aw_iret dX12_fewest_22
  · refine aw_bipush K dX12_fewest_13 kb_m3 ?_
    refine aw_goto K 22 dX12_fewest_15 (by decide) ?_
    exact aw_iret dX12_fewest_22
set_option maxRecDepth 100000 in
set_option maxHeartbeats 4000000 in
theorem c_f_M_isPlace (l : Launch) (x0 : Int32) : CTI l (1) yX12_isPlace cX12_isPlace 1 ((some .boolean)) (fun P => [.int x0]) (fun σ => f_M_isPlace x0 σ) := by
  refine met_Z rfl rfl rfl (fun P => Nat.le_of_ble_eq_true rfl) (fun P G K hg σ => ?_)
  change AW P G 1 (EZ P G cX12_isPlace) (f_M_isPlace x0 σ) σ 0 [(0, .int x0)] []
  rw [f_M_isPlace]
  refine aw_iload_n K 0 dX12_isPlace_0 rfl ?_
  refine aw_i2l K dX12_isPlace_1 ?_
  refine aw_lconst K dX12_isPlace_2 kl_0 ?_
  refine aw_ldc2 K (x := (5 : Int64)) dX12_isPlace_3 (in_r8 _ (List.mem_of_getElem? (i := 18) rfl)) ?_
  refine aw_callSI K dX12_isPlace_6 vw_X12_68 (c_f_M_in l _ _ _) hg (by decide) rfl (Nat.le_of_ble_eq_true rfl) rfl rfl (fun r2 σ1 _ => ?_)
  refine aw_gd (fun h_1 => ?_)
  exact aw_zret dX12_isPlace_9 h_1
set_option maxRecDepth 100000 in
set_option maxHeartbeats 4000000 in
theorem c_f_M_ith (l : Launch) (x1 : Int32) : CTI l (22) yX12_ith cX12_ith 2 ((some .int)) (fun P => [rf P 148, .int x1]) (fun σ => f_M_ith x1 σ) := by
  refine met_I rfl rfl rfl (fun P => Nat.le_of_ble_eq_true rfl) (fun P G K hg σ => ?_)
  change AW P G 2 (EI P G cX12_ith) (f_M_ith x1 σ) σ 0 [(0, rf P 148), (1, .int x1)] []
  rw [f_M_ith]
  refine aw_iload_n K 1 dX12_ith_0 rfl ?_
  refine aw_callSI K dX12_ith_1 vw_X12_216 (c_f_M_isPlace l _) hg (by decide) rfl (Nat.le_of_ble_eq_true rfl) rfl rfl (fun r2 σ1 _ => ?_)
  refine aw_if_ne K 9 dX12_ith_4 (by decide) (fun h_1 => ?_) (fun h_1 => ?_)
  · refine aw_aload_n K 0 dX12_ith_9 rfl ?_
    refine aw_bipush K dX12_ith_10 kb_6 ?_
    refine aw_callVV K dX12_ith_12 vw_X12_213_12 (c_f_M_goesAll l _) hg (by decide) ob_148 rfl (Nat.le_of_ble_eq_true rfl) rfl rfl (fun _ σ3 _ => ?_)
    refine aw_iload_n K 1 dX12_ith_15 rfl ?_
    refine aw_aload_n K 0 dX12_ith_16 rfl ?_
    refine aw_getI K dX12_ith_17 lk_X12_192_12 fd_148_13 ?_
    refine aw_icmp_ge K 32 dX12_ith_20 (by decide) (fun h_2 => ?_) (fun h_2 => ?_)
    · refine aw_bipush K dX12_ith_32 kb_m3 ?_
      exact aw_iret dX12_ith_34
    · refine aw_aload_n K 0 dX12_ith_23 rfl ?_
      refine aw_getR K (c' := 154) dX12_ith_24 lk_X12_29_12 fd_148_9 ?_
      refine aw_iload_n K 1 dX12_ith_27 rfl ?_
      refine aw_gd (fun h_3 => ?_)
      refine aw_ald K dX12_ith_28 ad_154 h_3 rfl ?_
      refine aw_goto K 34 dX12_ith_29 (by decide) ?_
      exact aw_iret dX12_ith_34
  · refine aw_iconst K dX12_ith_7 ki_m1 ?_
    exact aw_iret dX12_ith_8
set_option maxRecDepth 100000 in
set_option maxHeartbeats 4000000 in
theorem c_f_M_isLong (l : Launch) (x0 : Int32) : CTI l (1) yX12_isLong cX12_isLong 1 ((some .boolean)) (fun P => [.int x0]) (fun σ => f_M_isLong x0 σ) := by
  refine met_Z rfl rfl rfl (fun P => Nat.le_of_ble_eq_true rfl) (fun P G K hg σ => ?_)
  change AW P G 1 (EZ P G cX12_isLong) (f_M_isLong x0 σ) σ 0 [(0, .int x0)] []
  rw [f_M_isLong]
  refine aw_iload_n K 0 dX12_isLong_0 rfl ?_
  refine aw_i2l K dX12_isLong_1 ?_
  refine aw_lconst K dX12_isLong_2 kl_0 ?_
  refine aw_ldc2 K (x := (6 : Int64)) dX12_isLong_3 (in_r12 _ (List.mem_of_getElem? (i := 7) rfl)) ?_
  refine aw_callSI K dX12_isLong_6 vw_X12_68 (c_f_M_in l _ _ _) hg (by decide) rfl (Nat.le_of_ble_eq_true rfl) rfl rfl (fun r2 σ1 _ => ?_)
  refine aw_gd (fun h_1 => ?_)
  exact aw_zret dX12_isLong_9 h_1
set_option maxRecDepth 100000 in
set_option maxHeartbeats 4000000 in
theorem c_f_M_ways (l : Launch) (x1 : Int32) : CTI l (22) yX12_ways cX12_ways 2 ((some .int)) (fun P => [rf P 148, .int x1]) (fun σ => f_M_ways x1 σ) := by
  refine met_I rfl rfl rfl (fun P => Nat.le_of_ble_eq_true rfl) (fun P G K hg σ => ?_)
  change AW P G 2 (EI P G cX12_ways) (f_M_ways x1 σ) σ 0 [(0, rf P 148), (1, .int x1)] []
  rw [f_M_ways]
  refine aw_iload_n K 1 dX12_ways_0 rfl ?_
  refine aw_callSI K dX12_ways_1 vw_X12_219 (c_f_M_isLong l _) hg (by decide) rfl (Nat.le_of_ble_eq_true rfl) rfl rfl (fun r2 σ1 _ => ?_)
  refine aw_if_ne K 9 dX12_ways_4 (by decide) (fun h_1 => ?_) (fun h_1 => ?_)
  · refine aw_aload_n K 0 dX12_ways_9 rfl ?_
    refine aw_iload_n K 1 dX12_ways_10 rfl ?_
    refine aw_callVV K dX12_ways_11 vw_X12_213_12 (c_f_M_goesAll l _) hg (by decide) ob_148 rfl (Nat.le_of_ble_eq_true rfl) rfl rfl (fun _ σ3 _ => ?_)
    refine aw_aload_n K 0 dX12_ways_14 rfl ?_
    refine aw_getI K dX12_ways_15 lk_X12_189_12 fd_148_11 ?_
    exact aw_iret dX12_ways_18
  · refine aw_iconst K dX12_ways_7 ki_m1 ?_
    exact aw_iret dX12_ways_8
set_option maxRecDepth 100000 in
set_option maxHeartbeats 4000000 in
theorem c_f_M_most (l : Launch) (x1 : Int32) : CTI l (22) yX12_most cX12_most 2 ((some .int)) (fun P => [rf P 148, .int x1]) (fun σ => f_M_most x1 σ) := by
  refine met_I rfl rfl rfl (fun P => Nat.le_of_ble_eq_true rfl) (fun P G K hg σ => ?_)
  change AW P G 2 (EI P G cX12_most) (f_M_most x1 σ) σ 0 [(0, rf P 148), (1, .int x1)] []
  rw [f_M_most]
  refine aw_iload_n K 1 dX12_most_0 rfl ?_
  refine aw_callSI K dX12_most_1 vw_X12_219 (c_f_M_isLong l _) hg (by decide) rfl (Nat.le_of_ble_eq_true rfl) rfl rfl (fun r2 σ1 _ => ?_)
  refine aw_if_ne K 9 dX12_most_4 (by decide) (fun h_1 => ?_) (fun h_1 => ?_)
  · refine aw_aload_n K 0 dX12_most_9 rfl ?_
    refine aw_iload_n K 1 dX12_most_10 rfl ?_
    refine aw_callVV K dX12_most_11 vw_X12_213_12 (c_f_M_goesAll l _) hg (by decide) ob_148 rfl (Nat.le_of_ble_eq_true rfl) rfl rfl (fun _ σ3 _ => ?_)
    refine aw_aload_n K 0 dX12_most_14 rfl ?_
    refine aw_getI K dX12_most_15 lk_X12_201_12 fd_148_12 ?_
    exact aw_iret dX12_most_18
  · refine aw_iconst K dX12_most_7 ki_m1 ?_
    exact aw_iret dX12_most_8
set_option maxRecDepth 100000 in
set_option maxHeartbeats 4000000 in
theorem c_f_M_cheapest (l : Launch) (x1 : Int32) : CTI l (22) yX12_cheapest cX12_cheapest 2 ((some .int)) (fun P => [rf P 148, .int x1]) (fun σ => f_M_cheapest x1 σ) := by
  refine met_I rfl rfl rfl (fun P => Nat.le_of_ble_eq_true rfl) (fun P G K hg σ => ?_)
  change AW P G 2 (EI P G cX12_cheapest) (f_M_cheapest x1 σ) σ 0 [(0, rf P 148), (1, .int x1)] []
  rw [f_M_cheapest]
  refine aw_iload_n K 1 dX12_cheapest_0 rfl ?_
  refine aw_callSI K dX12_cheapest_1 vw_X12_219 (c_f_M_isLong l _) hg (by decide) rfl (Nat.le_of_ble_eq_true rfl) rfl rfl (fun r2 σ1 _ => ?_)
  refine aw_if_ne K 9 dX12_cheapest_4 (by decide) (fun h_1 => ?_) (fun h_1 => ?_)
  · refine aw_aload_n K 0 dX12_cheapest_9 rfl ?_
    refine aw_iload_n K 1 dX12_cheapest_10 rfl ?_
    refine aw_callVV K dX12_cheapest_11 vw_X12_213_12 (c_f_M_goesAll l _) hg (by decide) ob_148 rfl (Nat.le_of_ble_eq_true rfl) rfl rfl (fun _ σ3 _ => ?_)
    refine aw_aload_n K 0 dX12_cheapest_14 rfl ?_
    refine aw_getI K dX12_cheapest_15 lk_X12_195_12 fd_148_14 ?_
    refine aw_if_ge K 26 dX12_cheapest_18 (by decide) (fun h_2 => ?_) (fun h_2 => ?_)
    · refine aw_aload_n K 0 dX12_cheapest_26 rfl ?_
      refine aw_getI K dX12_cheapest_27 lk_X12_195_12 fd_148_14 ?_
      exact aw_iret dX12_cheapest_30
    · refine aw_bipush K dX12_cheapest_21 kb_m3 ?_
      refine aw_goto K 30 dX12_cheapest_23 (by decide) ?_
      exact aw_iret dX12_cheapest_30
  · refine aw_iconst K dX12_cheapest_7 ki_m1 ?_
    exact aw_iret dX12_cheapest_8
set_option maxRecDepth 100000 in
set_option maxHeartbeats 4000000 in
theorem c_f_M_cheaply (l : Launch) (x1 : Int32) (x2 : Int32) : CTI l (22) yX12_cheaply cX12_cheaply 3 ((some .int)) (fun P => [rf P 148, .int x1, .int x2]) (fun σ => f_M_cheaply x1 x2 σ) := by
  refine met_I rfl rfl rfl (fun P => Nat.le_of_ble_eq_true rfl) (fun P G K hg σ => ?_)
  change AW P G 3 (EI P G cX12_cheaply) (f_M_cheaply x1 x2 σ) σ 0 [(0, rf P 148), (1, .int x1), (2, .int x2)] []
  rw [f_M_cheaply]
  refine aw_iload_n K 1 dX12_cheaply_0 rfl ?_
  refine aw_callSI K dX12_cheaply_1 vw_X12_219 (c_f_M_isLong l _) hg (by decide) rfl (Nat.le_of_ble_eq_true rfl) rfl rfl (fun r2 σ1 _ => ?_)
  refine aw_if_eq K 14 dX12_cheaply_4 (by decide) (fun h_1 => ?_) (fun h_1 => ?_)
  · refine aw_iconst K dX12_cheaply_14 ki_m1 ?_
    exact aw_iret dX12_cheaply_15
  · refine aw_iload_n K 2 dX12_cheaply_7 rfl ?_
    refine aw_callSI K dX12_cheaply_8 vw_X12_216 (c_f_M_isPlace l _) hg (by decide) rfl (Nat.le_of_ble_eq_true rfl) rfl rfl (fun r4 σ3 _ => ?_)
    refine aw_if_ne K 16 dX12_cheaply_11 (by decide) (fun h_2 => ?_) (fun h_2 => ?_)
    · refine aw_aload_n K 0 dX12_cheaply_16 rfl ?_
      refine aw_iload_n K 1 dX12_cheaply_17 rfl ?_
      refine aw_callVV K dX12_cheaply_18 vw_X12_213_12 (c_f_M_goesAll l _) hg (by decide) ob_148 rfl (Nat.le_of_ble_eq_true rfl) rfl rfl (fun _ σ5 _ => ?_)
      refine aw_aload_n K 0 dX12_cheaply_21 rfl ?_
      refine aw_getI K dX12_cheaply_22 lk_X12_195_12 fd_148_14 ?_
      refine aw_if_lt K 45 dX12_cheaply_25 (by decide) (fun h_3 => ?_) (fun h_3 => ?_)
      · refine aw_bipush K dX12_cheaply_45 kb_m3 ?_
        exact aw_iret dX12_cheaply_47
      · refine aw_iload_n K 2 dX12_cheaply_28 rfl ?_
        refine aw_aload_n K 0 dX12_cheaply_29 rfl ?_
        refine aw_getI K dX12_cheaply_30 lk_X12_198_12 fd_148_15 ?_
        refine aw_icmp_ge K 45 dX12_cheaply_33 (by decide) (fun h_4 => ?_) (fun h_4 => ?_)
        · refine aw_bipush K dX12_cheaply_45 kb_m3 ?_
          exact aw_iret dX12_cheaply_47
        · refine aw_aload_n K 0 dX12_cheaply_36 rfl ?_
          refine aw_getR K (c' := 155) dX12_cheaply_37 lk_X12_32_12 fd_148_10 ?_
          refine aw_iload_n K 2 dX12_cheaply_40 rfl ?_
          refine aw_gd (fun h_5 => ?_)
          refine aw_ald K dX12_cheaply_41 ad_155 h_5 rfl ?_
          refine aw_goto K 47 dX12_cheaply_42 (by decide) ?_
          exact aw_iret dX12_cheaply_47
    · refine aw_iconst K dX12_cheaply_14 ki_m1 ?_
      exact aw_iret dX12_cheaply_15
set_option maxRecDepth 100000 in
set_option maxHeartbeats 4000000 in
theorem a_f_M_bars_10 (l : Launch) {P : PT} {G : GT} (K : CX P G cX12_bars RX12 (22) 3) (hg : gl G = l) : ∀ (n : Nat) (x1 : Int32) (x2 : Int32) (σ : SG), AW P G 3 (EI P G cX12_bars) (f_M_bars_10 n x1 x2 σ) σ 10 [(0, rf P 148), (1, .int x1), (2, .int x2)] [] := by
  intro n
  induction n with
  | zero =>
    intro x1 x2 σ
    rw [f_M_bars_10]
    exact aw_none
  | succ n ih =>
    intro x1 x2 σ
    rw [f_M_bars_10]
    refine aw_iload_n K 2 dX12_bars_10 rfl ?_
    refine aw_aload_n K 0 dX12_bars_11 rfl ?_
    refine aw_getR K (c' := 149) dX12_bars_12 lk_X12_7_12 fd_148_0 ?_
    refine aw_iconst K dX12_bars_15 ki_0 ?_
    refine aw_ald K dX12_bars_16 ad_149 (by decide) kn_0 ?_
    refine aw_icmp_ge K 71 dX12_bars_17 (by decide) (fun h_1 => ?_) (fun h_1 => ?_)
    · refine aw_iload_n K 1 dX12_bars_71 rfl ?_
      exact aw_iret dX12_bars_72
    · refine aw_aload_n K 0 dX12_bars_20 rfl ?_
      refine aw_getI K dX12_bars_21 lk_X12_189_12 fd_148_11 ?_
      refine aw_if_ne K 71 dX12_bars_24 (by decide) (fun h_2 => ?_) (fun h_2 => ?_)
      · refine aw_iload_n K 1 dX12_bars_71 rfl ?_
        exact aw_iret dX12_bars_72
      · refine aw_aload_n K 0 dX12_bars_27 rfl ?_
        refine aw_iload_n K 2 dX12_bars_28 rfl ?_
        refine aw_putI K dX12_bars_29 lp_X12_19_12 fd_148_4 (fun σ1 => ?_)
        refine aw_aload_n K 0 dX12_bars_32 rfl ?_
        refine aw_bipush K dX12_bars_33 kb_6 ?_
        refine aw_callVV K dX12_bars_35 vw_X12_213_12 (c_f_M_goesAll l _) hg (by decide) ob_148 rfl (Nat.le_of_ble_eq_true rfl) rfl rfl (fun _ σ2 _ => ?_)
        refine aw_iload_n K 1 dX12_bars_38 rfl ?_
        refine aw_aload_n K 0 dX12_bars_39 rfl ?_
        refine aw_getI K dX12_bars_40 lk_X12_189_12 fd_148_11 ?_
        refine aw_if_le K 52 dX12_bars_43 (by decide) (fun h_3 => ?_) (fun h_3 => ?_)
        · refine aw_iconst K dX12_bars_52 ki_0 ?_
          refine aw_ior K dX12_bars_53 ?_
          refine aw_istoreX_n K (i := 1) (lv' := fun y3 => [(1, .int y3), (0, rf P 148), (2, .int x2)]) dX12_bars_54 rfl (Nat.le_of_ble_eq_true rfl) (fun _ => rfl) (fun y3 => ?_)
          refine aw_aload_n K 1 dX12_bars_55 rfl ?_
          refine aw_iconst K dX12_bars_56 ki_m1 ?_
          refine aw_putI K dX12_bars_57 lp_X12_19_12 fd_148_4 (fun σ4 => ?_)
          refine aw_aload_n K 1 dX12_bars_60 rfl ?_
          refine aw_iconst K dX12_bars_61 ki_0 ?_
          refine aw_putI K dX12_bars_62 lp_X12_189_12 fd_148_11 (fun σ5 => ?_)
          refine aw_iinc K (lv' := fun y6 => [(2, .int y6), (1, .int y3), (0, rf P 148)]) 2 dX12_bars_65 rfl ki_1 (Nat.le_of_ble_eq_true rfl) (fun _ => rfl) (fun y6 => ?_)
          refine aw_goto K 10 dX12_bars_68 (by decide) ?_
          refine aw_lv [2, 1, 0] rfl ?_
          exact ih _ _ _
        · refine aw_iconst K dX12_bars_46 ki_1 ?_
          refine aw_iload_n K 2 dX12_bars_47 rfl ?_
          refine aw_ishl K dX12_bars_48 ?_
          refine aw_goto K 53 dX12_bars_49 (by decide) ?_
          refine aw_ior K dX12_bars_53 ?_
          refine aw_istoreX_n K (i := 1) (lv' := fun y7 => [(1, .int y7), (0, rf P 148), (2, .int x2)]) dX12_bars_54 rfl (Nat.le_of_ble_eq_true rfl) (fun _ => rfl) (fun y7 => ?_)
          refine aw_aload_n K 1 dX12_bars_55 rfl ?_
          refine aw_iconst K dX12_bars_56 ki_m1 ?_
          refine aw_putI K dX12_bars_57 lp_X12_19_12 fd_148_4 (fun σ8 => ?_)
          refine aw_aload_n K 1 dX12_bars_60 rfl ?_
          refine aw_iconst K dX12_bars_61 ki_0 ?_
          refine aw_putI K dX12_bars_62 lp_X12_189_12 fd_148_11 (fun σ9 => ?_)
          refine aw_iinc K (lv' := fun y10 => [(2, .int y10), (1, .int y7), (0, rf P 148)]) 2 dX12_bars_65 rfl ki_1 (Nat.le_of_ble_eq_true rfl) (fun _ => rfl) (fun y10 => ?_)
          refine aw_goto K 10 dX12_bars_68 (by decide) ?_
          refine aw_lv [2, 1, 0] rfl ?_
          exact ih _ _ _
set_option maxRecDepth 100000 in
set_option maxHeartbeats 4000000 in
theorem c_f_M_bars (l : Launch) : CTI l (22) yX12_bars cX12_bars 3 ((some .int)) (fun P => [rf P 148]) (fun σ => f_M_bars σ) := by
  refine met_I rfl rfl rfl (fun P => Nat.le_of_ble_eq_true rfl) (fun P G K hg σ => ?_)
  change AW P G 3 (EI P G cX12_bars) (f_M_bars σ) σ 0 [(0, rf P 148)] []
  rw [f_M_bars]
  refine aw_aload_n K 0 dX12_bars_0 rfl ?_
  refine aw_bipush K dX12_bars_1 kb_6 ?_
  refine aw_callVV K dX12_bars_3 vw_X12_213_12 (c_f_M_goesAll l _) hg (by decide) ob_148 rfl (Nat.le_of_ble_eq_true rfl) rfl rfl (fun _ σ1 _ => ?_)
  refine aw_iconst K dX12_bars_6 ki_0 ?_
  refine aw_istore_n K (i := 1) (lv' := [(1, .int (0 : Int32)), (0, rf P 148)]) dX12_bars_7 rfl (Nat.le_of_ble_eq_true rfl) rfl ?_
  refine aw_iconst K dX12_bars_8 ki_0 ?_
  refine aw_istore_n K (i := 2) (lv' := [(2, .int (0 : Int32)), (1, .int (0 : Int32)), (0, rf P 148)]) dX12_bars_9 rfl (Nat.le_of_ble_eq_true rfl) rfl ?_
  refine aw_lv [2, 1, 0] rfl ?_
  exact (a_f_M_bars_10 l K hg FU) _ _ _
set_option maxRecDepth 100000 in
set_option maxHeartbeats 4000000 in
theorem a_f_M_jars_67 (l : Launch) {P : PT} {G : GT} (K : CX P G cX12_jars RX12 (22) 4) (hg : gl G = l) {K16 : Int32 → Int32 → Int32 → SG → Option (Int32 × SG)} (hK16 : ∀ (x1 : Int32) (x2 : Int32) (x3 : Int32) (σ : SG), AW P G 4 (EI P G cX12_jars) (K16 x1 x2 x3 σ) σ 16 [(0, rf P 148), (1, .int x1), (2, .int x2), (3, .int x3)] []) : ∀ (x1 : Int32) (x3 : Int32) (xs0 : Int32) (σ : SG), AW P G 4 (EI P G cX12_jars) (f_M_jars_67 K16 x1 x3 xs0 σ) σ 67 [(0, rf P 148), (1, .int x1), (3, .int x3)] [.int xs0] := by
  intro x1 x3 xs0 σ
  rw [f_M_jars_67]
  refine aw_istore_n K (i := 2) (lv' := [(2, .int xs0), (0, rf P 148), (1, .int x1), (3, .int x3)]) dX12_jars_67 rfl (Nat.le_of_ble_eq_true rfl) rfl ?_
  refine aw_aload_n K 1 dX12_jars_68 rfl ?_
  refine aw_getI K dX12_jars_69 lk_X12_201_12 fd_148_12 ?_
  refine aw_iload_n K 2 dX12_jars_72 rfl ?_
  refine aw_icmp_le K 83 dX12_jars_73 (by decide) (fun h_1 => ?_) (fun h_1 => ?_)
  · refine aw_iload_n K 2 dX12_jars_83 rfl ?_
    refine aw_istore_n K (i := 1) (lv' := [(1, .int x1), (2, .int xs0), (0, rf P 148), (3, .int x3)]) dX12_jars_84 rfl (Nat.le_of_ble_eq_true rfl) rfl ?_
    refine aw_iinc K (lv' := fun y1 => [(3, .int y1), (1, .int x1), (2, .int xs0), (0, rf P 148)]) 3 dX12_jars_85 rfl ki_1 (Nat.le_of_ble_eq_true rfl) (fun _ => rfl) (fun y1 => ?_)
    refine aw_goto K 16 dX12_jars_88 (by decide) ?_
    refine aw_lv [3, 1, 2, 0] rfl ?_
    exact hK16 _ _ _ _
  · refine aw_aload_n K 1 dX12_jars_76 rfl ?_
    refine aw_getI K dX12_jars_77 lk_X12_201_12 fd_148_12 ?_
    refine aw_goto K 84 dX12_jars_80 (by decide) ?_
    refine aw_istoreX_n K (i := 1) (lv' := fun y2 => [(1, .int y2), (2, .int xs0), (0, rf P 148), (3, .int x3)]) dX12_jars_84 rfl (Nat.le_of_ble_eq_true rfl) (fun _ => rfl) (fun y2 => ?_)
    refine aw_iinc K (lv' := fun y3 => [(3, .int y3), (1, .int y2), (2, .int xs0), (0, rf P 148)]) 3 dX12_jars_85 rfl ki_1 (Nat.le_of_ble_eq_true rfl) (fun _ => rfl) (fun y3 => ?_)
    refine aw_goto K 16 dX12_jars_88 (by decide) ?_
    refine aw_lv [3, 1, 2, 0] rfl ?_
    exact hK16 _ _ _ _
set_option maxRecDepth 100000 in
set_option maxHeartbeats 4000000 in
theorem a_f_M_jars_16 (l : Launch) {P : PT} {G : GT} (K : CX P G cX12_jars RX12 (22) 4) (hg : gl G = l) : ∀ (n : Nat) (x1 : Int32) (x2 : Int32) (x3 : Int32) (σ : SG), AW P G 4 (EI P G cX12_jars) (f_M_jars_16 n x1 x2 x3 σ) σ 16 [(0, rf P 148), (1, .int x1), (2, .int x2), (3, .int x3)] [] := by
  intro n
  induction n with
  | zero =>
    intro x1 x2 x3 σ
    rw [f_M_jars_16]
    exact aw_none
  | succ n ih =>
    intro x1 x2 x3 σ
    rw [f_M_jars_16]
    refine aw_iload_n K 3 dX12_jars_16 rfl ?_
    refine aw_bipush K dX12_jars_17 kb_8 ?_
    refine aw_icmp_ge K 91 dX12_jars_19 (by decide) (fun h_1 => ?_) (fun h_1 => ?_)
    · refine aw_iload_n K 2 dX12_jars_91 rfl ?_
      exact aw_iret dX12_jars_92
    · refine aw_aload_n K 0 dX12_jars_22 rfl ?_
      refine aw_getR K (c' := 149) dX12_jars_23 lk_X12_7_12 fd_148_0 ?_
      refine aw_bipush K dX12_jars_26 kb_14 ?_
      refine aw_iload_n K 3 dX12_jars_28 rfl ?_
      refine aw_iadd K dX12_jars_29 ?_
      refine aw_dup2_11 K dX12_jars_30 rfl rfl ?_
      refine aw_gd (fun h_2 => ?_)
      refine aw_ald K dX12_jars_31 ad_149 h_2 rfl ?_
      refine aw_iconst K dX12_jars_32 ki_1 ?_
      refine aw_iadd K dX12_jars_33 ?_
      refine aw_gd (fun h_3 => ?_)
      refine aw_ast K dX12_jars_34 ad_149 h_3 rfl (fun σ1 => ?_)
      refine aw_aload_n K 0 dX12_jars_35 rfl ?_
      refine aw_bipush K dX12_jars_36 kb_6 ?_
      refine aw_callVV K dX12_jars_38 vw_X12_213_12 (c_f_M_goesAll l _) hg (by decide) ob_148 rfl (Nat.le_of_ble_eq_true rfl) rfl rfl (fun _ σ2 _ => ?_)
      refine aw_aload_n K 0 dX12_jars_41 rfl ?_
      refine aw_getR K (c' := 149) dX12_jars_42 lk_X12_7_12 fd_148_0 ?_
      refine aw_bipush K dX12_jars_45 kb_14 ?_
      refine aw_iload_n K 3 dX12_jars_47 rfl ?_
      refine aw_iadd K dX12_jars_48 ?_
      refine aw_dup2_11 K dX12_jars_49 rfl rfl ?_
      refine aw_gd (fun h_4 => ?_)
      refine aw_ald K dX12_jars_50 ad_149 h_4 rfl ?_
      refine aw_iconst K dX12_jars_51 ki_1 ?_
      refine aw_isub K dX12_jars_52 ?_
      refine aw_gd (fun h_5 => ?_)
      refine aw_ast K dX12_jars_53 ad_149 h_5 rfl (fun σ3 => ?_)
      refine aw_aload_n K 0 dX12_jars_54 rfl ?_
      refine aw_getI K dX12_jars_55 lk_X12_201_12 fd_148_12 ?_
      refine aw_iload_n K 1 dX12_jars_58 rfl ?_
      refine aw_icmp_le K 66 dX12_jars_59 (by decide) (fun h_6 => ?_) (fun h_6 => ?_)
      · refine aw_iload_n K 2 dX12_jars_66 rfl ?_
        refine aw_lv [0, 1, 3] rfl ?_
        exact (a_f_M_jars_67 l K hg ih) _ _ _ _
      · refine aw_iload_n K 3 dX12_jars_62 rfl ?_
        refine aw_goto K 67 dX12_jars_63 (by decide) ?_
        refine aw_lv [0, 1, 3] rfl ?_
        exact (a_f_M_jars_67 l K hg ih) _ _ _ _
set_option maxRecDepth 100000 in
set_option maxHeartbeats 4000000 in
theorem c_f_M_jars (l : Launch) : CTI l (22) yX12_jars cX12_jars 4 ((some .int)) (fun P => [rf P 148]) (fun σ => f_M_jars σ) := by
  refine met_I rfl rfl rfl (fun P => Nat.le_of_ble_eq_true rfl) (fun P G K hg σ => ?_)
  change AW P G 4 (EI P G cX12_jars) (f_M_jars σ) σ 0 [(0, rf P 148)] []
  rw [f_M_jars]
  refine aw_aload_n K 0 dX12_jars_0 rfl ?_
  refine aw_bipush K dX12_jars_1 kb_6 ?_
  refine aw_callVV K dX12_jars_3 vw_X12_213_12 (c_f_M_goesAll l _) hg (by decide) ob_148 rfl (Nat.le_of_ble_eq_true rfl) rfl rfl (fun _ σ1 _ => ?_)
  refine aw_aload_n K 0 dX12_jars_6 rfl ?_
  refine aw_getI K dX12_jars_7 lk_X12_201_12 fd_148_12 ?_
  refine aw_istoreX_n K (i := 1) (lv' := fun y2 => [(1, .int y2), (0, rf P 148)]) dX12_jars_10 rfl (Nat.le_of_ble_eq_true rfl) (fun _ => rfl) (fun y2 => ?_)
  refine aw_bipush K dX12_jars_11 kb_m3 ?_
  refine aw_istore_n K (i := 2) (lv' := [(2, .int (-3 : Int32)), (1, .int y2), (0, rf P 148)]) dX12_jars_13 rfl (Nat.le_of_ble_eq_true rfl) rfl ?_
  refine aw_iconst K dX12_jars_14 ki_0 ?_
  refine aw_istore_n K (i := 3) (lv' := [(3, .int (0 : Int32)), (2, .int (-3 : Int32)), (1, .int y2), (0, rf P 148)]) dX12_jars_15 rfl (Nat.le_of_ble_eq_true rfl) rfl ?_
  refine aw_lv [3, 2, 1, 0] rfl ?_
  exact (a_f_M_jars_16 l K hg FU) _ _ _ _
set_option maxRecDepth 100000 in
set_option maxHeartbeats 4000000 in
theorem a_f_M_feeFor_28 (l : Launch) {P : PT} {G : GT} (K : CX P G cX12_feeFor RX12 (22) 5) (hg : gl G = l) : ∀ (n : Nat) (x1 : Int32) (x2 : Int32) (x3 : Int32) (x4 : Int32) (σ : SG), AW P G 5 (EI P G cX12_feeFor) (f_M_feeFor_28 n x1 x2 x3 x4 σ) σ 28 [(0, rf P 148), (1, .int x1), (2, .int x2), (3, .int x3), (4, .int x4)] [] := by
  intro n
  induction n with
  | zero =>
    intro x1 x2 x3 x4 σ
    rw [f_M_feeFor_28]
    exact aw_none
  | succ n ih =>
    intro x1 x2 x3 x4 σ
    rw [f_M_feeFor_28]
    refine aw_iload K 4 dX12_feeFor_28 rfl ?_
    refine aw_if_lt K 71 dX12_feeFor_30 (by decide) (fun h_1 => ?_) (fun h_1 => ?_)
    · refine aw_aload_n K 0 dX12_feeFor_71 rfl ?_
      refine aw_getR K (c' := 149) dX12_feeFor_72 lk_X12_7_12 fd_148_0 ?_
      refine aw_iconst K dX12_feeFor_75 ki_2 ?_
      refine aw_iload_n K 2 dX12_feeFor_76 rfl ?_
      refine aw_ast K dX12_feeFor_77 ad_149 (by decide) kn_2 (fun σ1 => ?_)
      refine aw_iload_n K 3 dX12_feeFor_78 rfl ?_
      exact aw_iret dX12_feeFor_79
    · refine aw_iload_n K 3 dX12_feeFor_33 rfl ?_
      refine aw_if_ge K 71 dX12_feeFor_34 (by decide) (fun h_2 => ?_) (fun h_2 => ?_)
      · refine aw_aload_n K 0 dX12_feeFor_71 rfl ?_
        refine aw_getR K (c' := 149) dX12_feeFor_72 lk_X12_7_12 fd_148_0 ?_
        refine aw_iconst K dX12_feeFor_75 ki_2 ?_
        refine aw_iload_n K 2 dX12_feeFor_76 rfl ?_
        refine aw_ast K dX12_feeFor_77 ad_149 (by decide) kn_2 (fun σ2 => ?_)
        refine aw_iload_n K 3 dX12_feeFor_78 rfl ?_
        exact aw_iret dX12_feeFor_79
      · refine aw_aload_n K 0 dX12_feeFor_37 rfl ?_
        refine aw_getR K (c' := 149) dX12_feeFor_38 lk_X12_7_12 fd_148_0 ?_
        refine aw_iconst K dX12_feeFor_41 ki_2 ?_
        refine aw_iload K 4 dX12_feeFor_42 rfl ?_
        refine aw_ast K dX12_feeFor_44 ad_149 (by decide) kn_2 (fun σ3 => ?_)
        refine aw_aload_n K 0 dX12_feeFor_45 rfl ?_
        refine aw_iload_n K 1 dX12_feeFor_46 rfl ?_
        refine aw_callVV K dX12_feeFor_47 vw_X12_213_12 (c_f_M_goesAll l _) hg (by decide) ob_148 rfl (Nat.le_of_ble_eq_true rfl) rfl rfl (fun _ σ4 _ => ?_)
        refine aw_aload_n K 0 dX12_feeFor_50 rfl ?_
        refine aw_getI K dX12_feeFor_51 lk_X12_189_12 fd_148_11 ?_
        refine aw_if_le K 62 dX12_feeFor_54 (by decide) (fun h_3 => ?_) (fun h_3 => ?_)
        · refine aw_bipush K dX12_feeFor_62 kb_m3 ?_
          refine aw_istore_n K (i := 3) (lv' := [(3, .int (-3 : Int32)), (0, rf P 148), (1, .int x1), (2, .int x2), (4, .int x4)]) dX12_feeFor_64 rfl (Nat.le_of_ble_eq_true rfl) rfl ?_
          refine aw_iinc K (lv' := fun y5 => [(4, .int y5), (3, .int (-3 : Int32)), (0, rf P 148), (1, .int x1), (2, .int x2)]) 4 dX12_feeFor_65 rfl ki_m1 (Nat.le_of_ble_eq_true rfl) (fun _ => rfl) (fun y5 => ?_)
          refine aw_goto K 28 dX12_feeFor_68 (by decide) ?_
          refine aw_lv [2, 3, 4, 1, 0] rfl ?_
          exact ih _ _ _ _ _
        · refine aw_iload K 4 dX12_feeFor_57 rfl ?_
          refine aw_goto K 64 dX12_feeFor_59 (by decide) ?_
          refine aw_istore_n K (i := 3) (lv' := [(3, .int x4), (0, rf P 148), (1, .int x1), (2, .int x2), (4, .int x4)]) dX12_feeFor_64 rfl (Nat.le_of_ble_eq_true rfl) rfl ?_
          refine aw_iinc K (lv' := fun y6 => [(4, .int y6), (3, .int x4), (0, rf P 148), (1, .int x1), (2, .int x2)]) 4 dX12_feeFor_65 rfl ki_m1 (Nat.le_of_ble_eq_true rfl) (fun _ => rfl) (fun y6 => ?_)
          refine aw_goto K 28 dX12_feeFor_68 (by decide) ?_
          refine aw_lv [2, 3, 4, 1, 0] rfl ?_
          exact ih _ _ _ _ _
set_option maxRecDepth 100000 in
set_option maxHeartbeats 4000000 in
theorem c_f_M_feeFor (l : Launch) (x1 : Int32) : CTI l (22) yX12_feeFor cX12_feeFor 5 ((some .int)) (fun P => [rf P 148, .int x1]) (fun σ => f_M_feeFor x1 σ) := by
  refine met_I rfl rfl rfl (fun P => Nat.le_of_ble_eq_true rfl) (fun P G K hg σ => ?_)
  change AW P G 5 (EI P G cX12_feeFor) (f_M_feeFor x1 σ) σ 0 [(0, rf P 148), (1, .int x1)] []
  rw [f_M_feeFor]
  refine aw_iload_n K 1 dX12_feeFor_0 rfl ?_
  refine aw_i2l K dX12_feeFor_1 ?_
  refine aw_lconst K dX12_feeFor_2 kl_1 ?_
  refine aw_ldc2 K (x := (6 : Int64)) dX12_feeFor_3 (in_r12 _ (List.mem_of_getElem? (i := 7) rfl)) ?_
  refine aw_callSI K dX12_feeFor_6 vw_X12_68 (c_f_M_in l _ _ _) hg (by decide) rfl (Nat.le_of_ble_eq_true rfl) rfl rfl (fun r2 σ1 _ => ?_)
  refine aw_if_ne K 14 dX12_feeFor_9 (by decide) (fun h_1 => ?_) (fun h_1 => ?_)
  · refine aw_aload_n K 0 dX12_feeFor_14 rfl ?_
    refine aw_getR K (c' := 149) dX12_feeFor_15 lk_X12_7_12 fd_148_0 ?_
    refine aw_iconst K dX12_feeFor_18 ki_2 ?_
    refine aw_ald K dX12_feeFor_19 ad_149 (by decide) kn_2 ?_
    refine aw_istoreX_n K (i := 2) (lv' := fun y3 => [(2, .int y3), (0, rf P 148), (1, .int x1)]) dX12_feeFor_20 rfl (Nat.le_of_ble_eq_true rfl) (fun _ => rfl) (fun y3 => ?_)
    refine aw_bipush K dX12_feeFor_21 kb_m3 ?_
    refine aw_istore_n K (i := 3) (lv' := [(3, .int (-3 : Int32)), (2, .int y3), (0, rf P 148), (1, .int x1)]) dX12_feeFor_23 rfl (Nat.le_of_ble_eq_true rfl) rfl ?_
    refine aw_bipush K dX12_feeFor_24 kb_50 ?_
    refine aw_istore K (i := 4) (lv' := [(4, .int (50 : Int32)), (3, .int (-3 : Int32)), (2, .int y3), (0, rf P 148), (1, .int x1)]) dX12_feeFor_26 (Nat.le_of_ble_eq_true rfl) rfl ?_
    refine aw_lv [3, 4, 2, 1, 0] rfl ?_
    exact (a_f_M_feeFor_28 l K hg FU) _ _ _ _ _
  · refine aw_iconst K dX12_feeFor_12 ki_m1 ?_
    exact aw_iret dX12_feeFor_13
set_option maxRecDepth 100000 in
set_option maxHeartbeats 4000000 in
theorem c_f_M_isLink (l : Launch) (x1 : Int32) (x2 : Int32) : CTI l (3) yX12_isLink cX12_isLink 3 ((some .boolean)) (fun P => [rf P 148, .int x1, .int x2]) (fun σ => f_M_isLink x1 x2 σ) := by
  refine met_Z rfl rfl rfl (fun P => Nat.le_of_ble_eq_true rfl) (fun P G K hg σ => ?_)
  change AW P G 3 (EZ P G cX12_isLink) (f_M_isLink x1 x2 σ) σ 0 [(0, rf P 148), (1, .int x1), (2, .int x2)] []
  rw [f_M_isLink]
  refine aw_aload_n K 0 dX12_isLink_0 rfl ?_
  refine aw_iload_n K 1 dX12_isLink_1 rfl ?_
  refine aw_iload_n K 2 dX12_isLink_2 rfl ?_
  refine aw_callVI K dX12_isLink_3 vw_X12_134_12 (c_f_M_doMeet l _ _) hg (by decide) ob_148 rfl (Nat.le_of_ble_eq_true rfl) rfl rfl (fun r2 σ1 _ => ?_)
  refine aw_if_eq K 28 dX12_isLink_6 (by decide) (fun h_1 => ?_) (fun h_1 => ?_)
  · refine aw_iconst K dX12_isLink_28 ki_0 ?_
    exact aw_zret dX12_isLink_29 (by decide)
  · refine aw_aload_n K 0 dX12_isLink_9 rfl ?_
    refine aw_iload_n K 1 dX12_isLink_10 rfl ?_
    refine aw_iconst K dX12_isLink_11 ki_2 ?_
    refine aw_callVI K dX12_isLink_12 vw_X12_93_12 (c_f_M_its l _ _) hg (by decide) ob_148 rfl (Nat.le_of_ble_eq_true rfl) rfl rfl (fun r4 σ3 _ => ?_)
    refine aw_aload_n K 0 dX12_isLink_15 rfl ?_
    refine aw_iload_n K 2 dX12_isLink_16 rfl ?_
    refine aw_iconst K dX12_isLink_17 ki_1 ?_
    refine aw_callVI K dX12_isLink_18 vw_X12_93_12 (c_f_M_its l _ _) hg (by decide) ob_148 rfl (Nat.le_of_ble_eq_true rfl) rfl rfl (fun r6 σ5 _ => ?_)
    refine aw_icmp_ne K 28 dX12_isLink_21 (by decide) (fun h_2 => ?_) (fun h_2 => ?_)
    · refine aw_iconst K dX12_isLink_28 ki_0 ?_
      exact aw_zret dX12_isLink_29 (by decide)
    · refine aw_iconst K dX12_isLink_24 ki_1 ?_
      refine aw_goto K 29 dX12_isLink_25 (by decide) ?_
      exact aw_zret dX12_isLink_29 (by decide)
set_option maxRecDepth 100000 in
set_option maxHeartbeats 4000000 in
theorem a_f_M_circles_S_33 (l : Launch) {kR : Nat} {fR : Int32 → Int32 → Int32 → SG → Option (Unit × SG)} (hfR : ∀ (z0 : Int32) (z1 : Int32) (z2 : Int32), CTV l kR yX12_circles cX12_circles 6 (none) (fun P => [rf P 148, .int z0, .int z1, .int z2]) (fun σ => fR z0 z1 z2 σ)) (hkR : 3 ≤ kR) {P : PT} {G : GT} (K : CX P G cX12_circles RX12 (kR + 1) 6) (hg : gl G = l) : ∀ (n : Nat) (x3 : Int32) (x5 : Int32) (σ : SG), AW P G 6 (EV P G cX12_circles) (f_M_circles_S_33 fR n x3 x5 σ) σ 33 [(0, rf P 148), (3, .int x3), (5, .int x5)] [] := by
  intro n
  induction n with
  | zero =>
    intro x3 x5 σ
    rw [f_M_circles_S_33]
    exact aw_none
  | succ n ih =>
    intro x3 x5 σ
    rw [f_M_circles_S_33]
    refine aw_iload K 2 dX12_circles_33 rfl ?_
    refine aw_iload_n K 1 dX12_circles_35 rfl ?_
    refine aw_icmp_ge K 66 dX12_circles_36 (by decide) (fun h_1 => ?_) (fun h_1 => ?_)
    · refine aw_aload_n K 0 dX12_circles_66 rfl ?_
      refine aw_dup K dX12_circles_67 rfl ?_
      refine aw_getI K dX12_circles_68 lk_X12_225_12 fd_148_18 ?_
      refine aw_iconst K dX12_circles_71 ki_1 ?_
      refine aw_iadd K dX12_circles_72 ?_
      refine aw_putI K dX12_circles_73 lp_X12_225_12 fd_148_18 (fun σ1 => ?_)
      exact aw_vret dX12_circles_76
    · refine aw_aload_n K 0 dX12_circles_39 rfl ?_
      refine aw_getI K dX12_circles_40 lk_X12_225_12 fd_148_18 ?_
      refine aw_if_ne K 66 dX12_circles_43 (by decide) (fun h_2 => ?_) (fun h_2 => ?_)
      · refine aw_aload_n K 0 dX12_circles_66 rfl ?_
        refine aw_dup K dX12_circles_67 rfl ?_
        refine aw_getI K dX12_circles_68 lk_X12_225_12 fd_148_18 ?_
        refine aw_iconst K dX12_circles_71 ki_1 ?_
        refine aw_iadd K dX12_circles_72 ?_
        refine aw_putI K dX12_circles_73 lp_X12_225_12 fd_148_18 (fun σ2 => ?_)
        exact aw_vret dX12_circles_76
      · refine aw_aload_n K 0 dX12_circles_46 rfl ?_
        refine aw_getR K (c' := 157) dX12_circles_47 lk_X12_38_12 fd_148_17 ?_
        refine aw_iload K 2 dX12_circles_50 rfl ?_
        refine aw_aload_n K 0 dX12_circles_52 rfl ?_
        refine aw_getR K (c' := 156) dX12_circles_53 lk_X12_35_12 fd_148_16 ?_
        refine aw_iload K 2 dX12_circles_56 rfl ?_
        refine aw_gd (fun h_3 => ?_)
        refine aw_ald K dX12_circles_58 ad_156 h_3 rfl ?_
        refine aw_gd (fun h_4 => ?_)
        refine aw_ast K dX12_circles_59 ad_157 h_4 rfl (fun σ3 => ?_)
        refine aw_iinc K (lv' := fun y4 => [(5, .int y4), (0, rf P 148), (3, .int x3)]) 2 dX12_circles_60 rfl ki_1 (Nat.le_of_ble_eq_true rfl) (fun _ => rfl) (fun y4 => ?_)
        refine aw_goto K 33 dX12_circles_63 (by decide) ?_
        refine aw_lv [1, 2, 0] rfl ?_
        exact ih _ _ _
set_option maxRecDepth 100000 in
set_option maxHeartbeats 4000000 in
theorem a_f_M_circles_S_87 (l : Launch) {kR : Nat} {fR : Int32 → Int32 → Int32 → SG → Option (Unit × SG)} (hfR : ∀ (z0 : Int32) (z1 : Int32) (z2 : Int32), CTV l kR yX12_circles cX12_circles 6 (none) (fun P => [rf P 148, .int z0, .int z1, .int z2]) (fun σ => fR z0 z1 z2 σ)) (hkR : 3 ≤ kR) {P : PT} {G : GT} (K : CX P G cX12_circles RX12 (kR + 1) 6) (hg : gl G = l) : ∀ (n : Nat) (x1 : Int32) (x2 : Int32) (x3 : Int32) (x4 : Int32) (x5 : Int32) (σ : SG), AW P G 6 (EV P G cX12_circles) (f_M_circles_S_87 fR n x1 x2 x3 x4 x5 σ) σ 87 [(0, rf P 148), (1, .int x1), (2, .int x2), (3, .int x3), (4, .int x4), (5, .int x5)] [] := by
  intro n
  induction n with
  | zero =>
    intro x1 x2 x3 x4 x5 σ
    rw [f_M_circles_S_87]
    exact aw_none
  | succ n ih =>
    intro x1 x2 x3 x4 x5 σ
    rw [f_M_circles_S_87]
    refine aw_iload K 5 dX12_circles_87 rfl ?_
    refine aw_aload_n K 0 dX12_circles_89 rfl ?_
    refine aw_getR K (c' := 149) dX12_circles_90 lk_X12_7_12 fd_148_0 ?_
    refine aw_iconst K dX12_circles_93 ki_0 ?_
    refine aw_ald K dX12_circles_94 ad_149 (by decide) kn_0 ?_
    refine aw_icmp_ge K 155 dX12_circles_95 (by decide) (fun h_1 => ?_) (fun h_1 => ?_)
    · exact aw_vret dX12_circles_155
    · refine aw_iload_n K 2 dX12_circles_98 rfl ?_
      refine aw_iload K 5 dX12_circles_99 rfl ?_
      refine aw_ishr K dX12_circles_101 ?_
      refine aw_iconst K dX12_circles_102 ki_1 ?_
      refine aw_iand K dX12_circles_103 ?_
      refine aw_if_ne K 149 dX12_circles_104 (by decide) (fun h_2 => ?_) (fun h_2 => ?_)
      · refine aw_iinc K (lv' := fun y1 => [(5, .int y1), (0, rf P 148), (1, .int x1), (2, .int x2), (3, .int x3), (4, .int x4)]) 5 dX12_circles_149 rfl ki_1 (Nat.le_of_ble_eq_true rfl) (fun _ => rfl) (fun y1 => ?_)
        refine aw_goto K 87 dX12_circles_152 (by decide) ?_
        refine aw_lv [1, 2, 3, 4, 5, 0] rfl ?_
        exact ih _ _ _ _ _ _
      · refine aw_aload_n K 0 dX12_circles_107 rfl ?_
        refine aw_iload K 5 dX12_circles_108 rfl ?_
        refine aw_callVI K dX12_circles_110 vw_X12_96_12 (c_f_M_isWhole l _) hg (by omega) ob_148 rfl (Nat.le_of_ble_eq_true rfl) rfl rfl (fun r3 σ2 _ => ?_)
        refine aw_if_ne K 149 dX12_circles_113 (by decide) (fun h_3 => ?_) (fun h_3 => ?_)
        · refine aw_iinc K (lv' := fun y4 => [(5, .int y4), (0, rf P 148), (1, .int x1), (2, .int x2), (3, .int x3), (4, .int x4)]) 5 dX12_circles_149 rfl ki_1 (Nat.le_of_ble_eq_true rfl) (fun _ => rfl) (fun y4 => ?_)
          refine aw_goto K 87 dX12_circles_152 (by decide) ?_
          refine aw_lv [1, 2, 3, 4, 5, 0] rfl ?_
          exact ih _ _ _ _ _ _
        · refine aw_aload_n K 0 dX12_circles_116 rfl ?_
          refine aw_iload K 4 dX12_circles_117 rfl ?_
          refine aw_iload K 5 dX12_circles_119 rfl ?_
          refine aw_callVI K dX12_circles_121 vw_X12_222_12 (c_f_M_isLink l _ _) hg (by omega) ob_148 rfl (Nat.le_of_ble_eq_true rfl) rfl rfl (fun r6 σ5 _ => ?_)
          refine aw_if_eq K 149 dX12_circles_124 (by decide) (fun h_4 => ?_) (fun h_4 => ?_)
          · refine aw_iinc K (lv' := fun y7 => [(5, .int y7), (0, rf P 148), (1, .int x1), (2, .int x2), (3, .int x3), (4, .int x4)]) 5 dX12_circles_149 rfl ki_1 (Nat.le_of_ble_eq_true rfl) (fun _ => rfl) (fun y7 => ?_)
            refine aw_goto K 87 dX12_circles_152 (by decide) ?_
            refine aw_lv [1, 2, 3, 4, 5, 0] rfl ?_
            exact ih _ _ _ _ _ _
          · refine aw_aload_n K 0 dX12_circles_127 rfl ?_
            refine aw_getR K (c' := 156) dX12_circles_128 lk_X12_35_12 fd_148_16 ?_
            refine aw_iload_n K 1 dX12_circles_131 rfl ?_
            refine aw_iload K 5 dX12_circles_132 rfl ?_
            refine aw_gd (fun h_5 => ?_)
            refine aw_ast K dX12_circles_134 ad_156 h_5 rfl (fun σ8 => ?_)
            refine aw_aload_n K 0 dX12_circles_135 rfl ?_
            refine aw_iload_n K 1 dX12_circles_136 rfl ?_
            refine aw_iconst K dX12_circles_137 ki_1 ?_
            refine aw_iadd K dX12_circles_138 ?_
            refine aw_iload_n K 2 dX12_circles_139 rfl ?_
            refine aw_iconst K dX12_circles_140 ki_1 ?_
            refine aw_iload K 5 dX12_circles_141 rfl ?_
            refine aw_ishl K dX12_circles_143 ?_
            refine aw_ior K dX12_circles_144 ?_
            refine aw_iload_n K 3 dX12_circles_145 rfl ?_
            refine aw_callVV K dX12_circles_146 vw_X12_228_12 (hfR _ _ _) hg (by omega) ob_148 rfl (Nat.le_of_ble_eq_true rfl) rfl rfl (fun _ σ9 _ => ?_)
            refine aw_iinc K (lv' := fun y10 => [(5, .int y10), (0, rf P 148), (1, .int x1), (2, .int x2), (3, .int x3), (4, .int x4)]) 5 dX12_circles_149 rfl ki_1 (Nat.le_of_ble_eq_true rfl) (fun _ => rfl) (fun y10 => ?_)
            refine aw_goto K 87 dX12_circles_152 (by decide) ?_
            refine aw_lv [1, 2, 3, 4, 5, 0] rfl ?_
            exact ih _ _ _ _ _ _
set_option maxRecDepth 100000 in
set_option maxHeartbeats 4000000 in
theorem c_f_M_circles_S (l : Launch) {kR : Nat} {fR : Int32 → Int32 → Int32 → SG → Option (Unit × SG)} (hfR : ∀ (z0 : Int32) (z1 : Int32) (z2 : Int32), CTV l kR yX12_circles cX12_circles 6 (none) (fun P => [rf P 148, .int z0, .int z1, .int z2]) (fun σ => fR z0 z1 z2 σ)) (hkR : 3 ≤ kR) (x1 : Int32) (x2 : Int32) (x3 : Int32) : CTV l (kR + 1) yX12_circles cX12_circles 6 (none) (fun P => [rf P 148, .int x1, .int x2, .int x3]) (fun σ => f_M_circles_S fR x1 x2 x3 σ) := by
  refine met_V rfl rfl rfl (fun P => Nat.le_of_ble_eq_true rfl) (fun P G K hg σ => ?_)
  change AW P G 6 (EV P G cX12_circles) (f_M_circles_S fR x1 x2 x3 σ) σ 0 [(0, rf P 148), (1, .int x1), (2, .int x2), (3, .int x3)] []
  rw [f_M_circles_S]
  refine aw_aload_n K 0 dX12_circles_0 rfl ?_
  refine aw_getR K (c' := 156) dX12_circles_1 lk_X12_35_12 fd_148_16 ?_
  refine aw_iload_n K 1 dX12_circles_4 rfl ?_
  refine aw_iconst K dX12_circles_5 ki_1 ?_
  refine aw_isub K dX12_circles_6 ?_
  refine aw_gd (fun h_1 => ?_)
  refine aw_ald K dX12_circles_7 ad_156 h_1 rfl ?_
  refine aw_istoreX K (i := 4) (lv' := fun y1 => [(4, .int y1), (0, rf P 148), (1, .int x1), (2, .int x2), (3, .int x3)]) dX12_circles_8 (Nat.le_of_ble_eq_true rfl) (fun _ => rfl) (fun y1 => ?_)
  refine aw_iload_n K 2 dX12_circles_10 rfl ?_
  refine aw_iload_n K 4 dX12_circles_11 rfl ?_
  refine aw_icmp_ne K 77 dX12_circles_12 (by decide) (fun h_2 => ?_) (fun h_2 => ?_)
  · refine aw_aload_n K 1 dX12_circles_77 rfl ?_
    refine aw_getR K (c' := 156) dX12_circles_78 lk_X12_35_12 fd_148_16 ?_
    refine aw_iconst K dX12_circles_81 ki_0 ?_
    refine aw_ald K dX12_circles_82 ad_156 (by decide) kn_0 ?_
    refine aw_iconst K dX12_circles_83 ki_1 ?_
    refine aw_iadd K dX12_circles_84 ?_
    refine aw_istoreX K (i := 5) (lv' := fun y2 => [(5, .int y2), (4, .int y1), (0, rf P 148), (1, .int x1), (2, .int x2), (3, .int x3)]) dX12_circles_85 (Nat.le_of_ble_eq_true rfl) (fun _ => rfl) (fun y2 => ?_)
    refine aw_lv [2, 3, 4, 5, 1, 0] rfl ?_
    exact (a_f_M_circles_S_87 l hfR hkR K hg FU) _ _ _ _ _ _
  · refine aw_aload_n K 1 dX12_circles_15 rfl ?_
    refine aw_iload K 0 dX12_circles_16 rfl ?_
    refine aw_aload_n K 1 dX12_circles_18 rfl ?_
    refine aw_getR K (c' := 156) dX12_circles_19 lk_X12_35_12 fd_148_16 ?_
    refine aw_iconst K dX12_circles_22 ki_0 ?_
    refine aw_ald K dX12_circles_23 ad_156 (by decide) kn_0 ?_
    refine aw_callVI K dX12_circles_24 vw_X12_222_12 (c_f_M_isLink l _ _) hg (by omega) ob_148 rfl (Nat.le_of_ble_eq_true rfl) rfl rfl (fun r4 σ3 _ => ?_)
    refine aw_if_eq K 76 dX12_circles_27 (by decide) (fun h_3 => ?_) (fun h_3 => ?_)
    · exact aw_vret dX12_circles_76
    · refine aw_iconst K dX12_circles_30 ki_0 ?_
      refine aw_istore K (i := 5) (lv' := [(5, .int (0 : Int32)), (4, .int y1), (0, rf P 148), (1, .int x1), (2, .int x2), (3, .int x3)]) dX12_circles_31 (Nat.le_of_ble_eq_true rfl) rfl ?_
      refine aw_lv [2, 5, 0] rfl ?_
      exact (a_f_M_circles_S_33 l hfR hkR K hg FU) _ _ _
theorem c_f_M_circles (l : Launch) (d : Nat) : ∀ (z0 : Int32) (z1 : Int32) (z2 : Int32), CTV l (3 + d * 1) yX12_circles cX12_circles 6 (none) (fun P => [rf P 148, .int z0, .int z1, .int z2]) (fun σ => f_M_circles d z0 z1 z2 σ) := by
  induction d with
  | zero =>
    intro z0 z1 z2 P σ r σ' hf
    cases hf
  | succ d ih =>
    intro z0 z1 z2
    have q := c_f_M_circles_S l ih (by omega) z0 z1 z2
    rw [show 3 + d * 1 + 1 = 3 + (d + 1) * 1 by omega] at q
    exact q
