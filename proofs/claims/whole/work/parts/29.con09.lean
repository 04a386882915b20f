set_option maxRecDepth 100000 in
set_option maxHeartbeats 4000000 in
theorem c_f_M_isItem (l : Launch) (x1 : Int32) (x2 : Int64) : CTI l (1) yX12_isItem cX12_isItem 4 ((some .boolean)) (fun P => [rf P 148, .int x1, .long x2]) (fun σ => f_M_isItem x1 x2 σ) := by
  refine met_Z rfl rfl rfl (fun P => Nat.le_of_ble_eq_true rfl) (fun P G K hg σ => ?_)
  change AW P G 4 (EZ P G cX12_isItem) (f_M_isItem x1 x2 σ) σ 0 [(0, rf P 148), (1, .int x1), (2, .long x2)] []
  rw [f_M_isItem]
  refine aw_lload_n K 2 dX12_isItem_0 rfl ?_
  refine aw_lconst K dX12_isItem_1 kl_0 ?_
  refine aw_aload_n K 0 dX12_isItem_2 rfl ?_
  refine aw_getR K (c' := 161) dX12_isItem_3 lk_X12_50_12 fd_148_34 ?_
  refine aw_iload_n K 1 dX12_isItem_6 rfl ?_
  refine aw_gd (fun h_1 => ?_)
  refine aw_ald K dX12_isItem_7 ad_161 h_1 rfl ?_
  refine aw_iconst K dX12_isItem_8 ki_1 ?_
  refine aw_isub K dX12_isItem_9 ?_
  refine aw_i2l K dX12_isItem_10 ?_
  refine aw_callSI K dX12_isItem_11 vw_X12_68 (c_f_M_in l _ _ _) hg (by decide) rfl (Nat.le_of_ble_eq_true rfl) rfl rfl (fun r2 σ1 _ => ?_)
  refine aw_gd (fun h_2 => ?_)
  exact aw_zret dX12_isItem_14 h_2
set_option maxRecDepth 100000 in
set_option maxHeartbeats 4000000 in
theorem c_f_M_isOnTurn (l : Launch) (x1 : Int32) (x2 : Int32) : CTI l (8) yX12_isOnTurn cX12_isOnTurn 4 ((some .boolean)) (fun P => [rf P 148, .int x1, .int x2]) (fun σ => f_M_isOnTurn x1 x2 σ) := by
  refine met_Z rfl rfl rfl (fun P => Nat.le_of_ble_eq_true rfl) (fun P G K hg σ => ?_)
  change AW P G 4 (EZ P G cX12_isOnTurn) (f_M_isOnTurn x1 x2 σ) σ 0 [(0, rf P 148), (1, .int x1), (2, .int x2)] []
  rw [f_M_isOnTurn]
  refine aw_aload_n K 0 dX12_isOnTurn_0 rfl ?_
  refine aw_getR K (c' := 162) dX12_isOnTurn_1 lk_X12_53_12 fd_148_35 ?_
  refine aw_bipush K dX12_isOnTurn_4 kb_40 ?_
  refine aw_iload_n K 1 dX12_isOnTurn_6 rfl ?_
  refine aw_imul K dX12_isOnTurn_7 ?_
  refine aw_iload_n K 2 dX12_isOnTurn_8 rfl ?_
  refine aw_iadd K dX12_isOnTurn_9 ?_
  refine aw_gd (fun h_1 => ?_)
  refine aw_ald K dX12_isOnTurn_10 ad_162 h_1 rfl ?_
  refine aw_istoreX_n K (i := 3) (lv' := fun y1 => [(3, .int y1), (0, rf P 148), (1, .int x1), (2, .int x2)]) dX12_isOnTurn_11 rfl (Nat.le_of_ble_eq_true rfl) (fun _ => rfl) (fun y1 => ?_)
  refine aw_aload_n K 1 dX12_isOnTurn_12 rfl ?_
  refine aw_iload_n K 0 dX12_isOnTurn_13 rfl ?_
  refine aw_callVI K dX12_isOnTurn_14 vw_X12_159_12 (c_f_M_isNumber l _) hg (by decide) ob_148 rfl (Nat.le_of_ble_eq_true rfl) rfl rfl (fun r3 σ2 _ => ?_)
  refine aw_if_eq K 32 dX12_isOnTurn_17 (by decide) (fun h_2 => ?_) (fun h_2 => ?_)
  · refine aw_iconst K dX12_isOnTurn_32 ki_0 ?_
    exact aw_zret dX12_isOnTurn_33 (by decide)
  · refine aw_aload_n K 1 dX12_isOnTurn_20 rfl ?_
    refine aw_iload_n K 0 dX12_isOnTurn_21 rfl ?_
    refine aw_callVI K dX12_isOnTurn_22 vw_X12_162_12 (c_f_M_canBe l _) hg (by decide) ob_148 rfl (Nat.le_of_ble_eq_true rfl) rfl rfl (fun r5 σ4 _ => ?_)
    refine aw_if_eq K 32 dX12_isOnTurn_25 (by decide) (fun h_3 => ?_) (fun h_3 => ?_)
    · refine aw_iconst K dX12_isOnTurn_32 ki_0 ?_
      exact aw_zret dX12_isOnTurn_33 (by decide)
    · refine aw_iconst K dX12_isOnTurn_28 ki_1 ?_
      refine aw_goto K 33 dX12_isOnTurn_29 (by decide) ?_
      exact aw_zret dX12_isOnTurn_33 (by decide)
set_option maxRecDepth 100000 in
set_option maxHeartbeats 4000000 in
theorem c_f_M_isSpan (l : Launch) (x1 : Int32) (x2 : Int32) : CTI l (2) yX12_isSpan cX12_isSpan 3 ((some .boolean)) (fun P => [rf P 148, .int x1, .int x2]) (fun σ => f_M_isSpan x1 x2 σ) := by
  refine met_Z rfl rfl rfl (fun P => Nat.le_of_ble_eq_true rfl) (fun P G K hg σ => ?_)
  change AW P G 3 (EZ P G cX12_isSpan) (f_M_isSpan x1 x2 σ) σ 0 [(0, rf P 148), (1, .int x1), (2, .int x2)] []
  rw [f_M_isSpan]
  refine aw_iload_n K 1 dX12_isSpan_0 rfl ?_
  refine aw_callSI K dX12_isSpan_1 vw_X12_418 (c_f_M_isOne l _) hg (by decide) rfl (Nat.le_of_ble_eq_true rfl) rfl rfl (fun r2 σ1 _ => ?_)
  refine aw_if_eq K 23 dX12_isSpan_4 (by decide) (fun h_1 => ?_) (fun h_1 => ?_)
  · refine aw_iconst K dX12_isSpan_23 ki_0 ?_
    exact aw_zret dX12_isSpan_24 (by decide)
  · refine aw_iload_n K 2 dX12_isSpan_7 rfl ?_
    refine aw_i2l K dX12_isSpan_8 ?_
    refine aw_lconst K dX12_isSpan_9 kl_0 ?_
    refine aw_ldc2 K (x := (20 : Int64)) dX12_isSpan_10 (in_r54 _ (List.mem_of_getElem? (i := 7) rfl)) ?_
    refine aw_callSI K dX12_isSpan_13 vw_X12_68 (c_f_M_in l _ _ _) hg (by decide) rfl (Nat.le_of_ble_eq_true rfl) rfl rfl (fun r4 σ3 _ => ?_)
    refine aw_if_eq K 23 dX12_isSpan_16 (by decide) (fun h_2 => ?_) (fun h_2 => ?_)
    · refine aw_iconst K dX12_isSpan_23 ki_0 ?_
      exact aw_zret dX12_isSpan_24 (by decide)
    · refine aw_iconst K dX12_isSpan_19 ki_1 ?_
      refine aw_goto K 24 dX12_isSpan_20 (by decide) ?_
      exact aw_zret dX12_isSpan_24 (by decide)
set_option maxRecDepth 100000 in
set_option maxHeartbeats 4000000 in
theorem a_f_M_makeAll_33 (l : Launch) {P : PT} {G : GT} (K : CX P G cX12_makeAll RX12 (9) 7) (hg : gl G = l) : ∀ (n : Nat) (x1 : Int32) (x2 : Int32) (x3 : Int32) (x5 : Int32) (x6 : Int32) (σ : SG), AW P G 7 (EI P G cX12_makeAll) (f_M_makeAll_33 n x1 x2 x3 x5 x6 σ) σ 33 [(0, rf P 148), (1, .int x1), (2, .int x2), (3, .int x3), (5, .int x5), (6, .int x6)] [] := by
  intro n
  induction n with
  | zero =>
    intro x1 x2 x3 x5 x6 σ
    rw [f_M_makeAll_33]
    exact aw_none
  | succ n ih =>
    intro x1 x2 x3 x5 x6 σ
    rw [f_M_makeAll_33]
    refine aw_iload K 5 dX12_makeAll_33 rfl ?_
    refine aw_iload_n K 3 dX12_makeAll_35 rfl ?_
    refine aw_icmp_ge K 95 dX12_makeAll_36 (by decide) (fun h_1 => ?_) (fun h_1 => ?_)
    · refine aw_iload K 4 dX12_makeAll_95 rfl ?_
      exact aw_iret dX12_makeAll_97
    · refine aw_aload_n K 0 dX12_makeAll_39 rfl ?_
      refine aw_iload_n K 1 dX12_makeAll_40 rfl ?_
      refine aw_iload_n K 2 dX12_makeAll_41 rfl ?_
      refine aw_i2l K dX12_makeAll_42 ?_
      refine aw_iload K 5 dX12_makeAll_43 rfl ?_
      refine aw_i2l K dX12_makeAll_45 ?_
      refine aw_ladd K dX12_makeAll_46 ?_
      refine aw_callVI K dX12_makeAll_47 vw_X12_434_12 (c_f_M_isItem l _ _) hg (by decide) ob_148 rfl (Nat.le_of_ble_eq_true rfl) rfl rfl (fun r2 σ1 _ => ?_)
      refine aw_if_ne K 56 dX12_makeAll_50 (by decide) (fun h_2 => ?_) (fun h_2 => ?_)
      · refine aw_aload_n K 0 dX12_makeAll_56 rfl ?_
        refine aw_iload_n K 1 dX12_makeAll_57 rfl ?_
        refine aw_iload_n K 2 dX12_makeAll_58 rfl ?_
        refine aw_iload K 5 dX12_makeAll_59 rfl ?_
        refine aw_iadd K dX12_makeAll_61 ?_
        refine aw_callVI K dX12_makeAll_62 vw_X12_438_12 (c_f_M_isOnTurn l _ _) hg (by decide) ob_148 rfl (Nat.le_of_ble_eq_true rfl) rfl rfl (fun r4 σ3 _ => ?_)
        refine aw_if_eq K 89 dX12_makeAll_65 (by decide) (fun h_3 => ?_) (fun h_3 => ?_)
        · refine aw_iinc K (lv' := fun y5 => [(6, .int y5), (0, rf P 148), (1, .int x1), (2, .int x2), (3, .int x3), (5, .int x5)]) 5 dX12_makeAll_89 rfl ki_1 (Nat.le_of_ble_eq_true rfl) (fun _ => rfl) (fun y5 => ?_)
          refine aw_goto K 33 dX12_makeAll_92 (by decide) ?_
          refine aw_lv [1, 2, 3, 4, 5, 0] rfl ?_
          exact ih _ _ _ _ _ _
        · refine aw_aload_n K 0 dX12_makeAll_68 rfl ?_
          refine aw_aload_n K 0 dX12_makeAll_69 rfl ?_
          refine aw_getR K (c' := 162) dX12_makeAll_70 lk_X12_53_12 fd_148_35 ?_
          refine aw_bipush K dX12_makeAll_73 kb_40 ?_
          refine aw_iload_n K 1 dX12_makeAll_75 rfl ?_
          refine aw_imul K dX12_makeAll_76 ?_
          refine aw_iload_n K 2 dX12_makeAll_77 rfl ?_
          refine aw_iadd K dX12_makeAll_78 ?_
          refine aw_iload K 5 dX12_makeAll_79 rfl ?_
          refine aw_iadd K dX12_makeAll_81 ?_
          refine aw_gd (fun h_4 => ?_)
          refine aw_ald K dX12_makeAll_82 ad_162 h_4 rfl ?_
          refine aw_callVV K dX12_makeAll_83 vw_X12_182_12 (c_f_M_makes l _) hg (by decide) ob_148 rfl (Nat.le_of_ble_eq_true rfl) rfl rfl (fun _ σ6 _ => ?_)
          refine aw_iinc K (lv' := fun y7 => [(5, .int y7), (0, rf P 148), (1, .int x1), (2, .int x2), (3, .int x3), (6, .int x6)]) 4 dX12_makeAll_86 rfl ki_1 (Nat.le_of_ble_eq_true rfl) (fun _ => rfl) (fun y7 => ?_)
          refine aw_iinc K (lv' := fun y8 => [(6, .int y8), (5, .int y7), (0, rf P 148), (1, .int x1), (2, .int x2), (3, .int x3)]) 5 dX12_makeAll_89 rfl ki_1 (Nat.le_of_ble_eq_true rfl) (fun _ => rfl) (fun y8 => ?_)
          refine aw_goto K 33 dX12_makeAll_92 (by decide) ?_
          refine aw_lv [2, 3, 4, 5, 1, 0] rfl ?_
          exact ih _ _ _ _ _ _
      · refine aw_bipush K dX12_makeAll_53 kb_m12 ?_
        exact aw_iret dX12_makeAll_55
set_option maxRecDepth 100000 in
set_option maxHeartbeats 4000000 in
theorem c_f_M_makeAll (l : Launch) (x1 : Int32) (x2 : Int32) (x3 : Int32) : CTI l (9) yX12_makeAll cX12_makeAll 7 ((some .int)) (fun P => [rf P 148, .int x1, .int x2, .int x3]) (fun σ => f_M_makeAll x1 x2 x3 σ) := by
  refine met_I rfl rfl rfl (fun P => Nat.le_of_ble_eq_true rfl) (fun P G K hg σ => ?_)
  change AW P G 7 (EI P G cX12_makeAll) (f_M_makeAll x1 x2 x3 σ) σ 0 [(0, rf P 148), (1, .int x1), (2, .int x2), (3, .int x3)] []
  rw [f_M_makeAll]
  refine aw_aload_n K 0 dX12_makeAll_0 rfl ?_
  refine aw_iload_n K 1 dX12_makeAll_1 rfl ?_
  refine aw_iload_n K 3 dX12_makeAll_2 rfl ?_
  refine aw_callVI K dX12_makeAll_3 vw_X12_431_12 (c_f_M_isSpan l _ _) hg (by decide) ob_148 rfl (Nat.le_of_ble_eq_true rfl) rfl rfl (fun r2 σ1 _ => ?_)
  refine aw_if_ne K 11 dX12_makeAll_6 (by decide) (fun h_1 => ?_) (fun h_1 => ?_)
  · refine aw_aload_n K 0 dX12_makeAll_11 rfl ?_
    refine aw_iload_n K 1 dX12_makeAll_12 rfl ?_
    refine aw_iconst K dX12_makeAll_13 ki_0 ?_
    refine aw_callVI K dX12_makeAll_14 vw_X12_426_12 (c_f_M_whyNot l _ _) hg (by decide) ob_148 rfl (Nat.le_of_ble_eq_true rfl) rfl rfl (fun r4 σ3 _ => ?_)
    refine aw_istore K (i := 4) (lv' := [(4, .int r4), (0, rf P 148), (1, .int x1), (2, .int x2), (3, .int x3)]) dX12_makeAll_17 (Nat.le_of_ble_eq_true rfl) rfl ?_
    refine aw_iload K 0 dX12_makeAll_19 rfl ?_
    refine aw_if_eq K 27 dX12_makeAll_21 (by decide) (fun h_2 => ?_) (fun h_2 => ?_)
    · refine aw_iconst K dX12_makeAll_27 ki_0 ?_
      refine aw_istore K (i := 5) (lv' := [(5, .int (0 : Int32)), (4, .int r4), (0, rf P 148), (1, .int x1), (2, .int x2), (3, .int x3)]) dX12_makeAll_28 (Nat.le_of_ble_eq_true rfl) rfl ?_
      refine aw_iconst K dX12_makeAll_30 ki_0 ?_
      refine aw_istore K (i := 6) (lv' := [(6, .int (0 : Int32)), (5, .int (0 : Int32)), (4, .int r4), (0, rf P 148), (1, .int x1), (2, .int x2), (3, .int x3)]) dX12_makeAll_31 (Nat.le_of_ble_eq_true rfl) rfl ?_
      refine aw_lv [3, 4, 5, 6, 1, 0] rfl ?_
      exact (a_f_M_makeAll_33 l K hg FU) _ _ _ _ _ _
    · refine aw_iload K 0 dX12_makeAll_24 rfl ?_
      exact aw_iret dX12_makeAll_26
  · refine aw_iconst K dX12_makeAll_9 ki_m1 ?_
    exact aw_iret dX12_makeAll_10
set_option maxRecDepth 100000 in
set_option maxHeartbeats 4000000 in
theorem a_f_M_wouldCost_89 (l : Launch) {P : PT} {G : GT} (K : CX P G cX12_wouldCost RX12 (9) 8) (hg : gl G = l) {K37 : Int32 → Int32 → Int32 → Int32 → Int32 → Int32 → SG → Option (Int32 × SG)} (hK37 : ∀ (x1 : Int32) (x2 : Int32) (x3 : Int32) (x4 : Int32) (x5 : Int32) (x6 : Int32) (σ : SG), AW P G 8 (EI P G cX12_wouldCost) (K37 x1 x2 x3 x4 x5 x6 σ) σ 37 [(0, rf P 148), (1, .int x1), (2, .int x2), (3, .int x3), (4, .int x4), (5, .int x5), (6, .int x6)] []) : ∀ (x1 : Int32) (x2 : Int32) (x3 : Int32) (x5 : Int32) (x6 : Int32) (xs0 : Int32) (σ : SG), AW P G 8 (EI P G cX12_wouldCost) (f_M_wouldCost_89 K37 x1 x2 x3 x5 x6 xs0 σ) σ 89 [(0, rf P 148), (1, .int x1), (2, .int x2), (3, .int x3), (5, .int x5), (6, .int x6)] [.int xs0] := by
  intro x1 x2 x3 x5 x6 xs0 σ
  rw [f_M_wouldCost_89]
  refine aw_istore K (i := 4) (lv' := [(4, .int xs0), (0, rf P 148), (1, .int x1), (2, .int x2), (3, .int x3), (5, .int x5), (6, .int x6)]) dX12_wouldCost_89 (Nat.le_of_ble_eq_true rfl) rfl ?_
  refine aw_iload K 0 dX12_wouldCost_91 rfl ?_
  refine aw_if_ne K 123 dX12_wouldCost_93 (by decide) (fun h_1 => ?_) (fun h_1 => ?_)
  · refine aw_iinc K (lv' := fun y1 => [(6, .int y1), (4, .int xs0), (0, rf P 148), (1, .int x1), (2, .int x2), (3, .int x3), (5, .int x5)]) 6 dX12_wouldCost_123 rfl ki_1 (Nat.le_of_ble_eq_true rfl) (fun _ => rfl) (fun y1 => ?_)
    refine aw_goto K 37 dX12_wouldCost_126 (by decide) ?_
    refine aw_lv [2, 3, 4, 5, 1, 6, 0] rfl ?_
    exact hK37 _ _ _ _ _ _ _
  · refine aw_aload_n K 1 dX12_wouldCost_96 rfl ?_
    refine aw_aload_n K 1 dX12_wouldCost_97 rfl ?_
    refine aw_getR K (c' := 162) dX12_wouldCost_98 lk_X12_53_12 fd_148_35 ?_
    refine aw_bipush K dX12_wouldCost_101 kb_40 ?_
    refine aw_iload_n K 2 dX12_wouldCost_103 rfl ?_
    refine aw_imul K dX12_wouldCost_104 ?_
    refine aw_iload_n K 3 dX12_wouldCost_105 rfl ?_
    refine aw_iadd K dX12_wouldCost_106 ?_
    refine aw_iload K 6 dX12_wouldCost_107 rfl ?_
    refine aw_iadd K dX12_wouldCost_109 ?_
    refine aw_gd (fun h_2 => ?_)
    refine aw_ald K dX12_wouldCost_110 ad_162 h_2 rfl ?_
    refine aw_callVV K dX12_wouldCost_111 vw_X12_175_12 (c_f_M_does l _) hg (by decide) ob_148 rfl (Nat.le_of_ble_eq_true rfl) rfl rfl (fun _ σ2 _ => ?_)
    refine aw_iload K 5 dX12_wouldCost_114 rfl ?_
    refine aw_aload_n K 1 dX12_wouldCost_116 rfl ?_
    refine aw_getI K dX12_wouldCost_117 lk_X12_168_12 fd_148_7 ?_
    refine aw_iadd K dX12_wouldCost_120 ?_
    refine aw_istoreX K (i := 5) (lv' := fun y3 => [(5, .int y3), (4, .int xs0), (0, rf P 148), (1, .int x1), (2, .int x2), (3, .int x3), (6, .int x6)]) dX12_wouldCost_121 (Nat.le_of_ble_eq_true rfl) (fun _ => rfl) (fun y3 => ?_)
    refine aw_iinc K (lv' := fun y4 => [(6, .int y4), (5, .int y3), (4, .int xs0), (0, rf P 148), (1, .int x1), (2, .int x2), (3, .int x3)]) 6 dX12_wouldCost_123 rfl ki_1 (Nat.le_of_ble_eq_true rfl) (fun _ => rfl) (fun y4 => ?_)
    refine aw_goto K 37 dX12_wouldCost_126 (by decide) ?_
    refine aw_lv [3, 4, 5, 6, 2, 1, 0] rfl ?_
    exact hK37 _ _ _ _ _ _ _
set_option maxRecDepth 100000 in
set_option maxHeartbeats 4000000 in
theorem a_f_M_wouldCost_37 (l : Launch) {P : PT} {G : GT} (K : CX P G cX12_wouldCost RX12 (9) 8) (hg : gl G = l) : ∀ (n : Nat) (x1 : Int32) (x2 : Int32) (x3 : Int32) (x4 : Int32) (x5 : Int32) (x6 : Int32) (σ : SG), AW P G 8 (EI P G cX12_wouldCost) (f_M_wouldCost_37 n x1 x2 x3 x4 x5 x6 σ) σ 37 [(0, rf P 148), (1, .int x1), (2, .int x2), (3, .int x3), (4, .int x4), (5, .int x5), (6, .int x6)] [] := by
  intro n
  induction n with
  | zero =>
    intro x1 x2 x3 x4 x5 x6 σ
    rw [f_M_wouldCost_37]
    exact aw_none
  | succ n ih =>
    intro x1 x2 x3 x4 x5 x6 σ
    rw [f_M_wouldCost_37]
    refine aw_iload K 6 dX12_wouldCost_37 rfl ?_
    refine aw_iload_n K 3 dX12_wouldCost_39 rfl ?_
    refine aw_icmp_ge K 129 dX12_wouldCost_40 (by decide) (fun h_1 => ?_) (fun h_1 => ?_)
    · refine aw_aload_n K 0 dX12_wouldCost_129 rfl ?_
      refine aw_callVV K dX12_wouldCost_130 vw_X12_283_12 (c_f_M_putsBack l) hg (by decide) ob_148 rfl (Nat.le_of_ble_eq_true rfl) rfl rfl (fun _ σ1 _ => ?_)
      refine aw_iload K 4 dX12_wouldCost_133 rfl ?_
      refine aw_if_eq K 143 dX12_wouldCost_135 (by decide) (fun h_2 => ?_) (fun h_2 => ?_)
      · refine aw_iload K 5 dX12_wouldCost_143 rfl ?_
        exact aw_iret dX12_wouldCost_145
      · refine aw_iload K 4 dX12_wouldCost_138 rfl ?_
        refine aw_goto K 145 dX12_wouldCost_140 (by decide) ?_
        exact aw_iret dX12_wouldCost_145
    · refine aw_iload K 4 dX12_wouldCost_43 rfl ?_
      refine aw_if_ne K 129 dX12_wouldCost_45 (by decide) (fun h_3 => ?_) (fun h_3 => ?_)
      · refine aw_aload_n K 0 dX12_wouldCost_129 rfl ?_
        refine aw_callVV K dX12_wouldCost_130 vw_X12_283_12 (c_f_M_putsBack l) hg (by decide) ob_148 rfl (Nat.le_of_ble_eq_true rfl) rfl rfl (fun _ σ2 _ => ?_)
        refine aw_iload K 4 dX12_wouldCost_133 rfl ?_
        refine aw_if_eq K 143 dX12_wouldCost_135 (by decide) (fun h_4 => ?_) (fun h_4 => ?_)
        · refine aw_iload K 5 dX12_wouldCost_143 rfl ?_
          exact aw_iret dX12_wouldCost_145
        · refine aw_iload K 4 dX12_wouldCost_138 rfl ?_
          refine aw_goto K 145 dX12_wouldCost_140 (by decide) ?_
          exact aw_iret dX12_wouldCost_145
      · refine aw_aload_n K 0 dX12_wouldCost_48 rfl ?_
        refine aw_iload_n K 1 dX12_wouldCost_49 rfl ?_
        refine aw_iload_n K 2 dX12_wouldCost_50 rfl ?_
        refine aw_i2l K dX12_wouldCost_51 ?_
        refine aw_iload K 6 dX12_wouldCost_52 rfl ?_
        refine aw_i2l K dX12_wouldCost_54 ?_
        refine aw_ladd K dX12_wouldCost_55 ?_
        refine aw_callVI K dX12_wouldCost_56 vw_X12_434_12 (c_f_M_isItem l _ _) hg (by decide) ob_148 rfl (Nat.le_of_ble_eq_true rfl) rfl rfl (fun r4 σ3 _ => ?_)
        refine aw_istore K (i := 7) (lv' := [(7, .int r4), (0, rf P 148), (1, .int x1), (2, .int x2), (3, .int x3), (4, .int x4), (5, .int x5), (6, .int x6)]) dX12_wouldCost_59 (Nat.le_of_ble_eq_true rfl) rfl ?_
        refine aw_iload K 0 dX12_wouldCost_61 rfl ?_
        refine aw_if_ne K 71 dX12_wouldCost_63 (by decide) (fun h_5 => ?_) (fun h_5 => ?_)
        · refine aw_aload_n K 1 dX12_wouldCost_71 rfl ?_
          refine aw_iload_n K 2 dX12_wouldCost_72 rfl ?_
          refine aw_iload_n K 3 dX12_wouldCost_73 rfl ?_
          refine aw_iload K 7 dX12_wouldCost_74 rfl ?_
          refine aw_iadd K dX12_wouldCost_76 ?_
          refine aw_callVI K dX12_wouldCost_77 vw_X12_438_12 (c_f_M_isOnTurn l _ _) hg (by decide) ob_148 rfl (Nat.le_of_ble_eq_true rfl) rfl rfl (fun r6 σ5 _ => ?_)
          refine aw_if_ne K 88 dX12_wouldCost_80 (by decide) (fun h_6 => ?_) (fun h_6 => ?_)
          · refine aw_iconst K dX12_wouldCost_88 ki_0 ?_
            refine aw_lv [1, 2, 3, 4, 6, 7] rfl ?_
            exact (a_f_M_wouldCost_89 l K hg ih) _ _ _ _ _ _ _
          · refine aw_bipush K dX12_wouldCost_83 kb_m4 ?_
            refine aw_goto K 89 dX12_wouldCost_85 (by decide) ?_
            refine aw_lv [1, 2, 3, 4, 6, 7] rfl ?_
            exact (a_f_M_wouldCost_89 l K hg ih) _ _ _ _ _ _ _
        · refine aw_bipush K dX12_wouldCost_66 kb_m12 ?_
          refine aw_goto K 89 dX12_wouldCost_68 (by decide) ?_
          refine aw_lv [1, 2, 3, 4, 6, 7] rfl ?_
          exact (a_f_M_wouldCost_89 l K hg ih) _ _ _ _ _ _ _
set_option maxRecDepth 100000 in
set_option maxHeartbeats 4000000 in
theorem c_f_M_wouldCost (l : Launch) (x1 : Int32) (x2 : Int32) (x3 : Int32) : CTI l (9) yX12_wouldCost cX12_wouldCost 8 ((some .int)) (fun P => [rf P 148, .int x1, .int x2, .int x3]) (fun σ => f_M_wouldCost x1 x2 x3 σ) := by
  refine met_I rfl rfl rfl (fun P => Nat.le_of_ble_eq_true rfl) (fun P G K hg σ => ?_)
  change AW P G 8 (EI P G cX12_wouldCost) (f_M_wouldCost x1 x2 x3 σ) σ 0 [(0, rf P 148), (1, .int x1), (2, .int x2), (3, .int x3)] []
  rw [f_M_wouldCost]
  refine aw_aload_n K 0 dX12_wouldCost_0 rfl ?_
  refine aw_iload_n K 1 dX12_wouldCost_1 rfl ?_
  refine aw_iload_n K 3 dX12_wouldCost_2 rfl ?_
  refine aw_callVI K dX12_wouldCost_3 vw_X12_431_12 (c_f_M_isSpan l _ _) hg (by decide) ob_148 rfl (Nat.le_of_ble_eq_true rfl) rfl rfl (fun r2 σ1 _ => ?_)
  refine aw_if_ne K 11 dX12_wouldCost_6 (by decide) (fun h_1 => ?_) (fun h_1 => ?_)
  · refine aw_aload_n K 0 dX12_wouldCost_11 rfl ?_
    refine aw_iload_n K 1 dX12_wouldCost_12 rfl ?_
    refine aw_iconst K dX12_wouldCost_13 ki_0 ?_
    refine aw_callVI K dX12_wouldCost_14 vw_X12_426_12 (c_f_M_whyNot l _ _) hg (by decide) ob_148 rfl (Nat.le_of_ble_eq_true rfl) rfl rfl (fun r4 σ3 _ => ?_)
    refine aw_istore K (i := 4) (lv' := [(4, .int r4), (0, rf P 148), (1, .int x1), (2, .int x2), (3, .int x3)]) dX12_wouldCost_17 (Nat.le_of_ble_eq_true rfl) rfl ?_
    refine aw_iload K 0 dX12_wouldCost_19 rfl ?_
    refine aw_if_eq K 27 dX12_wouldCost_21 (by decide) (fun h_2 => ?_) (fun h_2 => ?_)
    · refine aw_aload_n K 1 dX12_wouldCost_27 rfl ?_
      refine aw_callVV K dX12_wouldCost_28 vw_X12_280_12 (c_f_M_puts l) hg (by decide) ob_148 rfl (Nat.le_of_ble_eq_true rfl) rfl rfl (fun _ σ5 _ => ?_)
      refine aw_iconst K dX12_wouldCost_31 ki_0 ?_
      refine aw_istore K (i := 5) (lv' := [(5, .int (0 : Int32)), (4, .int r4), (0, rf P 148), (1, .int x1), (2, .int x2), (3, .int x3)]) dX12_wouldCost_32 (Nat.le_of_ble_eq_true rfl) rfl ?_
      refine aw_iconst K dX12_wouldCost_34 ki_0 ?_
      refine aw_istore K (i := 6) (lv' := [(6, .int (0 : Int32)), (5, .int (0 : Int32)), (4, .int r4), (0, rf P 148), (1, .int x1), (2, .int x2), (3, .int x3)]) dX12_wouldCost_35 (Nat.le_of_ble_eq_true rfl) rfl ?_
      refine aw_lv [3, 4, 5, 6, 2, 1, 0] rfl ?_
      exact (a_f_M_wouldCost_37 l K hg FU) _ _ _ _ _ _ _
    · refine aw_iload K 0 dX12_wouldCost_24 rfl ?_
      exact aw_iret dX12_wouldCost_26
  · refine aw_iconst K dX12_wouldCost_9 ki_m1 ?_
    exact aw_iret dX12_wouldCost_10
set_option maxRecDepth 100000 in
set_option maxHeartbeats 4000000 in
theorem a_f_M_shelf_106 (l : Launch) {P : PT} {G : GT} (K : CX P G cX12_shelf RX12 (2) 4) (hg : gl G = l) : ∀ (x1 : Int32) (x2 : Int32) (x3 : Int32) (xs0 : Int32) (xs1 : Int32) (σ : SG), AW P G 4 (EI P G cX12_shelf) (f_M_shelf_106 x1 x2 x3 xs0 xs1 σ) σ 106 [(0, rf P 148), (1, .int x1), (2, .int x2), (3, .int x3)] [.int xs0, .int xs1, rf P 164] := by
  intro x1 x2 x3 xs0 xs1 σ
  rw [f_M_shelf_106]
  refine aw_gd (fun h_1 => ?_)
  refine aw_ast K dX12_shelf_106 ad_164 h_1 rfl (fun σ1 => ?_)
  refine aw_aload_n K 0 dX12_shelf_107 rfl ?_
  refine aw_getR K (c' := 165) dX12_shelf_108 lk_X12_62_12 fd_148_38 ?_
  refine aw_iload_n K 1 dX12_shelf_111 rfl ?_
  refine aw_iload_n K 2 dX12_shelf_112 rfl ?_
  refine aw_iconst K dX12_shelf_113 ki_1 ?_
  refine aw_icmp_ne K 126 dX12_shelf_114 (by decide) (fun h_2 => ?_) (fun h_2 => ?_)
  · refine aw_iconst K dX12_shelf_126 ki_0 ?_
    refine aw_gd (fun h_3 => ?_)
    refine aw_ast K dX12_shelf_127 ad_165 h_3 rfl (fun σ2 => ?_)
    refine aw_iconst K dX12_shelf_128 ki_1 ?_
    exact aw_iret dX12_shelf_129
  · refine aw_aload_n K 0 dX12_shelf_117 rfl ?_
    refine aw_getR K (c' := 160) dX12_shelf_118 lk_X12_47_12 fd_148_33 ?_
    refine aw_iload_n K 3 dX12_shelf_121 rfl ?_
    refine aw_gd (fun h_4 => ?_)
    refine aw_ald K dX12_shelf_122 ad_160 h_4 rfl ?_
    refine aw_goto K 127 dX12_shelf_123 (by decide) ?_
    refine aw_gd (fun h_5 => ?_)
    refine aw_ast K dX12_shelf_127 ad_165 h_5 rfl (fun σ3 => ?_)
    refine aw_iconst K dX12_shelf_128 ki_1 ?_
    exact aw_iret dX12_shelf_129
set_option maxRecDepth 100000 in
set_option maxHeartbeats 4000000 in
theorem a_f_M_shelf_77 (l : Launch) {P : PT} {G : GT} (K : CX P G cX12_shelf RX12 (2) 4) (hg : gl G = l) : ∀ (x1 : Int32) (x2 : Int32) (x3 : Int32) (xs0 : Int32) (xs1 : Int32) (σ : SG), AW P G 4 (EI P G cX12_shelf) (f_M_shelf_77 x1 x2 x3 xs0 xs1 σ) σ 77 [(0, rf P 148), (1, .int x1), (2, .int x2), (3, .int x3)] [.int xs0, .int xs1, rf P 163] := by
  intro x1 x2 x3 xs0 xs1 σ
  rw [f_M_shelf_77]
  refine aw_gd (fun h_1 => ?_)
  refine aw_ast K dX12_shelf_77 ad_163 h_1 rfl (fun σ1 => ?_)
  refine aw_aload_n K 0 dX12_shelf_78 rfl ?_
  refine aw_getR K (c' := 164) dX12_shelf_79 lk_X12_59_12 fd_148_37 ?_
  refine aw_iload_n K 1 dX12_shelf_82 rfl ?_
  refine aw_iload_n K 2 dX12_shelf_83 rfl ?_
  refine aw_if_ne K 91 dX12_shelf_84 (by decide) (fun h_2 => ?_) (fun h_2 => ?_)
  · refine aw_iload_n K 2 dX12_shelf_91 rfl ?_
    refine aw_iconst K dX12_shelf_92 ki_1 ?_
    refine aw_icmp_ne K 105 dX12_shelf_93 (by decide) (fun h_3 => ?_) (fun h_3 => ?_)
    · refine aw_iconst K dX12_shelf_105 ki_0 ?_
      refine aw_lv [0, 1, 2, 3] rfl ?_
      exact (a_f_M_shelf_106 l K hg) _ _ _ _ _ _
    · refine aw_aload_n K 0 dX12_shelf_96 rfl ?_
      refine aw_getR K (c' := 161) dX12_shelf_97 lk_X12_50_12 fd_148_34 ?_
      refine aw_iload_n K 3 dX12_shelf_100 rfl ?_
      refine aw_gd (fun h_4 => ?_)
      refine aw_ald K dX12_shelf_101 ad_161 h_4 rfl ?_
      refine aw_goto K 106 dX12_shelf_102 (by decide) ?_
      refine aw_lv [0, 1, 2, 3] rfl ?_
      exact (a_f_M_shelf_106 l K hg) _ _ _ _ _ _
  · refine aw_iload_n K 3 dX12_shelf_87 rfl ?_
    refine aw_goto K 106 dX12_shelf_88 (by decide) ?_
    refine aw_lv [0, 1, 2, 3] rfl ?_
    exact (a_f_M_shelf_106 l K hg) _ _ _ _ _ _
set_option maxRecDepth 100000 in
set_option maxHeartbeats 4000000 in
theorem a_f_M_shelf_45 (l : Launch) {P : PT} {G : GT} (K : CX P G cX12_shelf RX12 (2) 4) (hg : gl G = l) : ∀ (x1 : Int32) (x2 : Int32) (x3 : Int32) (σ : SG), AW P G 4 (EI P G cX12_shelf) (f_M_shelf_45 x1 x2 x3 σ) σ 45 [(0, rf P 148), (1, .int x1), (2, .int x2), (3, .int x3)] [] := by
  intro x1 x2 x3 σ
  rw [f_M_shelf_45]
  refine aw_aload_n K 0 dX12_shelf_45 rfl ?_
  refine aw_getR K (c' := 163) dX12_shelf_46 lk_X12_56_12 fd_148_36 ?_
  refine aw_iload_n K 1 dX12_shelf_49 rfl ?_
  refine aw_iload_n K 2 dX12_shelf_50 rfl ?_
  refine aw_if_ne K 58 dX12_shelf_51 (by decide) (fun h_1 => ?_) (fun h_1 => ?_)
  · refine aw_iload_n K 2 dX12_shelf_58 rfl ?_
    refine aw_iconst K dX12_shelf_59 ki_1 ?_
    refine aw_icmp_ne K 76 dX12_shelf_60 (by decide) (fun h_2 => ?_) (fun h_2 => ?_)
    · refine aw_iconst K dX12_shelf_76 ki_0 ?_
      refine aw_lv [0, 1, 2, 3] rfl ?_
      exact (a_f_M_shelf_77 l K hg) _ _ _ _ _ _
    · refine aw_aload_n K 0 dX12_shelf_63 rfl ?_
      refine aw_getR K (c' := 160) dX12_shelf_64 lk_X12_47_12 fd_148_33 ?_
      refine aw_iload_n K 3 dX12_shelf_67 rfl ?_
      refine aw_gd (fun h_3 => ?_)
      refine aw_ald K dX12_shelf_68 ad_160 h_3 rfl ?_
      refine aw_if_lt K 76 dX12_shelf_69 (by decide) (fun h_4 => ?_) (fun h_4 => ?_)
      · refine aw_iconst K dX12_shelf_76 ki_0 ?_
        refine aw_lv [0, 1, 2, 3] rfl ?_
        exact (a_f_M_shelf_77 l K hg) _ _ _ _ _ _
      · refine aw_iconst K dX12_shelf_72 ki_2 ?_
        refine aw_goto K 77 dX12_shelf_73 (by decide) ?_
        refine aw_lv [0, 1, 2, 3] rfl ?_
        exact (a_f_M_shelf_77 l K hg) _ _ _ _ _ _
  · refine aw_iconst K dX12_shelf_54 ki_1 ?_
    refine aw_goto K 77 dX12_shelf_55 (by decide) ?_
    refine aw_lv [0, 1, 2, 3] rfl ?_
    exact (a_f_M_shelf_77 l K hg) _ _ _ _ _ _
set_option maxRecDepth 100000 in
set_option maxHeartbeats 4000000 in
theorem c_f_M_shelf (l : Launch) (x1 : Int32) (x2 : Int32) (x3 : Int32) : CTI l (2) yX12_shelf cX12_shelf 4 ((some .int)) (fun P => [rf P 148, .int x1, .int x2, .int x3]) (fun σ => f_M_shelf x1 x2 x3 σ) := by
  refine met_I rfl rfl rfl (fun P => Nat.le_of_ble_eq_true rfl) (fun P G K hg σ => ?_)
  change AW P G 4 (EI P G cX12_shelf) (f_M_shelf x1 x2 x3 σ) σ 0 [(0, rf P 148), (1, .int x1), (2, .int x2), (3, .int x3)] []
  rw [f_M_shelf]
  refine aw_iload_n K 1 dX12_shelf_0 rfl ?_
  refine aw_callSI K dX12_shelf_1 vw_X12_418 (c_f_M_isOne l _) hg (by decide) rfl (Nat.le_of_ble_eq_true rfl) rfl rfl (fun r2 σ1 _ => ?_)
  refine aw_if_eq K 43 dX12_shelf_4 (by decide) (fun h_1 => ?_) (fun h_1 => ?_)
  · refine aw_iconst K dX12_shelf_43 ki_m1 ?_
    exact aw_iret dX12_shelf_44
  · refine aw_iload_n K 2 dX12_shelf_7 rfl ?_
    refine aw_i2l K dX12_shelf_8 ?_
    refine aw_lconst K dX12_shelf_9 kl_0 ?_
    refine aw_ldc2 K (x := (2 : Int64)) dX12_shelf_10 (in_r41 _ (List.mem_of_getElem? (i := 6) rfl)) ?_
    refine aw_callSI K dX12_shelf_13 vw_X12_68 (c_f_M_in l _ _ _) hg (by decide) rfl (Nat.le_of_ble_eq_true rfl) rfl rfl (fun r4 σ3 _ => ?_)
    refine aw_if_eq K 43 dX12_shelf_16 (by decide) (fun h_2 => ?_) (fun h_2 => ?_)
    · refine aw_iconst K dX12_shelf_43 ki_m1 ?_
      exact aw_iret dX12_shelf_44
    · refine aw_iload_n K 2 dX12_shelf_19 rfl ?_
      refine aw_if_ne K 31 dX12_shelf_20 (by decide) (fun h_3 => ?_) (fun h_3 => ?_)
      · refine aw_iload_n K 2 dX12_shelf_31 rfl ?_
        refine aw_iconst K dX12_shelf_32 ki_1 ?_
        refine aw_icmp_ne K 45 dX12_shelf_33 (by decide) (fun h_4 => ?_) (fun h_4 => ?_)
        · refine aw_lv [0, 1, 2, 3] rfl ?_
          exact (a_f_M_shelf_45 l K hg) _ _ _ _
        · refine aw_iload_n K 3 dX12_shelf_36 rfl ?_
          refine aw_callSI K dX12_shelf_37 vw_X12_418 (c_f_M_isOne l _) hg (by decide) rfl (Nat.le_of_ble_eq_true rfl) rfl rfl (fun r6 σ5 _ => ?_)
          refine aw_if_ne K 45 dX12_shelf_40 (by decide) (fun h_5 => ?_) (fun h_5 => ?_)
          · refine aw_lv [0, 1, 2, 3] rfl ?_
            exact (a_f_M_shelf_45 l K hg) _ _ _ _
          · refine aw_iconst K dX12_shelf_43 ki_m1 ?_
            exact aw_iret dX12_shelf_44
      · refine aw_aload_n K 0 dX12_shelf_23 rfl ?_
        refine aw_iload_n K 3 dX12_shelf_24 rfl ?_
        refine aw_callVI K dX12_shelf_25 vw_X12_123_12 (c_f_M_isPerson l _) hg (by decide) ob_148 rfl (Nat.le_of_ble_eq_true rfl) rfl rfl (fun r8 σ7 _ => ?_)
        refine aw_if_eq K 43 dX12_shelf_28 (by decide) (fun h_6 => ?_) (fun h_6 => ?_)
        · refine aw_iconst K dX12_shelf_43 ki_m1 ?_
          exact aw_iret dX12_shelf_44
        · refine aw_iload_n K 2 dX12_shelf_31 rfl ?_
          refine aw_iconst K dX12_shelf_32 ki_1 ?_
          refine aw_icmp_ne K 45 dX12_shelf_33 (by decide) (fun h_7 => ?_) (fun h_7 => ?_)
          · refine aw_lv [0, 1, 2, 3] rfl ?_
            exact (a_f_M_shelf_45 l K hg) _ _ _ _
          · refine aw_iload_n K 3 dX12_shelf_36 rfl ?_
            refine aw_callSI K dX12_shelf_37 vw_X12_418 (c_f_M_isOne l _) hg (by decide) rfl (Nat.le_of_ble_eq_true rfl) rfl rfl (fun r10 σ9 _ => ?_)
            refine aw_if_ne K 45 dX12_shelf_40 (by decide) (fun h_8 => ?_) (fun h_8 => ?_)
            · refine aw_lv [0, 1, 2, 3] rfl ?_
              exact (a_f_M_shelf_45 l K hg) _ _ _ _
            · refine aw_iconst K dX12_shelf_43 ki_m1 ?_
              exact aw_iret dX12_shelf_44
set_option maxRecDepth 100000 in
set_option maxHeartbeats 4000000 in
theorem c_f_M_onShelf (l : Launch) (x1 : Int32) : CTI l (2) yX12_onShelf cX12_onShelf 2 ((some .int)) (fun P => [rf P 148, .int x1]) (fun σ => f_M_onShelf x1 σ) := by
  refine met_I rfl rfl rfl (fun P => Nat.le_of_ble_eq_true rfl) (fun P G K hg σ => ?_)
  change AW P G 2 (EI P G cX12_onShelf) (f_M_onShelf x1 σ) σ 0 [(0, rf P 148), (1, .int x1)] []
  rw [f_M_onShelf]
  refine aw_iload_n K 1 dX12_onShelf_0 rfl ?_
  refine aw_callSI K dX12_onShelf_1 vw_X12_418 (c_f_M_isOne l _) hg (by decide) rfl (Nat.le_of_ble_eq_true rfl) rfl rfl (fun r2 σ1 _ => ?_)
  refine aw_if_eq K 39 dX12_onShelf_4 (by decide) (fun h_1 => ?_) (fun h_1 => ?_)
  · refine aw_iconst K dX12_onShelf_39 ki_m1 ?_
    exact aw_iret dX12_onShelf_40
  · refine aw_aload_n K 0 dX12_onShelf_7 rfl ?_
    refine aw_getR K (c' := 163) dX12_onShelf_8 lk_X12_56_12 fd_148_36 ?_
    refine aw_iload_n K 1 dX12_onShelf_11 rfl ?_
    refine aw_gd (fun h_2 => ?_)
    refine aw_ald K dX12_onShelf_12 ad_163 h_2 rfl ?_
    refine aw_iconst K dX12_onShelf_13 ki_1 ?_
    refine aw_icmp_ne K 39 dX12_onShelf_14 (by decide) (fun h_3 => ?_) (fun h_3 => ?_)
    · refine aw_iconst K dX12_onShelf_39 ki_m1 ?_
      exact aw_iret dX12_onShelf_40
    · refine aw_aload_n K 0 dX12_onShelf_17 rfl ?_
      refine aw_aload_n K 0 dX12_onShelf_18 rfl ?_
      refine aw_getR K (c' := 164) dX12_onShelf_19 lk_X12_59_12 fd_148_37 ?_
      refine aw_iload_n K 1 dX12_onShelf_22 rfl ?_
      refine aw_gd (fun h_4 => ?_)
      refine aw_ald K dX12_onShelf_23 ad_164 h_4 rfl ?_
      refine aw_callVI K dX12_onShelf_24 vw_X12_123_12 (c_f_M_isPerson l _) hg (by decide) ob_148 rfl (Nat.le_of_ble_eq_true rfl) rfl rfl (fun r4 σ3 _ => ?_)
      refine aw_if_eq K 39 dX12_onShelf_27 (by decide) (fun h_5 => ?_) (fun h_5 => ?_)
      · refine aw_iconst K dX12_onShelf_39 ki_m1 ?_
        exact aw_iret dX12_onShelf_40
      · refine aw_aload_n K 0 dX12_onShelf_30 rfl ?_
        refine aw_getR K (c' := 164) dX12_onShelf_31 lk_X12_59_12 fd_148_37 ?_
        refine aw_iload_n K 1 dX12_onShelf_34 rfl ?_
        refine aw_gd (fun h_6 => ?_)
        refine aw_ald K dX12_onShelf_35 ad_164 h_6 rfl ?_
        refine aw_goto K 40 dX12_onShelf_36 (by decide) ?_
        exact aw_iret dX12_onShelf_40
set_option maxRecDepth 100000 in
set_option maxHeartbeats 4000000 in
theorem a_f_M_taken_58 (l : Launch) {P : PT} {G : GT} (K : CX P G cX12_taken RX12 (3) 5) (hg : gl G = l) : ∀ (x1 : Int32) (x2 : Int32) (x3 : Int32) (σ : SG), AW P G 5 (EI P G cX12_taken) (f_M_taken_58 x1 x2 x3 σ) σ 58 [(0, rf P 148), (1, .int x1), (2, .int x2), (3, .int x3)] [] := by
  intro x1 x2 x3 σ
  rw [f_M_taken_58]
  refine aw_iload_n K 3 dX12_taken_58 rfl ?_
  refine aw_if_lt K 89 dX12_taken_59 (by decide) (fun h_1 => ?_) (fun h_1 => ?_)
  · refine aw_iload_n K 2 dX12_taken_89 rfl ?_
    refine aw_bipush K dX12_taken_90 kb_10 ?_
    refine aw_isub K dX12_taken_92 ?_
    refine aw_aload_n K 0 dX12_taken_93 rfl ?_
    refine aw_getR K (c' := 165) dX12_taken_94 lk_X12_62_12 fd_148_38 ?_
    refine aw_iload_n K 1 dX12_taken_97 rfl ?_
    refine aw_gd (fun h_2 => ?_)
    refine aw_ald K dX12_taken_98 ad_165 h_2 rfl ?_
    refine aw_icmp_ne K 106 dX12_taken_99 (by decide) (fun h_3 => ?_) (fun h_3 => ?_)
    · refine aw_iconst K dX12_taken_106 ki_0 ?_
      refine aw_istore K (i := 4) (lv' := [(4, .int (0 : Int32)), (0, rf P 148), (1, .int x1), (2, .int x2), (3, .int x3)]) dX12_taken_107 (Nat.le_of_ble_eq_true rfl) rfl ?_
      refine aw_iload K 0 dX12_taken_109 rfl ?_
      refine aw_if_eq K 123 dX12_taken_111 (by decide) (fun h_4 => ?_) (fun h_4 => ?_)
      · refine aw_bipush K dX12_taken_123 kb_m13 ?_
        exact aw_iret dX12_taken_125
      · refine aw_aload_n K 1 dX12_taken_114 rfl ?_
        refine aw_getR K (c' := 164) dX12_taken_115 lk_X12_59_12 fd_148_37 ?_
        refine aw_iload_n K 2 dX12_taken_118 rfl ?_
        refine aw_gd (fun h_5 => ?_)
        refine aw_ald K dX12_taken_119 ad_164 h_5 rfl ?_
        refine aw_goto K 125 dX12_taken_120 (by decide) ?_
        exact aw_iret dX12_taken_125
    · refine aw_iconst K dX12_taken_102 ki_1 ?_
      refine aw_goto K 107 dX12_taken_103 (by decide) ?_
      refine aw_istore K (i := 4) (lv' := [(4, .int (1 : Int32)), (0, rf P 148), (1, .int x1), (2, .int x2), (3, .int x3)]) dX12_taken_107 (Nat.le_of_ble_eq_true rfl) rfl ?_
      refine aw_iload K 0 dX12_taken_109 rfl ?_
      refine aw_if_eq K 123 dX12_taken_111 (by decide) (fun h_6 => ?_) (fun h_6 => ?_)
      · refine aw_bipush K dX12_taken_123 kb_m13 ?_
        exact aw_iret dX12_taken_125
      · refine aw_aload_n K 1 dX12_taken_114 rfl ?_
        refine aw_getR K (c' := 164) dX12_taken_115 lk_X12_59_12 fd_148_37 ?_
        refine aw_iload_n K 2 dX12_taken_118 rfl ?_
        refine aw_gd (fun h_7 => ?_)
        refine aw_ald K dX12_taken_119 ad_164 h_7 rfl ?_
        refine aw_goto K 125 dX12_taken_120 (by decide) ?_
        exact aw_iret dX12_taken_125
  · refine aw_iload_n K 2 dX12_taken_62 rfl ?_
    refine aw_bipush K dX12_taken_63 kb_6 ?_
    refine aw_icmp_ge K 85 dX12_taken_65 (by decide) (fun h_8 => ?_) (fun h_8 => ?_)
    · refine aw_iconst K dX12_taken_85 ki_0 ?_
      refine aw_goto K 107 dX12_taken_86 (by decide) ?_
      refine aw_istore K (i := 4) (lv' := [(4, .int (0 : Int32)), (0, rf P 148), (1, .int x1), (2, .int x2), (3, .int x3)]) dX12_taken_107 (Nat.le_of_ble_eq_true rfl) rfl ?_
      refine aw_iload K 0 dX12_taken_109 rfl ?_
      refine aw_if_eq K 123 dX12_taken_111 (by decide) (fun h_9 => ?_) (fun h_9 => ?_)
      · refine aw_bipush K dX12_taken_123 kb_m13 ?_
        exact aw_iret dX12_taken_125
      · refine aw_aload_n K 1 dX12_taken_114 rfl ?_
        refine aw_getR K (c' := 164) dX12_taken_115 lk_X12_59_12 fd_148_37 ?_
        refine aw_iload_n K 2 dX12_taken_118 rfl ?_
        refine aw_gd (fun h_10 => ?_)
        refine aw_ald K dX12_taken_119 ad_164 h_10 rfl ?_
        refine aw_goto K 125 dX12_taken_120 (by decide) ?_
        exact aw_iret dX12_taken_125
    · refine aw_aload_n K 0 dX12_taken_68 rfl ?_
      refine aw_iload_n K 3 dX12_taken_69 rfl ?_
      refine aw_iconst K dX12_taken_70 ki_0 ?_
      refine aw_callVI K dX12_taken_71 vw_X12_93_12 (c_f_M_its l _ _) hg (by decide) ob_148 rfl (Nat.le_of_ble_eq_true rfl) rfl rfl (fun r2 σ1 _ => ?_)
      refine aw_iload_n K 2 dX12_taken_74 rfl ?_
      refine aw_callSI K dX12_taken_75 vw_X12_114 (c_f_M_isUnder l _ _) hg (by decide) rfl (Nat.le_of_ble_eq_true rfl) rfl rfl (fun r4 σ3 _ => ?_)
      refine aw_if_eq K 85 dX12_taken_78 (by decide) (fun h_11 => ?_) (fun h_11 => ?_)
      · refine aw_iconst K dX12_taken_85 ki_0 ?_
        refine aw_goto K 107 dX12_taken_86 (by decide) ?_
        refine aw_istore K (i := 4) (lv' := [(4, .int (0 : Int32)), (0, rf P 148), (1, .int x1), (2, .int x2), (3, .int x3)]) dX12_taken_107 (Nat.le_of_ble_eq_true rfl) rfl ?_
        refine aw_iload K 0 dX12_taken_109 rfl ?_
        refine aw_if_eq K 123 dX12_taken_111 (by decide) (fun h_12 => ?_) (fun h_12 => ?_)
        · refine aw_bipush K dX12_taken_123 kb_m13 ?_
          exact aw_iret dX12_taken_125
        · refine aw_aload_n K 1 dX12_taken_114 rfl ?_
          refine aw_getR K (c' := 164) dX12_taken_115 lk_X12_59_12 fd_148_37 ?_
          refine aw_iload_n K 2 dX12_taken_118 rfl ?_
          refine aw_gd (fun h_13 => ?_)
          refine aw_ald K dX12_taken_119 ad_164 h_13 rfl ?_
          refine aw_goto K 125 dX12_taken_120 (by decide) ?_
          exact aw_iret dX12_taken_125
      · refine aw_iconst K dX12_taken_81 ki_1 ?_
        refine aw_goto K 107 dX12_taken_82 (by decide) ?_
        refine aw_istore K (i := 4) (lv' := [(4, .int (1 : Int32)), (0, rf P 148), (1, .int x1), (2, .int x2), (3, .int x3)]) dX12_taken_107 (Nat.le_of_ble_eq_true rfl) rfl ?_
        refine aw_iload K 0 dX12_taken_109 rfl ?_
        refine aw_if_eq K 123 dX12_taken_111 (by decide) (fun h_14 => ?_) (fun h_14 => ?_)
        · refine aw_bipush K dX12_taken_123 kb_m13 ?_
          exact aw_iret dX12_taken_125
        · refine aw_aload_n K 1 dX12_taken_114 rfl ?_
          refine aw_getR K (c' := 164) dX12_taken_115 lk_X12_59_12 fd_148_37 ?_
          refine aw_iload_n K 2 dX12_taken_118 rfl ?_
          refine aw_gd (fun h_15 => ?_)
          refine aw_ald K dX12_taken_119 ad_164 h_15 rfl ?_
          refine aw_goto K 125 dX12_taken_120 (by decide) ?_
          exact aw_iret dX12_taken_125
set_option maxRecDepth 100000 in
set_option maxHeartbeats 4000000 in
theorem c_f_M_taken (l : Launch) (x1 : Int32) (x2 : Int32) : CTI l (3) yX12_taken cX12_taken 5 ((some .int)) (fun P => [rf P 148, .int x1, .int x2]) (fun σ => f_M_taken x1 x2 σ) := by
  refine met_I rfl rfl rfl (fun P => Nat.le_of_ble_eq_true rfl) (fun P G K hg σ => ?_)
  change AW P G 5 (EI P G cX12_taken) (f_M_taken x1 x2 σ) σ 0 [(0, rf P 148), (1, .int x1), (2, .int x2)] []
  rw [f_M_taken]
  refine aw_iload_n K 1 dX12_taken_0 rfl ?_
  refine aw_callSI K dX12_taken_1 vw_X12_418 (c_f_M_isOne l _) hg (by decide) rfl (Nat.le_of_ble_eq_true rfl) rfl rfl (fun r2 σ1 _ => ?_)
  refine aw_if_eq K 33 dX12_taken_4 (by decide) (fun h_1 => ?_) (fun h_1 => ?_)
  · refine aw_iconst K dX12_taken_33 ki_m1 ?_
    exact aw_iret dX12_taken_34
  · refine aw_iload_n K 2 dX12_taken_7 rfl ?_
    refine aw_i2l K dX12_taken_8 ?_
    refine aw_lconst K dX12_taken_9 kl_0 ?_
    refine aw_ldc2 K (x := (5 : Int64)) dX12_taken_10 (in_r8 _ (List.mem_of_getElem? (i := 18) rfl)) ?_
    refine aw_callSI K dX12_taken_13 vw_X12_68 (c_f_M_in l _ _ _) hg (by decide) rfl (Nat.le_of_ble_eq_true rfl) rfl rfl (fun r4 σ3 _ => ?_)
    refine aw_if_ne K 35 dX12_taken_16 (by decide) (fun h_2 => ?_) (fun h_2 => ?_)
    · refine aw_aload_n K 0 dX12_taken_35 rfl ?_
      refine aw_iload_n K 1 dX12_taken_36 rfl ?_
      refine aw_callVI K dX12_taken_37 vw_X12_445_12 (c_f_M_onShelf l _) hg (by decide) ob_148 rfl (Nat.le_of_ble_eq_true rfl) rfl rfl (fun r6 σ5 _ => ?_)
      refine aw_istore_n K (i := 3) (lv' := [(3, .int r6), (0, rf P 148), (1, .int x1), (2, .int x2)]) dX12_taken_40 rfl (Nat.le_of_ble_eq_true rfl) rfl ?_
      refine aw_iload_n K 0 dX12_taken_41 rfl ?_
      refine aw_if_ge K 58 dX12_taken_42 (by decide) (fun h_3 => ?_) (fun h_3 => ?_)
      · refine aw_lv [1, 2, 3, 0] rfl ?_
        exact (a_f_M_taken_58 l K hg) _ _ _ _
      · refine aw_aload_n K 1 dX12_taken_45 rfl ?_
        refine aw_getR K (c' := 163) dX12_taken_46 lk_X12_56_12 fd_148_36 ?_
        refine aw_iload_n K 2 dX12_taken_49 rfl ?_
        refine aw_gd (fun h_4 => ?_)
        refine aw_ald K dX12_taken_50 ad_163 h_4 rfl ?_
        refine aw_iconst K dX12_taken_51 ki_2 ?_
        refine aw_icmp_ge K 58 dX12_taken_52 (by decide) (fun h_5 => ?_) (fun h_5 => ?_)
        · refine aw_lv [1, 2, 3, 0] rfl ?_
          exact (a_f_M_taken_58 l K hg) _ _ _ _
        · refine aw_bipush K dX12_taken_55 kb_m11 ?_
          exact aw_iret dX12_taken_57
    · refine aw_iload_n K 2 dX12_taken_19 rfl ?_
      refine aw_i2l K dX12_taken_20 ?_
      refine aw_ldc2 K (x := (10 : Int64)) dX12_taken_21 (in_r56 _ (List.mem_of_getElem? (i := 9) rfl)) ?_
      refine aw_ldc2 K (x := (14 : Int64)) dX12_taken_24 (in_r56 _ (List.mem_of_getElem? (i := 10) rfl)) ?_
      refine aw_callSI K dX12_taken_27 vw_X12_68 (c_f_M_in l _ _ _) hg (by decide) rfl (Nat.le_of_ble_eq_true rfl) rfl rfl (fun r8 σ7 _ => ?_)
      refine aw_if_ne K 35 dX12_taken_30 (by decide) (fun h_6 => ?_) (fun h_6 => ?_)
      · refine aw_aload_n K 0 dX12_taken_35 rfl ?_
        refine aw_iload_n K 1 dX12_taken_36 rfl ?_
        refine aw_callVI K dX12_taken_37 vw_X12_445_12 (c_f_M_onShelf l _) hg (by decide) ob_148 rfl (Nat.le_of_ble_eq_true rfl) rfl rfl (fun r10 σ9 _ => ?_)
        refine aw_istore_n K (i := 3) (lv' := [(3, .int r10), (0, rf P 148), (1, .int x1), (2, .int x2)]) dX12_taken_40 rfl (Nat.le_of_ble_eq_true rfl) rfl ?_
        refine aw_iload_n K 0 dX12_taken_41 rfl ?_
        refine aw_if_ge K 58 dX12_taken_42 (by decide) (fun h_7 => ?_) (fun h_7 => ?_)
        · refine aw_lv [1, 2, 3, 0] rfl ?_
          exact (a_f_M_taken_58 l K hg) _ _ _ _
        · refine aw_aload_n K 1 dX12_taken_45 rfl ?_
          refine aw_getR K (c' := 163) dX12_taken_46 lk_X12_56_12 fd_148_36 ?_
          refine aw_iload_n K 2 dX12_taken_49 rfl ?_
          refine aw_gd (fun h_8 => ?_)
          refine aw_ald K dX12_taken_50 ad_163 h_8 rfl ?_
          refine aw_iconst K dX12_taken_51 ki_2 ?_
          refine aw_icmp_ge K 58 dX12_taken_52 (by decide) (fun h_9 => ?_) (fun h_9 => ?_)
          · refine aw_lv [1, 2, 3, 0] rfl ?_
            exact (a_f_M_taken_58 l K hg) _ _ _ _
          · refine aw_bipush K dX12_taken_55 kb_m11 ?_
            exact aw_iret dX12_taken_57
      · refine aw_iconst K dX12_taken_33 ki_m1 ?_
        exact aw_iret dX12_taken_34
set_option maxRecDepth 100000 in
set_option maxHeartbeats 4000000 in
theorem c_f_M_runs (l : Launch) (x1 : Int32) : CTV l (0) yX12_runs cX12_runs 2 (none) (fun P => [rf P 148, .int x1]) (fun σ => f_M_runs x1 σ) := by
  refine met_V rfl rfl rfl (fun P => Nat.le_of_ble_eq_true rfl) (fun P G K hg σ => ?_)
  change AW P G 2 (EV P G cX12_runs) (f_M_runs x1 σ) σ 0 [(0, rf P 148), (1, .int x1)] []
  rw [f_M_runs]
  refine aw_aload_n K 0 dX12_runs_0 rfl ?_
  refine aw_getZ K dX12_runs_1 lk_X12_448_12 fd_148_44 ?_
  refine aw_if_ne K 36 dX12_runs_4 (by decide) (fun h_1 => ?_) (fun h_1 => ?_)
  · exact aw_vret dX12_runs_36
  · refine aw_aload_n K 0 dX12_runs_7 rfl ?_
    refine aw_getI K dX12_runs_8 lk_X12_451_12 fd_148_40 ?_
    refine aw_bipush K dX12_runs_11 kb_30 ?_
    refine aw_icmp_ge K 26 dX12_runs_13 (by decide) (fun h_2 => ?_) (fun h_2 => ?_)
    · refine aw_aload_n K 0 dX12_runs_26 rfl ?_
      refine aw_dup K dX12_runs_27 rfl ?_
      refine aw_getI K dX12_runs_28 lk_X12_451_12 fd_148_40 ?_
      refine aw_iconst K dX12_runs_31 ki_1 ?_
      refine aw_iadd K dX12_runs_32 ?_
      refine aw_putI K dX12_runs_33 lp_X12_451_12 fd_148_40 (fun σ1 => ?_)
      exact aw_vret dX12_runs_36
    · refine aw_aload_n K 0 dX12_runs_16 rfl ?_
      refine aw_getR K (c' := 166) dX12_runs_17 lk_X12_65_12 fd_148_39 ?_
      refine aw_aload_n K 0 dX12_runs_20 rfl ?_
      refine aw_getI K dX12_runs_21 lk_X12_451_12 fd_148_40 ?_
      refine aw_iload_n K 1 dX12_runs_24 rfl ?_
      refine aw_gd (fun h_3 => ?_)
      refine aw_ast K dX12_runs_25 ad_166 h_3 rfl (fun σ2 => ?_)
      refine aw_aload_n K 0 dX12_runs_26 rfl ?_
      refine aw_dup K dX12_runs_27 rfl ?_
      refine aw_getI K dX12_runs_28 lk_X12_451_12 fd_148_40 ?_
      refine aw_iconst K dX12_runs_31 ki_1 ?_
      refine aw_iadd K dX12_runs_32 ?_
      refine aw_putI K dX12_runs_33 lp_X12_451_12 fd_148_40 (fun σ3 => ?_)
      exact aw_vret dX12_runs_36
set_option maxRecDepth 100000 in
set_option maxHeartbeats 4000000 in
theorem a_f_M_gives_28 (l : Launch) {P : PT} {G : GT} (K : CX P G cX12_gives RX12 (1) 3) (hg : gl G = l) : ∀ (x1 : Int32) (σ : SG), AW P G 3 (EI P G cX12_gives) (f_M_gives_28 x1 σ) σ 28 [(0, rf P 148), (1, .int x1)] [] := by
  intro x1 σ
  rw [f_M_gives_28]
  refine aw_aload_n K 0 dX12_gives_28 rfl ?_
  refine aw_bipush K dX12_gives_29 kb_10 ?_
  refine aw_callVV K dX12_gives_31 vw_X12_457_12 (c_f_M_runs l _) hg (by decide) ob_148 rfl (Nat.le_of_ble_eq_true rfl) rfl rfl (fun _ σ1 _ => ?_)
  refine aw_iload_n K 1 dX12_gives_34 rfl ?_
  refine aw_aload_n K 0 dX12_gives_35 rfl ?_
  refine aw_getI K dX12_gives_36 lk_X12_460_12 fd_148_42 ?_
  refine aw_iadd K dX12_gives_39 ?_
  refine aw_istoreX_n K (i := 2) (lv' := fun y2 => [(2, .int y2), (0, rf P 148), (1, .int x1)]) dX12_gives_40 rfl (Nat.le_of_ble_eq_true rfl) (fun _ => rfl) (fun y2 => ?_)
  refine aw_aload_n K 1 dX12_gives_41 rfl ?_
  refine aw_getI K dX12_gives_42 lk_X12_454_12 fd_148_43 ?_
  refine aw_iconst K dX12_gives_45 ki_1 ?_
  refine aw_icmp_ne K 55 dX12_gives_46 (by decide) (fun h_1 => ?_) (fun h_1 => ?_)
  · refine aw_aload_n K 1 dX12_gives_55 rfl ?_
    refine aw_getI K dX12_gives_56 lk_X12_454_12 fd_148_43 ?_
    refine aw_iconst K dX12_gives_59 ki_3 ?_
    refine aw_icmp_ne K 69 dX12_gives_60 (by decide) (fun h_2 => ?_) (fun h_2 => ?_)
    · refine aw_iload_n K 0 dX12_gives_69 rfl ?_
      exact aw_iret dX12_gives_70
    · refine aw_iload_n K 0 dX12_gives_63 rfl ?_
      refine aw_iconst K dX12_gives_64 ki_1 ?_
      refine aw_isub K dX12_gives_65 ?_
      refine aw_goto K 70 dX12_gives_66 (by decide) ?_
      exact aw_iret dX12_gives_70
  · refine aw_iload_n K 0 dX12_gives_49 rfl ?_
    refine aw_iconst K dX12_gives_50 ki_2 ?_
    refine aw_imul K dX12_gives_51 ?_
    refine aw_goto K 70 dX12_gives_52 (by decide) ?_
    exact aw_iret dX12_gives_70
set_option maxRecDepth 100000 in
set_option maxHeartbeats 4000000 in
theorem c_f_M_gives (l : Launch) (x1 : Int32) : CTI l (1) yX12_gives cX12_gives 3 ((some .int)) (fun P => [rf P 148, .int x1]) (fun σ => f_M_gives x1 σ) := by
  refine met_I rfl rfl rfl (fun P => Nat.le_of_ble_eq_true rfl) (fun P G K hg σ => ?_)
  change AW P G 3 (EI P G cX12_gives) (f_M_gives x1 σ) σ 0 [(0, rf P 148), (1, .int x1)] []
  rw [f_M_gives]
  refine aw_aload_n K 0 dX12_gives_0 rfl ?_
  refine aw_getI K dX12_gives_1 lk_X12_454_12 fd_148_43 ?_
  refine aw_iconst K dX12_gives_4 ki_1 ?_
  refine aw_icmp_ne K 14 dX12_gives_5 (by decide) (fun h_1 => ?_) (fun h_1 => ?_)
  · refine aw_aload_n K 0 dX12_gives_14 rfl ?_
    refine aw_getI K dX12_gives_15 lk_X12_454_12 fd_148_43 ?_
    refine aw_iconst K dX12_gives_18 ki_3 ?_
    refine aw_icmp_ne K 28 dX12_gives_19 (by decide) (fun h_2 => ?_) (fun h_2 => ?_)
    · refine aw_lv [0, 1] rfl ?_
      exact (a_f_M_gives_28 l K hg) _ _
    · refine aw_aload_n K 0 dX12_gives_22 rfl ?_
      refine aw_bipush K dX12_gives_23 kb_50 ?_
      refine aw_callVV K dX12_gives_25 vw_X12_457_12 (c_f_M_runs l _) hg (by decide) ob_148 rfl (Nat.le_of_ble_eq_true rfl) rfl rfl (fun _ σ1 _ => ?_)
      refine aw_lv [0, 1] rfl ?_
      exact (a_f_M_gives_28 l K hg) _ _
  · refine aw_aload_n K 0 dX12_gives_8 rfl ?_
    refine aw_bipush K dX12_gives_9 kb_20 ?_
    refine aw_callVV K dX12_gives_11 vw_X12_457_12 (c_f_M_runs l _) hg (by decide) ob_148 rfl (Nat.le_of_ble_eq_true rfl) rfl rfl (fun _ σ2 _ => ?_)
    refine aw_aload_n K 0 dX12_gives_14 rfl ?_
    refine aw_getI K dX12_gives_15 lk_X12_454_12 fd_148_43 ?_
    refine aw_iconst K dX12_gives_18 ki_3 ?_
    refine aw_icmp_ne K 28 dX12_gives_19 (by decide) (fun h_3 => ?_) (fun h_3 => ?_)
    · refine aw_lv [0, 1] rfl ?_
      exact (a_f_M_gives_28 l K hg) _ _
    · refine aw_aload_n K 0 dX12_gives_22 rfl ?_
      refine aw_bipush K dX12_gives_23 kb_50 ?_
      refine aw_callVV K dX12_gives_25 vw_X12_457_12 (c_f_M_runs l _) hg (by decide) ob_148 rfl (Nat.le_of_ble_eq_true rfl) rfl rfl (fun _ σ3 _ => ?_)
      refine aw_lv [0, 1] rfl ?_
      exact (a_f_M_gives_28 l K hg) _ _
set_option maxRecDepth 100000 in
set_option maxHeartbeats 4000000 in
theorem a_f_M_takes_46 (l : Launch) {P : PT} {G : GT} (K : CX P G cX12_takes RX12 (2) 4) (hg : gl G = l) : ∀ (x1 : Int32) (x2 : Int32) (σ : SG), AW P G 4 (EI P G cX12_takes) (f_M_takes_46 x1 x2 σ) σ 46 [(0, rf P 148), (1, .int x1), (2, .int x2)] [] := by
  intro x1 x2 σ
  rw [f_M_takes_46]
  refine aw_aload_n K 0 dX12_takes_46 rfl ?_
  refine aw_bipush K dX12_takes_47 kb_11 ?_
  refine aw_callVV K dX12_takes_49 vw_X12_457_12 (c_f_M_runs l _) hg (by decide) ob_148 rfl (Nat.le_of_ble_eq_true rfl) rfl rfl (fun _ σ1 _ => ?_)
  refine aw_aload_n K 0 dX12_takes_52 rfl ?_
  refine aw_iload_n K 1 dX12_takes_53 rfl ?_
  refine aw_callVI K dX12_takes_54 vw_X12_463_12 (c_f_M_gives l _) hg (by decide) ob_148 rfl (Nat.le_of_ble_eq_true rfl) rfl rfl (fun r3 σ2 _ => ?_)
  refine aw_aload_n K 0 dX12_takes_57 rfl ?_
  refine aw_getI K dX12_takes_58 lk_X12_466_12 fd_148_41 ?_
  refine aw_isub K dX12_takes_61 ?_
  refine aw_istoreX_n K (i := 3) (lv' := fun y4 => [(3, .int y4), (0, rf P 148), (1, .int x1), (2, .int x2)]) dX12_takes_62 rfl (Nat.le_of_ble_eq_true rfl) (fun _ => rfl) (fun y4 => ?_)
  refine aw_iload_n K 3 dX12_takes_63 rfl ?_
  refine aw_if_eq K 76 dX12_takes_64 (by decide) (fun h_1 => ?_) (fun h_1 => ?_)
  · refine aw_aload_n K 1 dX12_takes_76 rfl ?_
    refine aw_getI K dX12_takes_77 lk_X12_454_12 fd_148_43 ?_
    refine aw_iconst K dX12_takes_80 ki_5 ?_
    refine aw_icmp_ne K 90 dX12_takes_81 (by decide) (fun h_2 => ?_) (fun h_2 => ?_)
    · refine aw_iload_n K 0 dX12_takes_90 rfl ?_
      exact aw_iret dX12_takes_91
    · refine aw_iconst K dX12_takes_84 ki_0 ?_
      refine aw_iload_n K 0 dX12_takes_85 rfl ?_
      refine aw_isub K dX12_takes_86 ?_
      refine aw_goto K 91 dX12_takes_87 (by decide) ?_
      exact aw_iret dX12_takes_91
  · refine aw_iload_n K 0 dX12_takes_67 rfl ?_
    refine aw_aload_n K 1 dX12_takes_68 rfl ?_
    refine aw_getI K dX12_takes_69 lk_X12_466_12 fd_148_41 ?_
    refine aw_ixor K dX12_takes_72 ?_
    refine aw_goto K 91 dX12_takes_73 (by decide) ?_
    exact aw_iret dX12_takes_91
set_option maxRecDepth 100000 in
set_option maxHeartbeats 4000000 in
theorem a_f_M_takes_21 (l : Launch) {P : PT} {G : GT} (K : CX P G cX12_takes RX12 (2) 4) (hg : gl G = l) : ∀ (x1 : Int32) (xs0 : Int32) (σ : SG), AW P G 4 (EI P G cX12_takes) (f_M_takes_21 x1 xs0 σ) σ 21 [(0, rf P 148), (1, .int x1)] [.int xs0] := by
  intro x1 xs0 σ
  rw [f_M_takes_21]
  refine aw_istore_n K (i := 2) (lv' := [(2, .int xs0), (0, rf P 148), (1, .int x1)]) dX12_takes_21 rfl (Nat.le_of_ble_eq_true rfl) rfl ?_
  refine aw_iload_n K 0 dX12_takes_22 rfl ?_
  refine aw_if_eq K 32 dX12_takes_23 (by decide) (fun h_1 => ?_) (fun h_1 => ?_)
  · refine aw_aload_n K 1 dX12_takes_32 rfl ?_
    refine aw_getI K dX12_takes_33 lk_X12_454_12 fd_148_43 ?_
    refine aw_iconst K dX12_takes_36 ki_5 ?_
    refine aw_icmp_ne K 46 dX12_takes_37 (by decide) (fun h_2 => ?_) (fun h_2 => ?_)
    · refine aw_lv [1, 2, 0] rfl ?_
      exact (a_f_M_takes_46 l K hg) _ _ _
    · refine aw_aload_n K 1 dX12_takes_40 rfl ?_
      refine aw_bipush K dX12_takes_41 kb_60 ?_
      refine aw_callVV K dX12_takes_43 vw_X12_457_12 (c_f_M_runs l _) hg (by decide) ob_148 rfl (Nat.le_of_ble_eq_true rfl) rfl rfl (fun _ σ1 _ => ?_)
      refine aw_lv [1, 2, 0] rfl ?_
      exact (a_f_M_takes_46 l K hg) _ _ _
  · refine aw_aload_n K 1 dX12_takes_26 rfl ?_
    refine aw_bipush K dX12_takes_27 kb_30 ?_
    refine aw_callVV K dX12_takes_29 vw_X12_457_12 (c_f_M_runs l _) hg (by decide) ob_148 rfl (Nat.le_of_ble_eq_true rfl) rfl rfl (fun _ σ2 _ => ?_)
    refine aw_aload_n K 1 dX12_takes_32 rfl ?_
    refine aw_getI K dX12_takes_33 lk_X12_454_12 fd_148_43 ?_
    refine aw_iconst K dX12_takes_36 ki_5 ?_
    refine aw_icmp_ne K 46 dX12_takes_37 (by decide) (fun h_3 => ?_) (fun h_3 => ?_)
    · refine aw_lv [1, 2, 0] rfl ?_
      exact (a_f_M_takes_46 l K hg) _ _ _
    · refine aw_aload_n K 1 dX12_takes_40 rfl ?_
      refine aw_bipush K dX12_takes_41 kb_60 ?_
      refine aw_callVV K dX12_takes_43 vw_X12_457_12 (c_f_M_runs l _) hg (by decide) ob_148 rfl (Nat.le_of_ble_eq_true rfl) rfl rfl (fun _ σ3 _ => ?_)
      refine aw_lv [1, 2, 0] rfl ?_
      exact (a_f_M_takes_46 l K hg) _ _ _
set_option maxRecDepth 100000 in
set_option maxHeartbeats 4000000 in
theorem c_f_M_takes (l : Launch) (x1 : Int32) : CTI l (2) yX12_takes cX12_takes 4 ((some .int)) (fun P => [rf P 148, .int x1]) (fun σ => f_M_takes x1 σ) := by
  refine met_I rfl rfl rfl (fun P => Nat.le_of_ble_eq_true rfl) (fun P G K hg σ => ?_)
  change AW P G 4 (EI P G cX12_takes) (f_M_takes x1 σ) σ 0 [(0, rf P 148), (1, .int x1)] []
  rw [f_M_takes]
  refine aw_aload_n K 0 dX12_takes_0 rfl ?_
  refine aw_getI K dX12_takes_1 lk_X12_454_12 fd_148_43 ?_
  refine aw_iconst K dX12_takes_4 ki_2 ?_
  refine aw_icmp_eq K 16 dX12_takes_5 (by decide) (fun h_1 => ?_) (fun h_1 => ?_)
  · refine aw_iconst K dX12_takes_16 ki_1 ?_
    refine aw_goto K 21 dX12_takes_17 (by decide) ?_
    refine aw_lv [0, 1] rfl ?_
    exact (a_f_M_takes_21 l K hg) _ _ _
  · refine aw_aload_n K 0 dX12_takes_8 rfl ?_
    refine aw_getI K dX12_takes_9 lk_X12_454_12 fd_148_43 ?_
    refine aw_iconst K dX12_takes_12 ki_3 ?_
    refine aw_icmp_ne K 20 dX12_takes_13 (by decide) (fun h_2 => ?_) (fun h_2 => ?_)
    · refine aw_iconst K dX12_takes_20 ki_0 ?_
      refine aw_lv [0, 1] rfl ?_
      exact (a_f_M_takes_21 l K hg) _ _ _
    · refine aw_iconst K dX12_takes_16 ki_1 ?_
      refine aw_goto K 21 dX12_takes_17 (by decide) ?_
      refine aw_lv [0, 1] rfl ?_
      exact (a_f_M_takes_21 l K hg) _ _ _
set_option maxRecDepth 100000 in
set_option maxHeartbeats 4000000 in
theorem c_f_M_plainHalves (l : Launch) (x1 : Int32) : CTI l (1) yX12_plainHalves cX12_plainHalves 2 ((some .int)) (fun P => [rf P 148, .int x1]) (fun σ => f_M_plainHalves x1 σ) := by
  refine met_I rfl rfl rfl (fun P => Nat.le_of_ble_eq_true rfl) (fun P G K hg σ => ?_)
  change AW P G 2 (EI P G cX12_plainHalves) (f_M_plainHalves x1 σ) σ 0 [(0, rf P 148), (1, .int x1)] []
  rw [f_M_plainHalves]
  refine aw_aload_n K 0 dX12_plainHalves_0 rfl ?_
  refine aw_bipush K dX12_plainHalves_1 kb_12 ?_
  refine aw_callVV K dX12_plainHalves_3 vw_X12_457_12 (c_f_M_runs l _) hg (by decide) ob_148 rfl (Nat.le_of_ble_eq_true rfl) rfl rfl (fun _ σ1 _ => ?_)
  refine aw_aload_n K 0 dX12_plainHalves_6 rfl ?_
  refine aw_getI K dX12_plainHalves_7 lk_X12_460_12 fd_148_42 ?_
  refine aw_aload_n K 0 dX12_plainHalves_10 rfl ?_
  refine aw_getI K dX12_plainHalves_11 lk_X12_466_12 fd_148_41 ?_
  refine aw_icmp_ne K 24 dX12_plainHalves_14 (by decide) (fun h_1 => ?_) (fun h_1 => ?_)
  · refine aw_iload_n K 1 dX12_plainHalves_24 rfl ?_
    refine aw_aload_n K 0 dX12_plainHalves_25 rfl ?_
    refine aw_getI K dX12_plainHalves_26 lk_X12_460_12 fd_148_42 ?_
    refine aw_aload_n K 0 dX12_plainHalves_29 rfl ?_
    refine aw_getI K dX12_plainHalves_30 lk_X12_466_12 fd_148_41 ?_
    refine aw_isub K dX12_plainHalves_33 ?_
    refine aw_gd (fun h_2 => ?_)
    refine aw_idiv K dX12_plainHalves_34 h_2 ?_
    exact aw_iret dX12_plainHalves_35
  · refine aw_aload_n K 0 dX12_plainHalves_17 rfl ?_
    refine aw_iconst K dX12_plainHalves_18 ki_1 ?_
    refine aw_putZ K dX12_plainHalves_19 lp_X12_448_12 fd_148_44 (by decide) (fun σ2 => ?_)
    refine aw_iconst K dX12_plainHalves_22 ki_0 ?_
    exact aw_iret dX12_plainHalves_23
set_option maxRecDepth 100000 in
set_option maxHeartbeats 4000000 in
theorem c_f_M_halves (l : Launch) (x1 : Int32) : CTI l (2) yX12_halves cX12_halves 3 ((some .int)) (fun P => [rf P 148, .int x1]) (fun σ => f_M_halves x1 σ) := by
  refine met_I rfl rfl rfl (fun P => Nat.le_of_ble_eq_true rfl) (fun P G K hg σ => ?_)
  change AW P G 3 (EI P G cX12_halves) (f_M_halves x1 σ) σ 0 [(0, rf P 148), (1, .int x1)] []
  rw [f_M_halves]
  refine aw_aload_n K 0 dX12_halves_0 rfl ?_
  refine aw_getI K dX12_halves_1 lk_X12_454_12 fd_148_43 ?_
  refine aw_iconst K dX12_halves_4 ki_4 ?_
  refine aw_icmp_ne K 22 dX12_halves_5 (by decide) (fun h_1 => ?_) (fun h_1 => ?_)
  · refine aw_aload_n K 0 dX12_halves_22 rfl ?_
    refine aw_getI K dX12_halves_23 lk_X12_454_12 fd_148_43 ?_
    refine aw_iconst K dX12_halves_26 ki_5 ?_
    refine aw_icmp_ne K 72 dX12_halves_27 (by decide) (fun h_2 => ?_) (fun h_2 => ?_)
    · refine aw_aload_n K 0 dX12_halves_72 rfl ?_
      refine aw_iload_n K 1 dX12_halves_73 rfl ?_
      refine aw_callVI K dX12_halves_74 vw_X12_469_12 (c_f_M_plainHalves l _) hg (by decide) ob_148 rfl (Nat.le_of_ble_eq_true rfl) rfl rfl (fun r2 σ1 _ => ?_)
      exact aw_iret dX12_halves_77
    · refine aw_aload_n K 0 dX12_halves_30 rfl ?_
      refine aw_bipush K dX12_halves_31 kb_61 ?_
      refine aw_callVV K dX12_halves_33 vw_X12_457_12 (c_f_M_runs l _) hg (by decide) ob_148 rfl (Nat.le_of_ble_eq_true rfl) rfl rfl (fun _ σ3 _ => ?_)
      refine aw_aload_n K 0 dX12_halves_36 rfl ?_
      refine aw_bipush K dX12_halves_37 kb_40 ?_
      refine aw_callVV K dX12_halves_39 vw_X12_457_12 (c_f_M_runs l _) hg (by decide) ob_148 rfl (Nat.le_of_ble_eq_true rfl) rfl rfl (fun _ σ4 _ => ?_)
      refine aw_aload_n K 0 dX12_halves_42 rfl ?_
      refine aw_iload_n K 1 dX12_halves_43 rfl ?_
      refine aw_iconst K dX12_halves_44 ki_3 ?_
      refine aw_isub K dX12_halves_45 ?_
      refine aw_callVI K dX12_halves_46 vw_X12_469_12 (c_f_M_plainHalves l _) hg (by decide) ob_148 rfl (Nat.le_of_ble_eq_true rfl) rfl rfl (fun r6 σ5 _ => ?_)
      refine aw_istore_n K (i := 2) (lv' := [(2, .int r6), (0, rf P 148), (1, .int x1)]) dX12_halves_49 rfl (Nat.le_of_ble_eq_true rfl) rfl ?_
      refine aw_aload_n K 1 dX12_halves_50 rfl ?_
      refine aw_getZ K dX12_halves_51 lk_X12_448_12 fd_148_44 ?_
      refine aw_if_eq K 61 dX12_halves_54 (by decide) (fun h_3 => ?_) (fun h_3 => ?_)
      · refine aw_iload_n K 0 dX12_halves_61 rfl ?_
        refine aw_aload_n K 1 dX12_halves_62 rfl ?_
        refine aw_aload_n K 1 dX12_halves_63 rfl ?_
        refine aw_getI K dX12_halves_64 lk_X12_466_12 fd_148_41 ?_
        refine aw_callVI K dX12_halves_67 vw_X12_463_12 (c_f_M_gives l _) hg (by decide) ob_148 rfl (Nat.le_of_ble_eq_true rfl) rfl rfl (fun r8 σ7 _ => ?_)
        refine aw_isub K dX12_halves_70 ?_
        exact aw_iret dX12_halves_71
      · refine aw_iconst K dX12_halves_57 ki_0 ?_
        refine aw_goto K 71 dX12_halves_58 (by decide) ?_
        exact aw_iret dX12_halves_71
  · refine aw_aload_n K 0 dX12_halves_8 rfl ?_
    refine aw_bipush K dX12_halves_9 kb_40 ?_
    refine aw_callVV K dX12_halves_11 vw_X12_457_12 (c_f_M_runs l _) hg (by decide) ob_148 rfl (Nat.le_of_ble_eq_true rfl) rfl rfl (fun _ σ9 _ => ?_)
    refine aw_aload_n K 0 dX12_halves_14 rfl ?_
    refine aw_iload_n K 1 dX12_halves_15 rfl ?_
    refine aw_iconst K dX12_halves_16 ki_3 ?_
    refine aw_isub K dX12_halves_17 ?_
    refine aw_callVI K dX12_halves_18 vw_X12_469_12 (c_f_M_plainHalves l _) hg (by decide) ob_148 rfl (Nat.le_of_ble_eq_true rfl) rfl rfl (fun r11 σ10 _ => ?_)
    exact aw_iret dX12_halves_21
set_option maxRecDepth 100000 in
set_option maxHeartbeats 4000000 in
theorem a_f_M_owes_14 (l : Launch) {P : PT} {G : GT} (K : CX P G cX12_owes RX12 (3) 3) (hg : gl G = l) : ∀ (x1 : Int32) (σ : SG), AW P G 3 (EI P G cX12_owes) (f_M_owes_14 x1 σ) σ 14 [(0, rf P 148), (1, .int x1)] [] := by
  intro x1 σ
  rw [f_M_owes_14]
  refine aw_aload_n K 0 dX12_owes_14 rfl ?_
  refine aw_bipush K dX12_owes_15 kb_13 ?_
  refine aw_callVV K dX12_owes_17 vw_X12_457_12 (c_f_M_runs l _) hg (by decide) ob_148 rfl (Nat.le_of_ble_eq_true rfl) rfl rfl (fun _ σ1 _ => ?_)
  refine aw_aload_n K 0 dX12_owes_20 rfl ?_
  refine aw_iload_n K 1 dX12_owes_21 rfl ?_
  refine aw_callVI K dX12_owes_22 vw_X12_472_12 (c_f_M_takes l _) hg (by decide) ob_148 rfl (Nat.le_of_ble_eq_true rfl) rfl rfl (fun r3 σ2 _ => ?_)
  refine aw_aload_n K 0 dX12_owes_25 rfl ?_
  refine aw_getI K dX12_owes_26 lk_X12_460_12 fd_148_42 ?_
  refine aw_ixor K dX12_owes_29 ?_
  refine aw_istoreX_n K (i := 2) (lv' := fun y4 => [(2, .int y4), (0, rf P 148), (1, .int x1)]) dX12_owes_30 rfl (Nat.le_of_ble_eq_true rfl) (fun _ => rfl) (fun y4 => ?_)
  refine aw_aload_n K 1 dX12_owes_31 rfl ?_
  refine aw_getI K dX12_owes_32 lk_X12_454_12 fd_148_43 ?_
  refine aw_iconst K dX12_owes_35 ki_3 ?_
  refine aw_icmp_ne K 52 dX12_owes_36 (by decide) (fun h_1 => ?_) (fun h_1 => ?_)
  · refine aw_iload_n K 0 dX12_owes_52 rfl ?_
    exact aw_iret dX12_owes_53
  · refine aw_iload_n K 0 dX12_owes_39 rfl ?_
    refine aw_aload_n K 1 dX12_owes_40 rfl ?_
    refine aw_aload_n K 1 dX12_owes_41 rfl ?_
    refine aw_getI K dX12_owes_42 lk_X12_460_12 fd_148_42 ?_
    refine aw_callVI K dX12_owes_45 vw_X12_475_12 (c_f_M_halves l _) hg (by decide) ob_148 rfl (Nat.le_of_ble_eq_true rfl) rfl rfl (fun r6 σ5 _ => ?_)
    refine aw_iadd K dX12_owes_48 ?_
    refine aw_goto K 53 dX12_owes_49 (by decide) ?_
    exact aw_iret dX12_owes_53
set_option maxRecDepth 100000 in
set_option maxHeartbeats 4000000 in
theorem c_f_M_owes (l : Launch) (x1 : Int32) : CTI l (3) yX12_owes cX12_owes 3 ((some .int)) (fun P => [rf P 148, .int x1]) (fun σ => f_M_owes x1 σ) := by
  refine met_I rfl rfl rfl (fun P => Nat.le_of_ble_eq_true rfl) (fun P G K hg σ => ?_)
  change AW P G 3 (EI P G cX12_owes) (f_M_owes x1 σ) σ 0 [(0, rf P 148), (1, .int x1)] []
  rw [f_M_owes]
  refine aw_aload_n K 0 dX12_owes_0 rfl ?_
  refine aw_getI K dX12_owes_1 lk_X12_454_12 fd_148_43 ?_
  refine aw_iconst K dX12_owes_4 ki_3 ?_
  refine aw_icmp_ne K 14 dX12_owes_5 (by decide) (fun h_1 => ?_) (fun h_1 => ?_)
  · refine aw_lv [0, 1] rfl ?_
    exact (a_f_M_owes_14 l K hg) _ _
  · refine aw_aload_n K 0 dX12_owes_8 rfl ?_
    refine aw_bipush K dX12_owes_9 kb_51 ?_
    refine aw_callVV K dX12_owes_11 vw_X12_457_12 (c_f_M_runs l _) hg (by decide) ob_148 rfl (Nat.le_of_ble_eq_true rfl) rfl rfl (fun _ σ1 _ => ?_)
    refine aw_lv [0, 1] rfl ?_
    exact (a_f_M_owes_14 l K hg) _ _
set_option maxRecDepth 100000 in
set_option maxHeartbeats 4000000 in
theorem c_f_M_act (l : Launch) (x1 : Int32) (x2 : Int32) (x3 : Int32) : CTI l (4) yX12_act cX12_act 5 ((some .int)) (fun P => [rf P 148, .int x1, .int x2, .int x3]) (fun σ => f_M_act x1 x2 x3 σ) := by
  refine met_I rfl rfl rfl (fun P => Nat.le_of_ble_eq_true rfl) (fun P G K hg σ => ?_)
  change AW P G 5 (EI P G cX12_act) (f_M_act x1 x2 x3 σ) σ 0 [(0, rf P 148), (1, .int x1), (2, .int x2), (3, .int x3)] []
  rw [f_M_act]
  refine aw_aload_n K 0 dX12_act_0 rfl ?_
  refine aw_iconst K dX12_act_1 ki_0 ?_
  refine aw_putI K dX12_act_2 lp_X12_451_12 fd_148_40 (fun σ1 => ?_)
  refine aw_aload_n K 0 dX12_act_5 rfl ?_
  refine aw_iconst K dX12_act_6 ki_0 ?_
  refine aw_putZ K dX12_act_7 lp_X12_448_12 fd_148_44 (by decide) (fun σ2 => ?_)
  refine aw_aload_n K 0 dX12_act_10 rfl ?_
  refine aw_aload_n K 0 dX12_act_11 rfl ?_
  refine aw_iload_n K 1 dX12_act_12 rfl ?_
  refine aw_callVI K dX12_act_13 vw_X12_445_12 (c_f_M_onShelf l _) hg (by decide) ob_148 rfl (Nat.le_of_ble_eq_true rfl) rfl rfl (fun r4 σ3 _ => ?_)
  refine aw_putI K dX12_act_16 lp_X12_466_12 fd_148_41 (fun σ5 => ?_)
  refine aw_aload_n K 0 dX12_act_19 rfl ?_
  refine aw_getI K dX12_act_20 lk_X12_466_12 fd_148_41 ?_
  refine aw_if_lt K 38 dX12_act_23 (by decide) (fun h_1 => ?_) (fun h_1 => ?_)
  · refine aw_iconst K dX12_act_38 ki_0 ?_
    exact aw_iret dX12_act_39
  · refine aw_iload_n K 2 dX12_act_26 rfl ?_
    refine aw_i2l K dX12_act_27 ?_
    refine aw_lconst K dX12_act_28 kl_0 ?_
    refine aw_ldc2 K (x := (3 : Int64)) dX12_act_29 (in_r52 _ (List.mem_of_getElem? (i := 7) rfl)) ?_
    refine aw_callSI K dX12_act_32 vw_X12_68 (c_f_M_in l _ _ _) hg (by decide) rfl (Nat.le_of_ble_eq_true rfl) rfl rfl (fun r7 σ6 _ => ?_)
    refine aw_if_ne K 40 dX12_act_35 (by decide) (fun h_2 => ?_) (fun h_2 => ?_)
    · refine aw_aload_n K 0 dX12_act_40 rfl ?_
      refine aw_aload_n K 0 dX12_act_41 rfl ?_
      refine aw_aload_n K 0 dX12_act_42 rfl ?_
      refine aw_getI K dX12_act_43 lk_X12_466_12 fd_148_41 ?_
      refine aw_iconst K dX12_act_46 ki_2 ?_
      refine aw_callVI K dX12_act_47 vw_X12_93_12 (c_f_M_its l _ _) hg (by decide) ob_148 rfl (Nat.le_of_ble_eq_true rfl) rfl rfl (fun r9 σ8 _ => ?_)
      refine aw_putI K dX12_act_50 lp_X12_460_12 fd_148_42 (fun σ10 => ?_)
      refine aw_aload_n K 0 dX12_act_53 rfl ?_
      refine aw_aload_n K 0 dX12_act_54 rfl ?_
      refine aw_aload_n K 0 dX12_act_55 rfl ?_
      refine aw_getI K dX12_act_56 lk_X12_466_12 fd_148_41 ?_
      refine aw_iconst K dX12_act_59 ki_0 ?_
      refine aw_callVI K dX12_act_60 vw_X12_93_12 (c_f_M_its l _ _) hg (by decide) ob_148 rfl (Nat.le_of_ble_eq_true rfl) rfl rfl (fun r12 σ11 _ => ?_)
      refine aw_putI K dX12_act_63 lp_X12_454_12 fd_148_43 (fun σ13 => ?_)
      refine aw_iload_n K 2 dX12_act_66 rfl ?_
      refine aw_if_ne K 78 dX12_act_67 (by decide) (fun h_3 => ?_) (fun h_3 => ?_)
      · refine aw_iload_n K 2 dX12_act_78 rfl ?_
        refine aw_iconst K dX12_act_79 ki_1 ?_
        refine aw_icmp_ne K 91 dX12_act_80 (by decide) (fun h_4 => ?_) (fun h_4 => ?_)
        · refine aw_iload_n K 2 dX12_act_91 rfl ?_
          refine aw_iconst K dX12_act_92 ki_2 ?_
          refine aw_icmp_ne K 104 dX12_act_93 (by decide) (fun h_5 => ?_) (fun h_5 => ?_)
          · refine aw_aload_n K 0 dX12_act_104 rfl ?_
            refine aw_iload_n K 3 dX12_act_105 rfl ?_
            refine aw_callVI K dX12_act_106 vw_X12_478_12 (c_f_M_owes l _) hg (by decide) ob_148 rfl (Nat.le_of_ble_eq_true rfl) rfl rfl (fun r15 σ14 _ => ?_)
            refine aw_istore K (i := 4) (lv' := [(4, .int r15), (0, rf P 148), (1, .int x1), (2, .int x2), (3, .int x3)]) dX12_act_109 (Nat.le_of_ble_eq_true rfl) rfl ?_
            refine aw_aload_n K 1 dX12_act_111 rfl ?_
            refine aw_getZ K dX12_act_112 lk_X12_448_12 fd_148_44 ?_
            refine aw_if_eq K 123 dX12_act_115 (by decide) (fun h_6 => ?_) (fun h_6 => ?_)
            · refine aw_iload K 0 dX12_act_123 rfl ?_
              exact aw_iret dX12_act_125
            · refine aw_bipush K dX12_act_118 kb_m15 ?_
              refine aw_goto K 125 dX12_act_120 (by decide) ?_
              exact aw_iret dX12_act_125
          · refine aw_aload_n K 0 dX12_act_96 rfl ?_
            refine aw_iload_n K 3 dX12_act_97 rfl ?_
            refine aw_callVI K dX12_act_98 vw_X12_475_12 (c_f_M_halves l _) hg (by decide) ob_148 rfl (Nat.le_of_ble_eq_true rfl) rfl rfl (fun r17 σ16 _ => ?_)
            refine aw_goto K 109 dX12_act_101 (by decide) ?_
            refine aw_istore K (i := 4) (lv' := [(4, .int r17), (0, rf P 148), (1, .int x1), (2, .int x2), (3, .int x3)]) dX12_act_109 (Nat.le_of_ble_eq_true rfl) rfl ?_
            refine aw_aload_n K 1 dX12_act_111 rfl ?_
            refine aw_getZ K dX12_act_112 lk_X12_448_12 fd_148_44 ?_
            refine aw_if_eq K 123 dX12_act_115 (by decide) (fun h_7 => ?_) (fun h_7 => ?_)
            · refine aw_iload K 0 dX12_act_123 rfl ?_
              exact aw_iret dX12_act_125
            · refine aw_bipush K dX12_act_118 kb_m15 ?_
              refine aw_goto K 125 dX12_act_120 (by decide) ?_
              exact aw_iret dX12_act_125
        · refine aw_aload_n K 0 dX12_act_83 rfl ?_
          refine aw_iload_n K 3 dX12_act_84 rfl ?_
          refine aw_callVI K dX12_act_85 vw_X12_472_12 (c_f_M_takes l _) hg (by decide) ob_148 rfl (Nat.le_of_ble_eq_true rfl) rfl rfl (fun r19 σ18 _ => ?_)
          refine aw_goto K 109 dX12_act_88 (by decide) ?_
          refine aw_istore K (i := 4) (lv' := [(4, .int r19), (0, rf P 148), (1, .int x1), (2, .int x2), (3, .int x3)]) dX12_act_109 (Nat.le_of_ble_eq_true rfl) rfl ?_
          refine aw_aload_n K 1 dX12_act_111 rfl ?_
          refine aw_getZ K dX12_act_112 lk_X12_448_12 fd_148_44 ?_
          refine aw_if_eq K 123 dX12_act_115 (by decide) (fun h_8 => ?_) (fun h_8 => ?_)
          · refine aw_iload K 0 dX12_act_123 rfl ?_
            exact aw_iret dX12_act_125
          · refine aw_bipush K dX12_act_118 kb_m15 ?_
            refine aw_goto K 125 dX12_act_120 (by decide) ?_
            exact aw_iret dX12_act_125
      · refine aw_aload_n K 0 dX12_act_70 rfl ?_
        refine aw_iload_n K 3 dX12_act_71 rfl ?_
        refine aw_callVI K dX12_act_72 vw_X12_463_12 (c_f_M_gives l _) hg (by decide) ob_148 rfl (Nat.le_of_ble_eq_true rfl) rfl rfl (fun r21 σ20 _ => ?_)
        refine aw_goto K 109 dX12_act_75 (by decide) ?_
        refine aw_istore K (i := 4) (lv' := [(4, .int r21), (0, rf P 148), (1, .int x1), (2, .int x2), (3, .int x3)]) dX12_act_109 (Nat.le_of_ble_eq_true rfl) rfl ?_
        refine aw_aload_n K 1 dX12_act_111 rfl ?_
        refine aw_getZ K dX12_act_112 lk_X12_448_12 fd_148_44 ?_
        refine aw_if_eq K 123 dX12_act_115 (by decide) (fun h_9 => ?_) (fun h_9 => ?_)
        · refine aw_iload K 0 dX12_act_123 rfl ?_
          exact aw_iret dX12_act_125
        · refine aw_bipush K dX12_act_118 kb_m15 ?_
          refine aw_goto K 125 dX12_act_120 (by decide) ?_
          exact aw_iret dX12_act_125
    · refine aw_iconst K dX12_act_38 ki_0 ?_
      exact aw_iret dX12_act_39
set_option maxRecDepth 100000 in
set_option maxHeartbeats 4000000 in
theorem c_f_M_traced (l : Launch) : CTI l (0) yX12_traced cX12_traced 1 ((some .int)) (fun P => [rf P 148]) (fun σ => f_M_traced σ) := by
  refine met_I rfl rfl rfl (fun P => Nat.le_of_ble_eq_true rfl) (fun P G K hg σ => ?_)
  change AW P G 1 (EI P G cX12_traced) (f_M_traced σ) σ 0 [(0, rf P 148)] []
  rw [f_M_traced]
  refine aw_aload_n K 0 dX12_traced_0 rfl ?_
  refine aw_getI K dX12_traced_1 lk_X12_451_12 fd_148_40 ?_
  refine aw_bipush K dX12_traced_4 kb_30 ?_
  refine aw_icmp_ge K 16 dX12_traced_6 (by decide) (fun h_1 => ?_) (fun h_1 => ?_)
  · refine aw_bipush K dX12_traced_16 kb_30 ?_
    exact aw_iret dX12_traced_18
  · refine aw_aload_n K 0 dX12_traced_9 rfl ?_
    refine aw_getI K dX12_traced_10 lk_X12_451_12 fd_148_40 ?_
    refine aw_goto K 18 dX12_traced_13 (by decide) ?_
    exact aw_iret dX12_traced_18
set_option maxRecDepth 100000 in
set_option maxHeartbeats 4000000 in
theorem c_f_M_trace (l : Launch) (x1 : Int32) : CTI l (1) yX12_trace cX12_trace 2 ((some .int)) (fun P => [rf P 148, .int x1]) (fun σ => f_M_trace x1 σ) := by
  refine met_I rfl rfl rfl (fun P => Nat.le_of_ble_eq_true rfl) (fun P G K hg σ => ?_)
  change AW P G 2 (EI P G cX12_trace) (f_M_trace x1 σ) σ 0 [(0, rf P 148), (1, .int x1)] []
  rw [f_M_trace]
  refine aw_iload_n K 1 dX12_trace_0 rfl ?_
  refine aw_i2l K dX12_trace_1 ?_
  refine aw_lconst K dX12_trace_2 kl_0 ?_
  refine aw_aload_n K 0 dX12_trace_3 rfl ?_
  refine aw_callVI K dX12_trace_4 vw_X12_481_12 (c_f_M_traced l) hg (by decide) ob_148 rfl (Nat.le_of_ble_eq_true rfl) rfl rfl (fun r2 σ1 _ => ?_)
  refine aw_iconst K dX12_trace_7 ki_1 ?_
  refine aw_isub K dX12_trace_8 ?_
  refine aw_i2l K dX12_trace_9 ?_
  refine aw_callSI K dX12_trace_10 vw_X12_68 (c_f_M_in l _ _ _) hg (by decide) rfl (Nat.le_of_ble_eq_true rfl) rfl rfl (fun r4 σ3 _ => ?_)
  refine aw_if_eq K 25 dX12_trace_13 (by decide) (fun h_1 => ?_) (fun h_1 => ?_)
  · refine aw_bipush K dX12_trace_25 kb_m3 ?_
    exact aw_iret dX12_trace_27
  · refine aw_aload_n K 0 dX12_trace_16 rfl ?_
    refine aw_getR K (c' := 166) dX12_trace_17 lk_X12_65_12 fd_148_39 ?_
    refine aw_iload_n K 1 dX12_trace_20 rfl ?_
    refine aw_gd (fun h_2 => ?_)
    refine aw_ald K dX12_trace_21 ad_166 h_2 rfl ?_
    refine aw_goto K 27 dX12_trace_22 (by decide) ?_
    exact aw_iret dX12_trace_27
set_option maxRecDepth 100000 in
set_option maxHeartbeats 4000000 in
theorem c_f_M_many (l : Launch) (x1 : Int32) : CTI l (1) yX12_many cX12_many 2 ((some .int)) (fun P => [rf P 148, .int x1]) (fun σ => f_M_many x1 σ) := by
  refine met_I rfl rfl rfl (fun P => Nat.le_of_ble_eq_true rfl) (fun P G K hg σ => ?_)
  change AW P G 2 (EI P G cX12_many) (f_M_many x1 σ) σ 0 [(0, rf P 148), (1, .int x1)] []
  rw [f_M_many]
  refine aw_iload_n K 1 dX12_many_0 rfl ?_
  refine aw_ite (fun h_1 => ?_) (fun h_1 => ?_)
  · refine aw_tabIn K 44 (0) dX12_many_1 (ti_of h_1 kt_0) (by decide) (by decide) rfl (by decide) ?_
    refine aw_aload_n K 0 dX12_many_44 rfl ?_
    refine aw_getR K (c' := 149) dX12_many_45 lk_X12_7_12 fd_148_0 ?_
    refine aw_iconst K dX12_many_48 ki_0 ?_
    refine aw_ald K dX12_many_49 ad_149 (by decide) kn_0 ?_
    exact aw_iret dX12_many_50
  refine aw_ite (fun h_2 => ?_) (fun h_2 => ?_)
  · refine aw_tabIn K 51 (1) dX12_many_1 (ti_of h_2 kt_1) (by decide) (by decide) rfl (by decide) ?_
    refine aw_aload_n K 0 dX12_many_51 rfl ?_
    refine aw_getR K (c' := 149) dX12_many_52 lk_X12_7_12 fd_148_0 ?_
    refine aw_iconst K dX12_many_55 ki_1 ?_
    refine aw_ald K dX12_many_56 ad_149 (by decide) kn_1 ?_
    exact aw_iret dX12_many_57
  refine aw_ite (fun h_3 => ?_) (fun h_3 => ?_)
  · refine aw_tabIn K 58 (2) dX12_many_1 (ti_of h_3 kt_2) (by decide) (by decide) rfl (by decide) ?_
    refine aw_aload_n K 0 dX12_many_58 rfl ?_
    refine aw_getR K (c' := 149) dX12_many_59 lk_X12_7_12 fd_148_0 ?_
    refine aw_iconst K dX12_many_62 ki_4 ?_
    refine aw_ald K dX12_many_63 ad_149 (by decide) kn_4 ?_
    exact aw_iret dX12_many_64
  refine aw_ite (fun h_4 => ?_) (fun h_4 => ?_)
  · refine aw_tabIn K 65 (3) dX12_many_1 (ti_of h_4 kt_3) (by decide) (by decide) rfl (by decide) ?_
    refine aw_aload_n K 0 dX12_many_65 rfl ?_
    refine aw_getR K (c' := 149) dX12_many_66 lk_X12_7_12 fd_148_0 ?_
    refine aw_iconst K dX12_many_69 ki_3 ?_
    refine aw_ald K dX12_many_70 ad_149 (by decide) kn_3 ?_
    exact aw_iret dX12_many_71
  refine aw_ite (fun h_5 => ?_) (fun h_5 => ?_)
  · refine aw_tabIn K 72 (4) dX12_many_1 (ti_of h_5 kt_4) (by decide) (by decide) rfl (by decide) ?_
    refine aw_aload_n K 0 dX12_many_72 rfl ?_
    refine aw_getI K dX12_many_73 lk_X12_286_12 fd_148_24 ?_
    exact aw_iret dX12_many_76
  refine aw_ite (fun h_6 => ?_) (fun h_6 => ?_)
  · refine aw_tabIn K 77 (5) dX12_many_1 (ti_of h_6 kt_5) (by decide) (by decide) rfl (by decide) ?_
    refine aw_aload_n K 0 dX12_many_77 rfl ?_
    refine aw_getI K dX12_many_78 lk_X12_294_12 fd_148_26 ?_
    exact aw_iret dX12_many_81
  refine aw_ite (fun h_7 => ?_) (fun h_7 => ?_)
  · refine aw_tabIn K 82 (6) dX12_many_1 (ti_of h_7 kt_6) (by decide) (by decide) rfl (by decide) ?_
    refine aw_aload_n K 0 dX12_many_82 rfl ?_
    refine aw_callVI K dX12_many_83 vw_X12_481_12 (c_f_M_traced l) hg (by decide) ob_148 rfl (Nat.le_of_ble_eq_true rfl) rfl rfl (fun r2 σ1 _ => ?_)
    exact aw_iret dX12_many_86
  refine aw_tabOut K 87 dX12_many_1 (by have := lv_neT h_1 kt_0; have := lv_neT h_2 kt_1; have := lv_neT h_3 kt_2; have := lv_neT h_4 kt_3; have := lv_neT h_5 kt_4; have := lv_neT h_6 kt_5; have := lv_neT h_7 kt_6; omega) (by decide) ?_
  refine aw_iconst K dX12_many_87 ki_m1 ?_
  exact aw_iret dX12_many_88
set_option maxRecDepth 100000 in
set_option maxHeartbeats 4000000 in
theorem a_f_M_keep_2 (l : Launch) {P : PT} {G : GT} (K : CX P G cX12_keep RX12 (0) 2) (hg : gl G = l) : ∀ (n : Nat) (x1 : Int32) (σ : SG), AW P G 2 (EI P G cX12_keep) (f_M_keep_2 n x1 σ) σ 2 [(0, rf P 148), (1, .int x1)] [] := by
  intro n
  induction n with
  | zero =>
    intro x1 σ
    rw [f_M_keep_2]
    exact aw_none
  | succ n ih =>
    intro x1 σ
    rw [f_M_keep_2]
    refine aw_iload_n K 1 dX12_keep_2 rfl ?_
    refine aw_sipush K dX12_keep_3 ks_340 ?_
    refine aw_icmp_ge K 27 dX12_keep_6 (by decide) (fun h_1 => ?_) (fun h_1 => ?_)
    · refine aw_aload_n K 0 dX12_keep_27 rfl ?_
      refine aw_iconst K dX12_keep_28 ki_1 ?_
      refine aw_putZ K dX12_keep_29 lp_X12_484_12 fd_148_3 (by decide) (fun σ1 => ?_)
      refine aw_iconst K dX12_keep_32 ki_1 ?_
      exact aw_iret dX12_keep_33
    · refine aw_aload_n K 0 dX12_keep_9 rfl ?_
      refine aw_getR K (c' := 150) dX12_keep_10 lk_X12_13_12 fd_148_1 ?_
      refine aw_iload_n K 1 dX12_keep_13 rfl ?_
      refine aw_aload_n K 0 dX12_keep_14 rfl ?_
      refine aw_getR K (c' := 149) dX12_keep_15 lk_X12_7_12 fd_148_0 ?_
      refine aw_iload_n K 1 dX12_keep_18 rfl ?_
      refine aw_gd (fun h_2 => ?_)
      refine aw_ald K dX12_keep_19 ad_149 h_2 rfl ?_
      refine aw_gd (fun h_3 => ?_)
      refine aw_ast K dX12_keep_20 ad_150 h_3 rfl (fun σ2 => ?_)
      refine aw_iinc K (lv' := fun y3 => [(1, .int y3), (0, rf P 148)]) 1 dX12_keep_21 rfl ki_1 (Nat.le_of_ble_eq_true rfl) (fun _ => rfl) (fun y3 => ?_)
      refine aw_goto K 2 dX12_keep_24 (by decide) ?_
      refine aw_lv [1, 0] rfl ?_
      exact ih _ _
set_option maxRecDepth 100000 in
set_option maxHeartbeats 4000000 in
theorem c_f_M_keep (l : Launch) : CTI l (0) yX12_keep cX12_keep 2 ((some .int)) (fun P => [rf P 148]) (fun σ => f_M_keep σ) := by
  refine met_I rfl rfl rfl (fun P => Nat.le_of_ble_eq_true rfl) (fun P G K hg σ => ?_)
  change AW P G 2 (EI P G cX12_keep) (f_M_keep σ) σ 0 [(0, rf P 148)] []
  rw [f_M_keep]
  refine aw_iconst K dX12_keep_0 ki_0 ?_
  refine aw_istore_n K (i := 1) (lv' := [(1, .int (0 : Int32)), (0, rf P 148)]) dX12_keep_1 rfl (Nat.le_of_ble_eq_true rfl) rfl ?_
  refine aw_lv [1, 0] rfl ?_
  exact (a_f_M_keep_2 l K hg FU) _ _
set_option maxRecDepth 100000 in
set_option maxHeartbeats 4000000 in
theorem a_f_M_again_12 (l : Launch) {P : PT} {G : GT} (K : CX P G cX12_again RX12 (0) 2) (hg : gl G = l) : ∀ (n : Nat) (x1 : Int32) (σ : SG), AW P G 2 (EI P G cX12_again) (f_M_again_12 n x1 σ) σ 12 [(0, rf P 148), (1, .int x1)] [] := by
  intro n
  induction n with
  | zero =>
    intro x1 σ
    rw [f_M_again_12]
    exact aw_none
  | succ n ih =>
    intro x1 σ
    rw [f_M_again_12]
    refine aw_iload_n K 1 dX12_again_12 rfl ?_
    refine aw_sipush K dX12_again_13 ks_340 ?_
    refine aw_icmp_ge K 37 dX12_again_16 (by decide) (fun h_1 => ?_) (fun h_1 => ?_)
    · refine aw_aload_n K 0 dX12_again_37 rfl ?_
      refine aw_getR K (c' := 149) dX12_again_38 lk_X12_7_12 fd_148_0 ?_
      refine aw_iconst K dX12_again_41 ki_0 ?_
      refine aw_ald K dX12_again_42 ad_149 (by decide) kn_0 ?_
      exact aw_iret dX12_again_43
    · refine aw_aload_n K 0 dX12_again_19 rfl ?_
      refine aw_getR K (c' := 149) dX12_again_20 lk_X12_7_12 fd_148_0 ?_
      refine aw_iload_n K 1 dX12_again_23 rfl ?_
      refine aw_aload_n K 0 dX12_again_24 rfl ?_
      refine aw_getR K (c' := 150) dX12_again_25 lk_X12_13_12 fd_148_1 ?_
      refine aw_iload_n K 1 dX12_again_28 rfl ?_
      refine aw_gd (fun h_2 => ?_)
      refine aw_ald K dX12_again_29 ad_150 h_2 rfl ?_
      refine aw_gd (fun h_3 => ?_)
      refine aw_ast K dX12_again_30 ad_149 h_3 rfl (fun σ1 => ?_)
      refine aw_iinc K (lv' := fun y2 => [(1, .int y2), (0, rf P 148)]) 1 dX12_again_31 rfl ki_1 (Nat.le_of_ble_eq_true rfl) (fun _ => rfl) (fun y2 => ?_)
      refine aw_goto K 12 dX12_again_34 (by decide) ?_
      refine aw_lv [1, 0] rfl ?_
      exact ih _ _
set_option maxRecDepth 100000 in
set_option maxHeartbeats 4000000 in
theorem c_f_M_again (l : Launch) : CTI l (0) yX12_again cX12_again 2 ((some .int)) (fun P => [rf P 148]) (fun σ => f_M_again σ) := by
  refine met_I rfl rfl rfl (fun P => Nat.le_of_ble_eq_true rfl) (fun P G K hg σ => ?_)
  change AW P G 2 (EI P G cX12_again) (f_M_again σ) σ 0 [(0, rf P 148)] []
  rw [f_M_again]
  refine aw_aload_n K 0 dX12_again_0 rfl ?_
  refine aw_getZ K dX12_again_1 lk_X12_484_12 fd_148_3 ?_
  refine aw_if_ne K 10 dX12_again_4 (by decide) (fun h_1 => ?_) (fun h_1 => ?_)
  · refine aw_iconst K dX12_again_10 ki_0 ?_
    refine aw_istore_n K (i := 1) (lv' := [(1, .int (0 : Int32)), (0, rf P 148)]) dX12_again_11 rfl (Nat.le_of_ble_eq_true rfl) rfl ?_
    refine aw_lv [1, 0] rfl ?_
    exact (a_f_M_again_12 l K hg FU) _ _
  · refine aw_bipush K dX12_again_7 kb_m3 ?_
    exact aw_iret dX12_again_9
set_option maxRecDepth 100000 in
set_option maxHeartbeats 4000000 in
theorem a_f_L_law_446 (l : Launch) {b N : Nat} {xs : Nat → Int32} {P : PT} {G : GT} (K : CX P G cL_law RL (100) 4) (hg : gl G = l) (hX : SX P G b N xs) {K18 : Int32 → SG → Option (Int32 × SG)} (hK18 : ∀ (x3 : Int32) (σ : SG), AW P G 4 (EI P G cL_law) (K18 x3 σ) σ 18 [(0, .ref b), (1, rf P 0), (2, rf P 148), (3, .int x3)] []) : ∀ (x3 : Int32) (xs0 : Int32) (xs1 : Int32) (xs2 : Int32) (σ : SG), AW P G 4 (EI P G cL_law) (f_L_law_446 N xs K18 x3 xs0 xs1 xs2 σ) σ 446 [(0, .ref b), (1, rf P 0), (2, rf P 148), (3, .int x3)] [.int xs0, .int xs1, .int xs2, rf P 0] := by
  intro x3 xs0 xs1 xs2 σ
  rw [f_L_law_446]
  refine aw_callVI K dL_law_446 vw_L_32_11 (c_f_H_meets l _ _ _) hg (by decide) ob_0 rfl (Nat.le_of_ble_eq_true rfl) rfl rfl (fun r2 σ1 _ => ?_)
  refine aw_aload_n K 2 dL_law_449 rfl ?_
  refine aw_aload_n K 0 dL_law_450 rfl ?_
  refine aw_iload_n K 3 dL_law_451 rfl ?_
  refine aw_iconst K dL_law_452 ki_1 ?_
  refine aw_iadd K dL_law_453 ?_
  refine aw_gd (fun h_1 => ?_)
  refine aw_aldX K hX dL_law_454 h_1 ?_
  refine aw_aload_n K 0 dL_law_455 rfl ?_
  refine aw_iload_n K 3 dL_law_456 rfl ?_
  refine aw_iconst K dL_law_457 ki_2 ?_
  refine aw_iadd K dL_law_458 ?_
  refine aw_gd (fun h_2 => ?_)
  refine aw_aldX K hX dL_law_459 h_2 ?_
  refine aw_aload_n K 0 dL_law_460 rfl ?_
  refine aw_iload_n K 3 dL_law_461 rfl ?_
  refine aw_iconst K dL_law_462 ki_3 ?_
  refine aw_iadd K dL_law_463 ?_
  refine aw_gd (fun h_3 => ?_)
  refine aw_aldX K hX dL_law_464 h_3 ?_
  refine aw_if_eq K 472 dL_law_465 (by decide) (fun h_4 => ?_) (fun h_4 => ?_)
  · refine aw_iconst K dL_law_472 ki_0 ?_
    refine aw_callVI K dL_law_473 vw_L_36_12 (c_f_M_meets l _ _ _) hg (by decide) ob_148 rfl (Nat.le_of_ble_eq_true rfl) rfl rfl (fun r4 σ3 _ => ?_)
    refine aw_icmp_eq K 1785 dL_law_476 (by decide) (fun h_5 => ?_) (fun h_5 => ?_)
    · refine aw_iinc K (lv' := fun y5 => [(3, .int y5), (0, .ref b), (1, rf P 0), (2, rf P 148)]) 3 dL_law_1785 rfl ki_5 (Nat.le_of_ble_eq_true rfl) (fun _ => rfl) (fun y5 => ?_)
      refine aw_goto K 18 dL_law_1788 (by decide) ?_
      refine aw_lv [1, 2, 3, 0] rfl ?_
      exact hK18 _ _
    · refine aw_iconst K dL_law_479 ki_0 ?_
      exact aw_iret dL_law_480
  · refine aw_iconst K dL_law_468 ki_1 ?_
    refine aw_goto K 473 dL_law_469 (by decide) ?_
    refine aw_callVI K dL_law_473 vw_L_36_12 (c_f_M_meets l _ _ _) hg (by decide) ob_148 rfl (Nat.le_of_ble_eq_true rfl) rfl rfl (fun r7 σ6 _ => ?_)
    refine aw_icmp_eq K 1785 dL_law_476 (by decide) (fun h_6 => ?_) (fun h_6 => ?_)
    · refine aw_iinc K (lv' := fun y8 => [(3, .int y8), (0, .ref b), (1, rf P 0), (2, rf P 148)]) 3 dL_law_1785 rfl ki_5 (Nat.le_of_ble_eq_true rfl) (fun _ => rfl) (fun y8 => ?_)
      refine aw_goto K 18 dL_law_1788 (by decide) ?_
      refine aw_lv [1, 2, 3, 0] rfl ?_
      exact hK18 _ _
    · refine aw_iconst K dL_law_479 ki_0 ?_
      exact aw_iret dL_law_480
set_option maxRecDepth 100000 in
set_option maxHeartbeats 4000000 in
theorem a_f_L_law_18 (l : Launch) {b N : Nat} {xs : Nat → Int32} {P : PT} {G : GT} (K : CX P G cL_law RL (100) 4) (hg : gl G = l) (hX : SX P G b N xs) : ∀ (n : Nat) (x3 : Int32) (σ : SG), AW P G 4 (EI P G cL_law) (f_L_law_18 N xs n x3 σ) σ 18 [(0, .ref b), (1, rf P 0), (2, rf P 148), (3, .int x3)] [] := by
  intro n
  induction n with
  | zero =>
    intro x3 σ
    rw [f_L_law_18]
    exact aw_none
  | succ n ih =>
    intro x3 σ
    rw [f_L_law_18]
    refine aw_iload_n K 3 dL_law_18 rfl ?_
    refine aw_aload_n K 0 dL_law_19 rfl ?_
    refine aw_alenX K hX dL_law_20 ?_
    refine aw_iconst K dL_law_21 ki_5 ?_
    refine aw_isub K dL_law_22 ?_
    refine aw_icmp_gt K 1791 dL_law_23 (by decide) (fun h_1 => ?_) (fun h_1 => ?_)
    · refine aw_iconst K dL_law_1791 ki_1 ?_
      exact aw_iret dL_law_1792
    · refine aw_aload_n K 0 dL_law_26 rfl ?_
      refine aw_iload_n K 3 dL_law_27 rfl ?_
      refine aw_gd (fun h_2 => ?_)
      refine aw_aldX K hX dL_law_28 h_2 ?_
      refine aw_bipush K dL_law_29 kb_63 ?_
      refine aw_iand K dL_law_31 ?_
      refine aw_ite (fun h_3 => ?_) (fun h_3 => ?_)
      · refine aw_tabIn K 260 (0) dL_law_32 (ti_of h_3 kt_0) (by decide) (by decide) rfl (by decide) ?_
        refine aw_aload_n K 1 dL_law_260 rfl ?_
        refine aw_aload_n K 0 dL_law_261 rfl ?_
        refine aw_iload_n K 3 dL_law_262 rfl ?_
        refine aw_iconst K dL_law_263 ki_1 ?_
        refine aw_iadd K dL_law_264 ?_
        refine aw_gd (fun h_4 => ?_)
        refine aw_aldX K hX dL_law_265 h_4 ?_
        refine aw_aload_n K 0 dL_law_266 rfl ?_
        refine aw_iload_n K 3 dL_law_267 rfl ?_
        refine aw_iconst K dL_law_268 ki_2 ?_
        refine aw_iadd K dL_law_269 ?_
        refine aw_gd (fun h_5 => ?_)
        refine aw_aldX K hX dL_law_270 h_5 ?_
        refine aw_aload_n K 0 dL_law_271 rfl ?_
        refine aw_iload_n K 3 dL_law_272 rfl ?_
        refine aw_iconst K dL_law_273 ki_3 ?_
        refine aw_iadd K dL_law_274 ?_
        refine aw_gd (fun h_6 => ?_)
        refine aw_aldX K hX dL_law_275 h_6 ?_
        refine aw_aload_n K 0 dL_law_276 rfl ?_
        refine aw_iload_n K 3 dL_law_277 rfl ?_
        refine aw_iconst K dL_law_278 ki_4 ?_
        refine aw_iadd K dL_law_279 ?_
        refine aw_gd (fun h_7 => ?_)
        refine aw_aldX K hX dL_law_280 h_7 ?_
        refine aw_callVI K dL_law_281 vw_L_13_11 (c_f_H_person l _ _ _ _) hg (by decide) ob_0 rfl (Nat.le_of_ble_eq_true rfl) rfl rfl (fun r2 σ1 _ => ?_)
        refine aw_aload_n K 2 dL_law_284 rfl ?_
        refine aw_aload_n K 0 dL_law_285 rfl ?_
        refine aw_iload_n K 3 dL_law_286 rfl ?_
        refine aw_iconst K dL_law_287 ki_1 ?_
        refine aw_iadd K dL_law_288 ?_
        refine aw_gd (fun h_8 => ?_)
        refine aw_aldX K hX dL_law_289 h_8 ?_
        refine aw_aload_n K 0 dL_law_290 rfl ?_
        refine aw_iload_n K 3 dL_law_291 rfl ?_
        refine aw_iconst K dL_law_292 ki_2 ?_
        refine aw_iadd K dL_law_293 ?_
        refine aw_gd (fun h_9 => ?_)
        refine aw_aldX K hX dL_law_294 h_9 ?_
        refine aw_aload_n K 0 dL_law_295 rfl ?_
        refine aw_iload_n K 3 dL_law_296 rfl ?_
        refine aw_iconst K dL_law_297 ki_3 ?_
        refine aw_iadd K dL_law_298 ?_
        refine aw_gd (fun h_10 => ?_)
        refine aw_aldX K hX dL_law_299 h_10 ?_
        refine aw_aload_n K 0 dL_law_300 rfl ?_
        refine aw_iload_n K 3 dL_law_301 rfl ?_
        refine aw_iconst K dL_law_302 ki_4 ?_
        refine aw_iadd K dL_law_303 ?_
        refine aw_gd (fun h_11 => ?_)
        refine aw_aldX K hX dL_law_304 h_11 ?_
        refine aw_callVI K dL_law_305 vw_L_17_12 (c_f_M_person l _ _ _ _) hg (by decide) ob_148 rfl (Nat.le_of_ble_eq_true rfl) rfl rfl (fun r4 σ3 _ => ?_)
        refine aw_icmp_eq K 1785 dL_law_308 (by decide) (fun h_12 => ?_) (fun h_12 => ?_)
        · refine aw_iinc K (lv' := fun y5 => [(3, .int y5), (0, .ref b), (1, rf P 0), (2, rf P 148)]) 3 dL_law_1785 rfl ki_5 (Nat.le_of_ble_eq_true rfl) (fun _ => rfl) (fun y5 => ?_)
          refine aw_goto K 18 dL_law_1788 (by decide) ?_
          refine aw_lv [1, 2, 3, 0] rfl ?_
          exact ih _ _
        · refine aw_iconst K dL_law_311 ki_0 ?_
          exact aw_iret dL_law_312
      refine aw_ite (fun h_13 => ?_) (fun h_13 => ?_)
      · refine aw_tabIn K 313 (1) dL_law_32 (ti_of h_13 kt_1) (by decide) (by decide) rfl (by decide) ?_
        refine aw_aload_n K 1 dL_law_313 rfl ?_
        refine aw_aload_n K 0 dL_law_314 rfl ?_
        refine aw_iload_n K 3 dL_law_315 rfl ?_
        refine aw_iconst K dL_law_316 ki_1 ?_
        refine aw_iadd K dL_law_317 ?_
        refine aw_gd (fun h_14 => ?_)
        refine aw_aldX K hX dL_law_318 h_14 ?_
        refine aw_aload_n K 0 dL_law_319 rfl ?_
        refine aw_iload_n K 3 dL_law_320 rfl ?_
        refine aw_iconst K dL_law_321 ki_2 ?_
        refine aw_iadd K dL_law_322 ?_
        refine aw_gd (fun h_15 => ?_)
        refine aw_aldX K hX dL_law_323 h_15 ?_
        refine aw_callVI K dL_law_324 vw_L_18_11 (c_f_H_personOf l _ _) hg (by decide) ob_0 rfl (Nat.le_of_ble_eq_true rfl) rfl rfl (fun r7 σ6 _ => ?_)
        refine aw_aload_n K 2 dL_law_327 rfl ?_
        refine aw_aload_n K 0 dL_law_328 rfl ?_
        refine aw_iload_n K 3 dL_law_329 rfl ?_
        refine aw_iconst K dL_law_330 ki_1 ?_
        refine aw_iadd K dL_law_331 ?_
        refine aw_gd (fun h_16 => ?_)
        refine aw_aldX K hX dL_law_332 h_16 ?_
        refine aw_aload_n K 0 dL_law_333 rfl ?_
        refine aw_iload_n K 3 dL_law_334 rfl ?_
        refine aw_iconst K dL_law_335 ki_2 ?_
        refine aw_iadd K dL_law_336 ?_
        refine aw_gd (fun h_17 => ?_)
        refine aw_aldX K hX dL_law_337 h_17 ?_
        refine aw_callVI K dL_law_338 vw_L_22_12 (c_f_M_personOf l _ _) hg (by decide) ob_148 rfl (Nat.le_of_ble_eq_true rfl) rfl rfl (fun r9 σ8 _ => ?_)
        refine aw_icmp_eq K 1785 dL_law_341 (by decide) (fun h_18 => ?_) (fun h_18 => ?_)
        · refine aw_iinc K (lv' := fun y10 => [(3, .int y10), (0, .ref b), (1, rf P 0), (2, rf P 148)]) 3 dL_law_1785 rfl ki_5 (Nat.le_of_ble_eq_true rfl) (fun _ => rfl) (fun y10 => ?_)
          refine aw_goto K 18 dL_law_1788 (by decide) ?_
          refine aw_lv [1, 2, 3, 0] rfl ?_
          exact ih _ _
        · refine aw_iconst K dL_law_344 ki_0 ?_
          exact aw_iret dL_law_345
      refine aw_ite (fun h_19 => ?_) (fun h_19 => ?_)
      · refine aw_tabIn K 346 (2) dL_law_32 (ti_of h_19 kt_2) (by decide) (by decide) rfl (by decide) ?_
        refine aw_aload_n K 1 dL_law_346 rfl ?_
        refine aw_aload_n K 0 dL_law_347 rfl ?_
        refine aw_iload_n K 3 dL_law_348 rfl ?_
        refine aw_iconst K dL_law_349 ki_1 ?_
        refine aw_iadd K dL_law_350 ?_
        refine aw_gd (fun h_20 => ?_)
        refine aw_aldX K hX dL_law_351 h_20 ?_
        refine aw_aload_n K 0 dL_law_352 rfl ?_
        refine aw_iload_n K 3 dL_law_353 rfl ?_
        refine aw_iconst K dL_law_354 ki_2 ?_
        refine aw_iadd K dL_law_355 ?_
        refine aw_gd (fun h_21 => ?_)
        refine aw_aldX K hX dL_law_356 h_21 ?_
        refine aw_aload_n K 0 dL_law_357 rfl ?_
        refine aw_iload_n K 3 dL_law_358 rfl ?_
        refine aw_iconst K dL_law_359 ki_3 ?_
        refine aw_iadd K dL_law_360 ?_
        refine aw_gd (fun h_22 => ?_)
        refine aw_aldX K hX dL_law_361 h_22 ?_
        refine aw_callVI K dL_law_362 vw_L_23_11 (c_f_H_change l _ _ _) hg (by decide) ob_0 rfl (Nat.le_of_ble_eq_true rfl) rfl rfl (fun r12 σ11 _ => ?_)
        refine aw_aload_n K 2 dL_law_365 rfl ?_
        refine aw_aload_n K 0 dL_law_366 rfl ?_
        refine aw_iload_n K 3 dL_law_367 rfl ?_
        refine aw_iconst K dL_law_368 ki_1 ?_
        refine aw_iadd K dL_law_369 ?_
        refine aw_gd (fun h_23 => ?_)
        refine aw_aldX K hX dL_law_370 h_23 ?_
        refine aw_aload_n K 0 dL_law_371 rfl ?_
        refine aw_iload_n K 3 dL_law_372 rfl ?_
        refine aw_iconst K dL_law_373 ki_2 ?_
        refine aw_iadd K dL_law_374 ?_
        refine aw_gd (fun h_24 => ?_)
        refine aw_aldX K hX dL_law_375 h_24 ?_
        refine aw_aload_n K 0 dL_law_376 rfl ?_
        refine aw_iload_n K 3 dL_law_377 rfl ?_
        refine aw_iconst K dL_law_378 ki_3 ?_
        refine aw_iadd K dL_law_379 ?_
        refine aw_gd (fun h_25 => ?_)
        refine aw_aldX K hX dL_law_380 h_25 ?_
        refine aw_callVI K dL_law_381 vw_L_27_12 (c_f_M_change l _ _ _) hg (by decide) ob_148 rfl (Nat.le_of_ble_eq_true rfl) rfl rfl (fun r14 σ13 _ => ?_)
        refine aw_icmp_eq K 1785 dL_law_384 (by decide) (fun h_26 => ?_) (fun h_26 => ?_)
        · refine aw_iinc K (lv' := fun y15 => [(3, .int y15), (0, .ref b), (1, rf P 0), (2, rf P 148)]) 3 dL_law_1785 rfl ki_5 (Nat.le_of_ble_eq_true rfl) (fun _ => rfl) (fun y15 => ?_)
          refine aw_goto K 18 dL_law_1788 (by decide) ?_
          refine aw_lv [1, 2, 3, 0] rfl ?_
          exact ih _ _
        · refine aw_iconst K dL_law_387 ki_0 ?_
          exact aw_iret dL_law_388
      refine aw_ite (fun h_27 => ?_) (fun h_27 => ?_)
      · refine aw_tabIn K 389 (3) dL_law_32 (ti_of h_27 kt_3) (by decide) (by decide) rfl (by decide) ?_
        refine aw_aload_n K 1 dL_law_389 rfl ?_
        refine aw_aload_n K 0 dL_law_390 rfl ?_
        refine aw_iload_n K 3 dL_law_391 rfl ?_
        refine aw_iconst K dL_law_392 ki_1 ?_
        refine aw_iadd K dL_law_393 ?_
        refine aw_gd (fun h_28 => ?_)
        refine aw_aldX K hX dL_law_394 h_28 ?_
        refine aw_aload_n K 0 dL_law_395 rfl ?_
        refine aw_iload_n K 3 dL_law_396 rfl ?_
        refine aw_iconst K dL_law_397 ki_2 ?_
        refine aw_iadd K dL_law_398 ?_
        refine aw_gd (fun h_29 => ?_)
        refine aw_aldX K hX dL_law_399 h_29 ?_
        refine aw_callVI K dL_law_400 vw_L_28_11 (c_f_H_remake l _ _) hg (by decide) ob_0 rfl (Nat.le_of_ble_eq_true rfl) rfl rfl (fun r17 σ16 _ => ?_)
        refine aw_aload_n K 2 dL_law_403 rfl ?_
        refine aw_aload_n K 0 dL_law_404 rfl ?_
        refine aw_iload_n K 3 dL_law_405 rfl ?_
        refine aw_iconst K dL_law_406 ki_1 ?_
        refine aw_iadd K dL_law_407 ?_
        refine aw_gd (fun h_30 => ?_)
        refine aw_aldX K hX dL_law_408 h_30 ?_
        refine aw_aload_n K 0 dL_law_409 rfl ?_
        refine aw_iload_n K 3 dL_law_410 rfl ?_
        refine aw_iconst K dL_law_411 ki_2 ?_
        refine aw_iadd K dL_law_412 ?_
        refine aw_gd (fun h_31 => ?_)
        refine aw_aldX K hX dL_law_413 h_31 ?_
        refine aw_callVI K dL_law_414 vw_L_31_12 (c_f_M_remake l _ _) hg (by decide) ob_148 rfl (Nat.le_of_ble_eq_true rfl) rfl rfl (fun r19 σ18 _ => ?_)
        refine aw_icmp_eq K 1785 dL_law_417 (by decide) (fun h_32 => ?_) (fun h_32 => ?_)
        · refine aw_iinc K (lv' := fun y20 => [(3, .int y20), (0, .ref b), (1, rf P 0), (2, rf P 148)]) 3 dL_law_1785 rfl ki_5 (Nat.le_of_ble_eq_true rfl) (fun _ => rfl) (fun y20 => ?_)
          refine aw_goto K 18 dL_law_1788 (by decide) ?_
          refine aw_lv [1, 2, 3, 0] rfl ?_
          exact ih _ _
        · refine aw_iconst K dL_law_420 ki_0 ?_
          exact aw_iret dL_law_421
      refine aw_ite (fun h_33 => ?_) (fun h_33 => ?_)
      · refine aw_tabIn K 422 (4) dL_law_32 (ti_of h_33 kt_4) (by decide) (by decide) rfl (by decide) ?_
        refine aw_aload_n K 1 dL_law_422 rfl ?_
        refine aw_aload_n K 0 dL_law_423 rfl ?_
        refine aw_iload_n K 3 dL_law_424 rfl ?_
        refine aw_iconst K dL_law_425 ki_1 ?_
        refine aw_iadd K dL_law_426 ?_
        refine aw_gd (fun h_34 => ?_)
        refine aw_aldX K hX dL_law_427 h_34 ?_
        refine aw_aload_n K 0 dL_law_428 rfl ?_
        refine aw_iload_n K 3 dL_law_429 rfl ?_
        refine aw_iconst K dL_law_430 ki_2 ?_
        refine aw_iadd K dL_law_431 ?_
        refine aw_gd (fun h_35 => ?_)
        refine aw_aldX K hX dL_law_432 h_35 ?_
        refine aw_aload_n K 0 dL_law_433 rfl ?_
        refine aw_iload_n K 3 dL_law_434 rfl ?_
        refine aw_iconst K dL_law_435 ki_3 ?_
        refine aw_iadd K dL_law_436 ?_
        refine aw_gd (fun h_36 => ?_)
        refine aw_aldX K hX dL_law_437 h_36 ?_
        refine aw_if_eq K 445 dL_law_438 (by decide) (fun h_37 => ?_) (fun h_37 => ?_)
        · refine aw_iconst K dL_law_445 ki_0 ?_
          refine aw_lv [0, 1, 2, 3] rfl ?_
          exact (a_f_L_law_446 l K hg hX ih) _ _ _ _ _
        · refine aw_iconst K dL_law_441 ki_1 ?_
          refine aw_goto K 446 dL_law_442 (by decide) ?_
          refine aw_lv [0, 1, 2, 3] rfl ?_
          exact (a_f_L_law_446 l K hg hX ih) _ _ _ _ _
      refine aw_ite (fun h_38 => ?_) (fun h_38 => ?_)
      · refine aw_tabIn K 481 (5) dL_law_32 (ti_of h_38 kt_5) (by decide) (by decide) rfl (by decide) ?_
        refine aw_aload_n K 1 dL_law_481 rfl ?_
        refine aw_aload_n K 0 dL_law_482 rfl ?_
        refine aw_iload_n K 3 dL_law_483 rfl ?_
        refine aw_iconst K dL_law_484 ki_1 ?_
        refine aw_iadd K dL_law_485 ?_
        refine aw_gd (fun h_39 => ?_)
        refine aw_aldX K hX dL_law_486 h_39 ?_
        refine aw_aload_n K 0 dL_law_487 rfl ?_
        refine aw_iload_n K 3 dL_law_488 rfl ?_
        refine aw_iconst K dL_law_489 ki_2 ?_
        refine aw_iadd K dL_law_490 ?_
        refine aw_gd (fun h_40 => ?_)
        refine aw_aldX K hX dL_law_491 h_40 ?_
        refine aw_callVI K dL_law_492 vw_L_37_11 (c_f_H_worth l _ _) hg (by decide) ob_0 rfl (Nat.le_of_ble_eq_true rfl) rfl rfl (fun r22 σ21 _ => ?_)
        refine aw_aload_n K 2 dL_law_495 rfl ?_
        refine aw_aload_n K 0 dL_law_496 rfl ?_
        refine aw_iload_n K 3 dL_law_497 rfl ?_
        refine aw_iconst K dL_law_498 ki_1 ?_
        refine aw_iadd K dL_law_499 ?_
        refine aw_gd (fun h_41 => ?_)
        refine aw_aldX K hX dL_law_500 h_41 ?_
        refine aw_aload_n K 0 dL_law_501 rfl ?_
        refine aw_iload_n K 3 dL_law_502 rfl ?_
        refine aw_iconst K dL_law_503 ki_2 ?_
        refine aw_iadd K dL_law_504 ?_
        refine aw_gd (fun h_42 => ?_)
        refine aw_aldX K hX dL_law_505 h_42 ?_
        refine aw_callVI K dL_law_506 vw_L_40_12 (c_f_M_worth l _ _) hg (by decide) ob_148 rfl (Nat.le_of_ble_eq_true rfl) rfl rfl (fun r24 σ23 _ => ?_)
        refine aw_icmp_eq K 1785 dL_law_509 (by decide) (fun h_43 => ?_) (fun h_43 => ?_)
        · refine aw_iinc K (lv' := fun y25 => [(3, .int y25), (0, .ref b), (1, rf P 0), (2, rf P 148)]) 3 dL_law_1785 rfl ki_5 (Nat.le_of_ble_eq_true rfl) (fun _ => rfl) (fun y25 => ?_)
          refine aw_goto K 18 dL_law_1788 (by decide) ?_
          refine aw_lv [1, 2, 3, 0] rfl ?_
          exact ih _ _
        · refine aw_iconst K dL_law_512 ki_0 ?_
          exact aw_iret dL_law_513
      refine aw_ite (fun h_44 => ?_) (fun h_44 => ?_)
      · refine aw_tabIn K 514 (6) dL_law_32 (ti_of h_44 kt_6) (by decide) (by decide) rfl (by decide) ?_
        refine aw_aload_n K 1 dL_law_514 rfl ?_
        refine aw_aload_n K 0 dL_law_515 rfl ?_
        refine aw_iload_n K 3 dL_law_516 rfl ?_
        refine aw_iconst K dL_law_517 ki_1 ?_
        refine aw_iadd K dL_law_518 ?_
        refine aw_gd (fun h_45 => ?_)
        refine aw_aldX K hX dL_law_519 h_45 ?_
        refine aw_aload_n K 0 dL_law_520 rfl ?_
        refine aw_iload_n K 3 dL_law_521 rfl ?_
        refine aw_iconst K dL_law_522 ki_2 ?_
        refine aw_iadd K dL_law_523 ?_
        refine aw_gd (fun h_46 => ?_)
        refine aw_aldX K hX dL_law_524 h_46 ?_
        refine aw_callVI K dL_law_525 vw_L_41_11 (c_f_H_jar l _ _) hg (by decide) ob_0 rfl (Nat.le_of_ble_eq_true rfl) rfl rfl (fun r27 σ26 _ => ?_)
        refine aw_aload_n K 2 dL_law_528 rfl ?_
        refine aw_aload_n K 0 dL_law_529 rfl ?_
        refine aw_iload_n K 3 dL_law_530 rfl ?_
        refine aw_iconst K dL_law_531 ki_1 ?_
        refine aw_iadd K dL_law_532 ?_
        refine aw_gd (fun h_47 => ?_)
        refine aw_aldX K hX dL_law_533 h_47 ?_
        refine aw_aload_n K 0 dL_law_534 rfl ?_
        refine aw_iload_n K 3 dL_law_535 rfl ?_
        refine aw_iconst K dL_law_536 ki_2 ?_
        refine aw_iadd K dL_law_537 ?_
        refine aw_gd (fun h_48 => ?_)
        refine aw_aldX K hX dL_law_538 h_48 ?_
        refine aw_callVI K dL_law_539 vw_L_44_12 (c_f_M_jar l _ _) hg (by decide) ob_148 rfl (Nat.le_of_ble_eq_true rfl) rfl rfl (fun r29 σ28 _ => ?_)
        refine aw_icmp_eq K 1785 dL_law_542 (by decide) (fun h_49 => ?_) (fun h_49 => ?_)
        · refine aw_iinc K (lv' := fun y30 => [(3, .int y30), (0, .ref b), (1, rf P 0), (2, rf P 148)]) 3 dL_law_1785 rfl ki_5 (Nat.le_of_ble_eq_true rfl) (fun _ => rfl) (fun y30 => ?_)
          refine aw_goto K 18 dL_law_1788 (by decide) ?_
          refine aw_lv [1, 2, 3, 0] rfl ?_
          exact ih _ _
        · refine aw_iconst K dL_law_545 ki_0 ?_
          exact aw_iret dL_law_546
      refine aw_ite (fun h_50 => ?_) (fun h_50 => ?_)
      · refine aw_tabIn K 547 (7) dL_law_32 (ti_of h_50 kt_7) (by decide) (by decide) rfl (by decide) ?_
        refine aw_aload_n K 1 dL_law_547 rfl ?_
        refine aw_aload_n K 0 dL_law_548 rfl ?_
        refine aw_iload_n K 3 dL_law_549 rfl ?_
        refine aw_iconst K dL_law_550 ki_1 ?_
        refine aw_iadd K dL_law_551 ?_
        refine aw_gd (fun h_51 => ?_)
        refine aw_aldX K hX dL_law_552 h_51 ?_
        refine aw_callVI K dL_law_553 vw_L_45_11 (c_f_H_fee l _) hg (by decide) ob_0 rfl (Nat.le_of_ble_eq_true rfl) rfl rfl (fun r32 σ31 _ => ?_)
        refine aw_aload_n K 2 dL_law_556 rfl ?_
        refine aw_aload_n K 0 dL_law_557 rfl ?_
        refine aw_iload_n K 3 dL_law_558 rfl ?_
        refine aw_iconst K dL_law_559 ki_1 ?_
        refine aw_iadd K dL_law_560 ?_
        refine aw_gd (fun h_52 => ?_)
        refine aw_aldX K hX dL_law_561 h_52 ?_
        refine aw_callVI K dL_law_562 vw_L_49_12 (c_f_M_fee l _) hg (by decide) ob_148 rfl (Nat.le_of_ble_eq_true rfl) rfl rfl (fun r34 σ33 _ => ?_)
        refine aw_icmp_eq K 1785 dL_law_565 (by decide) (fun h_53 => ?_) (fun h_53 => ?_)
        · refine aw_iinc K (lv' := fun y35 => [(3, .int y35), (0, .ref b), (1, rf P 0), (2, rf P 148)]) 3 dL_law_1785 rfl ki_5 (Nat.le_of_ble_eq_true rfl) (fun _ => rfl) (fun y35 => ?_)
          refine aw_goto K 18 dL_law_1788 (by decide) ?_
          refine aw_lv [1, 2, 3, 0] rfl ?_
          exact ih _ _
        · refine aw_iconst K dL_law_568 ki_0 ?_
          exact aw_iret dL_law_569
      refine aw_ite (fun h_54 => ?_) (fun h_54 => ?_)
      · refine aw_tabIn K 570 (8) dL_law_32 (ti_of h_54 kt_8) (by decide) (by decide) rfl (by decide) ?_
        refine aw_aload_n K 1 dL_law_570 rfl ?_
        refine aw_aload_n K 0 dL_law_571 rfl ?_
        refine aw_iload_n K 3 dL_law_572 rfl ?_
        refine aw_iconst K dL_law_573 ki_1 ?_
        refine aw_iadd K dL_law_574 ?_
        refine aw_gd (fun h_55 => ?_)
        refine aw_aldX K hX dL_law_575 h_55 ?_
        refine aw_aload_n K 0 dL_law_576 rfl ?_
        refine aw_iload_n K 3 dL_law_577 rfl ?_
        refine aw_iconst K dL_law_578 ki_2 ?_
        refine aw_iadd K dL_law_579 ?_
        refine aw_gd (fun h_56 => ?_)
        refine aw_aldX K hX dL_law_580 h_56 ?_
        refine aw_callVI K dL_law_581 vw_L_50_11 (c_f_H_thing l _ _) hg (by decide) ob_0 rfl (Nat.le_of_ble_eq_true rfl) rfl rfl (fun r37 σ36 _ => ?_)
        refine aw_aload_n K 2 dL_law_584 rfl ?_
        refine aw_aload_n K 0 dL_law_585 rfl ?_
        refine aw_iload_n K 3 dL_law_586 rfl ?_
        refine aw_iconst K dL_law_587 ki_1 ?_
        refine aw_iadd K dL_law_588 ?_
        refine aw_gd (fun h_57 => ?_)
        refine aw_aldX K hX dL_law_589 h_57 ?_
        refine aw_aload_n K 0 dL_law_590 rfl ?_
        refine aw_iload_n K 3 dL_law_591 rfl ?_
        refine aw_iconst K dL_law_592 ki_2 ?_
        refine aw_iadd K dL_law_593 ?_
        refine aw_gd (fun h_58 => ?_)
        refine aw_aldX K hX dL_law_594 h_58 ?_
        refine aw_callVI K dL_law_595 vw_L_53_12 (c_f_M_thing l _ _) hg (by decide) ob_148 rfl (Nat.le_of_ble_eq_true rfl) rfl rfl (fun r39 σ38 _ => ?_)
        refine aw_icmp_eq K 1785 dL_law_598 (by decide) (fun h_59 => ?_) (fun h_59 => ?_)
        · refine aw_iinc K (lv' := fun y40 => [(3, .int y40), (0, .ref b), (1, rf P 0), (2, rf P 148)]) 3 dL_law_1785 rfl ki_5 (Nat.le_of_ble_eq_true rfl) (fun _ => rfl) (fun y40 => ?_)
          refine aw_goto K 18 dL_law_1788 (by decide) ?_
          refine aw_lv [1, 2, 3, 0] rfl ?_
          exact ih _ _
        · refine aw_iconst K dL_law_601 ki_0 ?_
          exact aw_iret dL_law_602
      refine aw_ite (fun h_60 => ?_) (fun h_60 => ?_)
      · refine aw_tabIn K 603 (9) dL_law_32 (ti_of h_60 kt_9) (by decide) (by decide) rfl (by decide) ?_
        refine aw_aload_n K 1 dL_law_603 rfl ?_
        refine aw_aload_n K 0 dL_law_604 rfl ?_
        refine aw_iload_n K 3 dL_law_605 rfl ?_
        refine aw_iconst K dL_law_606 ki_1 ?_
        refine aw_iadd K dL_law_607 ?_
        refine aw_gd (fun h_61 => ?_)
        refine aw_aldX K hX dL_law_608 h_61 ?_
        refine aw_callVI K dL_law_609 vw_L_54_11 (c_f_H_state l _) hg (by decide) ob_0 rfl (Nat.le_of_ble_eq_true rfl) rfl rfl (fun r42 σ41 _ => ?_)
        refine aw_aload_n K 2 dL_law_612 rfl ?_
        refine aw_aload_n K 0 dL_law_613 rfl ?_
        refine aw_iload_n K 3 dL_law_614 rfl ?_
        refine aw_iconst K dL_law_615 ki_1 ?_
        refine aw_iadd K dL_law_616 ?_
        refine aw_gd (fun h_62 => ?_)
        refine aw_aldX K hX dL_law_617 h_62 ?_
        refine aw_callVI K dL_law_618 vw_L_57_12 (c_f_M_state l _) hg (by decide) ob_148 rfl (Nat.le_of_ble_eq_true rfl) rfl rfl (fun r44 σ43 _ => ?_)
        refine aw_icmp_eq K 1785 dL_law_621 (by decide) (fun h_63 => ?_) (fun h_63 => ?_)
        · refine aw_iinc K (lv' := fun y45 => [(3, .int y45), (0, .ref b), (1, rf P 0), (2, rf P 148)]) 3 dL_law_1785 rfl ki_5 (Nat.le_of_ble_eq_true rfl) (fun _ => rfl) (fun y45 => ?_)
          refine aw_goto K 18 dL_law_1788 (by decide) ?_
          refine aw_lv [1, 2, 3, 0] rfl ?_
          exact ih _ _
        · refine aw_iconst K dL_law_624 ki_0 ?_
          exact aw_iret dL_law_625
      refine aw_ite (fun h_64 => ?_) (fun h_64 => ?_)
      · refine aw_tabIn K 626 (10) dL_law_32 (ti_of h_64 kt_10) (by decide) (by decide) rfl (by decide) ?_
        refine aw_aload_n K 1 dL_law_626 rfl ?_
        refine aw_aload_n K 0 dL_law_627 rfl ?_
        refine aw_iload_n K 3 dL_law_628 rfl ?_
        refine aw_iconst K dL_law_629 ki_1 ?_
        refine aw_iadd K dL_law_630 ?_
        refine aw_gd (fun h_65 => ?_)
        refine aw_aldX K hX dL_law_631 h_65 ?_
        refine aw_i2l K dL_law_632 ?_
        refine aw_bipush K dL_law_633 kb_32 ?_
        refine aw_lshl K dL_law_635 ?_
        refine aw_aload_n K 0 dL_law_636 rfl ?_
        refine aw_iload_n K 3 dL_law_637 rfl ?_
        refine aw_iconst K dL_law_638 ki_2 ?_
        refine aw_iadd K dL_law_639 ?_
        refine aw_gd (fun h_66 => ?_)
        refine aw_aldX K hX dL_law_640 h_66 ?_
        refine aw_i2l K dL_law_641 ?_
        refine aw_ldc2 K (x := (4294967295 : Int64)) dL_law_642 (in_r1 _ (List.mem_of_getElem? (i := 6) rfl)) ?_
        refine aw_land K dL_law_645 ?_
        refine aw_lor K dL_law_646 ?_
        refine aw_aload_n K 0 dL_law_647 rfl ?_
        refine aw_iload_n K 3 dL_law_648 rfl ?_
        refine aw_iconst K dL_law_649 ki_3 ?_
        refine aw_iadd K dL_law_650 ?_
        refine aw_gd (fun h_67 => ?_)
        refine aw_aldX K hX dL_law_651 h_67 ?_
        refine aw_callVI K dL_law_652 vw_L_60_11 (c_f_H_feed l _ _) hg (by decide) ob_0 rfl (Nat.le_of_ble_eq_true rfl) rfl rfl (fun r47 σ46 _ => ?_)
        refine aw_aload_n K 2 dL_law_655 rfl ?_
        refine aw_aload_n K 0 dL_law_656 rfl ?_
        refine aw_iload_n K 3 dL_law_657 rfl ?_
        refine aw_iconst K dL_law_658 ki_1 ?_
        refine aw_iadd K dL_law_659 ?_
        refine aw_gd (fun h_68 => ?_)
        refine aw_aldX K hX dL_law_660 h_68 ?_
        refine aw_i2l K dL_law_661 ?_
        refine aw_bipush K dL_law_662 kb_32 ?_
        refine aw_lshl K dL_law_664 ?_
        refine aw_aload_n K 0 dL_law_665 rfl ?_
        refine aw_iload_n K 3 dL_law_666 rfl ?_
        refine aw_iconst K dL_law_667 ki_2 ?_
        refine aw_iadd K dL_law_668 ?_
        refine aw_gd (fun h_69 => ?_)
        refine aw_aldX K hX dL_law_669 h_69 ?_
        refine aw_i2l K dL_law_670 ?_
        refine aw_ldc2 K (x := (4294967295 : Int64)) dL_law_671 (in_r1 _ (List.mem_of_getElem? (i := 6) rfl)) ?_
        refine aw_land K dL_law_674 ?_
        refine aw_lor K dL_law_675 ?_
        refine aw_aload_n K 0 dL_law_676 rfl ?_
        refine aw_iload_n K 3 dL_law_677 rfl ?_
        refine aw_iconst K dL_law_678 ki_3 ?_
        refine aw_iadd K dL_law_679 ?_
        refine aw_gd (fun h_70 => ?_)
        refine aw_aldX K hX dL_law_680 h_70 ?_
        refine aw_callVI K dL_law_681 vw_L_64_12 (c_f_M_feed l _ _) hg (by decide) ob_148 rfl (Nat.le_of_ble_eq_true rfl) rfl rfl (fun r49 σ48 _ => ?_)
        refine aw_icmp_eq K 1785 dL_law_684 (by decide) (fun h_71 => ?_) (fun h_71 => ?_)
        · refine aw_iinc K (lv' := fun y50 => [(3, .int y50), (0, .ref b), (1, rf P 0), (2, rf P 148)]) 3 dL_law_1785 rfl ki_5 (Nat.le_of_ble_eq_true rfl) (fun _ => rfl) (fun y50 => ?_)
          refine aw_goto K 18 dL_law_1788 (by decide) ?_
          refine aw_lv [1, 2, 3, 0] rfl ?_
          exact ih _ _
        · refine aw_iconst K dL_law_687 ki_0 ?_
          exact aw_iret dL_law_688
      refine aw_ite (fun h_72 => ?_) (fun h_72 => ?_)
      · refine aw_tabIn K 689 (11) dL_law_32 (ti_of h_72 kt_11) (by decide) (by decide) rfl (by decide) ?_
        refine aw_aload_n K 1 dL_law_689 rfl ?_
        refine aw_callVI K dL_law_690 vw_L_65_11 (c_f_H_rules l) hg (by decide) ob_0 rfl (Nat.le_of_ble_eq_true rfl) rfl rfl (fun r52 σ51 _ => ?_)
        refine aw_aload_n K 2 dL_law_693 rfl ?_
        refine aw_callVI K dL_law_694 vw_L_69_12 (c_f_M_rules l) hg (by decide) ob_148 rfl (Nat.le_of_ble_eq_true rfl) rfl rfl (fun r54 σ53 _ => ?_)
        refine aw_icmp_eq K 1785 dL_law_697 (by decide) (fun h_73 => ?_) (fun h_73 => ?_)
        · refine aw_iinc K (lv' := fun y55 => [(3, .int y55), (0, .ref b), (1, rf P 0), (2, rf P 148)]) 3 dL_law_1785 rfl ki_5 (Nat.le_of_ble_eq_true rfl) (fun _ => rfl) (fun y55 => ?_)
          refine aw_goto K 18 dL_law_1788 (by decide) ?_
          refine aw_lv [1, 2, 3, 0] rfl ?_
          exact ih _ _
        · refine aw_iconst K dL_law_700 ki_0 ?_
          exact aw_iret dL_law_701
      refine aw_ite (fun h_74 => ?_) (fun h_74 => ?_)
      · refine aw_tabIn K 702 (12) dL_law_32 (ti_of h_74 kt_12) (by decide) (by decide) rfl (by decide) ?_
        refine aw_aload_n K 1 dL_law_702 rfl ?_
        refine aw_aload_n K 0 dL_law_703 rfl ?_
        refine aw_iload_n K 3 dL_law_704 rfl ?_
        refine aw_iconst K dL_law_705 ki_1 ?_
        refine aw_iadd K dL_law_706 ?_
        refine aw_gd (fun h_75 => ?_)
        refine aw_aldX K hX dL_law_707 h_75 ?_
        refine aw_callVI K dL_law_708 vw_L_70_11 (c_f_H_cans l _) hg (by decide) ob_0 rfl (Nat.le_of_ble_eq_true rfl) rfl rfl (fun r57 σ56 _ => ?_)
        refine aw_aload_n K 2 dL_law_711 rfl ?_
        refine aw_aload_n K 0 dL_law_712 rfl ?_
        refine aw_iload_n K 3 dL_law_713 rfl ?_
        refine aw_iconst K dL_law_714 ki_1 ?_
        refine aw_iadd K dL_law_715 ?_
        refine aw_gd (fun h_76 => ?_)
        refine aw_aldX K hX dL_law_716 h_76 ?_
        refine aw_callVI K dL_law_717 vw_L_73_12 (c_f_M_cans l _) hg (by decide) ob_148 rfl (Nat.le_of_ble_eq_true rfl) rfl rfl (fun r59 σ58 _ => ?_)
        refine aw_icmp_eq K 1785 dL_law_720 (by decide) (fun h_77 => ?_) (fun h_77 => ?_)
        · refine aw_iinc K (lv' := fun y60 => [(3, .int y60), (0, .ref b), (1, rf P 0), (2, rf P 148)]) 3 dL_law_1785 rfl ki_5 (Nat.le_of_ble_eq_true rfl) (fun _ => rfl) (fun y60 => ?_)
          refine aw_goto K 18 dL_law_1788 (by decide) ?_
          refine aw_lv [1, 2, 3, 0] rfl ?_
          exact ih _ _
        · refine aw_iconst K dL_law_723 ki_0 ?_
          exact aw_iret dL_law_724
      refine aw_ite (fun h_78 => ?_) (fun h_78 => ?_)
      · refine aw_tabIn K 725 (13) dL_law_32 (ti_of h_78 kt_13) (by decide) (by decide) rfl (by decide) ?_
        refine aw_aload_n K 1 dL_law_725 rfl ?_
        refine aw_aload_n K 0 dL_law_726 rfl ?_
        refine aw_iload_n K 3 dL_law_727 rfl ?_
        refine aw_iconst K dL_law_728 ki_1 ?_
        refine aw_iadd K dL_law_729 ?_
        refine aw_gd (fun h_79 => ?_)
        refine aw_aldX K hX dL_law_730 h_79 ?_
        refine aw_aload_n K 0 dL_law_731 rfl ?_
        refine aw_iload_n K 3 dL_law_732 rfl ?_
        refine aw_iconst K dL_law_733 ki_2 ?_
        refine aw_iadd K dL_law_734 ?_
        refine aw_gd (fun h_80 => ?_)
        refine aw_aldX K hX dL_law_735 h_80 ?_
        refine aw_callVI K dL_law_736 vw_L_74_11 (c_f_H_make l _ _) hg (by decide) ob_0 rfl (Nat.le_of_ble_eq_true rfl) rfl rfl (fun r62 σ61 _ => ?_)
        refine aw_aload_n K 2 dL_law_739 rfl ?_
        refine aw_aload_n K 0 dL_law_740 rfl ?_
        refine aw_iload_n K 3 dL_law_741 rfl ?_
        refine aw_iconst K dL_law_742 ki_1 ?_
        refine aw_iadd K dL_law_743 ?_
        refine aw_gd (fun h_81 => ?_)
        refine aw_aldX K hX dL_law_744 h_81 ?_
        refine aw_aload_n K 0 dL_law_745 rfl ?_
        refine aw_iload_n K 3 dL_law_746 rfl ?_
        refine aw_iconst K dL_law_747 ki_2 ?_
        refine aw_iadd K dL_law_748 ?_
        refine aw_gd (fun h_82 => ?_)
        refine aw_aldX K hX dL_law_749 h_82 ?_
        refine aw_callVI K dL_law_750 vw_L_77_12 (c_f_M_make l _ _) hg (by decide) ob_148 rfl (Nat.le_of_ble_eq_true rfl) rfl rfl (fun r64 σ63 _ => ?_)
        refine aw_icmp_eq K 1785 dL_law_753 (by decide) (fun h_83 => ?_) (fun h_83 => ?_)
        · refine aw_iinc K (lv' := fun y65 => [(3, .int y65), (0, .ref b), (1, rf P 0), (2, rf P 148)]) 3 dL_law_1785 rfl ki_5 (Nat.le_of_ble_eq_true rfl) (fun _ => rfl) (fun y65 => ?_)
          refine aw_goto K 18 dL_law_1788 (by decide) ?_
          refine aw_lv [1, 2, 3, 0] rfl ?_
          exact ih _ _
        · refine aw_iconst K dL_law_756 ki_0 ?_
          exact aw_iret dL_law_757
      refine aw_ite (fun h_84 => ?_) (fun h_84 => ?_)
      · refine aw_tabIn K 758 (14) dL_law_32 (ti_of h_84 kt_14) (by decide) (by decide) rfl (by decide) ?_
        refine aw_aload_n K 1 dL_law_758 rfl ?_
        refine aw_callVI K dL_law_759 vw_L_78_11 (c_f_H_back l) hg (by decide) ob_0 rfl (Nat.le_of_ble_eq_true rfl) rfl rfl (fun r67 σ66 _ => ?_)
        refine aw_aload_n K 2 dL_law_762 rfl ?_
        refine aw_callVI K dL_law_763 vw_L_81_12 (c_f_M_back l) hg (by decide) ob_148 rfl (Nat.le_of_ble_eq_true rfl) rfl rfl (fun r69 σ68 _ => ?_)
        refine aw_icmp_eq K 1785 dL_law_766 (by decide) (fun h_85 => ?_) (fun h_85 => ?_)
        · refine aw_iinc K (lv' := fun y70 => [(3, .int y70), (0, .ref b), (1, rf P 0), (2, rf P 148)]) 3 dL_law_1785 rfl ki_5 (Nat.le_of_ble_eq_true rfl) (fun _ => rfl) (fun y70 => ?_)
          refine aw_goto K 18 dL_law_1788 (by decide) ?_
          refine aw_lv [1, 2, 3, 0] rfl ?_
          exact ih _ _
        · refine aw_iconst K dL_law_769 ki_0 ?_
          exact aw_iret dL_law_770
      refine aw_ite (fun h_86 => ?_) (fun h_86 => ?_)
      · refine aw_tabIn K 771 (15) dL_law_32 (ti_of h_86 kt_15) (by decide) (by decide) rfl (by decide) ?_
        refine aw_aload_n K 1 dL_law_771 rfl ?_
        refine aw_callVI K dL_law_772 vw_L_82_11 (c_f_H_fewest l) hg (by decide) ob_0 rfl (Nat.le_of_ble_eq_true rfl) rfl rfl (fun r72 σ71 _ => ?_)
        refine aw_aload_n K 2 dL_law_775 rfl ?_
        refine aw_callVI K dL_law_776 vw_L_85_12 (c_f_M_fewest l) hg (by decide) ob_148 rfl (Nat.le_of_ble_eq_true rfl) rfl rfl (fun r74 σ73 _ => ?_)
        refine aw_icmp_eq K 1785 dL_law_779 (by decide) (fun h_87 => ?_) (fun h_87 => ?_)
        · refine aw_iinc K (lv' := fun y75 => [(3, .int y75), (0, .ref b), (1, rf P 0), (2, rf P 148)]) 3 dL_law_1785 rfl ki_5 (Nat.le_of_ble_eq_true rfl) (fun _ => rfl) (fun y75 => ?_)
          refine aw_goto K 18 dL_law_1788 (by decide) ?_
          refine aw_lv [1, 2, 3, 0] rfl ?_
          exact ih _ _
        · refine aw_iconst K dL_law_782 ki_0 ?_
          exact aw_iret dL_law_783
      refine aw_ite (fun h_88 => ?_) (fun h_88 => ?_)
      · refine aw_tabIn K 784 (16) dL_law_32 (ti_of h_88 kt_16) (by decide) (by decide) rfl (by decide) ?_
        refine aw_aload_n K 1 dL_law_784 rfl ?_
        refine aw_aload_n K 0 dL_law_785 rfl ?_
        refine aw_iload_n K 3 dL_law_786 rfl ?_
        refine aw_iconst K dL_law_787 ki_1 ?_
        refine aw_iadd K dL_law_788 ?_
        refine aw_gd (fun h_89 => ?_)
        refine aw_aldX K hX dL_law_789 h_89 ?_
        refine aw_callVI K dL_law_790 vw_L_86_11 (c_f_H_ith l _) hg (by decide) ob_0 rfl (Nat.le_of_ble_eq_true rfl) rfl rfl (fun r77 σ76 _ => ?_)
        refine aw_aload_n K 2 dL_law_793 rfl ?_
        refine aw_aload_n K 0 dL_law_794 rfl ?_
        refine aw_iload_n K 3 dL_law_795 rfl ?_
        refine aw_iconst K dL_law_796 ki_1 ?_
        refine aw_iadd K dL_law_797 ?_
        refine aw_gd (fun h_90 => ?_)
        refine aw_aldX K hX dL_law_798 h_90 ?_
        refine aw_callVI K dL_law_799 vw_L_89_12 (c_f_M_ith l _) hg (by decide) ob_148 rfl (Nat.le_of_ble_eq_true rfl) rfl rfl (fun r79 σ78 _ => ?_)
        refine aw_icmp_eq K 1785 dL_law_802 (by decide) (fun h_91 => ?_) (fun h_91 => ?_)
        · refine aw_iinc K (lv' := fun y80 => [(3, .int y80), (0, .ref b), (1, rf P 0), (2, rf P 148)]) 3 dL_law_1785 rfl ki_5 (Nat.le_of_ble_eq_true rfl) (fun _ => rfl) (fun y80 => ?_)
          refine aw_goto K 18 dL_law_1788 (by decide) ?_
          refine aw_lv [1, 2, 3, 0] rfl ?_
          exact ih _ _
        · refine aw_iconst K dL_law_805 ki_0 ?_
          exact aw_iret dL_law_806
      refine aw_ite (fun h_92 => ?_) (fun h_92 => ?_)
      · refine aw_tabIn K 807 (17) dL_law_32 (ti_of h_92 kt_17) (by decide) (by decide) rfl (by decide) ?_
        refine aw_aload_n K 1 dL_law_807 rfl ?_
        refine aw_aload_n K 0 dL_law_808 rfl ?_
        refine aw_iload_n K 3 dL_law_809 rfl ?_
        refine aw_iconst K dL_law_810 ki_1 ?_
        refine aw_iadd K dL_law_811 ?_
        refine aw_gd (fun h_93 => ?_)
        refine aw_aldX K hX dL_law_812 h_93 ?_
        refine aw_callVI K dL_law_813 vw_L_90_11 (c_f_H_ways l _) hg (by decide) ob_0 rfl (Nat.le_of_ble_eq_true rfl) rfl rfl (fun r82 σ81 _ => ?_)
        refine aw_aload_n K 2 dL_law_816 rfl ?_
        refine aw_aload_n K 0 dL_law_817 rfl ?_
        refine aw_iload_n K 3 dL_law_818 rfl ?_
        refine aw_iconst K dL_law_819 ki_1 ?_
        refine aw_iadd K dL_law_820 ?_
        refine aw_gd (fun h_94 => ?_)
        refine aw_aldX K hX dL_law_821 h_94 ?_
        refine aw_callVI K dL_law_822 vw_L_93_12 (c_f_M_ways l _) hg (by decide) ob_148 rfl (Nat.le_of_ble_eq_true rfl) rfl rfl (fun r84 σ83 _ => ?_)
        refine aw_icmp_eq K 1785 dL_law_825 (by decide) (fun h_95 => ?_) (fun h_95 => ?_)
        · refine aw_iinc K (lv' := fun y85 => [(3, .int y85), (0, .ref b), (1, rf P 0), (2, rf P 148)]) 3 dL_law_1785 rfl ki_5 (Nat.le_of_ble_eq_true rfl) (fun _ => rfl) (fun y85 => ?_)
          refine aw_goto K 18 dL_law_1788 (by decide) ?_
          refine aw_lv [1, 2, 3, 0] rfl ?_
          exact ih _ _
        · refine aw_iconst K dL_law_828 ki_0 ?_
          exact aw_iret dL_law_829
      refine aw_ite (fun h_96 => ?_) (fun h_96 => ?_)
      · refine aw_tabIn K 830 (18) dL_law_32 (ti_of h_96 kt_18) (by decide) (by decide) rfl (by decide) ?_
        refine aw_aload_n K 1 dL_law_830 rfl ?_
        refine aw_aload_n K 0 dL_law_831 rfl ?_
        refine aw_iload_n K 3 dL_law_832 rfl ?_
        refine aw_iconst K dL_law_833 ki_1 ?_
        refine aw_iadd K dL_law_834 ?_
        refine aw_gd (fun h_97 => ?_)
        refine aw_aldX K hX dL_law_835 h_97 ?_
        refine aw_callVI K dL_law_836 vw_L_94_11 (c_f_H_most l _) hg (by decide) ob_0 rfl (Nat.le_of_ble_eq_true rfl) rfl rfl (fun r87 σ86 _ => ?_)
        refine aw_aload_n K 2 dL_law_839 rfl ?_
        refine aw_aload_n K 0 dL_law_840 rfl ?_
        refine aw_iload_n K 3 dL_law_841 rfl ?_
        refine aw_iconst K dL_law_842 ki_1 ?_
        refine aw_iadd K dL_law_843 ?_
        refine aw_gd (fun h_98 => ?_)
        refine aw_aldX K hX dL_law_844 h_98 ?_
        refine aw_callVI K dL_law_845 vw_L_97_12 (c_f_M_most l _) hg (by decide) ob_148 rfl (Nat.le_of_ble_eq_true rfl) rfl rfl (fun r89 σ88 _ => ?_)
        refine aw_icmp_eq K 1785 dL_law_848 (by decide) (fun h_99 => ?_) (fun h_99 => ?_)
        · refine aw_iinc K (lv' := fun y90 => [(3, .int y90), (0, .ref b), (1, rf P 0), (2, rf P 148)]) 3 dL_law_1785 rfl ki_5 (Nat.le_of_ble_eq_true rfl) (fun _ => rfl) (fun y90 => ?_)
          refine aw_goto K 18 dL_law_1788 (by decide) ?_
          refine aw_lv [1, 2, 3, 0] rfl ?_
          exact ih _ _
        · refine aw_iconst K dL_law_851 ki_0 ?_
          exact aw_iret dL_law_852
      refine aw_ite (fun h_100 => ?_) (fun h_100 => ?_)
      · refine aw_tabIn K 853 (19) dL_law_32 (ti_of h_100 kt_19) (by decide) (by decide) rfl (by decide) ?_
        refine aw_aload_n K 1 dL_law_853 rfl ?_
        refine aw_aload_n K 0 dL_law_854 rfl ?_
        refine aw_iload_n K 3 dL_law_855 rfl ?_
        refine aw_iconst K dL_law_856 ki_1 ?_
        refine aw_iadd K dL_law_857 ?_
        refine aw_gd (fun h_101 => ?_)
        refine aw_aldX K hX dL_law_858 h_101 ?_
        refine aw_callVI K dL_law_859 vw_L_98_11 (c_f_H_cheapest l _) hg (by decide) ob_0 rfl (Nat.le_of_ble_eq_true rfl) rfl rfl (fun r92 σ91 _ => ?_)
        refine aw_aload_n K 2 dL_law_862 rfl ?_
        refine aw_aload_n K 0 dL_law_863 rfl ?_
        refine aw_iload_n K 3 dL_law_864 rfl ?_
        refine aw_iconst K dL_law_865 ki_1 ?_
        refine aw_iadd K dL_law_866 ?_
        refine aw_gd (fun h_102 => ?_)
        refine aw_aldX K hX dL_law_867 h_102 ?_
        refine aw_callVI K dL_law_868 vw_L_101_12 (c_f_M_cheapest l _) hg (by decide) ob_148 rfl (Nat.le_of_ble_eq_true rfl) rfl rfl (fun r94 σ93 _ => ?_)
        refine aw_icmp_eq K 1785 dL_law_871 (by decide) (fun h_103 => ?_) (fun h_103 => ?_)
        · refine aw_iinc K (lv' := fun y95 => [(3, .int y95), (0, .ref b), (1, rf P 0), (2, rf P 148)]) 3 dL_law_1785 rfl ki_5 (Nat.le_of_ble_eq_true rfl) (fun _ => rfl) (fun y95 => ?_)
          refine aw_goto K 18 dL_law_1788 (by decide) ?_
          refine aw_lv [1, 2, 3, 0] rfl ?_
          exact ih _ _
        · refine aw_iconst K dL_law_874 ki_0 ?_
          exact aw_iret dL_law_875
      refine aw_ite (fun h_104 => ?_) (fun h_104 => ?_)
      · refine aw_tabIn K 876 (20) dL_law_32 (ti_of h_104 kt_20) (by decide) (by decide) rfl (by decide) ?_
        refine aw_aload_n K 1 dL_law_876 rfl ?_
        refine aw_aload_n K 0 dL_law_877 rfl ?_
        refine aw_iload_n K 3 dL_law_878 rfl ?_
        refine aw_iconst K dL_law_879 ki_1 ?_
        refine aw_iadd K dL_law_880 ?_
        refine aw_gd (fun h_105 => ?_)
        refine aw_aldX K hX dL_law_881 h_105 ?_
        refine aw_aload_n K 0 dL_law_882 rfl ?_
        refine aw_iload_n K 3 dL_law_883 rfl ?_
        refine aw_iconst K dL_law_884 ki_2 ?_
        refine aw_iadd K dL_law_885 ?_
        refine aw_gd (fun h_106 => ?_)
        refine aw_aldX K hX dL_law_886 h_106 ?_
        refine aw_callVI K dL_law_887 vw_L_102_11 (c_f_H_cheaply l _ _) hg (by decide) ob_0 rfl (Nat.le_of_ble_eq_true rfl) rfl rfl (fun r97 σ96 _ => ?_)
        refine aw_aload_n K 2 dL_law_890 rfl ?_
        refine aw_aload_n K 0 dL_law_891 rfl ?_
        refine aw_iload_n K 3 dL_law_892 rfl ?_
        refine aw_iconst K dL_law_893 ki_1 ?_
        refine aw_iadd K dL_law_894 ?_
        refine aw_gd (fun h_107 => ?_)
        refine aw_aldX K hX dL_law_895 h_107 ?_
        refine aw_aload_n K 0 dL_law_896 rfl ?_
        refine aw_iload_n K 3 dL_law_897 rfl ?_
        refine aw_iconst K dL_law_898 ki_2 ?_
        refine aw_iadd K dL_law_899 ?_
        refine aw_gd (fun h_108 => ?_)
        refine aw_aldX K hX dL_law_900 h_108 ?_
        refine aw_callVI K dL_law_901 vw_L_105_12 (c_f_M_cheaply l _ _) hg (by decide) ob_148 rfl (Nat.le_of_ble_eq_true rfl) rfl rfl (fun r99 σ98 _ => ?_)
        refine aw_icmp_eq K 1785 dL_law_904 (by decide) (fun h_109 => ?_) (fun h_109 => ?_)
        · refine aw_iinc K (lv' := fun y100 => [(3, .int y100), (0, .ref b), (1, rf P 0), (2, rf P 148)]) 3 dL_law_1785 rfl ki_5 (Nat.le_of_ble_eq_true rfl) (fun _ => rfl) (fun y100 => ?_)
          refine aw_goto K 18 dL_law_1788 (by decide) ?_
          refine aw_lv [1, 2, 3, 0] rfl ?_
          exact ih _ _
        · refine aw_iconst K dL_law_907 ki_0 ?_
          exact aw_iret dL_law_908
      refine aw_ite (fun h_110 => ?_) (fun h_110 => ?_)
      · refine aw_tabIn K 909 (21) dL_law_32 (ti_of h_110 kt_21) (by decide) (by decide) rfl (by decide) ?_
        refine aw_aload_n K 1 dL_law_909 rfl ?_
        refine aw_callVI K dL_law_910 vw_L_106_11 (c_f_H_bars l) hg (by decide) ob_0 rfl (Nat.le_of_ble_eq_true rfl) rfl rfl (fun r102 σ101 _ => ?_)
        refine aw_aload_n K 2 dL_law_913 rfl ?_
        refine aw_callVI K dL_law_914 vw_L_109_12 (c_f_M_bars l) hg (by decide) ob_148 rfl (Nat.le_of_ble_eq_true rfl) rfl rfl (fun r104 σ103 _ => ?_)
        refine aw_icmp_eq K 1785 dL_law_917 (by decide) (fun h_111 => ?_) (fun h_111 => ?_)
        · refine aw_iinc K (lv' := fun y105 => [(3, .int y105), (0, .ref b), (1, rf P 0), (2, rf P 148)]) 3 dL_law_1785 rfl ki_5 (Nat.le_of_ble_eq_true rfl) (fun _ => rfl) (fun y105 => ?_)
          refine aw_goto K 18 dL_law_1788 (by decide) ?_
          refine aw_lv [1, 2, 3, 0] rfl ?_
          exact ih _ _
        · refine aw_iconst K dL_law_920 ki_0 ?_
          exact aw_iret dL_law_921
      refine aw_ite (fun h_112 => ?_) (fun h_112 => ?_)
      · refine aw_tabIn K 922 (22) dL_law_32 (ti_of h_112 kt_22) (by decide) (by decide) rfl (by decide) ?_
        refine aw_aload_n K 1 dL_law_922 rfl ?_
        refine aw_callVI K dL_law_923 vw_L_110_11 (c_f_H_jars l) hg (by decide) ob_0 rfl (Nat.le_of_ble_eq_true rfl) rfl rfl (fun r107 σ106 _ => ?_)
        refine aw_aload_n K 2 dL_law_926 rfl ?_
        refine aw_callVI K dL_law_927 vw_L_113_12 (c_f_M_jars l) hg (by decide) ob_148 rfl (Nat.le_of_ble_eq_true rfl) rfl rfl (fun r109 σ108 _ => ?_)
        refine aw_icmp_eq K 1785 dL_law_930 (by decide) (fun h_113 => ?_) (fun h_113 => ?_)
        · refine aw_iinc K (lv' := fun y110 => [(3, .int y110), (0, .ref b), (1, rf P 0), (2, rf P 148)]) 3 dL_law_1785 rfl ki_5 (Nat.le_of_ble_eq_true rfl) (fun _ => rfl) (fun y110 => ?_)
          refine aw_goto K 18 dL_law_1788 (by decide) ?_
          refine aw_lv [1, 2, 3, 0] rfl ?_
          exact ih _ _
        · refine aw_iconst K dL_law_933 ki_0 ?_
          exact aw_iret dL_law_934
      refine aw_ite (fun h_114 => ?_) (fun h_114 => ?_)
      · refine aw_tabIn K 935 (23) dL_law_32 (ti_of h_114 kt_23) (by decide) (by decide) rfl (by decide) ?_
        refine aw_aload_n K 1 dL_law_935 rfl ?_
        refine aw_aload_n K 0 dL_law_936 rfl ?_
        refine aw_iload_n K 3 dL_law_937 rfl ?_
        refine aw_iconst K dL_law_938 ki_1 ?_
        refine aw_iadd K dL_law_939 ?_
        refine aw_gd (fun h_115 => ?_)
        refine aw_aldX K hX dL_law_940 h_115 ?_
        refine aw_callVI K dL_law_941 vw_L_114_11 (c_f_H_feeFor l _) hg (by decide) ob_0 rfl (Nat.le_of_ble_eq_true rfl) rfl rfl (fun r112 σ111 _ => ?_)
        refine aw_aload_n K 2 dL_law_944 rfl ?_
        refine aw_aload_n K 0 dL_law_945 rfl ?_
        refine aw_iload_n K 3 dL_law_946 rfl ?_
        refine aw_iconst K dL_law_947 ki_1 ?_
        refine aw_iadd K dL_law_948 ?_
        refine aw_gd (fun h_116 => ?_)
        refine aw_aldX K hX dL_law_949 h_116 ?_
        refine aw_callVI K dL_law_950 vw_L_117_12 (c_f_M_feeFor l _) hg (by decide) ob_148 rfl (Nat.le_of_ble_eq_true rfl) rfl rfl (fun r114 σ113 _ => ?_)
        refine aw_icmp_eq K 1785 dL_law_953 (by decide) (fun h_117 => ?_) (fun h_117 => ?_)
        · refine aw_iinc K (lv' := fun y115 => [(3, .int y115), (0, .ref b), (1, rf P 0), (2, rf P 148)]) 3 dL_law_1785 rfl ki_5 (Nat.le_of_ble_eq_true rfl) (fun _ => rfl) (fun y115 => ?_)
          refine aw_goto K 18 dL_law_1788 (by decide) ?_
          refine aw_lv [1, 2, 3, 0] rfl ?_
          exact ih _ _
        · refine aw_iconst K dL_law_956 ki_0 ?_
          exact aw_iret dL_law_957
      refine aw_ite (fun h_118 => ?_) (fun h_118 => ?_)
      · refine aw_tabIn K 958 (24) dL_law_32 (ti_of h_118 kt_24) (by decide) (by decide) rfl (by decide) ?_
        refine aw_aload_n K 1 dL_law_958 rfl ?_
        refine aw_aload_n K 0 dL_law_959 rfl ?_
        refine aw_iload_n K 3 dL_law_960 rfl ?_
        refine aw_iconst K dL_law_961 ki_1 ?_
        refine aw_iadd K dL_law_962 ?_
        refine aw_gd (fun h_119 => ?_)
        refine aw_aldX K hX dL_law_963 h_119 ?_
        refine aw_callVI K dL_law_964 vw_L_118_11 (c_f_H_rings l _) hg (by decide) ob_0 rfl (Nat.le_of_ble_eq_true rfl) rfl rfl (fun r117 σ116 _ => ?_)
        refine aw_aload_n K 2 dL_law_967 rfl ?_
        refine aw_aload_n K 0 dL_law_968 rfl ?_
        refine aw_iload_n K 3 dL_law_969 rfl ?_
        refine aw_iconst K dL_law_970 ki_1 ?_
        refine aw_iadd K dL_law_971 ?_
        refine aw_gd (fun h_120 => ?_)
        refine aw_aldX K hX dL_law_972 h_120 ?_
        refine aw_callVI K dL_law_973 vw_L_121_12 (c_f_M_rings l _) hg (by decide) ob_148 rfl (Nat.le_of_ble_eq_true rfl) rfl rfl (fun r119 σ118 _ => ?_)
        refine aw_icmp_eq K 1785 dL_law_976 (by decide) (fun h_121 => ?_) (fun h_121 => ?_)
        · refine aw_iinc K (lv' := fun y120 => [(3, .int y120), (0, .ref b), (1, rf P 0), (2, rf P 148)]) 3 dL_law_1785 rfl ki_5 (Nat.le_of_ble_eq_true rfl) (fun _ => rfl) (fun y120 => ?_)
          refine aw_goto K 18 dL_law_1788 (by decide) ?_
          refine aw_lv [1, 2, 3, 0] rfl ?_
          exact ih _ _
        · refine aw_iconst K dL_law_979 ki_0 ?_
          exact aw_iret dL_law_980
      refine aw_ite (fun h_122 => ?_) (fun h_122 => ?_)
      · refine aw_tabIn K 981 (25) dL_law_32 (ti_of h_122 kt_25) (by decide) (by decide) rfl (by decide) ?_
        refine aw_aload_n K 1 dL_law_981 rfl ?_
        refine aw_aload_n K 0 dL_law_982 rfl ?_
        refine aw_iload_n K 3 dL_law_983 rfl ?_
        refine aw_iconst K dL_law_984 ki_1 ?_
        refine aw_iadd K dL_law_985 ?_
        refine aw_gd (fun h_123 => ?_)
        refine aw_aldX K hX dL_law_986 h_123 ?_
        refine aw_aload_n K 0 dL_law_987 rfl ?_
        refine aw_iload_n K 3 dL_law_988 rfl ?_
        refine aw_iconst K dL_law_989 ki_2 ?_
        refine aw_iadd K dL_law_990 ?_
        refine aw_gd (fun h_124 => ?_)
        refine aw_aldX K hX dL_law_991 h_124 ?_
        refine aw_callVI K dL_law_992 vw_L_122_11 (c_f_H_ring l _ _) hg (by decide) ob_0 rfl (Nat.le_of_ble_eq_true rfl) rfl rfl (fun r122 σ121 _ => ?_)
        refine aw_aload_n K 2 dL_law_995 rfl ?_
        refine aw_aload_n K 0 dL_law_996 rfl ?_
        refine aw_iload_n K 3 dL_law_997 rfl ?_
        refine aw_iconst K dL_law_998 ki_1 ?_
        refine aw_iadd K dL_law_999 ?_
        refine aw_gd (fun h_125 => ?_)
        refine aw_aldX K hX dL_law_1000 h_125 ?_
        refine aw_aload_n K 0 dL_law_1001 rfl ?_
        refine aw_iload_n K 3 dL_law_1002 rfl ?_
        refine aw_iconst K dL_law_1003 ki_2 ?_
        refine aw_iadd K dL_law_1004 ?_
        refine aw_gd (fun h_126 => ?_)
        refine aw_aldX K hX dL_law_1005 h_126 ?_
        refine aw_callVI K dL_law_1006 vw_L_125_12 (c_f_M_ring l _ _) hg (by decide) ob_148 rfl (Nat.le_of_ble_eq_true rfl) rfl rfl (fun r124 σ123 _ => ?_)
        refine aw_icmp_eq K 1785 dL_law_1009 (by decide) (fun h_127 => ?_) (fun h_127 => ?_)
        · refine aw_iinc K (lv' := fun y125 => [(3, .int y125), (0, .ref b), (1, rf P 0), (2, rf P 148)]) 3 dL_law_1785 rfl ki_5 (Nat.le_of_ble_eq_true rfl) (fun _ => rfl) (fun y125 => ?_)
          refine aw_goto K 18 dL_law_1788 (by decide) ?_
          refine aw_lv [1, 2, 3, 0] rfl ?_
          exact ih _ _
        · refine aw_iconst K dL_law_1012 ki_0 ?_
          exact aw_iret dL_law_1013
      refine aw_ite (fun h_128 => ?_) (fun h_128 => ?_)
      · refine aw_tabIn K 1014 (26) dL_law_32 (ti_of h_128 kt_26) (by decide) (by decide) rfl (by decide) ?_
        refine aw_aload_n K 1 dL_law_1014 rfl ?_
        refine aw_aload_n K 0 dL_law_1015 rfl ?_
        refine aw_iload_n K 3 dL_law_1016 rfl ?_
        refine aw_iconst K dL_law_1017 ki_1 ?_
        refine aw_iadd K dL_law_1018 ?_
        refine aw_gd (fun h_129 => ?_)
        refine aw_aldX K hX dL_law_1019 h_129 ?_
        refine aw_aload_n K 0 dL_law_1020 rfl ?_
        refine aw_iload_n K 3 dL_law_1021 rfl ?_
        refine aw_iconst K dL_law_1022 ki_2 ?_
        refine aw_iadd K dL_law_1023 ?_
        refine aw_gd (fun h_130 => ?_)
        refine aw_aldX K hX dL_law_1024 h_130 ?_
        refine aw_callVI K dL_law_1025 vw_L_126_11 (c_f_H_comes l _ _) hg (by decide) ob_0 rfl (Nat.le_of_ble_eq_true rfl) rfl rfl (fun r127 σ126 _ => ?_)
        refine aw_aload_n K 2 dL_law_1028 rfl ?_
        refine aw_aload_n K 0 dL_law_1029 rfl ?_
        refine aw_iload_n K 3 dL_law_1030 rfl ?_
        refine aw_iconst K dL_law_1031 ki_1 ?_
        refine aw_iadd K dL_law_1032 ?_
        refine aw_gd (fun h_131 => ?_)
        refine aw_aldX K hX dL_law_1033 h_131 ?_
        refine aw_aload_n K 0 dL_law_1034 rfl ?_
        refine aw_iload_n K 3 dL_law_1035 rfl ?_
        refine aw_iconst K dL_law_1036 ki_2 ?_
        refine aw_iadd K dL_law_1037 ?_
        refine aw_gd (fun h_132 => ?_)
        refine aw_aldX K hX dL_law_1038 h_132 ?_
        refine aw_callVI K dL_law_1039 vw_L_129_12 (c_f_M_comes l _ _) hg (by decide) ob_148 rfl (Nat.le_of_ble_eq_true rfl) rfl rfl (fun r129 σ128 _ => ?_)
        refine aw_icmp_eq K 1785 dL_law_1042 (by decide) (fun h_133 => ?_) (fun h_133 => ?_)
        · refine aw_iinc K (lv' := fun y130 => [(3, .int y130), (0, .ref b), (1, rf P 0), (2, rf P 148)]) 3 dL_law_1785 rfl ki_5 (Nat.le_of_ble_eq_true rfl) (fun _ => rfl) (fun y130 => ?_)
          refine aw_goto K 18 dL_law_1788 (by decide) ?_
          refine aw_lv [1, 2, 3, 0] rfl ?_
          exact ih _ _
        · refine aw_iconst K dL_law_1045 ki_0 ?_
          exact aw_iret dL_law_1046
      refine aw_ite (fun h_134 => ?_) (fun h_134 => ?_)
      · refine aw_tabIn K 1047 (27) dL_law_32 (ti_of h_134 kt_27) (by decide) (by decide) rfl (by decide) ?_
        refine aw_aload_n K 1 dL_law_1047 rfl ?_
        refine aw_aload_n K 0 dL_law_1048 rfl ?_
        refine aw_iload_n K 3 dL_law_1049 rfl ?_
        refine aw_iconst K dL_law_1050 ki_1 ?_
        refine aw_iadd K dL_law_1051 ?_
        refine aw_gd (fun h_135 => ?_)
        refine aw_aldX K hX dL_law_1052 h_135 ?_
        refine aw_aload_n K 0 dL_law_1053 rfl ?_
        refine aw_iload_n K 3 dL_law_1054 rfl ?_
        refine aw_iconst K dL_law_1055 ki_2 ?_
        refine aw_iadd K dL_law_1056 ?_
        refine aw_gd (fun h_136 => ?_)
        refine aw_aldX K hX dL_law_1057 h_136 ?_
        refine aw_callVI K dL_law_1058 vw_L_130_11 (c_f_H_dearest l _ _) hg (by decide) ob_0 rfl (Nat.le_of_ble_eq_true rfl) rfl rfl (fun r132 σ131 _ => ?_)
        refine aw_aload_n K 2 dL_law_1061 rfl ?_
        refine aw_aload_n K 0 dL_law_1062 rfl ?_
        refine aw_iload_n K 3 dL_law_1063 rfl ?_
        refine aw_iconst K dL_law_1064 ki_1 ?_
        refine aw_iadd K dL_law_1065 ?_
        refine aw_gd (fun h_137 => ?_)
        refine aw_aldX K hX dL_law_1066 h_137 ?_
        refine aw_aload_n K 0 dL_law_1067 rfl ?_
        refine aw_iload_n K 3 dL_law_1068 rfl ?_
        refine aw_iconst K dL_law_1069 ki_2 ?_
        refine aw_iadd K dL_law_1070 ?_
        refine aw_gd (fun h_138 => ?_)
        refine aw_aldX K hX dL_law_1071 h_138 ?_
        refine aw_callVI K dL_law_1072 vw_L_133_12 (c_f_M_dearest l _ _) hg (by decide) ob_148 rfl (Nat.le_of_ble_eq_true rfl) rfl rfl (fun r134 σ133 _ => ?_)
        refine aw_icmp_eq K 1785 dL_law_1075 (by decide) (fun h_139 => ?_) (fun h_139 => ?_)
        · refine aw_iinc K (lv' := fun y135 => [(3, .int y135), (0, .ref b), (1, rf P 0), (2, rf P 148)]) 3 dL_law_1785 rfl ki_5 (Nat.le_of_ble_eq_true rfl) (fun _ => rfl) (fun y135 => ?_)
          refine aw_goto K 18 dL_law_1788 (by decide) ?_
          refine aw_lv [1, 2, 3, 0] rfl ?_
          exact ih _ _
        · refine aw_iconst K dL_law_1078 ki_0 ?_
          exact aw_iret dL_law_1079
      refine aw_ite (fun h_140 => ?_) (fun h_140 => ?_)
      · refine aw_tabIn K 1080 (28) dL_law_32 (ti_of h_140 kt_28) (by decide) (by decide) rfl (by decide) ?_
        refine aw_aload_n K 1 dL_law_1080 rfl ?_
        refine aw_aload_n K 0 dL_law_1081 rfl ?_
        refine aw_iload_n K 3 dL_law_1082 rfl ?_
        refine aw_iconst K dL_law_1083 ki_1 ?_
        refine aw_iadd K dL_law_1084 ?_
        refine aw_gd (fun h_141 => ?_)
        refine aw_aldX K hX dL_law_1085 h_141 ?_
        refine aw_callVI K dL_law_1086 vw_L_134_11 (c_f_H_game l _) hg (by decide) ob_0 rfl (Nat.le_of_ble_eq_true rfl) rfl rfl (fun r137 σ136 _ => ?_)
        refine aw_aload_n K 2 dL_law_1089 rfl ?_
        refine aw_aload_n K 0 dL_law_1090 rfl ?_
        refine aw_iload_n K 3 dL_law_1091 rfl ?_
        refine aw_iconst K dL_law_1092 ki_1 ?_
        refine aw_iadd K dL_law_1093 ?_
        refine aw_gd (fun h_142 => ?_)
        refine aw_aldX K hX dL_law_1094 h_142 ?_
        refine aw_callVI K dL_law_1095 vw_L_137_12 (c_f_M_game l _) hg (by decide) ob_148 rfl (Nat.le_of_ble_eq_true rfl) rfl rfl (fun r139 σ138 _ => ?_)
        refine aw_icmp_eq K 1785 dL_law_1098 (by decide) (fun h_143 => ?_) (fun h_143 => ?_)
        · refine aw_iinc K (lv' := fun y140 => [(3, .int y140), (0, .ref b), (1, rf P 0), (2, rf P 148)]) 3 dL_law_1785 rfl ki_5 (Nat.le_of_ble_eq_true rfl) (fun _ => rfl) (fun y140 => ?_)
          refine aw_goto K 18 dL_law_1788 (by decide) ?_
          refine aw_lv [1, 2, 3, 0] rfl ?_
          exact ih _ _
        · refine aw_iconst K dL_law_1101 ki_0 ?_
          exact aw_iret dL_law_1102
      refine aw_ite (fun h_144 => ?_) (fun h_144 => ?_)
      · refine aw_tabIn K 1103 (29) dL_law_32 (ti_of h_144 kt_29) (by decide) (by decide) rfl (by decide) ?_
        refine aw_aload_n K 1 dL_law_1103 rfl ?_
        refine aw_aload_n K 0 dL_law_1104 rfl ?_
        refine aw_iload_n K 3 dL_law_1105 rfl ?_
        refine aw_iconst K dL_law_1106 ki_1 ?_
        refine aw_iadd K dL_law_1107 ?_
        refine aw_gd (fun h_145 => ?_)
        refine aw_aldX K hX dL_law_1108 h_145 ?_
        refine aw_callVI K dL_law_1109 vw_L_138_11 (c_f_H_play l _) hg (by decide) ob_0 rfl (Nat.le_of_ble_eq_true rfl) rfl rfl (fun r142 σ141 _ => ?_)
        refine aw_aload_n K 2 dL_law_1112 rfl ?_
        refine aw_aload_n K 0 dL_law_1113 rfl ?_
        refine aw_iload_n K 3 dL_law_1114 rfl ?_
        refine aw_iconst K dL_law_1115 ki_1 ?_
        refine aw_iadd K dL_law_1116 ?_
        refine aw_gd (fun h_146 => ?_)
        refine aw_aldX K hX dL_law_1117 h_146 ?_
        refine aw_callVI K dL_law_1118 vw_L_141_12 (c_f_M_play l _) hg (by decide) ob_148 rfl (Nat.le_of_ble_eq_true rfl) rfl rfl (fun r144 σ143 _ => ?_)
        refine aw_icmp_eq K 1785 dL_law_1121 (by decide) (fun h_147 => ?_) (fun h_147 => ?_)
        · refine aw_iinc K (lv' := fun y145 => [(3, .int y145), (0, .ref b), (1, rf P 0), (2, rf P 148)]) 3 dL_law_1785 rfl ki_5 (Nat.le_of_ble_eq_true rfl) (fun _ => rfl) (fun y145 => ?_)
          refine aw_goto K 18 dL_law_1788 (by decide) ?_
          refine aw_lv [1, 2, 3, 0] rfl ?_
          exact ih _ _
        · refine aw_iconst K dL_law_1124 ki_0 ?_
          exact aw_iret dL_law_1125
      refine aw_ite (fun h_148 => ?_) (fun h_148 => ?_)
      · refine aw_tabIn K 1126 (30) dL_law_32 (ti_of h_148 kt_30) (by decide) (by decide) rfl (by decide) ?_
        refine aw_aload_n K 1 dL_law_1126 rfl ?_
        refine aw_aload_n K 0 dL_law_1127 rfl ?_
        refine aw_iload_n K 3 dL_law_1128 rfl ?_
        refine aw_iconst K dL_law_1129 ki_1 ?_
        refine aw_iadd K dL_law_1130 ?_
        refine aw_gd (fun h_149 => ?_)
        refine aw_aldX K hX dL_law_1131 h_149 ?_
        refine aw_aload_n K 0 dL_law_1132 rfl ?_
        refine aw_iload_n K 3 dL_law_1133 rfl ?_
        refine aw_iconst K dL_law_1134 ki_2 ?_
        refine aw_iadd K dL_law_1135 ?_
        refine aw_gd (fun h_150 => ?_)
        refine aw_aldX K hX dL_law_1136 h_150 ?_
        refine aw_aload_n K 0 dL_law_1137 rfl ?_
        refine aw_iload_n K 3 dL_law_1138 rfl ?_
        refine aw_iconst K dL_law_1139 ki_3 ?_
        refine aw_iadd K dL_law_1140 ?_
        refine aw_gd (fun h_151 => ?_)
        refine aw_aldX K hX dL_law_1141 h_151 ?_
        refine aw_callVI K dL_law_1142 vw_L_142_11 (c_f_H_report l _ _ _) hg (by decide) ob_0 rfl (Nat.le_of_ble_eq_true rfl) rfl rfl (fun r147 σ146 _ => ?_)
        refine aw_aload_n K 2 dL_law_1145 rfl ?_
        refine aw_aload_n K 0 dL_law_1146 rfl ?_
        refine aw_iload_n K 3 dL_law_1147 rfl ?_
        refine aw_iconst K dL_law_1148 ki_1 ?_
        refine aw_iadd K dL_law_1149 ?_
        refine aw_gd (fun h_152 => ?_)
        refine aw_aldX K hX dL_law_1150 h_152 ?_
        refine aw_aload_n K 0 dL_law_1151 rfl ?_
        refine aw_iload_n K 3 dL_law_1152 rfl ?_
        refine aw_iconst K dL_law_1153 ki_2 ?_
        refine aw_iadd K dL_law_1154 ?_
        refine aw_gd (fun h_153 => ?_)
        refine aw_aldX K hX dL_law_1155 h_153 ?_
        refine aw_aload_n K 0 dL_law_1156 rfl ?_
        refine aw_iload_n K 3 dL_law_1157 rfl ?_
        refine aw_iconst K dL_law_1158 ki_3 ?_
        refine aw_iadd K dL_law_1159 ?_
        refine aw_gd (fun h_154 => ?_)
        refine aw_aldX K hX dL_law_1160 h_154 ?_
        refine aw_callVI K dL_law_1161 vw_L_145_12 (c_f_M_report l _ _ _) hg (by decide) ob_148 rfl (Nat.le_of_ble_eq_true rfl) rfl rfl (fun r149 σ148 _ => ?_)
        refine aw_icmp_eq K 1785 dL_law_1164 (by decide) (fun h_155 => ?_) (fun h_155 => ?_)
        · refine aw_iinc K (lv' := fun y150 => [(3, .int y150), (0, .ref b), (1, rf P 0), (2, rf P 148)]) 3 dL_law_1785 rfl ki_5 (Nat.le_of_ble_eq_true rfl) (fun _ => rfl) (fun y150 => ?_)
          refine aw_goto K 18 dL_law_1788 (by decide) ?_
          refine aw_lv [1, 2, 3, 0] rfl ?_
          exact ih _ _
        · refine aw_iconst K dL_law_1167 ki_0 ?_
          exact aw_iret dL_law_1168
      refine aw_ite (fun h_156 => ?_) (fun h_156 => ?_)
      · refine aw_tabIn K 1169 (31) dL_law_32 (ti_of h_156 kt_31) (by decide) (by decide) rfl (by decide) ?_
        refine aw_aload_n K 1 dL_law_1169 rfl ?_
        refine aw_callVI K dL_law_1170 vw_L_146_11 (c_f_H_forget l) hg (by decide) ob_0 rfl (Nat.le_of_ble_eq_true rfl) rfl rfl (fun r152 σ151 _ => ?_)
        refine aw_aload_n K 2 dL_law_1173 rfl ?_
        refine aw_callVI K dL_law_1174 vw_L_149_12 (c_f_M_forget l) hg (by decide) ob_148 rfl (Nat.le_of_ble_eq_true rfl) rfl rfl (fun r154 σ153 _ => ?_)
        refine aw_icmp_eq K 1785 dL_law_1177 (by decide) (fun h_157 => ?_) (fun h_157 => ?_)
        · refine aw_iinc K (lv' := fun y155 => [(3, .int y155), (0, .ref b), (1, rf P 0), (2, rf P 148)]) 3 dL_law_1785 rfl ki_5 (Nat.le_of_ble_eq_true rfl) (fun _ => rfl) (fun y155 => ?_)
          refine aw_goto K 18 dL_law_1788 (by decide) ?_
          refine aw_lv [1, 2, 3, 0] rfl ?_
          exact ih _ _
        · refine aw_iconst K dL_law_1180 ki_0 ?_
          exact aw_iret dL_law_1181
      refine aw_ite (fun h_158 => ?_) (fun h_158 => ?_)
      · refine aw_tabIn K 1182 (32) dL_law_32 (ti_of h_158 kt_32) (by decide) (by decide) rfl (by decide) ?_
        refine aw_aload_n K 1 dL_law_1182 rfl ?_
        refine aw_aload_n K 0 dL_law_1183 rfl ?_
        refine aw_iload_n K 3 dL_law_1184 rfl ?_
        refine aw_iconst K dL_law_1185 ki_1 ?_
        refine aw_iadd K dL_law_1186 ?_
        refine aw_gd (fun h_159 => ?_)
        refine aw_aldX K hX dL_law_1187 h_159 ?_
        refine aw_callVI K dL_law_1188 vw_L_150_11 (c_f_H_span l _) hg (by decide) ob_0 rfl (Nat.le_of_ble_eq_true rfl) rfl rfl (fun r157 σ156 _ => ?_)
        refine aw_aload_n K 2 dL_law_1191 rfl ?_
        refine aw_aload_n K 0 dL_law_1192 rfl ?_
        refine aw_iload_n K 3 dL_law_1193 rfl ?_
        refine aw_iconst K dL_law_1194 ki_1 ?_
        refine aw_iadd K dL_law_1195 ?_
        refine aw_gd (fun h_160 => ?_)
        refine aw_aldX K hX dL_law_1196 h_160 ?_
        refine aw_callVI K dL_law_1197 vw_L_153_12 (c_f_M_span l _) hg (by decide) ob_148 rfl (Nat.le_of_ble_eq_true rfl) rfl rfl (fun r159 σ158 _ => ?_)
        refine aw_icmp_eq K 1785 dL_law_1200 (by decide) (fun h_161 => ?_) (fun h_161 => ?_)
        · refine aw_iinc K (lv' := fun y160 => [(3, .int y160), (0, .ref b), (1, rf P 0), (2, rf P 148)]) 3 dL_law_1785 rfl ki_5 (Nat.le_of_ble_eq_true rfl) (fun _ => rfl) (fun y160 => ?_)
          refine aw_goto K 18 dL_law_1788 (by decide) ?_
          refine aw_lv [1, 2, 3, 0] rfl ?_
          exact ih _ _
        · refine aw_iconst K dL_law_1203 ki_0 ?_
          exact aw_iret dL_law_1204
      refine aw_ite (fun h_162 => ?_) (fun h_162 => ?_)
      · refine aw_tabIn K 1205 (33) dL_law_32 (ti_of h_162 kt_33) (by decide) (by decide) rfl (by decide) ?_
        refine aw_aload_n K 1 dL_law_1205 rfl ?_
        refine aw_callVI K dL_law_1206 vw_L_154_11 (c_f_H_liar l) hg (by decide) ob_0 rfl (Nat.le_of_ble_eq_true rfl) rfl rfl (fun r162 σ161 _ => ?_)
        refine aw_aload_n K 2 dL_law_1209 rfl ?_
        refine aw_callVI K dL_law_1210 vw_L_157_12 (c_f_M_liar l) hg (by decide) ob_148 rfl (Nat.le_of_ble_eq_true rfl) rfl rfl (fun r164 σ163 _ => ?_)
        refine aw_icmp_eq K 1785 dL_law_1213 (by decide) (fun h_163 => ?_) (fun h_163 => ?_)
        · refine aw_iinc K (lv' := fun y165 => [(3, .int y165), (0, .ref b), (1, rf P 0), (2, rf P 148)]) 3 dL_law_1785 rfl ki_5 (Nat.le_of_ble_eq_true rfl) (fun _ => rfl) (fun y165 => ?_)
          refine aw_goto K 18 dL_law_1788 (by decide) ?_
          refine aw_lv [1, 2, 3, 0] rfl ?_
          exact ih _ _
        · refine aw_iconst K dL_law_1216 ki_0 ?_
          exact aw_iret dL_law_1217
      refine aw_ite (fun h_164 => ?_) (fun h_164 => ?_)
      · refine aw_tabIn K 1218 (34) dL_law_32 (ti_of h_164 kt_34) (by decide) (by decide) rfl (by decide) ?_
        refine aw_aload_n K 1 dL_law_1218 rfl ?_
        refine aw_aload_n K 0 dL_law_1219 rfl ?_
        refine aw_iload_n K 3 dL_law_1220 rfl ?_
        refine aw_iconst K dL_law_1221 ki_1 ?_
        refine aw_iadd K dL_law_1222 ?_
        refine aw_gd (fun h_165 => ?_)
        refine aw_aldX K hX dL_law_1223 h_165 ?_
        refine aw_callVI K dL_law_1224 vw_L_158_11 (c_f_H_seed l _) hg (by decide) ob_0 rfl (Nat.le_of_ble_eq_true rfl) rfl rfl (fun r167 σ166 _ => ?_)
        refine aw_aload_n K 2 dL_law_1227 rfl ?_
        refine aw_aload_n K 0 dL_law_1228 rfl ?_
        refine aw_iload_n K 3 dL_law_1229 rfl ?_
        refine aw_iconst K dL_law_1230 ki_1 ?_
        refine aw_iadd K dL_law_1231 ?_
        refine aw_gd (fun h_166 => ?_)
        refine aw_aldX K hX dL_law_1232 h_166 ?_
        refine aw_callVI K dL_law_1233 vw_L_161_12 (c_f_M_seed l _) hg (by decide) ob_148 rfl (Nat.le_of_ble_eq_true rfl) rfl rfl (fun r169 σ168 _ => ?_)
        refine aw_icmp_eq K 1785 dL_law_1236 (by decide) (fun h_167 => ?_) (fun h_167 => ?_)
        · refine aw_iinc K (lv' := fun y170 => [(3, .int y170), (0, .ref b), (1, rf P 0), (2, rf P 148)]) 3 dL_law_1785 rfl ki_5 (Nat.le_of_ble_eq_true rfl) (fun _ => rfl) (fun y170 => ?_)
          refine aw_goto K 18 dL_law_1788 (by decide) ?_
          refine aw_lv [1, 2, 3, 0] rfl ?_
          exact ih _ _
        · refine aw_iconst K dL_law_1239 ki_0 ?_
          exact aw_iret dL_law_1240
      refine aw_ite (fun h_168 => ?_) (fun h_168 => ?_)
      · refine aw_tabIn K 1241 (35) dL_law_32 (ti_of h_168 kt_35) (by decide) (by decide) rfl (by decide) ?_
        refine aw_aload_n K 1 dL_law_1241 rfl ?_
        refine aw_callVI K dL_law_1242 vw_L_162_11 (c_f_H_draw l) hg (by decide) ob_0 rfl (Nat.le_of_ble_eq_true rfl) rfl rfl (fun r172 σ171 _ => ?_)
        refine aw_aload_n K 2 dL_law_1245 rfl ?_
        refine aw_callVI K dL_law_1246 vw_L_165_12 (c_f_M_draw l) hg (by decide) ob_148 rfl (Nat.le_of_ble_eq_true rfl) rfl rfl (fun r174 σ173 _ => ?_)
        refine aw_icmp_eq K 1785 dL_law_1249 (by decide) (fun h_169 => ?_) (fun h_169 => ?_)
        · refine aw_iinc K (lv' := fun y175 => [(3, .int y175), (0, .ref b), (1, rf P 0), (2, rf P 148)]) 3 dL_law_1785 rfl ki_5 (Nat.le_of_ble_eq_true rfl) (fun _ => rfl) (fun y175 => ?_)
          refine aw_goto K 18 dL_law_1788 (by decide) ?_
          refine aw_lv [1, 2, 3, 0] rfl ?_
          exact ih _ _
        · refine aw_iconst K dL_law_1252 ki_0 ?_
          exact aw_iret dL_law_1253
      refine aw_ite (fun h_170 => ?_) (fun h_170 => ?_)
      · refine aw_tabIn K 1254 (36) dL_law_32 (ti_of h_170 kt_36) (by decide) (by decide) rfl (by decide) ?_
        refine aw_aload_n K 1 dL_law_1254 rfl ?_
        refine aw_aload_n K 0 dL_law_1255 rfl ?_
        refine aw_iload_n K 3 dL_law_1256 rfl ?_
        refine aw_iconst K dL_law_1257 ki_1 ?_
        refine aw_iadd K dL_law_1258 ?_
        refine aw_gd (fun h_171 => ?_)
        refine aw_aldX K hX dL_law_1259 h_171 ?_
        refine aw_callVI K dL_law_1260 vw_L_166_11 (c_f_H_often l _) hg (by decide) ob_0 rfl (Nat.le_of_ble_eq_true rfl) rfl rfl (fun r177 σ176 _ => ?_)
        refine aw_aload_n K 2 dL_law_1263 rfl ?_
        refine aw_aload_n K 0 dL_law_1264 rfl ?_
        refine aw_iload_n K 3 dL_law_1265 rfl ?_
        refine aw_iconst K dL_law_1266 ki_1 ?_
        refine aw_iadd K dL_law_1267 ?_
        refine aw_gd (fun h_172 => ?_)
        refine aw_aldX K hX dL_law_1268 h_172 ?_
        refine aw_callVI K dL_law_1269 vw_L_169_12 (c_f_M_often l _) hg (by decide) ob_148 rfl (Nat.le_of_ble_eq_true rfl) rfl rfl (fun r179 σ178 _ => ?_)
        refine aw_icmp_eq K 1785 dL_law_1272 (by decide) (fun h_173 => ?_) (fun h_173 => ?_)
        · refine aw_iinc K (lv' := fun y180 => [(3, .int y180), (0, .ref b), (1, rf P 0), (2, rf P 148)]) 3 dL_law_1785 rfl ki_5 (Nat.le_of_ble_eq_true rfl) (fun _ => rfl) (fun y180 => ?_)
          refine aw_goto K 18 dL_law_1788 (by decide) ?_
          refine aw_lv [1, 2, 3, 0] rfl ?_
          exact ih _ _
        · refine aw_iconst K dL_law_1275 ki_0 ?_
          exact aw_iret dL_law_1276
      refine aw_ite (fun h_174 => ?_) (fun h_174 => ?_)
      · refine aw_tabIn K 1277 (37) dL_law_32 (ti_of h_174 kt_37) (by decide) (by decide) rfl (by decide) ?_
        refine aw_aload_n K 1 dL_law_1277 rfl ?_
        refine aw_callVI K dL_law_1278 vw_L_170_11 (c_f_H_prove l) hg (by decide) ob_0 rfl (Nat.le_of_ble_eq_true rfl) rfl rfl (fun r182 σ181 _ => ?_)
        refine aw_aload_n K 2 dL_law_1281 rfl ?_
        refine aw_callVI K dL_law_1282 vw_L_173_12 (c_f_M_prove l) hg (by decide) ob_148 rfl (Nat.le_of_ble_eq_true rfl) rfl rfl (fun r184 σ183 _ => ?_)
        refine aw_icmp_eq K 1785 dL_law_1285 (by decide) (fun h_175 => ?_) (fun h_175 => ?_)
        · refine aw_iinc K (lv' := fun y185 => [(3, .int y185), (0, .ref b), (1, rf P 0), (2, rf P 148)]) 3 dL_law_1785 rfl ki_5 (Nat.le_of_ble_eq_true rfl) (fun _ => rfl) (fun y185 => ?_)
          refine aw_goto K 18 dL_law_1788 (by decide) ?_
          refine aw_lv [1, 2, 3, 0] rfl ?_
          exact ih _ _
        · refine aw_iconst K dL_law_1288 ki_0 ?_
          exact aw_iret dL_law_1289
      refine aw_ite (fun h_176 => ?_) (fun h_176 => ?_)
      · refine aw_tabIn K 1290 (38) dL_law_32 (ti_of h_176 kt_38) (by decide) (by decide) rfl (by decide) ?_
        refine aw_aload_n K 1 dL_law_1290 rfl ?_
        refine aw_aload_n K 0 dL_law_1291 rfl ?_
        refine aw_iload_n K 3 dL_law_1292 rfl ?_
        refine aw_iconst K dL_law_1293 ki_1 ?_
        refine aw_iadd K dL_law_1294 ?_
        refine aw_gd (fun h_177 => ?_)
        refine aw_aldX K hX dL_law_1295 h_177 ?_
        refine aw_aload_n K 0 dL_law_1296 rfl ?_
        refine aw_iload_n K 3 dL_law_1297 rfl ?_
        refine aw_iconst K dL_law_1298 ki_2 ?_
        refine aw_iadd K dL_law_1299 ?_
        refine aw_gd (fun h_178 => ?_)
        refine aw_aldX K hX dL_law_1300 h_178 ?_
        refine aw_callVI K dL_law_1301 vw_L_174_11 (c_f_H_row l _ _) hg (by decide) ob_0 rfl (Nat.le_of_ble_eq_true rfl) rfl rfl (fun r187 σ186 _ => ?_)
        refine aw_aload_n K 2 dL_law_1304 rfl ?_
        refine aw_aload_n K 0 dL_law_1305 rfl ?_
        refine aw_iload_n K 3 dL_law_1306 rfl ?_
        refine aw_iconst K dL_law_1307 ki_1 ?_
        refine aw_iadd K dL_law_1308 ?_
        refine aw_gd (fun h_179 => ?_)
        refine aw_aldX K hX dL_law_1309 h_179 ?_
        refine aw_aload_n K 0 dL_law_1310 rfl ?_
        refine aw_iload_n K 3 dL_law_1311 rfl ?_
        refine aw_iconst K dL_law_1312 ki_2 ?_
        refine aw_iadd K dL_law_1313 ?_
        refine aw_gd (fun h_180 => ?_)
        refine aw_aldX K hX dL_law_1314 h_180 ?_
        refine aw_callVI K dL_law_1315 vw_L_177_12 (c_f_M_row l _ _) hg (by decide) ob_148 rfl (Nat.le_of_ble_eq_true rfl) rfl rfl (fun r189 σ188 _ => ?_)
        refine aw_icmp_eq K 1785 dL_law_1318 (by decide) (fun h_181 => ?_) (fun h_181 => ?_)
        · refine aw_iinc K (lv' := fun y190 => [(3, .int y190), (0, .ref b), (1, rf P 0), (2, rf P 148)]) 3 dL_law_1785 rfl ki_5 (Nat.le_of_ble_eq_true rfl) (fun _ => rfl) (fun y190 => ?_)
          refine aw_goto K 18 dL_law_1788 (by decide) ?_
          refine aw_lv [1, 2, 3, 0] rfl ?_
          exact ih _ _
        · refine aw_iconst K dL_law_1321 ki_0 ?_
          exact aw_iret dL_law_1322
      refine aw_ite (fun h_182 => ?_) (fun h_182 => ?_)
      · refine aw_tabIn K 1323 (39) dL_law_32 (ti_of h_182 kt_39) (by decide) (by decide) rfl (by decide) ?_
        refine aw_aload_n K 1 dL_law_1323 rfl ?_
        refine aw_aload_n K 0 dL_law_1324 rfl ?_
        refine aw_iload_n K 3 dL_law_1325 rfl ?_
        refine aw_iconst K dL_law_1326 ki_1 ?_
        refine aw_iadd K dL_law_1327 ?_
        refine aw_gd (fun h_183 => ?_)
        refine aw_aldX K hX dL_law_1328 h_183 ?_
        refine aw_aload_n K 0 dL_law_1329 rfl ?_
        refine aw_iload_n K 3 dL_law_1330 rfl ?_
        refine aw_iconst K dL_law_1331 ki_2 ?_
        refine aw_iadd K dL_law_1332 ?_
        refine aw_gd (fun h_184 => ?_)
        refine aw_aldX K hX dL_law_1333 h_184 ?_
        refine aw_aload_n K 0 dL_law_1334 rfl ?_
        refine aw_iload_n K 3 dL_law_1335 rfl ?_
        refine aw_iconst K dL_law_1336 ki_3 ?_
        refine aw_iadd K dL_law_1337 ?_
        refine aw_gd (fun h_185 => ?_)
        refine aw_aldX K hX dL_law_1338 h_185 ?_
        refine aw_callVI K dL_law_1339 vw_L_178_11 (c_f_H_alterRow l _ _ _) hg (by decide) ob_0 rfl (Nat.le_of_ble_eq_true rfl) rfl rfl (fun r192 σ191 _ => ?_)
        refine aw_aload_n K 2 dL_law_1342 rfl ?_
        refine aw_aload_n K 0 dL_law_1343 rfl ?_
        refine aw_iload_n K 3 dL_law_1344 rfl ?_
        refine aw_iconst K dL_law_1345 ki_1 ?_
        refine aw_iadd K dL_law_1346 ?_
        refine aw_gd (fun h_186 => ?_)
        refine aw_aldX K hX dL_law_1347 h_186 ?_
        refine aw_aload_n K 0 dL_law_1348 rfl ?_
        refine aw_iload_n K 3 dL_law_1349 rfl ?_
        refine aw_iconst K dL_law_1350 ki_2 ?_
        refine aw_iadd K dL_law_1351 ?_
        refine aw_gd (fun h_187 => ?_)
        refine aw_aldX K hX dL_law_1352 h_187 ?_
        refine aw_aload_n K 0 dL_law_1353 rfl ?_
        refine aw_iload_n K 3 dL_law_1354 rfl ?_
        refine aw_iconst K dL_law_1355 ki_3 ?_
        refine aw_iadd K dL_law_1356 ?_
        refine aw_gd (fun h_188 => ?_)
        refine aw_aldX K hX dL_law_1357 h_188 ?_
        refine aw_callVI K dL_law_1358 vw_L_181_12 (c_f_M_alterRow l _ _ _) hg (by decide) ob_148 rfl (Nat.le_of_ble_eq_true rfl) rfl rfl (fun r194 σ193 _ => ?_)
        refine aw_icmp_eq K 1785 dL_law_1361 (by decide) (fun h_189 => ?_) (fun h_189 => ?_)
        · refine aw_iinc K (lv' := fun y195 => [(3, .int y195), (0, .ref b), (1, rf P 0), (2, rf P 148)]) 3 dL_law_1785 rfl ki_5 (Nat.le_of_ble_eq_true rfl) (fun _ => rfl) (fun y195 => ?_)
          refine aw_goto K 18 dL_law_1788 (by decide) ?_
          refine aw_lv [1, 2, 3, 0] rfl ?_
          exact ih _ _
        · refine aw_iconst K dL_law_1364 ki_0 ?_
          exact aw_iret dL_law_1365
      refine aw_ite (fun h_190 => ?_) (fun h_190 => ?_)
      · refine aw_tabIn K 1366 (40) dL_law_32 (ti_of h_190 kt_40) (by decide) (by decide) rfl (by decide) ?_
        refine aw_aload_n K 1 dL_law_1366 rfl ?_
        refine aw_callVI K dL_law_1367 vw_L_182_11 (c_f_H_judge l) hg (by decide) ob_0 rfl (Nat.le_of_ble_eq_true rfl) rfl rfl (fun r197 σ196 _ => ?_)
        refine aw_aload_n K 2 dL_law_1370 rfl ?_
        refine aw_callVI K dL_law_1371 vw_L_185_12 (c_f_M_judge l) hg (by decide) ob_148 rfl (Nat.le_of_ble_eq_true rfl) rfl rfl (fun r199 σ198 _ => ?_)
        refine aw_icmp_eq K 1785 dL_law_1374 (by decide) (fun h_191 => ?_) (fun h_191 => ?_)
        · refine aw_iinc K (lv' := fun y200 => [(3, .int y200), (0, .ref b), (1, rf P 0), (2, rf P 148)]) 3 dL_law_1785 rfl ki_5 (Nat.le_of_ble_eq_true rfl) (fun _ => rfl) (fun y200 => ?_)
          refine aw_goto K 18 dL_law_1788 (by decide) ?_
          refine aw_lv [1, 2, 3, 0] rfl ?_
          exact ih _ _
        · refine aw_iconst K dL_law_1377 ki_0 ?_
          exact aw_iret dL_law_1378
      refine aw_ite (fun h_192 => ?_) (fun h_192 => ?_)
      · refine aw_tabIn K 1379 (41) dL_law_32 (ti_of h_192 kt_41) (by decide) (by decide) rfl (by decide) ?_
        refine aw_aload_n K 1 dL_law_1379 rfl ?_
        refine aw_aload_n K 0 dL_law_1380 rfl ?_
        refine aw_iload_n K 3 dL_law_1381 rfl ?_
        refine aw_iconst K dL_law_1382 ki_1 ?_
        refine aw_iadd K dL_law_1383 ?_
        refine aw_gd (fun h_193 => ?_)
        refine aw_aldX K hX dL_law_1384 h_193 ?_
        refine aw_aload_n K 0 dL_law_1385 rfl ?_
        refine aw_iload_n K 3 dL_law_1386 rfl ?_
        refine aw_iconst K dL_law_1387 ki_2 ?_
        refine aw_iadd K dL_law_1388 ?_
        refine aw_gd (fun h_194 => ?_)
        refine aw_aldX K hX dL_law_1389 h_194 ?_
        refine aw_aload_n K 0 dL_law_1390 rfl ?_
        refine aw_iload_n K 3 dL_law_1391 rfl ?_
        refine aw_iconst K dL_law_1392 ki_3 ?_
        refine aw_iadd K dL_law_1393 ?_
        refine aw_gd (fun h_195 => ?_)
        refine aw_aldX K hX dL_law_1394 h_195 ?_
        refine aw_callVI K dL_law_1395 vw_L_186_11 (c_f_H_sheet l _ _ _) hg (by decide) ob_0 rfl (Nat.le_of_ble_eq_true rfl) rfl rfl (fun r202 σ201 _ => ?_)
        refine aw_aload_n K 2 dL_law_1398 rfl ?_
        refine aw_aload_n K 0 dL_law_1399 rfl ?_
        refine aw_iload_n K 3 dL_law_1400 rfl ?_
        refine aw_iconst K dL_law_1401 ki_1 ?_
        refine aw_iadd K dL_law_1402 ?_
        refine aw_gd (fun h_196 => ?_)
        refine aw_aldX K hX dL_law_1403 h_196 ?_
        refine aw_aload_n K 0 dL_law_1404 rfl ?_
        refine aw_iload_n K 3 dL_law_1405 rfl ?_
        refine aw_iconst K dL_law_1406 ki_2 ?_
        refine aw_iadd K dL_law_1407 ?_
        refine aw_gd (fun h_197 => ?_)
        refine aw_aldX K hX dL_law_1408 h_197 ?_
        refine aw_aload_n K 0 dL_law_1409 rfl ?_
        refine aw_iload_n K 3 dL_law_1410 rfl ?_
        refine aw_iconst K dL_law_1411 ki_3 ?_
        refine aw_iadd K dL_law_1412 ?_
        refine aw_gd (fun h_198 => ?_)
        refine aw_aldX K hX dL_law_1413 h_198 ?_
        refine aw_callVI K dL_law_1414 vw_L_189_12 (c_f_M_sheet l _ _ _) hg (by decide) ob_148 rfl (Nat.le_of_ble_eq_true rfl) rfl rfl (fun r204 σ203 _ => ?_)
        refine aw_icmp_eq K 1785 dL_law_1417 (by decide) (fun h_199 => ?_) (fun h_199 => ?_)
        · refine aw_iinc K (lv' := fun y205 => [(3, .int y205), (0, .ref b), (1, rf P 0), (2, rf P 148)]) 3 dL_law_1785 rfl ki_5 (Nat.le_of_ble_eq_true rfl) (fun _ => rfl) (fun y205 => ?_)
          refine aw_goto K 18 dL_law_1788 (by decide) ?_
          refine aw_lv [1, 2, 3, 0] rfl ?_
          exact ih _ _
        · refine aw_iconst K dL_law_1420 ki_0 ?_
          exact aw_iret dL_law_1421
      refine aw_ite (fun h_200 => ?_) (fun h_200 => ?_)
      · refine aw_tabIn K 1422 (42) dL_law_32 (ti_of h_200 kt_42) (by decide) (by decide) rfl (by decide) ?_
        refine aw_aload_n K 1 dL_law_1422 rfl ?_
        refine aw_aload_n K 0 dL_law_1423 rfl ?_
        refine aw_iload_n K 3 dL_law_1424 rfl ?_
        refine aw_iconst K dL_law_1425 ki_1 ?_
        refine aw_iadd K dL_law_1426 ?_
        refine aw_gd (fun h_201 => ?_)
        refine aw_aldX K hX dL_law_1427 h_201 ?_
        refine aw_aload_n K 0 dL_law_1428 rfl ?_
        refine aw_iload_n K 3 dL_law_1429 rfl ?_
        refine aw_iconst K dL_law_1430 ki_2 ?_
        refine aw_iadd K dL_law_1431 ?_
        refine aw_gd (fun h_202 => ?_)
        refine aw_aldX K hX dL_law_1432 h_202 ?_
        refine aw_aload_n K 0 dL_law_1433 rfl ?_
        refine aw_iload_n K 3 dL_law_1434 rfl ?_
        refine aw_iconst K dL_law_1435 ki_3 ?_
        refine aw_iadd K dL_law_1436 ?_
        refine aw_gd (fun h_203 => ?_)
        refine aw_aldX K hX dL_law_1437 h_203 ?_
        refine aw_callVI K dL_law_1438 vw_L_190_11 (c_f_H_write l _ _ _) hg (by decide) ob_0 rfl (Nat.le_of_ble_eq_true rfl) rfl rfl (fun r207 σ206 _ => ?_)
        refine aw_aload_n K 2 dL_law_1441 rfl ?_
        refine aw_aload_n K 0 dL_law_1442 rfl ?_
        refine aw_iload_n K 3 dL_law_1443 rfl ?_
        refine aw_iconst K dL_law_1444 ki_1 ?_
        refine aw_iadd K dL_law_1445 ?_
        refine aw_gd (fun h_204 => ?_)
        refine aw_aldX K hX dL_law_1446 h_204 ?_
        refine aw_aload_n K 0 dL_law_1447 rfl ?_
        refine aw_iload_n K 3 dL_law_1448 rfl ?_
        refine aw_iconst K dL_law_1449 ki_2 ?_
        refine aw_iadd K dL_law_1450 ?_
        refine aw_gd (fun h_205 => ?_)
        refine aw_aldX K hX dL_law_1451 h_205 ?_
        refine aw_aload_n K 0 dL_law_1452 rfl ?_
        refine aw_iload_n K 3 dL_law_1453 rfl ?_
        refine aw_iconst K dL_law_1454 ki_3 ?_
        refine aw_iadd K dL_law_1455 ?_
        refine aw_gd (fun h_206 => ?_)
        refine aw_aldX K hX dL_law_1456 h_206 ?_
        refine aw_callVI K dL_law_1457 vw_L_193_12 (c_f_M_write l _ _ _) hg (by decide) ob_148 rfl (Nat.le_of_ble_eq_true rfl) rfl rfl (fun r209 σ208 _ => ?_)
        refine aw_icmp_eq K 1785 dL_law_1460 (by decide) (fun h_207 => ?_) (fun h_207 => ?_)
        · refine aw_iinc K (lv' := fun y210 => [(3, .int y210), (0, .ref b), (1, rf P 0), (2, rf P 148)]) 3 dL_law_1785 rfl ki_5 (Nat.le_of_ble_eq_true rfl) (fun _ => rfl) (fun y210 => ?_)
          refine aw_goto K 18 dL_law_1788 (by decide) ?_
          refine aw_lv [1, 2, 3, 0] rfl ?_
          exact ih _ _
        · refine aw_iconst K dL_law_1463 ki_0 ?_
          exact aw_iret dL_law_1464
      refine aw_ite (fun h_208 => ?_) (fun h_208 => ?_)
      · refine aw_tabIn K 1465 (43) dL_law_32 (ti_of h_208 kt_43) (by decide) (by decide) rfl (by decide) ?_
        refine aw_aload_n K 1 dL_law_1465 rfl ?_
        refine aw_aload_n K 0 dL_law_1466 rfl ?_
        refine aw_iload_n K 3 dL_law_1467 rfl ?_
        refine aw_iconst K dL_law_1468 ki_1 ?_
        refine aw_iadd K dL_law_1469 ?_
        refine aw_gd (fun h_209 => ?_)
        refine aw_aldX K hX dL_law_1470 h_209 ?_
        refine aw_aload_n K 0 dL_law_1471 rfl ?_
        refine aw_iload_n K 3 dL_law_1472 rfl ?_
        refine aw_iconst K dL_law_1473 ki_2 ?_
        refine aw_iadd K dL_law_1474 ?_
        refine aw_gd (fun h_210 => ?_)
        refine aw_aldX K hX dL_law_1475 h_210 ?_
        refine aw_aload_n K 0 dL_law_1476 rfl ?_
        refine aw_iload_n K 3 dL_law_1477 rfl ?_
        refine aw_iconst K dL_law_1478 ki_3 ?_
        refine aw_iadd K dL_law_1479 ?_
        refine aw_gd (fun h_211 => ?_)
        refine aw_aldX K hX dL_law_1480 h_211 ?_
        refine aw_callVI K dL_law_1481 vw_L_194_11 (c_f_H_item l _ _ _) hg (by decide) ob_0 rfl (Nat.le_of_ble_eq_true rfl) rfl rfl (fun r212 σ211 _ => ?_)
        refine aw_aload_n K 2 dL_law_1484 rfl ?_
        refine aw_aload_n K 0 dL_law_1485 rfl ?_
        refine aw_iload_n K 3 dL_law_1486 rfl ?_
        refine aw_iconst K dL_law_1487 ki_1 ?_
        refine aw_iadd K dL_law_1488 ?_
        refine aw_gd (fun h_212 => ?_)
        refine aw_aldX K hX dL_law_1489 h_212 ?_
        refine aw_aload_n K 0 dL_law_1490 rfl ?_
        refine aw_iload_n K 3 dL_law_1491 rfl ?_
        refine aw_iconst K dL_law_1492 ki_2 ?_
        refine aw_iadd K dL_law_1493 ?_
        refine aw_gd (fun h_213 => ?_)
        refine aw_aldX K hX dL_law_1494 h_213 ?_
        refine aw_aload_n K 0 dL_law_1495 rfl ?_
        refine aw_iload_n K 3 dL_law_1496 rfl ?_
        refine aw_iconst K dL_law_1497 ki_3 ?_
        refine aw_iadd K dL_law_1498 ?_
        refine aw_gd (fun h_214 => ?_)
        refine aw_aldX K hX dL_law_1499 h_214 ?_
        refine aw_callVI K dL_law_1500 vw_L_197_12 (c_f_M_item l _ _ _) hg (by decide) ob_148 rfl (Nat.le_of_ble_eq_true rfl) rfl rfl (fun r214 σ213 _ => ?_)
        refine aw_icmp_eq K 1785 dL_law_1503 (by decide) (fun h_215 => ?_) (fun h_215 => ?_)
        · refine aw_iinc K (lv' := fun y215 => [(3, .int y215), (0, .ref b), (1, rf P 0), (2, rf P 148)]) 3 dL_law_1785 rfl ki_5 (Nat.le_of_ble_eq_true rfl) (fun _ => rfl) (fun y215 => ?_)
          refine aw_goto K 18 dL_law_1788 (by decide) ?_
          refine aw_lv [1, 2, 3, 0] rfl ?_
          exact ih _ _
        · refine aw_iconst K dL_law_1506 ki_0 ?_
          exact aw_iret dL_law_1507
      refine aw_ite (fun h_216 => ?_) (fun h_216 => ?_)
      · refine aw_tabIn K 1508 (44) dL_law_32 (ti_of h_216 kt_44) (by decide) (by decide) rfl (by decide) ?_
        refine aw_aload_n K 1 dL_law_1508 rfl ?_
        refine aw_aload_n K 0 dL_law_1509 rfl ?_
        refine aw_iload_n K 3 dL_law_1510 rfl ?_
        refine aw_iconst K dL_law_1511 ki_1 ?_
        refine aw_iadd K dL_law_1512 ?_
        refine aw_gd (fun h_217 => ?_)
        refine aw_aldX K hX dL_law_1513 h_217 ?_
        refine aw_aload_n K 0 dL_law_1514 rfl ?_
        refine aw_iload_n K 3 dL_law_1515 rfl ?_
        refine aw_iconst K dL_law_1516 ki_2 ?_
        refine aw_iadd K dL_law_1517 ?_
        refine aw_gd (fun h_218 => ?_)
        refine aw_aldX K hX dL_law_1518 h_218 ?_
        refine aw_aload_n K 0 dL_law_1519 rfl ?_
        refine aw_iload_n K 3 dL_law_1520 rfl ?_
        refine aw_iconst K dL_law_1521 ki_3 ?_
        refine aw_iadd K dL_law_1522 ?_
        refine aw_gd (fun h_219 => ?_)
        refine aw_aldX K hX dL_law_1523 h_219 ?_
        refine aw_callVI K dL_law_1524 vw_L_198_11 (c_f_H_makeAll l _ _ _) hg (by decide) ob_0 rfl (Nat.le_of_ble_eq_true rfl) rfl rfl (fun r217 σ216 _ => ?_)
        refine aw_aload_n K 2 dL_law_1527 rfl ?_
        refine aw_aload_n K 0 dL_law_1528 rfl ?_
        refine aw_iload_n K 3 dL_law_1529 rfl ?_
        refine aw_iconst K dL_law_1530 ki_1 ?_
        refine aw_iadd K dL_law_1531 ?_
        refine aw_gd (fun h_220 => ?_)
        refine aw_aldX K hX dL_law_1532 h_220 ?_
        refine aw_aload_n K 0 dL_law_1533 rfl ?_
        refine aw_iload_n K 3 dL_law_1534 rfl ?_
        refine aw_iconst K dL_law_1535 ki_2 ?_
        refine aw_iadd K dL_law_1536 ?_
        refine aw_gd (fun h_221 => ?_)
        refine aw_aldX K hX dL_law_1537 h_221 ?_
        refine aw_aload_n K 0 dL_law_1538 rfl ?_
        refine aw_iload_n K 3 dL_law_1539 rfl ?_
        refine aw_iconst K dL_law_1540 ki_3 ?_
        refine aw_iadd K dL_law_1541 ?_
        refine aw_gd (fun h_222 => ?_)
        refine aw_aldX K hX dL_law_1542 h_222 ?_
        refine aw_callVI K dL_law_1543 vw_L_201_12 (c_f_M_makeAll l _ _ _) hg (by decide) ob_148 rfl (Nat.le_of_ble_eq_true rfl) rfl rfl (fun r219 σ218 _ => ?_)
        refine aw_icmp_eq K 1785 dL_law_1546 (by decide) (fun h_223 => ?_) (fun h_223 => ?_)
        · refine aw_iinc K (lv' := fun y220 => [(3, .int y220), (0, .ref b), (1, rf P 0), (2, rf P 148)]) 3 dL_law_1785 rfl ki_5 (Nat.le_of_ble_eq_true rfl) (fun _ => rfl) (fun y220 => ?_)
          refine aw_goto K 18 dL_law_1788 (by decide) ?_
          refine aw_lv [1, 2, 3, 0] rfl ?_
          exact ih _ _
        · refine aw_iconst K dL_law_1549 ki_0 ?_
          exact aw_iret dL_law_1550
      refine aw_ite (fun h_224 => ?_) (fun h_224 => ?_)
      · refine aw_tabIn K 1551 (45) dL_law_32 (ti_of h_224 kt_45) (by decide) (by decide) rfl (by decide) ?_
        refine aw_aload_n K 1 dL_law_1551 rfl ?_
        refine aw_aload_n K 0 dL_law_1552 rfl ?_
        refine aw_iload_n K 3 dL_law_1553 rfl ?_
        refine aw_iconst K dL_law_1554 ki_1 ?_
        refine aw_iadd K dL_law_1555 ?_
        refine aw_gd (fun h_225 => ?_)
        refine aw_aldX K hX dL_law_1556 h_225 ?_
        refine aw_aload_n K 0 dL_law_1557 rfl ?_
        refine aw_iload_n K 3 dL_law_1558 rfl ?_
        refine aw_iconst K dL_law_1559 ki_2 ?_
        refine aw_iadd K dL_law_1560 ?_
        refine aw_gd (fun h_226 => ?_)
        refine aw_aldX K hX dL_law_1561 h_226 ?_
        refine aw_aload_n K 0 dL_law_1562 rfl ?_
        refine aw_iload_n K 3 dL_law_1563 rfl ?_
        refine aw_iconst K dL_law_1564 ki_3 ?_
        refine aw_iadd K dL_law_1565 ?_
        refine aw_gd (fun h_227 => ?_)
        refine aw_aldX K hX dL_law_1566 h_227 ?_
        refine aw_callVI K dL_law_1567 vw_L_202_11 (c_f_H_wouldCost l _ _ _) hg (by decide) ob_0 rfl (Nat.le_of_ble_eq_true rfl) rfl rfl (fun r222 σ221 _ => ?_)
        refine aw_aload_n K 2 dL_law_1570 rfl ?_
        refine aw_aload_n K 0 dL_law_1571 rfl ?_
        refine aw_iload_n K 3 dL_law_1572 rfl ?_
        refine aw_iconst K dL_law_1573 ki_1 ?_
        refine aw_iadd K dL_law_1574 ?_
        refine aw_gd (fun h_228 => ?_)
        refine aw_aldX K hX dL_law_1575 h_228 ?_
        refine aw_aload_n K 0 dL_law_1576 rfl ?_
        refine aw_iload_n K 3 dL_law_1577 rfl ?_
        refine aw_iconst K dL_law_1578 ki_2 ?_
        refine aw_iadd K dL_law_1579 ?_
        refine aw_gd (fun h_229 => ?_)
        refine aw_aldX K hX dL_law_1580 h_229 ?_
        refine aw_aload_n K 0 dL_law_1581 rfl ?_
        refine aw_iload_n K 3 dL_law_1582 rfl ?_
        refine aw_iconst K dL_law_1583 ki_3 ?_
        refine aw_iadd K dL_law_1584 ?_
        refine aw_gd (fun h_230 => ?_)
        refine aw_aldX K hX dL_law_1585 h_230 ?_
        refine aw_callVI K dL_law_1586 vw_L_205_12 (c_f_M_wouldCost l _ _ _) hg (by decide) ob_148 rfl (Nat.le_of_ble_eq_true rfl) rfl rfl (fun r224 σ223 _ => ?_)
        refine aw_icmp_eq K 1785 dL_law_1589 (by decide) (fun h_231 => ?_) (fun h_231 => ?_)
        · refine aw_iinc K (lv' := fun y225 => [(3, .int y225), (0, .ref b), (1, rf P 0), (2, rf P 148)]) 3 dL_law_1785 rfl ki_5 (Nat.le_of_ble_eq_true rfl) (fun _ => rfl) (fun y225 => ?_)
          refine aw_goto K 18 dL_law_1788 (by decide) ?_
          refine aw_lv [1, 2, 3, 0] rfl ?_
          exact ih _ _
        · refine aw_iconst K dL_law_1592 ki_0 ?_
          exact aw_iret dL_law_1593
      refine aw_ite (fun h_232 => ?_) (fun h_232 => ?_)
      · refine aw_tabIn K 1594 (46) dL_law_32 (ti_of h_232 kt_46) (by decide) (by decide) rfl (by decide) ?_
        refine aw_aload_n K 1 dL_law_1594 rfl ?_
        refine aw_aload_n K 0 dL_law_1595 rfl ?_
        refine aw_iload_n K 3 dL_law_1596 rfl ?_
        refine aw_iconst K dL_law_1597 ki_1 ?_
        refine aw_iadd K dL_law_1598 ?_
        refine aw_gd (fun h_233 => ?_)
        refine aw_aldX K hX dL_law_1599 h_233 ?_
        refine aw_aload_n K 0 dL_law_1600 rfl ?_
        refine aw_iload_n K 3 dL_law_1601 rfl ?_
        refine aw_iconst K dL_law_1602 ki_2 ?_
        refine aw_iadd K dL_law_1603 ?_
        refine aw_gd (fun h_234 => ?_)
        refine aw_aldX K hX dL_law_1604 h_234 ?_
        refine aw_aload_n K 0 dL_law_1605 rfl ?_
        refine aw_iload_n K 3 dL_law_1606 rfl ?_
        refine aw_iconst K dL_law_1607 ki_3 ?_
        refine aw_iadd K dL_law_1608 ?_
        refine aw_gd (fun h_235 => ?_)
        refine aw_aldX K hX dL_law_1609 h_235 ?_
        refine aw_callVI K dL_law_1610 vw_L_206_11 (c_f_H_shelf l _ _ _) hg (by decide) ob_0 rfl (Nat.le_of_ble_eq_true rfl) rfl rfl (fun r227 σ226 _ => ?_)
        refine aw_aload_n K 2 dL_law_1613 rfl ?_
        refine aw_aload_n K 0 dL_law_1614 rfl ?_
        refine aw_iload_n K 3 dL_law_1615 rfl ?_
        refine aw_iconst K dL_law_1616 ki_1 ?_
        refine aw_iadd K dL_law_1617 ?_
        refine aw_gd (fun h_236 => ?_)
        refine aw_aldX K hX dL_law_1618 h_236 ?_
        refine aw_aload_n K 0 dL_law_1619 rfl ?_
        refine aw_iload_n K 3 dL_law_1620 rfl ?_
        refine aw_iconst K dL_law_1621 ki_2 ?_
        refine aw_iadd K dL_law_1622 ?_
        refine aw_gd (fun h_237 => ?_)
        refine aw_aldX K hX dL_law_1623 h_237 ?_
        refine aw_aload_n K 0 dL_law_1624 rfl ?_
        refine aw_iload_n K 3 dL_law_1625 rfl ?_
        refine aw_iconst K dL_law_1626 ki_3 ?_
        refine aw_iadd K dL_law_1627 ?_
        refine aw_gd (fun h_238 => ?_)
        refine aw_aldX K hX dL_law_1628 h_238 ?_
        refine aw_callVI K dL_law_1629 vw_L_209_12 (c_f_M_shelf l _ _ _) hg (by decide) ob_148 rfl (Nat.le_of_ble_eq_true rfl) rfl rfl (fun r229 σ228 _ => ?_)
        refine aw_icmp_eq K 1785 dL_law_1632 (by decide) (fun h_239 => ?_) (fun h_239 => ?_)
        · refine aw_iinc K (lv' := fun y230 => [(3, .int y230), (0, .ref b), (1, rf P 0), (2, rf P 148)]) 3 dL_law_1785 rfl ki_5 (Nat.le_of_ble_eq_true rfl) (fun _ => rfl) (fun y230 => ?_)
          refine aw_goto K 18 dL_law_1788 (by decide) ?_
          refine aw_lv [1, 2, 3, 0] rfl ?_
          exact ih _ _
        · refine aw_iconst K dL_law_1635 ki_0 ?_
          exact aw_iret dL_law_1636
      refine aw_ite (fun h_240 => ?_) (fun h_240 => ?_)
      · refine aw_tabIn K 1637 (47) dL_law_32 (ti_of h_240 kt_47) (by decide) (by decide) rfl (by decide) ?_
        refine aw_aload_n K 1 dL_law_1637 rfl ?_
        refine aw_aload_n K 0 dL_law_1638 rfl ?_
        refine aw_iload_n K 3 dL_law_1639 rfl ?_
        refine aw_iconst K dL_law_1640 ki_1 ?_
        refine aw_iadd K dL_law_1641 ?_
        refine aw_gd (fun h_241 => ?_)
        refine aw_aldX K hX dL_law_1642 h_241 ?_
        refine aw_aload_n K 0 dL_law_1643 rfl ?_
        refine aw_iload_n K 3 dL_law_1644 rfl ?_
        refine aw_iconst K dL_law_1645 ki_2 ?_
        refine aw_iadd K dL_law_1646 ?_
        refine aw_gd (fun h_242 => ?_)
        refine aw_aldX K hX dL_law_1647 h_242 ?_
        refine aw_callVI K dL_law_1648 vw_L_210_11 (c_f_H_taken l _ _) hg (by decide) ob_0 rfl (Nat.le_of_ble_eq_true rfl) rfl rfl (fun r232 σ231 _ => ?_)
        refine aw_aload_n K 2 dL_law_1651 rfl ?_
        refine aw_aload_n K 0 dL_law_1652 rfl ?_
        refine aw_iload_n K 3 dL_law_1653 rfl ?_
        refine aw_iconst K dL_law_1654 ki_1 ?_
        refine aw_iadd K dL_law_1655 ?_
        refine aw_gd (fun h_243 => ?_)
        refine aw_aldX K hX dL_law_1656 h_243 ?_
        refine aw_aload_n K 0 dL_law_1657 rfl ?_
        refine aw_iload_n K 3 dL_law_1658 rfl ?_
        refine aw_iconst K dL_law_1659 ki_2 ?_
        refine aw_iadd K dL_law_1660 ?_
        refine aw_gd (fun h_244 => ?_)
        refine aw_aldX K hX dL_law_1661 h_244 ?_
        refine aw_callVI K dL_law_1662 vw_L_213_12 (c_f_M_taken l _ _) hg (by decide) ob_148 rfl (Nat.le_of_ble_eq_true rfl) rfl rfl (fun r234 σ233 _ => ?_)
        refine aw_icmp_eq K 1785 dL_law_1665 (by decide) (fun h_245 => ?_) (fun h_245 => ?_)
        · refine aw_iinc K (lv' := fun y235 => [(3, .int y235), (0, .ref b), (1, rf P 0), (2, rf P 148)]) 3 dL_law_1785 rfl ki_5 (Nat.le_of_ble_eq_true rfl) (fun _ => rfl) (fun y235 => ?_)
          refine aw_goto K 18 dL_law_1788 (by decide) ?_
          refine aw_lv [1, 2, 3, 0] rfl ?_
          exact ih _ _
        · refine aw_iconst K dL_law_1668 ki_0 ?_
          exact aw_iret dL_law_1669
      refine aw_ite (fun h_246 => ?_) (fun h_246 => ?_)
      · refine aw_tabIn K 1670 (48) dL_law_32 (ti_of h_246 kt_48) (by decide) (by decide) rfl (by decide) ?_
        refine aw_aload_n K 1 dL_law_1670 rfl ?_
        refine aw_aload_n K 0 dL_law_1671 rfl ?_
        refine aw_iload_n K 3 dL_law_1672 rfl ?_
        refine aw_iconst K dL_law_1673 ki_1 ?_
        refine aw_iadd K dL_law_1674 ?_
        refine aw_gd (fun h_247 => ?_)
        refine aw_aldX K hX dL_law_1675 h_247 ?_
        refine aw_aload_n K 0 dL_law_1676 rfl ?_
        refine aw_iload_n K 3 dL_law_1677 rfl ?_
        refine aw_iconst K dL_law_1678 ki_2 ?_
        refine aw_iadd K dL_law_1679 ?_
        refine aw_gd (fun h_248 => ?_)
        refine aw_aldX K hX dL_law_1680 h_248 ?_
        refine aw_aload_n K 0 dL_law_1681 rfl ?_
        refine aw_iload_n K 3 dL_law_1682 rfl ?_
        refine aw_iconst K dL_law_1683 ki_3 ?_
        refine aw_iadd K dL_law_1684 ?_
        refine aw_gd (fun h_249 => ?_)
        refine aw_aldX K hX dL_law_1685 h_249 ?_
        refine aw_callVI K dL_law_1686 vw_L_214_11 (c_f_H_act l _ _ _) hg (by decide) ob_0 rfl (Nat.le_of_ble_eq_true rfl) rfl rfl (fun r237 σ236 _ => ?_)
        refine aw_aload_n K 2 dL_law_1689 rfl ?_
        refine aw_aload_n K 0 dL_law_1690 rfl ?_
        refine aw_iload_n K 3 dL_law_1691 rfl ?_
        refine aw_iconst K dL_law_1692 ki_1 ?_
        refine aw_iadd K dL_law_1693 ?_
        refine aw_gd (fun h_250 => ?_)
        refine aw_aldX K hX dL_law_1694 h_250 ?_
        refine aw_aload_n K 0 dL_law_1695 rfl ?_
        refine aw_iload_n K 3 dL_law_1696 rfl ?_
        refine aw_iconst K dL_law_1697 ki_2 ?_
        refine aw_iadd K dL_law_1698 ?_
        refine aw_gd (fun h_251 => ?_)
        refine aw_aldX K hX dL_law_1699 h_251 ?_
        refine aw_aload_n K 0 dL_law_1700 rfl ?_
        refine aw_iload_n K 3 dL_law_1701 rfl ?_
        refine aw_iconst K dL_law_1702 ki_3 ?_
        refine aw_iadd K dL_law_1703 ?_
        refine aw_gd (fun h_252 => ?_)
        refine aw_aldX K hX dL_law_1704 h_252 ?_
        refine aw_callVI K dL_law_1705 vw_L_217_12 (c_f_M_act l _ _ _) hg (by decide) ob_148 rfl (Nat.le_of_ble_eq_true rfl) rfl rfl (fun r239 σ238 _ => ?_)
        refine aw_icmp_eq K 1785 dL_law_1708 (by decide) (fun h_253 => ?_) (fun h_253 => ?_)
        · refine aw_iinc K (lv' := fun y240 => [(3, .int y240), (0, .ref b), (1, rf P 0), (2, rf P 148)]) 3 dL_law_1785 rfl ki_5 (Nat.le_of_ble_eq_true rfl) (fun _ => rfl) (fun y240 => ?_)
          refine aw_goto K 18 dL_law_1788 (by decide) ?_
          refine aw_lv [1, 2, 3, 0] rfl ?_
          exact ih _ _
        · refine aw_iconst K dL_law_1711 ki_0 ?_
          exact aw_iret dL_law_1712
      refine aw_ite (fun h_254 => ?_) (fun h_254 => ?_)
      · refine aw_tabIn K 1713 (49) dL_law_32 (ti_of h_254 kt_49) (by decide) (by decide) rfl (by decide) ?_
        refine aw_aload_n K 1 dL_law_1713 rfl ?_
        refine aw_aload_n K 0 dL_law_1714 rfl ?_
        refine aw_iload_n K 3 dL_law_1715 rfl ?_
        refine aw_iconst K dL_law_1716 ki_1 ?_
        refine aw_iadd K dL_law_1717 ?_
        refine aw_gd (fun h_255 => ?_)
        refine aw_aldX K hX dL_law_1718 h_255 ?_
        refine aw_callVI K dL_law_1719 vw_L_218_11 (c_f_H_trace l _) hg (by decide) ob_0 rfl (Nat.le_of_ble_eq_true rfl) rfl rfl (fun r242 σ241 _ => ?_)
        refine aw_aload_n K 2 dL_law_1722 rfl ?_
        refine aw_aload_n K 0 dL_law_1723 rfl ?_
        refine aw_iload_n K 3 dL_law_1724 rfl ?_
        refine aw_iconst K dL_law_1725 ki_1 ?_
        refine aw_iadd K dL_law_1726 ?_
        refine aw_gd (fun h_256 => ?_)
        refine aw_aldX K hX dL_law_1727 h_256 ?_
        refine aw_callVI K dL_law_1728 vw_L_221_12 (c_f_M_trace l _) hg (by decide) ob_148 rfl (Nat.le_of_ble_eq_true rfl) rfl rfl (fun r244 σ243 _ => ?_)
        refine aw_icmp_eq K 1785 dL_law_1731 (by decide) (fun h_257 => ?_) (fun h_257 => ?_)
        · refine aw_iinc K (lv' := fun y245 => [(3, .int y245), (0, .ref b), (1, rf P 0), (2, rf P 148)]) 3 dL_law_1785 rfl ki_5 (Nat.le_of_ble_eq_true rfl) (fun _ => rfl) (fun y245 => ?_)
          refine aw_goto K 18 dL_law_1788 (by decide) ?_
          refine aw_lv [1, 2, 3, 0] rfl ?_
          exact ih _ _
        · refine aw_iconst K dL_law_1734 ki_0 ?_
          exact aw_iret dL_law_1735
      refine aw_ite (fun h_258 => ?_) (fun h_258 => ?_)
      · refine aw_tabIn K 1736 (50) dL_law_32 (ti_of h_258 kt_50) (by decide) (by decide) rfl (by decide) ?_
        refine aw_aload_n K 1 dL_law_1736 rfl ?_
        refine aw_aload_n K 0 dL_law_1737 rfl ?_
        refine aw_iload_n K 3 dL_law_1738 rfl ?_
        refine aw_iconst K dL_law_1739 ki_1 ?_
        refine aw_iadd K dL_law_1740 ?_
        refine aw_gd (fun h_259 => ?_)
        refine aw_aldX K hX dL_law_1741 h_259 ?_
        refine aw_callVI K dL_law_1742 vw_L_222_11 (c_f_H_many l _) hg (by decide) ob_0 rfl (Nat.le_of_ble_eq_true rfl) rfl rfl (fun r247 σ246 _ => ?_)
        refine aw_aload_n K 2 dL_law_1745 rfl ?_
        refine aw_aload_n K 0 dL_law_1746 rfl ?_
        refine aw_iload_n K 3 dL_law_1747 rfl ?_
        refine aw_iconst K dL_law_1748 ki_1 ?_
        refine aw_iadd K dL_law_1749 ?_
        refine aw_gd (fun h_260 => ?_)
        refine aw_aldX K hX dL_law_1750 h_260 ?_
        refine aw_callVI K dL_law_1751 vw_L_225_12 (c_f_M_many l _) hg (by decide) ob_148 rfl (Nat.le_of_ble_eq_true rfl) rfl rfl (fun r249 σ248 _ => ?_)
        refine aw_icmp_eq K 1785 dL_law_1754 (by decide) (fun h_261 => ?_) (fun h_261 => ?_)
        · refine aw_iinc K (lv' := fun y250 => [(3, .int y250), (0, .ref b), (1, rf P 0), (2, rf P 148)]) 3 dL_law_1785 rfl ki_5 (Nat.le_of_ble_eq_true rfl) (fun _ => rfl) (fun y250 => ?_)
          refine aw_goto K 18 dL_law_1788 (by decide) ?_
          refine aw_lv [1, 2, 3, 0] rfl ?_
          exact ih _ _
        · refine aw_iconst K dL_law_1757 ki_0 ?_
          exact aw_iret dL_law_1758
      refine aw_ite (fun h_262 => ?_) (fun h_262 => ?_)
      · refine aw_tabIn K 1759 (51) dL_law_32 (ti_of h_262 kt_51) (by decide) (by decide) rfl (by decide) ?_
        refine aw_aload_n K 1 dL_law_1759 rfl ?_
        refine aw_callVI K dL_law_1760 vw_L_226_11 (c_f_H_keep l) hg (by decide) ob_0 rfl (Nat.le_of_ble_eq_true rfl) rfl rfl (fun r252 σ251 _ => ?_)
        refine aw_aload_n K 2 dL_law_1763 rfl ?_
        refine aw_callVI K dL_law_1764 vw_L_229_12 (c_f_M_keep l) hg (by decide) ob_148 rfl (Nat.le_of_ble_eq_true rfl) rfl rfl (fun r254 σ253 _ => ?_)
        refine aw_icmp_eq K 1785 dL_law_1767 (by decide) (fun h_263 => ?_) (fun h_263 => ?_)
        · refine aw_iinc K (lv' := fun y255 => [(3, .int y255), (0, .ref b), (1, rf P 0), (2, rf P 148)]) 3 dL_law_1785 rfl ki_5 (Nat.le_of_ble_eq_true rfl) (fun _ => rfl) (fun y255 => ?_)
          refine aw_goto K 18 dL_law_1788 (by decide) ?_
          refine aw_lv [1, 2, 3, 0] rfl ?_
          exact ih _ _
        · refine aw_iconst K dL_law_1770 ki_0 ?_
          exact aw_iret dL_law_1771
      refine aw_ite (fun h_264 => ?_) (fun h_264 => ?_)
      · refine aw_tabIn K 1772 (52) dL_law_32 (ti_of h_264 kt_52) (by decide) (by decide) rfl (by decide) ?_
        refine aw_aload_n K 1 dL_law_1772 rfl ?_
        refine aw_callVI K dL_law_1773 vw_L_230_11 (c_f_H_again l) hg (by decide) ob_0 rfl (Nat.le_of_ble_eq_true rfl) rfl rfl (fun r257 σ256 _ => ?_)
        refine aw_aload_n K 2 dL_law_1776 rfl ?_
        refine aw_callVI K dL_law_1777 vw_L_233_12 (c_f_M_again l) hg (by decide) ob_148 rfl (Nat.le_of_ble_eq_true rfl) rfl rfl (fun r259 σ258 _ => ?_)
        refine aw_icmp_eq K 1785 dL_law_1780 (by decide) (fun h_265 => ?_) (fun h_265 => ?_)
        · refine aw_iinc K (lv' := fun y260 => [(3, .int y260), (0, .ref b), (1, rf P 0), (2, rf P 148)]) 3 dL_law_1785 rfl ki_5 (Nat.le_of_ble_eq_true rfl) (fun _ => rfl) (fun y260 => ?_)
          refine aw_goto K 18 dL_law_1788 (by decide) ?_
          refine aw_lv [1, 2, 3, 0] rfl ?_
          exact ih _ _
        · refine aw_iconst K dL_law_1783 ki_0 ?_
          exact aw_iret dL_law_1784
      refine aw_tabOut K 1785 dL_law_32 (by have := lv_neT h_3 kt_0; have := lv_neT h_13 kt_1; have := lv_neT h_19 kt_2; have := lv_neT h_27 kt_3; have := lv_neT h_33 kt_4; have := lv_neT h_38 kt_5; have := lv_neT h_44 kt_6; have := lv_neT h_50 kt_7; have := lv_neT h_54 kt_8; have := lv_neT h_60 kt_9; have := lv_neT h_64 kt_10; have := lv_neT h_72 kt_11; have := lv_neT h_74 kt_12; have := lv_neT h_78 kt_13; have := lv_neT h_84 kt_14; have := lv_neT h_86 kt_15; have := lv_neT h_88 kt_16; have := lv_neT h_92 kt_17; have := lv_neT h_96 kt_18; have := lv_neT h_100 kt_19; have := lv_neT h_104 kt_20; have := lv_neT h_110 kt_21; have := lv_neT h_112 kt_22; have := lv_neT h_114 kt_23; have := lv_neT h_118 kt_24; have := lv_neT h_122 kt_25; have := lv_neT h_128 kt_26; have := lv_neT h_134 kt_27; have := lv_neT h_140 kt_28; have := lv_neT h_144 kt_29; have := lv_neT h_148 kt_30; have := lv_neT h_156 kt_31; have := lv_neT h_158 kt_32; have := lv_neT h_162 kt_33; have := lv_neT h_164 kt_34; have := lv_neT h_168 kt_35; have := lv_neT h_170 kt_36; have := lv_neT h_174 kt_37; have := lv_neT h_176 kt_38; have := lv_neT h_182 kt_39; have := lv_neT h_190 kt_40; have := lv_neT h_192 kt_41; have := lv_neT h_200 kt_42; have := lv_neT h_208 kt_43; have := lv_neT h_216 kt_44; have := lv_neT h_224 kt_45; have := lv_neT h_232 kt_46; have := lv_neT h_240 kt_47; have := lv_neT h_246 kt_48; have := lv_neT h_254 kt_49; have := lv_neT h_258 kt_50; have := lv_neT h_262 kt_51; have := lv_neT h_264 kt_52; omega) (by decide) ?_
      refine aw_iinc K (lv' := fun y261 => [(3, .int y261), (0, .ref b), (1, rf P 0), (2, rf P 148)]) 3 dL_law_1785 rfl ki_5 (Nat.le_of_ble_eq_true rfl) (fun _ => rfl) (fun y261 => ?_)
      refine aw_goto K 18 dL_law_1788 (by decide) ?_
      refine aw_lv [1, 2, 3, 0] rfl ?_
      exact ih _ _
