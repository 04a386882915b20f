set_option maxRecDepth 100000 in
set_option maxHeartbeats 4000000 in
theorem c_f_M_isItem (l : Launch) (x1 : Int32) (x2 : Int64) : CTI l (1) yX12_isItem cX12_isItem 4 ((some .boolean)) (fun P => [rf P 148, .int x1, .long x2]) (fun σ => f_M_isItem x1 x2 σ) := by
  refine met_Z rfl rfl rfl (fun P => Nat.le_of_ble_eq_true rfl) (fun P G K hg σ => ?_)
  change AW P G 4 (EZ P G cX12_isItem) (f_M_isItem x1 x2 σ) σ 0 [(0, rf P 148), (1, .int x1), (2, .long x2)] []
  rw [f_M_isItem]
  refine aw_lload_n K 2 dX12_isItem_0 rfl ?_
  refine aw_lconst K dX12_isItem_1 kl_0 ?_
  refine aw_aload_n K 0 dX12_isItem_2 rfl ?_
  refine aw_getR K (c' := 161) dX12_isItem_3 lk_X12_50_12 fd_148_34 ?_
  refine aw_iload_n K 1 dX12_isItem_6 rfl ?_
  refine aw_gd (fun h_1 => ?_)
  refine aw_ald K dX12_isItem_7 ad_161 h_1 rfl ?_
  refine aw_iconst K dX12_isItem_8 ki_1 ?_
  refine aw_isub K dX12_isItem_9 ?_
  refine aw_i2l K dX12_isItem_10 ?_
  refine aw_callSI K dX12_isItem_11 vw_X12_68 (c_f_M_in l _ _ _) hg (by decide) rfl (Nat.le_of_ble_eq_true rfl) rfl rfl (fun r2 σ1 _ => ?_)
  refine aw_gd (fun h_2 => ?_)
  exact aw_zret dX12_isItem_14 h_2
set_option maxRecDepth 100000 in
set_option maxHeartbeats 4000000 in
theorem c_f_M_isOnTurn (l : Launch) (x1 : Int32) (x2 : Int32) : CTI l (8) yX12_isOnTurn cX12_isOnTurn 4 ((some .boolean)) (fun P => [rf P 148, .int x1, .int x2]) (fun σ => f_M_isOnTurn x1 x2 σ) := by
  refine met_Z rfl rfl rfl (fun P => Nat.le_of_ble_eq_true rfl) (fun P G K hg σ => ?_)
  change AW P G 4 (EZ P G cX12_isOnTurn) (f_M_isOnTurn x1 x2 σ) σ 0 [(0, rf P 148), (1, .int x1), (2, .int x2)] []
  rw [f_M_isOnTurn]
  refine aw_aload_n K 0 dX12_isOnTurn_0 rfl ?_
  refine aw_getR K (c' := 162) dX12_isOnTurn_1 lk_X12_53_12 fd_148_35 ?_
  refine aw_bipush K dX12_isOnTurn_4 kb_40 ?_
  refine aw_iload_n K 1 dX12_isOnTurn_6 rfl ?_
  refine aw_imul K dX12_isOnTurn_7 ?_
  refine aw_iload_n K 2 dX12_isOnTurn_8 rfl ?_
  refine aw_iadd K dX12_isOnTurn_9 ?_
  refine aw_gd (fun h_1 => ?_)
  refine aw_ald K dX12_isOnTurn_10 ad_162 h_1 rfl ?_
  refine aw_istoreX_n K (i := 3) (lv' := fun y1 => [(3, .int y1), (0, rf P 148), (1, .int x1), (2, .int x2)]) dX12_isOnTurn_11 rfl (Nat.le_of_ble_eq_true rfl) (fun _ => rfl) (fun y1 => ?_)
  refine aw_aload_n K 1 dX12_isOnTurn_12 rfl ?_
  refine aw_iload_n K 0 dX12_isOnTurn_13 rfl ?_
  refine aw_callVI K dX12_isOnTurn_14 vw_X12_159_12 (c_f_M_isNumber l _) hg (by decide) ob_148 rfl (Nat.le_of_ble_eq_true rfl) rfl rfl (fun r3 σ2 _ => ?_)
  refine aw_if_eq K 32 dX12_isOnTurn_17 (by decide) (fun h_2 => ?_) (fun h_2 => ?_)
  · refine aw_iconst K dX12_isOnTurn_32 ki_0 ?_
    exact aw_zret dX12_isOnTurn_33 (by decide)
  · refine aw_aload_n K 1 dX12_isOnTurn_20 rfl ?_
    refine aw_iload_n K 0 dX12_isOnTurn_21 rfl ?_
    refine aw_callVI K dX12_isOnTurn_22 vw_X12_162_12 (c_f_M_canBe l _) hg (by decide) ob_148 rfl (Nat.le_of_ble_eq_true rfl) rfl rfl (fun r5 σ4 _ => ?_)
    refine aw_if_eq K 32 dX12_isOnTurn_25 (by decide) (fun h_3 => ?_) (fun h_3 => ?_)
    · refine aw_iconst K dX12_isOnTurn_32 ki_0 ?_
      exact aw_zret dX12_isOnTurn_33 (by decide)
    · refine aw_iconst K dX12_isOnTurn_28 ki_1 ?_
      refine aw_goto K 33 dX12_isOnTurn_29 (by decide) ?_
      exact aw_zret dX12_isOnTurn_33 (by decide)
set_option maxRecDepth 100000 in
set_option maxHeartbeats 4000000 in
theorem c_f_M_isSpan (l : Launch) (x1 : Int32) (x2 : Int32) : CTI l (2) yX12_isSpan cX12_isSpan 3 ((some .boolean)) (fun P => [rf P 148, .int x1, .int x2]) (fun σ => f_M_isSpan x1 x2 σ) := by
  refine met_Z rfl rfl rfl (fun P => Nat.le_of_ble_eq_true rfl) (fun P G K hg σ => ?_)
  change AW P G 3 (EZ P G cX12_isSpan) (f_M_isSpan x1 x2 σ) σ 0 [(0, rf P 148), (1, .int x1), (2, .int x2)] []
  rw [f_M_isSpan]
  refine aw_iload_n K 1 dX12_isSpan_0 rfl ?_
  refine aw_callSI K dX12_isSpan_1 vw_X12_418 (c_f_M_isOne l _) hg (by decide) rfl (Nat.le_of_ble_eq_true rfl) rfl rfl (fun r2 σ1 _ => ?_)
  refine aw_if_eq K 23 dX12_isSpan_4 (by decide) (fun h_1 => ?_) (fun h_1 => ?_)
  · refine aw_iconst K dX12_isSpan_23 ki_0 ?_
    exact aw_zret dX12_isSpan_24 (by decide)
  · refine aw_iload_n K 2 dX12_isSpan_7 rfl ?_
    refine aw_i2l K dX12_isSpan_8 ?_
    refine aw_lconst K dX12_isSpan_9 kl_0 ?_
    refine aw_ldc2 K (x := (20 : Int64)) dX12_isSpan_10 (in_r54 _ (List.mem_of_getElem? (i := 7) rfl)) ?_
    refine aw_callSI K dX12_isSpan_13 vw_X12_68 (c_f_M_in l _ _ _) hg (by decide) rfl (Nat.le_of_ble_eq_true rfl) rfl rfl (fun r4 σ3 _ => ?_)
    refine aw_if_eq K 23 dX12_isSpan_16 (by decide) (fun h_2 => ?_) (fun h_2 => ?_)
    · refine aw_iconst K dX12_isSpan_23 ki_0 ?_
      exact aw_zret dX12_isSpan_24 (by decide)
    · refine aw_iconst K dX12_isSpan_19 ki_1 ?_
      refine aw_goto K 24 dX12_isSpan_20 (by decide) ?_
      exact aw_zret dX12_isSpan_24 (by decide)
set_option maxRecDepth 100000 in
set_option maxHeartbeats 4000000 in
theorem a_f_M_makeAll_33 (l : Launch) {P : PT} {G : GT} (K : CX P G cX12_makeAll RX12 (9) 7) (hg : gl G = l) : ∀ (n : Nat) (x1 : Int32) (x2 : Int32) (x3 : Int32) (x5 : Int32) (x6 : Int32) (σ : SG), AW P G 7 (EI P G cX12_makeAll) (f_M_makeAll_33 n x1 x2 x3 x5 x6 σ) σ 33 [(0, rf P 148), (1, .int x1), (2, .int x2), (3, .int x3), (5, .int x5), (6, .int x6)] [] := by
  intro n
  induction n with
  | zero =>
    intro x1 x2 x3 x5 x6 σ
    rw [f_M_makeAll_33]
    exact aw_none
  | succ n ih =>
    intro x1 x2 x3 x5 x6 σ
    rw [f_M_makeAll_33]
    refine aw_iload K 5 dX12_makeAll_33 rfl ?_
    refine aw_iload_n K 3 dX12_makeAll_35 rfl ?_
    refine aw_icmp_ge K 95 dX12_makeAll_36 (by decide) (fun h_1 => ?_) (fun h_1 => ?_)
    · refine aw_iload K 4 dX12_makeAll_95 rfl ?_
      exact aw_iret dX12_makeAll_97
    · refine aw_aload_n K 0 dX12_makeAll_39 rfl ?_
      refine aw_iload_n K 1 dX12_makeAll_40 rfl ?_
      refine aw_iload_n K 2 dX12_makeAll_41 rfl ?_
      refine aw_i2l K dX12_makeAll_42 ?_
      refine aw_iload K 5 dX12_makeAll_43 rfl ?_
      refine aw_i2l K dX12_makeAll_45 ?_
      refine aw_ladd K dX12_makeAll_46 ?_
      refine aw_callVI K dX12_makeAll_47 vw_X12_434_12 (c_f_M_isItem l _ _) hg (by decide) ob_148 rfl (Nat.le_of_ble_eq_true rfl) rfl rfl (fun r2 σ1 _ => ?_)
      refine aw_if_ne K 56 dX12_makeAll_50 (by decide) (fun h_2 => ?_) (fun h_2 => ?_)
      · refine aw_aload_n K 0 dX12_makeAll_56 rfl ?_
        refine aw_iload_n K 1 dX12_makeAll_57 rfl ?_
        refine aw_iload_n K 2 dX12_makeAll_58 rfl ?_
        refine aw_iload K 5 dX12_makeAll_59 rfl ?_
        refine aw_iadd K dX12_makeAll_61 ?_
        refine aw_callVI K dX12_makeAll_62 vw_X12_438_12 (c_f_M_isOnTurn l _ _) hg (by decide) ob_148 rfl (Nat.le_of_ble_eq_true rfl) rfl rfl (fun r4 σ3 _ => ?_)
        refine aw_if_eq K 89 dX12_makeAll_65 (by decide) (fun h_3 => ?_) (fun h_3 => ?_)
        · refine aw_iinc K (lv' := fun y5 => [(6, .int y5), (0, rf P 148), (1, .int x1), (2, .int x2), (3, .int x3), (5, .int x5)]) 5 dX12_makeAll_89 rfl ki_1 (Nat.le_of_ble_eq_true rfl) (fun _ => rfl) (fun y5 => ?_)
          refine aw_goto K 33 dX12_makeAll_92 (by decide) ?_
          refine aw_lv [1, 2, 3, 4, 5, 0] rfl ?_
          exact ih _ _ _ _ _ _
        · refine aw_aload_n K 0 dX12_makeAll_68 rfl ?_
          refine aw_aload_n K 0 dX12_makeAll_69 rfl ?_
          refine aw_getR K (c' := 162) dX12_makeAll_70 lk_X12_53_12 fd_148_35 ?_
          refine aw_bipush K dX12_makeAll_73 kb_40 ?_
          refine aw_iload_n K 1 dX12_makeAll_75 rfl ?_
          refine aw_imul K dX12_makeAll_76 ?_
          refine aw_iload_n K 2 dX12_makeAll_77 rfl ?_
          refine aw_iadd K dX12_makeAll_78 ?_
          refine aw_iload K 5 dX12_makeAll_79 rfl ?_
          refine aw_iadd K dX12_makeAll_81 ?_
          refine aw_gd (fun h_4 => ?_)
          refine aw_ald K dX12_makeAll_82 ad_162 h_4 rfl ?_
          refine aw_callVV K dX12_makeAll_83 vw_X12_182_12 (c_f_M_makes l _) hg (by decide) ob_148 rfl (Nat.le_of_ble_eq_true rfl) rfl rfl (fun _ σ6 _ => ?_)
          refine aw_iinc K (lv' := fun y7 => [(5, .int y7), (0, rf P 148), (1, .int x1), (2, .int x2), (3, .int x3), (6, .int x6)]) 4 dX12_makeAll_86 rfl ki_1 (Nat.le_of_ble_eq_true rfl) (fun _ => rfl) (fun y7 => ?_)
          refine aw_iinc K (lv' := fun y8 => [(6, .int y8), (5, .int y7), (0, rf P 148), (1, .int x1), (2, .int x2), (3, .int x3)]) 5 dX12_makeAll_89 rfl ki_1 (Nat.le_of_ble_eq_true rfl) (fun _ => rfl) (fun y8 => ?_)
          refine aw_goto K 33 dX12_makeAll_92 (by decide) ?_
          refine aw_lv [2, 3, 4, 5, 1, 0] rfl ?_
          exact ih _ _ _ _ _ _
      · refine aw_bipush K dX12_makeAll_53 kb_m12 ?_
        exact aw_iret dX12_makeAll_55
set_option maxRecDepth 100000 in
set_option maxHeartbeats 4000000 in
theorem c_f_M_makeAll (l : Launch) (x1 : Int32) (x2 : Int32) (x3 : Int32) : CTI l (9) yX12_makeAll cX12_makeAll 7 ((some .int)) (fun P => [rf P 148, .int x1, .int x2, .int x3]) (fun σ => f_M_makeAll x1 x2 x3 σ) := by
  refine met_I rfl rfl rfl (fun P => Nat.le_of_ble_eq_true rfl) (fun P G K hg σ => ?_)
  change AW P G 7 (EI P G cX12_makeAll) (f_M_makeAll x1 x2 x3 σ) σ 0 [(0, rf P 148), (1, .int x1), (2, .int x2), (3, .int x3)] []
  rw [f_M_makeAll]
  refine aw_aload_n K 0 dX12_makeAll_0 rfl ?_
  refine aw_iload_n K 1 dX12_makeAll_1 rfl ?_
  refine aw_iload_n K 3 dX12_makeAll_2 rfl ?_
  refine aw_callVI K dX12_makeAll_3 vw_X12_431_12 (c_f_M_isSpan l _ _) hg (by decide) ob_148 rfl (Nat.le_of_ble_eq_true rfl) rfl rfl (fun r2 σ1 _ => ?_)
  refine aw_if_ne K 11 dX12_makeAll_6 (by decide) (fun h_1 => ?_) (fun h_1 => ?_)
  · refine aw_aload_n K 0 dX12_makeAll_11 rfl ?_
    refine aw_iload_n K 1 dX12_makeAll_12 rfl ?_
    refine aw_iconst K dX12_makeAll_13 ki_0 ?_
    refine aw_callVI K dX12_makeAll_14 vw_X12_426_12 (c_f_M_whyNot l _ _) hg (by decide) ob_148 rfl (Nat.le_of_ble_eq_true rfl) rfl rfl (fun r4 σ3 _ => ?_)
    refine aw_istore K (i := 4) (lv' := [(4, .int r4), (0, rf P 148), (1, .int x1), (2, .int x2), (3, .int x3)]) dX12_makeAll_17 (Nat.le_of_ble_eq_true rfl) rfl ?_
    refine aw_iload K 0 dX12_makeAll_19 rfl ?_
    refine aw_if_eq K 27 dX12_makeAll_21 (by decide) (fun h_2 => ?_) (fun h_2 => ?_)
    · refine aw_iconst K dX12_makeAll_27 ki_0 ?_
      refine aw_istore K (i := 5) (lv' := [(5, .int (0 : Int32)), (4, .int r4), (0, rf P 148), (1, .int x1), (2, .int x2), (3, .int x3)]) dX12_makeAll_28 (Nat.le_of_ble_eq_true rfl) rfl ?_
      refine aw_iconst K dX12_makeAll_30 ki_0 ?_
      refine aw_istore K (i := 6) (lv' := [(6, .int (0 : Int32)), (5, .int (0 : Int32)), (4, .int r4), (0, rf P 148), (1, .int x1), (2, .int x2), (3, .int x3)]) dX12_makeAll_31 (Nat.le_of_ble_eq_true rfl) rfl ?_
      refine aw_lv [3, 4, 5, 6, 1, 0] rfl ?_
      exact (a_f_M_makeAll_33 l K hg FU) _ _ _ _ _ _
    · refine aw_iload K 0 dX12_makeAll_24 rfl ?_
      exact aw_iret dX12_makeAll_26
  · refine aw_iconst K dX12_makeAll_9 ki_m1 ?_
    exact aw_iret dX12_makeAll_10
set_option maxRecDepth 100000 in
set_option maxHeartbeats 4000000 in
theorem a_f_M_wouldCost_89 (l : Launch) {P : PT} {G : GT} (K : CX P G cX12_wouldCost RX12 (9) 8) (hg : gl G = l) {K37 : Int32 → Int32 → Int32 → Int32 → Int32 → Int32 → SG → Option (Int32 × SG)} (hK37 : ∀ (x1 : Int32) (x2 : Int32) (x3 : Int32) (x4 : Int32) (x5 : Int32) (x6 : Int32) (σ : SG), AW P G 8 (EI P G cX12_wouldCost) (K37 x1 x2 x3 x4 x5 x6 σ) σ 37 [(0, rf P 148), (1, .int x1), (2, .int x2), (3, .int x3), (4, .int x4), (5, .int x5), (6, .int x6)] []) : ∀ (x1 : Int32) (x2 : Int32) (x3 : Int32) (x5 : Int32) (x6 : Int32) (xs0 : Int32) (σ : SG), AW P G 8 (EI P G cX12_wouldCost) (f_M_wouldCost_89 K37 x1 x2 x3 x5 x6 xs0 σ) σ 89 [(0, rf P 148), (1, .int x1), (2, .int x2), (3, .int x3), (5, .int x5), (6, .int x6)] [.int xs0] := by
  intro x1 x2 x3 x5 x6 xs0 σ
  rw [f_M_wouldCost_89]
  refine aw_istore K (i := 4) (lv' := [(4, .int xs0), (0, rf P 148), (1, .int x1), (2, .int x2), (3, .int x3), (5, .int x5), (6, .int x6)]) dX12_wouldCost_89 (Nat.le_of_ble_eq_true rfl) rfl ?_
  refine aw_iload K 0 dX12_wouldCost_91 rfl ?_
  refine aw_if_ne K 123 dX12_wouldCost_93 (by decide) (fun h_1 => ?_) (fun h_1 => ?_)
  · refine aw_iinc K (lv' := fun y1 => [(6, .int y1), (4, .int xs0), (0, rf P 148), (1, .int x1), (2, .int x2), (3, .int x3), (5, .int x5)]) 6 dX12_wouldCost_123 rfl ki_1 (Nat.le_of_ble_eq_true rfl) (fun _ => rfl) (fun y1 => ?_)
    refine aw_goto K 37 dX12_wouldCost_126 (by decide) ?_
    refine aw_lv [2, 3, 4, 5, 1, 6, 0] rfl ?_
    exact hK37 _ _ _ _ _ _ _
  · refine aw_aload_n K 1 dX12_wouldCost_96 rfl ?_
    refine aw_aload_n K 1 dX12_wouldCost_97 rfl ?_
    refine aw_getR K (c' := 162) dX12_wouldCost_98 lk_X12_53_12 fd_148_35 ?_
    refine aw_bipush K dX12_wouldCost_101 kb_40 ?_
    refine aw_iload_n K 2 dX12_wouldCost_103 rfl ?_
    refine aw_imul K dX12_wouldCost_104 ?_
    refine aw_iload_n K 3 dX12_wouldCost_105 rfl ?_
    refine aw_iadd K dX12_wouldCost_106 ?_
    refine aw_iload K 6 dX12_wouldCost_107 rfl ?_
    refine aw_iadd K dX12_wouldCost_109 ?_
    refine aw_gd (fun h_2 => ?_)
    refine aw_ald K dX12_wouldCost_110 ad_162 h_2 rfl ?_
    refine aw_callVV K dX12_wouldCost_111 vw_X12_175_12 (c_f_M_does l _) hg (by decide) ob_148 rfl (Nat.le_of_ble_eq_true rfl) rfl rfl (fun _ σ2 _ => ?_)
    refine aw_iload K 5 dX12_wouldCost_114 rfl ?_
    refine aw_aload_n K 1 dX12_wouldCost_116 rfl ?_
    refine aw_getI K dX12_wouldCost_117 lk_X12_168_12 fd_148_7 ?_
    refine aw_iadd K dX12_wouldCost_120 ?_
    refine aw_istoreX K (i := 5) (lv' := fun y3 => [(5, .int y3), (4, .int xs0), (0, rf P 148), (1, .int x1), (2, .int x2), (3, .int x3), (6, .int x6)]) dX12_wouldCost_121 (Nat.le_of_ble_eq_true rfl) (fun _ => rfl) (fun y3 => ?_)
    refine aw_iinc K (lv' := fun y4 => [(6, .int y4), (5, .int y3), (4, .int xs0), (0, rf P 148), (1, .int x1), (2, .int x2), (3, .int x3)]) 6 dX12_wouldCost_123 rfl ki_1 (Nat.le_of_ble_eq_true rfl) (fun _ => rfl) (fun y4 => ?_)
    refine aw_goto K 37 dX12_wouldCost_126 (by decide) ?_
    refine aw_lv [3, 4, 5, 6, 2, 1, 0] rfl ?_
    exact hK37 _ _ _ _ _ _ _
set_option maxRecDepth 100000 in
set_option maxHeartbeats 4000000 in
theorem a_f_M_wouldCost_37 (l : Launch) {P : PT} {G : GT} (K : CX P G cX12_wouldCost RX12 (9) 8) (hg : gl G = l) : ∀ (n : Nat) (x1 : Int32) (x2 : Int32) (x3 : Int32) (x4 : Int32) (x5 : Int32) (x6 : Int32) (σ : SG), AW P G 8 (EI P G cX12_wouldCost) (f_M_wouldCost_37 n x1 x2 x3 x4 x5 x6 σ) σ 37 [(0, rf P 148), (1, .int x1), (2, .int x2), (3, .int x3), (4, .int x4), (5, .int x5), (6, .int x6)] [] := by
  intro n
  induction n with
  | zero =>
    intro x1 x2 x3 x4 x5 x6 σ
    rw [f_M_wouldCost_37]
    exact aw_none
  | succ n ih =>
    intro x1 x2 x3 x4 x5 x6 σ
    rw [f_M_wouldCost_37]
    refine aw_iload K 6 dX12_wouldCost_37 rfl ?_
    refine aw_iload_n K 3 dX12_wouldCost_39 rfl ?_
    refine aw_icmp_ge K 129 dX12_wouldCost_40 (by decide) (fun h_1 => ?_) (fun h_1 => ?_)
    · refine aw_aload_n K 0 dX12_wouldCost_129 rfl ?_
      refine aw_callVV K dX12_wouldCost_130 vw_X12_283_12 (c_f_M_putsBack l) hg (by decide) ob_148 rfl (Nat.le_of_ble_eq_true rfl) rfl rfl (fun _ σ1 _ => ?_)
      refine aw_iload K 4 dX12_wouldCost_133 rfl ?_
      refine aw_if_eq K 143 dX12_wouldCost_135 (by decide) (fun h_2 => ?_) (fun h_2 => ?_)
      · refine aw_iload K 5 dX12_wouldCost_143 rfl ?_
        exact aw_iret dX12_wouldCost_145
      · refine aw_iload K 4 dX12_wouldCost_138 rfl ?_
        refine aw_goto K 145 dX12_wouldCost_140 (by decide) ?_
        exact aw_iret dX12_wouldCost_145
    · refine aw_iload K 4 dX12_wouldCost_43 rfl ?_
      refine aw_if_ne K 129 dX12_wouldCost_45 (by decide) (fun h_3 => ?_) (fun h_3 => ?_)
      · refine aw_aload_n K 0 dX12_wouldCost_129 rfl ?_
        refine aw_callVV K dX12_wouldCost_130 vw_X12_283_12 (c_f_M_putsBack l) hg (by decide) ob_148 rfl (Nat.le_of_ble_eq_true rfl) rfl rfl (fun _ σ2 _ => ?_)
        refine aw_iload K 4 dX12_wouldCost_133 rfl ?_
        refine aw_if_eq K 143 dX12_wouldCost_135 (by decide) (fun h_4 => ?_) (fun h_4 => ?_)
        · refine aw_iload K 5 dX12_wouldCost_143 rfl ?_
          exact aw_iret dX12_wouldCost_145
        · refine aw_iload K 4 dX12_wouldCost_138 rfl ?_
          refine aw_goto K 145 dX12_wouldCost_140 (by decide) ?_
          exact aw_iret dX12_wouldCost_145
      · refine aw_aload_n K 0 dX12_wouldCost_48 rfl ?_
        refine aw_iload_n K 1 dX12_wouldCost_49 rfl ?_
        refine aw_iload_n K 2 dX12_wouldCost_50 rfl ?_
        refine aw_i2l K dX12_wouldCost_51 ?_
        refine aw_iload K 6 dX12_wouldCost_52 rfl ?_
        refine aw_i2l K dX12_wouldCost_54 ?_
        refine aw_ladd K dX12_wouldCost_55 ?_
        refine aw_callVI K dX12_wouldCost_56 vw_X12_434_12 (c_f_M_isItem l _ _) hg (by decide) ob_148 rfl (Nat.le_of_ble_eq_true rfl) rfl rfl (fun r4 σ3 _ => ?_)
        refine aw_istore K (i := 7) (lv' := [(7, .int r4), (0, rf P 148), (1, .int x1), (2, .int x2), (3, .int x3), (4, .int x4), (5, .int x5), (6, .int x6)]) dX12_wouldCost_59 (Nat.le_of_ble_eq_true rfl) rfl ?_
        refine aw_iload K 0 dX12_wouldCost_61 rfl ?_
        refine aw_if_ne K 71 dX12_wouldCost_63 (by decide) (fun h_5 => ?_) (fun h_5 => ?_)
        · refine aw_aload_n K 1 dX12_wouldCost_71 rfl ?_
          refine aw_iload_n K 2 dX12_wouldCost_72 rfl ?_
          refine aw_iload_n K 3 dX12_wouldCost_73 rfl ?_
          refine aw_iload K 7 dX12_wouldCost_74 rfl ?_
          refine aw_iadd K dX12_wouldCost_76 ?_
          refine aw_callVI K dX12_wouldCost_77 vw_X12_438_12 (c_f_M_isOnTurn l _ _) hg (by decide) ob_148 rfl (Nat.le_of_ble_eq_true rfl) rfl rfl (fun r6 σ5 _ => ?_)
          refine aw_if_ne K 88 dX12_wouldCost_80 (by decide) (fun h_6 => ?_) (fun h_6 => ?_)
          · refine aw_iconst K dX12_wouldCost_88 ki_0 ?_
            refine aw_lv [1, 2, 3, 4, 6, 7] rfl ?_
            exact (a_f_M_wouldCost_89 l K hg ih) _ _ _ _ _ _ _
          · refine aw_bipush K dX12_wouldCost_83 kb_m4 ?_
            refine aw_goto K 89 dX12_wouldCost_85 (by decide) ?_
            refine aw_lv [1, 2, 3, 4, 6, 7] rfl ?_
            exact (a_f_M_wouldCost_89 l K hg ih) _ _ _ _ _ _ _
        · refine aw_bipush K dX12_wouldCost_66 kb_m12 ?_
          refine aw_goto K 89 dX12_wouldCost_68 (by decide) ?_
          refine aw_lv [1, 2, 3, 4, 6, 7] rfl ?_
          exact (a_f_M_wouldCost_89 l K hg ih) _ _ _ _ _ _ _
set_option maxRecDepth 100000 in
set_option maxHeartbeats 4000000 in
theorem c_f_M_wouldCost (l : Launch) (x1 : Int32) (x2 : Int32) (x3 : Int32) : CTI l (9) yX12_wouldCost cX12_wouldCost 8 ((some .int)) (fun P => [rf P 148, .int x1, .int x2, .int x3]) (fun σ => f_M_wouldCost x1 x2 x3 σ) := by
  refine met_I rfl rfl rfl (fun P => Nat.le_of_ble_eq_true rfl) (fun P G K hg σ => ?_)
  change AW P G 8 (EI P G cX12_wouldCost) (f_M_wouldCost x1 x2 x3 σ) σ 0 [(0, rf P 148), (1, .int x1), (2, .int x2), (3, .int x3)] []
  rw [f_M_wouldCost]
  refine aw_aload_n K 0 dX12_wouldCost_0 rfl ?_
  refine aw_iload_n K 1 dX12_wouldCost_1 rfl ?_
  refine aw_iload_n K 3 dX12_wouldCost_2 rfl ?_
  refine aw_callVI K dX12_wouldCost_3 vw_X12_431_12 (c_f_M_isSpan l _ _) hg (by decide) ob_148 rfl (Nat.le_of_ble_eq_true rfl) rfl rfl (fun r2 σ1 _ => ?_)
  refine aw_if_ne K 11 dX12_wouldCost_6 (by decide) (fun h_1 => ?_) (fun h_1 => ?_)
  · refine aw_aload_n K 0 dX12_wouldCost_11 rfl ?_
    refine aw_iload_n K 1 dX12_wouldCost_12 rfl ?_
    refine aw_iconst K dX12_wouldCost_13 ki_0 ?_
    refine aw_callVI K dX12_wouldCost_14 vw_X12_426_12 (c_f_M_whyNot l _ _) hg (by decide) ob_148 rfl (Nat.le_of_ble_eq_true rfl) rfl rfl (fun r4 σ3 _ => ?_)
    refine aw_istore K (i := 4) (lv' := [(4, .int r4), (0, rf P 148), (1, .int x1), (2, .int x2), (3, .int x3)]) dX12_wouldCost_17 (Nat.le_of_ble_eq_true rfl) rfl ?_
    refine aw_iload K 0 dX12_wouldCost_19 rfl ?_
    refine aw_if_eq K 27 dX12_wouldCost_21 (by decide) (fun h_2 => ?_) (fun h_2 => ?_)
    · refine aw_aload_n K 1 dX12_wouldCost_27 rfl ?_
      refine aw_callVV K dX12_wouldCost_28 vw_X12_280_12 (c_f_M_puts l) hg (by decide) ob_148 rfl (Nat.le_of_ble_eq_true rfl) rfl rfl (fun _ σ5 _ => ?_)
      refine aw_iconst K dX12_wouldCost_31 ki_0 ?_
      refine aw_istore K (i := 5) (lv' := [(5, .int (0 : Int32)), (4, .int r4), (0, rf P 148), (1, .int x1), (2, .int x2), (3, .int x3)]) dX12_wouldCost_32 (Nat.le_of_ble_eq_true rfl) rfl ?_
      refine aw_iconst K dX12_wouldCost_34 ki_0 ?_
      refine aw_istore K (i := 6) (lv' := [(6, .int (0 : Int32)), (5, .int (0 : Int32)), (4, .int r4), (0, rf P 148), (1, .int x1), (2, .int x2), (3, .int x3)]) dX12_wouldCost_35 (Nat.le_of_ble_eq_true rfl) rfl ?_
      refine aw_lv [3, 4, 5, 6, 2, 1, 0] rfl ?_
      exact (a_f_M_wouldCost_37 l K hg FU) _ _ _ _ _ _ _
    · refine aw_iload K 0 dX12_wouldCost_24 rfl ?_
      exact aw_iret dX12_wouldCost_26
  · refine aw_iconst K dX12_wouldCost_9 ki_m1 ?_
    exact aw_iret dX12_wouldCost_10
set_option maxRecDepth 100000 in
set_option maxHeartbeats 4000000 in
theorem a_f_M_shelf_106 (l : Launch) {P : PT} {G : GT} (K : CX P G cX12_shelf RX12 (2) 4) (hg : gl G = l) : ∀ (x1 : Int32) (x2 : Int32) (x3 : Int32) (xs0 : Int32) (xs1 : Int32) (σ : SG), AW P G 4 (EI P G cX12_shelf) (f_M_shelf_106 x1 x2 x3 xs0 xs1 σ) σ 106 [(0, rf P 148), (1, .int x1), (2, .int x2), (3, .int x3)] [.int xs0, .int xs1, rf P 164] := by
  intro x1 x2 x3 xs0 xs1 σ
  rw [f_M_shelf_106]
  refine aw_gd (fun h_1 => ?_)
  refine aw_ast K dX12_shelf_106 ad_164 h_1 rfl (fun σ1 => ?_)
  refine aw_aload_n K 0 dX12_shelf_107 rfl ?_
  refine aw_getR K (c' := 165) dX12_shelf_108 lk_X12_62_12 fd_148_38 ?_
  refine aw_iload_n K 1 dX12_shelf_111 rfl ?_
  refine aw_iload_n K 2 dX12_shelf_112 rfl ?_
  refine aw_iconst K dX12_shelf_113 ki_1 ?_
  refine aw_icmp_ne K 126 dX12_shelf_114 (by decide) (fun h_2 => ?_) (fun h_2 => ?_)
  · refine aw_iconst K dX12_shelf_126 ki_0 ?_
    refine aw_gd (fun h_3 => ?_)
    refine aw_ast K dX12_shelf_127 ad_165 h_3 rfl (fun σ2 => ?_)
    refine aw_iconst K dX12_shelf_128 ki_1 ?_
    exact aw_iret dX12_shelf_129
  · refine aw_aload_n K 0 dX12_shelf_117 rfl ?_
    refine aw_getR K (c' := 160) dX12_shelf_118 lk_X12_47_12 fd_148_33 ?_
    refine aw_iload_n K 3 dX12_shelf_121 rfl ?_
    refine aw_gd (fun h_4 => ?_)
    refine aw_ald K dX12_shelf_122 ad_160 h_4 rfl ?_
    refine aw_goto K 127 dX12_shelf_123 (by decide) ?_
    refine aw_gd (fun h_5 => ?_)
    refine aw_ast K dX12_shelf_127 ad_165 h_5 rfl (fun σ3 => ?_)
    refine aw_iconst K dX12_shelf_128 ki_1 ?_
    exact aw_iret dX12_shelf_129
set_option maxRecDepth 100000 in
set_option maxHeartbeats 4000000 in
theorem a_f_M_shelf_77 (l : Launch) {P : PT} {G : GT} (K : CX P G cX12_shelf RX12 (2) 4) (hg : gl G = l) : ∀ (x1 : Int32) (x2 : Int32) (x3 : Int32) (xs0 : Int32) (xs1 : Int32) (σ : SG), AW P G 4 (EI P G cX12_shelf) (f_M_shelf_77 x1 x2 x3 xs0 xs1 σ) σ 77 [(0, rf P 148), (1, .int x1), (2, .int x2), (3, .int x3)] [.int xs0, .int xs1, rf P 163] := by
  intro x1 x2 x3 xs0 xs1 σ
  rw [f_M_shelf_77]
  refine aw_gd (fun h_1 => ?_)
  refine aw_ast K dX12_shelf_77 ad_163 h_1 rfl (fun σ1 => ?_)
  refine aw_aload_n K 0 dX12_shelf_78 rfl ?_
  refine aw_getR K (c' := 164) dX12_shelf_79 lk_X12_59_12 fd_148_37 ?_
  refine aw_iload_n K 1 dX12_shelf_82 rfl ?_
  refine aw_iload_n K 2 dX12_shelf_83 rfl ?_
  refine aw_if_ne K 91 dX12_shelf_84 (by decide) (fun h_2 => ?_) (fun h_2 => ?_)
  · refine aw_iload_n K 2 dX12_shelf_91 rfl ?_
    refine aw_iconst K dX12_shelf_92 ki_1 ?_
    refine aw_icmp_ne K 105 dX12_shelf_93 (by decide) (fun h_3 => ?_) (fun h_3 => ?_)
    · refine aw_iconst K dX12_shelf_105 ki_0 ?_
      refine aw_lv [0, 1, 2, 3] rfl ?_
      exact (a_f_M_shelf_106 l K hg) _ _ _ _ _ _
    · refine aw_aload_n K 0 dX12_shelf_96 rfl ?_
      refine aw_getR K (c' := 161) dX12_shelf_97 lk_X12_50_12 fd_148_34 ?_
      refine aw_iload_n K 3 dX12_shelf_100 rfl ?_
      refine aw_gd (fun h_4 => ?_)
      refine aw_ald K dX12_shelf_101 ad_161 h_4 rfl ?_
      refine aw_goto K 106 dX12_shelf_102 (by decide) ?_
      refine aw_lv [0, 1, 2, 3] rfl ?_
      exact (a_f_M_shelf_106 l K hg) _ _ _ _ _ _
  · refine aw_iload_n K 3 dX12_shelf_87 rfl ?_
    refine aw_goto K 106 dX12_shelf_88 (by decide) ?_
    refine aw_lv [0, 1, 2, 3] rfl ?_
    exact (a_f_M_shelf_106 l K hg) _ _ _ _ _ _
set_option maxRecDepth 100000 in
set_option maxHeartbeats 4000000 in
theorem a_f_M_shelf_45 (l : Launch) {P : PT} {G : GT} (K : CX P G cX12_shelf RX12 (2) 4) (hg : gl G = l) : ∀ (x1 : Int32) (x2 : Int32) (x3 : Int32) (σ : SG), AW P G 4 (EI P G cX12_shelf) (f_M_shelf_45 x1 x2 x3 σ) σ 45 [(0, rf P 148), (1, .int x1), (2, .int x2), (3, .int x3)] [] := by
  intro x1 x2 x3 σ
  rw [f_M_shelf_45]
  refine aw_aload_n K 0 dX12_shelf_45 rfl ?_
  refine aw_getR K (c' := 163) dX12_shelf_46 lk_X12_56_12 fd_148_36 ?_
  refine aw_iload_n K 1 dX12_shelf_49 rfl ?_
  refine aw_iload_n K 2 dX12_shelf_50 rfl ?_
  refine aw_if_ne K 58 dX12_shelf_51 (by decide) (fun h_1 => ?_) (fun h_1 => ?_)
  · refine aw_iload_n K 2 dX12_shelf_58 rfl ?_
    refine aw_iconst K dX12_shelf_59 ki_1 ?_
    refine aw_icmp_ne K 76 dX12_shelf_60 (by decide) (fun h_2 => ?_) (fun h_2 => ?_)
    · refine aw_iconst K dX12_shelf_76 ki_0 ?_
      refine aw_lv [0, 1, 2, 3] rfl ?_
      exact (a_f_M_shelf_77 l K hg) _ _ _ _ _ _
    · refine aw_aload_n K 0 dX12_shelf_63 rfl ?_
      refine aw_getR K (c' := 160) dX12_shelf_64 lk_X12_47_12 fd_148_33 ?_
      refine aw_iload_n K 3 dX12_shelf_67 rfl ?_
      refine aw_gd (fun h_3 => ?_)
      refine aw_ald K dX12_shelf_68 ad_160 h_3 rfl ?_
      refine aw_if_lt K 76 dX12_shelf_69 (by decide) (fun h_4 => ?_) (fun h_4 => ?_)
      · refine aw_iconst K dX12_shelf_76 ki_0 ?_
        refine aw_lv [0, 1, 2, 3] rfl ?_
        exact (a_f_M_shelf_77 l K hg) _ _ _ _ _ _
      · refine aw_iconst K dX12_shelf_72 ki_2 ?_
        refine aw_goto K 77 dX12_shelf_73 (by decide) ?_
        refine aw_lv [0, 1, 2, 3] rfl ?_
        exact (a_f_M_shelf_77 l K hg) _ _ _ _ _ _
  · refine aw_iconst K dX12_shelf_54 ki_1 ?_
    refine aw_goto K 77 dX12_shelf_55 (by decide) ?_
    refine aw_lv [0, 1, 2, 3] rfl ?_
    exact (a_f_M_shelf_77 l K hg) _ _ _ _ _ _
set_option maxRecDepth 100000 in
set_option maxHeartbeats 4000000 in
theorem c_f_M_shelf (l : Launch) (x1 : Int32) (x2 : Int32) (x3 : Int32) : CTI l (2) yX12_shelf cX12_shelf 4 ((some .int)) (fun P => [rf P 148, .int x1, .int x2, .int x3]) (fun σ => f_M_shelf x1 x2 x3 σ) := by
  refine met_I rfl rfl rfl (fun P => Nat.le_of_ble_eq_true rfl) (fun P G K hg σ => ?_)
  change AW P G 4 (EI P G cX12_shelf) (f_M_shelf x1 x2 x3 σ) σ 0 [(0, rf P 148), (1, .int x1), (2, .int x2), (3, .int x3)] []
  rw [f_M_shelf]
  refine aw_iload_n K 1 dX12_shelf_0 rfl ?_
  refine aw_callSI K dX12_shelf_1 vw_X12_418 (c_f_M_isOne l _) hg (by decide) rfl (Nat.le_of_ble_eq_true rfl) rfl rfl (fun r2 σ1 _ => ?_)
  refine aw_if_eq K 43 dX12_shelf_4 (by decide) (fun h_1 => ?_) (fun h_1 => ?_)
  · refine aw_iconst K dX12_shelf_43 ki_m1 ?_
    exact aw_iret dX12_shelf_44
  · refine aw_iload_n K 2 dX12_shelf_7 rfl ?_
    refine aw_i2l K dX12_shelf_8 ?_
    refine aw_lconst K dX12_shelf_9 kl_0 ?_
    refine aw_ldc2 K (x := (2 : Int64)) dX12_shelf_10 (in_r41 _ (List.mem_of_getElem? (i := 6) rfl)) ?_
    refine aw_callSI K dX12_shelf_13 vw_X12_68 (c_f_M_in l _ _ _) hg (by decide) rfl (Nat.le_of_ble_eq_true rfl) rfl rfl (fun r4 σ3 _ => ?_)
    refine aw_if_eq K 43 dX12_shelf_16 (by decide) (fun h_2 => ?_) (fun h_2 => ?_)
    · refine aw_iconst K dX12_shelf_43 ki_m1 ?_
      exact aw_iret dX12_shelf_44
    · refine aw_iload_n K 2 dX12_shelf_19 rfl ?_
      refine aw_if_ne K 31 dX12_shelf_20 (by decide) (fun h_3 => ?_) (fun h_3 => ?_)
      · refine aw_iload_n K 2 dX12_shelf_31 rfl ?_
        refine aw_iconst K dX12_shelf_32 ki_1 ?_
        refine aw_icmp_ne K 45 dX12_shelf_33 (by decide) (fun h_4 => ?_) (fun h_4 => ?_)
        · refine aw_lv [0, 1, 2, 3] rfl ?_
          exact (a_f_M_shelf_45 l K hg) _ _ _ _
        · refine aw_iload_n K 3 dX12_shelf_36 rfl ?_
          refine aw_callSI K dX12_shelf_37 vw_X12_418 (c_f_M_isOne l _) hg (by decide) rfl (Nat.le_of_ble_eq_true rfl) rfl rfl (fun r6 σ5 _ => ?_)
          refine aw_if_ne K 45 dX12_shelf_40 (by decide) (fun h_5 => ?_) (fun h_5 => ?_)
          · refine aw_lv [0, 1, 2, 3] rfl ?_
            exact (a_f_M_shelf_45 l K hg) _ _ _ _
          · refine aw_iconst K dX12_shelf_43 ki_m1 ?_
            exact aw_iret dX12_shelf_44
      · refine aw_aload_n K 0 dX12_shelf_23 rfl ?_
        refine aw_iload_n K 3 dX12_shelf_24 rfl ?_
        refine aw_callVI K dX12_shelf_25 vw_X12_123_12 (c_f_M_isPerson l _) hg (by decide) ob_148 rfl (Nat.le_of_ble_eq_true rfl) rfl rfl (fun r8 σ7 _ => ?_)
        refine aw_if_eq K 43 dX12_shelf_28 (by decide) (fun h_6 => ?_) (fun h_6 => ?_)
        · refine aw_iconst K dX12_shelf_43 ki_m1 ?_
          exact aw_iret dX12_shelf_44
        · refine aw_iload_n K 2 dX12_shelf_31 rfl ?_
          refine aw_iconst K dX12_shelf_32 ki_1 ?_
          refine aw_icmp_ne K 45 dX12_shelf_33 (by decide) (fun h_7 => ?_) (fun h_7 => ?_)
          · refine aw_lv [0, 1, 2, 3] rfl ?_
            exact (a_f_M_shelf_45 l K hg) _ _ _ _
          · refine aw_iload_n K 3 dX12_shelf_36 rfl ?_
            refine aw_callSI K dX12_shelf_37 vw_X12_418 (c_f_M_isOne l _) hg (by decide) rfl (Nat.le_of_ble_eq_true rfl) rfl rfl (fun r10 σ9 _ => ?_)
            refine aw_if_ne K 45 dX12_shelf_40 (by decide) (fun h_8 => ?_) (fun h_8 => ?_)
            · refine aw_lv [0, 1, 2, 3] rfl ?_
              exact (a_f_M_shelf_45 l K hg) _ _ _ _
            · refine aw_iconst K dX12_shelf_43 ki_m1 ?_
              exact aw_iret dX12_shelf_44
set_option maxRecDepth 100000 in
set_option maxHeartbeats 4000000 in
theorem c_f_M_onShelf (l : Launch) (x1 : Int32) : CTI l (2) yX12_onShelf cX12_onShelf 2 ((some .int)) (fun P => [rf P 148, .int x1]) (fun σ => f_M_onShelf x1 σ) := by
  refine met_I rfl rfl rfl (fun P => Nat.le_of_ble_eq_true rfl) (fun P G K hg σ => ?_)
  change AW P G 2 (EI P G cX12_onShelf) (f_M_onShelf x1 σ) σ 0 [(0, rf P 148), (1, .int x1)] []
  rw [f_M_onShelf]
  refine aw_iload_n K 1 dX12_onShelf_0 rfl ?_
  refine aw_callSI K dX12_onShelf_1 vw_X12_418 (c_f_M_isOne l _) hg (by decide) rfl (Nat.le_of_ble_eq_true rfl) rfl rfl (fun r2 σ1 _ => ?_)
  refine aw_if_eq K 39 dX12_onShelf_4 (by decide) (fun h_1 => ?_) (fun h_1 => ?_)
  · refine aw_iconst K dX12_onShelf_39 ki_m1 ?_
    exact aw_iret dX12_onShelf_40
  · refine aw_aload_n K 0 dX12_onShelf_7 rfl ?_
    refine aw_getR K (c' := 163) dX12_onShelf_8 lk_X12_56_12 fd_148_36 ?_
    refine aw_iload_n K 1 dX12_onShelf_11 rfl ?_
    refine aw_gd (fun h_2 => ?_)
    refine aw_ald K dX12_onShelf_12 ad_163 h_2 rfl ?_
    refine aw_iconst K dX12_onShelf_13 ki_1 ?_
    refine aw_icmp_ne K 39 dX12_onShelf_14 (by decide) (fun h_3 => ?_) (fun h_3 => ?_)
    · refine aw_iconst K dX12_onShelf_39 ki_m1 ?_
      exact aw_iret dX12_onShelf_40
    · refine aw_aload_n K 0 dX12_onShelf_17 rfl ?_
      refine aw_aload_n K 0 dX12_onShelf_18 rfl ?_
      refine aw_getR K (c' := 164) dX12_onShelf_19 lk_X12_59_12 fd_148_37 ?_
      refine aw_iload_n K 1 dX12_onShelf_22 rfl ?_
      refine aw_gd (fun h_4 => ?_)
      refine aw_ald K dX12_onShelf_23 ad_164 h_4 rfl ?_
      refine aw_callVI K dX12_onShelf_24 vw_X12_123_12 (c_f_M_isPerson l _) hg (by decide) ob_148 rfl (Nat.le_of_ble_eq_true rfl) rfl rfl (fun r4 σ3 _ => ?_)
      refine aw_if_eq K 39 dX12_onShelf_27 (by decide) (fun h_5 => ?_) (fun h_5 => ?_)
      · refine aw_iconst K dX12_onShelf_39 ki_m1 ?_
        exact aw_iret dX12_onShelf_40
      · refine aw_aload_n K 0 dX12_onShelf_30 rfl ?_
        refine aw_getR K (c' := 164) dX12_onShelf_31 lk_X12_59_12 fd_148_37 ?_
        refine aw_iload_n K 1 dX12_onShelf_34 rfl ?_
        refine aw_gd (fun h_6 => ?_)
        refine aw_ald K dX12_onShelf_35 ad_164 h_6 rfl ?_
        refine aw_goto K 40 dX12_onShelf_36 (by decide) ?_
        exact aw_iret dX12_onShelf_40
set_option maxRecDepth 100000 in
set_option maxHeartbeats 4000000 in
theorem a_f_M_taken_58 (l : Launch) {P : PT} {G : GT} (K : CX P G cX12_taken RX12 (3) 5) (hg : gl G = l) : ∀ (x1 : Int32) (x2 : Int32) (x3 : Int32) (σ : SG), AW P G 5 (EI P G cX12_taken) (f_M_taken_58 x1 x2 x3 σ) σ 58 [(0, rf P 148), (1, .int x1), (2, .int x2), (3, .int x3)] [] := by
  intro x1 x2 x3 σ
  rw [f_M_taken_58]
  refine aw_iload_n K 3 dX12_taken_58 rfl ?_
  refine aw_if_lt K 89 dX12_taken_59 (by decide) (fun h_1 => ?_) (fun h_1 => ?_)
  · refine aw_iload_n K 2 dX12_taken_89 rfl ?_
    refine aw_bipush K dX12_taken_90 kb_10 ?_
    refine aw_isub K dX12_taken_92 ?_
    refine aw_aload_n K 0 dX12_taken_93 rfl ?_
    refine aw_getR K (c' := 165) dX12_taken_94 lk_X12_62_12 fd_148_38 ?_
    refine aw_iload_n K 1 dX12_taken_97 rfl ?_
    refine aw_gd (fun h_2 => ?_)
    refine aw_ald K dX12_taken_98 ad_165 h_2 rfl ?_
    refine aw_icmp_ne K 106 dX12_taken_99 (by decide) (fun h_3 => ?_) (fun h_3 => ?_)
    · refine aw_iconst K dX12_taken_106 ki_0 ?_
      refine aw_istore K (i := 4) (lv' := [(4, .int (0 : Int32)), (0, rf P 148), (1, .int x1), (2, .int x2), (3, .int x3)]) dX12_taken_107 (Nat.le_of_ble_eq_true rfl) rfl ?_
      refine aw_iload K 0 dX12_taken_109 rfl ?_
      refine aw_if_eq K 123 dX12_taken_111 (by decide) (fun h_4 => ?_) (fun h_4 => ?_)
      · refine aw_bipush K dX12_taken_123 kb_m13 ?_
        exact aw_iret dX12_taken_125
      · refine aw_aload_n K 1 dX12_taken_114 rfl ?_
        refine aw_getR K (c' := 164) dX12_taken_115 lk_X12_59_12 fd_148_37 ?_
        refine aw_iload_n K 2 dX12_taken_118 rfl ?_
        refine aw_gd (fun h_5 => ?_)
        refine aw_ald K dX12_taken_119 ad_164 h_5 rfl ?_
        refine aw_goto K 125 dX12_taken_120 (by decide) ?_
        exact aw_iret dX12_taken_125
    · refine aw_iconst K dX12_taken_102 ki_1 ?_
      refine aw_goto K 107 dX12_taken_103 (by decide) ?_
      refine aw_istore K (i := 4) (lv' := [(4, .int (1 : Int32)), (0, rf P 148), (1, .int x1), (2, .int x2), (3, .int x3)]) dX12_taken_107 (Nat.le_of_ble_eq_true rfl) rfl ?_
      refine aw_iload K 0 dX12_taken_109 rfl ?_
      refine aw_if_eq K 123 dX12_taken_111 (by decide) (fun h_6 => ?_) (fun h_6 => ?_)
      · refine aw_bipush K dX12_taken_123 kb_m13 ?_
        exact aw_iret dX12_taken_125
      · refine aw_aload_n K 1 dX12_taken_114 rfl ?_
        refine aw_getR K (c' := 164) dX12_taken_115 lk_X12_59_12 fd_148_37 ?_
        refine aw_iload_n K 2 dX12_taken_118 rfl ?_
        refine aw_gd (fun h_7 => ?_)
        refine aw_ald K dX12_taken_119 ad_164 h_7 rfl ?_
        refine aw_goto K 125 dX12_taken_120 (by decide) ?_
        exact aw_iret dX12_taken_125
  · refine aw_iload_n K 2 dX12_taken_62 rfl ?_
    refine aw_bipush K dX12_taken_63 kb_6 ?_
    refine aw_icmp_ge K 85 dX12_taken_65 (by decide) (fun h_8 => ?_) (fun h_8 => ?_)
    · refine aw_iconst K dX12_taken_85 ki_0 ?_
      refine aw_goto K 107 dX12_taken_86 (by decide) ?_
      refine aw_istore K (i := 4) (lv' := [(4, .int (0 : Int32)), (0, rf P 148), (1, .int x1), (2, .int x2), (3, .int x3)]) dX12_taken_107 (Nat.le_of_ble_eq_true rfl) rfl ?_
      refine aw_iload K 0 dX12_taken_109 rfl ?_
      refine aw_if_eq K 123 dX12_taken_111 (by decide) (fun h_9 => ?_) (fun h_9 => ?_)
      · refine aw_bipush K dX12_taken_123 kb_m13 ?_
        exact aw_iret dX12_taken_125
      · refine aw_aload_n K 1 dX12_taken_114 rfl ?_
        refine aw_getR K (c' := 164) dX12_taken_115 lk_X12_59_12 fd_148_37 ?_
        refine aw_iload_n K 2 dX12_taken_118 rfl ?_
        refine aw_gd (fun h_10 => ?_)
        refine aw_ald K dX12_taken_119 ad_164 h_10 rfl ?_
        refine aw_goto K 125 dX12_taken_120 (by decide) ?_
        exact aw_iret dX12_taken_125
    · refine aw_aload_n K 0 dX12_taken_68 rfl ?_
      refine aw_iload_n K 3 dX12_taken_69 rfl ?_
      refine aw_iconst K dX12_taken_70 ki_0 ?_
      refine aw_callVI K dX12_taken_71 vw_X12_93_12 (c_f_M_its l _ _) hg (by decide) ob_148 rfl (Nat.le_of_ble_eq_true rfl) rfl rfl (fun r2 σ1 _ => ?_)
      refine aw_iload_n K 2 dX12_taken_74 rfl ?_
      refine aw_callSI K dX12_taken_75 vw_X12_114 (c_f_M_isUnder l _ _) hg (by decide) rfl (Nat.le_of_ble_eq_true rfl) rfl rfl (fun r4 σ3 _ => ?_)
      refine aw_if_eq K 85 dX12_taken_78 (by decide) (fun h_11 => ?_) (fun h_11 => ?_)
      · refine aw_iconst K dX12_taken_85 ki_0 ?_
        refine aw_goto K 107 dX12_taken_86 (by decide) ?_
        refine aw_istore K (i := 4) (lv' := [(4, .int (0 : Int32)), (0, rf P 148), (1, .int x1), (2, .int x2), (3, .int x3)]) dX12_taken_107 (Nat.le_of_ble_eq_true rfl) rfl ?_
        refine aw_iload K 0 dX12_taken_109 rfl ?_
        refine aw_if_eq K 123 dX12_taken_111 (by decide) (fun h_12 => ?_) (fun h_12 => ?_)
        · refine aw_bipush K dX12_taken_123 kb_m13 ?_
          exact aw_iret dX12_taken_125
        · refine aw_aload_n K 1 dX12_taken_114 rfl ?_
          refine aw_getR K (c' := 164) dX12_taken_115 lk_X12_59_12 fd_148_37 ?_
          refine aw_iload_n K 2 dX12_taken_118 rfl ?_
          refine aw_gd (fun h_13 => ?_)
          refine aw_ald K dX12_taken_119 ad_164 h_13 rfl ?_
          refine aw_goto K 125 dX12_taken_120 (by decide) ?_
          exact aw_iret dX12_taken_125
      · refine aw_iconst K dX12_taken_81 ki_1 ?_
        refine aw_goto K 107 dX12_taken_82 (by decide) ?_
        refine aw_istore K (i := 4) (lv' := [(4, .int (1 : Int32)), (0, rf P 148), (1, .int x1), (2, .int x2), (3, .int x3)]) dX12_taken_107 (Nat.le_of_ble_eq_true rfl) rfl ?_
        refine aw_iload K 0 dX12_taken_109 rfl ?_
        refine aw_if_eq K 123 dX12_taken_111 (by decide) (fun h_14 => ?_) (fun h_14 => ?_)
        · refine aw_bipush K dX12_taken_123 kb_m13 ?_
          exact aw_iret dX12_taken_125
        · refine aw_aload_n K 1 dX12_taken_114 rfl ?_
          refine aw_getR K (c' := 164) dX12_taken_115 lk_X12_59_12 fd_148_37 ?_
          refine aw_iload_n K 2 dX12_taken_118 rfl ?_
          refine aw_gd (fun h_15 => ?_)
          refine aw_ald K dX12_taken_119 ad_164 h_15 rfl ?_
          refine aw_goto K 125 dX12_taken_120 (by decide) ?_
          exact aw_iret dX12_taken_125
set_option maxRecDepth 100000 in
set_option maxHeartbeats 4000000 in
theorem c_f_M_taken (l : Launch) (x1 : Int32) (x2 : Int32) : CTI l (3) yX12_taken cX12_taken 5 ((some .int)) (fun P => [rf P 148, .int x1, .int x2]) (fun σ => f_M_taken x1 x2 σ) := by
  refine met_I rfl rfl rfl (fun P => Nat.le_of_ble_eq_true rfl) (fun P G K hg σ => ?_)
  change AW P G 5 (EI P G cX12_taken) (f_M_taken x1 x2 σ) σ 0 [(0, rf P 148), (1, .int x1), (2, .int x2)] []
  rw [f_M_taken]
  refine aw_iload_n K 1 dX12_taken_0 rfl ?_
  refine aw_callSI K dX12_taken_1 vw_X12_418 (c_f_M_isOne l _) hg (by decide) rfl (Nat.le_of_ble_eq_true rfl) rfl rfl (fun r2 σ1 _ => ?_)
  refine aw_if_eq K 33 dX12_taken_4 (by decide) (fun h_1 => ?_) (fun h_1 => ?_)
  · refine aw_iconst K dX12_taken_33 ki_m1 ?_
    exact aw_iret dX12_taken_34
  · refine aw_iload_n K 2 dX12_taken_7 rfl ?_
    refine aw_i2l K dX12_taken_8 ?_
    refine aw_lconst K dX12_taken_9 kl_0 ?_
    refine aw_ldc2 K (x := (5 : Int64)) dX12_taken_10 (in_r8 _ (List.mem_of_getElem? (i := 18) rfl)) ?_
    refine aw_callSI K dX12_taken_13 vw_X12_68 (c_f_M_in l _ _ _) hg (by decide) rfl (Nat.le_of_ble_eq_true rfl) rfl rfl (fun r4 σ3 _ => ?_)
    refine aw_if_ne K 35 dX12_taken_16 (by decide) (fun h_2 => ?_) (fun h_2 => ?_)
    · refine aw_aload_n K 0 dX12_taken_35 rfl ?_
      refine aw_iload_n K 1 dX12_taken_36 rfl ?_
      refine aw_callVI K dX12_taken_37 vw_X12_445_12 (c_f_M_onShelf l _) hg (by decide) ob_148 rfl (Nat.le_of_ble_eq_true rfl) rfl rfl (fun r6 σ5 _ => ?_)
      refine aw_istore_n K (i := 3) (lv' := [(3, .int r6), (0, rf P 148), (1, .int x1), (2, .int x2)]) dX12_taken_40 rfl (Nat.le_of_ble_eq_true rfl) rfl ?_
      refine aw_iload_n K 0 dX12_taken_41 rfl ?_
      refine aw_if_ge K 58 dX12_taken_42 (by decide) (fun h_3 => ?_) (fun h_3 => ?_)
      · refine aw_lv [1, 2, 3, 0] rfl ?_
        exact (a_f_M_taken_58 l K hg) _ _ _ _
      · refine aw_aload_n K 1 dX12_taken_45 rfl ?_
        refine aw_getR K (c' := 163) dX12_taken_46 lk_X12_56_12 fd_148_36 ?_
        refine aw_iload_n K 2 dX12_taken_49 rfl ?_
        refine aw_gd (fun h_4 => ?_)
        refine aw_ald K dX12_taken_50 ad_163 h_4 rfl ?_
        refine aw_iconst K dX12_taken_51 ki_2 ?_
        refine aw_icmp_ge K 58 dX12_taken_52 (by decide) (fun h_5 => ?_) (fun h_5 => ?_)
        · refine aw_lv [1, 2, 3, 0] rfl ?_
          exact (a_f_M_taken_58 l K hg) _ _ _ _
        · refine aw_bipush K dX12_taken_55 kb_m11 ?_
          exact aw_iret dX12_taken_57
    · refine aw_iload_n K 2 dX12_taken_19 rfl ?_
      refine aw_i2l K dX12_taken_20 ?_
      refine aw_ldc2 K (x := (10 : Int64)) dX12_taken_21 (in_r56 _ (List.mem_of_getElem? (i := 9) rfl)) ?_
      refine aw_ldc2 K (x := (14 : Int64)) dX12_taken_24 (in_r56 _ (List.mem_of_getElem? (i := 10) rfl)) ?_
      refine aw_callSI K dX12_taken_27 vw_X12_68 (c_f_M_in l _ _ _) hg (by decide) rfl (Nat.le_of_ble_eq_true rfl) rfl rfl (fun r8 σ7 _ => ?_)
      refine aw_if_ne K 35 dX12_taken_30 (by decide) (fun h_6 => ?_) (fun h_6 => ?_)
      · refine aw_aload_n K 0 dX12_taken_35 rfl ?_
        refine aw_iload_n K 1 dX12_taken_36 rfl ?_
        refine aw_callVI K dX12_taken_37 vw_X12_445_12 (c_f_M_onShelf l _) hg (by decide) ob_148 rfl (Nat.le_of_ble_eq_true rfl) rfl rfl (fun r10 σ9 _ => ?_)
        refine aw_istore_n K (i := 3) (lv' := [(3, .int r10), (0, rf P 148), (1, .int x1), (2, .int x2)]) dX12_taken_40 rfl (Nat.le_of_ble_eq_true rfl) rfl ?_
        refine aw_iload_n K 0 dX12_taken_41 rfl ?_
        refine aw_if_ge K 58 dX12_taken_42 (by decide) (fun h_7 => ?_) (fun h_7 => ?_)
        · refine aw_lv [1, 2, 3, 0] rfl ?_
          exact (a_f_M_taken_58 l K hg) _ _ _ _
        · refine aw_aload_n K 1 dX12_taken_45 rfl ?_
          refine aw_getR K (c' := 163) dX12_taken_46 lk_X12_56_12 fd_148_36 ?_
          refine aw_iload_n K 2 dX12_taken_49 rfl ?_
          refine aw_gd (fun h_8 => ?_)
          refine aw_ald K dX12_taken_50 ad_163 h_8 rfl ?_
          refine aw_iconst K dX12_taken_51 ki_2 ?_
          refine aw_icmp_ge K 58 dX12_taken_52 (by decide) (fun h_9 => ?_) (fun h_9 => ?_)
          · refine aw_lv [1, 2, 3, 0] rfl ?_
            exact (a_f_M_taken_58 l K hg) _ _ _ _
          · refine aw_bipush K dX12_taken_55 kb_m11 ?_
            exact aw_iret dX12_taken_57
      · refine aw_iconst K dX12_taken_33 ki_m1 ?_
        exact aw_iret dX12_taken_34
set_option maxRecDepth 100000 in
set_option maxHeartbeats 4000000 in
theorem c_f_M_runs (l : Launch) (x1 : Int32) : CTV l (0) yX12_runs cX12_runs 2 (none) (fun P => [rf P 148, .int x1]) (fun σ => f_M_runs x1 σ) := by
  refine met_V rfl rfl rfl (fun P => Nat.le_of_ble_eq_true rfl) (fun P G K hg σ => ?_)
  change AW P G 2 (EV P G cX12_runs) (f_M_runs x1 σ) σ 0 [(0, rf P 148), (1, .int x1)] []
  rw [f_M_runs]
  refine aw_aload_n K 0 dX12_runs_0 rfl ?_
  refine aw_getZ K dX12_runs_1 lk_X12_448_12 fd_148_44 ?_
  refine aw_if_ne K 36 dX12_runs_4 (by decide) (fun h_1 => ?_) (fun h_1 => ?_)
  · exact aw_vret dX12_runs_36
  · refine aw_aload_n K 0 dX12_runs_7 rfl ?_
    refine aw_getI K dX12_runs_8 lk_X12_451_12 fd_148_40 ?_
    refine aw_bipush K dX12_runs_11 kb_30 ?_
    refine aw_icmp_ge K 26 dX12_runs_13 (by decide) (fun h_2 => ?_) (fun h_2 => ?_)
    · refine aw_aload_n K 0 dX12_runs_26 rfl ?_
      refine aw_dup K dX12_runs_27 rfl ?_
      refine aw_getI K dX12_runs_28 lk_X12_451_12 fd_148_40 ?_
      refine aw_iconst K dX12_runs_31 ki_1 ?_
      refine aw_iadd K dX12_runs_32 ?_
      refine aw_putI K dX12_runs_33 lp_X12_451_12 fd_148_40 (fun σ1 => ?_)
      exact aw_vret dX12_runs_36
    · refine aw_aload_n K 0 dX12_runs_16 rfl ?_
      refine aw_getR K (c' := 166) dX12_runs_17 lk_X12_65_12 fd_148_39 ?_
      refine aw_aload_n K 0 dX12_runs_20 rfl ?_
      refine aw_getI K dX12_runs_21 lk_X12_451_12 fd_148_40 ?_
      refine aw_iload_n K 1 dX12_runs_24 rfl ?_
      refine aw_gd (fun h_3 => ?_)
      refine aw_ast K dX12_runs_25 ad_166 h_3 rfl (fun σ2 => ?_)
      refine aw_aload_n K 0 dX12_runs_26 rfl ?_
      refine aw_dup K dX12_runs_27 rfl ?_
      refine aw_getI K dX12_runs_28 lk_X12_451_12 fd_148_40 ?_
      refine aw_iconst K dX12_runs_31 ki_1 ?_
      refine aw_iadd K dX12_runs_32 ?_
      refine aw_putI K dX12_runs_33 lp_X12_451_12 fd_148_40 (fun σ3 => ?_)
      exact aw_vret dX12_runs_36
set_option maxRecDepth 100000 in
set_option maxHeartbeats 4000000 in
theorem a_f_M_gives_28 (l : Launch) {P : PT} {G : GT} (K : CX P G cX12_gives RX12 (1) 3) (hg : gl G = l) : ∀ (x1 : Int32) (σ : SG), AW P G 3 (EI P G cX12_gives) (f_M_gives_28 x1 σ) σ 28 [(0, rf P 148), (1, .int x1)] [] := by
  intro x1 σ
  rw [f_M_gives_28]
  refine aw_aload_n K 0 dX12_gives_28 rfl ?_
  refine aw_bipush K dX12_gives_29 kb_10 ?_
  refine aw_callVV K dX12_gives_31 vw_X12_457_12 (c_f_M_runs l _) hg (by decide) ob_148 rfl (Nat.le_of_ble_eq_true rfl) rfl rfl (fun _ σ1 _ => ?_)
  refine aw_iload_n K 1 dX12_gives_34 rfl ?_
  refine aw_aload_n K 0 dX12_gives_35 rfl ?_
  refine aw_getI K dX12_gives_36 lk_X12_460_12 fd_148_42 ?_
  refine aw_iadd K dX12_gives_39 ?_
  refine aw_istoreX_n K (i := 2) (lv' := fun y2 => [(2, .int y2), (0, rf P 148), (1, .int x1)]) dX12_gives_40 rfl (Nat.le_of_ble_eq_true rfl) (fun _ => rfl) (fun y2 => ?_)
  refine aw_aload_n K 1 dX12_gives_41 rfl ?_
  refine aw_getI K dX12_gives_42 lk_X12_454_12 fd_148_43 ?_
  refine aw_iconst K dX12_gives_45 ki_1 ?_
  refine aw_icmp_ne K 55 dX12_gives_46 (by decide) (fun h_1 => ?_) (fun h_1 => ?_)
  · refine aw_aload_n K 1 dX12_gives_55 rfl ?_
    refine aw_getI K dX12_gives_56 lk_X12_454_12 fd_148_43 ?_
    refine aw_iconst K dX12_gives_59 ki_3 ?_
    refine aw_icmp_ne K 69 dX12_gives_60 (by decide) (fun h_2 => ?_) (fun h_2 => ?_)
    · refine aw_iload_n K 0 dX12_gives_69 rfl ?_
      exact aw_iret dX12_gives_70
    · refine aw_iload_n K 0 dX12_gives_63 rfl ?_
      refine aw_iconst K dX12_gives_64 ki_1 ?_
      refine aw_isub K dX12_gives_65 ?_
      refine aw_goto K 70 dX12_gives_66 (by decide) ?_
      exact aw_iret dX12_gives_70
  · refine aw_iload_n K 0 dX12_gives_49 rfl ?_
    refine aw_iconst K dX12_gives_50 ki_2 ?_
    refine aw_imul K dX12_gives_51 ?_
    refine aw_goto K 70 dX12_gives_52 (by decide) ?_
    exact aw_iret dX12_gives_70
set_option maxRecDepth 100000 in
set_option maxHeartbeats 4000000 in
theorem c_f_M_gives (l : Launch) (x1 : Int32) : CTI l (1) yX12_gives cX12_gives 3 ((some .int)) (fun P => [rf P 148, .int x1]) (fun σ => f_M_gives x1 σ) := by
  refine met_I rfl rfl rfl (fun P => Nat.le_of_ble_eq_true rfl) (fun P G K hg σ => ?_)
  change AW P G 3 (EI P G cX12_gives) (f_M_gives x1 σ) σ 0 [(0, rf P 148), (1, .int x1)] []
  rw [f_M_gives]
  refine aw_aload_n K 0 dX12_gives_0 rfl ?_
  refine aw_getI K dX12_gives_1 lk_X12_454_12 fd_148_43 ?_
  refine aw_iconst K dX12_gives_4 ki_1 ?_
  refine aw_icmp_ne K 14 dX12_gives_5 (by decide) (fun h_1 => ?_) (fun h_1 => ?_)
  · refine aw_aload_n K 0 dX12_gives_14 rfl ?_
    refine aw_getI K dX12_gives_15 lk_X12_454_12 fd_148_43 ?_
    refine aw_iconst K dX12_gives_18 ki_3 ?_
    refine aw_icmp_ne K 28 dX12_gives_19 (by decide) (fun h_2 => ?_) (fun h_2 => ?_)
    · refine aw_lv [0, 1] rfl ?_
      exact (a_f_M_gives_28 l K hg) _ _
    · refine aw_aload_n K 0 dX12_gives_22 rfl ?_
      refine aw_bipush K dX12_gives_23 kb_50 ?_
      refine aw_callVV K dX12_gives_25 vw_X12_457_12 (c_f_M_runs l _) hg (by decide) ob_148 rfl (Nat.le_of_ble_eq_true rfl) rfl rfl (fun _ σ1 _ => ?_)
      refine aw_lv [0, 1] rfl ?_
      exact (a_f_M_gives_28 l K hg) _ _
  · refine aw_aload_n K 0 dX12_gives_8 rfl ?_
    refine aw_bipush K dX12_gives_9 kb_20 ?_
    refine aw_callVV K dX12_gives_11 vw_X12_457_12 (c_f_M_runs l _) hg (by decide) ob_148 rfl (Nat.le_of_ble_eq_true rfl) rfl rfl (fun _ σ2 _ => ?_)
    refine aw_aload_n K 0 dX12_gives_14 rfl ?_
    refine aw_getI K dX12_gives_15 lk_X12_454_12 fd_148_43 ?_
    refine aw_iconst K dX12_gives_18 ki_3 ?_
    refine aw_icmp_ne K 28 dX12_gives_19 (by decide) (fun h_3 => ?_) (fun h_3 => ?_)
    · refine aw_lv [0, 1] rfl ?_
      exact (a_f_M_gives_28 l K hg) _ _
    · refine aw_aload_n K 0 dX12_gives_22 rfl ?_
      refine aw_bipush K dX12_gives_23 kb_50 ?_
      refine aw_callVV K dX12_gives_25 vw_X12_457_12 (c_f_M_runs l _) hg (by decide) ob_148 rfl (Nat.le_of_ble_eq_true rfl) rfl rfl (fun _ σ3 _ => ?_)
      refine aw_lv [0, 1] rfl ?_
      exact (a_f_M_gives_28 l K hg) _ _
set_option maxRecDepth 100000 in
set_option maxHeartbeats 4000000 in
theorem a_f_M_takes_46 (l : Launch) {P : PT} {G : GT} (K : CX P G cX12_takes RX12 (2) 4) (hg : gl G = l) : ∀ (x1 : Int32) (x2 : Int32) (σ : SG), AW P G 4 (EI P G cX12_takes) (f_M_takes_46 x1 x2 σ) σ 46 [(0, rf P 148), (1, .int x1), (2, .int x2)] [] := by
  intro x1 x2 σ
  rw [f_M_takes_46]
  refine aw_aload_n K 0 dX12_takes_46 rfl ?_
  refine aw_bipush K dX12_takes_47 kb_11 ?_
  refine aw_callVV K dX12_takes_49 vw_X12_457_12 (c_f_M_runs l _) hg (by decide) ob_148 rfl (Nat.le_of_ble_eq_true rfl) rfl rfl (fun _ σ1 _ => ?_)
  refine aw_aload_n K 0 dX12_takes_52 rfl ?_
  refine aw_iload_n K 1 dX12_takes_53 rfl ?_
  refine aw_callVI K dX12_takes_54 vw_X12_463_12 (c_f_M_gives l _) hg (by decide) ob_148 rfl (Nat.le_of_ble_eq_true rfl) rfl rfl (fun r3 σ2 _ => ?_)
  refine aw_aload_n K 0 dX12_takes_57 rfl ?_
  refine aw_getI K dX12_takes_58 lk_X12_466_12 fd_148_41 ?_
  refine aw_isub K dX12_takes_61 ?_
  refine aw_istoreX_n K (i := 3) (lv' := fun y4 => [(3, .int y4), (0, rf P 148), (1, .int x1), (2, .int x2)]) dX12_takes_62 rfl (Nat.le_of_ble_eq_true rfl) (fun _ => rfl) (fun y4 => ?_)
  refine aw_iload_n K 3 dX12_takes_63 rfl ?_
  refine aw_if_eq K 76 dX12_takes_64 (by decide) (fun h_1 => ?_) (fun h_1 => ?_)
  · refine aw_aload_n K 1 dX12_takes_76 rfl ?_
    refine aw_getI K dX12_takes_77 lk_X12_454_12 fd_148_43 ?_
    refine aw_iconst K dX12_takes_80 ki_5 ?_
    refine aw_icmp_ne K 90 dX12_takes_81 (by decide) (fun h_2 => ?_) (fun h_2 => ?_)
    · refine aw_iload_n K 0 dX12_takes_90 rfl ?_
      exact aw_iret dX12_takes_91
    · refine aw_iconst K dX12_takes_84 ki_0 ?_
      refine aw_iload_n K 0 dX12_takes_85 rfl ?_
      refine aw_isub K dX12_takes_86 ?_
      refine aw_goto K 91 dX12_takes_87 (by decide) ?_
      exact aw_iret dX12_takes_91
  · refine aw_iload_n K 0 dX12_takes_67 rfl ?_
    refine aw_aload_n K 1 dX12_takes_68 rfl ?_
    refine aw_getI K dX12_takes_69 lk_X12_466_12 fd_148_41 ?_
    refine aw_ixor K dX12_takes_72 ?_
    refine aw_goto K 91 dX12_takes_73 (by decide) ?_
    exact aw_iret dX12_takes_91
set_option maxRecDepth 100000 in
set_option maxHeartbeats 4000000 in
theorem a_f_M_takes_21 (l : Launch) {P : PT} {G : GT} (K : CX P G cX12_takes RX12 (2) 4) (hg : gl G = l) : ∀ (x1 : Int32) (xs0 : Int32) (σ : SG), AW P G 4 (EI P G cX12_takes) (f_M_takes_21 x1 xs0 σ) σ 21 [(0, rf P 148), (1, .int x1)] [.int xs0] := by
  intro x1 xs0 σ
  rw [f_M_takes_21]
  refine aw_istore_n K (i := 2) (lv' := [(2, .int xs0), (0, rf P 148), (1, .int x1)]) dX12_takes_21 rfl (Nat.le_of_ble_eq_true rfl) rfl ?_
  refine aw_iload_n K 0 dX12_takes_22 rfl ?_
  refine aw_if_eq K 32 dX12_takes_23 (by decide) (fun h_1 => ?_) (fun h_1 => ?_)
  · refine aw_aload_n K 1 dX12_takes_32 rfl ?_
    refine aw_getI K dX12_takes_33 lk_X12_454_12 fd_148_43 ?_
    refine aw_iconst K dX12_takes_36 ki_5 ?_
    refine aw_icmp_ne K 46 dX12_takes_37 (by decide) (fun h_2 => ?_) (fun h_2 => ?_)
    · refine aw_lv [1, 2, 0] rfl ?_
      exact (a_f_M_takes_46 l K hg) _ _ _
    · refine aw_aload_n K 1 dX12_takes_40 rfl ?_
      refine aw_bipush K dX12_takes_41 kb_60 ?_
      refine aw_callVV K dX12_takes_43 vw_X12_457_12 (c_f_M_runs l _) hg (by decide) ob_148 rfl (Nat.le_of_ble_eq_true rfl) rfl rfl (fun _ σ1 _ => ?_)
      refine aw_lv [1, 2, 0] rfl ?_
      exact (a_f_M_takes_46 l K hg) _ _ _
  · refine aw_aload_n K 1 dX12_takes_26 rfl ?_
    refine aw_bipush K dX12_takes_27 kb_30 ?_
    refine aw_callVV K dX12_takes_29 vw_X12_457_12 (c_f_M_runs l _) hg (by decide) ob_148 rfl (Nat.le_of_ble_eq_true rfl) rfl rfl (fun _ σ2 _ => ?_)
    refine aw_aload_n K 1 dX12_takes_32 rfl ?_
    refine aw_getI K dX12_takes_33 lk_X12_454_12 fd_148_43 ?_
    refine aw_iconst K dX12_takes_36 ki_5 ?_
    refine aw_icmp_ne K 46 dX12_takes_37 (by decide) (fun h_3 => ?_) (fun h_3 => ?_)
    · refine aw_lv [1, 2, 0] rfl ?_
      exact (a_f_M_takes_46 l K hg) _ _ _
    · refine aw_aload_n K 1 dX12_takes_40 rfl ?_
      refine aw_bipush K dX12_takes_41 kb_60 ?_
      refine aw_callVV K dX12_takes_43 vw_X12_457_12 (c_f_M_runs l _) hg (by decide) ob_148 rfl (Nat.le_of_ble_eq_true rfl) rfl rfl (fun _ σ3 _ => ?_)
      refine aw_lv [1, 2, 0] rfl ?_
      exact (a_f_M_takes_46 l K hg) _ _ _
set_option maxRecDepth 100000 in
set_option maxHeartbeats 4000000 in
theorem c_f_M_takes (l : Launch) (x1 : Int32) : CTI l (2) yX12_takes cX12_takes 4 ((some .int)) (fun P => [rf P 148, .int x1]) (fun σ => f_M_takes x1 σ) := by
  refine met_I rfl rfl rfl (fun P => Nat.le_of_ble_eq_true rfl) (fun P G K hg σ => ?_)
  change AW P G 4 (EI P G cX12_takes) (f_M_takes x1 σ) σ 0 [(0, rf P 148), (1, .int x1)] []
  rw [f_M_takes]
  refine aw_aload_n K 0 dX12_takes_0 rfl ?_
  refine aw_getI K dX12_takes_1 lk_X12_454_12 fd_148_43 ?_
  refine aw_iconst K dX12_takes_4 ki_2 ?_
  refine aw_icmp_eq K 16 dX12_takes_5 (by decide) (fun h_1 => ?_) (fun h_1 => ?_)
  · refine aw_iconst K dX12_takes_16 ki_1 ?_
    refine aw_goto K 21 dX12_takes_17 (by decide) ?_
    refine aw_lv [0, 1] rfl ?_
    exact (a_f_M_takes_21 l K hg) _ _ _
  · refine aw_aload_n K 0 dX12_takes_8 rfl ?_
    refine aw_getI K dX12_takes_9 lk_X12_454_12 fd_148_43 ?_
    refine aw_iconst K dX12_takes_12 ki_3 ?_
    refine aw_icmp_ne K 20 dX12_takes_13 (by decide) (fun h_2 => ?_) (fun h_2 => ?_)
    · refine aw_iconst K dX12_takes_20 ki_0 ?_
      refine aw_lv [0, 1] rfl ?_
      exact (a_f_M_takes_21 l K hg) _ _ _
    · refine aw_iconst K dX12_takes_16 ki_1 ?_
      refine aw_goto K 21 dX12_takes_17 (by decide) ?_
      refine aw_lv [0, 1] rfl ?_
      exact (a_f_M_takes_21 l K hg) _ _ _
set_option maxRecDepth 100000 in
set_option maxHeartbeats 4000000 in
theorem c_f_M_plainHalves (l : Launch) (x1 : Int32) : CTI l (1) yX12_plainHalves cX12_plainHalves 2 ((some .int)) (fun P => [rf P 148, .int x1]) (fun σ => f_M_plainHalves x1 σ) := by
  refine met_I rfl rfl rfl (fun P => Nat.le_of_ble_eq_true rfl) (fun P G K hg σ => ?_)
  change AW P G 2 (EI P G cX12_plainHalves) (f_M_plainHalves x1 σ) σ 0 [(0, rf P 148), (1, .int x1)] []
  rw [f_M_plainHalves]
  refine aw_aload_n K 0 dX12_plainHalves_0 rfl ?_
  refine aw_bipush K dX12_plainHalves_1 kb_12 ?_
  refine aw_callVV K dX12_plainHalves_3 vw_X12_457_12 (c_f_M_runs l _) hg (by decide) ob_148 rfl (Nat.le_of_ble_eq_true rfl) rfl rfl (fun _ σ1 _ => ?_)
  refine aw_aload_n K 0 dX12_plainHalves_6 rfl ?_
  refine aw_getI K dX12_plainHalves_7 lk_X12_460_12 fd_148_42 ?_
  refine aw_aload_n K 0 dX12_plainHalves_10 rfl ?_
  refine aw_getI K dX12_plainHalves_11 lk_X12_466_12 fd_148_41 ?_
  refine aw_icmp_ne K 24 dX12_plainHalves_14 (by decide) (fun h_1 => ?_) (fun h_1 => ?_)
  · refine aw_iload_n K 1 dX12_plainHalves_24 rfl ?_
    refine aw_aload_n K 0 dX12_plainHalves_25 rfl ?_
    refine aw_getI K dX12_plainHalves_26 lk_X12_460_12 fd_148_42 ?_
    refine aw_aload_n K 0 dX12_plainHalves_29 rfl ?_
    refine aw_getI K dX12_plainHalves_30 lk_X12_466_12 fd_148_41 ?_
    refine aw_isub K dX12_plainHalves_33 ?_
    refine aw_gd (fun h_2 => ?_)
    refine aw_idiv K dX12_plainHalves_34 h_2 ?_
    exact aw_iret dX12_plainHalves_35
  · refine aw_aload_n K 0 dX12_plainHalves_17 rfl ?_
    refine aw_iconst K dX12_plainHalves_18 ki_1 ?_
    refine aw_putZ K dX12_plainHalves_19 lp_X12_448_12 fd_148_44 (by decide) (fun σ2 => ?_)
    refine aw_iconst K dX12_plainHalves_22 ki_0 ?_
    exact aw_iret dX12_plainHalves_23
set_option maxRecDepth 100000 in
set_option maxHeartbeats 4000000 in
theorem c_f_M_halves (l : Launch) (x1 : Int32) : CTI l (2) yX12_halves cX12_halves 3 ((some .int)) (fun P => [rf P 148, .int x1]) (fun σ => f_M_halves x1 σ) := by
  refine met_I rfl rfl rfl (fun P => Nat.le_of_ble_eq_true rfl) (fun P G K hg σ => ?_)
  change AW P G 3 (EI P G cX12_halves) (f_M_halves x1 σ) σ 0 [(0, rf P 148), (1, .int x1)] []
  rw [f_M_halves]
  refine aw_aload_n K 0 dX12_halves_0 rfl ?_
  refine aw_getI K dX12_halves_1 lk_X12_454_12 fd_148_43 ?_
  refine aw_iconst K dX12_halves_4 ki_4 ?_
  refine aw_icmp_ne K 22 dX12_halves_5 (by decide) (fun h_1 => ?_) (fun h_1 => ?_)
  · refine aw_aload_n K 0 dX12_halves_22 rfl ?_
    refine aw_getI K dX12_halves_23 lk_X12_454_12 fd_148_43 ?_
    refine aw_iconst K dX12_halves_26 ki_5 ?_
    refine aw_icmp_ne K 72 dX12_halves_27 (by decide) (fun h_2 => ?_) (fun h_2 => ?_)
    · refine aw_aload_n K 0 dX12_halves_72 rfl ?_
      refine aw_iload_n K 1 dX12_halves_73 rfl ?_
      refine aw_callVI K dX12_halves_74 vw_X12_469_12 (c_f_M_plainHalves l _) hg (by decide) ob_148 rfl (Nat.le_of_ble_eq_true rfl) rfl rfl (fun r2 σ1 _ => ?_)
      exact aw_iret dX12_halves_77
    · refine aw_aload_n K 0 dX12_halves_30 rfl ?_
      refine aw_bipush K dX12_halves_31 kb_61 ?_
      refine aw_callVV K dX12_halves_33 vw_X12_457_12 (c_f_M_runs l _) hg (by decide) ob_148 rfl (Nat.le_of_ble_eq_true rfl) rfl rfl (fun _ σ3 _ => ?_)
      refine aw_aload_n K 0 dX12_halves_36 rfl ?_
      refine aw_bipush K dX12_halves_37 kb_40 ?_
      refine aw_callVV K dX12_halves_39 vw_X12_457_12 (c_f_M_runs l _) hg (by decide) ob_148 rfl (Nat.le_of_ble_eq_true rfl) rfl rfl (fun _ σ4 _ => ?_)
      refine aw_aload_n K 0 dX12_halves_42 rfl ?_
      refine aw_iload_n K 1 dX12_halves_43 rfl ?_
      refine aw_iconst K dX12_halves_44 ki_3 ?_
      refine aw_isub K dX12_halves_45 ?_
      refine aw_callVI K dX12_halves_46 vw_X12_469_12 (c_f_M_plainHalves l _) hg (by decide) ob_148 rfl (Nat.le_of_ble_eq_true rfl) rfl rfl (fun r6 σ5 _ => ?_)
      refine aw_istore_n K (i := 2) (lv' := [(2, .int r6), (0, rf P 148), (1, .int x1)]) dX12_halves_49 rfl (Nat.le_of_ble_eq_true rfl) rfl ?_
      refine aw_aload_n K 1 dX12_halves_50 rfl ?_
      refine aw_getZ K dX12_halves_51 lk_X12_448_12 fd_148_44 ?_
      refine aw_if_eq K 61 dX12_halves_54 (by decide) (fun h_3 => ?_) (fun h_3 => ?_)
      · refine aw_iload_n K 0 dX12_halves_61 rfl ?_
        refine aw_aload_n K 1 dX12_halves_62 rfl ?_
        refine aw_aload_n K 1 dX12_halves_63 rfl ?_
        refine aw_getI K dX12_halves_64 lk_X12_466_12 fd_148_41 ?_
        refine aw_callVI K dX12_halves_67 vw_X12_463_12 (c_f_M_gives l _) hg (by decide) ob_148 rfl (Nat.le_of_ble_eq_true rfl) rfl rfl (fun r8 σ7 _ => ?_)
        refine aw_isub K dX12_halves_70 ?_
        exact aw_iret dX12_halves_71
      · refine aw_iconst K dX12_halves_57 ki_0 ?_
        refine aw_goto K 71 dX12_halves_58 (by decide) ?_
        exact aw_iret dX12_halves_71
  · refine aw_aload_n K 0 dX12_halves_8 rfl ?_
    refine aw_bipush K dX12_halves_9 kb_40 ?_
    refine aw_callVV K dX12_halves_11 vw_X12_457_12 (c_f_M_runs l _) hg (by decide) ob_148 rfl (Nat.le_of_ble_eq_true rfl) rfl rfl (fun _ σ9 _ => ?_)
    refine aw_aload_n K 0 dX12_halves_14 rfl ?_
    refine aw_iload_n K 1 dX12_halves_15 rfl ?_
    refine aw_iconst K dX12_halves_16 ki_3 ?_
    refine aw_isub K dX12_halves_17 ?_
    refine aw_callVI K dX12_halves_18 vw_X12_469_12 (c_f_M_plainHalves l _) hg (by decide) ob_148 rfl (Nat.le_of_ble_eq_true rfl) rfl rfl (fun r11 σ10 _ => ?_)
    exact aw_iret dX12_halves_21
set_option maxRecDepth 100000 in
set_option maxHeartbeats 4000000 in
theorem a_f_M_owes_14 (l : Launch) {P : PT} {G : GT} (K : CX P G cX12_owes RX12 (3) 3) (hg : gl G = l) : ∀ (x1 : Int32) (σ : SG), AW P G 3 (EI P G cX12_owes) (f_M_owes_14 x1 σ) σ 14 [(0, rf P 148), (1, .int x1)] [] := by
  intro x1 σ
  rw [f_M_owes_14]
  refine aw_aload_n K 0 dX12_owes_14 rfl ?_
  refine aw_bipush K dX12_owes_15 kb_13 ?_
  refine aw_callVV K dX12_owes_17 vw_X12_457_12 (c_f_M_runs l _) hg (by decide) ob_148 rfl (Nat.le_of_ble_eq_true rfl) rfl rfl (fun _ σ1 _ => ?_)
  refine aw_aload_n K 0 dX12_owes_20 rfl ?_
  refine aw_iload_n K 1 dX12_owes_21 rfl ?_
  refine aw_callVI K dX12_owes_22 vw_X12_472_12 (c_f_M_takes l _) hg (by decide) ob_148 rfl (Nat.le_of_ble_eq_true rfl) rfl rfl (fun r3 σ2 _ => ?_)
  refine aw_aload_n K 0 dX12_owes_25 rfl ?_
  refine aw_getI K dX12_owes_26 lk_X12_460_12 fd_148_42 ?_
  refine aw_ixor K dX12_owes_29 ?_
  refine aw_istoreX_n K (i := 2) (lv' := fun y4 => [(2, .int y4), (0, rf P 148), (1, .int x1)]) dX12_owes_30 rfl (Nat.le_of_ble_eq_true rfl) (fun _ => rfl) (fun y4 => ?_)
  refine aw_aload_n K 1 dX12_owes_31 rfl ?_
  refine aw_getI K dX12_owes_32 lk_X12_454_12 fd_148_43 ?_
  refine aw_iconst K dX12_owes_35 ki_3 ?_
  refine aw_icmp_ne K 52 dX12_owes_36 (by decide) (fun h_1 => ?_) (fun h_1 => ?_)
  · refine aw_iload_n K 0 dX12_owes_52 rfl ?_
    exact aw_iret dX12_owes_53
  · refine aw_iload_n K 0 dX12_owes_39 rfl ?_
    refine aw_aload_n K 1 dX12_owes_40 rfl ?_
    refine aw_aload_n K 1 dX12_owes_41 rfl ?_
    refine aw_getI K dX12_owes_42 lk_X12_460_12 fd_148_42 ?_
    refine aw_callVI K dX12_owes_45 vw_X12_475_12 (c_f_M_halves l _) hg (by decide) ob_148 rfl (Nat.le_of_ble_eq_true rfl) rfl rfl (fun r6 σ5 _ => ?_)
    refine aw_iadd K dX12_owes_48 ?_
    refine aw_goto K 53 dX12_owes_49 (by decide) ?_
    exact aw_iret dX12_owes_53
set_option maxRecDepth 100000 in
set_option maxHeartbeats 4000000 in
theorem c_f_M_owes (l : Launch) (x1 : Int32) : CTI l (3) yX12_owes cX12_owes 3 ((some .int)) (fun P => [rf P 148, .int x1]) (fun σ => f_M_owes x1 σ) := by
  refine met_I rfl rfl rfl (fun P => Nat.le_of_ble_eq_true rfl) (fun P G K hg σ => ?_)
  change AW P G 3 (EI P G cX12_owes) (f_M_owes x1 σ) σ 0 [(0, rf P 148), (1, .int x1)] []
  rw [f_M_owes]
  refine aw_aload_n K 0 dX12_owes_0 rfl ?_
  refine aw_getI K dX12_owes_1 lk_X12_454_12 fd_148_43 ?_
  refine aw_iconst K dX12_owes_4 ki_3 ?_
  refine aw_icmp_ne K 14 dX12_owes_5 (by decide) (fun h_1 => ?_) (fun h_1 => ?_)
  · refine aw_lv [0, 1] rfl ?_
    exact (a_f_M_owes_14 l K hg) _ _
  · refine aw_aload_n K 0 dX12_owes_8 rfl ?_
    refine aw_bipush K dX12_owes_9 kb_51 ?_
    refine aw_callVV K dX12_owes_11 vw_X12_457_12 (c_f_M_runs l _) hg (by decide) ob_148 rfl (Nat.le_of_ble_eq_true rfl) rfl rfl (fun _ σ1 _ => ?_)
    refine aw_lv [0, 1] rfl ?_
    exact (a_f_M_owes_14 l K hg) _ _
set_option maxRecDepth 100000 in
set_option maxHeartbeats 4000000 in
theorem c_f_M_act (l : Launch) (x1 : Int32) (x2 : Int32) (x3 : Int32) : CTI l (4) yX12_act cX12_act 5 ((some .int)) (fun P => [rf P 148, .int x1, .int x2, .int x3]) (fun σ => f_M_act x1 x2 x3 σ) := by
  refine met_I rfl rfl rfl (fun P => Nat.le_of_ble_eq_true rfl) (fun P G K hg σ => ?_)
  change AW P G 5 (EI P G cX12_act) (f_M_act x1 x2 x3 σ) σ 0 [(0, rf P 148), (1, .int x1), (2, .int x2), (3, .int x3)] []
  rw [f_M_act]
  refine aw_aload_n K 0 dX12_act_0 rfl ?_
  refine aw_iconst K dX12_act_1 ki_0 ?_
  refine aw_putI K dX12_act_2 lp_X12_451_12 fd_148_40 (fun σ1 => ?_)
  refine aw_aload_n K 0 dX12_act_5 rfl ?_
  refine aw_iconst K dX12_act_6 ki_0 ?_
  refine aw_putZ K dX12_act_7 lp_X12_448_12 fd_148_44 (by decide) (fun σ2 => ?_)
  refine aw_aload_n K 0 dX12_act_10 rfl ?_
  refine aw_aload_n K 0 dX12_act_11 rfl ?_
  refine aw_iload_n K 1 dX12_act_12 rfl ?_
  refine aw_callVI K dX12_act_13 vw_X12_445_12 (c_f_M_onShelf l _) hg (by decide) ob_148 rfl (Nat.le_of_ble_eq_true rfl) rfl rfl (fun r4 σ3 _ => ?_)
  refine aw_putI K dX12_act_16 lp_X12_466_12 fd_148_41 (fun σ5 => ?_)
  refine aw_aload_n K 0 dX12_act_19 rfl ?_
  refine aw_getI K dX12_act_20 lk_X12_466_12 fd_148_41 ?_
  refine aw_if_lt K 38 dX12_act_23 (by decide) (fun h_1 => ?_) (fun h_1 => ?_)
  · refine aw_iconst K dX12_act_38 ki_0 ?_
    exact aw_iret dX12_act_39
  · refine aw_iload_n K 2 dX12_act_26 rfl ?_
    refine aw_i2l K dX12_act_27 ?_
    refine aw_lconst K dX12_act_28 kl_0 ?_
    refine aw_ldc2 K (x := (3 : Int64)) dX12_act_29 (in_r52 _ (List.mem_of_getElem? (i := 7) rfl)) ?_
    refine aw_callSI K dX12_act_32 vw_X12_68 (c_f_M_in l _ _ _) hg (by decide) rfl (Nat.le_of_ble_eq_true rfl) rfl rfl (fun r7 σ6 _ => ?_)
    refine aw_if_ne K 40 dX12_act_35 (by decide) (fun h_2 => ?_) (fun h_2 => ?_)
    · refine aw_aload_n K 0 dX12_act_40 rfl ?_
      refine aw_aload_n K 0 dX12_act_41 rfl ?_
      refine aw_aload_n K 0 dX12_act_42 rfl ?_
      refine aw_getI K dX12_act_43 lk_X12_466_12 fd_148_41 ?_
      refine aw_iconst K dX12_act_46 ki_2 ?_
      refine aw_callVI K dX12_act_47 vw_X12_93_12 (c_f_M_its l _ _) hg (by decide) ob_148 rfl (Nat.le_of_ble_eq_true rfl) rfl rfl (fun r9 σ8 _ => ?_)
      refine aw_putI K dX12_act_50 lp_X12_460_12 fd_148_42 (fun σ10 => ?_)
      refine aw_aload_n K 0 dX12_act_53 rfl ?_
      refine aw_aload_n K 0 dX12_act_54 rfl ?_
      refine aw_aload_n K 0 dX12_act_55 rfl ?_
      refine aw_getI K dX12_act_56 lk_X12_466_12 fd_148_41 ?_
      refine aw_iconst K dX12_act_59 ki_0 ?_
      refine aw_callVI K dX12_act_60 vw_X12_93_12 (c_f_M_its l _ _) hg (by decide) ob_148 rfl (Nat.le_of_ble_eq_true rfl) rfl rfl (fun r12 σ11 _ => ?_)
      refine aw_putI K dX12_act_63 lp_X12_454_12 fd_148_43 (fun σ13 => ?_)
      refine aw_iload_n K 2 dX12_act_66 rfl ?_
      refine aw_if_ne K 78 dX12_act_67 (by decide) (fun h_3 => ?_) (fun h_3 => ?_)
      · refine aw_iload_n K 2 dX12_act_78 rfl ?_
        refine aw_iconst K dX12_act_79 ki_1 ?_
        refine aw_icmp_ne K 91 dX12_act_80 (by decide) (fun h_4 => ?_) (fun h_4 => ?_)
        · refine aw_iload_n K 2 dX12_act_91 rfl ?_
          refine aw_iconst K dX12_act_92 ki_2 ?_
          refine aw_icmp_ne K 104 dX12_act_93 (by decide) (fun h_5 => ?_) (fun h_5 => ?_)
          · refine aw_aload_n K 0 dX12_act_104 rfl ?_
            refine aw_iload_n K 3 dX12_act_105 rfl ?_
            refine aw_callVI K dX12_act_106 vw_X12_478_12 (c_f_M_owes l _) hg (by decide) ob_148 rfl (Nat.le_of_ble_eq_true rfl) rfl rfl (fun r15 σ14 _ => ?_)
            refine aw_istore K (i := 4) (lv' := [(4, .int r15), (0, rf P 148), (1, .int x1), (2, .int x2), (3, .int x3)]) dX12_act_109 (Nat.le_of_ble_eq_true rfl) rfl ?_
            refine aw_aload_n K 1 dX12_act_111 rfl ?_
            refine aw_getZ K dX12_act_112 lk_X12_448_12 fd_148_44 ?_
            refine aw_if_eq K 123 dX12_act_115 (by decide) (fun h_6 => ?_) (fun h_6 => ?_)
            · refine aw_iload K 0 dX12_act_123 rfl ?_
              exact aw_iret dX12_act_125
            · refine aw_bipush K dX12_act_118 kb_m15 ?_
              refine aw_goto K 125 dX12_act_120 (by decide) ?_
              exact aw_iret dX12_act_125
          · refine aw_aload_n K 0 dX12_act_96 rfl ?_
            refine aw_iload_n K 3 dX12_act_97 rfl ?_
            refine aw_callVI K dX12_act_98 vw_X12_475_12 (c_f_M_halves l _) hg (by decide) ob_148 rfl (Nat.le_of_ble_eq_true rfl) rfl rfl (fun r17 σ16 _ => ?_)
            refine aw_goto K 109 dX12_act_101 (by decide) ?_
            refine aw_istore K (i := 4) (lv' := [(4, .int r17), (0, rf P 148), (1, .int x1), (2, .int x2), (3, .int x3)]) dX12_act_109 (Nat.le_of_ble_eq_true rfl) rfl ?_
            refine aw_aload_n K 1 dX12_act_111 rfl ?_
            refine aw_getZ K dX12_act_112 lk_X12_448_12 fd_148_44 ?_
            refine aw_if_eq K 123 dX12_act_115 (by decide) (fun h_7 => ?_) (fun h_7 => ?_)
            · refine aw_iload K 0 dX12_act_123 rfl ?_
              exact aw_iret dX12_act_125
            · refine aw_bipush K dX12_act_118 kb_m15 ?_
              refine aw_goto K 125 dX12_act_120 (by decide) ?_
              exact aw_iret dX12_act_125
        · refine aw_aload_n K 0 dX12_act_83 rfl ?_
          refine aw_iload_n K 3 dX12_act_84 rfl ?_
          refine aw_callVI K dX12_act_85 vw_X12_472_12 (c_f_M_takes l _) hg (by decide) ob_148 rfl (Nat.le_of_ble_eq_true rfl) rfl rfl (fun r19 σ18 _ => ?_)
          refine aw_goto K 109 dX12_act_88 (by decide) ?_
          refine aw_istore K (i := 4) (lv' := [(4, .int r19), (0, rf P 148), (1, .int x1), (2, .int x2), (3, .int x3)]) dX12_act_109 (Nat.le_of_ble_eq_true rfl) rfl ?_
          refine aw_aload_n K 1 dX12_act_111 rfl ?_
          refine aw_getZ K dX12_act_112 lk_X12_448_12 fd_148_44 ?_
          refine aw_if_eq K 123 dX12_act_115 (by decide) (fun h_8 => ?_) (fun h_8 => ?_)
          · refine aw_iload K 0 dX12_act_123 rfl ?_
            exact aw_iret dX12_act_125
          · refine aw_bipush K dX12_act_118 kb_m15 ?_
            refine aw_goto K 125 dX12_act_120 (by decide) ?_
            exact aw_iret dX12_act_125
      · refine aw_aload_n K 0 dX12_act_70 rfl ?_
        refine aw_iload_n K 3 dX12_act_71 rfl ?_
        refine aw_callVI K dX12_act_72 vw_X12_463_12 (c_f_M_gives l _) hg (by decide) ob_148 rfl (Nat.le_of_ble_eq_true rfl) rfl rfl (fun r21 σ20 _ => ?_)
        refine aw_goto K 109 dX12_act_75 (by decide) ?_
        refine aw_istore K (i := 4) (lv' := [(4, .int r21), (0, rf P 148), (1, .int x1), (2, .int x2), (3, .int x3)]) dX12_act_109 (Nat.le_of_ble_eq_true rfl) rfl ?_
        refine aw_aload_n K 1 dX12_act_111 rfl ?_
        refine aw_getZ K dX12_act_112 lk_X12_448_12 fd_148_44 ?_
        refine aw_if_eq K 123 dX12_act_115 (by decide) (fun h_9 => ?_) (fun h_9 => ?_)
        · refine aw_iload K 0 dX12_act_123 rfl ?_
          exact aw_iret dX12_act_125
        · refine aw_bipush K dX12_act_118 kb_m15 ?_
          refine aw_goto K 125 dX12_act_120 (by decide) ?_
          exact aw_iret dX12_act_125
    · refine aw_iconst K dX12_act_38 ki_0 ?_
      exact aw_iret dX12_act_39
set_option maxRecDepth 100000 in
set_option maxHeartbeats 4000000 in
theorem c_f_M_traced (l : Launch) : CTI l (0) yX12_traced cX12_traced 1 ((some .int)) (fun P => [rf P 148]) (fun σ => f_M_traced σ) := by
  refine met_I rfl rfl rfl (fun P => Nat.le_of_ble_eq_true rfl) (fun P G K hg σ => ?_)
  change AW P G 1 (EI P G cX12_traced) (f_M_traced σ) σ 0 [(0, rf P 148)] []
  rw [f_M_traced]
  refine aw_aload_n K 0 dX12_traced_0 rfl ?_
  refine aw_getI K dX12_traced_1 lk_X12_451_12 fd_148_40 ?_
  refine aw_bipush K dX12_traced_4 kb_30 ?_
  refine aw_icmp_ge K 16 dX12_traced_6 (by decide) (fun h_1 => ?_) (fun h_1 => ?_)
  · refine aw_bipush K dX12_traced_16 kb_30 ?_
    exact aw_iret dX12_traced_18
  · refine aw_aload_n K 0 dX12_traced_9 rfl ?_
    refine aw_getI K dX12_traced_10 lk_X12_451_12 fd_148_40 ?_
    refine aw_goto K 18 dX12_traced_13 (by decide) ?_
    exact aw_iret dX12_traced_18
set_option maxRecDepth 100000 in
set_option maxHeartbeats 4000000 in
theorem c_f_M_trace (l : Launch) (x1 : Int32) : CTI l (1) yX12_trace cX12_trace 2 ((some .int)) (fun P => [rf P 148, .int x1]) (fun σ => f_M_trace x1 σ) := by
  refine met_I rfl rfl rfl (fun P => Nat.le_of_ble_eq_true rfl) (fun P G K hg σ => ?_)
  change AW P G 2 (EI P G cX12_trace) (f_M_trace x1 σ) σ 0 [(0, rf P 148), (1, .int x1)] []
  rw [f_M_trace]
  refine aw_iload_n K 1 dX12_trace_0 rfl ?_
  refine aw_i2l K dX12_trace_1 ?_
  refine aw_lconst K dX12_trace_2 kl_0 ?_
  refine aw_aload_n K 0 dX12_trace_3 rfl ?_
  refine aw_callVI K dX12_trace_4 vw_X12_481_12 (c_f_M_traced l) hg (by decide) ob_148 rfl (Nat.le_of_ble_eq_true rfl) rfl rfl (fun r2 σ1 _ => ?_)
  refine aw_iconst K dX12_trace_7 ki_1 ?_
  refine aw_isub K dX12_trace_8 ?_
  refine aw_i2l K dX12_trace_9 ?_
  refine aw_callSI K dX12_trace_10 vw_X12_68 (c_f_M_in l _ _ _) hg (by decide) rfl (Nat.le_of_ble_eq_true rfl) rfl rfl (fun r4 σ3 _ => ?_)
  refine aw_if_eq K 25 dX12_trace_13 (by decide) (fun h_1 => ?_) (fun h_1 => ?_)
  · refine aw_bipush K dX12_trace_25 kb_m3 ?_
    exact aw_iret dX12_trace_27
  · refine aw_aload_n K 0 dX12_trace_16 rfl ?_
    refine aw_getR K (c' := 166) dX12_trace_17 lk_X12_65_12 fd_148_39 ?_
    refine aw_iload_n K 1 dX12_trace_20 rfl ?_
    refine aw_gd (fun h_2 => ?_)
    refine aw_ald K dX12_trace_21 ad_166 h_2 rfl ?_
    refine aw_goto K 27 dX12_trace_22 (by decide) ?_
    exact aw_iret dX12_trace_27
set_option maxRecDepth 100000 in
set_option maxHeartbeats 4000000 in
theorem c_f_M_many (l : Launch) (x1 : Int32) : CTI l (1) yX12_many cX12_many 2 ((some .int)) (fun P => [rf P 148, .int x1]) (fun σ => f_M_many x1 σ) := by
  refine met_I rfl rfl rfl (fun P => Nat.le_of_ble_eq_true rfl) (fun P G K hg σ => ?_)
  change AW P G 2 (EI P G cX12_many) (f_M_many x1 σ) σ 0 [(0, rf P 148), (1, .int x1)] []
  rw [f_M_many]
  refine aw_iload_n K 1 dX12_many_0 rfl ?_
  refine aw_ite (fun h_1 => ?_) (fun h_1 => ?_)
  · refine aw_tabIn K 44 (0) dX12_many_1 (ti_of h_1 kt_0) (by decide) (by decide) rfl (by decide) ?_
    refine aw_aload_n K 0 dX12_many_44 rfl ?_
    refine aw_getR K (c' := 149) dX12_many_45 lk_X12_7_12 fd_148_0 ?_
    refine aw_iconst K dX12_many_48 ki_0 ?_
    refine aw_ald K dX12_many_49 ad_149 (by decide) kn_0 ?_
    exact aw_iret dX12_many_50
  refine aw_ite (fun h_2 => ?_) (fun h_2 => ?_)
  · refine aw_tabIn K 51 (1) dX12_many_1 (ti_of h_2 kt_1) (by decide) (by decide) rfl (by decide) ?_
    refine aw_aload_n K 0 dX12_many_51 rfl ?_
    refine aw_getR K (c' := 149) dX12_many_52 lk_X12_7_12 fd_148_0 ?_
    refine aw_iconst K dX12_many_55 ki_1 ?_
    refine aw_ald K dX12_many_56 ad_149 (by decide) kn_1 ?_
    exact aw_iret dX12_many_57
  refine aw_ite (fun h_3 => ?_) (fun h_3 => ?_)
  · refine aw_tabIn K 58 (2) dX12_many_1 (ti_of h_3 kt_2) (by decide) (by decide) rfl (by decide) ?_
    refine aw_aload_n K 0 dX12_many_58 rfl ?_
    refine aw_getR K (c' := 149) dX12_many_59 lk_X12_7_12 fd_148_0 ?_
    refine aw_iconst K dX12_many_62 ki_4 ?_
    refine aw_ald K dX12_many_63 ad_149 (by decide) kn_4 ?_
    exact aw_iret dX12_many_64
  refine aw_ite (fun h_4 => ?_) (fun h_4 => ?_)
  · refine aw_tabIn K 65 (3) dX12_many_1 (ti_of h_4 kt_3) (by decide) (by decide) rfl (by decide) ?_
    refine aw_aload_n K 0 dX12_many_65 rfl ?_
    refine aw_getR K (c' := 149) dX12_many_66 lk_X12_7_12 fd_148_0 ?_
    refine aw_iconst K dX12_many_69 ki_3 ?_
    refine aw_ald K dX12_many_70 ad_149 (by decide) kn_3 ?_
    exact aw_iret dX12_many_71
  refine aw_ite (fun h_5 => ?_) (fun h_5 => ?_)
  · refine aw_tabIn K 72 (4) dX12_many_1 (ti_of h_5 kt_4) (by decide) (by decide) rfl (by decide) ?_
    refine aw_aload_n K 0 dX12_many_72 rfl ?_
    refine aw_getI K dX12_many_73 lk_X12_286_12 fd_148_24 ?_
    exact aw_iret dX12_many_76
  refine aw_ite (fun h_6 => ?_) (fun h_6 => ?_)
  · refine aw_tabIn K 77 (5) dX12_many_1 (ti_of h_6 kt_5) (by decide) (by decide) rfl (by decide) ?_
    refine aw_aload_n K 0 dX12_many_77 rfl ?_
    refine aw_getI K dX12_many_78 lk_X12_294_12 fd_148_26 ?_
    exact aw_iret dX12_many_81
  refine aw_ite (fun h_7 => ?_) (fun h_7 => ?_)
  · refine aw_tabIn K 82 (6) dX12_many_1 (ti_of h_7 kt_6) (by decide) (by decide) rfl (by decide) ?_
    refine aw_aload_n K 0 dX12_many_82 rfl ?_
    refine aw_callVI K dX12_many_83 vw_X12_481_12 (c_f_M_traced l) hg (by decide) ob_148 rfl (Nat.le_of_ble_eq_true rfl) rfl rfl (fun r2 σ1 _ => ?_)
    exact aw_iret dX12_many_86
  refine aw_tabOut K 87 dX12_many_1 (by have := lv_neT h_1 kt_0; have := lv_neT h_2 kt_1; have := lv_neT h_3 kt_2; have := lv_neT h_4 kt_3; have := lv_neT h_5 kt_4; have := lv_neT h_6 kt_5; have := lv_neT h_7 kt_6; omega) (by decide) ?_
  refine aw_iconst K dX12_many_87 ki_m1 ?_
  exact aw_iret dX12_many_88
set_option maxRecDepth 100000 in
set_option maxHeartbeats 4000000 in
theorem a_f_M_keep_2 (l : Launch) {P : PT} {G : GT} (K : CX P G cX12_keep RX12 (0) 2) (hg : gl G = l) : ∀ (n : Nat) (x1 : Int32) (σ : SG), AW P G 2 (EI P G cX12_keep) (f_M_keep_2 n x1 σ) σ 2 [(0, rf P 148), (1, .int x1)] [] := by
  intro n
  induction n with
  | zero =>
    intro x1 σ
    rw [f_M_keep_2]
    exact aw_none
  | succ n ih =>
    intro x1 σ
    rw [f_M_keep_2]
    refine aw_iload_n K 1 dX12_keep_2 rfl ?_
    refine aw_sipush K dX12_keep_3 ks_340 ?_
    refine aw_icmp_ge K 27 dX12_keep_6 (by decide) (fun h_1 => ?_) (fun h_1 => ?_)
    · refine aw_aload_n K 0 dX12_keep_27 rfl ?_
      refine aw_iconst K dX12_keep_28 ki_1 ?_
      refine aw_putZ K dX12_keep_29 lp_X12_484_12 fd_148_3 (by decide) (fun σ1 => ?_)
      refine aw_iconst K dX12_keep_32 ki_1 ?_
      exact aw_iret dX12_keep_33
    · refine aw_aload_n K 0 dX12_keep_9 rfl ?_
      refine aw_getR K (c' := 150) dX12_keep_10 lk_X12_13_12 fd_148_1 ?_
      refine aw_iload_n K 1 dX12_keep_13 rfl ?_
      refine aw_aload_n K 0 dX12_keep_14 rfl ?_
      refine aw_getR K (c' := 149) dX12_keep_15 lk_X12_7_12 fd_148_0 ?_
      refine aw_iload_n K 1 dX12_keep_18 rfl ?_
      refine aw_gd (fun h_2 => ?_)
      refine aw_ald K dX12_keep_19 ad_149 h_2 rfl ?_
      refine aw_gd (fun h_3 => ?_)
      refine aw_ast K dX12_keep_20 ad_150 h_3 rfl (fun σ2 => ?_)
      refine aw_iinc K (lv' := fun y3 => [(1, .int y3), (0, rf P 148)]) 1 dX12_keep_21 rfl ki_1 (Nat.le_of_ble_eq_true rfl) (fun _ => rfl) (fun y3 => ?_)
      refine aw_goto K 2 dX12_keep_24 (by decide) ?_
      refine aw_lv [1, 0] rfl ?_
      exact ih _ _
set_option maxRecDepth 100000 in
set_option maxHeartbeats 4000000 in
theorem c_f_M_keep (l : Launch) : CTI l (0) yX12_keep cX12_keep 2 ((some .int)) (fun P => [rf P 148]) (fun σ => f_M_keep σ) := by
  refine met_I rfl rfl rfl (fun P => Nat.le_of_ble_eq_true rfl) (fun P G K hg σ => ?_)
  change AW P G 2 (EI P G cX12_keep) (f_M_keep σ) σ 0 [(0, rf P 148)] []
  rw [f_M_keep]
  refine aw_iconst K dX12_keep_0 ki_0 ?_
  refine aw_istore_n K (i := 1) (lv' := [(1, .int (0 : Int32)), (0, rf P 148)]) dX12_keep_1 rfl (Nat.le_of_ble_eq_true rfl) rfl ?_
  refine aw_lv [1, 0] rfl ?_
  exact (a_f_M_keep_2 l K hg FU) _ _
set_option maxRecDepth 100000 in
set_option maxHeartbeats 4000000 in
theorem a_f_M_again_12 (l : Launch) {P : PT} {G : GT} (K : CX P G cX12_again RX12 (0) 2) (hg : gl G = l) : ∀ (n : Nat) (x1 : Int32) (σ : SG), AW P G 2 (EI P G cX12_again) (f_M_again_12 n x1 σ) σ 12 [(0, rf P 148), (1, .int x1)] [] := by
  intro n
  induction n with
  | zero =>
    intro x1 σ
    rw [f_M_again_12]
    exact aw_none
  | succ n ih =>
    intro x1 σ
    rw [f_M_again_12]
    refine aw_iload_n K 1 dX12_again_12 rfl ?_
    refine aw_sipush K dX12_again_13 ks_340 ?_
    refine aw_icmp_ge K 37 dX12_again_16 (by decide) (fun h_1 => ?_) (fun h_1 => ?_)
    · refine aw_aload_n K 0 dX12_again_37 rfl ?_
      refine aw_getR K (c' := 149) dX12_again_38 lk_X12_7_12 fd_148_0 ?_
      refine aw_iconst K dX12_again_41 ki_0 ?_
      refine aw_ald K dX12_again_42 ad_149 (by decide) kn_0 ?_
      exact aw_iret dX12_again_43
    · refine aw_aload_n K 0 dX12_again_19 rfl ?_
      refine aw_getR K (c' := 149) dX12_again_20 lk_X12_7_12 fd_148_0 ?_
      refine aw_iload_n K 1 dX12_again_23 rfl ?_
      refine aw_aload_n K 0 dX12_again_24 rfl ?_
      refine aw_getR K (c' := 150) dX12_again_25 lk_X12_13_12 fd_148_1 ?_
      refine aw_iload_n K 1 dX12_again_28 rfl ?_
      refine aw_gd (fun h_2 => ?_)
      refine aw_ald K dX12_again_29 ad_150 h_2 rfl ?_
      refine aw_gd (fun h_3 => ?_)
      refine aw_ast K dX12_again_30 ad_149 h_3 rfl (fun σ1 => ?_)
      refine aw_iinc K (lv' := fun y2 => [(1, .int y2), (0, rf P 148)]) 1 dX12_again_31 rfl ki_1 (Nat.le_of_ble_eq_true rfl) (fun _ => rfl) (fun y2 => ?_)
      refine aw_goto K 12 dX12_again_34 (by decide) ?_
      refine aw_lv [1, 0] rfl ?_
      exact ih _ _
set_option maxRecDepth 100000 in
set_option maxHeartbeats 4000000 in
theorem c_f_M_again (l : Launch) : CTI l (0) yX12_again cX12_again 2 ((some .int)) (fun P => [rf P 148]) (fun σ => f_M_again σ) := by
  refine met_I rfl rfl rfl (fun P => Nat.le_of_ble_eq_true rfl) (fun P G K hg σ => ?_)
  change AW P G 2 (EI P G cX12_again) (f_M_again σ) σ 0 [(0, rf P 148)] []
  rw [f_M_again]
  refine aw_aload_n K 0 dX12_again_0 rfl ?_
  refine aw_getZ K dX12_again_1 lk_X12_484_12 fd_148_3 ?_
  refine aw_if_ne K 10 dX12_again_4 (by decide) (fun h_1 => ?_) (fun h_1 => ?_)
  · refine aw_iconst K dX12_again_10 ki_0 ?_
    refine aw_istore_n K (i := 1) (lv' := [(1, .int (0 : Int32)), (0, rf P 148)]) dX12_again_11 rfl (Nat.le_of_ble_eq_true rfl) rfl ?_
    refine aw_lv [1, 0] rfl ?_
    exact (a_f_M_again_12 l K hg FU) _ _
  · refine aw_bipush K dX12_again_7 kb_m3 ?_
    exact aw_iret dX12_again_9
