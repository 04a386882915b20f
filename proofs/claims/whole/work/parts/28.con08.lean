set_option maxRecDepth 100000 in
set_option maxHeartbeats 4000000 in
theorem a_f_M_feed_32 (l : Launch) {P : PT} {G : GT} (K : CX P G cX12_feed RX12 (1) 5) (hg : gl G = l) : ∀ (n : Nat) (x1 : Int64) (x3 : Int32) (x4 : Int32) (σ : SG), AW P G 5 (EI P G cX12_feed) (f_M_feed_32 n x1 x3 x4 σ) σ 32 [(0, rf P 148), (1, .long x1), (3, .int x3), (4, .int x4)] [] := by
  intro n
  induction n with
  | zero =>
    intro x1 x3 x4 σ
    rw [f_M_feed_32]
    exact aw_none
  | succ n ih =>
    intro x1 x3 x4 σ
    rw [f_M_feed_32]
    refine aw_iload K 3 dX12_feed_32 rfl ?_
    refine aw_iload_n K 2 dX12_feed_34 rfl ?_
    refine aw_icmp_ge K 75 dX12_feed_35 (by decide) (fun h_1 => ?_) (fun h_1 => ?_)
    · refine aw_aload_n K 0 dX12_feed_75 rfl ?_
      refine aw_getI K dX12_feed_76 lk_X12_294_12 fd_148_26 ?_
      exact aw_iret dX12_feed_79
    · refine aw_aload_n K 0 dX12_feed_38 rfl ?_
      refine aw_getR K (c' := 159) dX12_feed_39 lk_X12_44_12 fd_148_25 ?_
      refine aw_aload_n K 0 dX12_feed_42 rfl ?_
      refine aw_getI K dX12_feed_43 lk_X12_294_12 fd_148_26 ?_
      refine aw_lload_n K 1 dX12_feed_46 rfl ?_
      refine aw_bipush K dX12_feed_47 kb_8 ?_
      refine aw_iload K 3 dX12_feed_49 rfl ?_
      refine aw_imul K dX12_feed_51 ?_
      refine aw_lshr K dX12_feed_52 ?_
      refine aw_ldc2 K (x := (255 : Int64)) dX12_feed_53 (in_r18 _ (List.mem_of_getElem? (i := 15) rfl)) ?_
      refine aw_land K dX12_feed_56 ?_
      refine aw_l2i K dX12_feed_57 ?_
      refine aw_gd (fun h_2 => ?_)
      refine aw_ast K dX12_feed_58 ad_159 h_2 rfl (fun σ1 => ?_)
      refine aw_aload_n K 0 dX12_feed_59 rfl ?_
      refine aw_dup K dX12_feed_60 rfl ?_
      refine aw_getI K dX12_feed_61 lk_X12_294_12 fd_148_26 ?_
      refine aw_iconst K dX12_feed_64 ki_1 ?_
      refine aw_iadd K dX12_feed_65 ?_
      refine aw_putI K dX12_feed_66 lp_X12_294_12 fd_148_26 (fun σ2 => ?_)
      refine aw_iinc K (lv' := fun y3 => [(4, .int y3), (0, rf P 148), (1, .long x1), (3, .int x3)]) 3 dX12_feed_69 rfl ki_1 (Nat.le_of_ble_eq_true rfl) (fun _ => rfl) (fun y3 => ?_)
      refine aw_goto K 32 dX12_feed_72 (by decide) ?_
      refine aw_lv [1, 2, 3, 0] rfl ?_
      exact ih _ _ _ _
set_option maxRecDepth 100000 in
set_option maxHeartbeats 4000000 in
theorem c_f_M_feed (l : Launch) (x1 : Int64) (x3 : Int32) : CTI l (1) yX12_feed cX12_feed 5 ((some .int)) (fun P => [rf P 148, .long x1, .int x3]) (fun σ => f_M_feed x1 x3 σ) := by
  refine met_I rfl rfl rfl (fun P => Nat.le_of_ble_eq_true rfl) (fun P G K hg σ => ?_)
  change AW P G 5 (EI P G cX12_feed) (f_M_feed x1 x3 σ) σ 0 [(0, rf P 148), (1, .long x1), (3, .int x3)] []
  rw [f_M_feed]
  refine aw_iload_n K 2 dX12_feed_0 rfl ?_
  refine aw_i2l K dX12_feed_1 ?_
  refine aw_lconst K dX12_feed_2 kl_1 ?_
  refine aw_ldc2 K (x := (8 : Int64)) dX12_feed_3 (in_r18 _ (List.mem_of_getElem? (i := 13) rfl)) ?_
  refine aw_callSI K dX12_feed_6 vw_X12_68 (c_f_M_in l _ _ _) hg (by decide) rfl (Nat.le_of_ble_eq_true rfl) rfl rfl (fun r2 σ1 _ => ?_)
  refine aw_if_ne K 14 dX12_feed_9 (by decide) (fun h_1 => ?_) (fun h_1 => ?_)
  · refine aw_aload_n K 0 dX12_feed_14 rfl ?_
    refine aw_getI K dX12_feed_15 lk_X12_294_12 fd_148_26 ?_
    refine aw_iload_n K 2 dX12_feed_18 rfl ?_
    refine aw_iadd K dX12_feed_19 ?_
    refine aw_sipush K dX12_feed_20 ks_200 ?_
    refine aw_icmp_le K 29 dX12_feed_23 (by decide) (fun h_2 => ?_) (fun h_2 => ?_)
    · refine aw_iconst K dX12_feed_29 ki_0 ?_
      refine aw_istore K (i := 4) (lv' := [(4, .int (0 : Int32)), (0, rf P 148), (1, .long x1), (3, .int x3)]) dX12_feed_30 (Nat.le_of_ble_eq_true rfl) rfl ?_
      refine aw_lv [1, 2, 3, 0] rfl ?_
      exact (a_f_M_feed_32 l K hg FU) _ _ _ _
    · refine aw_bipush K dX12_feed_26 kb_m2 ?_
      exact aw_iret dX12_feed_28
  · refine aw_iconst K dX12_feed_12 ki_m1 ?_
    exact aw_iret dX12_feed_13
set_option maxRecDepth 100000 in
set_option maxHeartbeats 4000000 in
theorem c_f_M_byteAt (l : Launch) (x1 : Int32) : CTI l (0) yX12_byteAt cX12_byteAt 2 ((some .int)) (fun P => [rf P 148, .int x1]) (fun σ => f_M_byteAt x1 σ) := by
  refine met_I rfl rfl rfl (fun P => Nat.le_of_ble_eq_true rfl) (fun P G K hg σ => ?_)
  change AW P G 2 (EI P G cX12_byteAt) (f_M_byteAt x1 σ) σ 0 [(0, rf P 148), (1, .int x1)] []
  rw [f_M_byteAt]
  refine aw_iload_n K 1 dX12_byteAt_0 rfl ?_
  refine aw_aload_n K 0 dX12_byteAt_1 rfl ?_
  refine aw_getI K dX12_byteAt_2 lk_X12_294_12 fd_148_26 ?_
  refine aw_icmp_ge K 17 dX12_byteAt_5 (by decide) (fun h_1 => ?_) (fun h_1 => ?_)
  · refine aw_iconst K dX12_byteAt_17 ki_m1 ?_
    exact aw_iret dX12_byteAt_18
  · refine aw_aload_n K 0 dX12_byteAt_8 rfl ?_
    refine aw_getR K (c' := 159) dX12_byteAt_9 lk_X12_44_12 fd_148_25 ?_
    refine aw_iload_n K 1 dX12_byteAt_12 rfl ?_
    refine aw_gd (fun h_2 => ?_)
    refine aw_ald K dX12_byteAt_13 ad_159 h_2 rfl ?_
    refine aw_goto K 18 dX12_byteAt_14 (by decide) ?_
    exact aw_iret dX12_byteAt_18
set_option maxRecDepth 100000 in
set_option maxHeartbeats 4000000 in
theorem c_f_M_isDigit (l : Launch) (x0 : Int32) : CTI l (1) yX12_isDigit cX12_isDigit 1 ((some .boolean)) (fun P => [.int x0]) (fun σ => f_M_isDigit x0 σ) := by
  refine met_Z rfl rfl rfl (fun P => Nat.le_of_ble_eq_true rfl) (fun P G K hg σ => ?_)
  change AW P G 1 (EZ P G cX12_isDigit) (f_M_isDigit x0 σ) σ 0 [(0, .int x0)] []
  rw [f_M_isDigit]
  refine aw_iload_n K 0 dX12_isDigit_0 rfl ?_
  refine aw_i2l K dX12_isDigit_1 ?_
  refine aw_ldc2 K (x := (48 : Int64)) dX12_isDigit_2 (in_r25 _ (List.mem_of_getElem? (i := 12) rfl)) ?_
  refine aw_ldc2 K (x := (57 : Int64)) dX12_isDigit_5 (in_r25 _ (List.mem_of_getElem? (i := 13) rfl)) ?_
  refine aw_callSI K dX12_isDigit_8 vw_X12_68 (c_f_M_in l _ _ _) hg (by decide) rfl (Nat.le_of_ble_eq_true rfl) rfl rfl (fun r2 σ1 _ => ?_)
  refine aw_gd (fun h_1 => ?_)
  exact aw_zret dX12_isDigit_11 h_1
set_option maxRecDepth 100000 in
set_option maxHeartbeats 4000000 in
theorem c_f_M_isLetter (l : Launch) (x0 : Int32) : CTI l (1) yX12_isLetter cX12_isLetter 1 ((some .boolean)) (fun P => [.int x0]) (fun σ => f_M_isLetter x0 σ) := by
  refine met_Z rfl rfl rfl (fun P => Nat.le_of_ble_eq_true rfl) (fun P G K hg σ => ?_)
  change AW P G 1 (EZ P G cX12_isLetter) (f_M_isLetter x0 σ) σ 0 [(0, .int x0)] []
  rw [f_M_isLetter]
  refine aw_iload_n K 0 dX12_isLetter_0 rfl ?_
  refine aw_i2l K dX12_isLetter_1 ?_
  refine aw_ldc2 K (x := (97 : Int64)) dX12_isLetter_2 (in_r25 _ (List.mem_of_getElem? (i := 7) rfl)) ?_
  refine aw_ldc2 K (x := (122 : Int64)) dX12_isLetter_5 (in_r25 _ (List.mem_of_getElem? (i := 8) rfl)) ?_
  refine aw_callSI K dX12_isLetter_8 vw_X12_68 (c_f_M_in l _ _ _) hg (by decide) rfl (Nat.le_of_ble_eq_true rfl) rfl rfl (fun r2 σ1 _ => ?_)
  refine aw_gd (fun h_1 => ?_)
  exact aw_zret dX12_isLetter_11 h_1
set_option maxRecDepth 100000 in
set_option maxHeartbeats 4000000 in
theorem a_f_M_token_104 (l : Launch) {P : PT} {G : GT} (K : CX P G cX12_token RX12 (2) 3) (hg : gl G = l) {K86 : Int32 → Int32 → SG → Option (Unit × SG)} (hK86 : ∀ (x1 : Int32) (x2 : Int32) (σ : SG), AW P G 3 (EV P G cX12_token) (K86 x1 x2 σ) σ 86 [(0, rf P 148), (1, .int x1), (2, .int x2)] []) : ∀ (x1 : Int32) (x2 : Int32) (σ : SG), AW P G 3 (EV P G cX12_token) (f_M_token_104 K86 x1 x2 σ) σ 104 [(0, rf P 148), (1, .int x1), (2, .int x2)] [] := by
  intro x1 x2 σ
  rw [f_M_token_104]
  refine aw_iload_n K 2 dX12_token_104 rfl ?_
  refine aw_if_eq K 135 dX12_token_105 (by decide) (fun h_1 => ?_) (fun h_1 => ?_)
  · exact aw_vret dX12_token_135
  · refine aw_aload_n K 0 dX12_token_108 rfl ?_
    refine aw_aload_n K 0 dX12_token_109 rfl ?_
    refine aw_getI K dX12_token_110 lk_X12_307_12 fd_148_28 ?_
    refine aw_callVI K dX12_token_113 vw_X12_313_12 (c_f_M_byteAt l _) hg (by decide) ob_148 rfl (Nat.le_of_ble_eq_true rfl) rfl rfl (fun r2 σ1 _ => ?_)
    refine aw_callSI K dX12_token_116 vw_X12_319 (c_f_M_isDigit l _) hg (by decide) rfl (Nat.le_of_ble_eq_true rfl) rfl rfl (fun r4 σ3 _ => ?_)
    refine aw_if_eq K 135 dX12_token_119 (by decide) (fun h_2 => ?_) (fun h_2 => ?_)
    · exact aw_vret dX12_token_135
    · refine aw_aload_n K 0 dX12_token_122 rfl ?_
      refine aw_dup K dX12_token_123 rfl ?_
      refine aw_getI K dX12_token_124 lk_X12_307_12 fd_148_28 ?_
      refine aw_iconst K dX12_token_127 ki_1 ?_
      refine aw_iadd K dX12_token_128 ?_
      refine aw_putI K dX12_token_129 lp_X12_307_12 fd_148_28 (fun σ5 => ?_)
      refine aw_goto K 86 dX12_token_132 (by decide) ?_
      refine aw_lv [0, 1, 2] rfl ?_
      exact hK86 _ _ _
set_option maxRecDepth 100000 in
set_option maxHeartbeats 4000000 in
theorem a_f_M_token_86 (l : Launch) {P : PT} {G : GT} (K : CX P G cX12_token RX12 (2) 3) (hg : gl G = l) : ∀ (n : Nat) (x1 : Int32) (x2 : Int32) (σ : SG), AW P G 3 (EV P G cX12_token) (f_M_token_86 n x1 x2 σ) σ 86 [(0, rf P 148), (1, .int x1), (2, .int x2)] [] := by
  intro n
  induction n with
  | zero =>
    intro x1 x2 σ
    rw [f_M_token_86]
    exact aw_none
  | succ n ih =>
    intro x1 x2 σ
    rw [f_M_token_86]
    refine aw_iload_n K 1 dX12_token_86 rfl ?_
    refine aw_if_eq K 104 dX12_token_87 (by decide) (fun h_1 => ?_) (fun h_1 => ?_)
    · refine aw_lv [0, 1, 2] rfl ?_
      exact (a_f_M_token_104 l K hg ih) _ _ _
    · refine aw_aload_n K 0 dX12_token_90 rfl ?_
      refine aw_aload_n K 0 dX12_token_91 rfl ?_
      refine aw_getI K dX12_token_92 lk_X12_307_12 fd_148_28 ?_
      refine aw_callVI K dX12_token_95 vw_X12_313_12 (c_f_M_byteAt l _) hg (by decide) ob_148 rfl (Nat.le_of_ble_eq_true rfl) rfl rfl (fun r2 σ1 _ => ?_)
      refine aw_callSI K dX12_token_98 vw_X12_316 (c_f_M_isLetter l _) hg (by decide) rfl (Nat.le_of_ble_eq_true rfl) rfl rfl (fun r4 σ3 _ => ?_)
      refine aw_if_ne K 122 dX12_token_101 (by decide) (fun h_2 => ?_) (fun h_2 => ?_)
      · refine aw_aload_n K 0 dX12_token_122 rfl ?_
        refine aw_dup K dX12_token_123 rfl ?_
        refine aw_getI K dX12_token_124 lk_X12_307_12 fd_148_28 ?_
        refine aw_iconst K dX12_token_127 ki_1 ?_
        refine aw_iadd K dX12_token_128 ?_
        refine aw_putI K dX12_token_129 lp_X12_307_12 fd_148_28 (fun σ5 => ?_)
        refine aw_goto K 86 dX12_token_132 (by decide) ?_
        refine aw_lv [0, 1, 2] rfl ?_
        exact ih _ _ _
      · refine aw_lv [0, 1, 2] rfl ?_
        exact (a_f_M_token_104 l K hg ih) _ _ _
set_option maxRecDepth 100000 in
set_option maxHeartbeats 4000000 in
theorem a_f_M_token_8 (l : Launch) {P : PT} {G : GT} (K : CX P G cX12_token RX12 (2) 3) (hg : gl G = l) : ∀ (n : Nat) (σ : SG), AW P G 3 (EV P G cX12_token) (f_M_token_8 n σ) σ 8 [(0, rf P 148)] [] := by
  intro n
  induction n with
  | zero =>
    intro σ
    rw [f_M_token_8]
    exact aw_none
  | succ n ih =>
    intro σ
    rw [f_M_token_8]
    refine aw_aload_n K 0 dX12_token_8 rfl ?_
    refine aw_aload_n K 0 dX12_token_9 rfl ?_
    refine aw_getI K dX12_token_10 lk_X12_310_12 fd_148_27 ?_
    refine aw_callVI K dX12_token_13 vw_X12_313_12 (c_f_M_byteAt l _) hg (by decide) ob_148 rfl (Nat.le_of_ble_eq_true rfl) rfl rfl (fun r2 σ1 _ => ?_)
    refine aw_bipush K dX12_token_16 kb_32 ?_
    refine aw_icmp_ne K 34 dX12_token_18 (by decide) (fun h_1 => ?_) (fun h_1 => ?_)
    · refine aw_aload_n K 0 dX12_token_34 rfl ?_
      refine aw_aload_n K 0 dX12_token_35 rfl ?_
      refine aw_getI K dX12_token_36 lk_X12_310_12 fd_148_27 ?_
      refine aw_callVI K dX12_token_39 vw_X12_313_12 (c_f_M_byteAt l _) hg (by decide) ob_148 rfl (Nat.le_of_ble_eq_true rfl) rfl rfl (fun r4 σ3 _ => ?_)
      refine aw_callSI K dX12_token_42 vw_X12_316 (c_f_M_isLetter l _) hg (by decide) rfl (Nat.le_of_ble_eq_true rfl) rfl rfl (fun r6 σ5 _ => ?_)
      refine aw_istore_n K (i := 1) (lv' := [(1, .int r6), (0, rf P 148)]) dX12_token_45 rfl (Nat.le_of_ble_eq_true rfl) rfl ?_
      refine aw_aload_n K 1 dX12_token_46 rfl ?_
      refine aw_aload_n K 1 dX12_token_47 rfl ?_
      refine aw_getI K dX12_token_48 lk_X12_310_12 fd_148_27 ?_
      refine aw_callVI K dX12_token_51 vw_X12_313_12 (c_f_M_byteAt l _) hg (by decide) ob_148 rfl (Nat.le_of_ble_eq_true rfl) rfl rfl (fun r8 σ7 _ => ?_)
      refine aw_callSI K dX12_token_54 vw_X12_319 (c_f_M_isDigit l _) hg (by decide) rfl (Nat.le_of_ble_eq_true rfl) rfl rfl (fun r10 σ9 _ => ?_)
      refine aw_istore_n K (i := 2) (lv' := [(2, .int r10), (1, .int r6), (0, rf P 148)]) dX12_token_57 rfl (Nat.le_of_ble_eq_true rfl) rfl ?_
      refine aw_aload_n K 2 dX12_token_58 rfl ?_
      refine aw_aload_n K 2 dX12_token_59 rfl ?_
      refine aw_getI K dX12_token_60 lk_X12_310_12 fd_148_27 ?_
      refine aw_aload_n K 2 dX12_token_63 rfl ?_
      refine aw_getI K dX12_token_64 lk_X12_294_12 fd_148_26 ?_
      refine aw_icmp_ge K 79 dX12_token_67 (by decide) (fun h_2 => ?_) (fun h_2 => ?_)
      · refine aw_aload_n K 2 dX12_token_79 rfl ?_
        refine aw_getI K dX12_token_80 lk_X12_310_12 fd_148_27 ?_
        refine aw_putI K dX12_token_83 lp_X12_307_12 fd_148_28 (fun σ11 => ?_)
        refine aw_lv [2, 1, 0] rfl ?_
        exact (a_f_M_token_86 l K hg FU) _ _ _
      · refine aw_aload_n K 2 dX12_token_70 rfl ?_
        refine aw_getI K dX12_token_71 lk_X12_310_12 fd_148_27 ?_
        refine aw_iconst K dX12_token_74 ki_1 ?_
        refine aw_iadd K dX12_token_75 ?_
        refine aw_goto K 83 dX12_token_76 (by decide) ?_
        refine aw_putI K dX12_token_83 lp_X12_307_12 fd_148_28 (fun σ12 => ?_)
        refine aw_lv [2, 1, 0] rfl ?_
        exact (a_f_M_token_86 l K hg FU) _ _ _
    · refine aw_aload_n K 0 dX12_token_21 rfl ?_
      refine aw_dup K dX12_token_22 rfl ?_
      refine aw_getI K dX12_token_23 lk_X12_310_12 fd_148_27 ?_
      refine aw_iconst K dX12_token_26 ki_1 ?_
      refine aw_iadd K dX12_token_27 ?_
      refine aw_putI K dX12_token_28 lp_X12_310_12 fd_148_27 (fun σ13 => ?_)
      refine aw_goto K 8 dX12_token_31 (by decide) ?_
      refine aw_lv [0] rfl ?_
      exact ih _
set_option maxRecDepth 100000 in
set_option maxHeartbeats 4000000 in
theorem c_f_M_token (l : Launch) : CTV l (2) yX12_token cX12_token 3 (none) (fun P => [rf P 148]) (fun σ => f_M_token σ) := by
  refine met_V rfl rfl rfl (fun P => Nat.le_of_ble_eq_true rfl) (fun P G K hg σ => ?_)
  change AW P G 3 (EV P G cX12_token) (f_M_token σ) σ 0 [(0, rf P 148)] []
  rw [f_M_token]
  refine aw_aload_n K 0 dX12_token_0 rfl ?_
  refine aw_aload_n K 0 dX12_token_1 rfl ?_
  refine aw_getI K dX12_token_2 lk_X12_307_12 fd_148_28 ?_
  refine aw_putI K dX12_token_5 lp_X12_310_12 fd_148_27 (fun σ1 => ?_)
  refine aw_lv [0] rfl ?_
  exact (a_f_M_token_8 l K hg FU) _
set_option maxRecDepth 100000 in
set_option maxHeartbeats 4000000 in
theorem c_f_M_wants (l : Launch) (x1 : Int32) : CTV l (3) yX12_wants cX12_wants 2 (none) (fun P => [rf P 148, .int x1]) (fun σ => f_M_wants x1 σ) := by
  refine met_V rfl rfl rfl (fun P => Nat.le_of_ble_eq_true rfl) (fun P G K hg σ => ?_)
  change AW P G 2 (EV P G cX12_wants) (f_M_wants x1 σ) σ 0 [(0, rf P 148), (1, .int x1)] []
  rw [f_M_wants]
  refine aw_aload_n K 0 dX12_wants_0 rfl ?_
  refine aw_aload_n K 0 dX12_wants_1 rfl ?_
  refine aw_getZ K dX12_wants_2 lk_X12_322_12 fd_148_32 ?_
  refine aw_if_ne K 12 dX12_wants_5 (by decide) (fun h_1 => ?_) (fun h_1 => ?_)
  · refine aw_iconst K dX12_wants_12 ki_1 ?_
    refine aw_goto K 17 dX12_wants_13 (by decide) ?_
    refine aw_putZ K dX12_wants_17 lp_X12_322_12 fd_148_32 (by decide) (fun σ1 => ?_)
    refine aw_aload_n K 0 dX12_wants_20 rfl ?_
    refine aw_getZ K dX12_wants_21 lk_X12_322_12 fd_148_32 ?_
    refine aw_if_ne K 31 dX12_wants_24 (by decide) (fun h_2 => ?_) (fun h_2 => ?_)
    · exact aw_vret dX12_wants_31
    · refine aw_aload_n K 0 dX12_wants_27 rfl ?_
      refine aw_callVV K dX12_wants_28 vw_X12_326_12 (c_f_M_token l) hg (by decide) ob_148 rfl (Nat.le_of_ble_eq_true rfl) rfl rfl (fun _ σ2 _ => ?_)
      exact aw_vret dX12_wants_31
  · refine aw_iload_n K 1 dX12_wants_8 rfl ?_
    refine aw_if_ne K 16 dX12_wants_9 (by decide) (fun h_3 => ?_) (fun h_3 => ?_)
    · refine aw_iconst K dX12_wants_16 ki_0 ?_
      refine aw_putZ K dX12_wants_17 lp_X12_322_12 fd_148_32 (by decide) (fun σ3 => ?_)
      refine aw_aload_n K 0 dX12_wants_20 rfl ?_
      refine aw_getZ K dX12_wants_21 lk_X12_322_12 fd_148_32 ?_
      refine aw_if_ne K 31 dX12_wants_24 (by decide) (fun h_4 => ?_) (fun h_4 => ?_)
      · exact aw_vret dX12_wants_31
      · refine aw_aload_n K 0 dX12_wants_27 rfl ?_
        refine aw_callVV K dX12_wants_28 vw_X12_326_12 (c_f_M_token l) hg (by decide) ob_148 rfl (Nat.le_of_ble_eq_true rfl) rfl rfl (fun _ σ4 _ => ?_)
        exact aw_vret dX12_wants_31
    · refine aw_iconst K dX12_wants_12 ki_1 ?_
      refine aw_goto K 17 dX12_wants_13 (by decide) ?_
      refine aw_putZ K dX12_wants_17 lp_X12_322_12 fd_148_32 (by decide) (fun σ5 => ?_)
      refine aw_aload_n K 0 dX12_wants_20 rfl ?_
      refine aw_getZ K dX12_wants_21 lk_X12_322_12 fd_148_32 ?_
      refine aw_if_ne K 31 dX12_wants_24 (by decide) (fun h_5 => ?_) (fun h_5 => ?_)
      · exact aw_vret dX12_wants_31
      · refine aw_aload_n K 0 dX12_wants_27 rfl ?_
        refine aw_callVV K dX12_wants_28 vw_X12_326_12 (c_f_M_token l) hg (by decide) ob_148 rfl (Nat.le_of_ble_eq_true rfl) rfl rfl (fun _ σ6 _ => ?_)
        exact aw_vret dX12_wants_31
set_option maxRecDepth 100000 in
set_option maxHeartbeats 4000000 in
theorem a_f_M_number_82 (l : Launch) {P : PT} {G : GT} (K : CX P G cX12_number RX12 (4) 4) (hg : gl G = l) : ∀ (x1 : Int32) (x2 : Int32) (σ : SG), AW P G 4 (EV P G cX12_number) (f_M_number_82 x1 x2 σ) σ 82 [(0, rf P 148), (1, .int x1), (2, .int x2)] [] := by
  intro x1 x2 σ
  rw [f_M_number_82]
  refine aw_aload_n K 0 dX12_number_82 rfl ?_
  refine aw_iload_n K 2 dX12_number_83 rfl ?_
  refine aw_if_eq K 99 dX12_number_84 (by decide) (fun h_1 => ?_) (fun h_1 => ?_)
  · refine aw_iconst K dX12_number_99 ki_0 ?_
    refine aw_callVV K dX12_number_100 vw_X12_336_12 (c_f_M_wants l _) hg (by decide) ob_148 rfl (Nat.le_of_ble_eq_true rfl) rfl rfl (fun _ σ1 _ => ?_)
    exact aw_vret dX12_number_103
  · refine aw_aload_n K 0 dX12_number_87 rfl ?_
    refine aw_getI K dX12_number_88 lk_X12_333_12 fd_148_29 ?_
    refine aw_iload_n K 1 dX12_number_91 rfl ?_
    refine aw_icmp_gt K 99 dX12_number_92 (by decide) (fun h_2 => ?_) (fun h_2 => ?_)
    · refine aw_iconst K dX12_number_99 ki_0 ?_
      refine aw_callVV K dX12_number_100 vw_X12_336_12 (c_f_M_wants l _) hg (by decide) ob_148 rfl (Nat.le_of_ble_eq_true rfl) rfl rfl (fun _ σ2 _ => ?_)
      exact aw_vret dX12_number_103
    · refine aw_iconst K dX12_number_95 ki_1 ?_
      refine aw_goto K 100 dX12_number_96 (by decide) ?_
      refine aw_callVV K dX12_number_100 vw_X12_336_12 (c_f_M_wants l _) hg (by decide) ob_148 rfl (Nat.le_of_ble_eq_true rfl) rfl rfl (fun _ σ3 _ => ?_)
      exact aw_vret dX12_number_103
set_option maxRecDepth 100000 in
set_option maxHeartbeats 4000000 in
theorem a_f_M_number_43 (l : Launch) {P : PT} {G : GT} (K : CX P G cX12_number RX12 (4) 4) (hg : gl G = l) : ∀ (n : Nat) (x1 : Int32) (x2 : Int32) (x3 : Int32) (σ : SG), AW P G 4 (EV P G cX12_number) (f_M_number_43 n x1 x2 x3 σ) σ 43 [(0, rf P 148), (1, .int x1), (2, .int x2), (3, .int x3)] [] := by
  intro n
  induction n with
  | zero =>
    intro x1 x2 x3 σ
    rw [f_M_number_43]
    exact aw_none
  | succ n ih =>
    intro x1 x2 x3 σ
    rw [f_M_number_43]
    refine aw_iload_n K 3 dX12_number_43 rfl ?_
    refine aw_aload_n K 0 dX12_number_44 rfl ?_
    refine aw_getI K dX12_number_45 lk_X12_307_12 fd_148_28 ?_
    refine aw_icmp_ge K 82 dX12_number_48 (by decide) (fun h_1 => ?_) (fun h_1 => ?_)
    · refine aw_lv [0, 1, 2] rfl ?_
      exact (a_f_M_number_82 l K hg) _ _ _
    · refine aw_iload_n K 2 dX12_number_51 rfl ?_
      refine aw_if_eq K 82 dX12_number_52 (by decide) (fun h_2 => ?_) (fun h_2 => ?_)
      · refine aw_lv [0, 1, 2] rfl ?_
        exact (a_f_M_number_82 l K hg) _ _ _
      · refine aw_aload_n K 0 dX12_number_55 rfl ?_
        refine aw_bipush K dX12_number_56 kb_10 ?_
        refine aw_aload_n K 0 dX12_number_58 rfl ?_
        refine aw_getI K dX12_number_59 lk_X12_333_12 fd_148_29 ?_
        refine aw_imul K dX12_number_62 ?_
        refine aw_aload_n K 0 dX12_number_63 rfl ?_
        refine aw_getR K (c' := 159) dX12_number_64 lk_X12_44_12 fd_148_25 ?_
        refine aw_iload_n K 3 dX12_number_67 rfl ?_
        refine aw_gd (fun h_3 => ?_)
        refine aw_ald K dX12_number_68 ad_159 h_3 rfl ?_
        refine aw_iadd K dX12_number_69 ?_
        refine aw_bipush K dX12_number_70 kb_48 ?_
        refine aw_isub K dX12_number_72 ?_
        refine aw_putI K dX12_number_73 lp_X12_333_12 fd_148_29 (fun σ1 => ?_)
        refine aw_iinc K (lv' := fun y2 => [(3, .int y2), (0, rf P 148), (1, .int x1), (2, .int x2)]) 3 dX12_number_76 rfl ki_1 (Nat.le_of_ble_eq_true rfl) (fun _ => rfl) (fun y2 => ?_)
        refine aw_goto K 43 dX12_number_79 (by decide) ?_
        refine aw_lv [1, 2, 3, 0] rfl ?_
        exact ih _ _ _ _
set_option maxRecDepth 100000 in
set_option maxHeartbeats 4000000 in
theorem c_f_M_number (l : Launch) (x1 : Int32) : CTV l (4) yX12_number cX12_number 4 (none) (fun P => [rf P 148, .int x1]) (fun σ => f_M_number x1 σ) := by
  refine met_V rfl rfl rfl (fun P => Nat.le_of_ble_eq_true rfl) (fun P G K hg σ => ?_)
  change AW P G 4 (EV P G cX12_number) (f_M_number x1 σ) σ 0 [(0, rf P 148), (1, .int x1)] []
  rw [f_M_number]
  refine aw_aload_n K 0 dX12_number_0 rfl ?_
  refine aw_aload_n K 0 dX12_number_1 rfl ?_
  refine aw_getI K dX12_number_2 lk_X12_310_12 fd_148_27 ?_
  refine aw_callVI K dX12_number_5 vw_X12_313_12 (c_f_M_byteAt l _) hg (by decide) ob_148 rfl (Nat.le_of_ble_eq_true rfl) rfl rfl (fun r2 σ1 _ => ?_)
  refine aw_callSI K dX12_number_8 vw_X12_319 (c_f_M_isDigit l _) hg (by decide) rfl (Nat.le_of_ble_eq_true rfl) rfl rfl (fun r4 σ3 _ => ?_)
  refine aw_if_eq K 31 dX12_number_11 (by decide) (fun h_1 => ?_) (fun h_1 => ?_)
  · refine aw_iconst K dX12_number_31 ki_0 ?_
    refine aw_istore_n K (i := 2) (lv' := [(2, .int (0 : Int32)), (0, rf P 148), (1, .int x1)]) dX12_number_32 rfl (Nat.le_of_ble_eq_true rfl) rfl ?_
    refine aw_aload_n K 1 dX12_number_33 rfl ?_
    refine aw_iconst K dX12_number_34 ki_0 ?_
    refine aw_putI K dX12_number_35 lp_X12_333_12 fd_148_29 (fun σ5 => ?_)
    refine aw_aload_n K 1 dX12_number_38 rfl ?_
    refine aw_getI K dX12_number_39 lk_X12_310_12 fd_148_27 ?_
    refine aw_istoreX_n K (i := 3) (lv' := fun y6 => [(3, .int y6), (2, .int (0 : Int32)), (0, rf P 148), (1, .int x1)]) dX12_number_42 rfl (Nat.le_of_ble_eq_true rfl) (fun _ => rfl) (fun y6 => ?_)
    refine aw_lv [2, 3, 1, 0] rfl ?_
    exact (a_f_M_number_43 l K hg FU) _ _ _ _
  · refine aw_aload_n K 0 dX12_number_14 rfl ?_
    refine aw_getI K dX12_number_15 lk_X12_307_12 fd_148_28 ?_
    refine aw_aload_n K 0 dX12_number_18 rfl ?_
    refine aw_getI K dX12_number_19 lk_X12_310_12 fd_148_27 ?_
    refine aw_isub K dX12_number_22 ?_
    refine aw_iconst K dX12_number_23 ki_5 ?_
    refine aw_icmp_ge K 31 dX12_number_24 (by decide) (fun h_2 => ?_) (fun h_2 => ?_)
    · refine aw_iconst K dX12_number_31 ki_0 ?_
      refine aw_istore_n K (i := 2) (lv' := [(2, .int (0 : Int32)), (0, rf P 148), (1, .int x1)]) dX12_number_32 rfl (Nat.le_of_ble_eq_true rfl) rfl ?_
      refine aw_aload_n K 1 dX12_number_33 rfl ?_
      refine aw_iconst K dX12_number_34 ki_0 ?_
      refine aw_putI K dX12_number_35 lp_X12_333_12 fd_148_29 (fun σ7 => ?_)
      refine aw_aload_n K 1 dX12_number_38 rfl ?_
      refine aw_getI K dX12_number_39 lk_X12_310_12 fd_148_27 ?_
      refine aw_istoreX_n K (i := 3) (lv' := fun y8 => [(3, .int y8), (2, .int (0 : Int32)), (0, rf P 148), (1, .int x1)]) dX12_number_42 rfl (Nat.le_of_ble_eq_true rfl) (fun _ => rfl) (fun y8 => ?_)
      refine aw_lv [2, 3, 1, 0] rfl ?_
      exact (a_f_M_number_43 l K hg FU) _ _ _ _
    · refine aw_iconst K dX12_number_27 ki_1 ?_
      refine aw_goto K 32 dX12_number_28 (by decide) ?_
      refine aw_istore_n K (i := 2) (lv' := [(2, .int (1 : Int32)), (0, rf P 148), (1, .int x1)]) dX12_number_32 rfl (Nat.le_of_ble_eq_true rfl) rfl ?_
      refine aw_aload_n K 1 dX12_number_33 rfl ?_
      refine aw_iconst K dX12_number_34 ki_0 ?_
      refine aw_putI K dX12_number_35 lp_X12_333_12 fd_148_29 (fun σ9 => ?_)
      refine aw_aload_n K 1 dX12_number_38 rfl ?_
      refine aw_getI K dX12_number_39 lk_X12_310_12 fd_148_27 ?_
      refine aw_istoreX_n K (i := 3) (lv' := fun y10 => [(3, .int y10), (2, .int (1 : Int32)), (0, rf P 148), (1, .int x1)]) dX12_number_42 rfl (Nat.le_of_ble_eq_true rfl) (fun _ => rfl) (fun y10 => ?_)
      refine aw_lv [2, 3, 1, 0] rfl ?_
      exact (a_f_M_number_43 l K hg FU) _ _ _ _
set_option maxRecDepth 100000 in
set_option maxHeartbeats 4000000 in
theorem a_f_M_word_7 (l : Launch) {P : PT} {G : GT} (K : CX P G cX12_word RX12 (2) 4) (hg : gl G = l) : ∀ (n : Nat) (x1 : Int64) (x3 : Int32) (σ : SG), AW P G 4 (EL P G cX12_word) (f_M_word_7 n x1 x3 σ) σ 7 [(0, rf P 148), (1, .long x1), (3, .int x3)] [] := by
  intro n
  induction n with
  | zero =>
    intro x1 x3 σ
    rw [f_M_word_7]
    exact aw_none
  | succ n ih =>
    intro x1 x3 σ
    rw [f_M_word_7]
    refine aw_iload_n K 2 dX12_word_7 rfl ?_
    refine aw_aload_n K 0 dX12_word_8 rfl ?_
    refine aw_getI K dX12_word_9 lk_X12_307_12 fd_148_28 ?_
    refine aw_icmp_ge K 50 dX12_word_12 (by decide) (fun h_1 => ?_) (fun h_1 => ?_)
    · refine aw_aload_n K 0 dX12_word_50 rfl ?_
      refine aw_getZ K dX12_word_51 lk_X12_322_12 fd_148_32 ?_
      refine aw_if_ne K 71 dX12_word_54 (by decide) (fun h_2 => ?_) (fun h_2 => ?_)
      · refine aw_lconst K dX12_word_71 kl_0 ?_
        refine aw_goto K 76 dX12_word_72 (by decide) ?_
        exact aw_lret dX12_word_76
      · refine aw_aload_n K 0 dX12_word_57 rfl ?_
        refine aw_aload_n K 0 dX12_word_58 rfl ?_
        refine aw_getI K dX12_word_59 lk_X12_310_12 fd_148_27 ?_
        refine aw_callVI K dX12_word_62 vw_X12_313_12 (c_f_M_byteAt l _) hg (by decide) ob_148 rfl (Nat.le_of_ble_eq_true rfl) rfl rfl (fun r2 σ1 _ => ?_)
        refine aw_callSI K dX12_word_65 vw_X12_316 (c_f_M_isLetter l _) hg (by decide) rfl (Nat.le_of_ble_eq_true rfl) rfl rfl (fun r4 σ3 _ => ?_)
        refine aw_if_ne K 75 dX12_word_68 (by decide) (fun h_3 => ?_) (fun h_3 => ?_)
        · refine aw_lload_n K 1 dX12_word_75 rfl ?_
          exact aw_lret dX12_word_76
        · refine aw_lconst K dX12_word_71 kl_0 ?_
          refine aw_goto K 76 dX12_word_72 (by decide) ?_
          exact aw_lret dX12_word_76
    · refine aw_lload_n K 1 dX12_word_15 rfl ?_
      refine aw_ldc2 K (x := (36028797018963967 : Int64)) dX12_word_16 (in_r26 _ (List.mem_of_getElem? (i := 13) rfl)) ?_
      refine aw_lcmp K dX12_word_19 ?_
      refine aw_if_le K 27 dX12_word_20 (by decide) (fun h_4 => ?_) (fun h_4 => ?_)
      · refine aw_ldc2 K (x := (32 : Int64)) dX12_word_27 (in_r26 _ (List.mem_of_getElem? (i := 14) rfl)) ?_
        refine aw_lload_n K 1 dX12_word_30 rfl ?_
        refine aw_lmul K dX12_word_31 ?_
        refine aw_aload_n K 0 dX12_word_32 rfl ?_
        refine aw_getR K (c' := 159) dX12_word_33 lk_X12_44_12 fd_148_25 ?_
        refine aw_iload_n K 2 dX12_word_36 rfl ?_
        refine aw_gd (fun h_5 => ?_)
        refine aw_ald K dX12_word_37 ad_159 h_5 rfl ?_
        refine aw_bipush K dX12_word_38 kb_96 ?_
        refine aw_isub K dX12_word_40 ?_
        refine aw_i2l K dX12_word_41 ?_
        refine aw_ladd K dX12_word_42 ?_
        refine aw_lstoreX_n K (i := 1) (lv' := fun y5 => [(1, .long y5), (0, rf P 148), (3, .int x3)]) dX12_word_43 rfl (Nat.le_of_ble_eq_true rfl) (fun _ => rfl) (fun y5 => ?_)
        refine aw_iinc K (lv' := fun y6 => [(3, .int y6), (1, .long y5), (0, rf P 148)]) 2 dX12_word_44 rfl ki_1 (Nat.le_of_ble_eq_true rfl) (fun _ => rfl) (fun y6 => ?_)
        refine aw_goto K 7 dX12_word_47 (by decide) ?_
        refine aw_lv [2, 1, 0] rfl ?_
        exact ih _ _ _
      · refine aw_lload_n K 1 dX12_word_23 rfl ?_
        refine aw_goto K 43 dX12_word_24 (by decide) ?_
        refine aw_lstore_n K (i := 1) (lv' := [(1, .long x1), (0, rf P 148), (3, .int x3)]) dX12_word_43 rfl (Nat.le_of_ble_eq_true rfl) rfl ?_
        refine aw_iinc K (lv' := fun y7 => [(3, .int y7), (1, .long x1), (0, rf P 148)]) 2 dX12_word_44 rfl ki_1 (Nat.le_of_ble_eq_true rfl) (fun _ => rfl) (fun y7 => ?_)
        refine aw_goto K 7 dX12_word_47 (by decide) ?_
        refine aw_lv [2, 1, 0] rfl ?_
        exact ih _ _ _
set_option maxRecDepth 100000 in
set_option maxHeartbeats 4000000 in
theorem c_f_M_word (l : Launch) : CTL l (2) yX12_word cX12_word 4 ((some .long)) (fun P => [rf P 148]) (fun σ => f_M_word σ) := by
  refine met_L rfl rfl rfl (fun P => Nat.le_of_ble_eq_true rfl) (fun P G K hg σ => ?_)
  change AW P G 4 (EL P G cX12_word) (f_M_word σ) σ 0 [(0, rf P 148)] []
  rw [f_M_word]
  refine aw_lconst K dX12_word_0 kl_0 ?_
  refine aw_lstore_n K (i := 1) (lv' := [(1, .long (0 : Int64)), (0, rf P 148)]) dX12_word_1 rfl (Nat.le_of_ble_eq_true rfl) rfl ?_
  refine aw_aload_n K 1 dX12_word_2 rfl ?_
  refine aw_getI K dX12_word_3 lk_X12_310_12 fd_148_27 ?_
  refine aw_istoreX_n K (i := 3) (lv' := fun y1 => [(3, .int y1), (1, .long (0 : Int64)), (0, rf P 148)]) dX12_word_6 rfl (Nat.le_of_ble_eq_true rfl) (fun _ => rfl) (fun y1 => ?_)
  refine aw_lv [2, 1, 0] rfl ?_
  exact (a_f_M_word_7 l K hg FU) _ _ _
set_option maxRecDepth 100000 in
set_option maxHeartbeats 4000000 in
theorem c_f_M_kindHere (l : Launch) : CTI l (3) yX12_kindHere cX12_kindHere 3 ((some .int)) (fun P => [rf P 148]) (fun σ => f_M_kindHere σ) := by
  refine met_I rfl rfl rfl (fun P => Nat.le_of_ble_eq_true rfl) (fun P G K hg σ => ?_)
  change AW P G 3 (EI P G cX12_kindHere) (f_M_kindHere σ) σ 0 [(0, rf P 148)] []
  rw [f_M_kindHere]
  refine aw_aload_n K 0 dX12_kindHere_0 rfl ?_
  refine aw_callVL K dX12_kindHere_1 vw_X12_340_12 (c_f_M_word l) hg (by decide) ob_148 rfl (Nat.le_of_ble_eq_true rfl) rfl rfl (fun r2 σ1 _ => ?_)
  refine aw_lstore_n K (i := 1) (lv' := [(1, .long r2), (0, rf P 148)]) dX12_kindHere_4 rfl (Nat.le_of_ble_eq_true rfl) rfl ?_
  refine aw_lload_n K 0 dX12_kindHere_5 rfl ?_
  refine aw_ldc2 K (x := (542723566 : Int64)) dX12_kindHere_6 (in_r26 _ (List.mem_of_getElem? (i := 3) rfl)) ?_
  refine aw_lcmp K dX12_kindHere_9 ?_
  refine aw_if_ne K 17 dX12_kindHere_10 (by decide) (fun h_1 => ?_) (fun h_1 => ?_)
  · refine aw_lload_n K 0 dX12_kindHere_17 rfl ?_
    refine aw_ldc2 K (x := (427300 : Int64)) dX12_kindHere_18 (in_r26 _ (List.mem_of_getElem? (i := 4) rfl)) ?_
    refine aw_lcmp K dX12_kindHere_21 ?_
    refine aw_if_ne K 29 dX12_kindHere_22 (by decide) (fun h_2 => ?_) (fun h_2 => ?_)
    · refine aw_lload_n K 0 dX12_kindHere_29 rfl ?_
      refine aw_ldc2 K (x := (13946034 : Int64)) dX12_kindHere_30 (in_r26 _ (List.mem_of_getElem? (i := 5) rfl)) ?_
      refine aw_lcmp K dX12_kindHere_33 ?_
      refine aw_if_ne K 41 dX12_kindHere_34 (by decide) (fun h_3 => ?_) (fun h_3 => ?_)
      · refine aw_lload_n K 0 dX12_kindHere_41 rfl ?_
        refine aw_ldc2 K (x := (24416759 : Int64)) dX12_kindHere_42 (in_r26 _ (List.mem_of_getElem? (i := 6) rfl)) ?_
        refine aw_lcmp K dX12_kindHere_45 ?_
        refine aw_if_ne K 53 dX12_kindHere_46 (by decide) (fun h_4 => ?_) (fun h_4 => ?_)
        · refine aw_lload_n K 0 dX12_kindHere_53 rfl ?_
          refine aw_ldc2 K (x := (556054629 : Int64)) dX12_kindHere_54 (in_r26 _ (List.mem_of_getElem? (i := 7) rfl)) ?_
          refine aw_lcmp K dX12_kindHere_57 ?_
          refine aw_if_ne K 65 dX12_kindHere_58 (by decide) (fun h_5 => ?_) (fun h_5 => ?_)
          · refine aw_lload_n K 0 dX12_kindHere_65 rfl ?_
            refine aw_ldc2 K (x := (2262644 : Int64)) dX12_kindHere_66 (in_r26 _ (List.mem_of_getElem? (i := 8) rfl)) ?_
            refine aw_lcmp K dX12_kindHere_69 ?_
            refine aw_if_ne K 77 dX12_kindHere_70 (by decide) (fun h_6 => ?_) (fun h_6 => ?_)
            · refine aw_iconst K dX12_kindHere_77 ki_m1 ?_
              exact aw_iret dX12_kindHere_78
            · refine aw_iconst K dX12_kindHere_73 ki_5 ?_
              refine aw_goto K 78 dX12_kindHere_74 (by decide) ?_
              exact aw_iret dX12_kindHere_78
          · refine aw_iconst K dX12_kindHere_61 ki_4 ?_
            refine aw_goto K 78 dX12_kindHere_62 (by decide) ?_
            exact aw_iret dX12_kindHere_78
        · refine aw_iconst K dX12_kindHere_49 ki_3 ?_
          refine aw_goto K 78 dX12_kindHere_50 (by decide) ?_
          exact aw_iret dX12_kindHere_78
      · refine aw_iconst K dX12_kindHere_37 ki_2 ?_
        refine aw_goto K 78 dX12_kindHere_38 (by decide) ?_
        exact aw_iret dX12_kindHere_78
    · refine aw_iconst K dX12_kindHere_25 ki_1 ?_
      refine aw_goto K 78 dX12_kindHere_26 (by decide) ?_
      exact aw_iret dX12_kindHere_78
  · refine aw_iconst K dX12_kindHere_13 ki_0 ?_
    refine aw_goto K 78 dX12_kindHere_14 (by decide) ?_
    exact aw_iret dX12_kindHere_78
set_option maxRecDepth 100000 in
set_option maxHeartbeats 4000000 in
theorem c_f_M_writes (l : Launch) (x1 : Int32) : CTV l (0) yX12_writes cX12_writes 2 (none) (fun P => [rf P 148, .int x1]) (fun σ => f_M_writes x1 σ) := by
  refine met_V rfl rfl rfl (fun P => Nat.le_of_ble_eq_true rfl) (fun P G K hg σ => ?_)
  change AW P G 2 (EV P G cX12_writes) (f_M_writes x1 σ) σ 0 [(0, rf P 148), (1, .int x1)] []
  rw [f_M_writes]
  refine aw_aload_n K 0 dX12_writes_0 rfl ?_
  refine aw_getZ K dX12_writes_1 lk_X12_322_12 fd_148_32 ?_
  refine aw_if_ne K 31 dX12_writes_4 (by decide) (fun h_1 => ?_) (fun h_1 => ?_)
  · exact aw_vret dX12_writes_31
  · refine aw_aload_n K 0 dX12_writes_7 rfl ?_
    refine aw_getR K (c' := 149) dX12_writes_8 lk_X12_7_12 fd_148_0 ?_
    refine aw_sipush K dX12_writes_11 ks_138 ?_
    refine aw_aload_n K 0 dX12_writes_14 rfl ?_
    refine aw_getI K dX12_writes_15 lk_X12_366_12 fd_148_31 ?_
    refine aw_iadd K dX12_writes_18 ?_
    refine aw_iload_n K 1 dX12_writes_19 rfl ?_
    refine aw_gd (fun h_2 => ?_)
    refine aw_ast K dX12_writes_20 ad_149 h_2 rfl (fun σ1 => ?_)
    refine aw_aload_n K 0 dX12_writes_21 rfl ?_
    refine aw_dup K dX12_writes_22 rfl ?_
    refine aw_getI K dX12_writes_23 lk_X12_366_12 fd_148_31 ?_
    refine aw_iconst K dX12_writes_26 ki_1 ?_
    refine aw_iadd K dX12_writes_27 ?_
    refine aw_putI K dX12_writes_28 lp_X12_366_12 fd_148_31 (fun σ2 => ?_)
    exact aw_vret dX12_writes_31
set_option maxRecDepth 100000 in
set_option maxHeartbeats 4000000 in
theorem c_f_M_factHere (l : Launch) : CTI l (3) yX12_factHere cX12_factHere 3 ((some .int)) (fun P => [rf P 148]) (fun σ => f_M_factHere σ) := by
  refine met_I rfl rfl rfl (fun P => Nat.le_of_ble_eq_true rfl) (fun P G K hg σ => ?_)
  change AW P G 3 (EI P G cX12_factHere) (f_M_factHere σ) σ 0 [(0, rf P 148)] []
  rw [f_M_factHere]
  refine aw_aload_n K 0 dX12_factHere_0 rfl ?_
  refine aw_callVL K dX12_factHere_1 vw_X12_340_12 (c_f_M_word l) hg (by decide) ob_148 rfl (Nat.le_of_ble_eq_true rfl) rfl rfl (fun r2 σ1 _ => ?_)
  refine aw_lstore_n K (i := 1) (lv' := [(1, .long r2), (0, rf P 148)]) dX12_factHere_4 rfl (Nat.le_of_ble_eq_true rfl) rfl ?_
  refine aw_lload_n K 0 dX12_factHere_5 rfl ?_
  refine aw_ldc2 K (x := (8243 : Int64)) dX12_factHere_6 (in_r28 _ (List.mem_of_getElem? (i := 2) rfl)) ?_
  refine aw_lcmp K dX12_factHere_9 ?_
  refine aw_if_ne K 17 dX12_factHere_10 (by decide) (fun h_1 => ?_) (fun h_1 => ?_)
  · refine aw_lload_n K 0 dX12_factHere_17 rfl ?_
    refine aw_ldc2 K (x := (464036 : Int64)) dX12_factHere_18 (in_r28 _ (List.mem_of_getElem? (i := 3) rfl)) ?_
    refine aw_lcmp K dX12_factHere_21 ?_
    refine aw_if_ne K 30 dX12_factHere_22 (by decide) (fun h_2 => ?_) (fun h_2 => ?_)
    · refine aw_lload_n K 0 dX12_factHere_30 rfl ?_
      refine aw_ldc2 K (x := (3646931 : Int64)) dX12_factHere_31 (in_r28 _ (List.mem_of_getElem? (i := 4) rfl)) ?_
      refine aw_lcmp K dX12_factHere_34 ?_
      refine aw_if_ne K 43 dX12_factHere_35 (by decide) (fun h_3 => ?_) (fun h_3 => ?_)
      · refine aw_lload_n K 0 dX12_factHere_43 rfl ?_
        refine aw_ldc2 K (x := (24395141 : Int64)) dX12_factHere_44 (in_r28 _ (List.mem_of_getElem? (i := 5) rfl)) ?_
        refine aw_lcmp K dX12_factHere_47 ?_
        refine aw_if_ne K 56 dX12_factHere_48 (by decide) (fun h_4 => ?_) (fun h_4 => ?_)
        · refine aw_lload_n K 0 dX12_factHere_56 rfl ?_
          refine aw_ldc2 K (x := (492210354 : Int64)) dX12_factHere_57 (in_r28 _ (List.mem_of_getElem? (i := 6) rfl)) ?_
          refine aw_lcmp K dX12_factHere_60 ?_
          refine aw_if_ne K 69 dX12_factHere_61 (by decide) (fun h_5 => ?_) (fun h_5 => ?_)
          · refine aw_iconst K dX12_factHere_69 ki_0 ?_
            exact aw_iret dX12_factHere_70
          · refine aw_bipush K dX12_factHere_64 kb_m5 ?_
            refine aw_goto K 70 dX12_factHere_66 (by decide) ?_
            exact aw_iret dX12_factHere_70
        · refine aw_bipush K dX12_factHere_51 kb_m4 ?_
          refine aw_goto K 70 dX12_factHere_53 (by decide) ?_
          exact aw_iret dX12_factHere_70
      · refine aw_bipush K dX12_factHere_38 kb_m3 ?_
        refine aw_goto K 70 dX12_factHere_40 (by decide) ?_
        exact aw_iret dX12_factHere_70
    · refine aw_bipush K dX12_factHere_25 kb_m2 ?_
      refine aw_goto K 70 dX12_factHere_27 (by decide) ?_
      exact aw_iret dX12_factHere_70
  · refine aw_iconst K dX12_factHere_13 ki_m1 ?_
    refine aw_goto K 70 dX12_factHere_14 (by decide) ?_
    exact aw_iret dX12_factHere_70
set_option maxRecDepth 100000 in
set_option maxHeartbeats 4000000 in
theorem c_f_M_valueHere (l : Launch) : CTV l (5) yX12_valueHere cX12_valueHere 2 (none) (fun P => [rf P 148]) (fun σ => f_M_valueHere σ) := by
  refine met_V rfl rfl rfl (fun P => Nat.le_of_ble_eq_true rfl) (fun P G K hg σ => ?_)
  change AW P G 2 (EV P G cX12_valueHere) (f_M_valueHere σ) σ 0 [(0, rf P 148)] []
  rw [f_M_valueHere]
  refine aw_aload_n K 0 dX12_valueHere_0 rfl ?_
  refine aw_callVI K dX12_valueHere_1 vw_X12_369_12 (c_f_M_factHere l) hg (by decide) ob_148 rfl (Nat.le_of_ble_eq_true rfl) rfl rfl (fun r2 σ1 _ => ?_)
  refine aw_istore_n K (i := 1) (lv' := [(1, .int r2), (0, rf P 148)]) dX12_valueHere_4 rfl (Nat.le_of_ble_eq_true rfl) rfl ?_
  refine aw_iload_n K 0 dX12_valueHere_5 rfl ?_
  refine aw_if_ge K 22 dX12_valueHere_6 (by decide) (fun h_1 => ?_) (fun h_1 => ?_)
  · refine aw_aload_n K 1 dX12_valueHere_22 rfl ?_
    refine aw_getZ K dX12_valueHere_23 lk_X12_322_12 fd_148_32 ?_
    refine aw_if_ne K 44 dX12_valueHere_26 (by decide) (fun h_2 => ?_) (fun h_2 => ?_)
    · exact aw_vret dX12_valueHere_44
    · refine aw_aload_n K 1 dX12_valueHere_29 rfl ?_
      refine aw_sipush K dX12_valueHere_30 ks_9999 ?_
      refine aw_callVV K dX12_valueHere_33 vw_X12_375_12 (c_f_M_number l _) hg (by decide) ob_148 rfl (Nat.le_of_ble_eq_true rfl) rfl rfl (fun _ σ3 _ => ?_)
      refine aw_aload_n K 1 dX12_valueHere_36 rfl ?_
      refine aw_aload_n K 1 dX12_valueHere_37 rfl ?_
      refine aw_getI K dX12_valueHere_38 lk_X12_333_12 fd_148_29 ?_
      refine aw_callVV K dX12_valueHere_41 vw_X12_372_12 (c_f_M_writes l _) hg (by decide) ob_148 rfl (Nat.le_of_ble_eq_true rfl) rfl rfl (fun _ σ4 _ => ?_)
      exact aw_vret dX12_valueHere_44
  · refine aw_aload_n K 1 dX12_valueHere_9 rfl ?_
    refine aw_iconst K dX12_valueHere_10 ki_1 ?_
    refine aw_callVV K dX12_valueHere_11 vw_X12_336_12 (c_f_M_wants l _) hg (by decide) ob_148 rfl (Nat.le_of_ble_eq_true rfl) rfl rfl (fun _ σ5 _ => ?_)
    refine aw_aload_n K 1 dX12_valueHere_14 rfl ?_
    refine aw_iload_n K 0 dX12_valueHere_15 rfl ?_
    refine aw_callVV K dX12_valueHere_16 vw_X12_372_12 (c_f_M_writes l _) hg (by decide) ob_148 rfl (Nat.le_of_ble_eq_true rfl) rfl rfl (fun _ σ6 _ => ?_)
    refine aw_goto K 44 dX12_valueHere_19 (by decide) ?_
    exact aw_vret dX12_valueHere_44
set_option maxRecDepth 100000 in
set_option maxHeartbeats 4000000 in
theorem a_f_M_comparison_48 (l : Launch) {P : PT} {G : GT} (K : CX P G cX12_comparison RX12 (6) 2) (hg : gl G = l) : ∀ (x1 : Int32) (xs0 : Int32) (σ : SG), AW P G 2 (EV P G cX12_comparison) (f_M_comparison_48 x1 xs0 σ) σ 48 [(0, rf P 148), (1, .int x1)] [.int xs0, rf P 148] := by
  intro x1 xs0 σ
  rw [f_M_comparison_48]
  refine aw_callVV K dX12_comparison_48 vw_X12_336_12 (c_f_M_wants l _) hg (by decide) ob_148 rfl (Nat.le_of_ble_eq_true rfl) rfl rfl (fun _ σ1 _ => ?_)
  refine aw_aload_n K 0 dX12_comparison_51 rfl ?_
  refine aw_callVV K dX12_comparison_52 vw_X12_378_12 (c_f_M_valueHere l) hg (by decide) ob_148 rfl (Nat.le_of_ble_eq_true rfl) rfl rfl (fun _ σ2 _ => ?_)
  refine aw_aload_n K 0 dX12_comparison_55 rfl ?_
  refine aw_iload_n K 1 dX12_comparison_56 rfl ?_
  refine aw_bipush K dX12_comparison_57 kb_60 ?_
  refine aw_icmp_ne K 67 dX12_comparison_59 (by decide) (fun h_1 => ?_) (fun h_1 => ?_)
  · refine aw_iload_n K 1 dX12_comparison_67 rfl ?_
    refine aw_bipush K dX12_comparison_68 kb_61 ?_
    refine aw_icmp_ne K 78 dX12_comparison_70 (by decide) (fun h_2 => ?_) (fun h_2 => ?_)
    · refine aw_bipush K dX12_comparison_78 kb_m13 ?_
      refine aw_callVV K dX12_comparison_80 vw_X12_372_12 (c_f_M_writes l _) hg (by decide) ob_148 rfl (Nat.le_of_ble_eq_true rfl) rfl rfl (fun _ σ3 _ => ?_)
      exact aw_vret dX12_comparison_83
    · refine aw_bipush K dX12_comparison_73 kb_m12 ?_
      refine aw_goto K 80 dX12_comparison_75 (by decide) ?_
      refine aw_callVV K dX12_comparison_80 vw_X12_372_12 (c_f_M_writes l _) hg (by decide) ob_148 rfl (Nat.le_of_ble_eq_true rfl) rfl rfl (fun _ σ4 _ => ?_)
      exact aw_vret dX12_comparison_83
  · refine aw_bipush K dX12_comparison_62 kb_m11 ?_
    refine aw_goto K 80 dX12_comparison_64 (by decide) ?_
    refine aw_callVV K dX12_comparison_80 vw_X12_372_12 (c_f_M_writes l _) hg (by decide) ob_148 rfl (Nat.le_of_ble_eq_true rfl) rfl rfl (fun _ σ5 _ => ?_)
    exact aw_vret dX12_comparison_83
set_option maxRecDepth 100000 in
set_option maxHeartbeats 4000000 in
theorem a_f_M_comparison_23 (l : Launch) {P : PT} {G : GT} (K : CX P G cX12_comparison RX12 (6) 2) (hg : gl G = l) : ∀ (xs0 : Int32) (σ : SG), AW P G 2 (EV P G cX12_comparison) (f_M_comparison_23 xs0 σ) σ 23 [(0, rf P 148)] [.int xs0] := by
  intro xs0 σ
  rw [f_M_comparison_23]
  refine aw_istore_n K (i := 1) (lv' := [(1, .int xs0), (0, rf P 148)]) dX12_comparison_23 rfl (Nat.le_of_ble_eq_true rfl) rfl ?_
  refine aw_aload_n K 1 dX12_comparison_24 rfl ?_
  refine aw_iload_n K 0 dX12_comparison_25 rfl ?_
  refine aw_bipush K dX12_comparison_26 kb_60 ?_
  refine aw_icmp_eq K 43 dX12_comparison_28 (by decide) (fun h_1 => ?_) (fun h_1 => ?_)
  · refine aw_iconst K dX12_comparison_43 ki_1 ?_
    refine aw_goto K 48 dX12_comparison_44 (by decide) ?_
    refine aw_lv [1, 0] rfl ?_
    exact (a_f_M_comparison_48 l K hg) _ _ _
  · refine aw_iload_n K 0 dX12_comparison_31 rfl ?_
    refine aw_bipush K dX12_comparison_32 kb_61 ?_
    refine aw_icmp_eq K 43 dX12_comparison_34 (by decide) (fun h_2 => ?_) (fun h_2 => ?_)
    · refine aw_iconst K dX12_comparison_43 ki_1 ?_
      refine aw_goto K 48 dX12_comparison_44 (by decide) ?_
      refine aw_lv [1, 0] rfl ?_
      exact (a_f_M_comparison_48 l K hg) _ _ _
    · refine aw_iload_n K 0 dX12_comparison_37 rfl ?_
      refine aw_bipush K dX12_comparison_38 kb_62 ?_
      refine aw_icmp_ne K 47 dX12_comparison_40 (by decide) (fun h_3 => ?_) (fun h_3 => ?_)
      · refine aw_iconst K dX12_comparison_47 ki_0 ?_
        refine aw_lv [1, 0] rfl ?_
        exact (a_f_M_comparison_48 l K hg) _ _ _
      · refine aw_iconst K dX12_comparison_43 ki_1 ?_
        refine aw_goto K 48 dX12_comparison_44 (by decide) ?_
        refine aw_lv [1, 0] rfl ?_
        exact (a_f_M_comparison_48 l K hg) _ _ _
set_option maxRecDepth 100000 in
set_option maxHeartbeats 4000000 in
theorem c_f_M_comparison (l : Launch) : CTV l (6) yX12_comparison cX12_comparison 2 (none) (fun P => [rf P 148]) (fun σ => f_M_comparison σ) := by
  refine met_V rfl rfl rfl (fun P => Nat.le_of_ble_eq_true rfl) (fun P G K hg σ => ?_)
  change AW P G 2 (EV P G cX12_comparison) (f_M_comparison σ) σ 0 [(0, rf P 148)] []
  rw [f_M_comparison]
  refine aw_aload_n K 0 dX12_comparison_0 rfl ?_
  refine aw_callVV K dX12_comparison_1 vw_X12_378_12 (c_f_M_valueHere l) hg (by decide) ob_148 rfl (Nat.le_of_ble_eq_true rfl) rfl rfl (fun _ σ1 _ => ?_)
  refine aw_aload_n K 0 dX12_comparison_4 rfl ?_
  refine aw_getZ K dX12_comparison_5 lk_X12_322_12 fd_148_32 ?_
  refine aw_if_eq K 15 dX12_comparison_8 (by decide) (fun h_1 => ?_) (fun h_1 => ?_)
  · refine aw_aload_n K 0 dX12_comparison_15 rfl ?_
    refine aw_aload_n K 0 dX12_comparison_16 rfl ?_
    refine aw_getI K dX12_comparison_17 lk_X12_310_12 fd_148_27 ?_
    refine aw_callVI K dX12_comparison_20 vw_X12_313_12 (c_f_M_byteAt l _) hg (by decide) ob_148 rfl (Nat.le_of_ble_eq_true rfl) rfl rfl (fun r3 σ2 _ => ?_)
    refine aw_lv [0] rfl ?_
    exact (a_f_M_comparison_23 l K hg) _ _
  · refine aw_iconst K dX12_comparison_11 ki_m1 ?_
    refine aw_goto K 23 dX12_comparison_12 (by decide) ?_
    refine aw_lv [0] rfl ?_
    exact (a_f_M_comparison_23 l K hg) _ _
set_option maxRecDepth 100000 in
set_option maxHeartbeats 4000000 in
theorem a_f_M_one_65 (l : Launch) {kR : Nat} {fR : SG → Option (Unit × SG)} (hfR : CTV l kR yX12_condition cX12_condition 1 (none) (fun P => [rf P 148]) (fun σ => fR  σ)) (hkR : 6 ≤ kR) {P : PT} {G : GT} (K : CX P G cX12_one RX12 (kR + 1) 2) (hg : gl G = l) : ∀ (x1 : Int32) (xs0 : Int32) (σ : SG), AW P G 2 (EV P G cX12_one) (f_M_one_65 fR x1 xs0 σ) σ 65 [(0, rf P 148), (1, .int x1)] [.int xs0, rf P 148] := by
  intro x1 xs0 σ
  rw [f_M_one_65]
  refine aw_callVV K dX12_one_65 vw_X12_336_12 (c_f_M_wants l _) hg (by omega) ob_148 rfl (Nat.le_of_ble_eq_true rfl) rfl rfl (fun _ σ1 _ => ?_)
  refine aw_aload_n K 0 dX12_one_68 rfl ?_
  refine aw_dup K dX12_one_69 rfl ?_
  refine aw_getI K dX12_one_70 lk_X12_383_12 fd_148_30 ?_
  refine aw_iconst K dX12_one_73 ki_1 ?_
  refine aw_iadd K dX12_one_74 ?_
  refine aw_putI K dX12_one_75 lp_X12_383_12 fd_148_30 (fun σ2 => ?_)
  refine aw_aload_n K 0 dX12_one_78 rfl ?_
  refine aw_callVV K dX12_one_79 vw_X12_386_12 hfR hg (by omega) ob_148 rfl (Nat.le_of_ble_eq_true rfl) rfl rfl (fun _ σ3 _ => ?_)
  refine aw_aload_n K 0 dX12_one_82 rfl ?_
  refine aw_dup K dX12_one_83 rfl ?_
  refine aw_getI K dX12_one_84 lk_X12_383_12 fd_148_30 ?_
  refine aw_iconst K dX12_one_87 ki_1 ?_
  refine aw_isub K dX12_one_88 ?_
  refine aw_putI K dX12_one_89 lp_X12_383_12 fd_148_30 (fun σ4 => ?_)
  refine aw_aload_n K 0 dX12_one_92 rfl ?_
  refine aw_aload_n K 0 dX12_one_93 rfl ?_
  refine aw_getZ K dX12_one_94 lk_X12_322_12 fd_148_32 ?_
  refine aw_if_ne K 117 dX12_one_97 (by decide) (fun h_1 => ?_) (fun h_1 => ?_)
  · refine aw_iconst K dX12_one_117 ki_0 ?_
    refine aw_callVV K dX12_one_118 vw_X12_336_12 (c_f_M_wants l _) hg (by omega) ob_148 rfl (Nat.le_of_ble_eq_true rfl) rfl rfl (fun _ σ5 _ => ?_)
    refine aw_goto K 128 dX12_one_121 (by decide) ?_
    refine aw_iload_n K 1 dX12_one_128 rfl ?_
    refine aw_if_eq K 138 dX12_one_129 (by decide) (fun h_2 => ?_) (fun h_2 => ?_)
    · exact aw_vret dX12_one_138
    · refine aw_aload_n K 0 dX12_one_132 rfl ?_
      refine aw_bipush K dX12_one_133 kb_m20 ?_
      refine aw_callVV K dX12_one_135 vw_X12_372_12 (c_f_M_writes l _) hg (by omega) ob_148 rfl (Nat.le_of_ble_eq_true rfl) rfl rfl (fun _ σ6 _ => ?_)
      exact aw_vret dX12_one_138
  · refine aw_aload_n K 0 dX12_one_100 rfl ?_
    refine aw_aload_n K 0 dX12_one_101 rfl ?_
    refine aw_getI K dX12_one_102 lk_X12_310_12 fd_148_27 ?_
    refine aw_callVI K dX12_one_105 vw_X12_313_12 (c_f_M_byteAt l _) hg (by omega) ob_148 rfl (Nat.le_of_ble_eq_true rfl) rfl rfl (fun r8 σ7 _ => ?_)
    refine aw_bipush K dX12_one_108 kb_41 ?_
    refine aw_icmp_ne K 117 dX12_one_110 (by decide) (fun h_3 => ?_) (fun h_3 => ?_)
    · refine aw_iconst K dX12_one_117 ki_0 ?_
      refine aw_callVV K dX12_one_118 vw_X12_336_12 (c_f_M_wants l _) hg (by omega) ob_148 rfl (Nat.le_of_ble_eq_true rfl) rfl rfl (fun _ σ9 _ => ?_)
      refine aw_goto K 128 dX12_one_121 (by decide) ?_
      refine aw_iload_n K 1 dX12_one_128 rfl ?_
      refine aw_if_eq K 138 dX12_one_129 (by decide) (fun h_4 => ?_) (fun h_4 => ?_)
      · exact aw_vret dX12_one_138
      · refine aw_aload_n K 0 dX12_one_132 rfl ?_
        refine aw_bipush K dX12_one_133 kb_m20 ?_
        refine aw_callVV K dX12_one_135 vw_X12_372_12 (c_f_M_writes l _) hg (by omega) ob_148 rfl (Nat.le_of_ble_eq_true rfl) rfl rfl (fun _ σ10 _ => ?_)
        exact aw_vret dX12_one_138
    · refine aw_iconst K dX12_one_113 ki_1 ?_
      refine aw_goto K 118 dX12_one_114 (by decide) ?_
      refine aw_callVV K dX12_one_118 vw_X12_336_12 (c_f_M_wants l _) hg (by omega) ob_148 rfl (Nat.le_of_ble_eq_true rfl) rfl rfl (fun _ σ11 _ => ?_)
      refine aw_goto K 128 dX12_one_121 (by decide) ?_
      refine aw_iload_n K 1 dX12_one_128 rfl ?_
      refine aw_if_eq K 138 dX12_one_129 (by decide) (fun h_5 => ?_) (fun h_5 => ?_)
      · exact aw_vret dX12_one_138
      · refine aw_aload_n K 0 dX12_one_132 rfl ?_
        refine aw_bipush K dX12_one_133 kb_m20 ?_
        refine aw_callVV K dX12_one_135 vw_X12_372_12 (c_f_M_writes l _) hg (by omega) ob_148 rfl (Nat.le_of_ble_eq_true rfl) rfl rfl (fun _ σ12 _ => ?_)
        exact aw_vret dX12_one_138
set_option maxRecDepth 100000 in
set_option maxHeartbeats 4000000 in
theorem a_f_M_one_2 (l : Launch) {kR : Nat} {fR : SG → Option (Unit × SG)} (hfR : CTV l kR yX12_condition cX12_condition 1 (none) (fun P => [rf P 148]) (fun σ => fR  σ)) (hkR : 6 ≤ kR) {P : PT} {G : GT} (K : CX P G cX12_one RX12 (kR + 1) 2) (hg : gl G = l) : ∀ (n : Nat) (x1 : Int32) (σ : SG), AW P G 2 (EV P G cX12_one) (f_M_one_2 fR n x1 σ) σ 2 [(0, rf P 148), (1, .int x1)] [] := by
  intro n
  induction n with
  | zero =>
    intro x1 σ
    rw [f_M_one_2]
    exact aw_none
  | succ n ih =>
    intro x1 σ
    rw [f_M_one_2]
    refine aw_aload_n K 0 dX12_one_2 rfl ?_
    refine aw_callVL K dX12_one_3 vw_X12_340_12 (c_f_M_word l) hg (by omega) ob_148 rfl (Nat.le_of_ble_eq_true rfl) rfl rfl (fun r2 σ1 _ => ?_)
    refine aw_ldc2 K (x := (14836 : Int64)) dX12_one_6 (in_r27 _ (List.mem_of_getElem? (i := 13) rfl)) ?_
    refine aw_lcmp K dX12_one_9 ?_
    refine aw_if_ne K 31 dX12_one_10 (by decide) (fun h_1 => ?_) (fun h_1 => ?_)
    · refine aw_aload_n K 0 dX12_one_31 rfl ?_
      refine aw_getZ K dX12_one_32 lk_X12_322_12 fd_148_32 ?_
      refine aw_if_ne K 124 dX12_one_35 (by decide) (fun h_2 => ?_) (fun h_2 => ?_)
      · refine aw_aload_n K 0 dX12_one_124 rfl ?_
        refine aw_callVV K dX12_one_125 vw_X12_389_12 (c_f_M_comparison l) hg (by omega) ob_148 rfl (Nat.le_of_ble_eq_true rfl) rfl rfl (fun _ σ3 _ => ?_)
        refine aw_iload_n K 1 dX12_one_128 rfl ?_
        refine aw_if_eq K 138 dX12_one_129 (by decide) (fun h_3 => ?_) (fun h_3 => ?_)
        · exact aw_vret dX12_one_138
        · refine aw_aload_n K 0 dX12_one_132 rfl ?_
          refine aw_bipush K dX12_one_133 kb_m20 ?_
          refine aw_callVV K dX12_one_135 vw_X12_372_12 (c_f_M_writes l _) hg (by omega) ob_148 rfl (Nat.le_of_ble_eq_true rfl) rfl rfl (fun _ σ4 _ => ?_)
          exact aw_vret dX12_one_138
      · refine aw_aload_n K 0 dX12_one_38 rfl ?_
        refine aw_aload_n K 0 dX12_one_39 rfl ?_
        refine aw_getI K dX12_one_40 lk_X12_310_12 fd_148_27 ?_
        refine aw_callVI K dX12_one_43 vw_X12_313_12 (c_f_M_byteAt l _) hg (by omega) ob_148 rfl (Nat.le_of_ble_eq_true rfl) rfl rfl (fun r6 σ5 _ => ?_)
        refine aw_bipush K dX12_one_46 kb_40 ?_
        refine aw_icmp_ne K 124 dX12_one_48 (by decide) (fun h_4 => ?_) (fun h_4 => ?_)
        · refine aw_aload_n K 0 dX12_one_124 rfl ?_
          refine aw_callVV K dX12_one_125 vw_X12_389_12 (c_f_M_comparison l) hg (by omega) ob_148 rfl (Nat.le_of_ble_eq_true rfl) rfl rfl (fun _ σ7 _ => ?_)
          refine aw_iload_n K 1 dX12_one_128 rfl ?_
          refine aw_if_eq K 138 dX12_one_129 (by decide) (fun h_5 => ?_) (fun h_5 => ?_)
          · exact aw_vret dX12_one_138
          · refine aw_aload_n K 0 dX12_one_132 rfl ?_
            refine aw_bipush K dX12_one_133 kb_m20 ?_
            refine aw_callVV K dX12_one_135 vw_X12_372_12 (c_f_M_writes l _) hg (by omega) ob_148 rfl (Nat.le_of_ble_eq_true rfl) rfl rfl (fun _ σ8 _ => ?_)
            exact aw_vret dX12_one_138
        · refine aw_aload_n K 0 dX12_one_51 rfl ?_
          refine aw_aload_n K 0 dX12_one_52 rfl ?_
          refine aw_getI K dX12_one_53 lk_X12_383_12 fd_148_30 ?_
          refine aw_iconst K dX12_one_56 ki_3 ?_
          refine aw_icmp_ge K 64 dX12_one_57 (by decide) (fun h_6 => ?_) (fun h_6 => ?_)
          · refine aw_iconst K dX12_one_64 ki_0 ?_
            refine aw_lv [0, 1] rfl ?_
            exact (a_f_M_one_65 l hfR hkR K hg) _ _ _
          · refine aw_iconst K dX12_one_60 ki_1 ?_
            refine aw_goto K 65 dX12_one_61 (by decide) ?_
            refine aw_lv [0, 1] rfl ?_
            exact (a_f_M_one_65 l hfR hkR K hg) _ _ _
    · refine aw_iload_n K 1 dX12_one_13 rfl ?_
      refine aw_if_ne K 21 dX12_one_14 (by decide) (fun h_7 => ?_) (fun h_7 => ?_)
      · refine aw_iconst K dX12_one_21 ki_0 ?_
        refine aw_istore_n K (i := 1) (lv' := [(1, .int (0 : Int32)), (0, rf P 148)]) dX12_one_22 rfl (Nat.le_of_ble_eq_true rfl) rfl ?_
        refine aw_aload_n K 1 dX12_one_23 rfl ?_
        refine aw_iconst K dX12_one_24 ki_1 ?_
        refine aw_callVV K dX12_one_25 vw_X12_336_12 (c_f_M_wants l _) hg (by omega) ob_148 rfl (Nat.le_of_ble_eq_true rfl) rfl rfl (fun _ σ9 _ => ?_)
        refine aw_goto K 2 dX12_one_28 (by decide) ?_
        refine aw_lv [1, 0] rfl ?_
        exact ih _ _
      · refine aw_iconst K dX12_one_17 ki_1 ?_
        refine aw_goto K 22 dX12_one_18 (by decide) ?_
        refine aw_istore_n K (i := 1) (lv' := [(1, .int (1 : Int32)), (0, rf P 148)]) dX12_one_22 rfl (Nat.le_of_ble_eq_true rfl) rfl ?_
        refine aw_aload_n K 1 dX12_one_23 rfl ?_
        refine aw_iconst K dX12_one_24 ki_1 ?_
        refine aw_callVV K dX12_one_25 vw_X12_336_12 (c_f_M_wants l _) hg (by omega) ob_148 rfl (Nat.le_of_ble_eq_true rfl) rfl rfl (fun _ σ10 _ => ?_)
        refine aw_goto K 2 dX12_one_28 (by decide) ?_
        refine aw_lv [1, 0] rfl ?_
        exact ih _ _
set_option maxRecDepth 100000 in
set_option maxHeartbeats 4000000 in
theorem c_f_M_one (l : Launch) {kR : Nat} {fR : SG → Option (Unit × SG)} (hfR : CTV l kR yX12_condition cX12_condition 1 (none) (fun P => [rf P 148]) (fun σ => fR  σ)) (hkR : 6 ≤ kR) : CTV l (kR + 1) yX12_one cX12_one 2 (none) (fun P => [rf P 148]) (fun σ => f_M_one fR σ) := by
  refine met_V rfl rfl rfl (fun P => Nat.le_of_ble_eq_true rfl) (fun P G K hg σ => ?_)
  change AW P G 2 (EV P G cX12_one) (f_M_one fR σ) σ 0 [(0, rf P 148)] []
  rw [f_M_one]
  refine aw_iconst K dX12_one_0 ki_0 ?_
  refine aw_istore_n K (i := 1) (lv' := [(1, .int (0 : Int32)), (0, rf P 148)]) dX12_one_1 rfl (Nat.le_of_ble_eq_true rfl) rfl ?_
  refine aw_lv [1, 0] rfl ?_
  exact (a_f_M_one_2 l hfR hkR K hg FU) _ _
set_option maxRecDepth 100000 in
set_option maxHeartbeats 4000000 in
theorem a_f_M_all_4 (l : Launch) {kR : Nat} {fR : SG → Option (Unit × SG)} (hfR : CTV l kR yX12_condition cX12_condition 1 (none) (fun P => [rf P 148]) (fun σ => fR  σ)) (hkR : 6 ≤ kR) {P : PT} {G : GT} (K : CX P G cX12_all RX12 (kR + 2) 1) (hg : gl G = l) : ∀ (n : Nat) (σ : SG), AW P G 1 (EV P G cX12_all) (f_M_all_4 fR n σ) σ 4 [(0, rf P 148)] [] := by
  intro n
  induction n with
  | zero =>
    intro σ
    rw [f_M_all_4]
    exact aw_none
  | succ n ih =>
    intro σ
    rw [f_M_all_4]
    refine aw_aload_n K 0 dX12_all_4 rfl ?_
    refine aw_callVL K dX12_all_5 vw_X12_340_12 (c_f_M_word l) hg (by omega) ob_148 rfl (Nat.le_of_ble_eq_true rfl) rfl rfl (fun r2 σ1 _ => ?_)
    refine aw_ldc2 K (x := (1476 : Int64)) dX12_all_8 (in_r27 _ (List.mem_of_getElem? (i := 8) rfl)) ?_
    refine aw_lcmp K dX12_all_11 ?_
    refine aw_if_ne K 33 dX12_all_12 (by decide) (fun h_1 => ?_) (fun h_1 => ?_)
    · exact aw_vret dX12_all_33
    · refine aw_aload_n K 0 dX12_all_15 rfl ?_
      refine aw_iconst K dX12_all_16 ki_1 ?_
      refine aw_callVV K dX12_all_17 vw_X12_336_12 (c_f_M_wants l _) hg (by omega) ob_148 rfl (Nat.le_of_ble_eq_true rfl) rfl rfl (fun _ σ3 _ => ?_)
      refine aw_aload_n K 0 dX12_all_20 rfl ?_
      refine aw_callVV K dX12_all_21 vw_X12_392_12 (c_f_M_one l hfR hkR) hg (by omega) ob_148 rfl (Nat.le_of_ble_eq_true rfl) rfl rfl (fun _ σ4 _ => ?_)
      refine aw_aload_n K 0 dX12_all_24 rfl ?_
      refine aw_bipush K dX12_all_25 kb_m21 ?_
      refine aw_callVV K dX12_all_27 vw_X12_372_12 (c_f_M_writes l _) hg (by omega) ob_148 rfl (Nat.le_of_ble_eq_true rfl) rfl rfl (fun _ σ5 _ => ?_)
      refine aw_goto K 4 dX12_all_30 (by decide) ?_
      refine aw_lv [0] rfl ?_
      exact ih _
set_option maxRecDepth 100000 in
set_option maxHeartbeats 4000000 in
theorem c_f_M_all (l : Launch) {kR : Nat} {fR : SG → Option (Unit × SG)} (hfR : CTV l kR yX12_condition cX12_condition 1 (none) (fun P => [rf P 148]) (fun σ => fR  σ)) (hkR : 6 ≤ kR) : CTV l (kR + 2) yX12_all cX12_all 1 (none) (fun P => [rf P 148]) (fun σ => f_M_all fR σ) := by
  refine met_V rfl rfl rfl (fun P => Nat.le_of_ble_eq_true rfl) (fun P G K hg σ => ?_)
  change AW P G 1 (EV P G cX12_all) (f_M_all fR σ) σ 0 [(0, rf P 148)] []
  rw [f_M_all]
  refine aw_aload_n K 0 dX12_all_0 rfl ?_
  refine aw_callVV K dX12_all_1 vw_X12_392_12 (c_f_M_one l hfR hkR) hg (by omega) ob_148 rfl (Nat.le_of_ble_eq_true rfl) rfl rfl (fun _ σ1 _ => ?_)
  refine aw_lv [0] rfl ?_
  exact (a_f_M_all_4 l hfR hkR K hg FU) _
set_option maxRecDepth 100000 in
set_option maxHeartbeats 4000000 in
theorem a_f_M_condition_S_12 (l : Launch) {kR : Nat} {fR : SG → Option (Unit × SG)} (hfR : CTV l kR yX12_condition cX12_condition 1 (none) (fun P => [rf P 148]) (fun σ => fR  σ)) (hkR : 6 ≤ kR) {P : PT} {G : GT} (K : CX P G cX12_condition RX12 (kR + 3) 1) (hg : gl G = l) : ∀ (n : Nat) (σ : SG), AW P G 1 (EV P G cX12_condition) (f_M_condition_S_12 fR n σ) σ 12 [(0, rf P 148)] [] := by
  intro n
  induction n with
  | zero =>
    intro σ
    rw [f_M_condition_S_12]
    exact aw_none
  | succ n ih =>
    intro σ
    rw [f_M_condition_S_12]
    refine aw_aload_n K 0 dX12_condition_12 rfl ?_
    refine aw_callVL K dX12_condition_13 vw_X12_340_12 (c_f_M_word l) hg (by omega) ob_148 rfl (Nat.le_of_ble_eq_true rfl) rfl rfl (fun r2 σ1 _ => ?_)
    refine aw_ldc2 K (x := (498 : Int64)) dX12_condition_16 (in_r26 _ (List.mem_of_getElem? (i := 23) rfl)) ?_
    refine aw_lcmp K dX12_condition_19 ?_
    refine aw_if_ne K 41 dX12_condition_20 (by decide) (fun h_1 => ?_) (fun h_1 => ?_)
    · exact aw_vret dX12_condition_41
    · refine aw_aload_n K 0 dX12_condition_23 rfl ?_
      refine aw_iconst K dX12_condition_24 ki_1 ?_
      refine aw_callVV K dX12_condition_25 vw_X12_336_12 (c_f_M_wants l _) hg (by omega) ob_148 rfl (Nat.le_of_ble_eq_true rfl) rfl rfl (fun _ σ3 _ => ?_)
      refine aw_aload_n K 0 dX12_condition_28 rfl ?_
      refine aw_callVV K dX12_condition_29 vw_X12_397_12 (c_f_M_all l hfR hkR) hg (by omega) ob_148 rfl (Nat.le_of_ble_eq_true rfl) rfl rfl (fun _ σ4 _ => ?_)
      refine aw_aload_n K 0 dX12_condition_32 rfl ?_
      refine aw_bipush K dX12_condition_33 kb_m22 ?_
      refine aw_callVV K dX12_condition_35 vw_X12_372_12 (c_f_M_writes l _) hg (by omega) ob_148 rfl (Nat.le_of_ble_eq_true rfl) rfl rfl (fun _ σ5 _ => ?_)
      refine aw_goto K 12 dX12_condition_38 (by decide) ?_
      refine aw_lv [0] rfl ?_
      exact ih _
set_option maxRecDepth 100000 in
set_option maxHeartbeats 4000000 in
theorem c_f_M_condition_S (l : Launch) {kR : Nat} {fR : SG → Option (Unit × SG)} (hfR : CTV l kR yX12_condition cX12_condition 1 (none) (fun P => [rf P 148]) (fun σ => fR  σ)) (hkR : 6 ≤ kR) : CTV l (kR + 3) yX12_condition cX12_condition 1 (none) (fun P => [rf P 148]) (fun σ => f_M_condition_S fR σ) := by
  refine met_V rfl rfl rfl (fun P => Nat.le_of_ble_eq_true rfl) (fun P G K hg σ => ?_)
  change AW P G 1 (EV P G cX12_condition) (f_M_condition_S fR σ) σ 0 [(0, rf P 148)] []
  rw [f_M_condition_S]
  refine aw_aload_n K 0 dX12_condition_0 rfl ?_
  refine aw_getZ K dX12_condition_1 lk_X12_322_12 fd_148_32 ?_
  refine aw_if_eq K 8 dX12_condition_4 (by decide) (fun h_1 => ?_) (fun h_1 => ?_)
  · refine aw_aload_n K 0 dX12_condition_8 rfl ?_
    refine aw_callVV K dX12_condition_9 vw_X12_397_12 (c_f_M_all l hfR hkR) hg (by omega) ob_148 rfl (Nat.le_of_ble_eq_true rfl) rfl rfl (fun _ σ1 _ => ?_)
    refine aw_lv [0] rfl ?_
    exact (a_f_M_condition_S_12 l hfR hkR K hg FU) _
  · exact aw_vret dX12_condition_7
theorem c_f_M_condition (l : Launch) (d : Nat) : CTV l (6 + d * 3) yX12_condition cX12_condition 1 (none) (fun P => [rf P 148]) (fun σ => f_M_condition d  σ) := by
  induction d with
  | zero =>
    intro  P σ r σ' hf
    cases hf
  | succ d ih =>
    have q := c_f_M_condition_S l ih (by omega) 
    rw [show 6 + d * 3 + 3 = 6 + (d + 1) * 3 by omega] at q
    exact q
set_option maxRecDepth 100000 in
set_option maxHeartbeats 4000000 in
theorem a_f_M_rule_168 (l : Launch) {P : PT} {G : GT} (K : CX P G cX12_rule RX12 (43) 7) (hg : gl G = l) : ∀ (x1 : Int32) (x4 : Int32) (x5 : Int32) (xs0 : Int32) (σ : SG), AW P G 7 (EV P G cX12_rule) (f_M_rule_168 x1 x4 x5 xs0 σ) σ 168 [(0, rf P 148), (1, .int x1), (4, .int x4), (5, .int x5)] [.int xs0, rf P 148] := by
  intro x1 x4 x5 xs0 σ
  rw [f_M_rule_168]
  refine aw_callVV K dX12_rule_168 vw_X12_336_12 (c_f_M_wants l _) hg (by decide) ob_148 rfl (Nat.le_of_ble_eq_true rfl) rfl rfl (fun _ σ1 _ => ?_)
  refine aw_aload_n K 0 dX12_rule_171 rfl ?_
  refine aw_getZ K dX12_rule_172 lk_X12_322_12 fd_148_32 ?_
  refine aw_if_ne K 246 dX12_rule_175 (by decide) (fun h_1 => ?_) (fun h_1 => ?_)
  · exact aw_vret dX12_rule_246
  · refine aw_bipush K dX12_rule_178 kb_106 ?_
    refine aw_iconst K dX12_rule_180 ki_4 ?_
    refine aw_aload_n K 0 dX12_rule_181 rfl ?_
    refine aw_getR K (c' := 149) dX12_rule_182 lk_X12_7_12 fd_148_0 ?_
    refine aw_iconst K dX12_rule_185 ki_1 ?_
    refine aw_ald K dX12_rule_186 ad_149 (by decide) kn_1 ?_
    refine aw_imul K dX12_rule_187 ?_
    refine aw_iadd K dX12_rule_188 ?_
    refine aw_istoreX K (i := 6) (lv' := fun y2 => [(6, .int y2), (0, rf P 148), (1, .int x1), (4, .int x4), (5, .int x5)]) dX12_rule_189 (Nat.le_of_ble_eq_true rfl) (fun _ => rfl) (fun y2 => ?_)
    refine aw_aload_n K 1 dX12_rule_191 rfl ?_
    refine aw_getR K (c' := 149) dX12_rule_192 lk_X12_7_12 fd_148_0 ?_
    refine aw_iload K 0 dX12_rule_195 rfl ?_
    refine aw_iconst K dX12_rule_197 ki_0 ?_
    refine aw_iadd K dX12_rule_198 ?_
    refine aw_iload_n K 2 dX12_rule_199 rfl ?_
    refine aw_gd (fun h_2 => ?_)
    refine aw_ast K dX12_rule_200 ad_149 h_2 rfl (fun σ3 => ?_)
    refine aw_aload_n K 1 dX12_rule_201 rfl ?_
    refine aw_getR K (c' := 149) dX12_rule_202 lk_X12_7_12 fd_148_0 ?_
    refine aw_iload K 0 dX12_rule_205 rfl ?_
    refine aw_iconst K dX12_rule_207 ki_1 ?_
    refine aw_iadd K dX12_rule_208 ?_
    refine aw_iload K 3 dX12_rule_209 rfl ?_
    refine aw_gd (fun h_3 => ?_)
    refine aw_ast K dX12_rule_211 ad_149 h_3 rfl (fun σ4 => ?_)
    refine aw_aload_n K 1 dX12_rule_212 rfl ?_
    refine aw_getR K (c' := 149) dX12_rule_213 lk_X12_7_12 fd_148_0 ?_
    refine aw_iload K 0 dX12_rule_216 rfl ?_
    refine aw_iconst K dX12_rule_218 ki_2 ?_
    refine aw_iadd K dX12_rule_219 ?_
    refine aw_iload K 4 dX12_rule_220 rfl ?_
    refine aw_gd (fun h_4 => ?_)
    refine aw_ast K dX12_rule_222 ad_149 h_4 rfl (fun σ5 => ?_)
    refine aw_aload_n K 1 dX12_rule_223 rfl ?_
    refine aw_getR K (c' := 149) dX12_rule_224 lk_X12_7_12 fd_148_0 ?_
    refine aw_iload K 0 dX12_rule_227 rfl ?_
    refine aw_iconst K dX12_rule_229 ki_3 ?_
    refine aw_iadd K dX12_rule_230 ?_
    refine aw_aload_n K 1 dX12_rule_231 rfl ?_
    refine aw_getI K dX12_rule_232 lk_X12_366_12 fd_148_31 ?_
    refine aw_gd (fun h_5 => ?_)
    refine aw_ast K dX12_rule_235 ad_149 h_5 rfl (fun σ6 => ?_)
    refine aw_aload_n K 1 dX12_rule_236 rfl ?_
    refine aw_getR K (c' := 149) dX12_rule_237 lk_X12_7_12 fd_148_0 ?_
    refine aw_iconst K dX12_rule_240 ki_1 ?_
    refine aw_dup2_11 K dX12_rule_241 rfl rfl ?_
    refine aw_ald K dX12_rule_242 ad_149 (by decide) kn_1 ?_
    refine aw_iconst K dX12_rule_243 ki_1 ?_
    refine aw_iadd K dX12_rule_244 ?_
    refine aw_ast K dX12_rule_245 ad_149 (by decide) kn_1 (fun σ7 => ?_)
    exact aw_vret dX12_rule_246
set_option maxRecDepth 100000 in
set_option maxHeartbeats 4000000 in
theorem a_f_M_rule_136 (l : Launch) {P : PT} {G : GT} (K : CX P G cX12_rule RX12 (43) 7) (hg : gl G = l) : ∀ (x1 : Int32) (x4 : Int32) (σ : SG), AW P G 7 (EV P G cX12_rule) (f_M_rule_136 x1 x4 σ) σ 136 [(0, rf P 148), (1, .int x1), (4, .int x4)] [] := by
  intro x1 x4 σ
  rw [f_M_rule_136]
  refine aw_aload_n K 0 dX12_rule_136 rfl ?_
  refine aw_getI K dX12_rule_137 lk_X12_333_12 fd_148_29 ?_
  refine aw_istoreX K (i := 5) (lv' := fun y1 => [(5, .int y1), (0, rf P 148), (1, .int x1), (4, .int x4)]) dX12_rule_140 (Nat.le_of_ble_eq_true rfl) (fun _ => rfl) (fun y1 => ?_)
  refine aw_aload_n K 1 dX12_rule_142 rfl ?_
  refine aw_aload_n K 1 dX12_rule_143 rfl ?_
  refine aw_getZ K dX12_rule_144 lk_X12_322_12 fd_148_32 ?_
  refine aw_if_ne K 167 dX12_rule_147 (by decide) (fun h_1 => ?_) (fun h_1 => ?_)
  · refine aw_iconst K dX12_rule_167 ki_0 ?_
    refine aw_lv [1, 2, 3, 0] rfl ?_
    exact (a_f_M_rule_168 l K hg) _ _ _ _ _
  · refine aw_aload_n K 1 dX12_rule_150 rfl ?_
    refine aw_aload_n K 1 dX12_rule_151 rfl ?_
    refine aw_getI K dX12_rule_152 lk_X12_310_12 fd_148_27 ?_
    refine aw_callVI K dX12_rule_155 vw_X12_313_12 (c_f_M_byteAt l _) hg (by decide) ob_148 rfl (Nat.le_of_ble_eq_true rfl) rfl rfl (fun r3 σ2 _ => ?_)
    refine aw_bipush K dX12_rule_158 kb_59 ?_
    refine aw_icmp_ne K 167 dX12_rule_160 (by decide) (fun h_2 => ?_) (fun h_2 => ?_)
    · refine aw_iconst K dX12_rule_167 ki_0 ?_
      refine aw_lv [1, 2, 3, 0] rfl ?_
      exact (a_f_M_rule_168 l K hg) _ _ _ _ _
    · refine aw_iconst K dX12_rule_163 ki_1 ?_
      refine aw_goto K 168 dX12_rule_164 (by decide) ?_
      refine aw_lv [1, 2, 3, 0] rfl ?_
      exact (a_f_M_rule_168 l K hg) _ _ _ _ _
set_option maxRecDepth 100000 in
set_option maxHeartbeats 4000000 in
theorem a_f_M_rule_104 (l : Launch) {P : PT} {G : GT} (K : CX P G cX12_rule RX12 (43) 7) (hg : gl G = l) : ∀ (x1 : Int32) (x4 : Int32) (xs0 : Int32) (σ : SG), AW P G 7 (EV P G cX12_rule) (f_M_rule_104 x1 x4 xs0 σ) σ 104 [(0, rf P 148), (1, .int x1), (4, .int x4)] [.int xs0, rf P 148] := by
  intro x1 x4 xs0 σ
  rw [f_M_rule_104]
  refine aw_callVV K dX12_rule_104 vw_X12_336_12 (c_f_M_wants l _) hg (by decide) ob_148 rfl (Nat.le_of_ble_eq_true rfl) rfl rfl (fun _ σ1 _ => ?_)
  refine aw_aload_n K 0 dX12_rule_107 rfl ?_
  refine aw_iconst K dX12_rule_108 ki_0 ?_
  refine aw_putI K dX12_rule_109 lp_X12_333_12 fd_148_29 (fun σ2 => ?_)
  refine aw_iload K 2 dX12_rule_112 rfl ?_
  refine aw_if_lt K 136 dX12_rule_114 (by decide) (fun h_1 => ?_) (fun h_1 => ?_)
  · refine aw_lv [0, 1, 2] rfl ?_
    exact (a_f_M_rule_136 l K hg) _ _ _
  · refine aw_iload K 2 dX12_rule_117 rfl ?_
    refine aw_iconst K dX12_rule_119 ki_2 ?_
    refine aw_icmp_eq K 136 dX12_rule_120 (by decide) (fun h_2 => ?_) (fun h_2 => ?_)
    · refine aw_lv [0, 1, 2] rfl ?_
      exact (a_f_M_rule_136 l K hg) _ _ _
    · refine aw_aload_n K 0 dX12_rule_123 rfl ?_
      refine aw_getZ K dX12_rule_124 lk_X12_322_12 fd_148_32 ?_
      refine aw_if_ne K 136 dX12_rule_127 (by decide) (fun h_3 => ?_) (fun h_3 => ?_)
      · refine aw_lv [0, 1, 2] rfl ?_
        exact (a_f_M_rule_136 l K hg) _ _ _
      · refine aw_aload_n K 0 dX12_rule_130 rfl ?_
        refine aw_bipush K dX12_rule_131 kb_99 ?_
        refine aw_callVV K dX12_rule_133 vw_X12_375_12 (c_f_M_number l _) hg (by decide) ob_148 rfl (Nat.le_of_ble_eq_true rfl) rfl rfl (fun _ σ3 _ => ?_)
        refine aw_lv [0, 1, 2] rfl ?_
        exact (a_f_M_rule_136 l K hg) _ _ _
set_option maxRecDepth 100000 in
set_option maxHeartbeats 4000000 in
theorem a_f_M_rule_49 (l : Launch) {P : PT} {G : GT} (K : CX P G cX12_rule RX12 (43) 7) (hg : gl G = l) : ∀ (x1 : Int32) (σ : SG), AW P G 7 (EV P G cX12_rule) (f_M_rule_49 x1 σ) σ 49 [(0, rf P 148), (1, .int x1)] [] := by
  intro x1 σ
  rw [f_M_rule_49]
  refine aw_aload_n K 0 dX12_rule_49 rfl ?_
  refine aw_callVL K dX12_rule_50 vw_X12_340_12 (c_f_M_word l) hg (by decide) ob_148 rfl (Nat.le_of_ble_eq_true rfl) rfl rfl (fun r2 σ1 _ => ?_)
  refine aw_lstore_n K (i := 2) (lv' := [(2, .long r2), (0, rf P 148), (1, .int x1)]) dX12_rule_53 rfl (Nat.le_of_ble_eq_true rfl) rfl ?_
  refine aw_lload_n K 0 dX12_rule_54 rfl ?_
  refine aw_ldc2 K (x := (441925 : Int64)) dX12_rule_55 (in_r25 _ (List.mem_of_getElem? (i := 19) rfl)) ?_
  refine aw_lcmp K dX12_rule_58 ?_
  refine aw_if_ne K 66 dX12_rule_59 (by decide) (fun h_1 => ?_) (fun h_1 => ?_)
  · refine aw_lload_n K 0 dX12_rule_66 rfl ?_
    refine aw_ldc2 K (x := (398963 : Int64)) dX12_rule_67 (in_r25 _ (List.mem_of_getElem? (i := 20) rfl)) ?_
    refine aw_lcmp K dX12_rule_70 ?_
    refine aw_if_ne K 78 dX12_rule_71 (by decide) (fun h_2 => ?_) (fun h_2 => ?_)
    · refine aw_lload_n K 0 dX12_rule_78 rfl ?_
      refine aw_ldc2 K (x := (215205 : Int64)) dX12_rule_79 (in_r25 _ (List.mem_of_getElem? (i := 21) rfl)) ?_
      refine aw_lcmp K dX12_rule_82 ?_
      refine aw_if_ne K 90 dX12_rule_83 (by decide) (fun h_3 => ?_) (fun h_3 => ?_)
      · refine aw_iconst K dX12_rule_90 ki_m1 ?_
        refine aw_istore K (i := 4) (lv' := [(4, .int (-1 : Int32)), (2, .long r2), (0, rf P 148), (1, .int x1)]) dX12_rule_91 (Nat.le_of_ble_eq_true rfl) rfl ?_
        refine aw_aload_n K 2 dX12_rule_93 rfl ?_
        refine aw_iload K 0 dX12_rule_94 rfl ?_
        refine aw_if_lt K 103 dX12_rule_96 (by decide) (fun h_4 => ?_) (fun h_4 => ?_)
        · refine aw_iconst K dX12_rule_103 ki_0 ?_
          refine aw_lv [2, 3, 0] rfl ?_
          exact (a_f_M_rule_104 l K hg) _ _ _ _
        · refine aw_iconst K dX12_rule_99 ki_1 ?_
          refine aw_goto K 104 dX12_rule_100 (by decide) ?_
          refine aw_lv [2, 3, 0] rfl ?_
          exact (a_f_M_rule_104 l K hg) _ _ _ _
      · refine aw_iconst K dX12_rule_86 ki_2 ?_
        refine aw_goto K 91 dX12_rule_87 (by decide) ?_
        refine aw_istore K (i := 4) (lv' := [(4, .int (2 : Int32)), (2, .long r2), (0, rf P 148), (1, .int x1)]) dX12_rule_91 (Nat.le_of_ble_eq_true rfl) rfl ?_
        refine aw_aload_n K 2 dX12_rule_93 rfl ?_
        refine aw_iload K 0 dX12_rule_94 rfl ?_
        refine aw_if_lt K 103 dX12_rule_96 (by decide) (fun h_5 => ?_) (fun h_5 => ?_)
        · refine aw_iconst K dX12_rule_103 ki_0 ?_
          refine aw_lv [2, 3, 0] rfl ?_
          exact (a_f_M_rule_104 l K hg) _ _ _ _
        · refine aw_iconst K dX12_rule_99 ki_1 ?_
          refine aw_goto K 104 dX12_rule_100 (by decide) ?_
          refine aw_lv [2, 3, 0] rfl ?_
          exact (a_f_M_rule_104 l K hg) _ _ _ _
    · refine aw_iconst K dX12_rule_74 ki_1 ?_
      refine aw_goto K 91 dX12_rule_75 (by decide) ?_
      refine aw_istore K (i := 4) (lv' := [(4, .int (1 : Int32)), (2, .long r2), (0, rf P 148), (1, .int x1)]) dX12_rule_91 (Nat.le_of_ble_eq_true rfl) rfl ?_
      refine aw_aload_n K 2 dX12_rule_93 rfl ?_
      refine aw_iload K 0 dX12_rule_94 rfl ?_
      refine aw_if_lt K 103 dX12_rule_96 (by decide) (fun h_6 => ?_) (fun h_6 => ?_)
      · refine aw_iconst K dX12_rule_103 ki_0 ?_
        refine aw_lv [2, 3, 0] rfl ?_
        exact (a_f_M_rule_104 l K hg) _ _ _ _
      · refine aw_iconst K dX12_rule_99 ki_1 ?_
        refine aw_goto K 104 dX12_rule_100 (by decide) ?_
        refine aw_lv [2, 3, 0] rfl ?_
        exact (a_f_M_rule_104 l K hg) _ _ _ _
  · refine aw_iconst K dX12_rule_62 ki_0 ?_
    refine aw_goto K 91 dX12_rule_63 (by decide) ?_
    refine aw_istore K (i := 4) (lv' := [(4, .int (0 : Int32)), (2, .long r2), (0, rf P 148), (1, .int x1)]) dX12_rule_91 (Nat.le_of_ble_eq_true rfl) rfl ?_
    refine aw_aload_n K 2 dX12_rule_93 rfl ?_
    refine aw_iload K 0 dX12_rule_94 rfl ?_
    refine aw_if_lt K 103 dX12_rule_96 (by decide) (fun h_7 => ?_) (fun h_7 => ?_)
    · refine aw_iconst K dX12_rule_103 ki_0 ?_
      refine aw_lv [2, 3, 0] rfl ?_
      exact (a_f_M_rule_104 l K hg) _ _ _ _
    · refine aw_iconst K dX12_rule_99 ki_1 ?_
      refine aw_goto K 104 dX12_rule_100 (by decide) ?_
      refine aw_lv [2, 3, 0] rfl ?_
      exact (a_f_M_rule_104 l K hg) _ _ _ _
set_option maxRecDepth 100000 in
set_option maxHeartbeats 4000000 in
theorem c_f_M_rule (l : Launch) : CTV l (43) yX12_rule cX12_rule 7 (none) (fun P => [rf P 148]) (fun σ => f_M_rule σ) := by
  refine met_V rfl rfl rfl (fun P => Nat.le_of_ble_eq_true rfl) (fun P G K hg σ => ?_)
  change AW P G 7 (EV P G cX12_rule) (f_M_rule σ) σ 0 [(0, rf P 148)] []
  rw [f_M_rule]
  refine aw_aload_n K 0 dX12_rule_0 rfl ?_
  refine aw_callVI K dX12_rule_1 vw_X12_402_12 (c_f_M_kindHere l) hg (by decide) ob_148 rfl (Nat.le_of_ble_eq_true rfl) rfl rfl (fun r2 σ1 _ => ?_)
  refine aw_istore_n K (i := 1) (lv' := [(1, .int r2), (0, rf P 148)]) dX12_rule_4 rfl (Nat.le_of_ble_eq_true rfl) rfl ?_
  refine aw_aload_n K 1 dX12_rule_5 rfl ?_
  refine aw_iload_n K 0 dX12_rule_6 rfl ?_
  refine aw_if_lt K 25 dX12_rule_7 (by decide) (fun h_1 => ?_) (fun h_1 => ?_)
  · refine aw_iconst K dX12_rule_25 ki_0 ?_
    refine aw_callVV K dX12_rule_26 vw_X12_336_12 (c_f_M_wants l _) hg (by decide) ob_148 rfl (Nat.le_of_ble_eq_true rfl) rfl rfl (fun _ σ3 _ => ?_)
    refine aw_aload_n K 1 dX12_rule_29 rfl ?_
    refine aw_callVL K dX12_rule_30 vw_X12_340_12 (c_f_M_word l) hg (by decide) ob_148 rfl (Nat.le_of_ble_eq_true rfl) rfl rfl (fun r5 σ4 _ => ?_)
    refine aw_ldc2 K (x := (294 : Int64)) dX12_rule_33 (in_r25 _ (List.mem_of_getElem? (i := 18) rfl)) ?_
    refine aw_lcmp K dX12_rule_36 ?_
    refine aw_if_ne K 49 dX12_rule_37 (by decide) (fun h_2 => ?_) (fun h_2 => ?_)
    · refine aw_lv [1, 0] rfl ?_
      exact (a_f_M_rule_49 l K hg) _ _
    · refine aw_aload_n K 1 dX12_rule_40 rfl ?_
      refine aw_iconst K dX12_rule_41 ki_1 ?_
      refine aw_callVV K dX12_rule_42 vw_X12_336_12 (c_f_M_wants l _) hg (by decide) ob_148 rfl (Nat.le_of_ble_eq_true rfl) rfl rfl (fun _ σ6 _ => ?_)
      refine aw_aload_n K 1 dX12_rule_45 rfl ?_
      refine aw_callVV K dX12_rule_46 vw_X12_386_12 (c_f_M_condition l DP) hg (by decide) ob_148 rfl (Nat.le_of_ble_eq_true rfl) rfl rfl (fun _ σ7 _ => ?_)
      refine aw_lv [1, 0] rfl ?_
      exact (a_f_M_rule_49 l K hg) _ _
  · refine aw_aload_n K 1 dX12_rule_10 rfl ?_
    refine aw_getR K (c' := 149) dX12_rule_11 lk_X12_7_12 fd_148_0 ?_
    refine aw_iconst K dX12_rule_14 ki_1 ?_
    refine aw_ald K dX12_rule_15 ad_149 (by decide) kn_1 ?_
    refine aw_bipush K dX12_rule_16 kb_8 ?_
    refine aw_icmp_ge K 25 dX12_rule_18 (by decide) (fun h_3 => ?_) (fun h_3 => ?_)
    · refine aw_iconst K dX12_rule_25 ki_0 ?_
      refine aw_callVV K dX12_rule_26 vw_X12_336_12 (c_f_M_wants l _) hg (by decide) ob_148 rfl (Nat.le_of_ble_eq_true rfl) rfl rfl (fun _ σ8 _ => ?_)
      refine aw_aload_n K 1 dX12_rule_29 rfl ?_
      refine aw_callVL K dX12_rule_30 vw_X12_340_12 (c_f_M_word l) hg (by decide) ob_148 rfl (Nat.le_of_ble_eq_true rfl) rfl rfl (fun r10 σ9 _ => ?_)
      refine aw_ldc2 K (x := (294 : Int64)) dX12_rule_33 (in_r25 _ (List.mem_of_getElem? (i := 18) rfl)) ?_
      refine aw_lcmp K dX12_rule_36 ?_
      refine aw_if_ne K 49 dX12_rule_37 (by decide) (fun h_4 => ?_) (fun h_4 => ?_)
      · refine aw_lv [1, 0] rfl ?_
        exact (a_f_M_rule_49 l K hg) _ _
      · refine aw_aload_n K 1 dX12_rule_40 rfl ?_
        refine aw_iconst K dX12_rule_41 ki_1 ?_
        refine aw_callVV K dX12_rule_42 vw_X12_336_12 (c_f_M_wants l _) hg (by decide) ob_148 rfl (Nat.le_of_ble_eq_true rfl) rfl rfl (fun _ σ11 _ => ?_)
        refine aw_aload_n K 1 dX12_rule_45 rfl ?_
        refine aw_callVV K dX12_rule_46 vw_X12_386_12 (c_f_M_condition l DP) hg (by decide) ob_148 rfl (Nat.le_of_ble_eq_true rfl) rfl rfl (fun _ σ12 _ => ?_)
        refine aw_lv [1, 0] rfl ?_
        exact (a_f_M_rule_49 l K hg) _ _
    · refine aw_iconst K dX12_rule_21 ki_1 ?_
      refine aw_goto K 26 dX12_rule_22 (by decide) ?_
      refine aw_callVV K dX12_rule_26 vw_X12_336_12 (c_f_M_wants l _) hg (by decide) ob_148 rfl (Nat.le_of_ble_eq_true rfl) rfl rfl (fun _ σ13 _ => ?_)
      refine aw_aload_n K 1 dX12_rule_29 rfl ?_
      refine aw_callVL K dX12_rule_30 vw_X12_340_12 (c_f_M_word l) hg (by decide) ob_148 rfl (Nat.le_of_ble_eq_true rfl) rfl rfl (fun r15 σ14 _ => ?_)
      refine aw_ldc2 K (x := (294 : Int64)) dX12_rule_33 (in_r25 _ (List.mem_of_getElem? (i := 18) rfl)) ?_
      refine aw_lcmp K dX12_rule_36 ?_
      refine aw_if_ne K 49 dX12_rule_37 (by decide) (fun h_5 => ?_) (fun h_5 => ?_)
      · refine aw_lv [1, 0] rfl ?_
        exact (a_f_M_rule_49 l K hg) _ _
      · refine aw_aload_n K 1 dX12_rule_40 rfl ?_
        refine aw_iconst K dX12_rule_41 ki_1 ?_
        refine aw_callVV K dX12_rule_42 vw_X12_336_12 (c_f_M_wants l _) hg (by decide) ob_148 rfl (Nat.le_of_ble_eq_true rfl) rfl rfl (fun _ σ16 _ => ?_)
        refine aw_aload_n K 1 dX12_rule_45 rfl ?_
        refine aw_callVV K dX12_rule_46 vw_X12_386_12 (c_f_M_condition l DP) hg (by decide) ob_148 rfl (Nat.le_of_ble_eq_true rfl) rfl rfl (fun _ σ17 _ => ?_)
        refine aw_lv [1, 0] rfl ?_
        exact (a_f_M_rule_49 l K hg) _ _
set_option maxRecDepth 100000 in
set_option maxHeartbeats 4000000 in
theorem a_f_M_rules_60 (l : Launch) {P : PT} {G : GT} (K : CX P G cX12_rules RX12 (44) 1) (hg : gl G = l) : ∀ (σ : SG), AW P G 1 (EI P G cX12_rules) (f_M_rules_60 σ) σ 60 [(0, rf P 148)] [] := by
  intro σ
  rw [f_M_rules_60]
  refine aw_aload_n K 0 dX12_rules_60 rfl ?_
  refine aw_iconst K dX12_rules_61 ki_0 ?_
  refine aw_putI K dX12_rules_62 lp_X12_294_12 fd_148_26 (fun σ1 => ?_)
  refine aw_aload_n K 0 dX12_rules_65 rfl ?_
  refine aw_getZ K dX12_rules_66 lk_X12_322_12 fd_148_32 ?_
  refine aw_if_eq K 84 dX12_rules_69 (by decide) (fun h_1 => ?_) (fun h_1 => ?_)
  · refine aw_aload_n K 0 dX12_rules_84 rfl ?_
    refine aw_getR K (c' := 149) dX12_rules_85 lk_X12_7_12 fd_148_0 ?_
    refine aw_iconst K dX12_rules_88 ki_1 ?_
    refine aw_ald K dX12_rules_89 ad_149 (by decide) kn_1 ?_
    exact aw_iret dX12_rules_90
  · refine aw_aload_n K 0 dX12_rules_72 rfl ?_
    refine aw_callVV K dX12_rules_73 vw_X12_283_12 (c_f_M_putsBack l) hg (by decide) ob_148 rfl (Nat.le_of_ble_eq_true rfl) rfl rfl (fun _ σ2 _ => ?_)
    refine aw_bipush K dX12_rules_76 kb_m100 ?_
    refine aw_aload_n K 0 dX12_rules_78 rfl ?_
    refine aw_getI K dX12_rules_79 lk_X12_310_12 fd_148_27 ?_
    refine aw_isub K dX12_rules_82 ?_
    exact aw_iret dX12_rules_83
set_option maxRecDepth 100000 in
set_option maxHeartbeats 4000000 in
theorem a_f_M_rules_35 (l : Launch) {P : PT} {G : GT} (K : CX P G cX12_rules RX12 (44) 1) (hg : gl G = l) : ∀ (n : Nat) (σ : SG), AW P G 1 (EI P G cX12_rules) (f_M_rules_35 n σ) σ 35 [(0, rf P 148)] [] := by
  intro n
  induction n with
  | zero =>
    intro σ
    rw [f_M_rules_35]
    exact aw_none
  | succ n ih =>
    intro σ
    rw [f_M_rules_35]
    refine aw_aload_n K 0 dX12_rules_35 rfl ?_
    refine aw_getZ K dX12_rules_36 lk_X12_322_12 fd_148_32 ?_
    refine aw_if_ne K 60 dX12_rules_39 (by decide) (fun h_1 => ?_) (fun h_1 => ?_)
    · refine aw_lv [0] rfl ?_
      exact (a_f_M_rules_60 l K hg) _
    · refine aw_aload_n K 0 dX12_rules_42 rfl ?_
      refine aw_getI K dX12_rules_43 lk_X12_310_12 fd_148_27 ?_
      refine aw_aload_n K 0 dX12_rules_46 rfl ?_
      refine aw_getI K dX12_rules_47 lk_X12_294_12 fd_148_26 ?_
      refine aw_icmp_ge K 60 dX12_rules_50 (by decide) (fun h_2 => ?_) (fun h_2 => ?_)
      · refine aw_lv [0] rfl ?_
        exact (a_f_M_rules_60 l K hg) _
      · refine aw_aload_n K 0 dX12_rules_53 rfl ?_
        refine aw_callVV K dX12_rules_54 vw_X12_413_12 (c_f_M_rule l) hg (by decide) ob_148 rfl (Nat.le_of_ble_eq_true rfl) rfl rfl (fun _ σ1 _ => ?_)
        refine aw_goto K 35 dX12_rules_57 (by decide) ?_
        refine aw_lv [0] rfl ?_
        exact ih _
set_option maxRecDepth 100000 in
set_option maxHeartbeats 4000000 in
theorem c_f_M_rules (l : Launch) : CTI l (44) yX12_rules cX12_rules 1 ((some .int)) (fun P => [rf P 148]) (fun σ => f_M_rules σ) := by
  refine met_I rfl rfl rfl (fun P => Nat.le_of_ble_eq_true rfl) (fun P G K hg σ => ?_)
  change AW P G 1 (EI P G cX12_rules) (f_M_rules σ) σ 0 [(0, rf P 148)] []
  rw [f_M_rules]
  refine aw_aload_n K 0 dX12_rules_0 rfl ?_
  refine aw_callVV K dX12_rules_1 vw_X12_280_12 (c_f_M_puts l) hg (by decide) ob_148 rfl (Nat.le_of_ble_eq_true rfl) rfl rfl (fun _ σ1 _ => ?_)
  refine aw_aload_n K 0 dX12_rules_4 rfl ?_
  refine aw_getR K (c' := 149) dX12_rules_5 lk_X12_7_12 fd_148_0 ?_
  refine aw_iconst K dX12_rules_8 ki_1 ?_
  refine aw_iconst K dX12_rules_9 ki_0 ?_
  refine aw_ast K dX12_rules_10 ad_149 (by decide) kn_1 (fun σ2 => ?_)
  refine aw_aload_n K 0 dX12_rules_11 rfl ?_
  refine aw_iconst K dX12_rules_12 ki_0 ?_
  refine aw_putI K dX12_rules_13 lp_X12_366_12 fd_148_31 (fun σ3 => ?_)
  refine aw_aload_n K 0 dX12_rules_16 rfl ?_
  refine aw_iconst K dX12_rules_17 ki_0 ?_
  refine aw_putI K dX12_rules_18 lp_X12_383_12 fd_148_30 (fun σ4 => ?_)
  refine aw_aload_n K 0 dX12_rules_21 rfl ?_
  refine aw_iconst K dX12_rules_22 ki_0 ?_
  refine aw_putI K dX12_rules_23 lp_X12_307_12 fd_148_28 (fun σ5 => ?_)
  refine aw_aload_n K 0 dX12_rules_26 rfl ?_
  refine aw_iconst K dX12_rules_27 ki_0 ?_
  refine aw_putZ K dX12_rules_28 lp_X12_322_12 fd_148_32 (by decide) (fun σ6 => ?_)
  refine aw_aload_n K 0 dX12_rules_31 rfl ?_
  refine aw_callVV K dX12_rules_32 vw_X12_326_12 (c_f_M_token l) hg (by decide) ob_148 rfl (Nat.le_of_ble_eq_true rfl) rfl rfl (fun _ σ7 _ => ?_)
  refine aw_lv [0] rfl ?_
  exact (a_f_M_rules_35 l K hg FU) _
set_option maxRecDepth 100000 in
set_option maxHeartbeats 4000000 in
theorem c_f_M_isOne (l : Launch) (x0 : Int32) : CTI l (1) yX12_isOne cX12_isOne 1 ((some .boolean)) (fun P => [.int x0]) (fun σ => f_M_isOne x0 σ) := by
  refine met_Z rfl rfl rfl (fun P => Nat.le_of_ble_eq_true rfl) (fun P G K hg σ => ?_)
  change AW P G 1 (EZ P G cX12_isOne) (f_M_isOne x0 σ) σ 0 [(0, .int x0)] []
  rw [f_M_isOne]
  refine aw_iload_n K 0 dX12_isOne_0 rfl ?_
  refine aw_i2l K dX12_isOne_1 ?_
  refine aw_lconst K dX12_isOne_2 kl_0 ?_
  refine aw_ldc2 K (x := (3 : Int64)) dX12_isOne_3 (in_r52 _ (List.mem_of_getElem? (i := 7) rfl)) ?_
  refine aw_callSI K dX12_isOne_6 vw_X12_68 (c_f_M_in l _ _ _) hg (by decide) rfl (Nat.le_of_ble_eq_true rfl) rfl rfl (fun r2 σ1 _ => ?_)
  refine aw_gd (fun h_1 => ?_)
  exact aw_zret dX12_isOne_9 h_1
set_option maxRecDepth 100000 in
set_option maxHeartbeats 4000000 in
theorem a_f_M_sheet_69 (l : Launch) {P : PT} {G : GT} (K : CX P G cX12_sheet RX12 (2) 5) (hg : gl G = l) : ∀ (n : Nat) (x1 : Int32) (x4 : Int32) (σ : SG), AW P G 5 (EI P G cX12_sheet) (f_M_sheet_69 n x1 x4 σ) σ 69 [(0, rf P 148), (1, .int x1), (4, .int x4)] [] := by
  intro n
  induction n with
  | zero =>
    intro x1 x4 σ
    rw [f_M_sheet_69]
    exact aw_none
  | succ n ih =>
    intro x1 x4 σ
    rw [f_M_sheet_69]
    refine aw_iload K 2 dX12_sheet_69 rfl ?_
    refine aw_bipush K dX12_sheet_71 kb_40 ?_
    refine aw_icmp_ge K 95 dX12_sheet_73 (by decide) (fun h_1 => ?_) (fun h_1 => ?_)
    · refine aw_iconst K dX12_sheet_95 ki_1 ?_
      exact aw_iret dX12_sheet_96
    · refine aw_aload_n K 0 dX12_sheet_76 rfl ?_
      refine aw_getR K (c' := 162) dX12_sheet_77 lk_X12_53_12 fd_148_35 ?_
      refine aw_bipush K dX12_sheet_80 kb_40 ?_
      refine aw_iload_n K 1 dX12_sheet_82 rfl ?_
      refine aw_imul K dX12_sheet_83 ?_
      refine aw_iload K 2 dX12_sheet_84 rfl ?_
      refine aw_iadd K dX12_sheet_86 ?_
      refine aw_iconst K dX12_sheet_87 ki_0 ?_
      refine aw_gd (fun h_2 => ?_)
      refine aw_ast K dX12_sheet_88 ad_162 h_2 rfl (fun σ1 => ?_)
      refine aw_iinc K (lv' := fun y2 => [(4, .int y2), (0, rf P 148), (1, .int x1)]) 2 dX12_sheet_89 rfl ki_1 (Nat.le_of_ble_eq_true rfl) (fun _ => rfl) (fun y2 => ?_)
      refine aw_goto K 69 dX12_sheet_92 (by decide) ?_
      refine aw_lv [1, 2, 0] rfl ?_
      exact ih _ _ _
set_option maxRecDepth 100000 in
set_option maxHeartbeats 4000000 in
theorem a_f_M_sheet_44 (l : Launch) {P : PT} {G : GT} (K : CX P G cX12_sheet RX12 (2) 5) (hg : gl G = l) : ∀ (x1 : Int32) (x2 : Int32) (x3 : Int32) (σ : SG), AW P G 5 (EI P G cX12_sheet) (f_M_sheet_44 x1 x2 x3 σ) σ 44 [(0, rf P 148), (1, .int x1), (2, .int x2), (3, .int x3)] [] := by
  intro x1 x2 x3 σ
  rw [f_M_sheet_44]
  refine aw_aload_n K 0 dX12_sheet_44 rfl ?_
  refine aw_getR K (c' := 160) dX12_sheet_45 lk_X12_47_12 fd_148_33 ?_
  refine aw_iload_n K 1 dX12_sheet_48 rfl ?_
  refine aw_iload_n K 2 dX12_sheet_49 rfl ?_
  refine aw_gd (fun h_1 => ?_)
  refine aw_ast K dX12_sheet_50 ad_160 h_1 rfl (fun σ1 => ?_)
  refine aw_aload_n K 0 dX12_sheet_51 rfl ?_
  refine aw_getR K (c' := 161) dX12_sheet_52 lk_X12_50_12 fd_148_34 ?_
  refine aw_iload_n K 1 dX12_sheet_55 rfl ?_
  refine aw_iload_n K 2 dX12_sheet_56 rfl ?_
  refine aw_if_ge K 64 dX12_sheet_57 (by decide) (fun h_2 => ?_) (fun h_2 => ?_)
  · refine aw_iload_n K 3 dX12_sheet_64 rfl ?_
    refine aw_gd (fun h_3 => ?_)
    refine aw_ast K dX12_sheet_65 ad_161 h_3 rfl (fun σ2 => ?_)
    refine aw_iconst K dX12_sheet_66 ki_0 ?_
    refine aw_istore K (i := 4) (lv' := [(4, .int (0 : Int32)), (0, rf P 148), (1, .int x1), (2, .int x2), (3, .int x3)]) dX12_sheet_67 (Nat.le_of_ble_eq_true rfl) rfl ?_
    refine aw_lv [1, 2, 0] rfl ?_
    exact (a_f_M_sheet_69 l K hg FU) _ _ _
  · refine aw_iconst K dX12_sheet_60 ki_0 ?_
    refine aw_goto K 65 dX12_sheet_61 (by decide) ?_
    refine aw_gd (fun h_4 => ?_)
    refine aw_ast K dX12_sheet_65 ad_161 h_4 rfl (fun σ3 => ?_)
    refine aw_iconst K dX12_sheet_66 ki_0 ?_
    refine aw_istore K (i := 4) (lv' := [(4, .int (0 : Int32)), (0, rf P 148), (1, .int x1), (2, .int x2), (3, .int x3)]) dX12_sheet_67 (Nat.le_of_ble_eq_true rfl) rfl ?_
    refine aw_lv [1, 2, 0] rfl ?_
    exact (a_f_M_sheet_69 l K hg FU) _ _ _
set_option maxRecDepth 100000 in
set_option maxHeartbeats 4000000 in
theorem c_f_M_sheet (l : Launch) (x1 : Int32) (x2 : Int32) (x3 : Int32) : CTI l (2) yX12_sheet cX12_sheet 5 ((some .int)) (fun P => [rf P 148, .int x1, .int x2, .int x3]) (fun σ => f_M_sheet x1 x2 x3 σ) := by
  refine met_I rfl rfl rfl (fun P => Nat.le_of_ble_eq_true rfl) (fun P G K hg σ => ?_)
  change AW P G 5 (EI P G cX12_sheet) (f_M_sheet x1 x2 x3 σ) σ 0 [(0, rf P 148), (1, .int x1), (2, .int x2), (3, .int x3)] []
  rw [f_M_sheet]
  refine aw_iload_n K 1 dX12_sheet_0 rfl ?_
  refine aw_callSI K dX12_sheet_1 vw_X12_418 (c_f_M_isOne l _) hg (by decide) rfl (Nat.le_of_ble_eq_true rfl) rfl rfl (fun r2 σ1 _ => ?_)
  refine aw_if_eq K 31 dX12_sheet_4 (by decide) (fun h_1 => ?_) (fun h_1 => ?_)
  · refine aw_iconst K dX12_sheet_31 ki_m1 ?_
    exact aw_iret dX12_sheet_32
  · refine aw_iload_n K 2 dX12_sheet_7 rfl ?_
    refine aw_i2l K dX12_sheet_8 ?_
    refine aw_ldc2 K (x := (-1 : Int64)) dX12_sheet_9 (in_r52 _ (List.mem_of_getElem? (i := 3) rfl)) ?_
    refine aw_ldc2 K (x := (4 : Int64)) dX12_sheet_12 (in_r43 _ (List.mem_of_getElem? (i := 7) rfl)) ?_
    refine aw_callSI K dX12_sheet_15 vw_X12_68 (c_f_M_in l _ _ _) hg (by decide) rfl (Nat.le_of_ble_eq_true rfl) rfl rfl (fun r4 σ3 _ => ?_)
    refine aw_if_eq K 31 dX12_sheet_18 (by decide) (fun h_2 => ?_) (fun h_2 => ?_)
    · refine aw_iconst K dX12_sheet_31 ki_m1 ?_
      exact aw_iret dX12_sheet_32
    · refine aw_iload_n K 2 dX12_sheet_21 rfl ?_
      refine aw_if_lt K 33 dX12_sheet_22 (by decide) (fun h_3 => ?_) (fun h_3 => ?_)
      · refine aw_iload_n K 2 dX12_sheet_33 rfl ?_
        refine aw_if_lt K 44 dX12_sheet_34 (by decide) (fun h_4 => ?_) (fun h_4 => ?_)
        · refine aw_lv [0, 1, 2, 3] rfl ?_
          exact (a_f_M_sheet_44 l K hg) _ _ _ _
        · refine aw_iload_n K 3 dX12_sheet_37 rfl ?_
          refine aw_if_ge K 44 dX12_sheet_38 (by decide) (fun h_5 => ?_) (fun h_5 => ?_)
          · refine aw_lv [0, 1, 2, 3] rfl ?_
            exact (a_f_M_sheet_44 l K hg) _ _ _ _
          · refine aw_bipush K dX12_sheet_41 kb_m14 ?_
            exact aw_iret dX12_sheet_43
      · refine aw_iload_n K 3 dX12_sheet_25 rfl ?_
        refine aw_bipush K dX12_sheet_26 kb_40 ?_
        refine aw_icmp_le K 33 dX12_sheet_28 (by decide) (fun h_6 => ?_) (fun h_6 => ?_)
        · refine aw_iload_n K 2 dX12_sheet_33 rfl ?_
          refine aw_if_lt K 44 dX12_sheet_34 (by decide) (fun h_7 => ?_) (fun h_7 => ?_)
          · refine aw_lv [0, 1, 2, 3] rfl ?_
            exact (a_f_M_sheet_44 l K hg) _ _ _ _
          · refine aw_iload_n K 3 dX12_sheet_37 rfl ?_
            refine aw_if_ge K 44 dX12_sheet_38 (by decide) (fun h_8 => ?_) (fun h_8 => ?_)
            · refine aw_lv [0, 1, 2, 3] rfl ?_
              exact (a_f_M_sheet_44 l K hg) _ _ _ _
            · refine aw_bipush K dX12_sheet_41 kb_m14 ?_
              exact aw_iret dX12_sheet_43
        · refine aw_iconst K dX12_sheet_31 ki_m1 ?_
          exact aw_iret dX12_sheet_32
set_option maxRecDepth 100000 in
set_option maxHeartbeats 4000000 in
theorem c_f_M_narrowed (l : Launch) (x0 : Int32) (x1 : Int32) : CTI l (0) yX12_narrowed cX12_narrowed 2 ((some .int)) (fun P => [.int x0, .int x1]) (fun σ => f_M_narrowed x0 x1 σ) := by
  refine met_I rfl rfl rfl (fun P => Nat.le_of_ble_eq_true rfl) (fun P G K hg σ => ?_)
  change AW P G 2 (EI P G cX12_narrowed) (f_M_narrowed x0 x1 σ) σ 0 [(0, .int x0), (1, .int x1)] []
  rw [f_M_narrowed]
  refine aw_iload_n K 0 dX12_narrowed_0 rfl ?_
  refine aw_if_ne K 9 dX12_narrowed_1 (by decide) (fun h_1 => ?_) (fun h_1 => ?_)
  · refine aw_iload_n K 0 dX12_narrowed_9 rfl ?_
    refine aw_iconst K dX12_narrowed_10 ki_1 ?_
    refine aw_icmp_ne K 19 dX12_narrowed_11 (by decide) (fun h_2 => ?_) (fun h_2 => ?_)
    · refine aw_iload_n K 0 dX12_narrowed_19 rfl ?_
      refine aw_iconst K dX12_narrowed_20 ki_4 ?_
      refine aw_icmp_ne K 36 dX12_narrowed_21 (by decide) (fun h_3 => ?_) (fun h_3 => ?_)
      · refine aw_iload_n K 1 dX12_narrowed_36 rfl ?_
        exact aw_iret dX12_narrowed_37
      · refine aw_iload_n K 1 dX12_narrowed_24 rfl ?_
        refine aw_if_ne K 32 dX12_narrowed_25 (by decide) (fun h_4 => ?_) (fun h_4 => ?_)
        · refine aw_iconst K dX12_narrowed_32 ki_1 ?_
          refine aw_goto K 37 dX12_narrowed_33 (by decide) ?_
          exact aw_iret dX12_narrowed_37
        · refine aw_iconst K dX12_narrowed_28 ki_0 ?_
          refine aw_goto K 37 dX12_narrowed_29 (by decide) ?_
          exact aw_iret dX12_narrowed_37
    · refine aw_iload_n K 1 dX12_narrowed_14 rfl ?_
      refine aw_i2s K dX12_narrowed_15 ?_
      refine aw_goto K 37 dX12_narrowed_16 (by decide) ?_
      exact aw_iret dX12_narrowed_37
  · refine aw_iload_n K 1 dX12_narrowed_4 rfl ?_
    refine aw_i2b K dX12_narrowed_5 ?_
    refine aw_goto K 37 dX12_narrowed_6 (by decide) ?_
    exact aw_iret dX12_narrowed_37
set_option maxRecDepth 100000 in
set_option maxHeartbeats 4000000 in
theorem c_f_M_write (l : Launch) (x1 : Int32) (x2 : Int32) (x3 : Int32) : CTI l (2) yX12_write cX12_write 4 ((some .int)) (fun P => [rf P 148, .int x1, .int x2, .int x3]) (fun σ => f_M_write x1 x2 x3 σ) := by
  refine met_I rfl rfl rfl (fun P => Nat.le_of_ble_eq_true rfl) (fun P G K hg σ => ?_)
  change AW P G 4 (EI P G cX12_write) (f_M_write x1 x2 x3 σ) σ 0 [(0, rf P 148), (1, .int x1), (2, .int x2), (3, .int x3)] []
  rw [f_M_write]
  refine aw_iload_n K 1 dX12_write_0 rfl ?_
  refine aw_callSI K dX12_write_1 vw_X12_418 (c_f_M_isOne l _) hg (by decide) rfl (Nat.le_of_ble_eq_true rfl) rfl rfl (fun r2 σ1 _ => ?_)
  refine aw_if_ne K 9 dX12_write_4 (by decide) (fun h_1 => ?_) (fun h_1 => ?_)
  · refine aw_aload_n K 0 dX12_write_9 rfl ?_
    refine aw_getR K (c' := 160) dX12_write_10 lk_X12_47_12 fd_148_33 ?_
    refine aw_iload_n K 1 dX12_write_13 rfl ?_
    refine aw_gd (fun h_2 => ?_)
    refine aw_ald K dX12_write_14 ad_160 h_2 rfl ?_
    refine aw_if_ge K 21 dX12_write_15 (by decide) (fun h_3 => ?_) (fun h_3 => ?_)
    · refine aw_iload_n K 2 dX12_write_21 rfl ?_
      refine aw_i2l K dX12_write_22 ?_
      refine aw_lconst K dX12_write_23 kl_0 ?_
      refine aw_aload_n K 0 dX12_write_24 rfl ?_
      refine aw_getR K (c' := 161) dX12_write_25 lk_X12_50_12 fd_148_34 ?_
      refine aw_iload_n K 1 dX12_write_28 rfl ?_
      refine aw_gd (fun h_4 => ?_)
      refine aw_ald K dX12_write_29 ad_161 h_4 rfl ?_
      refine aw_iconst K dX12_write_30 ki_1 ?_
      refine aw_isub K dX12_write_31 ?_
      refine aw_i2l K dX12_write_32 ?_
      refine aw_callSI K dX12_write_33 vw_X12_68 (c_f_M_in l _ _ _) hg (by decide) rfl (Nat.le_of_ble_eq_true rfl) rfl rfl (fun r4 σ3 _ => ?_)
      refine aw_if_ne K 42 dX12_write_36 (by decide) (fun h_5 => ?_) (fun h_5 => ?_)
      · refine aw_aload_n K 0 dX12_write_42 rfl ?_
        refine aw_getR K (c' := 162) dX12_write_43 lk_X12_53_12 fd_148_35 ?_
        refine aw_bipush K dX12_write_46 kb_40 ?_
        refine aw_iload_n K 1 dX12_write_48 rfl ?_
        refine aw_imul K dX12_write_49 ?_
        refine aw_iload_n K 2 dX12_write_50 rfl ?_
        refine aw_iadd K dX12_write_51 ?_
        refine aw_aload_n K 0 dX12_write_52 rfl ?_
        refine aw_getR K (c' := 160) dX12_write_53 lk_X12_47_12 fd_148_33 ?_
        refine aw_iload_n K 1 dX12_write_56 rfl ?_
        refine aw_gd (fun h_6 => ?_)
        refine aw_ald K dX12_write_57 ad_160 h_6 rfl ?_
        refine aw_iload_n K 3 dX12_write_58 rfl ?_
        refine aw_callSI K dX12_write_59 vw_X12_423 (c_f_M_narrowed l _ _) hg (by decide) rfl (Nat.le_of_ble_eq_true rfl) rfl rfl (fun r6 σ5 _ => ?_)
        refine aw_gd (fun h_7 => ?_)
        refine aw_ast K dX12_write_62 ad_162 h_7 rfl (fun σ7 => ?_)
        refine aw_iconst K dX12_write_63 ki_1 ?_
        exact aw_iret dX12_write_64
      · refine aw_bipush K dX12_write_39 kb_m12 ?_
        exact aw_iret dX12_write_41
    · refine aw_bipush K dX12_write_18 kb_m11 ?_
      exact aw_iret dX12_write_20
  · refine aw_iconst K dX12_write_7 ki_m1 ?_
    exact aw_iret dX12_write_8
set_option maxRecDepth 100000 in
set_option maxHeartbeats 4000000 in
theorem c_f_M_whyNot (l : Launch) (x1 : Int32) (x2 : Int32) : CTI l (0) yX12_whyNot cX12_whyNot 3 ((some .int)) (fun P => [rf P 148, .int x1, .int x2]) (fun σ => f_M_whyNot x1 x2 σ) := by
  refine met_I rfl rfl rfl (fun P => Nat.le_of_ble_eq_true rfl) (fun P G K hg σ => ?_)
  change AW P G 3 (EI P G cX12_whyNot) (f_M_whyNot x1 x2 σ) σ 0 [(0, rf P 148), (1, .int x1), (2, .int x2)] []
  rw [f_M_whyNot]
  refine aw_aload_n K 0 dX12_whyNot_0 rfl ?_
  refine aw_getR K (c' := 160) dX12_whyNot_1 lk_X12_47_12 fd_148_33 ?_
  refine aw_iload_n K 1 dX12_whyNot_4 rfl ?_
  refine aw_gd (fun h_1 => ?_)
  refine aw_ald K dX12_whyNot_5 ad_160 h_1 rfl ?_
  refine aw_if_ge K 14 dX12_whyNot_6 (by decide) (fun h_2 => ?_) (fun h_2 => ?_)
  · refine aw_aload_n K 0 dX12_whyNot_14 rfl ?_
    refine aw_getR K (c' := 160) dX12_whyNot_15 lk_X12_47_12 fd_148_33 ?_
    refine aw_iload_n K 1 dX12_whyNot_18 rfl ?_
    refine aw_gd (fun h_3 => ?_)
    refine aw_ald K dX12_whyNot_19 ad_160 h_3 rfl ?_
    refine aw_iload_n K 2 dX12_whyNot_20 rfl ?_
    refine aw_icmp_eq K 29 dX12_whyNot_21 (by decide) (fun h_4 => ?_) (fun h_4 => ?_)
    · refine aw_iconst K dX12_whyNot_29 ki_0 ?_
      exact aw_iret dX12_whyNot_30
    · refine aw_bipush K dX12_whyNot_24 kb_m13 ?_
      refine aw_goto K 30 dX12_whyNot_26 (by decide) ?_
      exact aw_iret dX12_whyNot_30
  · refine aw_bipush K dX12_whyNot_9 kb_m11 ?_
    refine aw_goto K 30 dX12_whyNot_11 (by decide) ?_
    exact aw_iret dX12_whyNot_30
set_option maxRecDepth 100000 in
set_option maxHeartbeats 4000000 in
theorem c_f_M_item (l : Launch) (x1 : Int32) (x2 : Int32) (x3 : Int32) : CTI l (2) yX12_item cX12_item 5 ((some .int)) (fun P => [rf P 148, .int x1, .int x2, .int x3]) (fun σ => f_M_item x1 x2 x3 σ) := by
  refine met_I rfl rfl rfl (fun P => Nat.le_of_ble_eq_true rfl) (fun P G K hg σ => ?_)
  change AW P G 5 (EI P G cX12_item) (f_M_item x1 x2 x3 σ) σ 0 [(0, rf P 148), (1, .int x1), (2, .int x2), (3, .int x3)] []
  rw [f_M_item]
  refine aw_iload_n K 1 dX12_item_0 rfl ?_
  refine aw_callSI K dX12_item_1 vw_X12_418 (c_f_M_isOne l _) hg (by decide) rfl (Nat.le_of_ble_eq_true rfl) rfl rfl (fun r2 σ1 _ => ?_)
  refine aw_if_eq K 19 dX12_item_4 (by decide) (fun h_1 => ?_) (fun h_1 => ?_)
  · refine aw_iconst K dX12_item_19 ki_m1 ?_
    exact aw_iret dX12_item_20
  · refine aw_iload_n K 2 dX12_item_7 rfl ?_
    refine aw_i2l K dX12_item_8 ?_
    refine aw_lconst K dX12_item_9 kl_0 ?_
    refine aw_ldc2 K (x := (4 : Int64)) dX12_item_10 (in_r43 _ (List.mem_of_getElem? (i := 7) rfl)) ?_
    refine aw_callSI K dX12_item_13 vw_X12_68 (c_f_M_in l _ _ _) hg (by decide) rfl (Nat.le_of_ble_eq_true rfl) rfl rfl (fun r4 σ3 _ => ?_)
    refine aw_if_ne K 21 dX12_item_16 (by decide) (fun h_2 => ?_) (fun h_2 => ?_)
    · refine aw_aload_n K 0 dX12_item_21 rfl ?_
      refine aw_iload_n K 1 dX12_item_22 rfl ?_
      refine aw_iload_n K 2 dX12_item_23 rfl ?_
      refine aw_callVI K dX12_item_24 vw_X12_426_12 (c_f_M_whyNot l _ _) hg (by decide) ob_148 rfl (Nat.le_of_ble_eq_true rfl) rfl rfl (fun r6 σ5 _ => ?_)
      refine aw_istore K (i := 4) (lv' := [(4, .int r6), (0, rf P 148), (1, .int x1), (2, .int x2), (3, .int x3)]) dX12_item_27 (Nat.le_of_ble_eq_true rfl) rfl ?_
      refine aw_iload K 0 dX12_item_29 rfl ?_
      refine aw_if_eq K 39 dX12_item_31 (by decide) (fun h_3 => ?_) (fun h_3 => ?_)
      · refine aw_iload_n K 4 dX12_item_39 rfl ?_
        refine aw_i2l K dX12_item_40 ?_
        refine aw_lconst K dX12_item_41 kl_0 ?_
        refine aw_aload_n K 1 dX12_item_42 rfl ?_
        refine aw_getR K (c' := 161) dX12_item_43 lk_X12_50_12 fd_148_34 ?_
        refine aw_iload_n K 2 dX12_item_46 rfl ?_
        refine aw_gd (fun h_4 => ?_)
        refine aw_ald K dX12_item_47 ad_161 h_4 rfl ?_
        refine aw_iconst K dX12_item_48 ki_1 ?_
        refine aw_isub K dX12_item_49 ?_
        refine aw_i2l K dX12_item_50 ?_
        refine aw_callSI K dX12_item_51 vw_X12_68 (c_f_M_in l _ _ _) hg (by decide) rfl (Nat.le_of_ble_eq_true rfl) rfl rfl (fun r8 σ7 _ => ?_)
        refine aw_if_eq K 71 dX12_item_54 (by decide) (fun h_5 => ?_) (fun h_5 => ?_)
        · refine aw_bipush K dX12_item_71 kb_m12 ?_
          exact aw_iret dX12_item_73
        · refine aw_aload_n K 1 dX12_item_57 rfl ?_
          refine aw_getR K (c' := 162) dX12_item_58 lk_X12_53_12 fd_148_35 ?_
          refine aw_bipush K dX12_item_61 kb_40 ?_
          refine aw_iload_n K 2 dX12_item_63 rfl ?_
          refine aw_imul K dX12_item_64 ?_
          refine aw_iload_n K 4 dX12_item_65 rfl ?_
          refine aw_iadd K dX12_item_66 ?_
          refine aw_gd (fun h_6 => ?_)
          refine aw_ald K dX12_item_67 ad_162 h_6 rfl ?_
          refine aw_goto K 73 dX12_item_68 (by decide) ?_
          exact aw_iret dX12_item_73
      · refine aw_iload K 0 dX12_item_34 rfl ?_
        refine aw_goto K 73 dX12_item_36 (by decide) ?_
        exact aw_iret dX12_item_73
    · refine aw_iconst K dX12_item_19 ki_m1 ?_
      exact aw_iret dX12_item_20
