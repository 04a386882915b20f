set_option maxRecDepth 100000 in
set_option maxHeartbeats 4000000 in
theorem a_f_M_findRings_7 (l : Launch) {P : PT} {G : GT} (K : CX P G cX12_findRings RX12 (16) 3) (hg : gl G = l) : ∀ (n : Nat) (x1 : Int32) (x2 : Int32) (σ : SG), AW P G 3 (EV P G cX12_findRings) (f_M_findRings_7 n x1 x2 σ) σ 7 [(0, rf P 148), (1, .int x1), (2, .int x2)] [] := by
  intro n
  induction n with
  | zero =>
    intro x1 x2 σ
    rw [f_M_findRings_7]
    exact aw_none
  | succ n ih =>
    intro x1 x2 σ
    rw [f_M_findRings_7]
    refine aw_iload_n K 2 dX12_findRings_7 rfl ?_
    refine aw_aload_n K 0 dX12_findRings_8 rfl ?_
    refine aw_getR K (c' := 149) dX12_findRings_9 lk_X12_7_12 fd_148_0 ?_
    refine aw_iconst K dX12_findRings_12 ki_0 ?_
    refine aw_ald K dX12_findRings_13 ad_149 (by decide) kn_0 ?_
    refine aw_icmp_ge K 47 dX12_findRings_14 (by decide) (fun h_1 => ?_) (fun h_1 => ?_)
    · exact aw_vret dX12_findRings_47
    · refine aw_aload_n K 0 dX12_findRings_17 rfl ?_
      refine aw_iload_n K 2 dX12_findRings_18 rfl ?_
      refine aw_callVI K dX12_findRings_19 vw_X12_96_12 (c_f_M_isWhole l _) hg (by decide) ob_148 rfl (Nat.le_of_ble_eq_true rfl) rfl rfl (fun r2 σ1 _ => ?_)
      refine aw_if_ne K 41 dX12_findRings_22 (by decide) (fun h_2 => ?_) (fun h_2 => ?_)
      · refine aw_iinc K (lv' := fun y3 => [(2, .int y3), (0, rf P 148), (1, .int x1)]) 2 dX12_findRings_41 rfl ki_1 (Nat.le_of_ble_eq_true rfl) (fun _ => rfl) (fun y3 => ?_)
        refine aw_goto K 7 dX12_findRings_44 (by decide) ?_
        refine aw_lv [1, 2, 0] rfl ?_
        exact ih _ _ _
      · refine aw_aload_n K 0 dX12_findRings_25 rfl ?_
        refine aw_getR K (c' := 156) dX12_findRings_26 lk_X12_35_12 fd_148_16 ?_
        refine aw_iconst K dX12_findRings_29 ki_0 ?_
        refine aw_iload_n K 2 dX12_findRings_30 rfl ?_
        refine aw_ast K dX12_findRings_31 ad_156 (by decide) kn_0 (fun σ4 => ?_)
        refine aw_aload_n K 0 dX12_findRings_32 rfl ?_
        refine aw_iconst K dX12_findRings_33 ki_1 ?_
        refine aw_iconst K dX12_findRings_34 ki_1 ?_
        refine aw_iload_n K 2 dX12_findRings_35 rfl ?_
        refine aw_ishl K dX12_findRings_36 ?_
        refine aw_iload_n K 1 dX12_findRings_37 rfl ?_
        refine aw_callVV K dX12_findRings_38 vw_X12_228_12 (c_f_M_circles l DP _ _ _) hg (by decide) ob_148 rfl (Nat.le_of_ble_eq_true rfl) rfl rfl (fun _ σ5 _ => ?_)
        refine aw_iinc K (lv' := fun y6 => [(2, .int y6), (0, rf P 148), (1, .int x1)]) 2 dX12_findRings_41 rfl ki_1 (Nat.le_of_ble_eq_true rfl) (fun _ => rfl) (fun y6 => ?_)
        refine aw_goto K 7 dX12_findRings_44 (by decide) ?_
        refine aw_lv [1, 2, 0] rfl ?_
        exact ih _ _ _
set_option maxRecDepth 100000 in
set_option maxHeartbeats 4000000 in
theorem c_f_M_findRings (l : Launch) (x1 : Int32) : CTV l (16) yX12_findRings cX12_findRings 3 (none) (fun P => [rf P 148, .int x1]) (fun σ => f_M_findRings x1 σ) := by
  refine met_V rfl rfl rfl (fun P => Nat.le_of_ble_eq_true rfl) (fun P G K hg σ => ?_)
  change AW P G 3 (EV P G cX12_findRings) (f_M_findRings x1 σ) σ 0 [(0, rf P 148), (1, .int x1)] []
  rw [f_M_findRings]
  refine aw_aload_n K 0 dX12_findRings_0 rfl ?_
  refine aw_iconst K dX12_findRings_1 ki_0 ?_
  refine aw_putI K dX12_findRings_2 lp_X12_225_12 fd_148_18 (fun σ1 => ?_)
  refine aw_iconst K dX12_findRings_5 ki_0 ?_
  refine aw_istore_n K (i := 2) (lv' := [(2, .int (0 : Int32)), (0, rf P 148), (1, .int x1)]) dX12_findRings_6 rfl (Nat.le_of_ble_eq_true rfl) rfl ?_
  refine aw_lv [1, 2, 0] rfl ?_
  exact (a_f_M_findRings_7 l K hg FU) _ _ _
set_option maxRecDepth 100000 in
set_option maxHeartbeats 4000000 in
theorem c_f_M_rings (l : Launch) (x1 : Int32) : CTI l (17) yX12_rings cX12_rings 2 ((some .int)) (fun P => [rf P 148, .int x1]) (fun σ => f_M_rings x1 σ) := by
  refine met_I rfl rfl rfl (fun P => Nat.le_of_ble_eq_true rfl) (fun P G K hg σ => ?_)
  change AW P G 2 (EI P G cX12_rings) (f_M_rings x1 σ) σ 0 [(0, rf P 148), (1, .int x1)] []
  rw [f_M_rings]
  refine aw_iload_n K 1 dX12_rings_0 rfl ?_
  refine aw_i2l K dX12_rings_1 ?_
  refine aw_ldc2 K (x := (2 : Int64)) dX12_rings_2 (in_r41 _ (List.mem_of_getElem? (i := 6) rfl)) ?_
  refine aw_ldc2 K (x := (6 : Int64)) dX12_rings_5 (in_r12 _ (List.mem_of_getElem? (i := 7) rfl)) ?_
  refine aw_callSI K dX12_rings_8 vw_X12_68 (c_f_M_in l _ _ _) hg (by decide) rfl (Nat.le_of_ble_eq_true rfl) rfl rfl (fun r2 σ1 _ => ?_)
  refine aw_if_ne K 16 dX12_rings_11 (by decide) (fun h_1 => ?_) (fun h_1 => ?_)
  · refine aw_aload_n K 0 dX12_rings_16 rfl ?_
    refine aw_iload_n K 1 dX12_rings_17 rfl ?_
    refine aw_callVV K dX12_rings_18 vw_X12_233_12 (c_f_M_findRings l _) hg (by decide) ob_148 rfl (Nat.le_of_ble_eq_true rfl) rfl rfl (fun _ σ3 _ => ?_)
    refine aw_aload_n K 0 dX12_rings_21 rfl ?_
    refine aw_getI K dX12_rings_22 lk_X12_225_12 fd_148_18 ?_
    exact aw_iret dX12_rings_25
  · refine aw_iconst K dX12_rings_14 ki_m1 ?_
    exact aw_iret dX12_rings_15
set_option maxRecDepth 100000 in
set_option maxHeartbeats 4000000 in
theorem c_f_M_ring (l : Launch) (x1 : Int32) (x2 : Int32) : CTI l (17) yX12_ring cX12_ring 3 ((some .int)) (fun P => [rf P 148, .int x1, .int x2]) (fun σ => f_M_ring x1 x2 σ) := by
  refine met_I rfl rfl rfl (fun P => Nat.le_of_ble_eq_true rfl) (fun P G K hg σ => ?_)
  change AW P G 3 (EI P G cX12_ring) (f_M_ring x1 x2 σ) σ 0 [(0, rf P 148), (1, .int x1), (2, .int x2)] []
  rw [f_M_ring]
  refine aw_iload_n K 1 dX12_ring_0 rfl ?_
  refine aw_i2l K dX12_ring_1 ?_
  refine aw_ldc2 K (x := (2 : Int64)) dX12_ring_2 (in_r41 _ (List.mem_of_getElem? (i := 6) rfl)) ?_
  refine aw_ldc2 K (x := (6 : Int64)) dX12_ring_5 (in_r12 _ (List.mem_of_getElem? (i := 7) rfl)) ?_
  refine aw_callSI K dX12_ring_8 vw_X12_68 (c_f_M_in l _ _ _) hg (by decide) rfl (Nat.le_of_ble_eq_true rfl) rfl rfl (fun r2 σ1 _ => ?_)
  refine aw_if_eq K 27 dX12_ring_11 (by decide) (fun h_1 => ?_) (fun h_1 => ?_)
  · refine aw_iconst K dX12_ring_27 ki_m1 ?_
    exact aw_iret dX12_ring_28
  · refine aw_iload_n K 2 dX12_ring_14 rfl ?_
    refine aw_i2l K dX12_ring_15 ?_
    refine aw_lconst K dX12_ring_16 kl_0 ?_
    refine aw_iload_n K 1 dX12_ring_17 rfl ?_
    refine aw_iconst K dX12_ring_18 ki_1 ?_
    refine aw_isub K dX12_ring_19 ?_
    refine aw_i2l K dX12_ring_20 ?_
    refine aw_callSI K dX12_ring_21 vw_X12_68 (c_f_M_in l _ _ _) hg (by decide) rfl (Nat.le_of_ble_eq_true rfl) rfl rfl (fun r4 σ3 _ => ?_)
    refine aw_if_ne K 29 dX12_ring_24 (by decide) (fun h_2 => ?_) (fun h_2 => ?_)
    · refine aw_aload_n K 0 dX12_ring_29 rfl ?_
      refine aw_iload_n K 1 dX12_ring_30 rfl ?_
      refine aw_callVV K dX12_ring_31 vw_X12_233_12 (c_f_M_findRings l _) hg (by decide) ob_148 rfl (Nat.le_of_ble_eq_true rfl) rfl rfl (fun _ σ5 _ => ?_)
      refine aw_aload_n K 0 dX12_ring_34 rfl ?_
      refine aw_getI K dX12_ring_35 lk_X12_225_12 fd_148_18 ?_
      refine aw_if_ne K 46 dX12_ring_38 (by decide) (fun h_3 => ?_) (fun h_3 => ?_)
      · refine aw_aload_n K 0 dX12_ring_46 rfl ?_
        refine aw_getR K (c' := 157) dX12_ring_47 lk_X12_38_12 fd_148_17 ?_
        refine aw_iload_n K 2 dX12_ring_50 rfl ?_
        refine aw_gd (fun h_4 => ?_)
        refine aw_ald K dX12_ring_51 ad_157 h_4 rfl ?_
        exact aw_iret dX12_ring_52
      · refine aw_bipush K dX12_ring_41 kb_m3 ?_
        refine aw_goto K 52 dX12_ring_43 (by decide) ?_
        exact aw_iret dX12_ring_52
    · refine aw_iconst K dX12_ring_27 ki_m1 ?_
      exact aw_iret dX12_ring_28
set_option maxRecDepth 100000 in
set_option maxHeartbeats 4000000 in
theorem c_f_M_isBarter (l : Launch) (x1 : Int32) (x2 : Int32) : CTI l (2) yX12_isBarter cX12_isBarter 3 ((some .boolean)) (fun P => [rf P 148, .int x1, .int x2]) (fun σ => f_M_isBarter x1 x2 σ) := by
  refine met_Z rfl rfl rfl (fun P => Nat.le_of_ble_eq_true rfl) (fun P G K hg σ => ?_)
  change AW P G 3 (EZ P G cX12_isBarter) (f_M_isBarter x1 x2 σ) σ 0 [(0, rf P 148), (1, .int x1), (2, .int x2)] []
  rw [f_M_isBarter]
  refine aw_aload_n K 0 dX12_isBarter_0 rfl ?_
  refine aw_iload_n K 1 dX12_isBarter_1 rfl ?_
  refine aw_callVI K dX12_isBarter_2 vw_X12_123_12 (c_f_M_isPerson l _) hg (by decide) ob_148 rfl (Nat.le_of_ble_eq_true rfl) rfl rfl (fun r2 σ1 _ => ?_)
  refine aw_if_eq K 24 dX12_isBarter_5 (by decide) (fun h_1 => ?_) (fun h_1 => ?_)
  · refine aw_iconst K dX12_isBarter_24 ki_0 ?_
    exact aw_zret dX12_isBarter_25 (by decide)
  · refine aw_iload_n K 2 dX12_isBarter_8 rfl ?_
    refine aw_i2l K dX12_isBarter_9 ?_
    refine aw_lconst K dX12_isBarter_10 kl_0 ?_
    refine aw_ldc2 K (x := (4 : Int64)) dX12_isBarter_11 (in_r43 _ (List.mem_of_getElem? (i := 7) rfl)) ?_
    refine aw_callSI K dX12_isBarter_14 vw_X12_68 (c_f_M_in l _ _ _) hg (by decide) rfl (Nat.le_of_ble_eq_true rfl) rfl rfl (fun r4 σ3 _ => ?_)
    refine aw_if_eq K 24 dX12_isBarter_17 (by decide) (fun h_2 => ?_) (fun h_2 => ?_)
    · refine aw_iconst K dX12_isBarter_24 ki_0 ?_
      exact aw_zret dX12_isBarter_25 (by decide)
    · refine aw_iconst K dX12_isBarter_20 ki_1 ?_
      refine aw_goto K 25 dX12_isBarter_21 (by decide) ?_
      exact aw_zret dX12_isBarter_25 (by decide)
set_option maxRecDepth 100000 in
set_option maxHeartbeats 4000000 in
theorem a_f_M_barters_S_22 (l : Launch) {kR : Nat} {fR : Int32 → Int32 → SG → Option (Unit × SG)} (hfR : ∀ (z0 : Int32) (z1 : Int32), CTV l kR yX12_barters cX12_barters 6 (none) (fun P => [rf P 148, .int z0, .int z1]) (fun σ => fR z0 z1 σ)) (hkR : 2 ≤ kR) {P : PT} {G : GT} (K : CX P G cX12_barters RX12 (kR + 1) 6) (hg : gl G = l) : ∀ (n : Nat) (x1 : Int32) (x2 : Int32) (x3 : Int32) (x4 : Int32) (σ : SG), AW P G 6 (EV P G cX12_barters) (f_M_barters_S_22 fR n x1 x2 x3 x4 σ) σ 22 [(0, rf P 148), (1, .int x1), (2, .int x2), (3, .int x3), (4, .int x4)] [] := by
  intro n
  induction n with
  | zero =>
    intro x1 x2 x3 x4 σ
    rw [f_M_barters_S_22]
    exact aw_none
  | succ n ih =>
    intro x1 x2 x3 x4 σ
    rw [f_M_barters_S_22]
    refine aw_iload K 4 dX12_barters_22 rfl ?_
    refine aw_aload_n K 0 dX12_barters_24 rfl ?_
    refine aw_getR K (c' := 149) dX12_barters_25 lk_X12_7_12 fd_148_0 ?_
    refine aw_iconst K dX12_barters_28 ki_0 ?_
    refine aw_ald K dX12_barters_29 ad_149 (by decide) kn_0 ?_
    refine aw_icmp_ge K 112 dX12_barters_30 (by decide) (fun h_1 => ?_) (fun h_1 => ?_)
    · exact aw_vret dX12_barters_112
    · refine aw_iload_n K 2 dX12_barters_33 rfl ?_
      refine aw_if_le K 112 dX12_barters_34 (by decide) (fun h_2 => ?_) (fun h_2 => ?_)
      · exact aw_vret dX12_barters_112
      · refine aw_aload_n K 0 dX12_barters_37 rfl ?_
        refine aw_iload K 4 dX12_barters_38 rfl ?_
        refine aw_iconst K dX12_barters_40 ki_1 ?_
        refine aw_callVI K dX12_barters_41 vw_X12_93_12 (c_f_M_its l _ _) hg (by omega) ob_148 rfl (Nat.le_of_ble_eq_true rfl) rfl rfl (fun r2 σ1 _ => ?_)
        refine aw_istore K (i := 5) (lv' := [(5, .int r2), (0, rf P 148), (1, .int x1), (2, .int x2), (3, .int x3), (4, .int x4)]) dX12_barters_44 (Nat.le_of_ble_eq_true rfl) rfl ?_
        refine aw_aload_n K 1 dX12_barters_46 rfl ?_
        refine aw_iload_n K 2 dX12_barters_47 rfl ?_
        refine aw_iload K 5 dX12_barters_48 rfl ?_
        refine aw_callVI K dX12_barters_50 vw_X12_134_12 (c_f_M_doMeet l _ _) hg (by omega) ob_148 rfl (Nat.le_of_ble_eq_true rfl) rfl rfl (fun r4 σ3 _ => ?_)
        refine aw_if_eq K 106 dX12_barters_53 (by decide) (fun h_3 => ?_) (fun h_3 => ?_)
        · refine aw_iinc K (lv' := fun y5 => [(4, .int y5), (5, .int r2), (0, rf P 148), (1, .int x1), (2, .int x2), (3, .int x3)]) 5 dX12_barters_106 rfl ki_1 (Nat.le_of_ble_eq_true rfl) (fun _ => rfl) (fun y5 => ?_)
          refine aw_goto K 22 dX12_barters_109 (by decide) ?_
          refine aw_lv [2, 3, 4, 5, 0] rfl ?_
          exact ih _ _ _ _ _
        · refine aw_iload K 0 dX12_barters_56 rfl ?_
          refine aw_iload_n K 4 dX12_barters_58 rfl ?_
          refine aw_icmp_eq K 106 dX12_barters_59 (by decide) (fun h_4 => ?_) (fun h_4 => ?_)
          · refine aw_iinc K (lv' := fun y6 => [(4, .int y6), (5, .int r2), (0, rf P 148), (1, .int x1), (2, .int x2), (3, .int x3)]) 5 dX12_barters_106 rfl ki_1 (Nat.le_of_ble_eq_true rfl) (fun _ => rfl) (fun y6 => ?_)
            refine aw_goto K 22 dX12_barters_109 (by decide) ?_
            refine aw_lv [2, 3, 4, 5, 0] rfl ?_
            exact ih _ _ _ _ _
          · refine aw_aload_n K 1 dX12_barters_62 rfl ?_
            refine aw_getR K (c' := 149) dX12_barters_63 lk_X12_7_12 fd_148_0 ?_
            refine aw_bipush K dX12_barters_66 kb_6 ?_
            refine aw_iload_n K 4 dX12_barters_68 rfl ?_
            refine aw_iadd K dX12_barters_69 ?_
            refine aw_gd (fun h_5 => ?_)
            refine aw_ald K dX12_barters_70 ad_149 h_5 rfl ?_
            refine aw_aload_n K 1 dX12_barters_71 rfl ?_
            refine aw_getR K (c' := 149) dX12_barters_72 lk_X12_7_12 fd_148_0 ?_
            refine aw_bipush K dX12_barters_75 kb_6 ?_
            refine aw_iload K 0 dX12_barters_77 rfl ?_
            refine aw_iadd K dX12_barters_79 ?_
            refine aw_gd (fun h_6 => ?_)
            refine aw_ald K dX12_barters_80 ad_149 h_6 rfl ?_
            refine aw_icmp_lt K 106 dX12_barters_81 (by decide) (fun h_7 => ?_) (fun h_7 => ?_)
            · refine aw_iinc K (lv' := fun y7 => [(4, .int y7), (5, .int r2), (0, rf P 148), (1, .int x1), (2, .int x2), (3, .int x3)]) 5 dX12_barters_106 rfl ki_1 (Nat.le_of_ble_eq_true rfl) (fun _ => rfl) (fun y7 => ?_)
              refine aw_goto K 22 dX12_barters_109 (by decide) ?_
              refine aw_lv [2, 3, 4, 5, 0] rfl ?_
              exact ih _ _ _ _ _
            · refine aw_aload_n K 1 dX12_barters_84 rfl ?_
              refine aw_iload_n K 2 dX12_barters_85 rfl ?_
              refine aw_iload K 5 dX12_barters_86 rfl ?_
              refine aw_callVV K dX12_barters_88 vw_X12_171_12 (c_f_M_swaps l _ _) hg (by omega) ob_148 rfl (Nat.le_of_ble_eq_true rfl) rfl rfl (fun _ σ8 _ => ?_)
              refine aw_aload_n K 1 dX12_barters_91 rfl ?_
              refine aw_iload_n K 2 dX12_barters_92 rfl ?_
              refine aw_iload_n K 3 dX12_barters_93 rfl ?_
              refine aw_iconst K dX12_barters_94 ki_1 ?_
              refine aw_isub K dX12_barters_95 ?_
              refine aw_callVV K dX12_barters_96 vw_X12_239_12 (hfR _ _) hg (by omega) ob_148 rfl (Nat.le_of_ble_eq_true rfl) rfl rfl (fun _ σ9 _ => ?_)
              refine aw_aload_n K 1 dX12_barters_99 rfl ?_
              refine aw_iload_n K 2 dX12_barters_100 rfl ?_
              refine aw_iload K 5 dX12_barters_101 rfl ?_
              refine aw_callVV K dX12_barters_103 vw_X12_171_12 (c_f_M_swaps l _ _) hg (by omega) ob_148 rfl (Nat.le_of_ble_eq_true rfl) rfl rfl (fun _ σ10 _ => ?_)
              refine aw_iinc K (lv' := fun y11 => [(4, .int y11), (5, .int r2), (0, rf P 148), (1, .int x1), (2, .int x2), (3, .int x3)]) 5 dX12_barters_106 rfl ki_1 (Nat.le_of_ble_eq_true rfl) (fun _ => rfl) (fun y11 => ?_)
              refine aw_goto K 22 dX12_barters_109 (by decide) ?_
              refine aw_lv [2, 3, 4, 5, 0] rfl ?_
              exact ih _ _ _ _ _
set_option maxRecDepth 100000 in
set_option maxHeartbeats 4000000 in
theorem c_f_M_barters_S (l : Launch) {kR : Nat} {fR : Int32 → Int32 → SG → Option (Unit × SG)} (hfR : ∀ (z0 : Int32) (z1 : Int32), CTV l kR yX12_barters cX12_barters 6 (none) (fun P => [rf P 148, .int z0, .int z1]) (fun σ => fR z0 z1 σ)) (hkR : 2 ≤ kR) (x1 : Int32) (x2 : Int32) : CTV l (kR + 1) yX12_barters cX12_barters 6 (none) (fun P => [rf P 148, .int x1, .int x2]) (fun σ => f_M_barters_S fR x1 x2 σ) := by
  refine met_V rfl rfl rfl (fun P => Nat.le_of_ble_eq_true rfl) (fun P G K hg σ => ?_)
  change AW P G 6 (EV P G cX12_barters) (f_M_barters_S fR x1 x2 σ) σ 0 [(0, rf P 148), (1, .int x1), (2, .int x2)] []
  rw [f_M_barters_S]
  refine aw_aload_n K 0 dX12_barters_0 rfl ?_
  refine aw_iload_n K 1 dX12_barters_1 rfl ?_
  refine aw_iconst K dX12_barters_2 ki_1 ?_
  refine aw_callVI K dX12_barters_3 vw_X12_93_12 (c_f_M_its l _ _) hg (by omega) ob_148 rfl (Nat.le_of_ble_eq_true rfl) rfl rfl (fun r2 σ1 _ => ?_)
  refine aw_istore_n K (i := 3) (lv' := [(3, .int r2), (0, rf P 148), (1, .int x1), (2, .int x2)]) dX12_barters_6 rfl (Nat.le_of_ble_eq_true rfl) rfl ?_
  refine aw_aload_n K 1 dX12_barters_7 rfl ?_
  refine aw_dup K dX12_barters_8 rfl ?_
  refine aw_getI K dX12_barters_9 lk_X12_236_12 fd_148_19 ?_
  refine aw_iconst K dX12_barters_12 ki_1 ?_
  refine aw_iload_n K 0 dX12_barters_13 rfl ?_
  refine aw_ishl K dX12_barters_14 ?_
  refine aw_ior K dX12_barters_15 ?_
  refine aw_putI K dX12_barters_16 lp_X12_236_12 fd_148_19 (fun σ3 => ?_)
  refine aw_iconst K dX12_barters_19 ki_0 ?_
  refine aw_istore K (i := 4) (lv' := [(4, .int (0 : Int32)), (3, .int r2), (0, rf P 148), (1, .int x1), (2, .int x2)]) dX12_barters_20 (Nat.le_of_ble_eq_true rfl) rfl ?_
  refine aw_lv [2, 3, 4, 1, 0] rfl ?_
  exact (a_f_M_barters_S_22 l hfR hkR K hg FU) _ _ _ _ _
theorem c_f_M_barters (l : Launch) (d : Nat) : ∀ (z0 : Int32) (z1 : Int32), CTV l (2 + d * 1) yX12_barters cX12_barters 6 (none) (fun P => [rf P 148, .int z0, .int z1]) (fun σ => f_M_barters d z0 z1 σ) := by
  induction d with
  | zero =>
    intro z0 z1 P σ r σ' hf
    cases hf
  | succ d ih =>
    intro z0 z1
    have q := c_f_M_barters_S l ih (by omega) z0 z1
    rw [show 2 + d * 1 + 1 = 2 + (d + 1) * 1 by omega] at q
    exact q
set_option maxRecDepth 100000 in
set_option maxHeartbeats 4000000 in
theorem c_f_M_comes (l : Launch) (x1 : Int32) (x2 : Int32) : CTI l (15) yX12_comes cX12_comes 3 ((some .int)) (fun P => [rf P 148, .int x1, .int x2]) (fun σ => f_M_comes x1 x2 σ) := by
  refine met_I rfl rfl rfl (fun P => Nat.le_of_ble_eq_true rfl) (fun P G K hg σ => ?_)
  change AW P G 3 (EI P G cX12_comes) (f_M_comes x1 x2 σ) σ 0 [(0, rf P 148), (1, .int x1), (2, .int x2)] []
  rw [f_M_comes]
  refine aw_aload_n K 0 dX12_comes_0 rfl ?_
  refine aw_iload_n K 1 dX12_comes_1 rfl ?_
  refine aw_iload_n K 2 dX12_comes_2 rfl ?_
  refine aw_callVI K dX12_comes_3 vw_X12_244_12 (c_f_M_isBarter l _ _) hg (by decide) ob_148 rfl (Nat.le_of_ble_eq_true rfl) rfl rfl (fun r2 σ1 _ => ?_)
  refine aw_if_ne K 11 dX12_comes_6 (by decide) (fun h_1 => ?_) (fun h_1 => ?_)
  · refine aw_aload_n K 0 dX12_comes_11 rfl ?_
    refine aw_iconst K dX12_comes_12 ki_0 ?_
    refine aw_putI K dX12_comes_13 lp_X12_236_12 fd_148_19 (fun σ3 => ?_)
    refine aw_aload_n K 0 dX12_comes_16 rfl ?_
    refine aw_iload_n K 1 dX12_comes_17 rfl ?_
    refine aw_iload_n K 2 dX12_comes_18 rfl ?_
    refine aw_callVV K dX12_comes_19 vw_X12_239_12 (c_f_M_barters l DP _ _) hg (by decide) ob_148 rfl (Nat.le_of_ble_eq_true rfl) rfl rfl (fun _ σ4 _ => ?_)
    refine aw_aload_n K 0 dX12_comes_22 rfl ?_
    refine aw_getI K dX12_comes_23 lk_X12_236_12 fd_148_19 ?_
    exact aw_iret dX12_comes_26
  · refine aw_iconst K dX12_comes_9 ki_m1 ?_
    exact aw_iret dX12_comes_10
set_option maxRecDepth 100000 in
set_option maxHeartbeats 4000000 in
theorem a_f_M_dearest_27 (l : Launch) {P : PT} {G : GT} (K : CX P G cX12_dearest RX12 (15) 5) (hg : gl G = l) : ∀ (n : Nat) (x3 : Int32) (x4 : Int32) (σ : SG), AW P G 5 (EI P G cX12_dearest) (f_M_dearest_27 n x3 x4 σ) σ 27 [(0, rf P 148), (3, .int x3), (4, .int x4)] [] := by
  intro n
  induction n with
  | zero =>
    intro x3 x4 σ
    rw [f_M_dearest_27]
    exact aw_none
  | succ n ih =>
    intro x3 x4 σ
    rw [f_M_dearest_27]
    refine aw_iload K 2 dX12_dearest_27 rfl ?_
    refine aw_bipush K dX12_dearest_29 kb_8 ?_
    refine aw_icmp_ge K 86 dX12_dearest_31 (by decide) (fun h_1 => ?_) (fun h_1 => ?_)
    · refine aw_iload_n K 1 dX12_dearest_86 rfl ?_
      exact aw_iret dX12_dearest_87
    · refine aw_aload_n K 0 dX12_dearest_34 rfl ?_
      refine aw_getI K dX12_dearest_35 lk_X12_236_12 fd_148_19 ?_
      refine aw_iload K 2 dX12_dearest_38 rfl ?_
      refine aw_ishr K dX12_dearest_40 ?_
      refine aw_iconst K dX12_dearest_41 ki_1 ?_
      refine aw_iand K dX12_dearest_42 ?_
      refine aw_iconst K dX12_dearest_43 ki_1 ?_
      refine aw_icmp_ne K 78 dX12_dearest_44 (by decide) (fun h_2 => ?_) (fun h_2 => ?_)
      · refine aw_iload_n K 1 dX12_dearest_78 rfl ?_
        refine aw_istore_n K (i := 3) (lv' := [(3, .int x3), (0, rf P 148), (4, .int x4)]) dX12_dearest_79 rfl (Nat.le_of_ble_eq_true rfl) rfl ?_
        refine aw_iinc K (lv' := fun y1 => [(4, .int y1), (3, .int x3), (0, rf P 148)]) 2 dX12_dearest_80 rfl ki_1 (Nat.le_of_ble_eq_true rfl) (fun _ => rfl) (fun y1 => ?_)
        refine aw_goto K 27 dX12_dearest_83 (by decide) ?_
        refine aw_lv [2, 1, 0] rfl ?_
        exact ih _ _ _
      · refine aw_iload_n K 1 dX12_dearest_47 rfl ?_
        refine aw_if_lt K 73 dX12_dearest_48 (by decide) (fun h_3 => ?_) (fun h_3 => ?_)
        · refine aw_iload K 2 dX12_dearest_73 rfl ?_
          refine aw_goto K 79 dX12_dearest_75 (by decide) ?_
          refine aw_istore_n K (i := 3) (lv' := [(3, .int x4), (0, rf P 148), (4, .int x4)]) dX12_dearest_79 rfl (Nat.le_of_ble_eq_true rfl) rfl ?_
          refine aw_iinc K (lv' := fun y2 => [(4, .int y2), (3, .int x4), (0, rf P 148)]) 2 dX12_dearest_80 rfl ki_1 (Nat.le_of_ble_eq_true rfl) (fun _ => rfl) (fun y2 => ?_)
          refine aw_goto K 27 dX12_dearest_83 (by decide) ?_
          refine aw_lv [2, 1, 0] rfl ?_
          exact ih _ _ _
        · refine aw_aload_n K 0 dX12_dearest_51 rfl ?_
          refine aw_getR K (c' := 149) dX12_dearest_52 lk_X12_7_12 fd_148_0 ?_
          refine aw_bipush K dX12_dearest_55 kb_6 ?_
          refine aw_iload K 2 dX12_dearest_57 rfl ?_
          refine aw_iadd K dX12_dearest_59 ?_
          refine aw_gd (fun h_4 => ?_)
          refine aw_ald K dX12_dearest_60 ad_149 h_4 rfl ?_
          refine aw_aload_n K 0 dX12_dearest_61 rfl ?_
          refine aw_getR K (c' := 149) dX12_dearest_62 lk_X12_7_12 fd_148_0 ?_
          refine aw_bipush K dX12_dearest_65 kb_6 ?_
          refine aw_iload_n K 1 dX12_dearest_67 rfl ?_
          refine aw_iadd K dX12_dearest_68 ?_
          refine aw_gd (fun h_5 => ?_)
          refine aw_ald K dX12_dearest_69 ad_149 h_5 rfl ?_
          refine aw_icmp_le K 78 dX12_dearest_70 (by decide) (fun h_6 => ?_) (fun h_6 => ?_)
          · refine aw_iload_n K 1 dX12_dearest_78 rfl ?_
            refine aw_istore_n K (i := 3) (lv' := [(3, .int x3), (0, rf P 148), (4, .int x4)]) dX12_dearest_79 rfl (Nat.le_of_ble_eq_true rfl) rfl ?_
            refine aw_iinc K (lv' := fun y3 => [(4, .int y3), (3, .int x3), (0, rf P 148)]) 2 dX12_dearest_80 rfl ki_1 (Nat.le_of_ble_eq_true rfl) (fun _ => rfl) (fun y3 => ?_)
            refine aw_goto K 27 dX12_dearest_83 (by decide) ?_
            refine aw_lv [2, 1, 0] rfl ?_
            exact ih _ _ _
          · refine aw_iload K 2 dX12_dearest_73 rfl ?_
            refine aw_goto K 79 dX12_dearest_75 (by decide) ?_
            refine aw_istore_n K (i := 3) (lv' := [(3, .int x4), (0, rf P 148), (4, .int x4)]) dX12_dearest_79 rfl (Nat.le_of_ble_eq_true rfl) rfl ?_
            refine aw_iinc K (lv' := fun y4 => [(4, .int y4), (3, .int x4), (0, rf P 148)]) 2 dX12_dearest_80 rfl ki_1 (Nat.le_of_ble_eq_true rfl) (fun _ => rfl) (fun y4 => ?_)
            refine aw_goto K 27 dX12_dearest_83 (by decide) ?_
            refine aw_lv [2, 1, 0] rfl ?_
            exact ih _ _ _
set_option maxRecDepth 100000 in
set_option maxHeartbeats 4000000 in
theorem c_f_M_dearest (l : Launch) (x1 : Int32) (x2 : Int32) : CTI l (15) yX12_dearest cX12_dearest 5 ((some .int)) (fun P => [rf P 148, .int x1, .int x2]) (fun σ => f_M_dearest x1 x2 σ) := by
  refine met_I rfl rfl rfl (fun P => Nat.le_of_ble_eq_true rfl) (fun P G K hg σ => ?_)
  change AW P G 5 (EI P G cX12_dearest) (f_M_dearest x1 x2 σ) σ 0 [(0, rf P 148), (1, .int x1), (2, .int x2)] []
  rw [f_M_dearest]
  refine aw_aload_n K 0 dX12_dearest_0 rfl ?_
  refine aw_iload_n K 1 dX12_dearest_1 rfl ?_
  refine aw_iload_n K 2 dX12_dearest_2 rfl ?_
  refine aw_callVI K dX12_dearest_3 vw_X12_244_12 (c_f_M_isBarter l _ _) hg (by decide) ob_148 rfl (Nat.le_of_ble_eq_true rfl) rfl rfl (fun r2 σ1 _ => ?_)
  refine aw_if_ne K 11 dX12_dearest_6 (by decide) (fun h_1 => ?_) (fun h_1 => ?_)
  · refine aw_aload_n K 0 dX12_dearest_11 rfl ?_
    refine aw_iconst K dX12_dearest_12 ki_0 ?_
    refine aw_putI K dX12_dearest_13 lp_X12_236_12 fd_148_19 (fun σ3 => ?_)
    refine aw_aload_n K 0 dX12_dearest_16 rfl ?_
    refine aw_iload_n K 1 dX12_dearest_17 rfl ?_
    refine aw_iload_n K 2 dX12_dearest_18 rfl ?_
    refine aw_callVV K dX12_dearest_19 vw_X12_239_12 (c_f_M_barters l DP _ _) hg (by decide) ob_148 rfl (Nat.le_of_ble_eq_true rfl) rfl rfl (fun _ σ4 _ => ?_)
    refine aw_iconst K dX12_dearest_22 ki_m1 ?_
    refine aw_istore_n K (i := 3) (lv' := [(3, .int (-1 : Int32)), (0, rf P 148), (1, .int x1), (2, .int x2)]) dX12_dearest_23 rfl (Nat.le_of_ble_eq_true rfl) rfl ?_
    refine aw_iconst K dX12_dearest_24 ki_0 ?_
    refine aw_istore K (i := 4) (lv' := [(4, .int (0 : Int32)), (3, .int (-1 : Int32)), (0, rf P 148), (1, .int x1), (2, .int x2)]) dX12_dearest_25 (Nat.le_of_ble_eq_true rfl) rfl ?_
    refine aw_lv [2, 1, 0] rfl ?_
    exact (a_f_M_dearest_27 l K hg FU) _ _ _
  · refine aw_iconst K dX12_dearest_9 ki_m1 ?_
    exact aw_iret dX12_dearest_10
set_option maxRecDepth 100000 in
set_option maxHeartbeats 4000000 in
theorem c_f_M_isGame (l : Launch) (x0 : Int32) : CTI l (1) yX12_isGame cX12_isGame 1 ((some .boolean)) (fun P => [.int x0]) (fun σ => f_M_isGame x0 σ) := by
  refine met_Z rfl rfl rfl (fun P => Nat.le_of_ble_eq_true rfl) (fun P G K hg σ => ?_)
  change AW P G 1 (EZ P G cX12_isGame) (f_M_isGame x0 σ) σ 0 [(0, .int x0)] []
  rw [f_M_isGame]
  refine aw_iload_n K 0 dX12_isGame_0 rfl ?_
  refine aw_i2l K dX12_isGame_1 ?_
  refine aw_lconst K dX12_isGame_2 kl_1 ?_
  refine aw_ldc2 K (x := (6 : Int64)) dX12_isGame_3 (in_r12 _ (List.mem_of_getElem? (i := 7) rfl)) ?_
  refine aw_callSI K dX12_isGame_6 vw_X12_68 (c_f_M_in l _ _ _) hg (by decide) rfl (Nat.le_of_ble_eq_true rfl) rfl rfl (fun r2 σ1 _ => ?_)
  refine aw_gd (fun h_1 => ?_)
  exact aw_zret dX12_isGame_9 h_1
set_option maxRecDepth 100000 in
set_option maxHeartbeats 4000000 in
theorem c_f_M_turned (l : Launch) (x0 : Int32) : CTI l (0) yX12_turned cX12_turned 1 ((some .int)) (fun P => [.int x0]) (fun σ => f_M_turned x0 σ) := by
  refine met_I rfl rfl rfl (fun P => Nat.le_of_ble_eq_true rfl) (fun P G K hg σ => ?_)
  change AW P G 1 (EI P G cX12_turned) (f_M_turned x0 σ) σ 0 [(0, .int x0)] []
  rw [f_M_turned]
  refine aw_iload_n K 0 dX12_turned_0 rfl ?_
  refine aw_iconst K dX12_turned_1 ki_2 ?_
  refine aw_icmp_ne K 9 dX12_turned_2 (by decide) (fun h_1 => ?_) (fun h_1 => ?_)
  · refine aw_iconst K dX12_turned_9 ki_1 ?_
    refine aw_iload_n K 0 dX12_turned_10 rfl ?_
    refine aw_isub K dX12_turned_11 ?_
    exact aw_iret dX12_turned_12
  · refine aw_iconst K dX12_turned_5 ki_2 ?_
    refine aw_goto K 12 dX12_turned_6 (by decide) ?_
    exact aw_iret dX12_turned_12
set_option maxRecDepth 100000 in
set_option maxHeartbeats 4000000 in
theorem c_f_M_valueBy (l : Launch) {kR : Nat} {fR : Int32 → SG → Option (Int32 × SG)} (hfR : ∀ (z0 : Int32), CTI l kR yX12_valueOf cX12_valueOf 5 ((some .int)) (fun P => [rf P 148, .int z0]) (fun σ => fR z0 σ)) (hkR : 8 ≤ kR) (x1 : Int32) (x2 : Int32) : CTI l (kR + 1) yX12_valueBy cX12_valueBy 6 ((some .int)) (fun P => [rf P 148, .int x1, .int x2]) (fun σ => f_M_valueBy fR x1 x2 σ) := by
  refine met_I rfl rfl rfl (fun P => Nat.le_of_ble_eq_true rfl) (fun P G K hg σ => ?_)
  change AW P G 6 (EI P G cX12_valueBy) (f_M_valueBy fR x1 x2 σ) σ 0 [(0, rf P 148), (1, .int x1), (2, .int x2)] []
  rw [f_M_valueBy]
  refine aw_aload_n K 0 dX12_valueBy_0 rfl ?_
  refine aw_iload_n K 1 dX12_valueBy_1 rfl ?_
  refine aw_callVV K dX12_valueBy_2 vw_X12_175_12 (c_f_M_does l _) hg (by omega) ob_148 rfl (Nat.le_of_ble_eq_true rfl) rfl rfl (fun _ σ1 _ => ?_)
  refine aw_aload_n K 0 dX12_valueBy_5 rfl ?_
  refine aw_getI K dX12_valueBy_6 lk_X12_165_12 fd_148_6 ?_
  refine aw_istoreX_n K (i := 3) (lv' := fun y2 => [(3, .int y2), (0, rf P 148), (1, .int x1), (2, .int x2)]) dX12_valueBy_9 rfl (Nat.le_of_ble_eq_true rfl) (fun _ => rfl) (fun y2 => ?_)
  refine aw_aload_n K 1 dX12_valueBy_10 rfl ?_
  refine aw_getI K dX12_valueBy_11 lk_X12_168_12 fd_148_7 ?_
  refine aw_istoreX K (i := 4) (lv' := fun y3 => [(4, .int y3), (3, .int y2), (0, rf P 148), (1, .int x1), (2, .int x2)]) dX12_valueBy_14 (Nat.le_of_ble_eq_true rfl) (fun _ => rfl) (fun y3 => ?_)
  refine aw_aload_n K 2 dX12_valueBy_16 rfl ?_
  refine aw_iload_n K 4 dX12_valueBy_17 rfl ?_
  refine aw_iconst K dX12_valueBy_18 ki_1 ?_
  refine aw_isub K dX12_valueBy_19 ?_
  refine aw_callVI K dX12_valueBy_20 vw_X12_247_12 (hfR _) hg (by omega) ob_148 rfl (Nat.le_of_ble_eq_true rfl) rfl rfl (fun r5 σ4 _ => ?_)
  refine aw_callSI K dX12_valueBy_23 vw_X12_250 (c_f_M_turned l _) hg (by omega) rfl (Nat.le_of_ble_eq_true rfl) rfl rfl (fun r7 σ6 _ => ?_)
  refine aw_istore K (i := 5) (lv' := [(5, .int r7), (4, .int y3), (3, .int y2), (0, rf P 148), (1, .int x1), (2, .int x2)]) dX12_valueBy_26 (Nat.le_of_ble_eq_true rfl) rfl ?_
  refine aw_aload_n K 3 dX12_valueBy_28 rfl ?_
  refine aw_iload_n K 4 dX12_valueBy_29 rfl ?_
  refine aw_iload_n K 2 dX12_valueBy_30 rfl ?_
  refine aw_iload K 1 dX12_valueBy_31 rfl ?_
  refine aw_callVV K dX12_valueBy_33 vw_X12_185_12 (c_f_M_undoes l _ _ _) hg (by omega) ob_148 rfl (Nat.le_of_ble_eq_true rfl) rfl rfl (fun _ σ8 _ => ?_)
  refine aw_iload K 0 dX12_valueBy_36 rfl ?_
  exact aw_iret dX12_valueBy_38
set_option maxRecDepth 100000 in
set_option maxHeartbeats 4000000 in
theorem a_f_M_valueOf_S_14 (l : Launch) {kR : Nat} {fR : Int32 → SG → Option (Int32 × SG)} (hfR : ∀ (z0 : Int32), CTI l kR yX12_valueOf cX12_valueOf 5 ((some .int)) (fun P => [rf P 148, .int z0]) (fun σ => fR z0 σ)) (hkR : 8 ≤ kR) {P : PT} {G : GT} (K : CX P G cX12_valueOf RX12 (kR + 2) 5) (hg : gl G = l) : ∀ (n : Nat) (x1 : Int32) (x2 : Int32) (x3 : Int32) (σ : SG), AW P G 5 (EI P G cX12_valueOf) (f_M_valueOf_S_14 fR n x1 x2 x3 σ) σ 14 [(0, rf P 148), (1, .int x1), (2, .int x2), (3, .int x3)] [] := by
  intro n
  induction n with
  | zero =>
    intro x1 x2 x3 σ
    rw [f_M_valueOf_S_14]
    exact aw_none
  | succ n ih =>
    intro x1 x2 x3 σ
    rw [f_M_valueOf_S_14]
    refine aw_iload_n K 3 dX12_valueOf_14 rfl ?_
    refine aw_if_lt K 60 dX12_valueOf_15 (by decide) (fun h_1 => ?_) (fun h_1 => ?_)
    · refine aw_iload_n K 2 dX12_valueOf_60 rfl ?_
      exact aw_iret dX12_valueOf_61
    · refine aw_iload_n K 2 dX12_valueOf_18 rfl ?_
      refine aw_if_eq K 60 dX12_valueOf_19 (by decide) (fun h_2 => ?_) (fun h_2 => ?_)
      · refine aw_iload_n K 2 dX12_valueOf_60 rfl ?_
        exact aw_iret dX12_valueOf_61
      · refine aw_aload_n K 0 dX12_valueOf_22 rfl ?_
        refine aw_iload_n K 3 dX12_valueOf_23 rfl ?_
        refine aw_iload_n K 1 dX12_valueOf_24 rfl ?_
        refine aw_callVI K dX12_valueOf_25 vw_X12_253_12 (c_f_M_valueBy l hfR hkR _ _) hg (by omega) ob_148 rfl (Nat.le_of_ble_eq_true rfl) rfl rfl (fun r2 σ1 _ => ?_)
        refine aw_istore K (i := 4) (lv' := [(4, .int r2), (0, rf P 148), (1, .int x1), (2, .int x2), (3, .int x3)]) dX12_valueOf_28 (Nat.le_of_ble_eq_true rfl) rfl ?_
        refine aw_iload K 0 dX12_valueOf_30 rfl ?_
        refine aw_if_ne K 39 dX12_valueOf_32 (by decide) (fun h_3 => ?_) (fun h_3 => ?_)
        · refine aw_iload K 0 dX12_valueOf_39 rfl ?_
          refine aw_iconst K dX12_valueOf_41 ki_2 ?_
          refine aw_icmp_ne K 49 dX12_valueOf_42 (by decide) (fun h_4 => ?_) (fun h_4 => ?_)
          · refine aw_iload_n K 3 dX12_valueOf_49 rfl ?_
            refine aw_istore_n K (i := 2) (lv' := [(2, .int x2), (4, .int r2), (0, rf P 148), (1, .int x1), (3, .int x3)]) dX12_valueOf_50 rfl (Nat.le_of_ble_eq_true rfl) rfl ?_
            refine aw_aload_n K 2 dX12_valueOf_51 rfl ?_
            refine aw_iload_n K 4 dX12_valueOf_52 rfl ?_
            refine aw_callVI K dX12_valueOf_53 vw_X12_179_12 (c_f_M_nextChange l _) hg (by omega) ob_148 rfl (Nat.le_of_ble_eq_true rfl) rfl rfl (fun r4 σ3 _ => ?_)
            refine aw_istore_n K (i := 3) (lv' := [(3, .int r4), (2, .int x2), (4, .int r2), (0, rf P 148), (1, .int x1)]) dX12_valueOf_56 rfl (Nat.le_of_ble_eq_true rfl) rfl ?_
            refine aw_goto K 14 dX12_valueOf_57 (by decide) ?_
            refine aw_lv [3, 4, 1, 0] rfl ?_
            exact ih _ _ _ _
          · refine aw_iconst K dX12_valueOf_45 ki_2 ?_
            refine aw_goto K 50 dX12_valueOf_46 (by decide) ?_
            refine aw_istore_n K (i := 2) (lv' := [(2, .int (2 : Int32)), (4, .int r2), (0, rf P 148), (1, .int x1), (3, .int x3)]) dX12_valueOf_50 rfl (Nat.le_of_ble_eq_true rfl) rfl ?_
            refine aw_aload_n K 2 dX12_valueOf_51 rfl ?_
            refine aw_iload_n K 4 dX12_valueOf_52 rfl ?_
            refine aw_callVI K dX12_valueOf_53 vw_X12_179_12 (c_f_M_nextChange l _) hg (by omega) ob_148 rfl (Nat.le_of_ble_eq_true rfl) rfl rfl (fun r6 σ5 _ => ?_)
            refine aw_istore_n K (i := 3) (lv' := [(3, .int r6), (2, .int (2 : Int32)), (4, .int r2), (0, rf P 148), (1, .int x1)]) dX12_valueOf_56 rfl (Nat.le_of_ble_eq_true rfl) rfl ?_
            refine aw_goto K 14 dX12_valueOf_57 (by decide) ?_
            refine aw_lv [3, 4, 1, 0] rfl ?_
            exact ih _ _ _ _
        · refine aw_iconst K dX12_valueOf_35 ki_0 ?_
          refine aw_goto K 50 dX12_valueOf_36 (by decide) ?_
          refine aw_istore_n K (i := 2) (lv' := [(2, .int (0 : Int32)), (4, .int r2), (0, rf P 148), (1, .int x1), (3, .int x3)]) dX12_valueOf_50 rfl (Nat.le_of_ble_eq_true rfl) rfl ?_
          refine aw_aload_n K 2 dX12_valueOf_51 rfl ?_
          refine aw_iload_n K 4 dX12_valueOf_52 rfl ?_
          refine aw_callVI K dX12_valueOf_53 vw_X12_179_12 (c_f_M_nextChange l _) hg (by omega) ob_148 rfl (Nat.le_of_ble_eq_true rfl) rfl rfl (fun r8 σ7 _ => ?_)
          refine aw_istore_n K (i := 3) (lv' := [(3, .int r8), (2, .int (0 : Int32)), (4, .int r2), (0, rf P 148), (1, .int x1)]) dX12_valueOf_56 rfl (Nat.le_of_ble_eq_true rfl) rfl ?_
          refine aw_goto K 14 dX12_valueOf_57 (by decide) ?_
          refine aw_lv [3, 4, 1, 0] rfl ?_
          exact ih _ _ _ _
set_option maxRecDepth 100000 in
set_option maxHeartbeats 4000000 in
theorem c_f_M_valueOf_S (l : Launch) {kR : Nat} {fR : Int32 → SG → Option (Int32 × SG)} (hfR : ∀ (z0 : Int32), CTI l kR yX12_valueOf cX12_valueOf 5 ((some .int)) (fun P => [rf P 148, .int z0]) (fun σ => fR z0 σ)) (hkR : 8 ≤ kR) (x1 : Int32) : CTI l (kR + 2) yX12_valueOf cX12_valueOf 5 ((some .int)) (fun P => [rf P 148, .int x1]) (fun σ => f_M_valueOf_S fR x1 σ) := by
  refine met_I rfl rfl rfl (fun P => Nat.le_of_ble_eq_true rfl) (fun P G K hg σ => ?_)
  change AW P G 5 (EI P G cX12_valueOf) (f_M_valueOf_S fR x1 σ) σ 0 [(0, rf P 148), (1, .int x1)] []
  rw [f_M_valueOf_S]
  refine aw_iload_n K 1 dX12_valueOf_0 rfl ?_
  refine aw_if_ne K 6 dX12_valueOf_1 (by decide) (fun h_1 => ?_) (fun h_1 => ?_)
  · refine aw_iconst K dX12_valueOf_6 ki_1 ?_
    refine aw_istore_n K (i := 2) (lv' := [(2, .int (1 : Int32)), (0, rf P 148), (1, .int x1)]) dX12_valueOf_7 rfl (Nat.le_of_ble_eq_true rfl) rfl ?_
    refine aw_aload_n K 1 dX12_valueOf_8 rfl ?_
    refine aw_iconst K dX12_valueOf_9 ki_m1 ?_
    refine aw_callVI K dX12_valueOf_10 vw_X12_179_12 (c_f_M_nextChange l _) hg (by omega) ob_148 rfl (Nat.le_of_ble_eq_true rfl) rfl rfl (fun r2 σ1 _ => ?_)
    refine aw_istore_n K (i := 3) (lv' := [(3, .int r2), (2, .int (1 : Int32)), (0, rf P 148), (1, .int x1)]) dX12_valueOf_13 rfl (Nat.le_of_ble_eq_true rfl) rfl ?_
    refine aw_lv [2, 3, 1, 0] rfl ?_
    exact (a_f_M_valueOf_S_14 l hfR hkR K hg FU) _ _ _ _
  · refine aw_iconst K dX12_valueOf_4 ki_2 ?_
    exact aw_iret dX12_valueOf_5
theorem c_f_M_valueOf (l : Launch) (d : Nat) : ∀ (z0 : Int32), CTI l (8 + d * 2) yX12_valueOf cX12_valueOf 5 ((some .int)) (fun P => [rf P 148, .int z0]) (fun σ => f_M_valueOf d z0 σ) := by
  induction d with
  | zero =>
    intro z0 P σ r σ' hf
    cases hf
  | succ d ih =>
    intro z0
    have q := c_f_M_valueOf_S l ih (by omega) z0
    rw [show 8 + d * 2 + 2 = 8 + (d + 1) * 2 by omega] at q
    exact q
set_option maxRecDepth 100000 in
set_option maxHeartbeats 4000000 in
theorem c_f_M_game (l : Launch) (x1 : Int32) : CTI l (33) yX12_game cX12_game 2 ((some .int)) (fun P => [rf P 148, .int x1]) (fun σ => f_M_game x1 σ) := by
  refine met_I rfl rfl rfl (fun P => Nat.le_of_ble_eq_true rfl) (fun P G K hg σ => ?_)
  change AW P G 2 (EI P G cX12_game) (f_M_game x1 σ) σ 0 [(0, rf P 148), (1, .int x1)] []
  rw [f_M_game]
  refine aw_iload_n K 1 dX12_game_0 rfl ?_
  refine aw_callSI K dX12_game_1 vw_X12_256 (c_f_M_isGame l _) hg (by decide) rfl (Nat.le_of_ble_eq_true rfl) rfl rfl (fun r2 σ1 _ => ?_)
  refine aw_if_eq K 15 dX12_game_4 (by decide) (fun h_1 => ?_) (fun h_1 => ?_)
  · refine aw_iconst K dX12_game_15 ki_m1 ?_
    exact aw_iret dX12_game_16
  · refine aw_aload_n K 0 dX12_game_7 rfl ?_
    refine aw_iload_n K 1 dX12_game_8 rfl ?_
    refine aw_callVI K dX12_game_9 vw_X12_247_12 (c_f_M_valueOf l DP _) hg (by decide) ob_148 rfl (Nat.le_of_ble_eq_true rfl) rfl rfl (fun r4 σ3 _ => ?_)
    refine aw_goto K 16 dX12_game_12 (by decide) ?_
    exact aw_iret dX12_game_16
set_option maxRecDepth 100000 in
set_option maxHeartbeats 4000000 in
theorem a_f_M_play_21 (l : Launch) {P : PT} {G : GT} (K : CX P G cX12_play RX12 (34) 4) (hg : gl G = l) : ∀ (n : Nat) (x1 : Int32) (x2 : Int32) (x3 : Int32) (σ : SG), AW P G 4 (EI P G cX12_play) (f_M_play_21 n x1 x2 x3 σ) σ 21 [(0, rf P 148), (1, .int x1), (2, .int x2), (3, .int x3)] [] := by
  intro n
  induction n with
  | zero =>
    intro x1 x2 x3 σ
    rw [f_M_play_21]
    exact aw_none
  | succ n ih =>
    intro x1 x2 x3 σ
    rw [f_M_play_21]
    refine aw_iload_n K 3 dX12_play_21 rfl ?_
    refine aw_if_lt K 46 dX12_play_22 (by decide) (fun h_1 => ?_) (fun h_1 => ?_)
    · refine aw_bipush K dX12_play_46 kb_m3 ?_
      exact aw_iret dX12_play_48
    · refine aw_aload_n K 0 dX12_play_25 rfl ?_
      refine aw_iload_n K 3 dX12_play_26 rfl ?_
      refine aw_iload_n K 1 dX12_play_27 rfl ?_
      refine aw_callVI K dX12_play_28 vw_X12_253_12 (c_f_M_valueBy l (c_f_M_valueOf l DP) (by decide) _ _) hg (by decide) ob_148 rfl (Nat.le_of_ble_eq_true rfl) rfl rfl (fun r2 σ1 _ => ?_)
      refine aw_iload_n K 2 dX12_play_31 rfl ?_
      refine aw_icmp_ne K 37 dX12_play_32 (by decide) (fun h_2 => ?_) (fun h_2 => ?_)
      · refine aw_aload_n K 0 dX12_play_37 rfl ?_
        refine aw_iload_n K 3 dX12_play_38 rfl ?_
        refine aw_callVI K dX12_play_39 vw_X12_179_12 (c_f_M_nextChange l _) hg (by decide) ob_148 rfl (Nat.le_of_ble_eq_true rfl) rfl rfl (fun r4 σ3 _ => ?_)
        refine aw_istore_n K (i := 3) (lv' := [(3, .int r4), (0, rf P 148), (1, .int x1), (2, .int x2)]) dX12_play_42 rfl (Nat.le_of_ble_eq_true rfl) rfl ?_
        refine aw_goto K 21 dX12_play_43 (by decide) ?_
        refine aw_lv [1, 2, 3, 0] rfl ?_
        exact ih _ _ _ _
      · refine aw_iload_n K 3 dX12_play_35 rfl ?_
        exact aw_iret dX12_play_36
set_option maxRecDepth 100000 in
set_option maxHeartbeats 4000000 in
theorem c_f_M_play (l : Launch) (x1 : Int32) : CTI l (34) yX12_play cX12_play 4 ((some .int)) (fun P => [rf P 148, .int x1]) (fun σ => f_M_play x1 σ) := by
  refine met_I rfl rfl rfl (fun P => Nat.le_of_ble_eq_true rfl) (fun P G K hg σ => ?_)
  change AW P G 4 (EI P G cX12_play) (f_M_play x1 σ) σ 0 [(0, rf P 148), (1, .int x1)] []
  rw [f_M_play]
  refine aw_iload_n K 1 dX12_play_0 rfl ?_
  refine aw_callSI K dX12_play_1 vw_X12_256 (c_f_M_isGame l _) hg (by decide) rfl (Nat.le_of_ble_eq_true rfl) rfl rfl (fun r2 σ1 _ => ?_)
  refine aw_if_ne K 9 dX12_play_4 (by decide) (fun h_1 => ?_) (fun h_1 => ?_)
  · refine aw_aload_n K 0 dX12_play_9 rfl ?_
    refine aw_iload_n K 1 dX12_play_10 rfl ?_
    refine aw_callVI K dX12_play_11 vw_X12_247_12 (c_f_M_valueOf l DP _) hg (by decide) ob_148 rfl (Nat.le_of_ble_eq_true rfl) rfl rfl (fun r4 σ3 _ => ?_)
    refine aw_istore_n K (i := 2) (lv' := [(2, .int r4), (0, rf P 148), (1, .int x1)]) dX12_play_14 rfl (Nat.le_of_ble_eq_true rfl) rfl ?_
    refine aw_aload_n K 1 dX12_play_15 rfl ?_
    refine aw_iconst K dX12_play_16 ki_m1 ?_
    refine aw_callVI K dX12_play_17 vw_X12_179_12 (c_f_M_nextChange l _) hg (by decide) ob_148 rfl (Nat.le_of_ble_eq_true rfl) rfl rfl (fun r6 σ5 _ => ?_)
    refine aw_istore_n K (i := 3) (lv' := [(3, .int r6), (2, .int r4), (0, rf P 148), (1, .int x1)]) dX12_play_20 rfl (Nat.le_of_ble_eq_true rfl) rfl ?_
    refine aw_lv [2, 3, 1, 0] rfl ?_
    exact (a_f_M_play_21 l K hg FU) _ _ _ _
  · refine aw_iconst K dX12_play_7 ki_m1 ?_
    exact aw_iret dX12_play_8
set_option maxRecDepth 100000 in
set_option maxHeartbeats 4000000 in
theorem c_f_M_report (l : Launch) (x1 : Int32) (x2 : Int32) (x3 : Int32) : CTI l (1) yX12_report cX12_report 5 ((some .int)) (fun P => [rf P 148, .int x1, .int x2, .int x3]) (fun σ => f_M_report x1 x2 x3 σ) := by
  refine met_I rfl rfl rfl (fun P => Nat.le_of_ble_eq_true rfl) (fun P G K hg σ => ?_)
  change AW P G 5 (EI P G cX12_report) (f_M_report x1 x2 x3 σ) σ 0 [(0, rf P 148), (1, .int x1), (2, .int x2), (3, .int x3)] []
  rw [f_M_report]
  refine aw_iload_n K 1 dX12_report_0 rfl ?_
  refine aw_i2l K dX12_report_1 ?_
  refine aw_lconst K dX12_report_2 kl_0 ?_
  refine aw_ldc2 K (x := (99 : Int64)) dX12_report_3 (in_r15 _ (List.mem_of_getElem? (i := 21) rfl)) ?_
  refine aw_callSI K dX12_report_6 vw_X12_68 (c_f_M_in l _ _ _) hg (by decide) rfl (Nat.le_of_ble_eq_true rfl) rfl rfl (fun r2 σ1 _ => ?_)
  refine aw_if_eq K 36 dX12_report_9 (by decide) (fun h_1 => ?_) (fun h_1 => ?_)
  · refine aw_iconst K dX12_report_36 ki_m1 ?_
    exact aw_iret dX12_report_37
  · refine aw_iload_n K 2 dX12_report_12 rfl ?_
    refine aw_i2l K dX12_report_13 ?_
    refine aw_lconst K dX12_report_14 kl_0 ?_
    refine aw_ldc2 K (x := (99 : Int64)) dX12_report_15 (in_r15 _ (List.mem_of_getElem? (i := 21) rfl)) ?_
    refine aw_callSI K dX12_report_18 vw_X12_68 (c_f_M_in l _ _ _) hg (by decide) rfl (Nat.le_of_ble_eq_true rfl) rfl rfl (fun r4 σ3 _ => ?_)
    refine aw_if_eq K 36 dX12_report_21 (by decide) (fun h_2 => ?_) (fun h_2 => ?_)
    · refine aw_iconst K dX12_report_36 ki_m1 ?_
      exact aw_iret dX12_report_37
    · refine aw_iload_n K 3 dX12_report_24 rfl ?_
      refine aw_i2l K dX12_report_25 ?_
      refine aw_lconst K dX12_report_26 kl_0 ?_
      refine aw_ldc2 K (x := (999 : Int64)) dX12_report_27 (in_r9 _ (List.mem_of_getElem? (i := 5) rfl)) ?_
      refine aw_callSI K dX12_report_30 vw_X12_68 (c_f_M_in l _ _ _) hg (by decide) rfl (Nat.le_of_ble_eq_true rfl) rfl rfl (fun r6 σ5 _ => ?_)
      refine aw_if_ne K 38 dX12_report_33 (by decide) (fun h_3 => ?_) (fun h_3 => ?_)
      · refine aw_aload_n K 0 dX12_report_38 rfl ?_
        refine aw_getR K (c' := 149) dX12_report_39 lk_X12_7_12 fd_148_0 ?_
        refine aw_iconst K dX12_report_42 ki_3 ?_
        refine aw_ald K dX12_report_43 ad_149 (by decide) kn_3 ?_
        refine aw_bipush K dX12_report_44 kb_6 ?_
        refine aw_icmp_ne K 52 dX12_report_46 (by decide) (fun h_4 => ?_) (fun h_4 => ?_)
        · refine aw_bipush K dX12_report_52 kb_52 ?_
          refine aw_iconst K dX12_report_54 ki_3 ?_
          refine aw_aload_n K 0 dX12_report_55 rfl ?_
          refine aw_getR K (c' := 149) dX12_report_56 lk_X12_7_12 fd_148_0 ?_
          refine aw_iconst K dX12_report_59 ki_3 ?_
          refine aw_ald K dX12_report_60 ad_149 (by decide) kn_3 ?_
          refine aw_imul K dX12_report_61 ?_
          refine aw_iadd K dX12_report_62 ?_
          refine aw_istoreX K (i := 4) (lv' := fun y7 => [(4, .int y7), (0, rf P 148), (1, .int x1), (2, .int x2), (3, .int x3)]) dX12_report_63 (Nat.le_of_ble_eq_true rfl) (fun _ => rfl) (fun y7 => ?_)
          refine aw_aload_n K 1 dX12_report_65 rfl ?_
          refine aw_getR K (c' := 149) dX12_report_66 lk_X12_7_12 fd_148_0 ?_
          refine aw_iload K 0 dX12_report_69 rfl ?_
          refine aw_iload_n K 2 dX12_report_71 rfl ?_
          refine aw_gd (fun h_5 => ?_)
          refine aw_ast K dX12_report_72 ad_149 h_5 rfl (fun σ8 => ?_)
          refine aw_aload_n K 1 dX12_report_73 rfl ?_
          refine aw_getR K (c' := 149) dX12_report_74 lk_X12_7_12 fd_148_0 ?_
          refine aw_iload K 0 dX12_report_77 rfl ?_
          refine aw_iconst K dX12_report_79 ki_1 ?_
          refine aw_iadd K dX12_report_80 ?_
          refine aw_iload_n K 3 dX12_report_81 rfl ?_
          refine aw_gd (fun h_6 => ?_)
          refine aw_ast K dX12_report_82 ad_149 h_6 rfl (fun σ9 => ?_)
          refine aw_aload_n K 1 dX12_report_83 rfl ?_
          refine aw_getR K (c' := 149) dX12_report_84 lk_X12_7_12 fd_148_0 ?_
          refine aw_iload K 0 dX12_report_87 rfl ?_
          refine aw_iconst K dX12_report_89 ki_2 ?_
          refine aw_iadd K dX12_report_90 ?_
          refine aw_iload_n K 4 dX12_report_91 rfl ?_
          refine aw_gd (fun h_7 => ?_)
          refine aw_ast K dX12_report_92 ad_149 h_7 rfl (fun σ10 => ?_)
          refine aw_aload_n K 1 dX12_report_93 rfl ?_
          refine aw_getR K (c' := 149) dX12_report_94 lk_X12_7_12 fd_148_0 ?_
          refine aw_iconst K dX12_report_97 ki_3 ?_
          refine aw_dup2_11 K dX12_report_98 rfl rfl ?_
          refine aw_ald K dX12_report_99 ad_149 (by decide) kn_3 ?_
          refine aw_iconst K dX12_report_100 ki_1 ?_
          refine aw_iadd K dX12_report_101 ?_
          refine aw_ast K dX12_report_102 ad_149 (by decide) kn_3 (fun σ11 => ?_)
          refine aw_aload_n K 1 dX12_report_103 rfl ?_
          refine aw_getR K (c' := 149) dX12_report_104 lk_X12_7_12 fd_148_0 ?_
          refine aw_iconst K dX12_report_107 ki_3 ?_
          refine aw_ald K dX12_report_108 ad_149 (by decide) kn_3 ?_
          refine aw_iconst K dX12_report_109 ki_1 ?_
          refine aw_isub K dX12_report_110 ?_
          exact aw_iret dX12_report_111
        · refine aw_bipush K dX12_report_49 kb_m2 ?_
          exact aw_iret dX12_report_51
      · refine aw_iconst K dX12_report_36 ki_m1 ?_
        exact aw_iret dX12_report_37
set_option maxRecDepth 100000 in
set_option maxHeartbeats 4000000 in
theorem c_f_M_forget (l : Launch) : CTI l (1) yX12_forget cX12_forget 1 ((some .int)) (fun P => [rf P 148]) (fun σ => f_M_forget σ) := by
  refine met_I rfl rfl rfl (fun P => Nat.le_of_ble_eq_true rfl) (fun P G K hg σ => ?_)
  change AW P G 1 (EI P G cX12_forget) (f_M_forget σ) σ 0 [(0, rf P 148)] []
  rw [f_M_forget]
  refine aw_aload_n K 0 dX12_forget_0 rfl ?_
  refine aw_iconst K dX12_forget_1 ki_3 ?_
  refine aw_iconst K dX12_forget_2 ki_0 ?_
  refine aw_callVI K dX12_forget_3 vw_X12_131_12 (c_f_M_becomes l _ _) hg (by decide) ob_148 rfl (Nat.le_of_ble_eq_true rfl) rfl rfl (fun r2 σ1 _ => ?_)
  exact aw_iret dX12_forget_6
set_option maxRecDepth 100000 in
set_option maxHeartbeats 4000000 in
theorem a_f_M_isFit_3 (l : Launch) {P : PT} {G : GT} (K : CX P G cX12_isFit RX12 (1) 6) (hg : gl G = l) : ∀ (n : Nat) (x1 : Int32) (x2 : Int32) (x3 : Int32) (x4 : Int32) (σ : SG), AW P G 6 (EZ P G cX12_isFit) (f_M_isFit_3 n x1 x2 x3 x4 σ) σ 3 [(0, rf P 148), (1, .int x1), (2, .int x2), (3, .int x3), (4, .int x4)] [] := by
  intro n
  induction n with
  | zero =>
    intro x1 x2 x3 x4 σ
    rw [f_M_isFit_3]
    exact aw_none
  | succ n ih =>
    intro x1 x2 x3 x4 σ
    rw [f_M_isFit_3]
    refine aw_iload K 4 dX12_isFit_3 rfl ?_
    refine aw_aload_n K 0 dX12_isFit_5 rfl ?_
    refine aw_getR K (c' := 149) dX12_isFit_6 lk_X12_7_12 fd_148_0 ?_
    refine aw_iconst K dX12_isFit_9 ki_3 ?_
    refine aw_ald K dX12_isFit_10 ad_149 (by decide) kn_3 ?_
    refine aw_icmp_ge K 73 dX12_isFit_11 (by decide) (fun h_1 => ?_) (fun h_1 => ?_)
    · refine aw_iconst K dX12_isFit_73 ki_1 ?_
      exact aw_zret dX12_isFit_74 (by decide)
    · refine aw_bipush K dX12_isFit_14 kb_52 ?_
      refine aw_iconst K dX12_isFit_16 ki_3 ?_
      refine aw_iload K 4 dX12_isFit_17 rfl ?_
      refine aw_imul K dX12_isFit_19 ?_
      refine aw_iadd K dX12_isFit_20 ?_
      refine aw_istoreX K (i := 5) (lv' := fun y1 => [(5, .int y1), (0, rf P 148), (1, .int x1), (2, .int x2), (3, .int x3), (4, .int x4)]) dX12_isFit_21 (Nat.le_of_ble_eq_true rfl) (fun _ => rfl) (fun y1 => ?_)
      refine aw_iload K 5 dX12_isFit_23 rfl ?_
      refine aw_iload_n K 4 dX12_isFit_25 rfl ?_
      refine aw_icmp_eq K 67 dX12_isFit_26 (by decide) (fun h_2 => ?_) (fun h_2 => ?_)
      · refine aw_iinc K (lv' := fun y2 => [(4, .int y2), (5, .int y1), (0, rf P 148), (1, .int x1), (2, .int x2), (3, .int x3)]) 5 dX12_isFit_67 rfl ki_1 (Nat.le_of_ble_eq_true rfl) (fun _ => rfl) (fun y2 => ?_)
        refine aw_goto K 3 dX12_isFit_70 (by decide) ?_
        refine aw_lv [2, 3, 4, 5, 0] rfl ?_
        exact ih _ _ _ _ _
      · refine aw_iload_n K 2 dX12_isFit_29 rfl ?_
        refine aw_aload_n K 1 dX12_isFit_30 rfl ?_
        refine aw_getR K (c' := 149) dX12_isFit_31 lk_X12_7_12 fd_148_0 ?_
        refine aw_iload K 0 dX12_isFit_34 rfl ?_
        refine aw_iconst K dX12_isFit_36 ki_1 ?_
        refine aw_iadd K dX12_isFit_37 ?_
        refine aw_gd (fun h_3 => ?_)
        refine aw_ald K dX12_isFit_38 ad_149 h_3 rfl ?_
        refine aw_aload_n K 1 dX12_isFit_39 rfl ?_
        refine aw_getR K (c' := 149) dX12_isFit_40 lk_X12_7_12 fd_148_0 ?_
        refine aw_iload K 0 dX12_isFit_43 rfl ?_
        refine aw_gd (fun h_4 => ?_)
        refine aw_ald K dX12_isFit_45 ad_149 h_4 rfl ?_
        refine aw_isub K dX12_isFit_46 ?_
        refine aw_callSI K dX12_isFit_47 vw_X12_120 (c_f_M_atLeast l _) hg (by decide) rfl (Nat.le_of_ble_eq_true rfl) rfl rfl (fun r4 σ3 _ => ?_)
        refine aw_imul K dX12_isFit_50 ?_
        refine aw_iload_n K 3 dX12_isFit_51 rfl ?_
        refine aw_iadd K dX12_isFit_52 ?_
        refine aw_aload_n K 1 dX12_isFit_53 rfl ?_
        refine aw_getR K (c' := 149) dX12_isFit_54 lk_X12_7_12 fd_148_0 ?_
        refine aw_iload K 0 dX12_isFit_57 rfl ?_
        refine aw_iconst K dX12_isFit_59 ki_2 ?_
        refine aw_iadd K dX12_isFit_60 ?_
        refine aw_gd (fun h_5 => ?_)
        refine aw_ald K dX12_isFit_61 ad_149 h_5 rfl ?_
        refine aw_icmp_eq K 67 dX12_isFit_62 (by decide) (fun h_6 => ?_) (fun h_6 => ?_)
        · refine aw_iinc K (lv' := fun y5 => [(4, .int y5), (5, .int y1), (0, rf P 148), (1, .int x1), (2, .int x2), (3, .int x3)]) 5 dX12_isFit_67 rfl ki_1 (Nat.le_of_ble_eq_true rfl) (fun _ => rfl) (fun y5 => ?_)
          refine aw_goto K 3 dX12_isFit_70 (by decide) ?_
          refine aw_lv [2, 3, 4, 5, 0] rfl ?_
          exact ih _ _ _ _ _
        · refine aw_iconst K dX12_isFit_65 ki_0 ?_
          exact aw_zret dX12_isFit_66 (by decide)
set_option maxRecDepth 100000 in
set_option maxHeartbeats 4000000 in
theorem c_f_M_isFit (l : Launch) (x1 : Int32) (x2 : Int32) (x3 : Int32) : CTI l (1) yX12_isFit cX12_isFit 6 ((some .boolean)) (fun P => [rf P 148, .int x1, .int x2, .int x3]) (fun σ => f_M_isFit x1 x2 x3 σ) := by
  refine met_Z rfl rfl rfl (fun P => Nat.le_of_ble_eq_true rfl) (fun P G K hg σ => ?_)
  change AW P G 6 (EZ P G cX12_isFit) (f_M_isFit x1 x2 x3 σ) σ 0 [(0, rf P 148), (1, .int x1), (2, .int x2), (3, .int x3)] []
  rw [f_M_isFit]
  refine aw_iconst K dX12_isFit_0 ki_0 ?_
  refine aw_istore K (i := 4) (lv' := [(4, .int (0 : Int32)), (0, rf P 148), (1, .int x1), (2, .int x2), (3, .int x3)]) dX12_isFit_1 (Nat.le_of_ble_eq_true rfl) rfl ?_
  refine aw_lv [1, 2, 3, 4, 0] rfl ?_
  exact (a_f_M_isFit_3 l K hg FU) _ _ _ _ _
set_option maxRecDepth 100000 in
set_option maxHeartbeats 4000000 in
theorem a_f_M_findFits_46 (l : Launch) {P : PT} {G : GT} (K : CX P G cX12_findFits RX12 (2) 4) (hg : gl G = l) {K14 : Int32 → Int32 → Int32 → SG → Option (Unit × SG)} (hK14 : ∀ (x1 : Int32) (x2 : Int32) (x3 : Int32) (σ : SG), AW P G 4 (EV P G cX12_findFits) (K14 x1 x2 x3 σ) σ 14 [(0, rf P 148), (1, .int x1), (2, .int x2), (3, .int x3)] []) : ∀ (x1 : Int32) (x2 : Int32) (x3 : Int32) (xs0 : Int32) (σ : SG), AW P G 4 (EV P G cX12_findFits) (f_M_findFits_46 K14 x1 x2 x3 xs0 σ) σ 46 [(0, rf P 148), (1, .int x1), (2, .int x2), (3, .int x3)] [.int xs0, rf P 148] := by
  intro x1 x2 x3 xs0 σ
  rw [f_M_findFits_46]
  refine aw_putI K dX12_findFits_46 lp_X12_265_12 fd_148_21 (fun σ1 => ?_)
  refine aw_aload_n K 0 dX12_findFits_49 rfl ?_
  refine aw_aload_n K 0 dX12_findFits_50 rfl ?_
  refine aw_getI K dX12_findFits_51 lk_X12_259_12 fd_148_20 ?_
  refine aw_if_ne K 61 dX12_findFits_54 (by decide) (fun h_1 => ?_) (fun h_1 => ?_)
  · refine aw_aload_n K 0 dX12_findFits_61 rfl ?_
    refine aw_getI K dX12_findFits_62 lk_X12_268_12 fd_148_22 ?_
    refine aw_putI K dX12_findFits_65 lp_X12_268_12 fd_148_22 (fun σ2 => ?_)
    refine aw_aload_n K 0 dX12_findFits_68 rfl ?_
    refine aw_dup K dX12_findFits_69 rfl ?_
    refine aw_getI K dX12_findFits_70 lk_X12_259_12 fd_148_20 ?_
    refine aw_iconst K dX12_findFits_73 ki_1 ?_
    refine aw_iadd K dX12_findFits_74 ?_
    refine aw_putI K dX12_findFits_75 lp_X12_259_12 fd_148_20 (fun σ3 => ?_)
    refine aw_iinc K (lv' := fun y4 => [(3, .int y4), (0, rf P 148), (1, .int x1), (2, .int x2)]) 3 dX12_findFits_78 rfl ki_1 (Nat.le_of_ble_eq_true rfl) (fun _ => rfl) (fun y4 => ?_)
    refine aw_goto K 14 dX12_findFits_81 (by decide) ?_
    refine aw_lv [1, 2, 3, 0] rfl ?_
    exact hK14 _ _ _ _
  · refine aw_iload_n K 3 dX12_findFits_57 rfl ?_
    refine aw_goto K 65 dX12_findFits_58 (by decide) ?_
    refine aw_putI K dX12_findFits_65 lp_X12_268_12 fd_148_22 (fun σ5 => ?_)
    refine aw_aload_n K 0 dX12_findFits_68 rfl ?_
    refine aw_dup K dX12_findFits_69 rfl ?_
    refine aw_getI K dX12_findFits_70 lk_X12_259_12 fd_148_20 ?_
    refine aw_iconst K dX12_findFits_73 ki_1 ?_
    refine aw_iadd K dX12_findFits_74 ?_
    refine aw_putI K dX12_findFits_75 lp_X12_259_12 fd_148_20 (fun σ6 => ?_)
    refine aw_iinc K (lv' := fun y7 => [(3, .int y7), (0, rf P 148), (1, .int x1), (2, .int x2)]) 3 dX12_findFits_78 rfl ki_1 (Nat.le_of_ble_eq_true rfl) (fun _ => rfl) (fun y7 => ?_)
    refine aw_goto K 14 dX12_findFits_81 (by decide) ?_
    refine aw_lv [1, 2, 3, 0] rfl ?_
    exact hK14 _ _ _ _
set_option maxRecDepth 100000 in
set_option maxHeartbeats 4000000 in
theorem a_f_M_findFits_14 (l : Launch) {P : PT} {G : GT} (K : CX P G cX12_findFits RX12 (2) 4) (hg : gl G = l) {K7 : Int32 → Int32 → SG → Option (Unit × SG)} (hK7 : ∀ (x1 : Int32) (x2 : Int32) (σ : SG), AW P G 4 (EV P G cX12_findFits) (K7 x1 x2 σ) σ 7 [(0, rf P 148), (1, .int x1), (2, .int x2)] []) : ∀ (n : Nat) (x1 : Int32) (x2 : Int32) (x3 : Int32) (σ : SG), AW P G 4 (EV P G cX12_findFits) (f_M_findFits_14 K7 n x1 x2 x3 σ) σ 14 [(0, rf P 148), (1, .int x1), (2, .int x2), (3, .int x3)] [] := by
  intro n
  induction n with
  | zero =>
    intro x1 x2 x3 σ
    rw [f_M_findFits_14]
    exact aw_none
  | succ n ih =>
    intro x1 x2 x3 σ
    rw [f_M_findFits_14]
    refine aw_iload_n K 3 dX12_findFits_14 rfl ?_
    refine aw_bipush K dX12_findFits_15 kb_50 ?_
    refine aw_icmp_gt K 84 dX12_findFits_17 (by decide) (fun h_1 => ?_) (fun h_1 => ?_)
    · refine aw_iinc K (lv' := fun y1 => [(2, .int y1), (0, rf P 148), (1, .int x1), (3, .int x3)]) 2 dX12_findFits_84 rfl ki_1 (Nat.le_of_ble_eq_true rfl) (fun _ => rfl) (fun y1 => ?_)
      refine aw_goto K 7 dX12_findFits_87 (by decide) ?_
      refine aw_lv [1, 2, 0] rfl ?_
      exact hK7 _ _ _
    · refine aw_aload_n K 0 dX12_findFits_20 rfl ?_
      refine aw_iload_n K 2 dX12_findFits_21 rfl ?_
      refine aw_iload_n K 3 dX12_findFits_22 rfl ?_
      refine aw_iload_n K 1 dX12_findFits_23 rfl ?_
      refine aw_callVI K dX12_findFits_24 vw_X12_262_12 (c_f_M_isFit l _ _ _) hg (by decide) ob_148 rfl (Nat.le_of_ble_eq_true rfl) rfl rfl (fun r3 σ2 _ => ?_)
      refine aw_if_eq K 78 dX12_findFits_27 (by decide) (fun h_2 => ?_) (fun h_2 => ?_)
      · refine aw_iinc K (lv' := fun y4 => [(3, .int y4), (0, rf P 148), (1, .int x1), (2, .int x2)]) 3 dX12_findFits_78 rfl ki_1 (Nat.le_of_ble_eq_true rfl) (fun _ => rfl) (fun y4 => ?_)
        refine aw_goto K 14 dX12_findFits_81 (by decide) ?_
        refine aw_lv [1, 2, 3, 0] rfl ?_
        exact ih _ _ _ _
      · refine aw_aload_n K 0 dX12_findFits_30 rfl ?_
        refine aw_aload_n K 0 dX12_findFits_31 rfl ?_
        refine aw_getI K dX12_findFits_32 lk_X12_259_12 fd_148_20 ?_
        refine aw_if_ne K 42 dX12_findFits_35 (by decide) (fun h_3 => ?_) (fun h_3 => ?_)
        · refine aw_aload_n K 0 dX12_findFits_42 rfl ?_
          refine aw_getI K dX12_findFits_43 lk_X12_265_12 fd_148_21 ?_
          refine aw_lv [0, 1, 2, 3] rfl ?_
          exact (a_f_M_findFits_46 l K hg ih) _ _ _ _ _
        · refine aw_iload_n K 2 dX12_findFits_38 rfl ?_
          refine aw_goto K 46 dX12_findFits_39 (by decide) ?_
          refine aw_lv [0, 1, 2, 3] rfl ?_
          exact (a_f_M_findFits_46 l K hg ih) _ _ _ _ _
set_option maxRecDepth 100000 in
set_option maxHeartbeats 4000000 in
theorem a_f_M_findFits_7 (l : Launch) {P : PT} {G : GT} (K : CX P G cX12_findFits RX12 (2) 4) (hg : gl G = l) : ∀ (n : Nat) (x1 : Int32) (x2 : Int32) (σ : SG), AW P G 4 (EV P G cX12_findFits) (f_M_findFits_7 n x1 x2 σ) σ 7 [(0, rf P 148), (1, .int x1), (2, .int x2)] [] := by
  intro n
  induction n with
  | zero =>
    intro x1 x2 σ
    rw [f_M_findFits_7]
    exact aw_none
  | succ n ih =>
    intro x1 x2 σ
    rw [f_M_findFits_7]
    refine aw_iload_n K 2 dX12_findFits_7 rfl ?_
    refine aw_iconst K dX12_findFits_8 ki_4 ?_
    refine aw_icmp_ge K 90 dX12_findFits_9 (by decide) (fun h_1 => ?_) (fun h_1 => ?_)
    · exact aw_vret dX12_findFits_90
    · refine aw_iconst K dX12_findFits_12 ki_0 ?_
      refine aw_istore_n K (i := 3) (lv' := [(3, .int (0 : Int32)), (0, rf P 148), (1, .int x1), (2, .int x2)]) dX12_findFits_13 rfl (Nat.le_of_ble_eq_true rfl) rfl ?_
      refine aw_lv [1, 2, 3, 0] rfl ?_
      exact (a_f_M_findFits_14 l K hg ih FU) _ _ _ _
set_option maxRecDepth 100000 in
set_option maxHeartbeats 4000000 in
theorem c_f_M_findFits (l : Launch) (x1 : Int32) : CTV l (2) yX12_findFits cX12_findFits 4 (none) (fun P => [rf P 148, .int x1]) (fun σ => f_M_findFits x1 σ) := by
  refine met_V rfl rfl rfl (fun P => Nat.le_of_ble_eq_true rfl) (fun P G K hg σ => ?_)
  change AW P G 4 (EV P G cX12_findFits) (f_M_findFits x1 σ) σ 0 [(0, rf P 148), (1, .int x1)] []
  rw [f_M_findFits]
  refine aw_aload_n K 0 dX12_findFits_0 rfl ?_
  refine aw_iconst K dX12_findFits_1 ki_0 ?_
  refine aw_putI K dX12_findFits_2 lp_X12_259_12 fd_148_20 (fun σ1 => ?_)
  refine aw_iconst K dX12_findFits_5 ki_0 ?_
  refine aw_istore_n K (i := 2) (lv' := [(2, .int (0 : Int32)), (0, rf P 148), (1, .int x1)]) dX12_findFits_6 rfl (Nat.le_of_ble_eq_true rfl) rfl ?_
  refine aw_lv [1, 2, 0] rfl ?_
  exact (a_f_M_findFits_7 l K hg FU) _ _ _
set_option maxRecDepth 100000 in
set_option maxHeartbeats 4000000 in
theorem c_f_M_span (l : Launch) (x1 : Int32) : CTI l (3) yX12_span cX12_span 2 ((some .int)) (fun P => [rf P 148, .int x1]) (fun σ => f_M_span x1 σ) := by
  refine met_I rfl rfl rfl (fun P => Nat.le_of_ble_eq_true rfl) (fun P G K hg σ => ?_)
  change AW P G 2 (EI P G cX12_span) (f_M_span x1 σ) σ 0 [(0, rf P 148), (1, .int x1)] []
  rw [f_M_span]
  refine aw_iload_n K 1 dX12_span_0 rfl ?_
  refine aw_i2l K dX12_span_1 ?_
  refine aw_lconst K dX12_span_2 kl_0 ?_
  refine aw_ldc2 K (x := (2 : Int64)) dX12_span_3 (in_r41 _ (List.mem_of_getElem? (i := 6) rfl)) ?_
  refine aw_callSI K dX12_span_6 vw_X12_68 (c_f_M_in l _ _ _) hg (by decide) rfl (Nat.le_of_ble_eq_true rfl) rfl rfl (fun r2 σ1 _ => ?_)
  refine aw_if_ne K 14 dX12_span_9 (by decide) (fun h_1 => ?_) (fun h_1 => ?_)
  · refine aw_aload_n K 0 dX12_span_14 rfl ?_
    refine aw_iconst K dX12_span_15 ki_m1 ?_
    refine aw_callVV K dX12_span_16 vw_X12_271_12 (c_f_M_findFits l _) hg (by decide) ob_148 rfl (Nat.le_of_ble_eq_true rfl) rfl rfl (fun _ σ3 _ => ?_)
    refine aw_iload_n K 1 dX12_span_19 rfl ?_
    refine aw_if_ne K 30 dX12_span_20 (by decide) (fun h_2 => ?_) (fun h_2 => ?_)
    · refine aw_aload_n K 0 dX12_span_30 rfl ?_
      refine aw_getI K dX12_span_31 lk_X12_259_12 fd_148_20 ?_
      refine aw_if_ne K 42 dX12_span_34 (by decide) (fun h_3 => ?_) (fun h_3 => ?_)
      · refine aw_iload_n K 1 dX12_span_42 rfl ?_
        refine aw_iconst K dX12_span_43 ki_1 ?_
        refine aw_icmp_ne K 54 dX12_span_44 (by decide) (fun h_4 => ?_) (fun h_4 => ?_)
        · refine aw_aload_n K 0 dX12_span_54 rfl ?_
          refine aw_getI K dX12_span_55 lk_X12_268_12 fd_148_22 ?_
          exact aw_iret dX12_span_58
        · refine aw_aload_n K 0 dX12_span_47 rfl ?_
          refine aw_getI K dX12_span_48 lk_X12_265_12 fd_148_21 ?_
          refine aw_goto K 58 dX12_span_51 (by decide) ?_
          exact aw_iret dX12_span_58
      · refine aw_bipush K dX12_span_37 kb_m3 ?_
        refine aw_goto K 58 dX12_span_39 (by decide) ?_
        exact aw_iret dX12_span_58
    · refine aw_aload_n K 0 dX12_span_23 rfl ?_
      refine aw_getI K dX12_span_24 lk_X12_259_12 fd_148_20 ?_
      refine aw_goto K 58 dX12_span_27 (by decide) ?_
      exact aw_iret dX12_span_58
  · refine aw_iconst K dX12_span_12 ki_m1 ?_
    exact aw_iret dX12_span_13
set_option maxRecDepth 100000 in
set_option maxHeartbeats 4000000 in
theorem a_f_M_liar_20 (l : Launch) {P : PT} {G : GT} (K : CX P G cX12_liar RX12 (3) 3) (hg : gl G = l) : ∀ (n : Nat) (x1 : Int32) (x2 : Int32) (σ : SG), AW P G 3 (EI P G cX12_liar) (f_M_liar_20 n x1 x2 σ) σ 20 [(0, rf P 148), (1, .int x1), (2, .int x2)] [] := by
  intro n
  induction n with
  | zero =>
    intro x1 x2 σ
    rw [f_M_liar_20]
    exact aw_none
  | succ n ih =>
    intro x1 x2 σ
    rw [f_M_liar_20]
    refine aw_iload_n K 2 dX12_liar_20 rfl ?_
    refine aw_aload_n K 0 dX12_liar_21 rfl ?_
    refine aw_getR K (c' := 149) dX12_liar_22 lk_X12_7_12 fd_148_0 ?_
    refine aw_iconst K dX12_liar_25 ki_3 ?_
    refine aw_ald K dX12_liar_26 ad_149 (by decide) kn_3 ?_
    refine aw_icmp_ge K 54 dX12_liar_27 (by decide) (fun h_1 => ?_) (fun h_1 => ?_)
    · refine aw_bipush K dX12_liar_54 kb_m3 ?_
      exact aw_iret dX12_liar_56
    · refine aw_iload_n K 1 dX12_liar_30 rfl ?_
      refine aw_if_eq K 54 dX12_liar_31 (by decide) (fun h_2 => ?_) (fun h_2 => ?_)
      · refine aw_bipush K dX12_liar_54 kb_m3 ?_
        exact aw_iret dX12_liar_56
      · refine aw_aload_n K 0 dX12_liar_34 rfl ?_
        refine aw_iload_n K 2 dX12_liar_35 rfl ?_
        refine aw_callVV K dX12_liar_36 vw_X12_271_12 (c_f_M_findFits l _) hg (by decide) ob_148 rfl (Nat.le_of_ble_eq_true rfl) rfl rfl (fun _ σ1 _ => ?_)
        refine aw_aload_n K 0 dX12_liar_39 rfl ?_
        refine aw_getI K dX12_liar_40 lk_X12_259_12 fd_148_20 ?_
        refine aw_if_le K 48 dX12_liar_43 (by decide) (fun h_3 => ?_) (fun h_3 => ?_)
        · refine aw_iinc K (lv' := fun y2 => [(2, .int y2), (0, rf P 148), (1, .int x1)]) 2 dX12_liar_48 rfl ki_1 (Nat.le_of_ble_eq_true rfl) (fun _ => rfl) (fun y2 => ?_)
          refine aw_goto K 20 dX12_liar_51 (by decide) ?_
          refine aw_lv [1, 2, 0] rfl ?_
          exact ih _ _ _
        · refine aw_iload_n K 2 dX12_liar_46 rfl ?_
          exact aw_iret dX12_liar_47
set_option maxRecDepth 100000 in
set_option maxHeartbeats 4000000 in
theorem c_f_M_liar (l : Launch) : CTI l (3) yX12_liar cX12_liar 3 ((some .int)) (fun P => [rf P 148]) (fun σ => f_M_liar σ) := by
  refine met_I rfl rfl rfl (fun P => Nat.le_of_ble_eq_true rfl) (fun P G K hg σ => ?_)
  change AW P G 3 (EI P G cX12_liar) (f_M_liar σ) σ 0 [(0, rf P 148)] []
  rw [f_M_liar]
  refine aw_aload_n K 0 dX12_liar_0 rfl ?_
  refine aw_iconst K dX12_liar_1 ki_m1 ?_
  refine aw_callVV K dX12_liar_2 vw_X12_271_12 (c_f_M_findFits l _) hg (by decide) ob_148 rfl (Nat.le_of_ble_eq_true rfl) rfl rfl (fun _ σ1 _ => ?_)
  refine aw_aload_n K 0 dX12_liar_5 rfl ?_
  refine aw_getI K dX12_liar_6 lk_X12_259_12 fd_148_20 ?_
  refine aw_if_ne K 16 dX12_liar_9 (by decide) (fun h_1 => ?_) (fun h_1 => ?_)
  · refine aw_iconst K dX12_liar_16 ki_0 ?_
    refine aw_istore_n K (i := 1) (lv' := [(1, .int (0 : Int32)), (0, rf P 148)]) dX12_liar_17 rfl (Nat.le_of_ble_eq_true rfl) rfl ?_
    refine aw_iconst K dX12_liar_18 ki_0 ?_
    refine aw_istore_n K (i := 2) (lv' := [(2, .int (0 : Int32)), (1, .int (0 : Int32)), (0, rf P 148)]) dX12_liar_19 rfl (Nat.le_of_ble_eq_true rfl) rfl ?_
    refine aw_lv [2, 1, 0] rfl ?_
    exact (a_f_M_liar_20 l K hg FU) _ _ _
  · refine aw_iconst K dX12_liar_12 ki_1 ?_
    refine aw_goto K 17 dX12_liar_13 (by decide) ?_
    refine aw_istore_n K (i := 1) (lv' := [(1, .int (1 : Int32)), (0, rf P 148)]) dX12_liar_17 rfl (Nat.le_of_ble_eq_true rfl) rfl ?_
    refine aw_iconst K dX12_liar_18 ki_0 ?_
    refine aw_istore_n K (i := 2) (lv' := [(2, .int (0 : Int32)), (1, .int (1 : Int32)), (0, rf P 148)]) dX12_liar_19 rfl (Nat.le_of_ble_eq_true rfl) rfl ?_
    refine aw_lv [2, 1, 0] rfl ?_
    exact (a_f_M_liar_20 l K hg FU) _ _ _
set_option maxRecDepth 100000 in
set_option maxHeartbeats 4000000 in
theorem c_f_M_seed (l : Launch) (x1 : Int32) : CTI l (0) yX12_seed cX12_seed 3 ((some .int)) (fun P => [rf P 148, .int x1]) (fun σ => f_M_seed x1 σ) := by
  refine met_I rfl rfl rfl (fun P => Nat.le_of_ble_eq_true rfl) (fun P G K hg σ => ?_)
  change AW P G 3 (EI P G cX12_seed) (f_M_seed x1 σ) σ 0 [(0, rf P 148), (1, .int x1)] []
  rw [f_M_seed]
  refine aw_aload_n K 0 dX12_seed_0 rfl ?_
  refine aw_getR K (c' := 149) dX12_seed_1 lk_X12_7_12 fd_148_0 ?_
  refine aw_iconst K dX12_seed_4 ki_5 ?_
  refine aw_ald K dX12_seed_5 ad_149 (by decide) kn_5 ?_
  refine aw_istoreX_n K (i := 2) (lv' := fun y1 => [(2, .int y1), (0, rf P 148), (1, .int x1)]) dX12_seed_6 rfl (Nat.le_of_ble_eq_true rfl) (fun _ => rfl) (fun y1 => ?_)
  refine aw_aload_n K 1 dX12_seed_7 rfl ?_
  refine aw_getR K (c' := 149) dX12_seed_8 lk_X12_7_12 fd_148_0 ?_
  refine aw_iconst K dX12_seed_11 ki_5 ?_
  refine aw_iload_n K 2 dX12_seed_12 rfl ?_
  refine aw_ast K dX12_seed_13 ad_149 (by decide) kn_5 (fun σ2 => ?_)
  refine aw_iload_n K 0 dX12_seed_14 rfl ?_
  exact aw_iret dX12_seed_15
set_option maxRecDepth 100000 in
set_option maxHeartbeats 4000000 in
theorem a_f_M_drawn_68 (l : Launch) {P : PT} {G : GT} (K : CX P G cX12_drawn RX12 (9) 4) (hg : gl G = l) : ∀ (n : Nat) (x2 : Int32) (x3 : Int32) (σ : SG), AW P G 4 (EI P G cX12_drawn) (f_M_drawn_68 n x2 x3 σ) σ 68 [(0, rf P 148), (2, .int x2), (3, .int x3)] [] := by
  intro n
  induction n with
  | zero =>
    intro x2 x3 σ
    rw [f_M_drawn_68]
    exact aw_none
  | succ n ih =>
    intro x2 x3 σ
    rw [f_M_drawn_68]
    refine aw_iload_n K 1 dX12_drawn_68 rfl ?_
    refine aw_if_le K 84 dX12_drawn_69 (by decide) (fun h_1 => ?_) (fun h_1 => ?_)
    · refine aw_iload_n K 2 dX12_drawn_84 rfl ?_
      exact aw_iret dX12_drawn_85
    · refine aw_aload_n K 0 dX12_drawn_72 rfl ?_
      refine aw_iload_n K 2 dX12_drawn_73 rfl ?_
      refine aw_callVI K dX12_drawn_74 vw_X12_179_12 (c_f_M_nextChange l _) hg (by decide) ob_148 rfl (Nat.le_of_ble_eq_true rfl) rfl rfl (fun r2 σ1 _ => ?_)
      refine aw_istore_n K (i := 3) (lv' := [(3, .int r2), (0, rf P 148), (2, .int x2)]) dX12_drawn_77 rfl (Nat.le_of_ble_eq_true rfl) rfl ?_
      refine aw_iinc K (lv' := fun y3 => [(2, .int y3), (3, .int r2), (0, rf P 148)]) 2 dX12_drawn_78 rfl ki_m1 (Nat.le_of_ble_eq_true rfl) (fun _ => rfl) (fun y3 => ?_)
      refine aw_goto K 68 dX12_drawn_81 (by decide) ?_
      refine aw_lv [2, 0, 1] rfl ?_
      exact ih _ _ _
set_option maxRecDepth 100000 in
set_option maxHeartbeats 4000000 in
theorem a_f_M_drawn_8 (l : Launch) {P : PT} {G : GT} (K : CX P G cX12_drawn RX12 (9) 4) (hg : gl G = l) : ∀ (n : Nat) (x1 : Int32) (x2 : Int32) (σ : SG), AW P G 4 (EI P G cX12_drawn) (f_M_drawn_8 n x1 x2 σ) σ 8 [(0, rf P 148), (1, .int x1), (2, .int x2)] [] := by
  intro n
  induction n with
  | zero =>
    intro x1 x2 σ
    rw [f_M_drawn_8]
    exact aw_none
  | succ n ih =>
    intro x1 x2 σ
    rw [f_M_drawn_8]
    refine aw_iload_n K 2 dX12_drawn_8 rfl ?_
    refine aw_if_lt K 24 dX12_drawn_9 (by decide) (fun h_1 => ?_) (fun h_1 => ?_)
    · refine aw_iload_n K 1 dX12_drawn_24 rfl ?_
      refine aw_if_ne K 30 dX12_drawn_25 (by decide) (fun h_2 => ?_) (fun h_2 => ?_)
      · refine aw_aload_n K 0 dX12_drawn_30 rfl ?_
        refine aw_getR K (c' := 149) dX12_drawn_31 lk_X12_7_12 fd_148_0 ?_
        refine aw_iconst K dX12_drawn_34 ki_5 ?_
        refine aw_aload_n K 0 dX12_drawn_35 rfl ?_
        refine aw_getR K (c' := 149) dX12_drawn_36 lk_X12_7_12 fd_148_0 ?_
        refine aw_iconst K dX12_drawn_39 ki_5 ?_
        refine aw_ald K dX12_drawn_40 ad_149 (by decide) kn_5 ?_
        refine aw_ldcw K (x := (1103515245 : Int32)) dX12_drawn_41 (in_r48 _ (List.mem_of_getElem? (i := 17) rfl)) ?_
        refine aw_imul K dX12_drawn_44 ?_
        refine aw_sipush K dX12_drawn_45 ks_12345 ?_
        refine aw_iadd K dX12_drawn_48 ?_
        refine aw_ast K dX12_drawn_49 ad_149 (by decide) kn_5 (fun σ1 => ?_)
        refine aw_aload_n K 0 dX12_drawn_50 rfl ?_
        refine aw_getR K (c' := 149) dX12_drawn_51 lk_X12_7_12 fd_148_0 ?_
        refine aw_iconst K dX12_drawn_54 ki_5 ?_
        refine aw_ald K dX12_drawn_55 ad_149 (by decide) kn_5 ?_
        refine aw_bipush K dX12_drawn_56 kb_16 ?_
        refine aw_iushr K dX12_drawn_58 ?_
        refine aw_iload_n K 1 dX12_drawn_59 rfl ?_
        refine aw_gd (fun h_3 => ?_)
        refine aw_irem K dX12_drawn_60 h_3 ?_
        refine aw_istoreX_n K (i := 2) (lv' := fun y2 => [(2, .int y2), (0, rf P 148), (1, .int x1)]) dX12_drawn_61 rfl (Nat.le_of_ble_eq_true rfl) (fun _ => rfl) (fun y2 => ?_)
        refine aw_aload_n K 1 dX12_drawn_62 rfl ?_
        refine aw_iconst K dX12_drawn_63 ki_m1 ?_
        refine aw_callVI K dX12_drawn_64 vw_X12_179_12 (c_f_M_nextChange l _) hg (by decide) ob_148 rfl (Nat.le_of_ble_eq_true rfl) rfl rfl (fun r4 σ3 _ => ?_)
        refine aw_istore_n K (i := 3) (lv' := [(3, .int r4), (2, .int y2), (0, rf P 148), (1, .int x1)]) dX12_drawn_67 rfl (Nat.le_of_ble_eq_true rfl) rfl ?_
        refine aw_lv [2, 1, 0] rfl ?_
        exact (a_f_M_drawn_68 l K hg FU) _ _ _
      · refine aw_iconst K dX12_drawn_28 ki_m1 ?_
        exact aw_iret dX12_drawn_29
    · refine aw_iinc K (lv' := fun y5 => [(1, .int y5), (0, rf P 148), (2, .int x2)]) 1 dX12_drawn_12 rfl ki_1 (Nat.le_of_ble_eq_true rfl) (fun _ => rfl) (fun y5 => ?_)
      refine aw_aload_n K 1 dX12_drawn_15 rfl ?_
      refine aw_iload_n K 2 dX12_drawn_16 rfl ?_
      refine aw_callVI K dX12_drawn_17 vw_X12_179_12 (c_f_M_nextChange l _) hg (by decide) ob_148 rfl (Nat.le_of_ble_eq_true rfl) rfl rfl (fun r7 σ6 _ => ?_)
      refine aw_istore_n K (i := 2) (lv' := [(2, .int r7), (1, .int y5), (0, rf P 148)]) dX12_drawn_20 rfl (Nat.le_of_ble_eq_true rfl) rfl ?_
      refine aw_goto K 8 dX12_drawn_21 (by decide) ?_
      refine aw_lv [2, 1, 0] rfl ?_
      exact ih _ _ _
set_option maxRecDepth 100000 in
set_option maxHeartbeats 4000000 in
theorem c_f_M_drawn (l : Launch) : CTI l (9) yX12_drawn cX12_drawn 4 ((some .int)) (fun P => [rf P 148]) (fun σ => f_M_drawn σ) := by
  refine met_I rfl rfl rfl (fun P => Nat.le_of_ble_eq_true rfl) (fun P G K hg σ => ?_)
  change AW P G 4 (EI P G cX12_drawn) (f_M_drawn σ) σ 0 [(0, rf P 148)] []
  rw [f_M_drawn]
  refine aw_iconst K dX12_drawn_0 ki_0 ?_
  refine aw_istore_n K (i := 1) (lv' := [(1, .int (0 : Int32)), (0, rf P 148)]) dX12_drawn_1 rfl (Nat.le_of_ble_eq_true rfl) rfl ?_
  refine aw_aload_n K 1 dX12_drawn_2 rfl ?_
  refine aw_iconst K dX12_drawn_3 ki_m1 ?_
  refine aw_callVI K dX12_drawn_4 vw_X12_179_12 (c_f_M_nextChange l _) hg (by decide) ob_148 rfl (Nat.le_of_ble_eq_true rfl) rfl rfl (fun r2 σ1 _ => ?_)
  refine aw_istore_n K (i := 2) (lv' := [(2, .int r2), (1, .int (0 : Int32)), (0, rf P 148)]) dX12_drawn_7 rfl (Nat.le_of_ble_eq_true rfl) rfl ?_
  refine aw_lv [2, 1, 0] rfl ?_
  exact (a_f_M_drawn_8 l K hg FU) _ _ _
set_option maxRecDepth 100000 in
set_option maxHeartbeats 4000000 in
theorem c_f_M_draw (l : Launch) : CTI l (10) yX12_draw cX12_draw 2 ((some .int)) (fun P => [rf P 148]) (fun σ => f_M_draw σ) := by
  refine met_I rfl rfl rfl (fun P => Nat.le_of_ble_eq_true rfl) (fun P G K hg σ => ?_)
  change AW P G 2 (EI P G cX12_draw) (f_M_draw σ) σ 0 [(0, rf P 148)] []
  rw [f_M_draw]
  refine aw_aload_n K 0 dX12_draw_0 rfl ?_
  refine aw_callVI K dX12_draw_1 vw_X12_275_12 (c_f_M_drawn l) hg (by decide) ob_148 rfl (Nat.le_of_ble_eq_true rfl) rfl rfl (fun r2 σ1 _ => ?_)
  refine aw_istore_n K (i := 1) (lv' := [(1, .int r2), (0, rf P 148)]) dX12_draw_4 rfl (Nat.le_of_ble_eq_true rfl) rfl ?_
  refine aw_iload_n K 0 dX12_draw_5 rfl ?_
  refine aw_if_ge K 12 dX12_draw_6 (by decide) (fun h_1 => ?_) (fun h_1 => ?_)
  · refine aw_aload_n K 1 dX12_draw_12 rfl ?_
    refine aw_iload_n K 0 dX12_draw_13 rfl ?_
    refine aw_callVV K dX12_draw_14 vw_X12_182_12 (c_f_M_makes l _) hg (by decide) ob_148 rfl (Nat.le_of_ble_eq_true rfl) rfl rfl (fun _ σ3 _ => ?_)
    refine aw_iload_n K 0 dX12_draw_17 rfl ?_
    exact aw_iret dX12_draw_18
  · refine aw_bipush K dX12_draw_9 kb_m3 ?_
    exact aw_iret dX12_draw_11
set_option maxRecDepth 100000 in
set_option maxHeartbeats 4000000 in
theorem a_f_M_putsBack_2 (l : Launch) {P : PT} {G : GT} (K : CX P G cX12_putsBack RX12 (0) 2) (hg : gl G = l) : ∀ (n : Nat) (x1 : Int32) (σ : SG), AW P G 2 (EV P G cX12_putsBack) (f_M_putsBack_2 n x1 σ) σ 2 [(0, rf P 148), (1, .int x1)] [] := by
  intro n
  induction n with
  | zero =>
    intro x1 σ
    rw [f_M_putsBack_2]
    exact aw_none
  | succ n ih =>
    intro x1 σ
    rw [f_M_putsBack_2]
    refine aw_iload_n K 1 dX12_putsBack_2 rfl ?_
    refine aw_sipush K dX12_putsBack_3 ks_340 ?_
    refine aw_icmp_ge K 27 dX12_putsBack_6 (by decide) (fun h_1 => ?_) (fun h_1 => ?_)
    · exact aw_vret dX12_putsBack_27
    · refine aw_aload_n K 0 dX12_putsBack_9 rfl ?_
      refine aw_getR K (c' := 149) dX12_putsBack_10 lk_X12_7_12 fd_148_0 ?_
      refine aw_iload_n K 1 dX12_putsBack_13 rfl ?_
      refine aw_aload_n K 0 dX12_putsBack_14 rfl ?_
      refine aw_getR K (c' := 151) dX12_putsBack_15 lk_X12_16_12 fd_148_2 ?_
      refine aw_iload_n K 1 dX12_putsBack_18 rfl ?_
      refine aw_gd (fun h_2 => ?_)
      refine aw_ald K dX12_putsBack_19 ad_151 h_2 rfl ?_
      refine aw_gd (fun h_3 => ?_)
      refine aw_ast K dX12_putsBack_20 ad_149 h_3 rfl (fun σ1 => ?_)
      refine aw_iinc K (lv' := fun y2 => [(1, .int y2), (0, rf P 148)]) 1 dX12_putsBack_21 rfl ki_1 (Nat.le_of_ble_eq_true rfl) (fun _ => rfl) (fun y2 => ?_)
      refine aw_goto K 2 dX12_putsBack_24 (by decide) ?_
      refine aw_lv [1, 0] rfl ?_
      exact ih _ _
set_option maxRecDepth 100000 in
set_option maxHeartbeats 4000000 in
theorem c_f_M_putsBack (l : Launch) : CTV l (0) yX12_putsBack cX12_putsBack 2 (none) (fun P => [rf P 148]) (fun σ => f_M_putsBack σ) := by
  refine met_V rfl rfl rfl (fun P => Nat.le_of_ble_eq_true rfl) (fun P G K hg σ => ?_)
  change AW P G 2 (EV P G cX12_putsBack) (f_M_putsBack σ) σ 0 [(0, rf P 148)] []
  rw [f_M_putsBack]
  refine aw_iconst K dX12_putsBack_0 ki_0 ?_
  refine aw_istore_n K (i := 1) (lv' := [(1, .int (0 : Int32)), (0, rf P 148)]) dX12_putsBack_1 rfl (Nat.le_of_ble_eq_true rfl) rfl ?_
  refine aw_lv [1, 0] rfl ?_
  exact (a_f_M_putsBack_2 l K hg FU) _ _
set_option maxRecDepth 100000 in
set_option maxHeartbeats 4000000 in
theorem a_f_M_puts_2 (l : Launch) {P : PT} {G : GT} (K : CX P G cX12_puts RX12 (0) 2) (hg : gl G = l) : ∀ (n : Nat) (x1 : Int32) (σ : SG), AW P G 2 (EV P G cX12_puts) (f_M_puts_2 n x1 σ) σ 2 [(0, rf P 148), (1, .int x1)] [] := by
  intro n
  induction n with
  | zero =>
    intro x1 σ
    rw [f_M_puts_2]
    exact aw_none
  | succ n ih =>
    intro x1 σ
    rw [f_M_puts_2]
    refine aw_iload_n K 1 dX12_puts_2 rfl ?_
    refine aw_sipush K dX12_puts_3 ks_340 ?_
    refine aw_icmp_ge K 27 dX12_puts_6 (by decide) (fun h_1 => ?_) (fun h_1 => ?_)
    · exact aw_vret dX12_puts_27
    · refine aw_aload_n K 0 dX12_puts_9 rfl ?_
      refine aw_getR K (c' := 151) dX12_puts_10 lk_X12_16_12 fd_148_2 ?_
      refine aw_iload_n K 1 dX12_puts_13 rfl ?_
      refine aw_aload_n K 0 dX12_puts_14 rfl ?_
      refine aw_getR K (c' := 149) dX12_puts_15 lk_X12_7_12 fd_148_0 ?_
      refine aw_iload_n K 1 dX12_puts_18 rfl ?_
      refine aw_gd (fun h_2 => ?_)
      refine aw_ald K dX12_puts_19 ad_149 h_2 rfl ?_
      refine aw_gd (fun h_3 => ?_)
      refine aw_ast K dX12_puts_20 ad_151 h_3 rfl (fun σ1 => ?_)
      refine aw_iinc K (lv' := fun y2 => [(1, .int y2), (0, rf P 148)]) 1 dX12_puts_21 rfl ki_1 (Nat.le_of_ble_eq_true rfl) (fun _ => rfl) (fun y2 => ?_)
      refine aw_goto K 2 dX12_puts_24 (by decide) ?_
      refine aw_lv [1, 0] rfl ?_
      exact ih _ _
set_option maxRecDepth 100000 in
set_option maxHeartbeats 4000000 in
theorem c_f_M_puts (l : Launch) : CTV l (0) yX12_puts cX12_puts 2 (none) (fun P => [rf P 148]) (fun σ => f_M_puts σ) := by
  refine met_V rfl rfl rfl (fun P => Nat.le_of_ble_eq_true rfl) (fun P G K hg σ => ?_)
  change AW P G 2 (EV P G cX12_puts) (f_M_puts σ) σ 0 [(0, rf P 148)] []
  rw [f_M_puts]
  refine aw_iconst K dX12_puts_0 ki_0 ?_
  refine aw_istore_n K (i := 1) (lv' := [(1, .int (0 : Int32)), (0, rf P 148)]) dX12_puts_1 rfl (Nat.le_of_ble_eq_true rfl) rfl ?_
  refine aw_lv [1, 0] rfl ?_
  exact (a_f_M_puts_2 l K hg FU) _ _
set_option maxRecDepth 100000 in
set_option maxHeartbeats 4000000 in
theorem a_f_M_often_70 (l : Launch) {P : PT} {G : GT} (K : CX P G cX12_often RX12 (10) 5) (hg : gl G = l) {K22 : Int32 → Int32 → Int32 → SG → Option (Int32 × SG)} (hK22 : ∀ (x1 : Int32) (x2 : Int32) (x3 : Int32) (σ : SG), AW P G 5 (EI P G cX12_often) (K22 x1 x2 x3 σ) σ 22 [(0, rf P 148), (1, .int x1), (2, .int x2), (3, .int x3)] []) : ∀ (x1 : Int32) (x3 : Int32) (xs0 : Int32) (xs1 : Int32) (σ : SG), AW P G 5 (EI P G cX12_often) (f_M_often_70 K22 x1 x3 xs0 xs1 σ) σ 70 [(0, rf P 148), (1, .int x1), (3, .int x3)] [.int xs0, .int xs1] := by
  intro x1 x3 xs0 xs1 σ
  rw [f_M_often_70]
  refine aw_iadd K dX12_often_70 ?_
  refine aw_istoreX_n K (i := 2) (lv' := fun y1 => [(2, .int y1), (0, rf P 148), (1, .int x1), (3, .int x3)]) dX12_often_71 rfl (Nat.le_of_ble_eq_true rfl) (fun _ => rfl) (fun y1 => ?_)
  refine aw_aload_n K 1 dX12_often_72 rfl ?_
  refine aw_getR K (c' := 149) dX12_often_73 lk_X12_7_12 fd_148_0 ?_
  refine aw_iconst K dX12_often_76 ki_5 ?_
  refine aw_ald K dX12_often_77 ad_149 (by decide) kn_5 ?_
  refine aw_istoreX K (i := 4) (lv' := fun y2 => [(4, .int y2), (2, .int y1), (0, rf P 148), (1, .int x1), (3, .int x3)]) dX12_often_78 (Nat.le_of_ble_eq_true rfl) (fun _ => rfl) (fun y2 => ?_)
  refine aw_aload_n K 2 dX12_often_80 rfl ?_
  refine aw_callVV K dX12_often_81 vw_X12_283_12 (c_f_M_putsBack l) hg (by decide) ob_148 rfl (Nat.le_of_ble_eq_true rfl) rfl rfl (fun _ σ3 _ => ?_)
  refine aw_aload_n K 2 dX12_often_84 rfl ?_
  refine aw_getR K (c' := 149) dX12_often_85 lk_X12_7_12 fd_148_0 ?_
  refine aw_iconst K dX12_often_88 ki_5 ?_
  refine aw_iload K 0 dX12_often_89 rfl ?_
  refine aw_ast K dX12_often_91 ad_149 (by decide) kn_5 (fun σ4 => ?_)
  refine aw_iinc K (lv' := fun y5 => [(3, .int y5), (4, .int y2), (2, .int y1), (0, rf P 148), (1, .int x1)]) 4 dX12_often_92 rfl ki_1 (Nat.le_of_ble_eq_true rfl) (fun _ => rfl) (fun y5 => ?_)
  refine aw_goto K 22 dX12_often_95 (by decide) ?_
  refine aw_lv [3, 4, 2, 0] rfl ?_
  exact hK22 _ _ _ _
set_option maxRecDepth 100000 in
set_option maxHeartbeats 4000000 in
theorem a_f_M_often_33 (l : Launch) {P : PT} {G : GT} (K : CX P G cX12_often RX12 (10) 5) (hg : gl G = l) {K22 : Int32 → Int32 → Int32 → SG → Option (Int32 × SG)} (hK22 : ∀ (x1 : Int32) (x2 : Int32) (x3 : Int32) (σ : SG), AW P G 5 (EI P G cX12_often) (K22 x1 x2 x3 σ) σ 22 [(0, rf P 148), (1, .int x1), (2, .int x2), (3, .int x3)] []) : ∀ (n : Nat) (x1 : Int32) (x2 : Int32) (x3 : Int32) (x4 : Int32) (σ : SG), AW P G 5 (EI P G cX12_often) (f_M_often_33 K22 n x1 x2 x3 x4 σ) σ 33 [(0, rf P 148), (1, .int x1), (2, .int x2), (3, .int x3), (4, .int x4)] [] := by
  intro n
  induction n with
  | zero =>
    intro x1 x2 x3 x4 σ
    rw [f_M_often_33]
    exact aw_none
  | succ n ih =>
    intro x1 x2 x3 x4 σ
    rw [f_M_often_33]
    refine aw_iload K 4 dX12_often_33 rfl ?_
    refine aw_if_lt K 53 dX12_often_35 (by decide) (fun h_1 => ?_) (fun h_1 => ?_)
    · refine aw_iload_n K 2 dX12_often_53 rfl ?_
      refine aw_aload_n K 0 dX12_often_54 rfl ?_
      refine aw_callVI K dX12_often_55 vw_X12_99_12 (c_f_M_wholeSet l) hg (by decide) ob_148 rfl (Nat.le_of_ble_eq_true rfl) rfl rfl (fun r2 σ1 _ => ?_)
      refine aw_aload_n K 0 dX12_often_58 rfl ?_
      refine aw_callVI K dX12_often_59 vw_X12_204_12 (c_f_M_thereSet l) hg (by decide) ob_148 rfl (Nat.le_of_ble_eq_true rfl) rfl rfl (fun r4 σ3 _ => ?_)
      refine aw_icmp_ne K 69 dX12_often_62 (by decide) (fun h_2 => ?_) (fun h_2 => ?_)
      · refine aw_iconst K dX12_often_69 ki_0 ?_
        refine aw_lv [0, 1, 3] rfl ?_
        exact (a_f_M_often_70 l K hg hK22) _ _ _ _ _
      · refine aw_iconst K dX12_often_65 ki_1 ?_
        refine aw_goto K 70 dX12_often_66 (by decide) ?_
        refine aw_lv [0, 1, 3] rfl ?_
        exact (a_f_M_often_70 l K hg hK22) _ _ _ _ _
    · refine aw_aload_n K 0 dX12_often_38 rfl ?_
      refine aw_iload K 4 dX12_often_39 rfl ?_
      refine aw_callVV K dX12_often_41 vw_X12_175_12 (c_f_M_does l _) hg (by decide) ob_148 rfl (Nat.le_of_ble_eq_true rfl) rfl rfl (fun _ σ5 _ => ?_)
      refine aw_aload_n K 0 dX12_often_44 rfl ?_
      refine aw_callVI K dX12_often_45 vw_X12_275_12 (c_f_M_drawn l) hg (by decide) ob_148 rfl (Nat.le_of_ble_eq_true rfl) rfl rfl (fun r7 σ6 _ => ?_)
      refine aw_istore K (i := 4) (lv' := [(4, .int r7), (0, rf P 148), (1, .int x1), (2, .int x2), (3, .int x3)]) dX12_often_48 (Nat.le_of_ble_eq_true rfl) rfl ?_
      refine aw_goto K 33 dX12_often_50 (by decide) ?_
      refine aw_lv [1, 2, 3, 4, 0] rfl ?_
      exact ih _ _ _ _ _
set_option maxRecDepth 100000 in
set_option maxHeartbeats 4000000 in
theorem a_f_M_often_22 (l : Launch) {P : PT} {G : GT} (K : CX P G cX12_often RX12 (10) 5) (hg : gl G = l) : ∀ (n : Nat) (x1 : Int32) (x2 : Int32) (x3 : Int32) (σ : SG), AW P G 5 (EI P G cX12_often) (f_M_often_22 n x1 x2 x3 σ) σ 22 [(0, rf P 148), (1, .int x1), (2, .int x2), (3, .int x3)] [] := by
  intro n
  induction n with
  | zero =>
    intro x1 x2 x3 σ
    rw [f_M_often_22]
    exact aw_none
  | succ n ih =>
    intro x1 x2 x3 σ
    rw [f_M_often_22]
    refine aw_iload_n K 3 dX12_often_22 rfl ?_
    refine aw_iload_n K 1 dX12_often_23 rfl ?_
    refine aw_icmp_ge K 98 dX12_often_24 (by decide) (fun h_1 => ?_) (fun h_1 => ?_)
    · refine aw_aload_n K 0 dX12_often_98 rfl ?_
      refine aw_callVV K dX12_often_99 vw_X12_283_12 (c_f_M_putsBack l) hg (by decide) ob_148 rfl (Nat.le_of_ble_eq_true rfl) rfl rfl (fun _ σ1 _ => ?_)
      refine aw_iload_n K 2 dX12_often_102 rfl ?_
      exact aw_iret dX12_often_103
    · refine aw_aload_n K 0 dX12_often_27 rfl ?_
      refine aw_callVI K dX12_often_28 vw_X12_275_12 (c_f_M_drawn l) hg (by decide) ob_148 rfl (Nat.le_of_ble_eq_true rfl) rfl rfl (fun r3 σ2 _ => ?_)
      refine aw_istore K (i := 4) (lv' := [(4, .int r3), (0, rf P 148), (1, .int x1), (2, .int x2), (3, .int x3)]) dX12_often_31 (Nat.le_of_ble_eq_true rfl) rfl ?_
      refine aw_lv [1, 2, 3, 4, 0] rfl ?_
      exact (a_f_M_often_33 l K hg ih FU) _ _ _ _ _
set_option maxRecDepth 100000 in
set_option maxHeartbeats 4000000 in
theorem c_f_M_often (l : Launch) (x1 : Int32) : CTI l (10) yX12_often cX12_often 5 ((some .int)) (fun P => [rf P 148, .int x1]) (fun σ => f_M_often x1 σ) := by
  refine met_I rfl rfl rfl (fun P => Nat.le_of_ble_eq_true rfl) (fun P G K hg σ => ?_)
  change AW P G 5 (EI P G cX12_often) (f_M_often x1 σ) σ 0 [(0, rf P 148), (1, .int x1)] []
  rw [f_M_often]
  refine aw_iload_n K 1 dX12_often_0 rfl ?_
  refine aw_i2l K dX12_often_1 ?_
  refine aw_lconst K dX12_often_2 kl_1 ?_
  refine aw_ldc2 K (x := (60 : Int64)) dX12_often_3 (in_r49 _ (List.mem_of_getElem? (i := 17) rfl)) ?_
  refine aw_callSI K dX12_often_6 vw_X12_68 (c_f_M_in l _ _ _) hg (by decide) rfl (Nat.le_of_ble_eq_true rfl) rfl rfl (fun r2 σ1 _ => ?_)
  refine aw_if_ne K 14 dX12_often_9 (by decide) (fun h_1 => ?_) (fun h_1 => ?_)
  · refine aw_aload_n K 0 dX12_often_14 rfl ?_
    refine aw_callVV K dX12_often_15 vw_X12_280_12 (c_f_M_puts l) hg (by decide) ob_148 rfl (Nat.le_of_ble_eq_true rfl) rfl rfl (fun _ σ3 _ => ?_)
    refine aw_iconst K dX12_often_18 ki_0 ?_
    refine aw_istore_n K (i := 2) (lv' := [(2, .int (0 : Int32)), (0, rf P 148), (1, .int x1)]) dX12_often_19 rfl (Nat.le_of_ble_eq_true rfl) rfl ?_
    refine aw_iconst K dX12_often_20 ki_0 ?_
    refine aw_istore_n K (i := 3) (lv' := [(3, .int (0 : Int32)), (2, .int (0 : Int32)), (0, rf P 148), (1, .int x1)]) dX12_often_21 rfl (Nat.le_of_ble_eq_true rfl) rfl ?_
    refine aw_lv [2, 3, 1, 0] rfl ?_
    exact (a_f_M_often_22 l K hg FU) _ _ _ _
  · refine aw_iconst K dX12_often_12 ki_m1 ?_
    exact aw_iret dX12_often_13
set_option maxRecDepth 100000 in
set_option maxHeartbeats 4000000 in
theorem a_f_M_prove_30 (l : Launch) {P : PT} {G : GT} (K : CX P G cX12_prove RX12 (22) 2) (hg : gl G = l) : ∀ (n : Nat) (x1 : Int32) (σ : SG), AW P G 2 (EI P G cX12_prove) (f_M_prove_30 n x1 σ) σ 30 [(0, rf P 148), (1, .int x1)] [] := by
  intro n
  induction n with
  | zero =>
    intro x1 σ
    rw [f_M_prove_30]
    exact aw_none
  | succ n ih =>
    intro x1 σ
    rw [f_M_prove_30]
    refine aw_iload_n K 1 dX12_prove_30 rfl ?_
    refine aw_aload_n K 0 dX12_prove_31 rfl ?_
    refine aw_getI K dX12_prove_32 lk_X12_286_12 fd_148_24 ?_
    refine aw_icmp_ge K 96 dX12_prove_35 (by decide) (fun h_1 => ?_) (fun h_1 => ?_)
    · refine aw_aload_n K 0 dX12_prove_96 rfl ?_
      refine aw_callVV K dX12_prove_97 vw_X12_283_12 (c_f_M_putsBack l) hg (by decide) ob_148 rfl (Nat.le_of_ble_eq_true rfl) rfl rfl (fun _ σ1 _ => ?_)
      refine aw_aload_n K 0 dX12_prove_100 rfl ?_
      refine aw_getI K dX12_prove_101 lk_X12_286_12 fd_148_24 ?_
      exact aw_iret dX12_prove_104
    · refine aw_aload_n K 0 dX12_prove_38 rfl ?_
      refine aw_aload_n K 0 dX12_prove_39 rfl ?_
      refine aw_getR K (c' := 154) dX12_prove_40 lk_X12_29_12 fd_148_9 ?_
      refine aw_iload_n K 1 dX12_prove_43 rfl ?_
      refine aw_gd (fun h_2 => ?_)
      refine aw_ald K dX12_prove_44 ad_154 h_2 rfl ?_
      refine aw_callVV K dX12_prove_45 vw_X12_175_12 (c_f_M_does l _) hg (by decide) ob_148 rfl (Nat.le_of_ble_eq_true rfl) rfl rfl (fun _ σ2 _ => ?_)
      refine aw_aload_n K 0 dX12_prove_48 rfl ?_
      refine aw_getR K (c' := 158) dX12_prove_49 lk_X12_41_12 fd_148_23 ?_
      refine aw_iconst K dX12_prove_52 ki_3 ?_
      refine aw_iload_n K 1 dX12_prove_53 rfl ?_
      refine aw_imul K dX12_prove_54 ?_
      refine aw_aload_n K 0 dX12_prove_55 rfl ?_
      refine aw_getR K (c' := 154) dX12_prove_56 lk_X12_29_12 fd_148_9 ?_
      refine aw_iload_n K 1 dX12_prove_59 rfl ?_
      refine aw_gd (fun h_3 => ?_)
      refine aw_ald K dX12_prove_60 ad_154 h_3 rfl ?_
      refine aw_gd (fun h_4 => ?_)
      refine aw_ast K dX12_prove_61 ad_158 h_4 rfl (fun σ3 => ?_)
      refine aw_aload_n K 0 dX12_prove_62 rfl ?_
      refine aw_getR K (c' := 158) dX12_prove_63 lk_X12_41_12 fd_148_23 ?_
      refine aw_iconst K dX12_prove_66 ki_3 ?_
      refine aw_iload_n K 1 dX12_prove_67 rfl ?_
      refine aw_imul K dX12_prove_68 ?_
      refine aw_iconst K dX12_prove_69 ki_1 ?_
      refine aw_iadd K dX12_prove_70 ?_
      refine aw_aload_n K 0 dX12_prove_71 rfl ?_
      refine aw_callVI K dX12_prove_72 vw_X12_150_12 (c_f_M_coinsAll l) hg (by decide) ob_148 rfl (Nat.le_of_ble_eq_true rfl) rfl rfl (fun r5 σ4 _ => ?_)
      refine aw_gd (fun h_5 => ?_)
      refine aw_ast K dX12_prove_75 ad_158 h_5 rfl (fun σ6 => ?_)
      refine aw_aload_n K 0 dX12_prove_76 rfl ?_
      refine aw_getR K (c' := 158) dX12_prove_77 lk_X12_41_12 fd_148_23 ?_
      refine aw_iconst K dX12_prove_80 ki_3 ?_
      refine aw_iload_n K 1 dX12_prove_81 rfl ?_
      refine aw_imul K dX12_prove_82 ?_
      refine aw_iconst K dX12_prove_83 ki_2 ?_
      refine aw_iadd K dX12_prove_84 ?_
      refine aw_aload_n K 0 dX12_prove_85 rfl ?_
      refine aw_callVI K dX12_prove_86 vw_X12_99_12 (c_f_M_wholeSet l) hg (by decide) ob_148 rfl (Nat.le_of_ble_eq_true rfl) rfl rfl (fun r8 σ7 _ => ?_)
      refine aw_gd (fun h_6 => ?_)
      refine aw_ast K dX12_prove_89 ad_158 h_6 rfl (fun σ9 => ?_)
      refine aw_iinc K (lv' := fun y10 => [(1, .int y10), (0, rf P 148)]) 1 dX12_prove_90 rfl ki_1 (Nat.le_of_ble_eq_true rfl) (fun _ => rfl) (fun y10 => ?_)
      refine aw_goto K 30 dX12_prove_93 (by decide) ?_
      refine aw_lv [1, 0] rfl ?_
      exact ih _ _
set_option maxRecDepth 100000 in
set_option maxHeartbeats 4000000 in
theorem c_f_M_prove (l : Launch) : CTI l (22) yX12_prove cX12_prove 2 ((some .int)) (fun P => [rf P 148]) (fun σ => f_M_prove σ) := by
  refine met_I rfl rfl rfl (fun P => Nat.le_of_ble_eq_true rfl) (fun P G K hg σ => ?_)
  change AW P G 2 (EI P G cX12_prove) (f_M_prove σ) σ 0 [(0, rf P 148)] []
  rw [f_M_prove]
  refine aw_aload_n K 0 dX12_prove_0 rfl ?_
  refine aw_bipush K dX12_prove_1 kb_6 ?_
  refine aw_callVV K dX12_prove_3 vw_X12_213_12 (c_f_M_goesAll l _) hg (by decide) ob_148 rfl (Nat.le_of_ble_eq_true rfl) rfl rfl (fun _ σ1 _ => ?_)
  refine aw_aload_n K 0 dX12_prove_6 rfl ?_
  refine aw_getI K dX12_prove_7 lk_X12_192_12 fd_148_13 ?_
  refine aw_if_ge K 16 dX12_prove_10 (by decide) (fun h_1 => ?_) (fun h_1 => ?_)
  · refine aw_aload_n K 0 dX12_prove_16 rfl ?_
    refine aw_callVV K dX12_prove_17 vw_X12_280_12 (c_f_M_puts l) hg (by decide) ob_148 rfl (Nat.le_of_ble_eq_true rfl) rfl rfl (fun _ σ2 _ => ?_)
    refine aw_aload_n K 0 dX12_prove_20 rfl ?_
    refine aw_aload_n K 0 dX12_prove_21 rfl ?_
    refine aw_getI K dX12_prove_22 lk_X12_192_12 fd_148_13 ?_
    refine aw_putI K dX12_prove_25 lp_X12_286_12 fd_148_24 (fun σ3 => ?_)
    refine aw_iconst K dX12_prove_28 ki_0 ?_
    refine aw_istore_n K (i := 1) (lv' := [(1, .int (0 : Int32)), (0, rf P 148)]) dX12_prove_29 rfl (Nat.le_of_ble_eq_true rfl) rfl ?_
    refine aw_lv [1, 0] rfl ?_
    exact (a_f_M_prove_30 l K hg FU) _ _
  · refine aw_bipush K dX12_prove_13 kb_m3 ?_
    exact aw_iret dX12_prove_15
set_option maxRecDepth 100000 in
set_option maxHeartbeats 4000000 in
theorem c_f_M_isRow (l : Launch) (x1 : Int32) (x2 : Int32) : CTI l (1) yX12_isRow cX12_isRow 3 ((some .boolean)) (fun P => [rf P 148, .int x1, .int x2]) (fun σ => f_M_isRow x1 x2 σ) := by
  refine met_Z rfl rfl rfl (fun P => Nat.le_of_ble_eq_true rfl) (fun P G K hg σ => ?_)
  change AW P G 3 (EZ P G cX12_isRow) (f_M_isRow x1 x2 σ) σ 0 [(0, rf P 148), (1, .int x1), (2, .int x2)] []
  rw [f_M_isRow]
  refine aw_iload_n K 1 dX12_isRow_0 rfl ?_
  refine aw_i2l K dX12_isRow_1 ?_
  refine aw_lconst K dX12_isRow_2 kl_0 ?_
  refine aw_aload_n K 0 dX12_isRow_3 rfl ?_
  refine aw_getI K dX12_isRow_4 lk_X12_286_12 fd_148_24 ?_
  refine aw_iconst K dX12_isRow_7 ki_1 ?_
  refine aw_isub K dX12_isRow_8 ?_
  refine aw_i2l K dX12_isRow_9 ?_
  refine aw_callSI K dX12_isRow_10 vw_X12_68 (c_f_M_in l _ _ _) hg (by decide) rfl (Nat.le_of_ble_eq_true rfl) rfl rfl (fun r2 σ1 _ => ?_)
  refine aw_if_eq K 32 dX12_isRow_13 (by decide) (fun h_1 => ?_) (fun h_1 => ?_)
  · refine aw_iconst K dX12_isRow_32 ki_0 ?_
    exact aw_zret dX12_isRow_33 (by decide)
  · refine aw_iload_n K 2 dX12_isRow_16 rfl ?_
    refine aw_i2l K dX12_isRow_17 ?_
    refine aw_lconst K dX12_isRow_18 kl_0 ?_
    refine aw_ldc2 K (x := (2 : Int64)) dX12_isRow_19 (in_r41 _ (List.mem_of_getElem? (i := 6) rfl)) ?_
    refine aw_callSI K dX12_isRow_22 vw_X12_68 (c_f_M_in l _ _ _) hg (by decide) rfl (Nat.le_of_ble_eq_true rfl) rfl rfl (fun r4 σ3 _ => ?_)
    refine aw_if_eq K 32 dX12_isRow_25 (by decide) (fun h_2 => ?_) (fun h_2 => ?_)
    · refine aw_iconst K dX12_isRow_32 ki_0 ?_
      exact aw_zret dX12_isRow_33 (by decide)
    · refine aw_iconst K dX12_isRow_28 ki_1 ?_
      refine aw_goto K 33 dX12_isRow_29 (by decide) ?_
      exact aw_zret dX12_isRow_33 (by decide)
set_option maxRecDepth 100000 in
set_option maxHeartbeats 4000000 in
theorem c_f_M_row (l : Launch) (x1 : Int32) (x2 : Int32) : CTI l (2) yX12_row cX12_row 3 ((some .int)) (fun P => [rf P 148, .int x1, .int x2]) (fun σ => f_M_row x1 x2 σ) := by
  refine met_I rfl rfl rfl (fun P => Nat.le_of_ble_eq_true rfl) (fun P G K hg σ => ?_)
  change AW P G 3 (EI P G cX12_row) (f_M_row x1 x2 σ) σ 0 [(0, rf P 148), (1, .int x1), (2, .int x2)] []
  rw [f_M_row]
  refine aw_aload_n K 0 dX12_row_0 rfl ?_
  refine aw_iload_n K 1 dX12_row_1 rfl ?_
  refine aw_iload_n K 2 dX12_row_2 rfl ?_
  refine aw_callVI K dX12_row_3 vw_X12_289_12 (c_f_M_isRow l _ _) hg (by decide) ob_148 rfl (Nat.le_of_ble_eq_true rfl) rfl rfl (fun r2 σ1 _ => ?_)
  refine aw_if_eq K 22 dX12_row_6 (by decide) (fun h_1 => ?_) (fun h_1 => ?_)
  · refine aw_bipush K dX12_row_22 kb_m9 ?_
    exact aw_iret dX12_row_24
  · refine aw_aload_n K 0 dX12_row_9 rfl ?_
    refine aw_getR K (c' := 158) dX12_row_10 lk_X12_41_12 fd_148_23 ?_
    refine aw_iconst K dX12_row_13 ki_3 ?_
    refine aw_iload_n K 1 dX12_row_14 rfl ?_
    refine aw_imul K dX12_row_15 ?_
    refine aw_iload_n K 2 dX12_row_16 rfl ?_
    refine aw_iadd K dX12_row_17 ?_
    refine aw_gd (fun h_2 => ?_)
    refine aw_ald K dX12_row_18 ad_158 h_2 rfl ?_
    refine aw_goto K 24 dX12_row_19 (by decide) ?_
    exact aw_iret dX12_row_24
set_option maxRecDepth 100000 in
set_option maxHeartbeats 4000000 in
theorem c_f_M_alterRow (l : Launch) (x1 : Int32) (x2 : Int32) (x3 : Int32) : CTI l (2) yX12_alterRow cX12_alterRow 5 ((some .int)) (fun P => [rf P 148, .int x1, .int x2, .int x3]) (fun σ => f_M_alterRow x1 x2 x3 σ) := by
  refine met_I rfl rfl rfl (fun P => Nat.le_of_ble_eq_true rfl) (fun P G K hg σ => ?_)
  change AW P G 5 (EI P G cX12_alterRow) (f_M_alterRow x1 x2 x3 σ) σ 0 [(0, rf P 148), (1, .int x1), (2, .int x2), (3, .int x3)] []
  rw [f_M_alterRow]
  refine aw_aload_n K 0 dX12_alterRow_0 rfl ?_
  refine aw_iload_n K 1 dX12_alterRow_1 rfl ?_
  refine aw_iload_n K 2 dX12_alterRow_2 rfl ?_
  refine aw_callVI K dX12_alterRow_3 vw_X12_289_12 (c_f_M_isRow l _ _) hg (by decide) ob_148 rfl (Nat.le_of_ble_eq_true rfl) rfl rfl (fun r2 σ1 _ => ?_)
  refine aw_if_ne K 12 dX12_alterRow_6 (by decide) (fun h_1 => ?_) (fun h_1 => ?_)
  · refine aw_aload_n K 0 dX12_alterRow_12 rfl ?_
    refine aw_getR K (c' := 158) dX12_alterRow_13 lk_X12_41_12 fd_148_23 ?_
    refine aw_iconst K dX12_alterRow_16 ki_3 ?_
    refine aw_iload_n K 1 dX12_alterRow_17 rfl ?_
    refine aw_imul K dX12_alterRow_18 ?_
    refine aw_iload_n K 2 dX12_alterRow_19 rfl ?_
    refine aw_iadd K dX12_alterRow_20 ?_
    refine aw_gd (fun h_2 => ?_)
    refine aw_ald K dX12_alterRow_21 ad_158 h_2 rfl ?_
    refine aw_istoreX K (i := 4) (lv' := fun y3 => [(4, .int y3), (0, rf P 148), (1, .int x1), (2, .int x2), (3, .int x3)]) dX12_alterRow_22 (Nat.le_of_ble_eq_true rfl) (fun _ => rfl) (fun y3 => ?_)
    refine aw_aload_n K 1 dX12_alterRow_24 rfl ?_
    refine aw_getR K (c' := 158) dX12_alterRow_25 lk_X12_41_12 fd_148_23 ?_
    refine aw_iconst K dX12_alterRow_28 ki_3 ?_
    refine aw_iload_n K 2 dX12_alterRow_29 rfl ?_
    refine aw_imul K dX12_alterRow_30 ?_
    refine aw_iload_n K 3 dX12_alterRow_31 rfl ?_
    refine aw_iadd K dX12_alterRow_32 ?_
    refine aw_iload_n K 4 dX12_alterRow_33 rfl ?_
    refine aw_gd (fun h_3 => ?_)
    refine aw_ast K dX12_alterRow_34 ad_158 h_3 rfl (fun σ4 => ?_)
    refine aw_iload K 0 dX12_alterRow_35 rfl ?_
    exact aw_iret dX12_alterRow_37
  · refine aw_bipush K dX12_alterRow_9 kb_m9 ?_
    exact aw_iret dX12_alterRow_11
set_option maxRecDepth 100000 in
set_option maxHeartbeats 4000000 in
theorem a_f_M_judge_127 (l : Launch) {P : PT} {G : GT} (K : CX P G cX12_judge RX12 (8) 4) (hg : gl G = l) {K8 : Int32 → Int32 → SG → Option (Int32 × SG)} (hK8 : ∀ (x1 : Int32) (x2 : Int32) (σ : SG), AW P G 4 (EI P G cX12_judge) (K8 x1 x2 σ) σ 8 [(0, rf P 148), (1, .int x1), (2, .int x2)] []) : ∀ (x2 : Int32) (σ : SG), AW P G 4 (EI P G cX12_judge) (f_M_judge_127 K8 x2 σ) σ 127 [(0, rf P 148), (2, .int x2)] [] := by
  intro x2 σ
  rw [f_M_judge_127]
  refine aw_iconst K dX12_judge_127 ki_1 ?_
  refine aw_goto K 132 dX12_judge_128 (by decide) ?_
  refine aw_istore_n K (i := 3) (lv' := [(3, .int (1 : Int32)), (0, rf P 148), (2, .int x2)]) dX12_judge_132 rfl (Nat.le_of_ble_eq_true rfl) rfl ?_
  refine aw_iload_n K 0 dX12_judge_133 rfl ?_
  refine aw_if_eq K 141 dX12_judge_134 (by decide) (fun h_1 => ?_) (fun h_1 => ?_)
  · refine aw_iload_n K 2 dX12_judge_141 rfl ?_
    refine aw_iconst K dX12_judge_142 ki_1 ?_
    refine aw_iadd K dX12_judge_143 ?_
    refine aw_istoreX_n K (i := 1) (lv' := fun y1 => [(1, .int y1), (3, .int (1 : Int32)), (0, rf P 148), (2, .int x2)]) dX12_judge_144 rfl (Nat.le_of_ble_eq_true rfl) (fun _ => rfl) (fun y1 => ?_)
    refine aw_iinc K (lv' := fun y2 => [(2, .int y2), (1, .int y1), (3, .int (1 : Int32)), (0, rf P 148)]) 3 dX12_judge_145 rfl ki_1 (Nat.le_of_ble_eq_true rfl) (fun _ => rfl) (fun y2 => ?_)
    refine aw_goto K 8 dX12_judge_148 (by decide) ?_
    refine aw_lv [3, 1, 0] rfl ?_
    exact hK8 _ _ _
  · refine aw_iconst K dX12_judge_137 ki_0 ?_
    refine aw_goto K 144 dX12_judge_138 (by decide) ?_
    refine aw_istore_n K (i := 1) (lv' := [(1, .int (0 : Int32)), (3, .int (1 : Int32)), (0, rf P 148), (2, .int x2)]) dX12_judge_144 rfl (Nat.le_of_ble_eq_true rfl) rfl ?_
    refine aw_iinc K (lv' := fun y3 => [(2, .int y3), (1, .int (0 : Int32)), (3, .int (1 : Int32)), (0, rf P 148)]) 3 dX12_judge_145 rfl ki_1 (Nat.le_of_ble_eq_true rfl) (fun _ => rfl) (fun y3 => ?_)
    refine aw_goto K 8 dX12_judge_148 (by decide) ?_
    refine aw_lv [3, 1, 0] rfl ?_
    exact hK8 _ _ _
set_option maxRecDepth 100000 in
set_option maxHeartbeats 4000000 in
theorem a_f_M_judge_131 (l : Launch) {P : PT} {G : GT} (K : CX P G cX12_judge RX12 (8) 4) (hg : gl G = l) {K8 : Int32 → Int32 → SG → Option (Int32 × SG)} (hK8 : ∀ (x1 : Int32) (x2 : Int32) (σ : SG), AW P G 4 (EI P G cX12_judge) (K8 x1 x2 σ) σ 8 [(0, rf P 148), (1, .int x1), (2, .int x2)] []) : ∀ (x2 : Int32) (σ : SG), AW P G 4 (EI P G cX12_judge) (f_M_judge_131 K8 x2 σ) σ 131 [(0, rf P 148), (2, .int x2)] [] := by
  intro x2 σ
  rw [f_M_judge_131]
  refine aw_iconst K dX12_judge_131 ki_0 ?_
  refine aw_istore_n K (i := 3) (lv' := [(3, .int (0 : Int32)), (0, rf P 148), (2, .int x2)]) dX12_judge_132 rfl (Nat.le_of_ble_eq_true rfl) rfl ?_
  refine aw_iload_n K 0 dX12_judge_133 rfl ?_
  refine aw_if_eq K 141 dX12_judge_134 (by decide) (fun h_1 => ?_) (fun h_1 => ?_)
  · refine aw_iload_n K 2 dX12_judge_141 rfl ?_
    refine aw_iconst K dX12_judge_142 ki_1 ?_
    refine aw_iadd K dX12_judge_143 ?_
    refine aw_istoreX_n K (i := 1) (lv' := fun y1 => [(1, .int y1), (3, .int (0 : Int32)), (0, rf P 148), (2, .int x2)]) dX12_judge_144 rfl (Nat.le_of_ble_eq_true rfl) (fun _ => rfl) (fun y1 => ?_)
    refine aw_iinc K (lv' := fun y2 => [(2, .int y2), (1, .int y1), (3, .int (0 : Int32)), (0, rf P 148)]) 3 dX12_judge_145 rfl ki_1 (Nat.le_of_ble_eq_true rfl) (fun _ => rfl) (fun y2 => ?_)
    refine aw_goto K 8 dX12_judge_148 (by decide) ?_
    refine aw_lv [3, 1, 0] rfl ?_
    exact hK8 _ _ _
  · refine aw_iconst K dX12_judge_137 ki_0 ?_
    refine aw_goto K 144 dX12_judge_138 (by decide) ?_
    refine aw_istore_n K (i := 1) (lv' := [(1, .int (0 : Int32)), (3, .int (0 : Int32)), (0, rf P 148), (2, .int x2)]) dX12_judge_144 rfl (Nat.le_of_ble_eq_true rfl) rfl ?_
    refine aw_iinc K (lv' := fun y3 => [(2, .int y3), (1, .int (0 : Int32)), (3, .int (0 : Int32)), (0, rf P 148)]) 3 dX12_judge_145 rfl ki_1 (Nat.le_of_ble_eq_true rfl) (fun _ => rfl) (fun y3 => ?_)
    refine aw_goto K 8 dX12_judge_148 (by decide) ?_
    refine aw_lv [3, 1, 0] rfl ?_
    exact hK8 _ _ _
set_option maxRecDepth 100000 in
set_option maxHeartbeats 4000000 in
theorem a_f_M_judge_55 (l : Launch) {P : PT} {G : GT} (K : CX P G cX12_judge RX12 (8) 4) (hg : gl G = l) {K8 : Int32 → Int32 → SG → Option (Int32 × SG)} (hK8 : ∀ (x1 : Int32) (x2 : Int32) (σ : SG), AW P G 4 (EI P G cX12_judge) (K8 x1 x2 σ) σ 8 [(0, rf P 148), (1, .int x1), (2, .int x2)] []) : ∀ (x2 : Int32) (xs0 : Int32) (σ : SG), AW P G 4 (EI P G cX12_judge) (f_M_judge_55 K8 x2 xs0 σ) σ 55 [(0, rf P 148), (2, .int x2)] [.int xs0] := by
  intro x2 xs0 σ
  rw [f_M_judge_55]
  refine aw_istore_n K (i := 3) (lv' := [(3, .int xs0), (0, rf P 148), (2, .int x2)]) dX12_judge_55 rfl (Nat.le_of_ble_eq_true rfl) rfl ?_
  refine aw_iload_n K 0 dX12_judge_56 rfl ?_
  refine aw_if_eq K 133 dX12_judge_57 (by decide) (fun h_1 => ?_) (fun h_1 => ?_)
  · refine aw_iload_n K 0 dX12_judge_133 rfl ?_
    refine aw_if_eq K 141 dX12_judge_134 (by decide) (fun h_2 => ?_) (fun h_2 => ?_)
    · refine aw_iload_n K 2 dX12_judge_141 rfl ?_
      refine aw_iconst K dX12_judge_142 ki_1 ?_
      refine aw_iadd K dX12_judge_143 ?_
      refine aw_istoreX_n K (i := 1) (lv' := fun y1 => [(1, .int y1), (3, .int xs0), (0, rf P 148), (2, .int x2)]) dX12_judge_144 rfl (Nat.le_of_ble_eq_true rfl) (fun _ => rfl) (fun y1 => ?_)
      refine aw_iinc K (lv' := fun y2 => [(2, .int y2), (1, .int y1), (3, .int xs0), (0, rf P 148)]) 3 dX12_judge_145 rfl ki_1 (Nat.le_of_ble_eq_true rfl) (fun _ => rfl) (fun y2 => ?_)
      refine aw_goto K 8 dX12_judge_148 (by decide) ?_
      refine aw_lv [3, 1, 0] rfl ?_
      exact hK8 _ _ _
    · refine aw_iconst K dX12_judge_137 ki_0 ?_
      refine aw_goto K 144 dX12_judge_138 (by decide) ?_
      refine aw_istore_n K (i := 1) (lv' := [(1, .int (0 : Int32)), (3, .int xs0), (0, rf P 148), (2, .int x2)]) dX12_judge_144 rfl (Nat.le_of_ble_eq_true rfl) rfl ?_
      refine aw_iinc K (lv' := fun y3 => [(2, .int y3), (1, .int (0 : Int32)), (3, .int xs0), (0, rf P 148)]) 3 dX12_judge_145 rfl ki_1 (Nat.le_of_ble_eq_true rfl) (fun _ => rfl) (fun y3 => ?_)
      refine aw_goto K 8 dX12_judge_148 (by decide) ?_
      refine aw_lv [3, 1, 0] rfl ?_
      exact hK8 _ _ _
  · refine aw_aload_n K 1 dX12_judge_60 rfl ?_
    refine aw_aload_n K 1 dX12_judge_61 rfl ?_
    refine aw_getR K (c' := 158) dX12_judge_62 lk_X12_41_12 fd_148_23 ?_
    refine aw_iconst K dX12_judge_65 ki_3 ?_
    refine aw_iload_n K 2 dX12_judge_66 rfl ?_
    refine aw_imul K dX12_judge_67 ?_
    refine aw_gd (fun h_3 => ?_)
    refine aw_ald K dX12_judge_68 ad_158 h_3 rfl ?_
    refine aw_callVV K dX12_judge_69 vw_X12_175_12 (c_f_M_does l _) hg (by decide) ob_148 rfl (Nat.le_of_ble_eq_true rfl) rfl rfl (fun _ σ4 _ => ?_)
    refine aw_aload_n K 1 dX12_judge_72 rfl ?_
    refine aw_getR K (c' := 158) dX12_judge_73 lk_X12_41_12 fd_148_23 ?_
    refine aw_iconst K dX12_judge_76 ki_3 ?_
    refine aw_iload_n K 2 dX12_judge_77 rfl ?_
    refine aw_imul K dX12_judge_78 ?_
    refine aw_iconst K dX12_judge_79 ki_1 ?_
    refine aw_iadd K dX12_judge_80 ?_
    refine aw_gd (fun h_4 => ?_)
    refine aw_ald K dX12_judge_81 ad_158 h_4 rfl ?_
    refine aw_aload_n K 1 dX12_judge_82 rfl ?_
    refine aw_callVI K dX12_judge_83 vw_X12_150_12 (c_f_M_coinsAll l) hg (by decide) ob_148 rfl (Nat.le_of_ble_eq_true rfl) rfl rfl (fun r6 σ5 _ => ?_)
    refine aw_icmp_ne K 131 dX12_judge_86 (by decide) (fun h_5 => ?_) (fun h_5 => ?_)
    · refine aw_lv [1, 2] rfl ?_
      exact (a_f_M_judge_131 l K hg hK8) _ _
    · refine aw_aload_n K 1 dX12_judge_89 rfl ?_
      refine aw_getR K (c' := 158) dX12_judge_90 lk_X12_41_12 fd_148_23 ?_
      refine aw_iconst K dX12_judge_93 ki_3 ?_
      refine aw_iload_n K 2 dX12_judge_94 rfl ?_
      refine aw_imul K dX12_judge_95 ?_
      refine aw_iconst K dX12_judge_96 ki_2 ?_
      refine aw_iadd K dX12_judge_97 ?_
      refine aw_gd (fun h_6 => ?_)
      refine aw_ald K dX12_judge_98 ad_158 h_6 rfl ?_
      refine aw_aload_n K 1 dX12_judge_99 rfl ?_
      refine aw_callVI K dX12_judge_100 vw_X12_99_12 (c_f_M_wholeSet l) hg (by decide) ob_148 rfl (Nat.le_of_ble_eq_true rfl) rfl rfl (fun r8 σ7 _ => ?_)
      refine aw_icmp_ne K 131 dX12_judge_103 (by decide) (fun h_7 => ?_) (fun h_7 => ?_)
      · refine aw_lv [1, 2] rfl ?_
        exact (a_f_M_judge_131 l K hg hK8) _ _
      · refine aw_iload_n K 2 dX12_judge_106 rfl ?_
        refine aw_aload_n K 1 dX12_judge_107 rfl ?_
        refine aw_getI K dX12_judge_108 lk_X12_286_12 fd_148_24 ?_
        refine aw_iconst K dX12_judge_111 ki_1 ?_
        refine aw_isub K dX12_judge_112 ?_
        refine aw_icmp_lt K 127 dX12_judge_113 (by decide) (fun h_8 => ?_) (fun h_8 => ?_)
        · refine aw_lv [1, 2] rfl ?_
          exact (a_f_M_judge_127 l K hg hK8) _ _
        · refine aw_aload_n K 1 dX12_judge_116 rfl ?_
          refine aw_callVI K dX12_judge_117 vw_X12_99_12 (c_f_M_wholeSet l) hg (by decide) ob_148 rfl (Nat.le_of_ble_eq_true rfl) rfl rfl (fun r10 σ9 _ => ?_)
          refine aw_aload_n K 1 dX12_judge_120 rfl ?_
          refine aw_callVI K dX12_judge_121 vw_X12_204_12 (c_f_M_thereSet l) hg (by decide) ob_148 rfl (Nat.le_of_ble_eq_true rfl) rfl rfl (fun r12 σ11 _ => ?_)
          refine aw_icmp_ne K 131 dX12_judge_124 (by decide) (fun h_9 => ?_) (fun h_9 => ?_)
          · refine aw_lv [1, 2] rfl ?_
            exact (a_f_M_judge_131 l K hg hK8) _ _
          · refine aw_lv [1, 2] rfl ?_
            exact (a_f_M_judge_127 l K hg hK8) _ _
set_option maxRecDepth 100000 in
set_option maxHeartbeats 4000000 in
theorem a_f_M_judge_8 (l : Launch) {P : PT} {G : GT} (K : CX P G cX12_judge RX12 (8) 4) (hg : gl G = l) : ∀ (n : Nat) (x1 : Int32) (x2 : Int32) (σ : SG), AW P G 4 (EI P G cX12_judge) (f_M_judge_8 n x1 x2 σ) σ 8 [(0, rf P 148), (1, .int x1), (2, .int x2)] [] := by
  intro n
  induction n with
  | zero =>
    intro x1 x2 σ
    rw [f_M_judge_8]
    exact aw_none
  | succ n ih =>
    intro x1 x2 σ
    rw [f_M_judge_8]
    refine aw_iload_n K 2 dX12_judge_8 rfl ?_
    refine aw_aload_n K 0 dX12_judge_9 rfl ?_
    refine aw_getI K dX12_judge_10 lk_X12_286_12 fd_148_24 ?_
    refine aw_icmp_ge K 151 dX12_judge_13 (by decide) (fun h_1 => ?_) (fun h_1 => ?_)
    · refine aw_aload_n K 0 dX12_judge_151 rfl ?_
      refine aw_callVV K dX12_judge_152 vw_X12_283_12 (c_f_M_putsBack l) hg (by decide) ob_148 rfl (Nat.le_of_ble_eq_true rfl) rfl rfl (fun _ σ1 _ => ?_)
      refine aw_iload_n K 1 dX12_judge_155 rfl ?_
      exact aw_iret dX12_judge_156
    · refine aw_iload_n K 1 dX12_judge_16 rfl ?_
      refine aw_if_ne K 151 dX12_judge_17 (by decide) (fun h_2 => ?_) (fun h_2 => ?_)
      · refine aw_aload_n K 0 dX12_judge_151 rfl ?_
        refine aw_callVV K dX12_judge_152 vw_X12_283_12 (c_f_M_putsBack l) hg (by decide) ob_148 rfl (Nat.le_of_ble_eq_true rfl) rfl rfl (fun _ σ2 _ => ?_)
        refine aw_iload_n K 1 dX12_judge_155 rfl ?_
        exact aw_iret dX12_judge_156
      · refine aw_aload_n K 0 dX12_judge_20 rfl ?_
        refine aw_aload_n K 0 dX12_judge_21 rfl ?_
        refine aw_getR K (c' := 158) dX12_judge_22 lk_X12_41_12 fd_148_23 ?_
        refine aw_iconst K dX12_judge_25 ki_3 ?_
        refine aw_iload_n K 2 dX12_judge_26 rfl ?_
        refine aw_imul K dX12_judge_27 ?_
        refine aw_gd (fun h_3 => ?_)
        refine aw_ald K dX12_judge_28 ad_158 h_3 rfl ?_
        refine aw_callVI K dX12_judge_29 vw_X12_159_12 (c_f_M_isNumber l _) hg (by decide) ob_148 rfl (Nat.le_of_ble_eq_true rfl) rfl rfl (fun r4 σ3 _ => ?_)
        refine aw_if_eq K 54 dX12_judge_32 (by decide) (fun h_4 => ?_) (fun h_4 => ?_)
        · refine aw_iconst K dX12_judge_54 ki_0 ?_
          refine aw_lv [0, 2] rfl ?_
          exact (a_f_M_judge_55 l K hg ih) _ _ _
        · refine aw_aload_n K 0 dX12_judge_35 rfl ?_
          refine aw_aload_n K 0 dX12_judge_36 rfl ?_
          refine aw_getR K (c' := 158) dX12_judge_37 lk_X12_41_12 fd_148_23 ?_
          refine aw_iconst K dX12_judge_40 ki_3 ?_
          refine aw_iload_n K 2 dX12_judge_41 rfl ?_
          refine aw_imul K dX12_judge_42 ?_
          refine aw_gd (fun h_5 => ?_)
          refine aw_ald K dX12_judge_43 ad_158 h_5 rfl ?_
          refine aw_callVI K dX12_judge_44 vw_X12_162_12 (c_f_M_canBe l _) hg (by decide) ob_148 rfl (Nat.le_of_ble_eq_true rfl) rfl rfl (fun r6 σ5 _ => ?_)
          refine aw_if_eq K 54 dX12_judge_47 (by decide) (fun h_6 => ?_) (fun h_6 => ?_)
          · refine aw_iconst K dX12_judge_54 ki_0 ?_
            refine aw_lv [0, 2] rfl ?_
            exact (a_f_M_judge_55 l K hg ih) _ _ _
          · refine aw_iconst K dX12_judge_50 ki_1 ?_
            refine aw_goto K 55 dX12_judge_51 (by decide) ?_
            refine aw_lv [0, 2] rfl ?_
            exact (a_f_M_judge_55 l K hg ih) _ _ _
set_option maxRecDepth 100000 in
set_option maxHeartbeats 4000000 in
theorem c_f_M_judge (l : Launch) : CTI l (8) yX12_judge cX12_judge 4 ((some .int)) (fun P => [rf P 148]) (fun σ => f_M_judge σ) := by
  refine met_I rfl rfl rfl (fun P => Nat.le_of_ble_eq_true rfl) (fun P G K hg σ => ?_)
  change AW P G 4 (EI P G cX12_judge) (f_M_judge σ) σ 0 [(0, rf P 148)] []
  rw [f_M_judge]
  refine aw_aload_n K 0 dX12_judge_0 rfl ?_
  refine aw_callVV K dX12_judge_1 vw_X12_280_12 (c_f_M_puts l) hg (by decide) ob_148 rfl (Nat.le_of_ble_eq_true rfl) rfl rfl (fun _ σ1 _ => ?_)
  refine aw_iconst K dX12_judge_4 ki_0 ?_
  refine aw_istore_n K (i := 1) (lv' := [(1, .int (0 : Int32)), (0, rf P 148)]) dX12_judge_5 rfl (Nat.le_of_ble_eq_true rfl) rfl ?_
  refine aw_iconst K dX12_judge_6 ki_0 ?_
  refine aw_istore_n K (i := 2) (lv' := [(2, .int (0 : Int32)), (1, .int (0 : Int32)), (0, rf P 148)]) dX12_judge_7 rfl (Nat.le_of_ble_eq_true rfl) rfl ?_
  refine aw_lv [2, 1, 0] rfl ?_
  exact (a_f_M_judge_8 l K hg FU) _ _ _
