set_option maxRecDepth 100000 in
set_option maxHeartbeats 4000000 in
theorem c_f_Se_goOn_S (l : Launch) {kR : Nat} {fR : Int32 → Int32 → Int32 → SG → Option (Unit × SG)} (hfR : ∀ (z0 : Int32) (z1 : Int32) (z2 : Int32), CTV l kR yX8_goOn cX8_goOn 4 (none) (fun P => [rf P 125, .int z0, .int z1, .int z2]) (fun σ => fR z0 z1 z2 σ)) (hkR : 0 ≤ kR) (x1 : Int32) (x2 : Int32) (x3 : Int32) : CTV l (kR + 2) yX8_goOn cX8_goOn 4 (none) (fun P => [rf P 125, .int x1, .int x2, .int x3]) (fun σ => f_Se_goOn_S fR x1 x2 x3 σ) := by
  refine met_V rfl rfl rfl (fun P => Nat.le_of_ble_eq_true rfl) (fun P G K hg σ => ?_)
  change AW P G 4 (EV P G cX8_goOn) (f_Se_goOn_S fR x1 x2 x3 σ) σ 0 [(0, rf P 125), (1, .int x1), (2, .int x2), (3, .int x3)] []
  rw [f_Se_goOn_S]
  refine aw_aload_n K 0 dX8_goOn_0 rfl ?_
  refine aw_getR K (c' := 127) dX8_goOn_1 lk_X8_15_8 fd_125_2 ?_
  refine aw_iload_n K 2 dX8_goOn_4 rfl ?_
  refine aw_iload_n K 1 dX8_goOn_5 rfl ?_
  refine aw_gd (fun h_1 => ?_)
  refine aw_ast K dX8_goOn_6 ad_127 h_1 rfl (fun σ1 => ?_)
  refine aw_iload_n K 2 dX8_goOn_7 rfl ?_
  refine aw_iconst K dX8_goOn_8 ki_1 ?_
  refine aw_iadd K dX8_goOn_9 ?_
  refine aw_iload_n K 3 dX8_goOn_10 rfl ?_
  refine aw_icmp_ge K 25 dX8_goOn_11 (by decide) (fun h_2 => ?_) (fun h_2 => ?_)
  · refine aw_aload_n K 0 dX8_goOn_25 rfl ?_
    refine aw_iload_n K 1 dX8_goOn_26 rfl ?_
    refine aw_aload_n K 0 dX8_goOn_27 rfl ?_
    refine aw_getR K (c' := 127) dX8_goOn_28 lk_X8_15_8 fd_125_2 ?_
    refine aw_iconst K dX8_goOn_31 ki_0 ?_
    refine aw_ald K dX8_goOn_32 ad_127 (by decide) kn_0 ?_
    refine aw_callVI K dX8_goOn_33 vw_X8_129_8 (c_f_Se_isNext l _ _) hg (by omega) ob_125 rfl (Nat.le_of_ble_eq_true rfl) rfl rfl (fun r3 σ2 _ => ?_)
    refine aw_if_eq K 70 dX8_goOn_36 (by decide) (fun h_3 => ?_) (fun h_3 => ?_)
    · exact aw_vret dX8_goOn_70
    · refine aw_aload_n K 0 dX8_goOn_39 rfl ?_
      refine aw_getI K dX8_goOn_40 lk_X8_119_8 fd_125_3 ?_
      refine aw_if_ne K 60 dX8_goOn_43 (by decide) (fun h_4 => ?_) (fun h_4 => ?_)
      · refine aw_aload_n K 0 dX8_goOn_60 rfl ?_
        refine aw_dup K dX8_goOn_61 rfl ?_
        refine aw_getI K dX8_goOn_62 lk_X8_119_8 fd_125_3 ?_
        refine aw_iconst K dX8_goOn_65 ki_1 ?_
        refine aw_iadd K dX8_goOn_66 ?_
        refine aw_putI K dX8_goOn_67 lp_X8_119_8 fd_125_3 (fun σ4 => ?_)
        exact aw_vret dX8_goOn_70
      · refine aw_aload_n K 0 dX8_goOn_46 rfl ?_
        refine aw_getR K (c' := 127) dX8_goOn_47 lk_X8_15_8 fd_125_2 ?_
        refine aw_iconst K dX8_goOn_50 ki_0 ?_
        refine aw_aload_n K 0 dX8_goOn_51 rfl ?_
        refine aw_getR K (c' := 126) dX8_goOn_52 lk_X8_9_8 fd_125_1 ?_
        refine aw_iconst K dX8_goOn_55 ki_0 ?_
        refine aw_iload_n K 3 dX8_goOn_56 rfl ?_
        refine aw_gd (fun h_5 => ?_)
        refine aw_copy K dX8_goOn_57 (by omega) (in_r40 _ (List.mem_of_getElem? (i := 11) rfl)) (in_r24 _ (List.mem_of_getElem? (i := 4) rfl)) (in_r24 _ (List.mem_of_getElem? (i := 5) rfl)) (in_r24 _ (List.mem_of_getElem? (i := 6) rfl)) (Nat.le_of_ble_eq_true rfl) ad_127 ad_126 h_5 (fun σ5 => ?_)
        refine aw_aload_n K 0 dX8_goOn_60 rfl ?_
        refine aw_dup K dX8_goOn_61 rfl ?_
        refine aw_getI K dX8_goOn_62 lk_X8_119_8 fd_125_3 ?_
        refine aw_iconst K dX8_goOn_65 ki_1 ?_
        refine aw_iadd K dX8_goOn_66 ?_
        refine aw_putI K dX8_goOn_67 lp_X8_119_8 fd_125_3 (fun σ6 => ?_)
        exact aw_vret dX8_goOn_70
  · refine aw_aload_n K 0 dX8_goOn_14 rfl ?_
    refine aw_iload_n K 2 dX8_goOn_15 rfl ?_
    refine aw_iconst K dX8_goOn_16 ki_1 ?_
    refine aw_iadd K dX8_goOn_17 ?_
    refine aw_iload_n K 3 dX8_goOn_18 rfl ?_
    refine aw_callVV K dX8_goOn_19 vw_X8_125_8 (c_f_Se_lookOn l hfR hkR _ _) hg (by omega) ob_125 rfl (Nat.le_of_ble_eq_true rfl) rfl rfl (fun _ σ7 _ => ?_)
    refine aw_goto K 70 dX8_goOn_22 (by decide) ?_
    exact aw_vret dX8_goOn_70
theorem c_f_Se_goOn (l : Launch) (d : Nat) : ∀ (z0 : Int32) (z1 : Int32) (z2 : Int32), CTV l (0 + d * 2) yX8_goOn cX8_goOn 4 (none) (fun P => [rf P 125, .int z0, .int z1, .int z2]) (fun σ => f_Se_goOn d z0 z1 z2 σ) := by
  induction d with
  | zero =>
    intro z0 z1 z2 P σ r σ' hf
    cases hf
  | succ d ih =>
    intro z0 z1 z2
    have q := c_f_Se_goOn_S l ih (by omega) z0 z1 z2
    rw [show 0 + d * 2 + 2 = 0 + (d + 1) * 2 by omega] at q
    exact q
set_option maxRecDepth 100000 in
set_option maxHeartbeats 4000000 in
theorem a_f_Se_ringsOf_15 (l : Launch) (a1 : Nat) (ha1 : TW a1) {P : PT} {G : GT} (K : CX P G cX8_ringsOf RX8 (25) 4) (hg : gl G = l) : ∀ (n : Nat) (x2 : Int32) (x3 : Int32) (σ : SG), AW P G 4 (EI P G cX8_ringsOf) (f_Se_ringsOf_15 a1 n x2 x3 σ) σ 15 [(0, rf P 125), (2, .int x2), (3, .int x3)] [] := by
  intro n
  induction n with
  | zero =>
    intro x2 x3 σ
    rw [f_Se_ringsOf_15]
    exact aw_none
  | succ n ih =>
    intro x2 x3 σ
    rw [f_Se_ringsOf_15]
    refine aw_iload_n K 2 dX8_ringsOf_15 rfl ?_
    refine aw_aload_n K 0 dX8_ringsOf_16 rfl ?_
    refine aw_getR K (c' := 90) dX8_ringsOf_17 lk_X8_25_8 fd_125_0 ?_
    refine aw_getI K dX8_ringsOf_20 lk_X8_70_9 fd_90_2 ?_
    refine aw_icmp_ge K 39 dX8_ringsOf_23 (by decide) (fun h_1 => ?_) (fun h_1 => ?_)
    · refine aw_aload_n K 0 dX8_ringsOf_39 rfl ?_
      refine aw_getI K dX8_ringsOf_40 lk_X8_119_8 fd_125_3 ?_
      exact aw_iret dX8_ringsOf_43
    · refine aw_aload_n K 0 dX8_ringsOf_26 rfl ?_
      refine aw_iload_n K 2 dX8_ringsOf_27 rfl ?_
      refine aw_iconst K dX8_ringsOf_28 ki_0 ?_
      refine aw_iload_n K 1 dX8_ringsOf_29 rfl ?_
      refine aw_callVV K dX8_ringsOf_30 vw_X8_122_8 (c_f_Se_goOn l DP _ _ _) hg (by decide) ob_125 rfl (Nat.le_of_ble_eq_true rfl) rfl rfl (fun _ σ1 _ => ?_)
      refine aw_iinc K (lv' := fun y2 => [(3, .int y2), (0, rf P 125), (2, .int x2)]) 2 dX8_ringsOf_33 rfl ki_1 (Nat.le_of_ble_eq_true rfl) (fun _ => rfl) (fun y2 => ?_)
      refine aw_goto K 15 dX8_ringsOf_36 (by decide) ?_
      refine aw_lv [1, 2, 0] rfl ?_
      exact ih _ _ _
set_option maxRecDepth 100000 in
set_option maxHeartbeats 4000000 in
theorem c_f_Se_ringsOf (l : Launch) (a1 : Nat) (ha1 : TW a1) (x2 : Int32) : CTI l (25) yX8_ringsOf cX8_ringsOf 4 ((some .int)) (fun P => [rf P 125, rf P a1, .int x2]) (fun σ => f_Se_ringsOf a1 x2 σ) := by
  refine met_I rfl rfl rfl (fun P => Nat.le_of_ble_eq_true rfl) (fun P G K hg σ => ?_)
  change AW P G 4 (EI P G cX8_ringsOf) (f_Se_ringsOf a1 x2 σ) σ 0 [(0, rf P 125), (1, rf P a1), (2, .int x2)] []
  rw [f_Se_ringsOf]
  refine aw_aload_n K 0 dX8_ringsOf_0 rfl ?_
  refine aw_getR K (c' := 90) dX8_ringsOf_1 lk_X8_25_8 fd_125_0 ?_
  refine aw_aload_n K 1 dX8_ringsOf_4 rfl ?_
  refine aw_callVV K dX8_ringsOf_5 vw_X8_29_9 (c_f_To_copyPlayFrom l 90 TW.c a1 ha1) hg (by decide) ob_90 rfl (Nat.le_of_ble_eq_true rfl) rfl rfl (fun _ σ1 _ => ?_)
  refine aw_aload_n K 0 dX8_ringsOf_8 rfl ?_
  refine aw_iconst K dX8_ringsOf_9 ki_0 ?_
  refine aw_putI K dX8_ringsOf_10 lp_X8_119_8 fd_125_3 (fun σ2 => ?_)
  refine aw_iconst K dX8_ringsOf_13 ki_0 ?_
  refine aw_istore_n K (i := 3) (lv' := [(3, .int (0 : Int32)), (0, rf P 125), (1, rf P a1), (2, .int x2)]) dX8_ringsOf_14 rfl (Nat.le_of_ble_eq_true rfl) rfl ?_
  refine aw_lv [1, 3, 0] rfl ?_
  exact (a_f_Se_ringsOf_15 l a1 ha1 K hg FU) _ _ _
set_option maxRecDepth 100000 in
set_option maxHeartbeats 4000000 in
theorem c_f_H_rings (l : Launch) (x1 : Int32) : CTI l (26) yX11_rings cX11_rings 2 ((some .int)) (fun P => [rf P 0, .int x1]) (fun σ => f_H_rings x1 σ) := by
  refine met_I rfl rfl rfl (fun P => Nat.le_of_ble_eq_true rfl) (fun P G K hg σ => ?_)
  change AW P G 2 (EI P G cX11_rings) (f_H_rings x1 σ) σ 0 [(0, rf P 0), (1, .int x1)] []
  rw [f_H_rings]
  refine aw_iload_n K 1 dX11_rings_0 rfl ?_
  refine aw_iconst K dX11_rings_1 ki_2 ?_
  refine aw_bipush K dX11_rings_2 kb_6 ?_
  refine aw_callSI K dX11_rings_4 vw_X11_72 (c_f_H_isIn l _ _ _) hg (by decide) rfl (Nat.le_of_ble_eq_true rfl) rfl rfl (fun r2 σ1 _ => ?_)
  refine aw_if_eq K 25 dX11_rings_7 (by decide) (fun h_1 => ?_) (fun h_1 => ?_)
  · refine aw_iconst K dX11_rings_25 ki_m1 ?_
    exact aw_iret dX11_rings_26
  · refine aw_aload_n K 0 dX11_rings_10 rfl ?_
    refine aw_getR K (c' := 125) dX11_rings_11 lk_X11_56_11 fd_0_5 ?_
    refine aw_aload_n K 0 dX11_rings_14 rfl ?_
    refine aw_getR K (c' := 20) dX11_rings_15 lk_X11_41_11 fd_0_1 ?_
    refine aw_iload_n K 1 dX11_rings_18 rfl ?_
    refine aw_callVI K dX11_rings_19 vw_X11_192_8 (c_f_Se_ringsOf l 20 TW.a _) hg (by decide) ob_125 rfl (Nat.le_of_ble_eq_true rfl) rfl rfl (fun r4 σ3 _ => ?_)
    refine aw_goto K 26 dX11_rings_22 (by decide) ?_
    exact aw_iret dX11_rings_26
set_option maxRecDepth 100000 in
set_option maxHeartbeats 4000000 in
theorem c_f_H_ring (l : Launch) (x1 : Int32) (x2 : Int32) : CTI l (26) yX11_ring cX11_ring 3 ((some .int)) (fun P => [rf P 0, .int x1, .int x2]) (fun σ => f_H_ring x1 x2 σ) := by
  refine met_I rfl rfl rfl (fun P => Nat.le_of_ble_eq_true rfl) (fun P G K hg σ => ?_)
  change AW P G 3 (EI P G cX11_ring) (f_H_ring x1 x2 σ) σ 0 [(0, rf P 0), (1, .int x1), (2, .int x2)] []
  rw [f_H_ring]
  refine aw_iload_n K 1 dX11_ring_0 rfl ?_
  refine aw_iconst K dX11_ring_1 ki_2 ?_
  refine aw_bipush K dX11_ring_2 kb_6 ?_
  refine aw_callSI K dX11_ring_4 vw_X11_72 (c_f_H_isIn l _ _ _) hg (by decide) rfl (Nat.le_of_ble_eq_true rfl) rfl rfl (fun r2 σ1 _ => ?_)
  refine aw_if_eq K 21 dX11_ring_7 (by decide) (fun h_1 => ?_) (fun h_1 => ?_)
  · refine aw_iconst K dX11_ring_21 ki_m1 ?_
    exact aw_iret dX11_ring_22
  · refine aw_iload_n K 2 dX11_ring_10 rfl ?_
    refine aw_iconst K dX11_ring_11 ki_0 ?_
    refine aw_iload_n K 1 dX11_ring_12 rfl ?_
    refine aw_iconst K dX11_ring_13 ki_1 ?_
    refine aw_isub K dX11_ring_14 ?_
    refine aw_callSI K dX11_ring_15 vw_X11_72 (c_f_H_isIn l _ _ _) hg (by decide) rfl (Nat.le_of_ble_eq_true rfl) rfl rfl (fun r4 σ3 _ => ?_)
    refine aw_if_ne K 23 dX11_ring_18 (by decide) (fun h_2 => ?_) (fun h_2 => ?_)
    · refine aw_aload_n K 0 dX11_ring_23 rfl ?_
      refine aw_getR K (c' := 125) dX11_ring_24 lk_X11_56_11 fd_0_5 ?_
      refine aw_aload_n K 0 dX11_ring_27 rfl ?_
      refine aw_getR K (c' := 20) dX11_ring_28 lk_X11_41_11 fd_0_1 ?_
      refine aw_iload_n K 1 dX11_ring_31 rfl ?_
      refine aw_callVI K dX11_ring_32 vw_X11_192_8 (c_f_Se_ringsOf l 20 TW.a _) hg (by decide) ob_125 rfl (Nat.le_of_ble_eq_true rfl) rfl rfl (fun r6 σ5 _ => ?_)
      refine aw_if_le K 50 dX11_ring_35 (by decide) (fun h_3 => ?_) (fun h_3 => ?_)
      · refine aw_bipush K dX11_ring_50 kb_m3 ?_
        exact aw_iret dX11_ring_52
      · refine aw_aload_n K 0 dX11_ring_38 rfl ?_
        refine aw_getR K (c' := 125) dX11_ring_39 lk_X11_56_11 fd_0_5 ?_
        refine aw_getR K (c' := 126) dX11_ring_42 lk_X11_175_8 fd_125_1 ?_
        refine aw_iload_n K 2 dX11_ring_45 rfl ?_
        refine aw_gd (fun h_4 => ?_)
        refine aw_ald K dX11_ring_46 ad_126 h_4 rfl ?_
        refine aw_goto K 52 dX11_ring_47 (by decide) ?_
        exact aw_iret dX11_ring_52
    · refine aw_iconst K dX11_ring_21 ki_m1 ?_
      exact aw_iret dX11_ring_22
set_option maxRecDepth 100000 in
set_option maxHeartbeats 4000000 in
theorem c_f_Se_bartersWith (l : Launch) {kR : Nat} {fR : Int32 → Int32 → SG → Option (Int32 × SG)} (hfR : ∀ (z0 : Int32) (z1 : Int32), CTI l kR yX8_barters cX8_barters 5 ((some .int)) (fun P => [rf P 125, .int z0, .int z1]) (fun σ => fR z0 z1 σ)) (hkR : 1 ≤ kR) (x1 : Int32) (x2 : Int32) (x3 : Int32) : CTI l (kR + 1) yX8_bartersWith cX8_bartersWith 7 ((some .int)) (fun P => [rf P 125, .int x1, .int x2, .int x3]) (fun σ => f_Se_bartersWith fR x1 x2 x3 σ) := by
  refine met_I rfl rfl rfl (fun P => Nat.le_of_ble_eq_true rfl) (fun P G K hg σ => ?_)
  change AW P G 7 (EI P G cX8_bartersWith) (f_Se_bartersWith fR x1 x2 x3 σ) σ 0 [(0, rf P 125), (1, .int x1), (2, .int x2), (3, .int x3)] []
  rw [f_Se_bartersWith]
  refine aw_aload_n K 0 dX8_bartersWith_0 rfl ?_
  refine aw_getR K (c' := 90) dX8_bartersWith_1 lk_X8_25_8 fd_125_0 ?_
  refine aw_getR K (c' := 99) dX8_bartersWith_4 lk_X8_95_9 fd_90_4 ?_
  refine aw_iload_n K 1 dX8_bartersWith_7 rfl ?_
  refine aw_gd (fun h_1 => ?_)
  refine aw_ald K dX8_bartersWith_8 ad_99 h_1 rfl ?_
  refine aw_istoreX K (i := 4) (lv' := fun y1 => [(4, .int y1), (0, rf P 125), (1, .int x1), (2, .int x2), (3, .int x3)]) dX8_bartersWith_9 (Nat.le_of_ble_eq_true rfl) (fun _ => rfl) (fun y1 => ?_)
  refine aw_aload_n K 1 dX8_bartersWith_11 rfl ?_
  refine aw_getR K (c' := 90) dX8_bartersWith_12 lk_X8_25_8 fd_125_0 ?_
  refine aw_getR K (c' := 99) dX8_bartersWith_15 lk_X8_95_9 fd_90_4 ?_
  refine aw_iload_n K 3 dX8_bartersWith_18 rfl ?_
  refine aw_gd (fun h_2 => ?_)
  refine aw_ald K dX8_bartersWith_19 ad_99 h_2 rfl ?_
  refine aw_istoreX K (i := 5) (lv' := fun y2 => [(5, .int y2), (4, .int y1), (0, rf P 125), (1, .int x1), (2, .int x2), (3, .int x3)]) dX8_bartersWith_20 (Nat.le_of_ble_eq_true rfl) (fun _ => rfl) (fun y2 => ?_)
  refine aw_iload K 1 dX8_bartersWith_22 rfl ?_
  refine aw_iload K 0 dX8_bartersWith_24 rfl ?_
  refine aw_icmp_eq K 52 dX8_bartersWith_26 (by decide) (fun h_3 => ?_) (fun h_3 => ?_)
  · refine aw_iconst K dX8_bartersWith_52 ki_0 ?_
    exact aw_iret dX8_bartersWith_53
  · refine aw_aload_n K 2 dX8_bartersWith_29 rfl ?_
    refine aw_getR K (c' := 90) dX8_bartersWith_30 lk_X8_25_8 fd_125_0 ?_
    refine aw_getR K (c' := 103) dX8_bartersWith_33 lk_X8_154_9 fd_90_10 ?_
    refine aw_iload K 1 dX8_bartersWith_36 rfl ?_
    refine aw_gd (fun h_4 => ?_)
    refine aw_ald K dX8_bartersWith_38 ad_103 h_4 rfl ?_
    refine aw_aload_n K 2 dX8_bartersWith_39 rfl ?_
    refine aw_getR K (c' := 90) dX8_bartersWith_40 lk_X8_25_8 fd_125_0 ?_
    refine aw_getR K (c' := 103) dX8_bartersWith_43 lk_X8_154_9 fd_90_10 ?_
    refine aw_iload K 0 dX8_bartersWith_46 rfl ?_
    refine aw_gd (fun h_5 => ?_)
    refine aw_ald K dX8_bartersWith_48 ad_103 h_5 rfl ?_
    refine aw_icmp_ge K 54 dX8_bartersWith_49 (by decide) (fun h_6 => ?_) (fun h_6 => ?_)
    · refine aw_aload_n K 2 dX8_bartersWith_54 rfl ?_
      refine aw_getR K (c' := 90) dX8_bartersWith_55 lk_X8_25_8 fd_125_0 ?_
      refine aw_iload_n K 3 dX8_bartersWith_58 rfl ?_
      refine aw_iload_n K 4 dX8_bartersWith_59 rfl ?_
      refine aw_callVV K dX8_bartersWith_60 vw_X8_157_9 (c_f_To_swap l 90 TW.c _ _) hg (by omega) ob_90 rfl (Nat.le_of_ble_eq_true rfl) rfl rfl (fun _ σ3 _ => ?_)
      refine aw_aload_n K 2 dX8_bartersWith_63 rfl ?_
      refine aw_iload_n K 3 dX8_bartersWith_64 rfl ?_
      refine aw_iload_n K 5 dX8_bartersWith_65 rfl ?_
      refine aw_iconst K dX8_bartersWith_66 ki_1 ?_
      refine aw_isub K dX8_bartersWith_67 ?_
      refine aw_callVI K dX8_bartersWith_68 vw_X8_148_8 (hfR _ _) hg (by omega) ob_125 rfl (Nat.le_of_ble_eq_true rfl) rfl rfl (fun r5 σ4 _ => ?_)
      refine aw_istore K (i := 6) (lv' := [(6, .int r5), (5, .int y2), (4, .int y1), (0, rf P 125), (1, .int x1), (2, .int x2), (3, .int x3)]) dX8_bartersWith_71 (Nat.le_of_ble_eq_true rfl) rfl ?_
      refine aw_aload_n K 3 dX8_bartersWith_73 rfl ?_
      refine aw_getR K (c' := 90) dX8_bartersWith_74 lk_X8_25_8 fd_125_0 ?_
      refine aw_iload_n K 4 dX8_bartersWith_77 rfl ?_
      refine aw_iload_n K 5 dX8_bartersWith_78 rfl ?_
      refine aw_callVV K dX8_bartersWith_79 vw_X8_157_9 (c_f_To_swap l 90 TW.c _ _) hg (by omega) ob_90 rfl (Nat.le_of_ble_eq_true rfl) rfl rfl (fun _ σ6 _ => ?_)
      refine aw_iload K 0 dX8_bartersWith_82 rfl ?_
      exact aw_iret dX8_bartersWith_84
    · refine aw_iconst K dX8_bartersWith_52 ki_0 ?_
      exact aw_iret dX8_bartersWith_53
set_option maxRecDepth 100000 in
set_option maxHeartbeats 4000000 in
theorem a_f_Se_barters_S_15 (l : Launch) {kR : Nat} {fR : Int32 → Int32 → SG → Option (Int32 × SG)} (hfR : ∀ (z0 : Int32) (z1 : Int32), CTI l kR yX8_barters cX8_barters 5 ((some .int)) (fun P => [rf P 125, .int z0, .int z1]) (fun σ => fR z0 z1 σ)) (hkR : 1 ≤ kR) {P : PT} {G : GT} (K : CX P G cX8_barters RX8 (kR + 2) 5) (hg : gl G = l) : ∀ (n : Nat) (x1 : Int32) (x2 : Int32) (x3 : Int32) (x4 : Int32) (σ : SG), AW P G 5 (EI P G cX8_barters) (f_Se_barters_S_15 fR n x1 x2 x3 x4 σ) σ 15 [(0, rf P 125), (1, .int x1), (2, .int x2), (3, .int x3), (4, .int x4)] [] := by
  intro n
  induction n with
  | zero =>
    intro x1 x2 x3 x4 σ
    rw [f_Se_barters_S_15]
    exact aw_none
  | succ n ih =>
    intro x1 x2 x3 x4 σ
    rw [f_Se_barters_S_15]
    refine aw_iload K 4 dX8_barters_15 rfl ?_
    refine aw_aload_n K 0 dX8_barters_17 rfl ?_
    refine aw_getR K (c' := 90) dX8_barters_18 lk_X8_25_8 fd_125_0 ?_
    refine aw_getI K dX8_barters_21 lk_X8_70_9 fd_90_2 ?_
    refine aw_icmp_ge K 66 dX8_barters_24 (by decide) (fun h_1 => ?_) (fun h_1 => ?_)
    · refine aw_iload_n K 3 dX8_barters_66 rfl ?_
      exact aw_iret dX8_barters_67
    · refine aw_iload_n K 2 dX8_barters_27 rfl ?_
      refine aw_if_le K 66 dX8_barters_28 (by decide) (fun h_2 => ?_) (fun h_2 => ?_)
      · refine aw_iload_n K 3 dX8_barters_66 rfl ?_
        exact aw_iret dX8_barters_67
      · refine aw_aload_n K 0 dX8_barters_31 rfl ?_
        refine aw_getR K (c' := 90) dX8_barters_32 lk_X8_25_8 fd_125_0 ?_
        refine aw_getR K (c' := 102) dX8_barters_35 lk_X8_142_9 fd_90_7 ?_
        refine aw_iload_n K 1 dX8_barters_38 rfl ?_
        refine aw_gd (fun h_3 => ?_)
        refine aw_ald K dX8_barters_39 ad_102 h_3 rfl ?_
        refine aw_iload K 4 dX8_barters_40 rfl ?_
        refine aw_ishr K dX8_barters_42 ?_
        refine aw_iconst K dX8_barters_43 ki_1 ?_
        refine aw_iand K dX8_barters_44 ?_
        refine aw_iconst K dX8_barters_45 ki_1 ?_
        refine aw_icmp_ne K 60 dX8_barters_46 (by decide) (fun h_4 => ?_) (fun h_4 => ?_)
        · refine aw_iinc K (lv' := fun y1 => [(4, .int y1), (0, rf P 125), (1, .int x1), (2, .int x2), (3, .int x3)]) 4 dX8_barters_60 rfl ki_1 (Nat.le_of_ble_eq_true rfl) (fun _ => rfl) (fun y1 => ?_)
          refine aw_goto K 15 dX8_barters_63 (by decide) ?_
          refine aw_lv [1, 2, 3, 4, 0] rfl ?_
          exact ih _ _ _ _ _
        · refine aw_iload_n K 3 dX8_barters_49 rfl ?_
          refine aw_aload_n K 0 dX8_barters_50 rfl ?_
          refine aw_iload_n K 1 dX8_barters_51 rfl ?_
          refine aw_iload K 4 dX8_barters_52 rfl ?_
          refine aw_iload_n K 2 dX8_barters_54 rfl ?_
          refine aw_callVI K dX8_barters_55 vw_X8_151_8 (c_f_Se_bartersWith l hfR hkR _ _ _) hg (by omega) ob_125 rfl (Nat.le_of_ble_eq_true rfl) rfl rfl (fun r3 σ2 _ => ?_)
          refine aw_ior K dX8_barters_58 ?_
          refine aw_istoreX_n K (i := 3) (lv' := fun y4 => [(3, .int y4), (0, rf P 125), (1, .int x1), (2, .int x2), (4, .int x4)]) dX8_barters_59 rfl (Nat.le_of_ble_eq_true rfl) (fun _ => rfl) (fun y4 => ?_)
          refine aw_iinc K (lv' := fun y5 => [(4, .int y5), (3, .int y4), (0, rf P 125), (1, .int x1), (2, .int x2)]) 4 dX8_barters_60 rfl ki_1 (Nat.le_of_ble_eq_true rfl) (fun _ => rfl) (fun y5 => ?_)
          refine aw_goto K 15 dX8_barters_63 (by decide) ?_
          refine aw_lv [2, 3, 4, 1, 0] rfl ?_
          exact ih _ _ _ _ _
set_option maxRecDepth 100000 in
set_option maxHeartbeats 4000000 in
theorem c_f_Se_barters_S (l : Launch) {kR : Nat} {fR : Int32 → Int32 → SG → Option (Int32 × SG)} (hfR : ∀ (z0 : Int32) (z1 : Int32), CTI l kR yX8_barters cX8_barters 5 ((some .int)) (fun P => [rf P 125, .int z0, .int z1]) (fun σ => fR z0 z1 σ)) (hkR : 1 ≤ kR) (x1 : Int32) (x2 : Int32) : CTI l (kR + 2) yX8_barters cX8_barters 5 ((some .int)) (fun P => [rf P 125, .int x1, .int x2]) (fun σ => f_Se_barters_S fR x1 x2 σ) := by
  refine met_I rfl rfl rfl (fun P => Nat.le_of_ble_eq_true rfl) (fun P G K hg σ => ?_)
  change AW P G 5 (EI P G cX8_barters) (f_Se_barters_S fR x1 x2 σ) σ 0 [(0, rf P 125), (1, .int x1), (2, .int x2)] []
  rw [f_Se_barters_S]
  refine aw_iconst K dX8_barters_0 ki_1 ?_
  refine aw_aload_n K 0 dX8_barters_1 rfl ?_
  refine aw_getR K (c' := 90) dX8_barters_2 lk_X8_25_8 fd_125_0 ?_
  refine aw_getR K (c' := 99) dX8_barters_5 lk_X8_95_9 fd_90_4 ?_
  refine aw_iload_n K 1 dX8_barters_8 rfl ?_
  refine aw_gd (fun h_1 => ?_)
  refine aw_ald K dX8_barters_9 ad_99 h_1 rfl ?_
  refine aw_ishl K dX8_barters_10 ?_
  refine aw_istoreX_n K (i := 3) (lv' := fun y1 => [(3, .int y1), (0, rf P 125), (1, .int x1), (2, .int x2)]) dX8_barters_11 rfl (Nat.le_of_ble_eq_true rfl) (fun _ => rfl) (fun y1 => ?_)
  refine aw_iconst K dX8_barters_12 ki_0 ?_
  refine aw_istore K (i := 4) (lv' := [(4, .int (0 : Int32)), (3, .int y1), (0, rf P 125), (1, .int x1), (2, .int x2)]) dX8_barters_13 (Nat.le_of_ble_eq_true rfl) rfl ?_
  refine aw_lv [2, 3, 4, 1, 0] rfl ?_
  exact (a_f_Se_barters_S_15 l hfR hkR K hg FU) _ _ _ _ _
theorem c_f_Se_barters (l : Launch) (d : Nat) : ∀ (z0 : Int32) (z1 : Int32), CTI l (1 + d * 2) yX8_barters cX8_barters 5 ((some .int)) (fun P => [rf P 125, .int z0, .int z1]) (fun σ => f_Se_barters d z0 z1 σ) := by
  induction d with
  | zero =>
    intro z0 z1 P σ r σ' hf
    cases hf
  | succ d ih =>
    intro z0 z1
    have q := c_f_Se_barters_S l ih (by omega) z0 z1
    rw [show 1 + d * 2 + 2 = 1 + (d + 1) * 2 by omega] at q
    exact q
set_option maxRecDepth 100000 in
set_option maxHeartbeats 4000000 in
theorem c_f_Se_bartered (l : Launch) (a1 : Nat) (ha1 : TW a1) (x2 : Int32) (x3 : Int32) : CTI l (26) yX8_bartered cX8_bartered 4 ((some .int)) (fun P => [rf P 125, rf P a1, .int x2, .int x3]) (fun σ => f_Se_bartered a1 x2 x3 σ) := by
  refine met_I rfl rfl rfl (fun P => Nat.le_of_ble_eq_true rfl) (fun P G K hg σ => ?_)
  change AW P G 4 (EI P G cX8_bartered) (f_Se_bartered a1 x2 x3 σ) σ 0 [(0, rf P 125), (1, rf P a1), (2, .int x2), (3, .int x3)] []
  rw [f_Se_bartered]
  refine aw_aload_n K 0 dX8_bartered_0 rfl ?_
  refine aw_getR K (c' := 90) dX8_bartered_1 lk_X8_25_8 fd_125_0 ?_
  refine aw_aload_n K 1 dX8_bartered_4 rfl ?_
  refine aw_callVV K dX8_bartered_5 vw_X8_29_9 (c_f_To_copyPlayFrom l 90 TW.c a1 ha1) hg (by decide) ob_90 rfl (Nat.le_of_ble_eq_true rfl) rfl rfl (fun _ σ1 _ => ?_)
  refine aw_aload_n K 0 dX8_bartered_8 rfl ?_
  refine aw_iload_n K 2 dX8_bartered_9 rfl ?_
  refine aw_iload_n K 3 dX8_bartered_10 rfl ?_
  refine aw_callVI K dX8_bartered_11 vw_X8_148_8 (c_f_Se_barters l DP _ _) hg (by decide) ob_125 rfl (Nat.le_of_ble_eq_true rfl) rfl rfl (fun r3 σ2 _ => ?_)
  exact aw_iret dX8_bartered_14
set_option maxRecDepth 100000 in
set_option maxHeartbeats 4000000 in
theorem c_f_H_comes (l : Launch) (x1 : Int32) (x2 : Int32) : CTI l (27) yX11_comes cX11_comes 3 ((some .int)) (fun P => [rf P 0, .int x1, .int x2]) (fun σ => f_H_comes x1 x2 σ) := by
  refine met_I rfl rfl rfl (fun P => Nat.le_of_ble_eq_true rfl) (fun P G K hg σ => ?_)
  change AW P G 3 (EI P G cX11_comes) (f_H_comes x1 x2 σ) σ 0 [(0, rf P 0), (1, .int x1), (2, .int x2)] []
  rw [f_H_comes]
  refine aw_aload_n K 0 dX11_comes_0 rfl ?_
  refine aw_getR K (c' := 20) dX11_comes_1 lk_X11_41_11 fd_0_1 ?_
  refine aw_iload_n K 1 dX11_comes_4 rfl ?_
  refine aw_callVI K dX11_comes_5 vw_X11_104_9 (c_f_To_isPerson l 20 TW.a _) hg (by decide) ob_20 rfl (Nat.le_of_ble_eq_true rfl) rfl rfl (fun r2 σ1 _ => ?_)
  refine aw_if_eq K 36 dX11_comes_8 (by decide) (fun h_1 => ?_) (fun h_1 => ?_)
  · refine aw_iconst K dX11_comes_36 ki_m1 ?_
    exact aw_iret dX11_comes_37
  · refine aw_iload_n K 2 dX11_comes_11 rfl ?_
    refine aw_iconst K dX11_comes_12 ki_0 ?_
    refine aw_iconst K dX11_comes_13 ki_4 ?_
    refine aw_callSI K dX11_comes_14 vw_X11_72 (c_f_H_isIn l _ _ _) hg (by decide) rfl (Nat.le_of_ble_eq_true rfl) rfl rfl (fun r4 σ3 _ => ?_)
    refine aw_if_eq K 36 dX11_comes_17 (by decide) (fun h_2 => ?_) (fun h_2 => ?_)
    · refine aw_iconst K dX11_comes_36 ki_m1 ?_
      exact aw_iret dX11_comes_37
    · refine aw_aload_n K 0 dX11_comes_20 rfl ?_
      refine aw_getR K (c' := 125) dX11_comes_21 lk_X11_56_11 fd_0_5 ?_
      refine aw_aload_n K 0 dX11_comes_24 rfl ?_
      refine aw_getR K (c' := 20) dX11_comes_25 lk_X11_41_11 fd_0_1 ?_
      refine aw_iload_n K 1 dX11_comes_28 rfl ?_
      refine aw_iload_n K 2 dX11_comes_29 rfl ?_
      refine aw_callVI K dX11_comes_30 vw_X11_195_8 (c_f_Se_bartered l 20 TW.a _ _) hg (by decide) ob_125 rfl (Nat.le_of_ble_eq_true rfl) rfl rfl (fun r6 σ5 _ => ?_)
      refine aw_goto K 37 dX11_comes_33 (by decide) ?_
      exact aw_iret dX11_comes_37
set_option maxRecDepth 100000 in
set_option maxHeartbeats 4000000 in
theorem a_f_H_dearest_51 (l : Launch) {P : PT} {G : GT} (K : CX P G cX11_dearest RX11 (27) 6) (hg : gl G = l) : ∀ (n : Nat) (x3 : Int32) (x4 : Int32) (x5 : Int32) (σ : SG), AW P G 6 (EI P G cX11_dearest) (f_H_dearest_51 n x3 x4 x5 σ) σ 51 [(0, rf P 0), (3, .int x3), (4, .int x4), (5, .int x5)] [] := by
  intro n
  induction n with
  | zero =>
    intro x3 x4 x5 σ
    rw [f_H_dearest_51]
    exact aw_none
  | succ n ih =>
    intro x3 x4 x5 σ
    rw [f_H_dearest_51]
    refine aw_iload K 3 dX11_dearest_51 rfl ?_
    refine aw_if_lt K 99 dX11_dearest_53 (by decide) (fun h_1 => ?_) (fun h_1 => ?_)
    · refine aw_iload K 2 dX11_dearest_99 rfl ?_
      exact aw_iret dX11_dearest_101
    · refine aw_iload_n K 1 dX11_dearest_56 rfl ?_
      refine aw_iload K 3 dX11_dearest_57 rfl ?_
      refine aw_ishr K dX11_dearest_59 ?_
      refine aw_iconst K dX11_dearest_60 ki_1 ?_
      refine aw_iand K dX11_dearest_61 ?_
      refine aw_iconst K dX11_dearest_62 ki_1 ?_
      refine aw_icmp_ne K 93 dX11_dearest_63 (by decide) (fun h_2 => ?_) (fun h_2 => ?_)
      · refine aw_iinc K (lv' := fun y1 => [(5, .int y1), (0, rf P 0), (3, .int x3), (4, .int x4)]) 3 dX11_dearest_93 rfl ki_m1 (Nat.le_of_ble_eq_true rfl) (fun _ => rfl) (fun y1 => ?_)
        refine aw_goto K 51 dX11_dearest_96 (by decide) ?_
        refine aw_lv [1, 2, 3, 0] rfl ?_
        exact ih _ _ _ _
      · refine aw_aload_n K 0 dX11_dearest_66 rfl ?_
        refine aw_getR K (c' := 20) dX11_dearest_67 lk_X11_41_11 fd_0_1 ?_
        refine aw_getR K (c' := 33) dX11_dearest_70 lk_X11_114_9 fd_20_10 ?_
        refine aw_iload K 3 dX11_dearest_73 rfl ?_
        refine aw_gd (fun h_3 => ?_)
        refine aw_ald K dX11_dearest_75 ad_33 h_3 rfl ?_
        refine aw_aload_n K 0 dX11_dearest_76 rfl ?_
        refine aw_getR K (c' := 20) dX11_dearest_77 lk_X11_41_11 fd_0_1 ?_
        refine aw_getR K (c' := 33) dX11_dearest_80 lk_X11_114_9 fd_20_10 ?_
        refine aw_iload K 2 dX11_dearest_83 rfl ?_
        refine aw_gd (fun h_4 => ?_)
        refine aw_ald K dX11_dearest_85 ad_33 h_4 rfl ?_
        refine aw_icmp_lt K 93 dX11_dearest_86 (by decide) (fun h_5 => ?_) (fun h_5 => ?_)
        · refine aw_iinc K (lv' := fun y2 => [(5, .int y2), (0, rf P 0), (3, .int x3), (4, .int x4)]) 3 dX11_dearest_93 rfl ki_m1 (Nat.le_of_ble_eq_true rfl) (fun _ => rfl) (fun y2 => ?_)
          refine aw_goto K 51 dX11_dearest_96 (by decide) ?_
          refine aw_lv [1, 2, 3, 0] rfl ?_
          exact ih _ _ _ _
        · refine aw_iload K 3 dX11_dearest_89 rfl ?_
          refine aw_istore K (i := 4) (lv' := [(4, .int x5), (0, rf P 0), (3, .int x3), (5, .int x5)]) dX11_dearest_91 (Nat.le_of_ble_eq_true rfl) rfl ?_
          refine aw_iinc K (lv' := fun y3 => [(5, .int y3), (4, .int x5), (0, rf P 0), (3, .int x3)]) 3 dX11_dearest_93 rfl ki_m1 (Nat.le_of_ble_eq_true rfl) (fun _ => rfl) (fun y3 => ?_)
          refine aw_goto K 51 dX11_dearest_96 (by decide) ?_
          refine aw_lv [2, 3, 1, 0] rfl ?_
          exact ih _ _ _ _
set_option maxRecDepth 100000 in
set_option maxHeartbeats 4000000 in
theorem c_f_H_dearest (l : Launch) (x1 : Int32) (x2 : Int32) : CTI l (27) yX11_dearest cX11_dearest 6 ((some .int)) (fun P => [rf P 0, .int x1, .int x2]) (fun σ => f_H_dearest x1 x2 σ) := by
  refine met_I rfl rfl rfl (fun P => Nat.le_of_ble_eq_true rfl) (fun P G K hg σ => ?_)
  change AW P G 6 (EI P G cX11_dearest) (f_H_dearest x1 x2 σ) σ 0 [(0, rf P 0), (1, .int x1), (2, .int x2)] []
  rw [f_H_dearest]
  refine aw_aload_n K 0 dX11_dearest_0 rfl ?_
  refine aw_getR K (c' := 20) dX11_dearest_1 lk_X11_41_11 fd_0_1 ?_
  refine aw_iload_n K 1 dX11_dearest_4 rfl ?_
  refine aw_callVI K dX11_dearest_5 vw_X11_104_9 (c_f_To_isPerson l 20 TW.a _) hg (by decide) ob_20 rfl (Nat.le_of_ble_eq_true rfl) rfl rfl (fun r2 σ1 _ => ?_)
  refine aw_if_eq K 20 dX11_dearest_8 (by decide) (fun h_1 => ?_) (fun h_1 => ?_)
  · refine aw_iconst K dX11_dearest_20 ki_m1 ?_
    exact aw_iret dX11_dearest_21
  · refine aw_iload_n K 2 dX11_dearest_11 rfl ?_
    refine aw_iconst K dX11_dearest_12 ki_0 ?_
    refine aw_iconst K dX11_dearest_13 ki_4 ?_
    refine aw_callSI K dX11_dearest_14 vw_X11_72 (c_f_H_isIn l _ _ _) hg (by decide) rfl (Nat.le_of_ble_eq_true rfl) rfl rfl (fun r4 σ3 _ => ?_)
    refine aw_if_ne K 22 dX11_dearest_17 (by decide) (fun h_2 => ?_) (fun h_2 => ?_)
    · refine aw_aload_n K 0 dX11_dearest_22 rfl ?_
      refine aw_getR K (c' := 125) dX11_dearest_23 lk_X11_56_11 fd_0_5 ?_
      refine aw_aload_n K 0 dX11_dearest_26 rfl ?_
      refine aw_getR K (c' := 20) dX11_dearest_27 lk_X11_41_11 fd_0_1 ?_
      refine aw_iload_n K 1 dX11_dearest_30 rfl ?_
      refine aw_iload_n K 2 dX11_dearest_31 rfl ?_
      refine aw_callVI K dX11_dearest_32 vw_X11_195_8 (c_f_Se_bartered l 20 TW.a _ _) hg (by decide) ob_125 rfl (Nat.le_of_ble_eq_true rfl) rfl rfl (fun r6 σ5 _ => ?_)
      refine aw_istore_n K (i := 3) (lv' := [(3, .int r6), (0, rf P 0), (1, .int x1), (2, .int x2)]) dX11_dearest_35 rfl (Nat.le_of_ble_eq_true rfl) rfl ?_
      refine aw_aload_n K 1 dX11_dearest_36 rfl ?_
      refine aw_getR K (c' := 20) dX11_dearest_37 lk_X11_41_11 fd_0_1 ?_
      refine aw_getR K (c' := 29) dX11_dearest_40 lk_X11_88_9 fd_20_4 ?_
      refine aw_iload_n K 2 dX11_dearest_43 rfl ?_
      refine aw_gd (fun h_3 => ?_)
      refine aw_ald K dX11_dearest_44 ad_29 h_3 rfl ?_
      refine aw_istoreX K (i := 4) (lv' := fun y7 => [(4, .int y7), (3, .int r6), (0, rf P 0), (1, .int x1), (2, .int x2)]) dX11_dearest_45 (Nat.le_of_ble_eq_true rfl) (fun _ => rfl) (fun y7 => ?_)
      refine aw_bipush K dX11_dearest_47 kb_7 ?_
      refine aw_istore K (i := 5) (lv' := [(5, .int (7 : Int32)), (4, .int y7), (3, .int r6), (0, rf P 0), (1, .int x1), (2, .int x2)]) dX11_dearest_49 (Nat.le_of_ble_eq_true rfl) rfl ?_
      refine aw_lv [3, 2, 1, 0] rfl ?_
      exact (a_f_H_dearest_51 l K hg FU) _ _ _ _
    · refine aw_iconst K dX11_dearest_20 ki_m1 ?_
      exact aw_iret dX11_dearest_21
set_option maxRecDepth 100000 in
set_option maxHeartbeats 4000000 in
theorem c_f_H_game (l : Launch) (x1 : Int32) : CTI l (29) yX11_game cX11_game 3 ((some .int)) (fun P => [rf P 0, .int x1]) (fun σ => f_H_game x1 σ) := by
  refine met_I rfl rfl rfl (fun P => Nat.le_of_ble_eq_true rfl) (fun P G K hg σ => ?_)
  change AW P G 3 (EI P G cX11_game) (f_H_game x1 σ) σ 0 [(0, rf P 0), (1, .int x1)] []
  rw [f_H_game]
  refine aw_iload_n K 1 dX11_game_0 rfl ?_
  refine aw_iconst K dX11_game_1 ki_1 ?_
  refine aw_bipush K dX11_game_2 kb_6 ?_
  refine aw_callSI K dX11_game_4 vw_X11_72 (c_f_H_isIn l _ _ _) hg (by decide) rfl (Nat.le_of_ble_eq_true rfl) rfl rfl (fun r2 σ1 _ => ?_)
  refine aw_if_ne K 12 dX11_game_7 (by decide) (fun h_1 => ?_) (fun h_1 => ?_)
  · refine aw_aload_n K 0 dX11_game_12 rfl ?_
    refine aw_getR K (c' := 125) dX11_game_13 lk_X11_56_11 fd_0_5 ?_
    refine aw_aload_n K 0 dX11_game_16 rfl ?_
    refine aw_getR K (c' := 20) dX11_game_17 lk_X11_41_11 fd_0_1 ?_
    refine aw_iconst K dX11_game_20 ki_4 ?_
    refine aw_iload_n K 1 dX11_game_21 rfl ?_
    refine aw_callVI K dX11_game_22 vw_X11_178_8 (c_f_Se_told l 20 TW.a _ _) hg (by decide) ob_125 rfl (Nat.le_of_ble_eq_true rfl) rfl rfl (fun r4 σ3 _ => ?_)
    refine aw_istore_n K (i := 2) (lv' := [(2, .int r4), (0, rf P 0), (1, .int x1)]) dX11_game_25 rfl (Nat.le_of_ble_eq_true rfl) rfl ?_
    refine aw_iload_n K 0 dX11_game_26 rfl ?_
    refine aw_if_le K 34 dX11_game_27 (by decide) (fun h_2 => ?_) (fun h_2 => ?_)
    · refine aw_iload_n K 0 dX11_game_34 rfl ?_
      refine aw_if_ge K 42 dX11_game_35 (by decide) (fun h_3 => ?_) (fun h_3 => ?_)
      · refine aw_iconst K dX11_game_42 ki_2 ?_
        exact aw_iret dX11_game_43
      · refine aw_iconst K dX11_game_38 ki_1 ?_
        refine aw_goto K 43 dX11_game_39 (by decide) ?_
        exact aw_iret dX11_game_43
    · refine aw_iconst K dX11_game_30 ki_0 ?_
      refine aw_goto K 43 dX11_game_31 (by decide) ?_
      exact aw_iret dX11_game_43
  · refine aw_iconst K dX11_game_10 ki_m1 ?_
    exact aw_iret dX11_game_11
set_option maxRecDepth 100000 in
set_option maxHeartbeats 4000000 in
theorem c_f_H_play (l : Launch) (x1 : Int32) : CTI l (30) yX11_play cX11_play 2 ((some .int)) (fun P => [rf P 0, .int x1]) (fun σ => f_H_play x1 σ) := by
  refine met_I rfl rfl rfl (fun P => Nat.le_of_ble_eq_true rfl) (fun P G K hg σ => ?_)
  change AW P G 2 (EI P G cX11_play) (f_H_play x1 σ) σ 0 [(0, rf P 0), (1, .int x1)] []
  rw [f_H_play]
  refine aw_iload_n K 1 dX11_play_0 rfl ?_
  refine aw_iconst K dX11_play_1 ki_1 ?_
  refine aw_bipush K dX11_play_2 kb_6 ?_
  refine aw_callSI K dX11_play_4 vw_X11_72 (c_f_H_isIn l _ _ _) hg (by decide) rfl (Nat.le_of_ble_eq_true rfl) rfl rfl (fun r2 σ1 _ => ?_)
  refine aw_if_ne K 12 dX11_play_7 (by decide) (fun h_1 => ?_) (fun h_1 => ?_)
  · refine aw_aload_n K 0 dX11_play_12 rfl ?_
    refine aw_getR K (c' := 125) dX11_play_13 lk_X11_56_11 fd_0_5 ?_
    refine aw_aload_n K 0 dX11_play_16 rfl ?_
    refine aw_getR K (c' := 20) dX11_play_17 lk_X11_41_11 fd_0_1 ?_
    refine aw_iconst K dX11_play_20 ki_4 ?_
    refine aw_iload_n K 1 dX11_play_21 rfl ?_
    refine aw_callVI K dX11_play_22 vw_X11_171_8 (c_f_Se_first l 20 TW.a _ _) hg (by decide) ob_125 rfl (Nat.le_of_ble_eq_true rfl) rfl rfl (fun r4 σ3 _ => ?_)
    refine aw_if_le K 40 dX11_play_25 (by decide) (fun h_2 => ?_) (fun h_2 => ?_)
    · refine aw_bipush K dX11_play_40 kb_m3 ?_
      exact aw_iret dX11_play_42
    · refine aw_aload_n K 0 dX11_play_28 rfl ?_
      refine aw_getR K (c' := 125) dX11_play_29 lk_X11_56_11 fd_0_5 ?_
      refine aw_getR K (c' := 126) dX11_play_32 lk_X11_175_8 fd_125_1 ?_
      refine aw_iconst K dX11_play_35 ki_0 ?_
      refine aw_ald K dX11_play_36 ad_126 (by decide) kn_0 ?_
      refine aw_goto K 42 dX11_play_37 (by decide) ?_
      exact aw_iret dX11_play_42
  · refine aw_iconst K dX11_play_10 ki_m1 ?_
    exact aw_iret dX11_play_11
set_option maxRecDepth 100000 in
set_option maxHeartbeats 4000000 in
theorem c_f_H_report (l : Launch) (x1 : Int32) (x2 : Int32) (x3 : Int32) : CTI l (1) yX11_report cX11_report 5 ((some .int)) (fun P => [rf P 0, .int x1, .int x2, .int x3]) (fun σ => f_H_report x1 x2 x3 σ) := by
  refine met_I rfl rfl rfl (fun P => Nat.le_of_ble_eq_true rfl) (fun P G K hg σ => ?_)
  change AW P G 5 (EI P G cX11_report) (f_H_report x1 x2 x3 σ) σ 0 [(0, rf P 0), (1, .int x1), (2, .int x2), (3, .int x3)] []
  rw [f_H_report]
  refine aw_iload_n K 1 dX11_report_0 rfl ?_
  refine aw_iconst K dX11_report_1 ki_0 ?_
  refine aw_bipush K dX11_report_2 kb_99 ?_
  refine aw_callSI K dX11_report_4 vw_X11_72 (c_f_H_isIn l _ _ _) hg (by decide) rfl (Nat.le_of_ble_eq_true rfl) rfl rfl (fun r2 σ1 _ => ?_)
  refine aw_if_eq K 31 dX11_report_7 (by decide) (fun h_1 => ?_) (fun h_1 => ?_)
  · refine aw_iconst K dX11_report_31 ki_m1 ?_
    exact aw_iret dX11_report_32
  · refine aw_iload_n K 2 dX11_report_10 rfl ?_
    refine aw_iconst K dX11_report_11 ki_0 ?_
    refine aw_bipush K dX11_report_12 kb_99 ?_
    refine aw_callSI K dX11_report_14 vw_X11_72 (c_f_H_isIn l _ _ _) hg (by decide) rfl (Nat.le_of_ble_eq_true rfl) rfl rfl (fun r4 σ3 _ => ?_)
    refine aw_if_eq K 31 dX11_report_17 (by decide) (fun h_2 => ?_) (fun h_2 => ?_)
    · refine aw_iconst K dX11_report_31 ki_m1 ?_
      exact aw_iret dX11_report_32
    · refine aw_iload_n K 3 dX11_report_20 rfl ?_
      refine aw_iconst K dX11_report_21 ki_0 ?_
      refine aw_sipush K dX11_report_22 ks_999 ?_
      refine aw_callSI K dX11_report_25 vw_X11_72 (c_f_H_isIn l _ _ _) hg (by decide) rfl (Nat.le_of_ble_eq_true rfl) rfl rfl (fun r6 σ5 _ => ?_)
      refine aw_if_ne K 33 dX11_report_28 (by decide) (fun h_3 => ?_) (fun h_3 => ?_)
      · refine aw_aload_n K 0 dX11_report_33 rfl ?_
        refine aw_getR K (c' := 20) dX11_report_34 lk_X11_41_11 fd_0_1 ?_
        refine aw_getI K dX11_report_37 lk_X11_198_9 fd_20_16 ?_
        refine aw_bipush K dX11_report_40 kb_6 ?_
        refine aw_icmp_lt K 48 dX11_report_42 (by decide) (fun h_4 => ?_) (fun h_4 => ?_)
        · refine aw_aload_n K 0 dX11_report_48 rfl ?_
          refine aw_getR K (c' := 20) dX11_report_49 lk_X11_41_11 fd_0_1 ?_
          refine aw_getR K (c' := 48) dX11_report_52 lk_X11_201_9 fd_20_17 ?_
          refine aw_aload_n K 0 dX11_report_55 rfl ?_
          refine aw_getR K (c' := 20) dX11_report_56 lk_X11_41_11 fd_0_1 ?_
          refine aw_getI K dX11_report_59 lk_X11_198_9 fd_20_16 ?_
          refine aw_gd (fun h_5 => ?_)
          refine aw_aald K dX11_report_62 rw_48.1 h_5 rfl ?_
          refine aw_astore K (i := 4) (lv' := [(4, rf P (48 + 1 + nx (σ5.1 20 16))), (0, rf P 0), (1, .int x1), (2, .int x2), (3, .int x3)]) dX11_report_63 (Nat.le_of_ble_eq_true rfl) rfl ?_
          refine aw_aload K 0 dX11_report_65 rfl ?_
          refine aw_iconst K dX11_report_67 ki_0 ?_
          refine aw_iload_n K 2 dX11_report_68 rfl ?_
          refine aw_ast K dX11_report_69 (rw_48.2 _ (ix_lt h_5)) (by decide) kn_0 (fun σ7 => ?_)
          refine aw_aload K 0 dX11_report_70 rfl ?_
          refine aw_iconst K dX11_report_72 ki_1 ?_
          refine aw_iload_n K 3 dX11_report_73 rfl ?_
          refine aw_ast K dX11_report_74 (rw_48.2 _ (ix_lt h_5)) (by decide) kn_1 (fun σ8 => ?_)
          refine aw_aload K 0 dX11_report_75 rfl ?_
          refine aw_iconst K dX11_report_77 ki_2 ?_
          refine aw_iload_n K 4 dX11_report_78 rfl ?_
          refine aw_ast K dX11_report_79 (rw_48.2 _ (ix_lt h_5)) (by decide) kn_2 (fun σ9 => ?_)
          refine aw_aload_n K 1 dX11_report_80 rfl ?_
          refine aw_getR K (c' := 20) dX11_report_81 lk_X11_41_11 fd_0_1 ?_
          refine aw_dup K dX11_report_84 rfl ?_
          refine aw_getI K dX11_report_85 lk_X11_198_9 fd_20_16 ?_
          refine aw_iconst K dX11_report_88 ki_1 ?_
          refine aw_iadd K dX11_report_89 ?_
          refine aw_putI K dX11_report_90 lp_X11_198_9 fd_20_16 (fun σ10 => ?_)
          refine aw_aload_n K 1 dX11_report_93 rfl ?_
          refine aw_getR K (c' := 20) dX11_report_94 lk_X11_41_11 fd_0_1 ?_
          refine aw_getI K dX11_report_97 lk_X11_198_9 fd_20_16 ?_
          refine aw_iconst K dX11_report_100 ki_1 ?_
          refine aw_isub K dX11_report_101 ?_
          exact aw_iret dX11_report_102
        · refine aw_bipush K dX11_report_45 kb_m2 ?_
          exact aw_iret dX11_report_47
      · refine aw_iconst K dX11_report_31 ki_m1 ?_
        exact aw_iret dX11_report_32
set_option maxRecDepth 100000 in
set_option maxHeartbeats 4000000 in
theorem c_f_H_forget (l : Launch) : CTI l (0) yX11_forget cX11_forget 2 ((some .int)) (fun P => [rf P 0]) (fun σ => f_H_forget σ) := by
  refine met_I rfl rfl rfl (fun P => Nat.le_of_ble_eq_true rfl) (fun P G K hg σ => ?_)
  change AW P G 2 (EI P G cX11_forget) (f_H_forget σ) σ 0 [(0, rf P 0)] []
  rw [f_H_forget]
  refine aw_aload_n K 0 dX11_forget_0 rfl ?_
  refine aw_getR K (c' := 20) dX11_forget_1 lk_X11_41_11 fd_0_1 ?_
  refine aw_getI K dX11_forget_4 lk_X11_198_9 fd_20_16 ?_
  refine aw_istoreX_n K (i := 1) (lv' := fun y1 => [(1, .int y1), (0, rf P 0)]) dX11_forget_7 rfl (Nat.le_of_ble_eq_true rfl) (fun _ => rfl) (fun y1 => ?_)
  refine aw_aload_n K 1 dX11_forget_8 rfl ?_
  refine aw_getR K (c' := 20) dX11_forget_9 lk_X11_41_11 fd_0_1 ?_
  refine aw_iconst K dX11_forget_12 ki_0 ?_
  refine aw_putI K dX11_forget_13 lp_X11_198_9 fd_20_16 (fun σ2 => ?_)
  refine aw_iload_n K 0 dX11_forget_16 rfl ?_
  exact aw_iret dX11_forget_17
set_option maxRecDepth 100000 in
set_option maxHeartbeats 4000000 in
theorem a_f_To_fits_3 (l : Launch) (t : Nat) (ht : TW t) {P : PT} {G : GT} (K : CX P G cX9_fits RX9 (1) 6) (hg : gl G = l) : ∀ (n : Nat) (x1 : Int32) (x2 : Int32) (x3 : Int32) (x4 : Int32) (σ : SG), AW P G 6 (EZ P G cX9_fits) (f_To_fits_3 t n x1 x2 x3 x4 σ) σ 3 [(0, rf P t), (1, .int x1), (2, .int x2), (3, .int x3), (4, .int x4)] [] := by
  intro n
  induction n with
  | zero =>
    intro x1 x2 x3 x4 σ
    rw [f_To_fits_3]
    exact aw_none
  | succ n ih =>
    intro x1 x2 x3 x4 σ
    rw [f_To_fits_3]
    refine aw_iload K 4 dX9_fits_3 rfl ?_
    refine aw_aload_n K 0 dX9_fits_5 rfl ?_
    refine aw_getI K dX9_fits_6 lk_X9_67_9 (fd_To_16 ht) ?_
    refine aw_icmp_ge K 69 dX9_fits_9 (by decide) (fun h_1 => ?_) (fun h_1 => ?_)
    · refine aw_iconst K dX9_fits_69 ki_1 ?_
      exact aw_zret dX9_fits_70 (by decide)
    · refine aw_iconst K dX9_fits_12 ki_0 ?_
      refine aw_aload_n K 0 dX9_fits_13 rfl ?_
      refine aw_getR K (c' := t + 28) dX9_fits_14 lk_X9_49_9 (fd_To_17 ht) ?_
      refine aw_iload K 4 dX9_fits_17 rfl ?_
      refine aw_gd (fun h_2 => ?_)
      refine aw_aald K dX9_fits_19 (kd_To_17 ht).1 h_2 rfl ?_
      refine aw_iconst K dX9_fits_20 ki_1 ?_
      refine aw_ald K dX9_fits_21 ((kd_To_17 ht).2 _ (ix_lt h_2)) (by decide) kn_1 ?_
      refine aw_aload_n K 0 dX9_fits_22 rfl ?_
      refine aw_getR K (c' := t + 28) dX9_fits_23 lk_X9_49_9 (fd_To_17 ht) ?_
      refine aw_iload K 4 dX9_fits_26 rfl ?_
      refine aw_gd (fun h_3 => ?_)
      refine aw_aald K dX9_fits_28 (kd_To_17 ht).1 h_3 rfl ?_
      refine aw_iconst K dX9_fits_29 ki_0 ?_
      refine aw_ald K dX9_fits_30 ((kd_To_17 ht).2 _ (ix_lt h_3)) (by decide) kn_0 ?_
      refine aw_isub K dX9_fits_31 ?_
      refine aw_max K dX9_fits_32 (by decide) (in_r46 _ (List.mem_of_getElem? (i := 9) rfl)) (in_r34 _ (List.mem_of_getElem? (i := 17) rfl)) (in_r34 _ (List.mem_of_getElem? (i := 18) rfl)) (in_r34 _ (List.mem_of_getElem? (i := 19) rfl)) (Nat.le_of_ble_eq_true rfl) ?_
      refine aw_istoreX K (i := 5) (lv' := fun y2 => [(5, .int y2), (0, rf P t), (1, .int x1), (2, .int x2), (3, .int x3), (4, .int x4)]) dX9_fits_35 (Nat.le_of_ble_eq_true rfl) (fun _ => rfl) (fun y2 => ?_)
      refine aw_iload K 5 dX9_fits_37 rfl ?_
      refine aw_iload_n K 4 dX9_fits_39 rfl ?_
      refine aw_icmp_eq K 63 dX9_fits_40 (by decide) (fun h_4 => ?_) (fun h_4 => ?_)
      · refine aw_iinc K (lv' := fun y3 => [(4, .int y3), (5, .int y2), (0, rf P t), (1, .int x1), (2, .int x2), (3, .int x3)]) 5 dX9_fits_63 rfl ki_1 (Nat.le_of_ble_eq_true rfl) (fun _ => rfl) (fun y3 => ?_)
        refine aw_goto K 3 dX9_fits_66 (by decide) ?_
        refine aw_lv [2, 3, 4, 5, 0] rfl ?_
        exact ih _ _ _ _ _
      · refine aw_iload_n K 2 dX9_fits_43 rfl ?_
        refine aw_iload K 0 dX9_fits_44 rfl ?_
        refine aw_imul K dX9_fits_46 ?_
        refine aw_iload_n K 3 dX9_fits_47 rfl ?_
        refine aw_iadd K dX9_fits_48 ?_
        refine aw_aload_n K 1 dX9_fits_49 rfl ?_
        refine aw_getR K (c' := t + 28) dX9_fits_50 lk_X9_49_9 (fd_To_17 ht) ?_
        refine aw_iload K 5 dX9_fits_53 rfl ?_
        refine aw_gd (fun h_5 => ?_)
        refine aw_aald K dX9_fits_55 (kd_To_17 ht).1 h_5 rfl ?_
        refine aw_iconst K dX9_fits_56 ki_2 ?_
        refine aw_ald K dX9_fits_57 ((kd_To_17 ht).2 _ (ix_lt h_5)) (by decide) kn_2 ?_
        refine aw_icmp_eq K 63 dX9_fits_58 (by decide) (fun h_6 => ?_) (fun h_6 => ?_)
        · refine aw_iinc K (lv' := fun y4 => [(4, .int y4), (5, .int y2), (0, rf P t), (1, .int x1), (2, .int x2), (3, .int x3)]) 5 dX9_fits_63 rfl ki_1 (Nat.le_of_ble_eq_true rfl) (fun _ => rfl) (fun y4 => ?_)
          refine aw_goto K 3 dX9_fits_66 (by decide) ?_
          refine aw_lv [2, 3, 4, 5, 0] rfl ?_
          exact ih _ _ _ _ _
        · refine aw_iconst K dX9_fits_61 ki_0 ?_
          exact aw_zret dX9_fits_62 (by decide)
set_option maxRecDepth 100000 in
set_option maxHeartbeats 4000000 in
theorem c_f_To_fits (l : Launch) (t : Nat) (ht : TW t) (x1 : Int32) (x2 : Int32) (x3 : Int32) : CTI l (1) yX9_fits cX9_fits 6 ((some .boolean)) (fun P => [rf P t, .int x1, .int x2, .int x3]) (fun σ => f_To_fits t x1 x2 x3 σ) := by
  refine met_Z rfl rfl rfl (fun P => Nat.le_of_ble_eq_true rfl) (fun P G K hg σ => ?_)
  change AW P G 6 (EZ P G cX9_fits) (f_To_fits t x1 x2 x3 σ) σ 0 [(0, rf P t), (1, .int x1), (2, .int x2), (3, .int x3)] []
  rw [f_To_fits]
  refine aw_iconst K dX9_fits_0 ki_0 ?_
  refine aw_istore K (i := 4) (lv' := [(4, .int (0 : Int32)), (0, rf P t), (1, .int x1), (2, .int x2), (3, .int x3)]) dX9_fits_1 (Nat.le_of_ble_eq_true rfl) rfl ?_
  refine aw_lv [1, 2, 3, 4, 0] rfl ?_
  exact (a_f_To_fits_3 l t ht K hg FU) _ _ _ _ _
set_option maxRecDepth 100000 in
set_option maxHeartbeats 4000000 in
theorem a_f_To_firstLaw_9 (l : Launch) (t : Nat) (ht : TW t) {P : PT} {G : GT} (K : CX P G cX9_firstLaw RX9 (2) 4) (hg : gl G = l) {K2 : Int32 → Int32 → SG → Option (Int32 × SG)} (hK2 : ∀ (x1 : Int32) (x2 : Int32) (σ : SG), AW P G 4 (EI P G cX9_firstLaw) (K2 x1 x2 σ) σ 2 [(0, rf P t), (1, .int x1), (2, .int x2)] []) : ∀ (n : Nat) (x1 : Int32) (x2 : Int32) (x3 : Int32) (σ : SG), AW P G 4 (EI P G cX9_firstLaw) (f_To_firstLaw_9 t K2 n x1 x2 x3 σ) σ 9 [(0, rf P t), (1, .int x1), (2, .int x2), (3, .int x3)] [] := by
  intro n
  induction n with
  | zero =>
    intro x1 x2 x3 σ
    rw [f_To_firstLaw_9]
    exact aw_none
  | succ n ih =>
    intro x1 x2 x3 σ
    rw [f_To_firstLaw_9]
    refine aw_iload_n K 3 dX9_firstLaw_9 rfl ?_
    refine aw_bipush K dX9_firstLaw_10 kb_50 ?_
    refine aw_icmp_gt K 38 dX9_firstLaw_12 (by decide) (fun h_1 => ?_) (fun h_1 => ?_)
    · refine aw_iinc K (lv' := fun y1 => [(2, .int y1), (0, rf P t), (1, .int x1), (3, .int x3)]) 2 dX9_firstLaw_38 rfl ki_1 (Nat.le_of_ble_eq_true rfl) (fun _ => rfl) (fun y1 => ?_)
      refine aw_goto K 2 dX9_firstLaw_41 (by decide) ?_
      refine aw_lv [1, 2, 0] rfl ?_
      exact hK2 _ _ _
    · refine aw_aload_n K 0 dX9_firstLaw_15 rfl ?_
      refine aw_iload_n K 2 dX9_firstLaw_16 rfl ?_
      refine aw_iload_n K 3 dX9_firstLaw_17 rfl ?_
      refine aw_iload_n K 1 dX9_firstLaw_18 rfl ?_
      refine aw_callVI K dX9_firstLaw_19 vw_X9_154_9 (c_f_To_fits l t ht _ _ _) hg (by decide) (ob_To ht) rfl (Nat.le_of_ble_eq_true rfl) rfl rfl (fun r3 σ2 _ => ?_)
      refine aw_if_eq K 32 dX9_firstLaw_22 (by decide) (fun h_2 => ?_) (fun h_2 => ?_)
      · refine aw_iinc K (lv' := fun y4 => [(3, .int y4), (0, rf P t), (1, .int x1), (2, .int x2)]) 3 dX9_firstLaw_32 rfl ki_1 (Nat.le_of_ble_eq_true rfl) (fun _ => rfl) (fun y4 => ?_)
        refine aw_goto K 9 dX9_firstLaw_35 (by decide) ?_
        refine aw_lv [1, 2, 3, 0] rfl ?_
        exact ih _ _ _ _
      · refine aw_iload_n K 2 dX9_firstLaw_25 rfl ?_
        refine aw_bipush K dX9_firstLaw_26 kb_51 ?_
        refine aw_imul K dX9_firstLaw_28 ?_
        refine aw_iload_n K 3 dX9_firstLaw_29 rfl ?_
        refine aw_iadd K dX9_firstLaw_30 ?_
        exact aw_iret dX9_firstLaw_31
set_option maxRecDepth 100000 in
set_option maxHeartbeats 4000000 in
theorem a_f_To_firstLaw_2 (l : Launch) (t : Nat) (ht : TW t) {P : PT} {G : GT} (K : CX P G cX9_firstLaw RX9 (2) 4) (hg : gl G = l) : ∀ (n : Nat) (x1 : Int32) (x2 : Int32) (σ : SG), AW P G 4 (EI P G cX9_firstLaw) (f_To_firstLaw_2 t n x1 x2 σ) σ 2 [(0, rf P t), (1, .int x1), (2, .int x2)] [] := by
  intro n
  induction n with
  | zero =>
    intro x1 x2 σ
    rw [f_To_firstLaw_2]
    exact aw_none
  | succ n ih =>
    intro x1 x2 σ
    rw [f_To_firstLaw_2]
    refine aw_iload_n K 2 dX9_firstLaw_2 rfl ?_
    refine aw_iconst K dX9_firstLaw_3 ki_3 ?_
    refine aw_icmp_gt K 44 dX9_firstLaw_4 (by decide) (fun h_1 => ?_) (fun h_1 => ?_)
    · refine aw_bipush K dX9_firstLaw_44 kb_m3 ?_
      exact aw_iret dX9_firstLaw_46
    · refine aw_iconst K dX9_firstLaw_7 ki_0 ?_
      refine aw_istore_n K (i := 3) (lv' := [(3, .int (0 : Int32)), (0, rf P t), (1, .int x1), (2, .int x2)]) dX9_firstLaw_8 rfl (Nat.le_of_ble_eq_true rfl) rfl ?_
      refine aw_lv [1, 2, 3, 0] rfl ?_
      exact (a_f_To_firstLaw_9 l t ht K hg ih FU) _ _ _ _
set_option maxRecDepth 100000 in
set_option maxHeartbeats 4000000 in
theorem c_f_To_firstLaw (l : Launch) (t : Nat) (ht : TW t) (x1 : Int32) : CTI l (2) yX9_firstLaw cX9_firstLaw 4 ((some .int)) (fun P => [rf P t, .int x1]) (fun σ => f_To_firstLaw t x1 σ) := by
  refine met_I rfl rfl rfl (fun P => Nat.le_of_ble_eq_true rfl) (fun P G K hg σ => ?_)
  change AW P G 4 (EI P G cX9_firstLaw) (f_To_firstLaw t x1 σ) σ 0 [(0, rf P t), (1, .int x1)] []
  rw [f_To_firstLaw]
  refine aw_iconst K dX9_firstLaw_0 ki_0 ?_
  refine aw_istore_n K (i := 2) (lv' := [(2, .int (0 : Int32)), (0, rf P t), (1, .int x1)]) dX9_firstLaw_1 rfl (Nat.le_of_ble_eq_true rfl) rfl ?_
  refine aw_lv [1, 2, 0] rfl ?_
  exact (a_f_To_firstLaw_2 l t ht K hg FU) _ _ _
set_option maxRecDepth 100000 in
set_option maxHeartbeats 4000000 in
theorem a_f_To_lawsThatFit_11 (l : Launch) (t : Nat) (ht : TW t) {P : PT} {G : GT} (K : CX P G cX9_lawsThatFit RX9 (2) 4) (hg : gl G = l) {K4 : Int32 → Int32 → SG → Option (Int32 × SG)} (hK4 : ∀ (x1 : Int32) (x2 : Int32) (σ : SG), AW P G 4 (EI P G cX9_lawsThatFit) (K4 x1 x2 σ) σ 4 [(0, rf P t), (1, .int x1), (2, .int x2)] []) : ∀ (n : Nat) (x1 : Int32) (x2 : Int32) (x3 : Int32) (σ : SG), AW P G 4 (EI P G cX9_lawsThatFit) (f_To_lawsThatFit_11 t K4 n x1 x2 x3 σ) σ 11 [(0, rf P t), (1, .int x1), (2, .int x2), (3, .int x3)] [] := by
  intro n
  induction n with
  | zero =>
    intro x1 x2 x3 σ
    rw [f_To_lawsThatFit_11]
    exact aw_none
  | succ n ih =>
    intro x1 x2 x3 σ
    rw [f_To_lawsThatFit_11]
    refine aw_iload_n K 3 dX9_lawsThatFit_11 rfl ?_
    refine aw_bipush K dX9_lawsThatFit_12 kb_50 ?_
    refine aw_icmp_gt K 37 dX9_lawsThatFit_14 (by decide) (fun h_1 => ?_) (fun h_1 => ?_)
    · refine aw_iinc K (lv' := fun y1 => [(2, .int y1), (0, rf P t), (1, .int x1), (3, .int x3)]) 2 dX9_lawsThatFit_37 rfl ki_1 (Nat.le_of_ble_eq_true rfl) (fun _ => rfl) (fun y1 => ?_)
      refine aw_goto K 4 dX9_lawsThatFit_40 (by decide) ?_
      refine aw_lv [1, 2, 0] rfl ?_
      exact hK4 _ _ _
    · refine aw_aload_n K 0 dX9_lawsThatFit_17 rfl ?_
      refine aw_iload_n K 2 dX9_lawsThatFit_18 rfl ?_
      refine aw_iload_n K 3 dX9_lawsThatFit_19 rfl ?_
      refine aw_bipush K dX9_lawsThatFit_20 kb_m3 ?_
      refine aw_callVI K dX9_lawsThatFit_22 vw_X9_154_9 (c_f_To_fits l t ht _ _ _) hg (by decide) (ob_To ht) rfl (Nat.le_of_ble_eq_true rfl) rfl rfl (fun r3 σ2 _ => ?_)
      refine aw_if_eq K 31 dX9_lawsThatFit_25 (by decide) (fun h_2 => ?_) (fun h_2 => ?_)
      · refine aw_iinc K (lv' := fun y4 => [(3, .int y4), (0, rf P t), (1, .int x1), (2, .int x2)]) 3 dX9_lawsThatFit_31 rfl ki_1 (Nat.le_of_ble_eq_true rfl) (fun _ => rfl) (fun y4 => ?_)
        refine aw_goto K 11 dX9_lawsThatFit_34 (by decide) ?_
        refine aw_lv [1, 2, 3, 0] rfl ?_
        exact ih _ _ _ _
      · refine aw_iinc K (lv' := fun y5 => [(1, .int y5), (0, rf P t), (2, .int x2), (3, .int x3)]) 1 dX9_lawsThatFit_28 rfl ki_1 (Nat.le_of_ble_eq_true rfl) (fun _ => rfl) (fun y5 => ?_)
        refine aw_iinc K (lv' := fun y6 => [(3, .int y6), (1, .int y5), (0, rf P t), (2, .int x2)]) 3 dX9_lawsThatFit_31 rfl ki_1 (Nat.le_of_ble_eq_true rfl) (fun _ => rfl) (fun y6 => ?_)
        refine aw_goto K 11 dX9_lawsThatFit_34 (by decide) ?_
        refine aw_lv [2, 1, 3, 0] rfl ?_
        exact ih _ _ _ _
set_option maxRecDepth 100000 in
set_option maxHeartbeats 4000000 in
theorem a_f_To_lawsThatFit_4 (l : Launch) (t : Nat) (ht : TW t) {P : PT} {G : GT} (K : CX P G cX9_lawsThatFit RX9 (2) 4) (hg : gl G = l) : ∀ (n : Nat) (x1 : Int32) (x2 : Int32) (σ : SG), AW P G 4 (EI P G cX9_lawsThatFit) (f_To_lawsThatFit_4 t n x1 x2 σ) σ 4 [(0, rf P t), (1, .int x1), (2, .int x2)] [] := by
  intro n
  induction n with
  | zero =>
    intro x1 x2 σ
    rw [f_To_lawsThatFit_4]
    exact aw_none
  | succ n ih =>
    intro x1 x2 σ
    rw [f_To_lawsThatFit_4]
    refine aw_iload_n K 2 dX9_lawsThatFit_4 rfl ?_
    refine aw_iconst K dX9_lawsThatFit_5 ki_3 ?_
    refine aw_icmp_gt K 43 dX9_lawsThatFit_6 (by decide) (fun h_1 => ?_) (fun h_1 => ?_)
    · refine aw_iload_n K 1 dX9_lawsThatFit_43 rfl ?_
      exact aw_iret dX9_lawsThatFit_44
    · refine aw_iconst K dX9_lawsThatFit_9 ki_0 ?_
      refine aw_istore_n K (i := 3) (lv' := [(3, .int (0 : Int32)), (0, rf P t), (1, .int x1), (2, .int x2)]) dX9_lawsThatFit_10 rfl (Nat.le_of_ble_eq_true rfl) rfl ?_
      refine aw_lv [1, 2, 3, 0] rfl ?_
      exact (a_f_To_lawsThatFit_11 l t ht K hg ih FU) _ _ _ _
set_option maxRecDepth 100000 in
set_option maxHeartbeats 4000000 in
theorem c_f_To_lawsThatFit (l : Launch) (t : Nat) (ht : TW t) : CTI l (2) yX9_lawsThatFit cX9_lawsThatFit 4 ((some .int)) (fun P => [rf P t]) (fun σ => f_To_lawsThatFit t σ) := by
  refine met_I rfl rfl rfl (fun P => Nat.le_of_ble_eq_true rfl) (fun P G K hg σ => ?_)
  change AW P G 4 (EI P G cX9_lawsThatFit) (f_To_lawsThatFit t σ) σ 0 [(0, rf P t)] []
  rw [f_To_lawsThatFit]
  refine aw_iconst K dX9_lawsThatFit_0 ki_0 ?_
  refine aw_istore_n K (i := 1) (lv' := [(1, .int (0 : Int32)), (0, rf P t)]) dX9_lawsThatFit_1 rfl (Nat.le_of_ble_eq_true rfl) rfl ?_
  refine aw_iconst K dX9_lawsThatFit_2 ki_0 ?_
  refine aw_istore_n K (i := 2) (lv' := [(2, .int (0 : Int32)), (1, .int (0 : Int32)), (0, rf P t)]) dX9_lawsThatFit_3 rfl (Nat.le_of_ble_eq_true rfl) rfl ?_
  refine aw_lv [2, 1, 0] rfl ?_
  exact (a_f_To_lawsThatFit_4 l t ht K hg FU) _ _ _
set_option maxRecDepth 100000 in
set_option maxHeartbeats 4000000 in
theorem c_f_H_span (l : Launch) (x1 : Int32) : CTI l (3) yX11_span cX11_span 3 ((some .int)) (fun P => [rf P 0, .int x1]) (fun σ => f_H_span x1 σ) := by
  refine met_I rfl rfl rfl (fun P => Nat.le_of_ble_eq_true rfl) (fun P G K hg σ => ?_)
  change AW P G 3 (EI P G cX11_span) (f_H_span x1 σ) σ 0 [(0, rf P 0), (1, .int x1)] []
  rw [f_H_span]
  refine aw_iload_n K 1 dX11_span_0 rfl ?_
  refine aw_iconst K dX11_span_1 ki_0 ?_
  refine aw_iconst K dX11_span_2 ki_2 ?_
  refine aw_callSI K dX11_span_3 vw_X11_72 (c_f_H_isIn l _ _ _) hg (by decide) rfl (Nat.le_of_ble_eq_true rfl) rfl rfl (fun r2 σ1 _ => ?_)
  refine aw_if_ne K 11 dX11_span_6 (by decide) (fun h_1 => ?_) (fun h_1 => ?_)
  · refine aw_iload_n K 1 dX11_span_11 rfl ?_
    refine aw_if_ne K 23 dX11_span_12 (by decide) (fun h_2 => ?_) (fun h_2 => ?_)
    · refine aw_aload_n K 0 dX11_span_23 rfl ?_
      refine aw_getR K (c' := 20) dX11_span_24 lk_X11_41_11 fd_0_1 ?_
      refine aw_bipush K dX11_span_27 kb_m3 ?_
      refine aw_callVI K dX11_span_29 vw_X11_207_9 (c_f_To_firstLaw l 20 TW.a _) hg (by decide) ob_20 rfl (Nat.le_of_ble_eq_true rfl) rfl rfl (fun r4 σ3 _ => ?_)
      refine aw_istore_n K (i := 2) (lv' := [(2, .int r4), (0, rf P 0), (1, .int x1)]) dX11_span_32 rfl (Nat.le_of_ble_eq_true rfl) rfl ?_
      refine aw_iload_n K 0 dX11_span_33 rfl ?_
      refine aw_if_ge K 40 dX11_span_34 (by decide) (fun h_3 => ?_) (fun h_3 => ?_)
      · refine aw_iload_n K 2 dX11_span_40 rfl ?_
        refine aw_iconst K dX11_span_41 ki_1 ?_
        refine aw_icmp_ne K 52 dX11_span_42 (by decide) (fun h_4 => ?_) (fun h_4 => ?_)
        · refine aw_iload_n K 0 dX11_span_52 rfl ?_
          refine aw_bipush K dX11_span_53 kb_51 ?_
          refine aw_irem K dX11_span_55 (by decide) ?_
          exact aw_iret dX11_span_56
        · refine aw_iload_n K 0 dX11_span_45 rfl ?_
          refine aw_bipush K dX11_span_46 kb_51 ?_
          refine aw_idiv K dX11_span_48 (by decide) ?_
          refine aw_goto K 56 dX11_span_49 (by decide) ?_
          exact aw_iret dX11_span_56
      · refine aw_bipush K dX11_span_37 kb_m3 ?_
        exact aw_iret dX11_span_39
    · refine aw_aload_n K 0 dX11_span_15 rfl ?_
      refine aw_getR K (c' := 20) dX11_span_16 lk_X11_41_11 fd_0_1 ?_
      refine aw_callVI K dX11_span_19 vw_X11_204_9 (c_f_To_lawsThatFit l 20 TW.a) hg (by decide) ob_20 rfl (Nat.le_of_ble_eq_true rfl) rfl rfl (fun r6 σ5 _ => ?_)
      exact aw_iret dX11_span_22
  · refine aw_iconst K dX11_span_9 ki_m1 ?_
    exact aw_iret dX11_span_10
set_option maxRecDepth 100000 in
set_option maxHeartbeats 4000000 in
theorem a_f_H_liar_17 (l : Launch) {P : PT} {G : GT} (K : CX P G cX11_liar RX11 (3) 2) (hg : gl G = l) : ∀ (n : Nat) (x1 : Int32) (σ : SG), AW P G 2 (EI P G cX11_liar) (f_H_liar_17 n x1 σ) σ 17 [(0, rf P 0), (1, .int x1)] [] := by
  intro n
  induction n with
  | zero =>
    intro x1 σ
    rw [f_H_liar_17]
    exact aw_none
  | succ n ih =>
    intro x1 σ
    rw [f_H_liar_17]
    refine aw_iload_n K 1 dX11_liar_17 rfl ?_
    refine aw_aload_n K 0 dX11_liar_18 rfl ?_
    refine aw_getR K (c' := 20) dX11_liar_19 lk_X11_41_11 fd_0_1 ?_
    refine aw_getI K dX11_liar_22 lk_X11_198_9 fd_20_16 ?_
    refine aw_icmp_ge K 47 dX11_liar_25 (by decide) (fun h_1 => ?_) (fun h_1 => ?_)
    · refine aw_bipush K dX11_liar_47 kb_m3 ?_
      exact aw_iret dX11_liar_49
    · refine aw_aload_n K 0 dX11_liar_28 rfl ?_
      refine aw_getR K (c' := 20) dX11_liar_29 lk_X11_41_11 fd_0_1 ?_
      refine aw_iload_n K 1 dX11_liar_32 rfl ?_
      refine aw_callVI K dX11_liar_33 vw_X11_207_9 (c_f_To_firstLaw l 20 TW.a _) hg (by decide) ob_20 rfl (Nat.le_of_ble_eq_true rfl) rfl rfl (fun r2 σ1 _ => ?_)
      refine aw_if_lt K 41 dX11_liar_36 (by decide) (fun h_2 => ?_) (fun h_2 => ?_)
      · refine aw_iinc K (lv' := fun y3 => [(1, .int y3), (0, rf P 0)]) 1 dX11_liar_41 rfl ki_1 (Nat.le_of_ble_eq_true rfl) (fun _ => rfl) (fun y3 => ?_)
        refine aw_goto K 17 dX11_liar_44 (by decide) ?_
        refine aw_lv [1, 0] rfl ?_
        exact ih _ _
      · refine aw_iload_n K 1 dX11_liar_39 rfl ?_
        exact aw_iret dX11_liar_40
set_option maxRecDepth 100000 in
set_option maxHeartbeats 4000000 in
theorem c_f_H_liar (l : Launch) : CTI l (3) yX11_liar cX11_liar 2 ((some .int)) (fun P => [rf P 0]) (fun σ => f_H_liar σ) := by
  refine met_I rfl rfl rfl (fun P => Nat.le_of_ble_eq_true rfl) (fun P G K hg σ => ?_)
  change AW P G 2 (EI P G cX11_liar) (f_H_liar σ) σ 0 [(0, rf P 0)] []
  rw [f_H_liar]
  refine aw_aload_n K 0 dX11_liar_0 rfl ?_
  refine aw_getR K (c' := 20) dX11_liar_1 lk_X11_41_11 fd_0_1 ?_
  refine aw_bipush K dX11_liar_4 kb_m3 ?_
  refine aw_callVI K dX11_liar_6 vw_X11_207_9 (c_f_To_firstLaw l 20 TW.a _) hg (by decide) ob_20 rfl (Nat.le_of_ble_eq_true rfl) rfl rfl (fun r2 σ1 _ => ?_)
  refine aw_if_lt K 15 dX11_liar_9 (by decide) (fun h_1 => ?_) (fun h_1 => ?_)
  · refine aw_iconst K dX11_liar_15 ki_0 ?_
    refine aw_istore_n K (i := 1) (lv' := [(1, .int (0 : Int32)), (0, rf P 0)]) dX11_liar_16 rfl (Nat.le_of_ble_eq_true rfl) rfl ?_
    refine aw_lv [1, 0] rfl ?_
    exact (a_f_H_liar_17 l K hg FU) _ _
  · refine aw_bipush K dX11_liar_12 kb_m3 ?_
    exact aw_iret dX11_liar_14
set_option maxRecDepth 100000 in
set_option maxHeartbeats 4000000 in
theorem c_f_H_seed (l : Launch) (x1 : Int32) : CTI l (0) yX11_seed cX11_seed 3 ((some .int)) (fun P => [rf P 0, .int x1]) (fun σ => f_H_seed x1 σ) := by
  refine met_I rfl rfl rfl (fun P => Nat.le_of_ble_eq_true rfl) (fun P G K hg σ => ?_)
  change AW P G 3 (EI P G cX11_seed) (f_H_seed x1 σ) σ 0 [(0, rf P 0), (1, .int x1)] []
  rw [f_H_seed]
  refine aw_aload_n K 0 dX11_seed_0 rfl ?_
  refine aw_getR K (c' := 20) dX11_seed_1 lk_X11_41_11 fd_0_1 ?_
  refine aw_getI K dX11_seed_4 lk_X11_210_9 fd_20_13 ?_
  refine aw_istoreX_n K (i := 2) (lv' := fun y1 => [(2, .int y1), (0, rf P 0), (1, .int x1)]) dX11_seed_7 rfl (Nat.le_of_ble_eq_true rfl) (fun _ => rfl) (fun y1 => ?_)
  refine aw_aload_n K 1 dX11_seed_8 rfl ?_
  refine aw_getR K (c' := 20) dX11_seed_9 lk_X11_41_11 fd_0_1 ?_
  refine aw_iload_n K 2 dX11_seed_12 rfl ?_
  refine aw_putI K dX11_seed_13 lp_X11_210_9 fd_20_13 (fun σ2 => ?_)
  refine aw_iload_n K 0 dX11_seed_16 rfl ?_
  exact aw_iret dX11_seed_17
set_option maxRecDepth 100000 in
set_option maxHeartbeats 4000000 in
theorem a_f_To_drawn_85 (l : Launch) (t : Nat) (ht : TW t) {P : PT} {G : GT} (K : CX P G cX9_drawn RX9 (5) 7) (hg : gl G = l) : ∀ (n : Nat) (x2 : Int32) (x4 : Int32) (x5 : Int32) (σ : SG), AW P G 7 (EI P G cX9_drawn) (f_To_drawn_85 t n x2 x4 x5 σ) σ 85 [(0, rf P t), (2, .int x2), (3, .ref (pC P)), (4, .int x4), (5, .int x5)] [] := by
  intro n
  induction n with
  | zero =>
    intro x2 x4 x5 σ
    rw [f_To_drawn_85]
    exact aw_none
  | succ n ih =>
    intro x2 x4 x5 σ
    rw [f_To_drawn_85]
    refine aw_iload K 4 dX9_drawn_85 rfl ?_
    refine aw_iload K 3 dX9_drawn_87 rfl ?_
    refine aw_icmp_ge K 130 dX9_drawn_89 (by decide) (fun h_1 => ?_) (fun h_1 => ?_)
    · refine aw_bipush K dX9_drawn_130 kb_m3 ?_
      exact aw_iret dX9_drawn_132
    · refine aw_aload_n K 2 dX9_drawn_92 rfl ?_
      refine aw_iload K 4 dX9_drawn_93 rfl ?_
      refine aw_gd (fun h_2 => ?_)
      refine aw_tC K dX9_drawn_95 h_2 ?_
      refine aw_istoreX K (i := 6) (lv' := fun y1 => [(6, .int y1), (0, rf P t), (2, .int x2), (3, .ref (pC P)), (4, .int x4), (5, .int x5)]) dX9_drawn_96 (Nat.le_of_ble_eq_true rfl) (fun _ => rfl) (fun y1 => ?_)
      refine aw_aload_n K 1 dX9_drawn_98 rfl ?_
      refine aw_iload K 0 dX9_drawn_99 rfl ?_
      refine aw_callVI K dX9_drawn_101 vw_X9_143_9 (c_f_To_canBe l t ht _) hg (by decide) (ob_To ht) rfl (Nat.le_of_ble_eq_true rfl) rfl rfl (fun r3 σ2 _ => ?_)
      refine aw_if_eq K 124 dX9_drawn_104 (by decide) (fun h_3 => ?_) (fun h_3 => ?_)
      · refine aw_iinc K (lv' := fun y4 => [(5, .int y4), (6, .int y1), (0, rf P t), (2, .int x2), (3, .ref (pC P)), (4, .int x4)]) 5 dX9_drawn_124 rfl ki_1 (Nat.le_of_ble_eq_true rfl) (fun _ => rfl) (fun y4 => ?_)
        refine aw_goto K 85 dX9_drawn_127 (by decide) ?_
        refine aw_lv [2, 3, 4, 5, 0] rfl ?_
        exact ih _ _ _ _
      · refine aw_iload_n K 2 dX9_drawn_107 rfl ?_
        refine aw_if_ne K 121 dX9_drawn_108 (by decide) (fun h_4 => ?_) (fun h_4 => ?_)
        · refine aw_iinc K (lv' := fun y5 => [(2, .int y5), (6, .int y1), (0, rf P t), (3, .ref (pC P)), (4, .int x4), (5, .int x5)]) 2 dX9_drawn_121 rfl ki_m1 (Nat.le_of_ble_eq_true rfl) (fun _ => rfl) (fun y5 => ?_)
          refine aw_iinc K (lv' := fun y6 => [(5, .int y6), (2, .int y5), (6, .int y1), (0, rf P t), (3, .ref (pC P)), (4, .int x4)]) 5 dX9_drawn_124 rfl ki_1 (Nat.le_of_ble_eq_true rfl) (fun _ => rfl) (fun y6 => ?_)
          refine aw_goto K 85 dX9_drawn_127 (by decide) ?_
          refine aw_lv [3, 1, 4, 5, 0] rfl ?_
          exact ih _ _ _ _
        · refine aw_aload_n K 1 dX9_drawn_111 rfl ?_
          refine aw_iload K 0 dX9_drawn_112 rfl ?_
          refine aw_callVI K dX9_drawn_114 vw_X9_147_9 (c_f_To_enter l t ht _) hg (by decide) (ob_To ht) rfl (Nat.le_of_ble_eq_true rfl) rfl rfl (fun r8 σ7 _ => ?_)
          refine aw_pop K dX9_drawn_117 rfl ?_
          refine aw_iload K 0 dX9_drawn_118 rfl ?_
          exact aw_iret dX9_drawn_120
set_option maxRecDepth 100000 in
set_option maxHeartbeats 4000000 in
theorem a_f_To_drawn_12 (l : Launch) (t : Nat) (ht : TW t) {P : PT} {G : GT} (K : CX P G cX9_drawn RX9 (5) 7) (hg : gl G = l) : ∀ (n : Nat) (x1 : Int32) (x3 : Int32) (x4 : Int32) (σ : SG), AW P G 7 (EI P G cX9_drawn) (f_To_drawn_12 t n x1 x3 x4 σ) σ 12 [(0, rf P t), (1, .int x1), (2, .ref (pC P)), (3, .int x3), (4, .int x4)] [] := by
  intro n
  induction n with
  | zero =>
    intro x1 x3 x4 σ
    rw [f_To_drawn_12]
    exact aw_none
  | succ n ih =>
    intro x1 x3 x4 σ
    rw [f_To_drawn_12]
    refine aw_iload K 4 dX9_drawn_12 rfl ?_
    refine aw_iload_n K 3 dX9_drawn_14 rfl ?_
    refine aw_icmp_ge K 42 dX9_drawn_15 (by decide) (fun h_1 => ?_) (fun h_1 => ?_)
    · refine aw_iload_n K 1 dX9_drawn_42 rfl ?_
      refine aw_if_ne K 49 dX9_drawn_43 (by decide) (fun h_2 => ?_) (fun h_2 => ?_)
      · refine aw_aload_n K 0 dX9_drawn_49 rfl ?_
        refine aw_aload_n K 0 dX9_drawn_50 rfl ?_
        refine aw_getI K dX9_drawn_51 lk_X9_40_9 (fd_To_13 ht) ?_
        refine aw_ldc K (x := (1103515245 : Int32)) dX9_drawn_54 (in_r48 _ (List.mem_of_getElem? (i := 6) rfl)) ?_
        refine aw_imul K dX9_drawn_56 ?_
        refine aw_sipush K dX9_drawn_57 ks_12345 ?_
        refine aw_iadd K dX9_drawn_60 ?_
        refine aw_putI K dX9_drawn_61 lp_X9_40_9 (fd_To_13 ht) (fun σ1 => ?_)
        refine aw_aload_n K 0 dX9_drawn_64 rfl ?_
        refine aw_getI K dX9_drawn_65 lk_X9_40_9 (fd_To_13 ht) ?_
        refine aw_bipush K dX9_drawn_68 kb_16 ?_
        refine aw_iushr K dX9_drawn_70 ?_
        refine aw_iload_n K 1 dX9_drawn_71 rfl ?_
        refine aw_gd (fun h_3 => ?_)
        refine aw_irem K dX9_drawn_72 h_3 ?_
        refine aw_istoreX_n K (i := 2) (lv' := fun y2 => [(2, .int y2), (0, rf P t), (1, .int x1), (3, .int x3), (4, .int x4)]) dX9_drawn_73 rfl (Nat.le_of_ble_eq_true rfl) (fun _ => rfl) (fun y2 => ?_)
        refine aw_getsCN K dX9_drawn_74 (List.mem_of_getElem? (i := 3) rfl) ?_
        refine aw_astore_n K (i := 3) (lv' := [(3, .ref (pC P)), (2, .int y2), (0, rf P t), (1, .int x1), (4, .int x4)]) dX9_drawn_77 rfl (Nat.le_of_ble_eq_true rfl) rfl ?_
        refine aw_aload_n K 0 dX9_drawn_78 rfl ?_
        refine aw_tlenC K dX9_drawn_79 ?_
        refine aw_istore K (i := 4) (lv' := [(4, .int (21 : Int32)), (3, .ref (pC P)), (2, .int y2), (0, rf P t), (1, .int x1)]) dX9_drawn_80 (Nat.le_of_ble_eq_true rfl) rfl ?_
        refine aw_iconst K dX9_drawn_82 ki_0 ?_
        refine aw_istore K (i := 5) (lv' := [(5, .int (0 : Int32)), (4, .int (21 : Int32)), (3, .ref (pC P)), (2, .int y2), (0, rf P t), (1, .int x1)]) dX9_drawn_83 (Nat.le_of_ble_eq_true rfl) rfl ?_
        refine aw_lv [4, 3, 2, 1, 0] rfl ?_
        exact (a_f_To_drawn_85 l t ht K hg FU) _ _ _ _
      · refine aw_bipush K dX9_drawn_46 kb_m3 ?_
        exact aw_iret dX9_drawn_48
    · refine aw_aload_n K 2 dX9_drawn_18 rfl ?_
      refine aw_iload K 4 dX9_drawn_19 rfl ?_
      refine aw_gd (fun h_4 => ?_)
      refine aw_tC K dX9_drawn_21 h_4 ?_
      refine aw_istoreX K (i := 5) (lv' := fun y3 => [(5, .int y3), (0, rf P t), (1, .int x1), (2, .ref (pC P)), (3, .int x3), (4, .int x4)]) dX9_drawn_22 (Nat.le_of_ble_eq_true rfl) (fun _ => rfl) (fun y3 => ?_)
      refine aw_aload_n K 1 dX9_drawn_24 rfl ?_
      refine aw_iload K 0 dX9_drawn_25 rfl ?_
      refine aw_callVI K dX9_drawn_27 vw_X9_143_9 (c_f_To_canBe l t ht _) hg (by decide) (ob_To ht) rfl (Nat.le_of_ble_eq_true rfl) rfl rfl (fun r5 σ4 _ => ?_)
      refine aw_if_eq K 36 dX9_drawn_30 (by decide) (fun h_5 => ?_) (fun h_5 => ?_)
      · refine aw_iinc K (lv' := fun y6 => [(4, .int y6), (5, .int y3), (0, rf P t), (1, .int x1), (2, .ref (pC P)), (3, .int x3)]) 5 dX9_drawn_36 rfl ki_1 (Nat.le_of_ble_eq_true rfl) (fun _ => rfl) (fun y6 => ?_)
        refine aw_goto K 12 dX9_drawn_39 (by decide) ?_
        refine aw_lv [2, 3, 4, 5, 0] rfl ?_
        exact ih _ _ _ _
      · refine aw_iinc K (lv' := fun y7 => [(1, .int y7), (5, .int y3), (0, rf P t), (2, .ref (pC P)), (3, .int x3), (4, .int x4)]) 2 dX9_drawn_33 rfl ki_1 (Nat.le_of_ble_eq_true rfl) (fun _ => rfl) (fun y7 => ?_)
        refine aw_iinc K (lv' := fun y8 => [(4, .int y8), (1, .int y7), (5, .int y3), (0, rf P t), (2, .ref (pC P)), (3, .int x3)]) 5 dX9_drawn_36 rfl ki_1 (Nat.le_of_ble_eq_true rfl) (fun _ => rfl) (fun y8 => ?_)
        refine aw_goto K 12 dX9_drawn_39 (by decide) ?_
        refine aw_lv [3, 1, 4, 5, 0] rfl ?_
        exact ih _ _ _ _
set_option maxRecDepth 100000 in
set_option maxHeartbeats 4000000 in
theorem c_f_To_drawn (l : Launch) (t : Nat) (ht : TW t) : CTI l (5) yX9_drawn cX9_drawn 7 ((some .int)) (fun P => [rf P t]) (fun σ => f_To_drawn t σ) := by
  refine met_I rfl rfl rfl (fun P => Nat.le_of_ble_eq_true rfl) (fun P G K hg σ => ?_)
  change AW P G 7 (EI P G cX9_drawn) (f_To_drawn t σ) σ 0 [(0, rf P t)] []
  rw [f_To_drawn]
  refine aw_iconst K dX9_drawn_0 ki_0 ?_
  refine aw_istore_n K (i := 1) (lv' := [(1, .int (0 : Int32)), (0, rf P t)]) dX9_drawn_1 rfl (Nat.le_of_ble_eq_true rfl) rfl ?_
  refine aw_getsCN K dX9_drawn_2 (List.mem_of_getElem? (i := 3) rfl) ?_
  refine aw_astore_n K (i := 2) (lv' := [(2, .ref (pC P)), (1, .int (0 : Int32)), (0, rf P t)]) dX9_drawn_5 rfl (Nat.le_of_ble_eq_true rfl) rfl ?_
  refine aw_aload_n K 0 dX9_drawn_6 rfl ?_
  refine aw_tlenC K dX9_drawn_7 ?_
  refine aw_istore_n K (i := 3) (lv' := [(3, .int (21 : Int32)), (2, .ref (pC P)), (1, .int (0 : Int32)), (0, rf P t)]) dX9_drawn_8 rfl (Nat.le_of_ble_eq_true rfl) rfl ?_
  refine aw_iconst K dX9_drawn_9 ki_0 ?_
  refine aw_istore K (i := 4) (lv' := [(4, .int (0 : Int32)), (3, .int (21 : Int32)), (2, .ref (pC P)), (1, .int (0 : Int32)), (0, rf P t)]) dX9_drawn_10 (Nat.le_of_ble_eq_true rfl) rfl ?_
  refine aw_lv [4, 3, 2, 1, 0] rfl ?_
  exact (a_f_To_drawn_12 l t ht K hg FU) _ _ _ _
set_option maxRecDepth 100000 in
set_option maxHeartbeats 4000000 in
theorem c_f_H_draw (l : Launch) : CTI l (6) yX11_draw cX11_draw 1 ((some .int)) (fun P => [rf P 0]) (fun σ => f_H_draw σ) := by
  refine met_I rfl rfl rfl (fun P => Nat.le_of_ble_eq_true rfl) (fun P G K hg σ => ?_)
  change AW P G 1 (EI P G cX11_draw) (f_H_draw σ) σ 0 [(0, rf P 0)] []
  rw [f_H_draw]
  refine aw_aload_n K 0 dX11_draw_0 rfl ?_
  refine aw_getR K (c' := 20) dX11_draw_1 lk_X11_41_11 fd_0_1 ?_
  refine aw_callVI K dX11_draw_4 vw_X11_213_9 (c_f_To_drawn l 20 TW.a) hg (by decide) ob_20 rfl (Nat.le_of_ble_eq_true rfl) rfl rfl (fun r2 σ1 _ => ?_)
  exact aw_iret dX11_draw_7
set_option maxRecDepth 100000 in
set_option maxHeartbeats 4000000 in
theorem a_f_To_runOut_3 (l : Launch) (t : Nat) (ht : TW t) {P : PT} {G : GT} (K : CX P G cX9_runOut RX9 (6) 2) (hg : gl G = l) : ∀ (n : Nat) (x1 : Int32) (σ : SG), AW P G 2 (EV P G cX9_runOut) (f_To_runOut_3 t n x1 σ) σ 3 [(0, rf P t), (1, .int x1)] [] := by
  intro n
  induction n with
  | zero =>
    intro x1 σ
    rw [f_To_runOut_3]
    exact aw_none
  | succ n ih =>
    intro x1 σ
    rw [f_To_runOut_3]
    refine aw_iload_n K 1 dX9_runOut_3 rfl ?_
    refine aw_if_le K 20 dX9_runOut_4 (by decide) (fun h_1 => ?_) (fun h_1 => ?_)
    · exact aw_vret dX9_runOut_20
    · refine aw_aload_n K 0 dX9_runOut_7 rfl ?_
      refine aw_callVI K dX9_runOut_8 vw_X9_150_9 (c_f_To_drawn l t ht) hg (by decide) (ob_To ht) rfl (Nat.le_of_ble_eq_true rfl) rfl rfl (fun r2 σ1 _ => ?_)
      refine aw_if_lt K 20 dX9_runOut_11 (by decide) (fun h_2 => ?_) (fun h_2 => ?_)
      · exact aw_vret dX9_runOut_20
      · refine aw_iinc K (lv' := fun y3 => [(1, .int y3), (0, rf P t)]) 1 dX9_runOut_14 rfl ki_m1 (Nat.le_of_ble_eq_true rfl) (fun _ => rfl) (fun y3 => ?_)
        refine aw_goto K 3 dX9_runOut_17 (by decide) ?_
        refine aw_lv [1, 0] rfl ?_
        exact ih _ _
set_option maxRecDepth 100000 in
set_option maxHeartbeats 4000000 in
theorem c_f_To_runOut (l : Launch) (t : Nat) (ht : TW t) : CTV l (6) yX9_runOut cX9_runOut 2 (none) (fun P => [rf P t]) (fun σ => f_To_runOut t σ) := by
  refine met_V rfl rfl rfl (fun P => Nat.le_of_ble_eq_true rfl) (fun P G K hg σ => ?_)
  change AW P G 2 (EV P G cX9_runOut) (f_To_runOut t σ) σ 0 [(0, rf P t)] []
  rw [f_To_runOut]
  refine aw_bipush K dX9_runOut_0 kb_6 ?_
  refine aw_istore_n K (i := 1) (lv' := [(1, .int (6 : Int32)), (0, rf P t)]) dX9_runOut_2 rfl (Nat.le_of_ble_eq_true rfl) rfl ?_
  refine aw_lv [1, 0] rfl ?_
  exact (a_f_To_runOut_3 l t ht K hg FU) _ _
set_option maxRecDepth 100000 in
set_option maxHeartbeats 4000000 in
theorem a_f_To_copyRows_2 (l : Launch) (a0 : Nat) (ha0 : RW a0 12 3) (a1 : Nat) (ha1 : RW a1 12 3) {P : PT} {G : GT} (K : CX P G cX9_copyRows RX9 (1) 3) (hg : gl G = l) : ∀ (n : Nat) (x2 : Int32) (σ : SG), AW P G 3 (EV P G cX9_copyRows) (f_To_copyRows_2 a0 a1 n x2 σ) σ 2 [(0, rf P a0), (1, rf P a1), (2, .int x2)] [] := by
  intro n
  induction n with
  | zero =>
    intro x2 σ
    rw [f_To_copyRows_2]
    exact aw_none
  | succ n ih =>
    intro x2 σ
    rw [f_To_copyRows_2]
    refine aw_iload_n K 2 dX9_copyRows_2 rfl ?_
    refine aw_aload_n K 0 dX9_copyRows_3 rfl ?_
    refine aw_alen K (v := (12 : Int32)) dX9_copyRows_4 ha0.1 (by decide) (by decide) ?_
    refine aw_icmp_ge K 32 dX9_copyRows_5 (by decide) (fun h_1 => ?_) (fun h_1 => ?_)
    · exact aw_vret dX9_copyRows_32
    · refine aw_iload_n K 2 dX9_copyRows_8 rfl ?_
      refine aw_aload_n K 1 dX9_copyRows_9 rfl ?_
      refine aw_alen K (v := (12 : Int32)) dX9_copyRows_10 ha1.1 (by decide) (by decide) ?_
      refine aw_icmp_ge K 32 dX9_copyRows_11 (by decide) (fun h_2 => ?_) (fun h_2 => ?_)
      · exact aw_vret dX9_copyRows_32
      · refine aw_aload_n K 0 dX9_copyRows_14 rfl ?_
        refine aw_iload_n K 2 dX9_copyRows_15 rfl ?_
        refine aw_gd (fun h_3 => ?_)
        refine aw_aald K dX9_copyRows_16 ha0.1 h_3 rfl ?_
        refine aw_iconst K dX9_copyRows_17 ki_0 ?_
        refine aw_aload_n K 1 dX9_copyRows_18 rfl ?_
        refine aw_iload_n K 2 dX9_copyRows_19 rfl ?_
        refine aw_gd (fun h_4 => ?_)
        refine aw_aald K dX9_copyRows_20 ha1.1 h_4 rfl ?_
        refine aw_iconst K dX9_copyRows_21 ki_0 ?_
        refine aw_iconst K dX9_copyRows_22 ki_3 ?_
        refine aw_gd (fun h_5 => ?_)
        refine aw_copy K dX9_copyRows_23 (by decide) (in_r30 _ (List.mem_of_getElem? (i := 15) rfl)) (in_r24 _ (List.mem_of_getElem? (i := 4) rfl)) (in_r24 _ (List.mem_of_getElem? (i := 5) rfl)) (in_r24 _ (List.mem_of_getElem? (i := 6) rfl)) (Nat.le_of_ble_eq_true rfl) (ha0.2 _ (ix_lt h_4)) (ha1.2 _ (ix_lt h_4)) h_5 (fun σ1 => ?_)
        refine aw_iinc K (lv' := fun y2 => [(2, .int y2), (0, rf P a0), (1, rf P a1)]) 2 dX9_copyRows_26 rfl ki_1 (Nat.le_of_ble_eq_true rfl) (fun _ => rfl) (fun y2 => ?_)
        refine aw_goto K 2 dX9_copyRows_29 (by decide) ?_
        refine aw_lv [1, 2, 0] rfl ?_
        exact ih _ _
set_option maxRecDepth 100000 in
set_option maxHeartbeats 4000000 in
theorem c_f_To_copyRows (l : Launch) (a0 : Nat) (ha0 : RW a0 12 3) (a1 : Nat) (ha1 : RW a1 12 3) : CTV l (1) yX9_copyRows cX9_copyRows 3 (none) (fun P => [rf P a0, rf P a1]) (fun σ => f_To_copyRows a0 a1 σ) := by
  refine met_V rfl rfl rfl (fun P => Nat.le_of_ble_eq_true rfl) (fun P G K hg σ => ?_)
  change AW P G 3 (EV P G cX9_copyRows) (f_To_copyRows a0 a1 σ) σ 0 [(0, rf P a0), (1, rf P a1)] []
  rw [f_To_copyRows]
  refine aw_iconst K dX9_copyRows_0 ki_0 ?_
  refine aw_istore_n K (i := 2) (lv' := [(2, .int (0 : Int32)), (0, rf P a0), (1, rf P a1)]) dX9_copyRows_1 rfl (Nat.le_of_ble_eq_true rfl) rfl ?_
  refine aw_lv [1, 2, 0] rfl ?_
  exact (a_f_To_copyRows_2 l a0 ha0 a1 ha1 K hg FU) _ _
set_option maxRecDepth 100000 in
set_option maxHeartbeats 4000000 in
theorem a_f_To_copyRows_v1_2 (l : Launch) (a0 : Nat) (ha0 : RW a0 6 3) (a1 : Nat) (ha1 : RW a1 6 3) {P : PT} {G : GT} (K : CX P G cX9_copyRows RX9 (1) 3) (hg : gl G = l) : ∀ (n : Nat) (x2 : Int32) (σ : SG), AW P G 3 (EV P G cX9_copyRows) (f_To_copyRows_v1_2 a0 a1 n x2 σ) σ 2 [(0, rf P a0), (1, rf P a1), (2, .int x2)] [] := by
  intro n
  induction n with
  | zero =>
    intro x2 σ
    rw [f_To_copyRows_v1_2]
    exact aw_none
  | succ n ih =>
    intro x2 σ
    rw [f_To_copyRows_v1_2]
    refine aw_iload_n K 2 dX9_copyRows_2 rfl ?_
    refine aw_aload_n K 0 dX9_copyRows_3 rfl ?_
    refine aw_alen K (v := (6 : Int32)) dX9_copyRows_4 ha0.1 (by decide) (by decide) ?_
    refine aw_icmp_ge K 32 dX9_copyRows_5 (by decide) (fun h_1 => ?_) (fun h_1 => ?_)
    · exact aw_vret dX9_copyRows_32
    · refine aw_iload_n K 2 dX9_copyRows_8 rfl ?_
      refine aw_aload_n K 1 dX9_copyRows_9 rfl ?_
      refine aw_alen K (v := (6 : Int32)) dX9_copyRows_10 ha1.1 (by decide) (by decide) ?_
      refine aw_icmp_ge K 32 dX9_copyRows_11 (by decide) (fun h_2 => ?_) (fun h_2 => ?_)
      · exact aw_vret dX9_copyRows_32
      · refine aw_aload_n K 0 dX9_copyRows_14 rfl ?_
        refine aw_iload_n K 2 dX9_copyRows_15 rfl ?_
        refine aw_gd (fun h_3 => ?_)
        refine aw_aald K dX9_copyRows_16 ha0.1 h_3 rfl ?_
        refine aw_iconst K dX9_copyRows_17 ki_0 ?_
        refine aw_aload_n K 1 dX9_copyRows_18 rfl ?_
        refine aw_iload_n K 2 dX9_copyRows_19 rfl ?_
        refine aw_gd (fun h_4 => ?_)
        refine aw_aald K dX9_copyRows_20 ha1.1 h_4 rfl ?_
        refine aw_iconst K dX9_copyRows_21 ki_0 ?_
        refine aw_iconst K dX9_copyRows_22 ki_3 ?_
        refine aw_gd (fun h_5 => ?_)
        refine aw_copy K dX9_copyRows_23 (by decide) (in_r30 _ (List.mem_of_getElem? (i := 15) rfl)) (in_r24 _ (List.mem_of_getElem? (i := 4) rfl)) (in_r24 _ (List.mem_of_getElem? (i := 5) rfl)) (in_r24 _ (List.mem_of_getElem? (i := 6) rfl)) (Nat.le_of_ble_eq_true rfl) (ha0.2 _ (ix_lt h_4)) (ha1.2 _ (ix_lt h_4)) h_5 (fun σ1 => ?_)
        refine aw_iinc K (lv' := fun y2 => [(2, .int y2), (0, rf P a0), (1, rf P a1)]) 2 dX9_copyRows_26 rfl ki_1 (Nat.le_of_ble_eq_true rfl) (fun _ => rfl) (fun y2 => ?_)
        refine aw_goto K 2 dX9_copyRows_29 (by decide) ?_
        refine aw_lv [1, 2, 0] rfl ?_
        exact ih _ _
set_option maxRecDepth 100000 in
set_option maxHeartbeats 4000000 in
theorem c_f_To_copyRows_v1 (l : Launch) (a0 : Nat) (ha0 : RW a0 6 3) (a1 : Nat) (ha1 : RW a1 6 3) : CTV l (1) yX9_copyRows cX9_copyRows 3 (none) (fun P => [rf P a0, rf P a1]) (fun σ => f_To_copyRows_v1 a0 a1 σ) := by
  refine met_V rfl rfl rfl (fun P => Nat.le_of_ble_eq_true rfl) (fun P G K hg σ => ?_)
  change AW P G 3 (EV P G cX9_copyRows) (f_To_copyRows_v1 a0 a1 σ) σ 0 [(0, rf P a0), (1, rf P a1)] []
  rw [f_To_copyRows_v1]
  refine aw_iconst K dX9_copyRows_0 ki_0 ?_
  refine aw_istore_n K (i := 2) (lv' := [(2, .int (0 : Int32)), (0, rf P a0), (1, rf P a1)]) dX9_copyRows_1 rfl (Nat.le_of_ble_eq_true rfl) rfl ?_
  refine aw_lv [1, 2, 0] rfl ?_
  exact (a_f_To_copyRows_v1_2 l a0 ha0 a1 ha1 K hg FU) _ _
set_option maxRecDepth 100000 in
set_option maxHeartbeats 4000000 in
theorem c_f_To_copyFrom (l : Launch) (t : Nat) (ht : TW t) (a1 : Nat) (ha1 : TW a1) : CTV l (3) yX9_copyFrom cX9_copyFrom 2 (none) (fun P => [rf P t, rf P a1]) (fun σ => f_To_copyFrom t a1 σ) := by
  refine met_V rfl rfl rfl (fun P => Nat.le_of_ble_eq_true rfl) (fun P G K hg σ => ?_)
  change AW P G 2 (EV P G cX9_copyFrom) (f_To_copyFrom t a1 σ) σ 0 [(0, rf P t), (1, rf P a1)] []
  rw [f_To_copyFrom]
  refine aw_aload_n K 0 dX9_copyFrom_0 rfl ?_
  refine aw_aload_n K 1 dX9_copyFrom_1 rfl ?_
  refine aw_callVV K dX9_copyFrom_2 vw_X9_56_9 (c_f_To_copyPlayFrom l t ht a1 ha1) hg (by decide) (ob_To ht) rfl (Nat.le_of_ble_eq_true rfl) rfl rfl (fun _ σ1 _ => ?_)
  refine aw_aload_n K 0 dX9_copyFrom_5 rfl ?_
  refine aw_aload_n K 1 dX9_copyFrom_6 rfl ?_
  refine aw_getI K dX9_copyFrom_7 lk_X9_40_9 (fd_To_13 ha1) ?_
  refine aw_putI K dX9_copyFrom_10 lp_X9_40_9 (fd_To_13 ht) (fun σ2 => ?_)
  refine aw_aload_n K 0 dX9_copyFrom_13 rfl ?_
  refine aw_aload_n K 1 dX9_copyFrom_14 rfl ?_
  refine aw_getI K dX9_copyFrom_15 lk_X9_60_9 (fd_To_14 ha1) ?_
  refine aw_putI K dX9_copyFrom_18 lp_X9_60_9 (fd_To_14 ht) (fun σ3 => ?_)
  refine aw_aload_n K 1 dX9_copyFrom_21 rfl ?_
  refine aw_getR K (c' := a1 + 15) dX9_copyFrom_22 lk_X9_46_9 (fd_To_15 ha1) ?_
  refine aw_aload_n K 0 dX9_copyFrom_25 rfl ?_
  refine aw_getR K (c' := t + 15) dX9_copyFrom_26 lk_X9_46_9 (fd_To_15 ht) ?_
  refine aw_callSV K dX9_copyFrom_29 vw_X9_63 (c_f_To_copyRows l (a1 + 15) (kd_To_15 ha1) (t + 15) (kd_To_15 ht)) hg (by decide) rfl (Nat.le_of_ble_eq_true rfl) rfl rfl (fun _ σ4 _ => ?_)
  refine aw_aload_n K 0 dX9_copyFrom_32 rfl ?_
  refine aw_aload_n K 1 dX9_copyFrom_33 rfl ?_
  refine aw_getI K dX9_copyFrom_34 lk_X9_67_9 (fd_To_16 ha1) ?_
  refine aw_putI K dX9_copyFrom_37 lp_X9_67_9 (fd_To_16 ht) (fun σ5 => ?_)
  refine aw_aload_n K 1 dX9_copyFrom_40 rfl ?_
  refine aw_getR K (c' := a1 + 28) dX9_copyFrom_41 lk_X9_49_9 (fd_To_17 ha1) ?_
  refine aw_aload_n K 0 dX9_copyFrom_44 rfl ?_
  refine aw_getR K (c' := t + 28) dX9_copyFrom_45 lk_X9_49_9 (fd_To_17 ht) ?_
  refine aw_callSV K dX9_copyFrom_48 vw_X9_63 (c_f_To_copyRows_v1 l (a1 + 28) (kd_To_17 ha1) (t + 28) (kd_To_17 ht)) hg (by decide) rfl (Nat.le_of_ble_eq_true rfl) rfl rfl (fun _ σ6 _ => ?_)
  exact aw_vret dX9_copyFrom_51
set_option maxRecDepth 100000 in
set_option maxHeartbeats 4000000 in
theorem a_f_H_often_27 (l : Launch) {P : PT} {G : GT} (K : CX P G cX11_often RX11 (7) 4) (hg : gl G = l) : ∀ (n : Nat) (x1 : Int32) (x2 : Int32) (x3 : Int32) (σ : SG), AW P G 4 (EI P G cX11_often) (f_H_often_27 n x1 x2 x3 σ) σ 27 [(0, rf P 0), (1, .int x1), (2, .int x2), (3, .int x3)] [] := by
  intro n
  induction n with
  | zero =>
    intro x1 x2 x3 σ
    rw [f_H_often_27]
    exact aw_none
  | succ n ih =>
    intro x1 x2 x3 σ
    rw [f_H_often_27]
    refine aw_iload_n K 3 dX11_often_27 rfl ?_
    refine aw_iload_n K 1 dX11_often_28 rfl ?_
    refine aw_icmp_ge K 69 dX11_often_29 (by decide) (fun h_1 => ?_) (fun h_1 => ?_)
    · refine aw_iload_n K 2 dX11_often_69 rfl ?_
      exact aw_iret dX11_often_70
    · refine aw_aload_n K 0 dX11_often_32 rfl ?_
      refine aw_getR K (c' := 90) dX11_often_33 lk_X11_48_11 fd_0_4 ?_
      refine aw_aload_n K 0 dX11_often_36 rfl ?_
      refine aw_getR K (c' := 20) dX11_often_37 lk_X11_41_11 fd_0_1 ?_
      refine aw_callVV K dX11_often_40 vw_X11_218_9 (c_f_To_copyPlayFrom l 90 TW.c 20 TW.a) hg (by decide) ob_90 rfl (Nat.le_of_ble_eq_true rfl) rfl rfl (fun _ σ1 _ => ?_)
      refine aw_aload_n K 0 dX11_often_43 rfl ?_
      refine aw_getR K (c' := 90) dX11_often_44 lk_X11_48_11 fd_0_4 ?_
      refine aw_callVV K dX11_often_47 vw_X11_221_9 (c_f_To_runOut l 90 TW.c) hg (by decide) ob_90 rfl (Nat.le_of_ble_eq_true rfl) rfl rfl (fun _ σ2 _ => ?_)
      refine aw_aload_n K 0 dX11_often_50 rfl ?_
      refine aw_getR K (c' := 90) dX11_often_51 lk_X11_48_11 fd_0_4 ?_
      refine aw_callVI K dX11_often_54 vw_X11_224_9 (c_f_To_isDone l 90 TW.c) hg (by decide) ob_90 rfl (Nat.le_of_ble_eq_true rfl) rfl rfl (fun r4 σ3 _ => ?_)
      refine aw_if_eq K 63 dX11_often_57 (by decide) (fun h_2 => ?_) (fun h_2 => ?_)
      · refine aw_iinc K (lv' := fun y5 => [(3, .int y5), (0, rf P 0), (1, .int x1), (2, .int x2)]) 3 dX11_often_63 rfl ki_1 (Nat.le_of_ble_eq_true rfl) (fun _ => rfl) (fun y5 => ?_)
        refine aw_goto K 27 dX11_often_66 (by decide) ?_
        refine aw_lv [1, 2, 3, 0] rfl ?_
        exact ih _ _ _ _
      · refine aw_iinc K (lv' := fun y6 => [(2, .int y6), (0, rf P 0), (1, .int x1), (3, .int x3)]) 2 dX11_often_60 rfl ki_1 (Nat.le_of_ble_eq_true rfl) (fun _ => rfl) (fun y6 => ?_)
        refine aw_iinc K (lv' := fun y7 => [(3, .int y7), (2, .int y6), (0, rf P 0), (1, .int x1)]) 3 dX11_often_63 rfl ki_1 (Nat.le_of_ble_eq_true rfl) (fun _ => rfl) (fun y7 => ?_)
        refine aw_goto K 27 dX11_often_66 (by decide) ?_
        refine aw_lv [2, 3, 1, 0] rfl ?_
        exact ih _ _ _ _
set_option maxRecDepth 100000 in
set_option maxHeartbeats 4000000 in
theorem c_f_H_often (l : Launch) (x1 : Int32) : CTI l (7) yX11_often cX11_often 4 ((some .int)) (fun P => [rf P 0, .int x1]) (fun σ => f_H_often x1 σ) := by
  refine met_I rfl rfl rfl (fun P => Nat.le_of_ble_eq_true rfl) (fun P G K hg σ => ?_)
  change AW P G 4 (EI P G cX11_often) (f_H_often x1 σ) σ 0 [(0, rf P 0), (1, .int x1)] []
  rw [f_H_often]
  refine aw_iload_n K 1 dX11_often_0 rfl ?_
  refine aw_iconst K dX11_often_1 ki_1 ?_
  refine aw_bipush K dX11_often_2 kb_60 ?_
  refine aw_callSI K dX11_often_4 vw_X11_72 (c_f_H_isIn l _ _ _) hg (by decide) rfl (Nat.le_of_ble_eq_true rfl) rfl rfl (fun r2 σ1 _ => ?_)
  refine aw_if_ne K 12 dX11_often_7 (by decide) (fun h_1 => ?_) (fun h_1 => ?_)
  · refine aw_aload_n K 0 dX11_often_12 rfl ?_
    refine aw_getR K (c' := 90) dX11_often_13 lk_X11_48_11 fd_0_4 ?_
    refine aw_aload_n K 0 dX11_often_16 rfl ?_
    refine aw_getR K (c' := 20) dX11_often_17 lk_X11_41_11 fd_0_1 ?_
    refine aw_callVV K dX11_often_20 vw_X11_216_9 (c_f_To_copyFrom l 90 TW.c 20 TW.a) hg (by decide) ob_90 rfl (Nat.le_of_ble_eq_true rfl) rfl rfl (fun _ σ3 _ => ?_)
    refine aw_iconst K dX11_often_23 ki_0 ?_
    refine aw_istore_n K (i := 2) (lv' := [(2, .int (0 : Int32)), (0, rf P 0), (1, .int x1)]) dX11_often_24 rfl (Nat.le_of_ble_eq_true rfl) rfl ?_
    refine aw_iconst K dX11_often_25 ki_0 ?_
    refine aw_istore_n K (i := 3) (lv' := [(3, .int (0 : Int32)), (2, .int (0 : Int32)), (0, rf P 0), (1, .int x1)]) dX11_often_26 rfl (Nat.le_of_ble_eq_true rfl) rfl ?_
    refine aw_lv [2, 3, 1, 0] rfl ?_
    exact (a_f_H_often_27 l K hg FU) _ _ _ _
  · refine aw_iconst K dX11_often_10 ki_m1 ?_
    exact aw_iret dX11_often_11
set_option maxRecDepth 100000 in
set_option maxHeartbeats 4000000 in
theorem a_f_H_prove_40 (l : Launch) {P : PT} {G : GT} (K : CX P G cX11_prove RX11 (30) 3) (hg : gl G = l) : ∀ (n : Nat) (x1 : Int32) (x2 : Int32) (σ : SG), AW P G 3 (EI P G cX11_prove) (f_H_prove_40 n x1 x2 σ) σ 40 [(0, rf P 0), (1, .int x1), (2, .int x2)] [] := by
  intro n
  induction n with
  | zero =>
    intro x1 x2 σ
    rw [f_H_prove_40]
    exact aw_none
  | succ n ih =>
    intro x1 x2 σ
    rw [f_H_prove_40]
    refine aw_iload_n K 2 dX11_prove_40 rfl ?_
    refine aw_iload_n K 1 dX11_prove_41 rfl ?_
    refine aw_icmp_ge K 115 dX11_prove_42 (by decide) (fun h_1 => ?_) (fun h_1 => ?_)
    · refine aw_iload_n K 1 dX11_prove_115 rfl ?_
      exact aw_iret dX11_prove_116
    · refine aw_aload_n K 0 dX11_prove_45 rfl ?_
      refine aw_getR K (c' := 90) dX11_prove_46 lk_X11_48_11 fd_0_4 ?_
      refine aw_aload_n K 0 dX11_prove_49 rfl ?_
      refine aw_getR K (c' := 125) dX11_prove_50 lk_X11_56_11 fd_0_5 ?_
      refine aw_getR K (c' := 126) dX11_prove_53 lk_X11_175_8 fd_125_1 ?_
      refine aw_iload_n K 2 dX11_prove_56 rfl ?_
      refine aw_gd (fun h_2 => ?_)
      refine aw_ald K dX11_prove_57 ad_126 h_2 rfl ?_
      refine aw_callVI K dX11_prove_58 vw_X11_231_9 (c_f_To_step l 90 TW.c _) hg (by decide) ob_90 rfl (Nat.le_of_ble_eq_true rfl) rfl rfl (fun r2 σ1 _ => ?_)
      refine aw_pop K dX11_prove_61 rfl ?_
      refine aw_aload_n K 0 dX11_prove_62 rfl ?_
      refine aw_getR K (c' := 141) dX11_prove_63 lk_X11_69_11 fd_0_7 ?_
      refine aw_iload_n K 2 dX11_prove_66 rfl ?_
      refine aw_gd (fun h_3 => ?_)
      refine aw_aald K dX11_prove_67 rw_141.1 h_3 rfl ?_
      refine aw_iconst K dX11_prove_68 ki_0 ?_
      refine aw_aload_n K 0 dX11_prove_69 rfl ?_
      refine aw_getR K (c' := 125) dX11_prove_70 lk_X11_56_11 fd_0_5 ?_
      refine aw_getR K (c' := 126) dX11_prove_73 lk_X11_175_8 fd_125_1 ?_
      refine aw_iload_n K 2 dX11_prove_76 rfl ?_
      refine aw_gd (fun h_4 => ?_)
      refine aw_ald K dX11_prove_77 ad_126 h_4 rfl ?_
      refine aw_ast K dX11_prove_78 (rw_141.2 _ (ix_lt h_3)) (by decide) kn_0 (fun σ3 => ?_)
      refine aw_aload_n K 0 dX11_prove_79 rfl ?_
      refine aw_getR K (c' := 141) dX11_prove_80 lk_X11_69_11 fd_0_7 ?_
      refine aw_iload_n K 2 dX11_prove_83 rfl ?_
      refine aw_gd (fun h_5 => ?_)
      refine aw_aald K dX11_prove_84 rw_141.1 h_5 rfl ?_
      refine aw_iconst K dX11_prove_85 ki_1 ?_
      refine aw_aload_n K 0 dX11_prove_86 rfl ?_
      refine aw_getR K (c' := 90) dX11_prove_87 lk_X11_48_11 fd_0_4 ?_
      refine aw_callVI K dX11_prove_90 vw_X11_127_9 (c_f_To_coinsOfAll l 90 TW.c) hg (by decide) ob_90 rfl (Nat.le_of_ble_eq_true rfl) rfl rfl (fun r5 σ4 _ => ?_)
      refine aw_ast K dX11_prove_93 (rw_141.2 _ (ix_lt h_5)) (by decide) kn_1 (fun σ6 => ?_)
      refine aw_aload_n K 0 dX11_prove_94 rfl ?_
      refine aw_getR K (c' := 141) dX11_prove_95 lk_X11_69_11 fd_0_7 ?_
      refine aw_iload_n K 2 dX11_prove_98 rfl ?_
      refine aw_gd (fun h_6 => ?_)
      refine aw_aald K dX11_prove_99 rw_141.1 h_6 rfl ?_
      refine aw_iconst K dX11_prove_100 ki_2 ?_
      refine aw_aload_n K 0 dX11_prove_101 rfl ?_
      refine aw_getR K (c' := 90) dX11_prove_102 lk_X11_48_11 fd_0_4 ?_
      refine aw_getI K dX11_prove_105 lk_X11_111_9 fd_90_8 ?_
      refine aw_ast K dX11_prove_108 (rw_141.2 _ (ix_lt h_6)) (by decide) kn_2 (fun σ7 => ?_)
      refine aw_iinc K (lv' := fun y8 => [(2, .int y8), (0, rf P 0), (1, .int x1)]) 2 dX11_prove_109 rfl ki_1 (Nat.le_of_ble_eq_true rfl) (fun _ => rfl) (fun y8 => ?_)
      refine aw_goto K 40 dX11_prove_112 (by decide) ?_
      refine aw_lv [1, 2, 0] rfl ?_
      exact ih _ _ _
set_option maxRecDepth 100000 in
set_option maxHeartbeats 4000000 in
theorem c_f_H_prove (l : Launch) : CTI l (30) yX11_prove cX11_prove 3 ((some .int)) (fun P => [rf P 0]) (fun σ => f_H_prove σ) := by
  refine met_I rfl rfl rfl (fun P => Nat.le_of_ble_eq_true rfl) (fun P G K hg σ => ?_)
  change AW P G 3 (EI P G cX11_prove) (f_H_prove σ) σ 0 [(0, rf P 0)] []
  rw [f_H_prove]
  refine aw_aload_n K 0 dX11_prove_0 rfl ?_
  refine aw_getR K (c' := 125) dX11_prove_1 lk_X11_56_11 fd_0_5 ?_
  refine aw_aload_n K 0 dX11_prove_4 rfl ?_
  refine aw_getR K (c' := 20) dX11_prove_5 lk_X11_41_11 fd_0_1 ?_
  refine aw_iconst K dX11_prove_8 ki_0 ?_
  refine aw_bipush K dX11_prove_9 kb_6 ?_
  refine aw_callVI K dX11_prove_11 vw_X11_171_8 (c_f_Se_first l 20 TW.a _ _) hg (by decide) ob_125 rfl (Nat.le_of_ble_eq_true rfl) rfl rfl (fun r2 σ1 _ => ?_)
  refine aw_istore_n K (i := 1) (lv' := [(1, .int r2), (0, rf P 0)]) dX11_prove_14 rfl (Nat.le_of_ble_eq_true rfl) rfl ?_
  refine aw_iload_n K 0 dX11_prove_15 rfl ?_
  refine aw_if_ge K 22 dX11_prove_16 (by decide) (fun h_1 => ?_) (fun h_1 => ?_)
  · refine aw_aload_n K 1 dX11_prove_22 rfl ?_
    refine aw_getR K (c' := 90) dX11_prove_23 lk_X11_48_11 fd_0_4 ?_
    refine aw_aload_n K 1 dX11_prove_26 rfl ?_
    refine aw_getR K (c' := 20) dX11_prove_27 lk_X11_41_11 fd_0_1 ?_
    refine aw_callVV K dX11_prove_30 vw_X11_218_9 (c_f_To_copyPlayFrom l 90 TW.c 20 TW.a) hg (by decide) ob_90 rfl (Nat.le_of_ble_eq_true rfl) rfl rfl (fun _ σ3 _ => ?_)
    refine aw_aload_n K 1 dX11_prove_33 rfl ?_
    refine aw_iload_n K 0 dX11_prove_34 rfl ?_
    refine aw_putI K dX11_prove_35 lp_X11_228_11 fd_0_8 (fun σ4 => ?_)
    refine aw_iconst K dX11_prove_38 ki_0 ?_
    refine aw_istore_n K (i := 2) (lv' := [(2, .int (0 : Int32)), (1, .int r2), (0, rf P 0)]) dX11_prove_39 rfl (Nat.le_of_ble_eq_true rfl) rfl ?_
    refine aw_lv [2, 1, 0] rfl ?_
    exact (a_f_H_prove_40 l K hg FU) _ _ _
  · refine aw_bipush K dX11_prove_19 kb_m3 ?_
    exact aw_iret dX11_prove_21
set_option maxRecDepth 100000 in
set_option maxHeartbeats 4000000 in
theorem c_f_H_row (l : Launch) (x1 : Int32) (x2 : Int32) : CTI l (1) yX11_row cX11_row 3 ((some .int)) (fun P => [rf P 0, .int x1, .int x2]) (fun σ => f_H_row x1 x2 σ) := by
  refine met_I rfl rfl rfl (fun P => Nat.le_of_ble_eq_true rfl) (fun P G K hg σ => ?_)
  change AW P G 3 (EI P G cX11_row) (f_H_row x1 x2 σ) σ 0 [(0, rf P 0), (1, .int x1), (2, .int x2)] []
  rw [f_H_row]
  refine aw_iload_n K 1 dX11_row_0 rfl ?_
  refine aw_iconst K dX11_row_1 ki_0 ?_
  refine aw_aload_n K 0 dX11_row_2 rfl ?_
  refine aw_getI K dX11_row_3 lk_X11_228_11 fd_0_8 ?_
  refine aw_iconst K dX11_row_6 ki_1 ?_
  refine aw_isub K dX11_row_7 ?_
  refine aw_callSI K dX11_row_8 vw_X11_72 (c_f_H_isIn l _ _ _) hg (by decide) rfl (Nat.le_of_ble_eq_true rfl) rfl rfl (fun r2 σ1 _ => ?_)
  refine aw_if_eq K 34 dX11_row_11 (by decide) (fun h_1 => ?_) (fun h_1 => ?_)
  · refine aw_bipush K dX11_row_34 kb_m9 ?_
    exact aw_iret dX11_row_36
  · refine aw_iload_n K 2 dX11_row_14 rfl ?_
    refine aw_iconst K dX11_row_15 ki_0 ?_
    refine aw_iconst K dX11_row_16 ki_2 ?_
    refine aw_callSI K dX11_row_17 vw_X11_72 (c_f_H_isIn l _ _ _) hg (by decide) rfl (Nat.le_of_ble_eq_true rfl) rfl rfl (fun r4 σ3 _ => ?_)
    refine aw_if_eq K 34 dX11_row_20 (by decide) (fun h_2 => ?_) (fun h_2 => ?_)
    · refine aw_bipush K dX11_row_34 kb_m9 ?_
      exact aw_iret dX11_row_36
    · refine aw_aload_n K 0 dX11_row_23 rfl ?_
      refine aw_getR K (c' := 141) dX11_row_24 lk_X11_69_11 fd_0_7 ?_
      refine aw_iload_n K 1 dX11_row_27 rfl ?_
      refine aw_gd (fun h_3 => ?_)
      refine aw_aald K dX11_row_28 rw_141.1 h_3 rfl ?_
      refine aw_iload_n K 2 dX11_row_29 rfl ?_
      refine aw_gd (fun h_4 => ?_)
      refine aw_ald K dX11_row_30 (rw_141.2 _ (ix_lt h_3)) h_4 rfl ?_
      refine aw_goto K 36 dX11_row_31 (by decide) ?_
      exact aw_iret dX11_row_36
set_option maxRecDepth 100000 in
set_option maxHeartbeats 4000000 in
theorem c_f_H_alterRow (l : Launch) (x1 : Int32) (x2 : Int32) (x3 : Int32) : CTI l (1) yX11_alterRow cX11_alterRow 5 ((some .int)) (fun P => [rf P 0, .int x1, .int x2, .int x3]) (fun σ => f_H_alterRow x1 x2 x3 σ) := by
  refine met_I rfl rfl rfl (fun P => Nat.le_of_ble_eq_true rfl) (fun P G K hg σ => ?_)
  change AW P G 5 (EI P G cX11_alterRow) (f_H_alterRow x1 x2 x3 σ) σ 0 [(0, rf P 0), (1, .int x1), (2, .int x2), (3, .int x3)] []
  rw [f_H_alterRow]
  refine aw_iload_n K 1 dX11_alterRow_0 rfl ?_
  refine aw_iconst K dX11_alterRow_1 ki_0 ?_
  refine aw_aload_n K 0 dX11_alterRow_2 rfl ?_
  refine aw_getI K dX11_alterRow_3 lk_X11_228_11 fd_0_8 ?_
  refine aw_iconst K dX11_alterRow_6 ki_1 ?_
  refine aw_isub K dX11_alterRow_7 ?_
  refine aw_callSI K dX11_alterRow_8 vw_X11_72 (c_f_H_isIn l _ _ _) hg (by decide) rfl (Nat.le_of_ble_eq_true rfl) rfl rfl (fun r2 σ1 _ => ?_)
  refine aw_if_eq K 23 dX11_alterRow_11 (by decide) (fun h_1 => ?_) (fun h_1 => ?_)
  · refine aw_bipush K dX11_alterRow_23 kb_m9 ?_
    exact aw_iret dX11_alterRow_25
  · refine aw_iload_n K 2 dX11_alterRow_14 rfl ?_
    refine aw_iconst K dX11_alterRow_15 ki_0 ?_
    refine aw_iconst K dX11_alterRow_16 ki_2 ?_
    refine aw_callSI K dX11_alterRow_17 vw_X11_72 (c_f_H_isIn l _ _ _) hg (by decide) rfl (Nat.le_of_ble_eq_true rfl) rfl rfl (fun r4 σ3 _ => ?_)
    refine aw_if_ne K 26 dX11_alterRow_20 (by decide) (fun h_2 => ?_) (fun h_2 => ?_)
    · refine aw_aload_n K 0 dX11_alterRow_26 rfl ?_
      refine aw_getR K (c' := 141) dX11_alterRow_27 lk_X11_69_11 fd_0_7 ?_
      refine aw_iload_n K 1 dX11_alterRow_30 rfl ?_
      refine aw_gd (fun h_3 => ?_)
      refine aw_aald K dX11_alterRow_31 rw_141.1 h_3 rfl ?_
      refine aw_iload_n K 2 dX11_alterRow_32 rfl ?_
      refine aw_gd (fun h_4 => ?_)
      refine aw_ald K dX11_alterRow_33 (rw_141.2 _ (ix_lt h_3)) h_4 rfl ?_
      refine aw_istoreX K (i := 4) (lv' := fun y5 => [(4, .int y5), (0, rf P 0), (1, .int x1), (2, .int x2), (3, .int x3)]) dX11_alterRow_34 (Nat.le_of_ble_eq_true rfl) (fun _ => rfl) (fun y5 => ?_)
      refine aw_aload_n K 1 dX11_alterRow_36 rfl ?_
      refine aw_getR K (c' := 141) dX11_alterRow_37 lk_X11_69_11 fd_0_7 ?_
      refine aw_iload_n K 2 dX11_alterRow_40 rfl ?_
      refine aw_gd (fun h_5 => ?_)
      refine aw_aald K dX11_alterRow_41 rw_141.1 h_5 rfl ?_
      refine aw_iload_n K 3 dX11_alterRow_42 rfl ?_
      refine aw_iload_n K 4 dX11_alterRow_43 rfl ?_
      refine aw_gd (fun h_6 => ?_)
      refine aw_ast K dX11_alterRow_44 (rw_141.2 _ (ix_lt h_5)) h_6 rfl (fun σ6 => ?_)
      refine aw_iload K 0 dX11_alterRow_45 rfl ?_
      exact aw_iret dX11_alterRow_47
    · refine aw_bipush K dX11_alterRow_23 kb_m9 ?_
      exact aw_iret dX11_alterRow_25
set_option maxRecDepth 100000 in
set_option maxHeartbeats 4000000 in
theorem a_f_H_judge_100 (l : Launch) {P : PT} {G : GT} (K : CX P G cX11_judge RX11 (4) 3) (hg : gl G = l) {K13 : Int32 → SG → Option (Int32 × SG)} (hK13 : ∀ (x1 : Int32) (σ : SG), AW P G 3 (EI P G cX11_judge) (K13 x1 σ) σ 13 [(0, rf P 0), (1, .int x1)] []) : ∀ (x1 : Int32) (xs0 : Int32) (σ : SG), AW P G 3 (EI P G cX11_judge) (f_H_judge_100 K13 x1 xs0 σ) σ 100 [(0, rf P 0), (1, .int x1)] [.int xs0] := by
  intro x1 xs0 σ
  rw [f_H_judge_100]
  refine aw_istore_n K (i := 2) (lv' := [(2, .int xs0), (0, rf P 0), (1, .int x1)]) dX11_judge_100 rfl (Nat.le_of_ble_eq_true rfl) rfl ?_
  refine aw_iload_n K 0 dX11_judge_101 rfl ?_
  refine aw_if_eq K 125 dX11_judge_102 (by decide) (fun h_1 => ?_) (fun h_1 => ?_)
  · refine aw_iload_n K 2 dX11_judge_125 rfl ?_
    refine aw_iconst K dX11_judge_126 ki_1 ?_
    refine aw_iadd K dX11_judge_127 ?_
    exact aw_iret dX11_judge_128
  · refine aw_iload_n K 2 dX11_judge_105 rfl ?_
    refine aw_aload_n K 1 dX11_judge_106 rfl ?_
    refine aw_getI K dX11_judge_107 lk_X11_228_11 fd_0_8 ?_
    refine aw_iconst K dX11_judge_110 ki_1 ?_
    refine aw_isub K dX11_judge_111 ?_
    refine aw_icmp_ne K 129 dX11_judge_112 (by decide) (fun h_2 => ?_) (fun h_2 => ?_)
    · refine aw_iinc K (lv' := fun y1 => [(1, .int y1), (2, .int xs0), (0, rf P 0)]) 2 dX11_judge_129 rfl ki_1 (Nat.le_of_ble_eq_true rfl) (fun _ => rfl) (fun y1 => ?_)
      refine aw_goto K 13 dX11_judge_132 (by decide) ?_
      refine aw_lv [2, 0] rfl ?_
      exact hK13 _ _
    · refine aw_aload_n K 1 dX11_judge_115 rfl ?_
      refine aw_getR K (c' := 90) dX11_judge_116 lk_X11_48_11 fd_0_4 ?_
      refine aw_callVI K dX11_judge_119 vw_X11_224_9 (c_f_To_isDone l 90 TW.c) hg (by decide) ob_90 rfl (Nat.le_of_ble_eq_true rfl) rfl rfl (fun r3 σ2 _ => ?_)
      refine aw_if_ne K 129 dX11_judge_122 (by decide) (fun h_3 => ?_) (fun h_3 => ?_)
      · refine aw_iinc K (lv' := fun y4 => [(1, .int y4), (2, .int xs0), (0, rf P 0)]) 2 dX11_judge_129 rfl ki_1 (Nat.le_of_ble_eq_true rfl) (fun _ => rfl) (fun y4 => ?_)
        refine aw_goto K 13 dX11_judge_132 (by decide) ?_
        refine aw_lv [2, 0] rfl ?_
        exact hK13 _ _
      · refine aw_iload_n K 2 dX11_judge_125 rfl ?_
        refine aw_iconst K dX11_judge_126 ki_1 ?_
        refine aw_iadd K dX11_judge_127 ?_
        exact aw_iret dX11_judge_128
set_option maxRecDepth 100000 in
set_option maxHeartbeats 4000000 in
theorem a_f_H_judge_13 (l : Launch) {P : PT} {G : GT} (K : CX P G cX11_judge RX11 (4) 3) (hg : gl G = l) : ∀ (n : Nat) (x1 : Int32) (σ : SG), AW P G 3 (EI P G cX11_judge) (f_H_judge_13 n x1 σ) σ 13 [(0, rf P 0), (1, .int x1)] [] := by
  intro n
  induction n with
  | zero =>
    intro x1 σ
    rw [f_H_judge_13]
    exact aw_none
  | succ n ih =>
    intro x1 σ
    rw [f_H_judge_13]
    refine aw_iload_n K 1 dX11_judge_13 rfl ?_
    refine aw_aload_n K 0 dX11_judge_14 rfl ?_
    refine aw_getI K dX11_judge_15 lk_X11_228_11 fd_0_8 ?_
    refine aw_icmp_ge K 135 dX11_judge_18 (by decide) (fun h_1 => ?_) (fun h_1 => ?_)
    · refine aw_iconst K dX11_judge_135 ki_0 ?_
      exact aw_iret dX11_judge_136
    · refine aw_aload_n K 0 dX11_judge_21 rfl ?_
      refine aw_getR K (c' := 90) dX11_judge_22 lk_X11_48_11 fd_0_4 ?_
      refine aw_aload_n K 0 dX11_judge_25 rfl ?_
      refine aw_getR K (c' := 141) dX11_judge_26 lk_X11_69_11 fd_0_7 ?_
      refine aw_iload_n K 1 dX11_judge_29 rfl ?_
      refine aw_gd (fun h_2 => ?_)
      refine aw_aald K dX11_judge_30 rw_141.1 h_2 rfl ?_
      refine aw_iconst K dX11_judge_31 ki_0 ?_
      refine aw_ald K dX11_judge_32 (rw_141.2 _ (ix_lt h_2)) (by decide) kn_0 ?_
      refine aw_callVI K dX11_judge_33 vw_X11_162_9 (c_f_To_canBe l 90 TW.c _) hg (by decide) ob_90 rfl (Nat.le_of_ble_eq_true rfl) rfl rfl (fun r2 σ1 _ => ?_)
      refine aw_if_ne K 43 dX11_judge_36 (by decide) (fun h_3 => ?_) (fun h_3 => ?_)
      · refine aw_aload_n K 0 dX11_judge_43 rfl ?_
        refine aw_getR K (c' := 90) dX11_judge_44 lk_X11_48_11 fd_0_4 ?_
        refine aw_aload_n K 0 dX11_judge_47 rfl ?_
        refine aw_getR K (c' := 141) dX11_judge_48 lk_X11_69_11 fd_0_7 ?_
        refine aw_iload_n K 1 dX11_judge_51 rfl ?_
        refine aw_gd (fun h_4 => ?_)
        refine aw_aald K dX11_judge_52 rw_141.1 h_4 rfl ?_
        refine aw_iconst K dX11_judge_53 ki_0 ?_
        refine aw_ald K dX11_judge_54 (rw_141.2 _ (ix_lt h_4)) (by decide) kn_0 ?_
        refine aw_callVI K dX11_judge_55 vw_X11_231_9 (c_f_To_step l 90 TW.c _) hg (by decide) ob_90 rfl (Nat.le_of_ble_eq_true rfl) rfl rfl (fun r4 σ3 _ => ?_)
        refine aw_pop K dX11_judge_58 rfl ?_
        refine aw_aload_n K 0 dX11_judge_59 rfl ?_
        refine aw_getR K (c' := 141) dX11_judge_60 lk_X11_69_11 fd_0_7 ?_
        refine aw_iload_n K 1 dX11_judge_63 rfl ?_
        refine aw_gd (fun h_5 => ?_)
        refine aw_aald K dX11_judge_64 rw_141.1 h_5 rfl ?_
        refine aw_iconst K dX11_judge_65 ki_1 ?_
        refine aw_ald K dX11_judge_66 (rw_141.2 _ (ix_lt h_5)) (by decide) kn_1 ?_
        refine aw_aload_n K 0 dX11_judge_67 rfl ?_
        refine aw_getR K (c' := 90) dX11_judge_68 lk_X11_48_11 fd_0_4 ?_
        refine aw_callVI K dX11_judge_71 vw_X11_127_9 (c_f_To_coinsOfAll l 90 TW.c) hg (by decide) ob_90 rfl (Nat.le_of_ble_eq_true rfl) rfl rfl (fun r6 σ5 _ => ?_)
        refine aw_icmp_ne K 99 dX11_judge_74 (by decide) (fun h_6 => ?_) (fun h_6 => ?_)
        · refine aw_iconst K dX11_judge_99 ki_0 ?_
          refine aw_lv [0, 1] rfl ?_
          exact (a_f_H_judge_100 l K hg ih) _ _ _
        · refine aw_aload_n K 0 dX11_judge_77 rfl ?_
          refine aw_getR K (c' := 141) dX11_judge_78 lk_X11_69_11 fd_0_7 ?_
          refine aw_iload_n K 1 dX11_judge_81 rfl ?_
          refine aw_gd (fun h_7 => ?_)
          refine aw_aald K dX11_judge_82 rw_141.1 h_7 rfl ?_
          refine aw_iconst K dX11_judge_83 ki_2 ?_
          refine aw_ald K dX11_judge_84 (rw_141.2 _ (ix_lt h_7)) (by decide) kn_2 ?_
          refine aw_aload_n K 0 dX11_judge_85 rfl ?_
          refine aw_getR K (c' := 90) dX11_judge_86 lk_X11_48_11 fd_0_4 ?_
          refine aw_getI K dX11_judge_89 lk_X11_111_9 fd_90_8 ?_
          refine aw_icmp_ne K 99 dX11_judge_92 (by decide) (fun h_8 => ?_) (fun h_8 => ?_)
          · refine aw_iconst K dX11_judge_99 ki_0 ?_
            refine aw_lv [0, 1] rfl ?_
            exact (a_f_H_judge_100 l K hg ih) _ _ _
          · refine aw_iconst K dX11_judge_95 ki_1 ?_
            refine aw_goto K 100 dX11_judge_96 (by decide) ?_
            refine aw_lv [0, 1] rfl ?_
            exact (a_f_H_judge_100 l K hg ih) _ _ _
      · refine aw_iload_n K 1 dX11_judge_39 rfl ?_
        refine aw_iconst K dX11_judge_40 ki_1 ?_
        refine aw_iadd K dX11_judge_41 ?_
        exact aw_iret dX11_judge_42
set_option maxRecDepth 100000 in
set_option maxHeartbeats 4000000 in
theorem c_f_H_judge (l : Launch) : CTI l (4) yX11_judge cX11_judge 3 ((some .int)) (fun P => [rf P 0]) (fun σ => f_H_judge σ) := by
  refine met_I rfl rfl rfl (fun P => Nat.le_of_ble_eq_true rfl) (fun P G K hg σ => ?_)
  change AW P G 3 (EI P G cX11_judge) (f_H_judge σ) σ 0 [(0, rf P 0)] []
  rw [f_H_judge]
  refine aw_aload_n K 0 dX11_judge_0 rfl ?_
  refine aw_getR K (c' := 90) dX11_judge_1 lk_X11_48_11 fd_0_4 ?_
  refine aw_aload_n K 0 dX11_judge_4 rfl ?_
  refine aw_getR K (c' := 20) dX11_judge_5 lk_X11_41_11 fd_0_1 ?_
  refine aw_callVV K dX11_judge_8 vw_X11_218_9 (c_f_To_copyPlayFrom l 90 TW.c 20 TW.a) hg (by decide) ob_90 rfl (Nat.le_of_ble_eq_true rfl) rfl rfl (fun _ σ1 _ => ?_)
  refine aw_iconst K dX11_judge_11 ki_0 ?_
  refine aw_istore_n K (i := 1) (lv' := [(1, .int (0 : Int32)), (0, rf P 0)]) dX11_judge_12 rfl (Nat.le_of_ble_eq_true rfl) rfl ?_
  refine aw_lv [1, 0] rfl ?_
  exact (a_f_H_judge_13 l K hg FU) _ _
