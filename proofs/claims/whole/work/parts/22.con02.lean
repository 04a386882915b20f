set_option maxRecDepth 100000 in
set_option maxHeartbeats 4000000 in
theorem a_f_To_enter_49 (l : Launch) (t : Nat) (ht : TW t) {P : PT} {G : GT} (K : CX P G cX9_enter RX9 (4) 5) (hg : gl G = l) : ∀ (x1 : Int32) (σ : SG), AW P G 5 (EI P G cX9_enter) (f_To_enter_49 t x1 σ) σ 49 [(0, rf P t), (1, .int x1)] [] := by
  intro x1 σ
  rw [f_To_enter_49]
  refine aw_iload_n K 1 dX9_enter_49 rfl ?_
  refine aw_bipush K dX9_enter_50 kb_10 ?_
  refine aw_idiv K dX9_enter_52 (by decide) ?_
  refine aw_istoreX_n K (i := 2) (lv' := fun y1 => [(2, .int y1), (0, rf P t), (1, .int x1)]) dX9_enter_53 rfl (Nat.le_of_ble_eq_true rfl) (fun _ => rfl) (fun y1 => ?_)
  refine aw_aload_n K 1 dX9_enter_54 rfl ?_
  refine aw_getR K (c' := t + 15) dX9_enter_55 lk_X9_46_9 (fd_To_15 ht) ?_
  refine aw_aload_n K 1 dX9_enter_58 rfl ?_
  refine aw_getI K dX9_enter_59 lk_X9_60_9 (fd_To_14 ht) ?_
  refine aw_gd (fun h_1 => ?_)
  refine aw_aald K dX9_enter_62 (kd_To_15 ht).1 h_1 rfl ?_
  refine aw_astore_n K (i := 3) (lv' := [(3, rf P (t + 15 + 1 + nx (σ.1 t 14))), (2, .int y1), (0, rf P t), (1, .int x1)]) dX9_enter_63 rfl (Nat.le_of_ble_eq_true rfl) rfl ?_
  refine aw_aload_n K 2 dX9_enter_64 rfl ?_
  refine aw_dup K dX9_enter_65 rfl ?_
  refine aw_getI K dX9_enter_66 lk_X9_60_9 (fd_To_14 ht) ?_
  refine aw_iconst K dX9_enter_69 ki_1 ?_
  refine aw_iadd K dX9_enter_70 ?_
  refine aw_putI K dX9_enter_71 lp_X9_60_9 (fd_To_14 ht) (fun σ2 => ?_)
  refine aw_aload_n K 0 dX9_enter_74 rfl ?_
  refine aw_iconst K dX9_enter_75 ki_0 ?_
  refine aw_iload_n K 3 dX9_enter_76 rfl ?_
  refine aw_ast K dX9_enter_77 ((kd_To_15 ht).2 _ (ix_lt h_1)) (by decide) kn_0 (fun σ3 => ?_)
  refine aw_aload_n K 0 dX9_enter_78 rfl ?_
  refine aw_iconst K dX9_enter_79 ki_1 ?_
  refine aw_aload_n K 2 dX9_enter_80 rfl ?_
  refine aw_getR K (c' := t + 9) dX9_enter_81 lk_X9_22_9 (fd_To_4 ht) ?_
  refine aw_iload_n K 1 dX9_enter_84 rfl ?_
  refine aw_gd (fun h_2 => ?_)
  refine aw_ald K dX9_enter_85 (kd_To_4 ht) h_2 rfl ?_
  refine aw_ast K dX9_enter_86 ((kd_To_15 ht).2 _ (ix_lt h_1)) (by decide) kn_1 (fun σ4 => ?_)
  refine aw_aload_n K 2 dX9_enter_87 rfl ?_
  refine aw_iload_n K 3 dX9_enter_88 rfl ?_
  refine aw_callVI K dX9_enter_89 vw_X9_133_9 (c_f_To_step l t ht _) hg (by decide) (ob_To ht) rfl (Nat.le_of_ble_eq_true rfl) rfl rfl (fun r6 σ5 _ => ?_)
  refine aw_istore K (i := 4) (lv' := [(4, .int r6), (3, rf P (t + 15 + 1 + nx (σ.1 t 14))), (2, .int y1), (0, rf P t), (1, .int x1)]) dX9_enter_92 (Nat.le_of_ble_eq_true rfl) rfl ?_
  refine aw_aload_n K 1 dX9_enter_94 rfl ?_
  refine aw_iconst K dX9_enter_95 ki_2 ?_
  refine aw_aload_n K 3 dX9_enter_96 rfl ?_
  refine aw_getR K (c' := t + 9) dX9_enter_97 lk_X9_22_9 (fd_To_4 ht) ?_
  refine aw_iload_n K 2 dX9_enter_100 rfl ?_
  refine aw_gd (fun h_3 => ?_)
  refine aw_ald K dX9_enter_101 (kd_To_4 ht) h_3 rfl ?_
  refine aw_ast K dX9_enter_102 ((kd_To_15 ht).2 _ (ix_lt h_1)) (by decide) kn_2 (fun σ7 => ?_)
  refine aw_iload K 0 dX9_enter_103 rfl ?_
  exact aw_iret dX9_enter_105
set_option maxRecDepth 100000 in
set_option maxHeartbeats 4000000 in
theorem a_f_To_enter_11 (l : Launch) (t : Nat) (ht : TW t) {P : PT} {G : GT} (K : CX P G cX9_enter RX9 (4) 5) (hg : gl G = l) {K49 : Int32 → SG → Option (Int32 × SG)} (hK49 : ∀ (x1 : Int32) (σ : SG), AW P G 5 (EI P G cX9_enter) (K49 x1 σ) σ 49 [(0, rf P t), (1, .int x1)] []) : ∀ (n : Nat) (x1 : Int32) (x2 : Int32) (σ : SG), AW P G 5 (EI P G cX9_enter) (f_To_enter_11 t K49 n x1 x2 σ) σ 11 [(0, rf P t), (1, .int x1), (2, .int x2)] [] := by
  intro n
  induction n with
  | zero =>
    intro x1 x2 σ
    rw [f_To_enter_11]
    exact aw_none
  | succ n ih =>
    intro x1 x2 σ
    rw [f_To_enter_11]
    refine aw_iload_n K 2 dX9_enter_11 rfl ?_
    refine aw_bipush K dX9_enter_12 kb_12 ?_
    refine aw_icmp_ge K 43 dX9_enter_14 (by decide) (fun h_1 => ?_) (fun h_1 => ?_)
    · refine aw_aload_n K 0 dX9_enter_43 rfl ?_
      refine aw_bipush K dX9_enter_44 kb_11 ?_
      refine aw_putI K dX9_enter_46 lp_X9_60_9 (fd_To_14 ht) (fun σ1 => ?_)
      refine aw_lv [0, 1] rfl ?_
      exact hK49 _ _
    · refine aw_aload_n K 0 dX9_enter_17 rfl ?_
      refine aw_getR K (c' := t + 15) dX9_enter_18 lk_X9_46_9 (fd_To_15 ht) ?_
      refine aw_iload_n K 2 dX9_enter_21 rfl ?_
      refine aw_gd (fun h_2 => ?_)
      refine aw_aald K dX9_enter_22 (kd_To_15 ht).1 h_2 rfl ?_
      refine aw_iconst K dX9_enter_23 ki_0 ?_
      refine aw_aload_n K 0 dX9_enter_24 rfl ?_
      refine aw_getR K (c' := t + 15) dX9_enter_25 lk_X9_46_9 (fd_To_15 ht) ?_
      refine aw_iload_n K 2 dX9_enter_28 rfl ?_
      refine aw_iconst K dX9_enter_29 ki_1 ?_
      refine aw_isub K dX9_enter_30 ?_
      refine aw_gd (fun h_3 => ?_)
      refine aw_aald K dX9_enter_31 (kd_To_15 ht).1 h_3 rfl ?_
      refine aw_iconst K dX9_enter_32 ki_0 ?_
      refine aw_iconst K dX9_enter_33 ki_3 ?_
      refine aw_gd (fun h_4 => ?_)
      refine aw_copy K dX9_enter_34 (by decide) (in_r30 _ (List.mem_of_getElem? (i := 15) rfl)) (in_r24 _ (List.mem_of_getElem? (i := 4) rfl)) (in_r24 _ (List.mem_of_getElem? (i := 5) rfl)) (in_r24 _ (List.mem_of_getElem? (i := 6) rfl)) (Nat.le_of_ble_eq_true rfl) ((kd_To_15 ht).2 _ (ix_lt h_2)) ((kd_To_15 ht).2 _ (ix_lt h_3)) h_4 (fun σ2 => ?_)
      refine aw_iinc K (lv' := fun y3 => [(2, .int y3), (0, rf P t), (1, .int x1)]) 2 dX9_enter_37 rfl ki_1 (Nat.le_of_ble_eq_true rfl) (fun _ => rfl) (fun y3 => ?_)
      refine aw_goto K 11 dX9_enter_40 (by decide) ?_
      refine aw_lv [1, 2, 0] rfl ?_
      exact ih _ _ _
set_option maxRecDepth 100000 in
set_option maxHeartbeats 4000000 in
theorem c_f_To_enter (l : Launch) (t : Nat) (ht : TW t) (x1 : Int32) : CTI l (4) yX9_enter cX9_enter 5 ((some .int)) (fun P => [rf P t, .int x1]) (fun σ => f_To_enter t x1 σ) := by
  refine met_I rfl rfl rfl (fun P => Nat.le_of_ble_eq_true rfl) (fun P G K hg σ => ?_)
  change AW P G 5 (EI P G cX9_enter) (f_To_enter t x1 σ) σ 0 [(0, rf P t), (1, .int x1)] []
  rw [f_To_enter]
  refine aw_aload_n K 0 dX9_enter_0 rfl ?_
  refine aw_getI K dX9_enter_1 lk_X9_60_9 (fd_To_14 ht) ?_
  refine aw_bipush K dX9_enter_4 kb_12 ?_
  refine aw_icmp_lt K 49 dX9_enter_6 (by decide) (fun h_1 => ?_) (fun h_1 => ?_)
  · refine aw_lv [0, 1] rfl ?_
    exact (a_f_To_enter_49 l t ht K hg) _ _
  · refine aw_iconst K dX9_enter_9 ki_1 ?_
    refine aw_istore_n K (i := 2) (lv' := [(2, .int (1 : Int32)), (0, rf P t), (1, .int x1)]) dX9_enter_10 rfl (Nat.le_of_ble_eq_true rfl) rfl ?_
    refine aw_lv [1, 2, 0] rfl ?_
    exact (a_f_To_enter_11 l t ht K hg (a_f_To_enter_49 l t ht K hg) FU) _ _ _
set_option maxRecDepth 100000 in
set_option maxHeartbeats 4000000 in
theorem a_f_H_make_35 (l : Launch) {P : PT} {G : GT} (K : CX P G cX11_make RX11 (5) 4) (hg : gl G = l) : ∀ (x1 : Int32) (x2 : Int32) (σ : SG), AW P G 4 (EI P G cX11_make) (f_H_make_35 x1 x2 σ) σ 35 [(0, rf P 0), (1, .int x1), (2, .int x2)] [] := by
  intro x1 x2 σ
  rw [f_H_make_35]
  refine aw_bipush K dX11_make_35 kb_10 ?_
  refine aw_iload_n K 1 dX11_make_37 rfl ?_
  refine aw_imul K dX11_make_38 ?_
  refine aw_iload_n K 2 dX11_make_39 rfl ?_
  refine aw_iadd K dX11_make_40 ?_
  refine aw_istoreX_n K (i := 3) (lv' := fun y1 => [(3, .int y1), (0, rf P 0), (1, .int x1), (2, .int x2)]) dX11_make_41 rfl (Nat.le_of_ble_eq_true rfl) (fun _ => rfl) (fun y1 => ?_)
  refine aw_aload_n K 1 dX11_make_42 rfl ?_
  refine aw_getR K (c' := 20) dX11_make_43 lk_X11_41_11 fd_0_1 ?_
  refine aw_iload_n K 0 dX11_make_46 rfl ?_
  refine aw_callVI K dX11_make_47 vw_X11_162_9 (c_f_To_canBe l 20 TW.a _) hg (by decide) ob_20 rfl (Nat.le_of_ble_eq_true rfl) rfl rfl (fun r3 σ2 _ => ?_)
  refine aw_if_eq K 64 dX11_make_50 (by decide) (fun h_1 => ?_) (fun h_1 => ?_)
  · refine aw_bipush K dX11_make_64 kb_m4 ?_
    exact aw_iret dX11_make_66
  · refine aw_aload_n K 1 dX11_make_53 rfl ?_
    refine aw_getR K (c' := 20) dX11_make_54 lk_X11_41_11 fd_0_1 ?_
    refine aw_iload_n K 0 dX11_make_57 rfl ?_
    refine aw_callVI K dX11_make_58 vw_X11_165_9 (c_f_To_enter l 20 TW.a _) hg (by decide) ob_20 rfl (Nat.le_of_ble_eq_true rfl) rfl rfl (fun r5 σ4 _ => ?_)
    refine aw_goto K 66 dX11_make_61 (by decide) ?_
    exact aw_iret dX11_make_66
set_option maxRecDepth 100000 in
set_option maxHeartbeats 4000000 in
theorem c_f_H_make (l : Launch) (x1 : Int32) (x2 : Int32) : CTI l (5) yX11_make cX11_make 4 ((some .int)) (fun P => [rf P 0, .int x1, .int x2]) (fun σ => f_H_make x1 x2 σ) := by
  refine met_I rfl rfl rfl (fun P => Nat.le_of_ble_eq_true rfl) (fun P G K hg σ => ?_)
  change AW P G 4 (EI P G cX11_make) (f_H_make x1 x2 σ) σ 0 [(0, rf P 0), (1, .int x1), (2, .int x2)] []
  rw [f_H_make]
  refine aw_aload_n K 0 dX11_make_0 rfl ?_
  refine aw_getR K (c' := 20) dX11_make_1 lk_X11_41_11 fd_0_1 ?_
  refine aw_iload_n K 1 dX11_make_4 rfl ?_
  refine aw_callVI K dX11_make_5 vw_X11_104_9 (c_f_To_isPerson l 20 TW.a _) hg (by decide) ob_20 rfl (Nat.le_of_ble_eq_true rfl) rfl rfl (fun r2 σ1 _ => ?_)
  refine aw_if_eq K 33 dX11_make_8 (by decide) (fun h_1 => ?_) (fun h_1 => ?_)
  · refine aw_iconst K dX11_make_33 ki_m1 ?_
    exact aw_iret dX11_make_34
  · refine aw_iload_n K 2 dX11_make_11 rfl ?_
    refine aw_bipush K dX11_make_12 kb_9 ?_
    refine aw_icmp_eq K 35 dX11_make_14 (by decide) (fun h_2 => ?_) (fun h_2 => ?_)
    · refine aw_lv [0, 1, 2] rfl ?_
      exact (a_f_H_make_35 l K hg) _ _ _
    · refine aw_iload_n K 2 dX11_make_17 rfl ?_
      refine aw_iload_n K 1 dX11_make_18 rfl ?_
      refine aw_icmp_le K 33 dX11_make_19 (by decide) (fun h_3 => ?_) (fun h_3 => ?_)
      · refine aw_iconst K dX11_make_33 ki_m1 ?_
        exact aw_iret dX11_make_34
      · refine aw_aload_n K 0 dX11_make_22 rfl ?_
        refine aw_getR K (c' := 20) dX11_make_23 lk_X11_41_11 fd_0_1 ?_
        refine aw_iload_n K 2 dX11_make_26 rfl ?_
        refine aw_callVI K dX11_make_27 vw_X11_104_9 (c_f_To_isPerson l 20 TW.a _) hg (by decide) ob_20 rfl (Nat.le_of_ble_eq_true rfl) rfl rfl (fun r4 σ3 _ => ?_)
        refine aw_if_ne K 35 dX11_make_30 (by decide) (fun h_4 => ?_) (fun h_4 => ?_)
        · refine aw_lv [0, 1, 2] rfl ?_
          exact (a_f_H_make_35 l K hg) _ _ _
        · refine aw_iconst K dX11_make_33 ki_m1 ?_
          exact aw_iret dX11_make_34
set_option maxRecDepth 100000 in
set_option maxHeartbeats 4000000 in
theorem c_f_To_stepBack (l : Launch) (t : Nat) (ht : TW t) (x1 : Int32) (x2 : Int32) (x3 : Int32) : CTV l (2) yX9_stepBack cX9_stepBack 6 (none) (fun P => [rf P t, .int x1, .int x2, .int x3]) (fun σ => f_To_stepBack t x1 x2 x3 σ) := by
  refine met_V rfl rfl rfl (fun P => Nat.le_of_ble_eq_true rfl) (fun P G K hg σ => ?_)
  change AW P G 6 (EV P G cX9_stepBack) (f_To_stepBack t x1 x2 x3 σ) σ 0 [(0, rf P t), (1, .int x1), (2, .int x2), (3, .int x3)] []
  rw [f_To_stepBack]
  refine aw_iload_n K 1 dX9_stepBack_0 rfl ?_
  refine aw_bipush K dX9_stepBack_1 kb_10 ?_
  refine aw_idiv K dX9_stepBack_3 (by decide) ?_
  refine aw_istoreX K (i := 4) (lv' := fun y1 => [(4, .int y1), (0, rf P t), (1, .int x1), (2, .int x2), (3, .int x3)]) dX9_stepBack_4 (Nat.le_of_ble_eq_true rfl) (fun _ => rfl) (fun y1 => ?_)
  refine aw_iload_n K 2 dX9_stepBack_6 rfl ?_
  refine aw_bipush K dX9_stepBack_7 kb_10 ?_
  refine aw_irem K dX9_stepBack_9 (by decide) ?_
  refine aw_istoreX K (i := 5) (lv' := fun y2 => [(5, .int y2), (4, .int y1), (0, rf P t), (1, .int x1), (2, .int x2), (3, .int x3)]) dX9_stepBack_10 (Nat.le_of_ble_eq_true rfl) (fun _ => rfl) (fun y2 => ?_)
  refine aw_iload K 0 dX9_stepBack_12 rfl ?_
  refine aw_bipush K dX9_stepBack_14 kb_9 ?_
  refine aw_icmp_eq K 28 dX9_stepBack_16 (by decide) (fun h_1 => ?_) (fun h_1 => ?_)
  · refine aw_aload_n K 2 dX9_stepBack_28 rfl ?_
    refine aw_getR K (c' := t + 11) dX9_stepBack_29 lk_X9_28_9 (fd_To_6 ht) ?_
    refine aw_iload K 1 dX9_stepBack_32 rfl ?_
    refine aw_dup2_11 K dX9_stepBack_34 rfl rfl ?_
    refine aw_gd (fun h_2 => ?_)
    refine aw_ald K dX9_stepBack_35 (kd_To_6 ht) h_2 rfl ?_
    refine aw_iload_n K 5 dX9_stepBack_36 rfl ?_
    refine aw_iadd K dX9_stepBack_37 ?_
    refine aw_gd (fun h_3 => ?_)
    refine aw_ast K dX9_stepBack_38 (kd_To_6 ht) h_3 rfl (fun σ3 => ?_)
    refine aw_aload_n K 2 dX9_stepBack_39 rfl ?_
    refine aw_getR K (c' := t + 14) dX9_stepBack_40 lk_X9_37_9 (fd_To_11 ht) ?_
    refine aw_aload_n K 2 dX9_stepBack_43 rfl ?_
    refine aw_getR K (c' := t + 9) dX9_stepBack_44 lk_X9_22_9 (fd_To_4 ht) ?_
    refine aw_iload K 1 dX9_stepBack_47 rfl ?_
    refine aw_gd (fun h_4 => ?_)
    refine aw_ald K dX9_stepBack_49 (kd_To_4 ht) h_4 rfl ?_
    refine aw_dup2_11 K dX9_stepBack_50 rfl rfl ?_
    refine aw_gd (fun h_5 => ?_)
    refine aw_ald K dX9_stepBack_51 (kd_To_11 ht) h_5 rfl ?_
    refine aw_iconst K dX9_stepBack_52 ki_1 ?_
    refine aw_iadd K dX9_stepBack_53 ?_
    refine aw_gd (fun h_6 => ?_)
    refine aw_ast K dX9_stepBack_54 (kd_To_11 ht) h_6 rfl (fun σ4 => ?_)
    refine aw_aload_n K 2 dX9_stepBack_55 rfl ?_
    refine aw_getR K (c' := t + 14) dX9_stepBack_56 lk_X9_37_9 (fd_To_11 ht) ?_
    refine aw_iload_n K 4 dX9_stepBack_59 rfl ?_
    refine aw_dup2_11 K dX9_stepBack_60 rfl rfl ?_
    refine aw_gd (fun h_7 => ?_)
    refine aw_ald K dX9_stepBack_61 (kd_To_11 ht) h_7 rfl ?_
    refine aw_iconst K dX9_stepBack_62 ki_1 ?_
    refine aw_isub K dX9_stepBack_63 ?_
    refine aw_gd (fun h_8 => ?_)
    refine aw_ast K dX9_stepBack_64 (kd_To_11 ht) h_8 rfl (fun σ5 => ?_)
    refine aw_aload_n K 2 dX9_stepBack_65 rfl ?_
    refine aw_getR K (c' := t + 9) dX9_stepBack_66 lk_X9_22_9 (fd_To_4 ht) ?_
    refine aw_iload K 1 dX9_stepBack_69 rfl ?_
    refine aw_iload_n K 4 dX9_stepBack_71 rfl ?_
    refine aw_gd (fun h_9 => ?_)
    refine aw_ast K dX9_stepBack_72 (kd_To_4 ht) h_9 rfl (fun σ6 => ?_)
    refine aw_aload_n K 2 dX9_stepBack_73 rfl ?_
    refine aw_iload K 1 dX9_stepBack_74 rfl ?_
    refine aw_callVV K dX9_stepBack_76 vw_X9_129_9 (c_f_To_mark l t ht _) hg (by decide) (ob_To ht) rfl (Nat.le_of_ble_eq_true rfl) rfl rfl (fun _ σ7 _ => ?_)
    exact aw_vret dX9_stepBack_79
  · refine aw_aload_n K 2 dX9_stepBack_19 rfl ?_
    refine aw_iload K 1 dX9_stepBack_20 rfl ?_
    refine aw_iload K 0 dX9_stepBack_22 rfl ?_
    refine aw_callVV K dX9_stepBack_24 vw_X9_125_9 (c_f_To_swap l t ht _ _) hg (by decide) (ob_To ht) rfl (Nat.le_of_ble_eq_true rfl) rfl rfl (fun _ σ8 _ => ?_)
    exact aw_vret dX9_stepBack_27
set_option maxRecDepth 100000 in
set_option maxHeartbeats 4000000 in
theorem a_f_To_takeBack_115 (l : Launch) (t : Nat) (ht : TW t) {P : PT} {G : GT} (K : CX P G cX9_takeBack RX9 (3) 8) (hg : gl G = l) : ∀ (x2 : Int32) (x5 : Int32) (xs0 : Int32) (σ : SG), AW P G 8 (EI P G cX9_takeBack) (f_To_takeBack_115 t x2 x5 xs0 σ) σ 115 [(0, rf P t), (2, .int x2), (5, .int x5)] [.int xs0] := by
  intro x2 x5 xs0 σ
  rw [f_To_takeBack_115]
  refine aw_istore K (i := 7) (lv' := [(7, .int xs0), (0, rf P t), (2, .int x2), (5, .int x5)]) dX9_takeBack_115 (Nat.le_of_ble_eq_true rfl) rfl ?_
  refine aw_iload K 0 dX9_takeBack_117 rfl ?_
  refine aw_if_ne K 125 dX9_takeBack_119 (by decide) (fun h_1 => ?_) (fun h_1 => ?_)
  · refine aw_aload_n K 1 dX9_takeBack_125 rfl ?_
    refine aw_iload_n K 2 dX9_takeBack_126 rfl ?_
    refine aw_iload K 3 dX9_takeBack_127 rfl ?_
    refine aw_iconst K dX9_takeBack_129 ki_0 ?_
    refine aw_callVV K dX9_takeBack_130 vw_X9_136_9 (c_f_To_stepBack l t ht _ _ _) hg (by decide) (ob_To ht) rfl (Nat.le_of_ble_eq_true rfl) rfl rfl (fun _ σ1 _ => ?_)
    refine aw_aload_n K 1 dX9_takeBack_133 rfl ?_
    refine aw_dup K dX9_takeBack_134 rfl ?_
    refine aw_getI K dX9_takeBack_135 lk_X9_60_9 (fd_To_14 ht) ?_
    refine aw_iconst K dX9_takeBack_138 ki_1 ?_
    refine aw_isub K dX9_takeBack_139 ?_
    refine aw_putI K dX9_takeBack_140 lp_X9_60_9 (fd_To_14 ht) (fun σ2 => ?_)
    refine aw_iload_n K 2 dX9_takeBack_143 rfl ?_
    exact aw_iret dX9_takeBack_144
  · refine aw_bipush K dX9_takeBack_122 kb_m4 ?_
    exact aw_iret dX9_takeBack_124
set_option maxRecDepth 100000 in
set_option maxHeartbeats 4000000 in
theorem c_f_To_takeBack (l : Launch) (t : Nat) (ht : TW t) : CTI l (3) yX9_takeBack cX9_takeBack 8 ((some .int)) (fun P => [rf P t]) (fun σ => f_To_takeBack t σ) := by
  refine met_I rfl rfl rfl (fun P => Nat.le_of_ble_eq_true rfl) (fun P G K hg σ => ?_)
  change AW P G 8 (EI P G cX9_takeBack) (f_To_takeBack t σ) σ 0 [(0, rf P t)] []
  rw [f_To_takeBack]
  refine aw_aload_n K 0 dX9_takeBack_0 rfl ?_
  refine aw_getI K dX9_takeBack_1 lk_X9_60_9 (fd_To_14 ht) ?_
  refine aw_if_gt K 10 dX9_takeBack_4 (by decide) (fun h_1 => ?_) (fun h_1 => ?_)
  · refine aw_aload_n K 0 dX9_takeBack_10 rfl ?_
    refine aw_getR K (c' := t + 15) dX9_takeBack_11 lk_X9_46_9 (fd_To_15 ht) ?_
    refine aw_aload_n K 0 dX9_takeBack_14 rfl ?_
    refine aw_getI K dX9_takeBack_15 lk_X9_60_9 (fd_To_14 ht) ?_
    refine aw_iconst K dX9_takeBack_18 ki_1 ?_
    refine aw_isub K dX9_takeBack_19 ?_
    refine aw_gd (fun h_2 => ?_)
    refine aw_aald K dX9_takeBack_20 (kd_To_15 ht).1 h_2 rfl ?_
    refine aw_astore_n K (i := 1) (lv' := [(1, rf P (t + 15 + 1 + nx ((σ.1 t 14) - (1 : Int32)))), (0, rf P t)]) dX9_takeBack_21 rfl (Nat.le_of_ble_eq_true rfl) rfl ?_
    refine aw_aload_n K 0 dX9_takeBack_22 rfl ?_
    refine aw_iconst K dX9_takeBack_23 ki_0 ?_
    refine aw_ald K dX9_takeBack_24 ((kd_To_15 ht).2 _ (ix_lt h_2)) (by decide) kn_0 ?_
    refine aw_istoreX_n K (i := 2) (lv' := fun y1 => [(2, .int y1), (1, rf P (t + 15 + 1 + nx ((σ.1 t 14) - (1 : Int32)))), (0, rf P t)]) dX9_takeBack_25 rfl (Nat.le_of_ble_eq_true rfl) (fun _ => rfl) (fun y1 => ?_)
    refine aw_iload_n K 0 dX9_takeBack_26 rfl ?_
    refine aw_bipush K dX9_takeBack_27 kb_10 ?_
    refine aw_idiv K dX9_takeBack_29 (by decide) ?_
    refine aw_istoreX_n K (i := 3) (lv' := fun y2 => [(3, .int y2), (2, .int y1), (1, rf P (t + 15 + 1 + nx ((σ.1 t 14) - (1 : Int32)))), (0, rf P t)]) dX9_takeBack_30 rfl (Nat.le_of_ble_eq_true rfl) (fun _ => rfl) (fun y2 => ?_)
    refine aw_iload_n K 1 dX9_takeBack_31 rfl ?_
    refine aw_bipush K dX9_takeBack_32 kb_10 ?_
    refine aw_irem K dX9_takeBack_34 (by decide) ?_
    refine aw_istoreX K (i := 4) (lv' := fun y3 => [(4, .int y3), (3, .int y2), (2, .int y1), (1, rf P (t + 15 + 1 + nx ((σ.1 t 14) - (1 : Int32)))), (0, rf P t)]) dX9_takeBack_35 (Nat.le_of_ble_eq_true rfl) (fun _ => rfl) (fun y3 => ?_)
    refine aw_aload_n K 3 dX9_takeBack_37 rfl ?_
    refine aw_iconst K dX9_takeBack_38 ki_1 ?_
    refine aw_ald K dX9_takeBack_39 ((kd_To_15 ht).2 _ (ix_lt h_2)) (by decide) kn_1 ?_
    refine aw_istoreX K (i := 5) (lv' := fun y4 => [(5, .int y4), (4, .int y3), (3, .int y2), (2, .int y1), (1, rf P (t + 15 + 1 + nx ((σ.1 t 14) - (1 : Int32)))), (0, rf P t)]) dX9_takeBack_40 (Nat.le_of_ble_eq_true rfl) (fun _ => rfl) (fun y4 => ?_)
    refine aw_aload_n K 4 dX9_takeBack_42 rfl ?_
    refine aw_iconst K dX9_takeBack_43 ki_2 ?_
    refine aw_ald K dX9_takeBack_44 ((kd_To_15 ht).2 _ (ix_lt h_2)) (by decide) kn_2 ?_
    refine aw_istoreX K (i := 6) (lv' := fun y5 => [(6, .int y5), (5, .int y4), (4, .int y3), (3, .int y2), (2, .int y1), (1, rf P (t + 15 + 1 + nx ((σ.1 t 14) - (1 : Int32)))), (0, rf P t)]) dX9_takeBack_45 (Nat.le_of_ble_eq_true rfl) (fun _ => rfl) (fun y5 => ?_)
    refine aw_aload_n K 6 dX9_takeBack_47 rfl ?_
    refine aw_getR K (c' := t + 9) dX9_takeBack_48 lk_X9_22_9 (fd_To_4 ht) ?_
    refine aw_iload_n K 3 dX9_takeBack_51 rfl ?_
    refine aw_gd (fun h_3 => ?_)
    refine aw_ald K dX9_takeBack_52 (kd_To_4 ht) h_3 rfl ?_
    refine aw_iload K 0 dX9_takeBack_53 rfl ?_
    refine aw_icmp_eq K 61 dX9_takeBack_55 (by decide) (fun h_4 => ?_) (fun h_4 => ?_)
    · refine aw_iload K 2 dX9_takeBack_61 rfl ?_
      refine aw_bipush K dX9_takeBack_63 kb_9 ?_
      refine aw_icmp_ne K 98 dX9_takeBack_65 (by decide) (fun h_5 => ?_) (fun h_5 => ?_)
      · refine aw_aload_n K 6 dX9_takeBack_98 rfl ?_
        refine aw_getR K (c' := t + 9) dX9_takeBack_99 lk_X9_22_9 (fd_To_4 ht) ?_
        refine aw_iload K 2 dX9_takeBack_102 rfl ?_
        refine aw_gd (fun h_6 => ?_)
        refine aw_ald K dX9_takeBack_104 (kd_To_4 ht) h_6 rfl ?_
        refine aw_iload K 1 dX9_takeBack_105 rfl ?_
        refine aw_icmp_ne K 114 dX9_takeBack_107 (by decide) (fun h_7 => ?_) (fun h_7 => ?_)
        · refine aw_iconst K dX9_takeBack_114 ki_0 ?_
          refine aw_lv [6, 4, 1] rfl ?_
          exact (a_f_To_takeBack_115 l t ht K hg) _ _ _ _
        · refine aw_iconst K dX9_takeBack_110 ki_1 ?_
          refine aw_goto K 115 dX9_takeBack_111 (by decide) ?_
          refine aw_lv [6, 4, 1] rfl ?_
          exact (a_f_To_takeBack_115 l t ht K hg) _ _ _ _
      · refine aw_aload_n K 6 dX9_takeBack_68 rfl ?_
        refine aw_getR K (c' := t + 14) dX9_takeBack_69 lk_X9_37_9 (fd_To_11 ht) ?_
        refine aw_iload K 1 dX9_takeBack_72 rfl ?_
        refine aw_gd (fun h_8 => ?_)
        refine aw_ald K dX9_takeBack_74 (kd_To_11 ht) h_8 rfl ?_
        refine aw_if_le K 94 dX9_takeBack_75 (by decide) (fun h_9 => ?_) (fun h_9 => ?_)
        · refine aw_iconst K dX9_takeBack_94 ki_0 ?_
          refine aw_goto K 115 dX9_takeBack_95 (by decide) ?_
          refine aw_lv [6, 4, 1] rfl ?_
          exact (a_f_To_takeBack_115 l t ht K hg) _ _ _ _
        · refine aw_aload_n K 6 dX9_takeBack_78 rfl ?_
          refine aw_getR K (c' := t + 14) dX9_takeBack_79 lk_X9_37_9 (fd_To_11 ht) ?_
          refine aw_iload K 0 dX9_takeBack_82 rfl ?_
          refine aw_gd (fun h_10 => ?_)
          refine aw_ald K dX9_takeBack_84 (kd_To_11 ht) h_10 rfl ?_
          refine aw_bipush K dX9_takeBack_85 kb_99 ?_
          refine aw_icmp_ge K 94 dX9_takeBack_87 (by decide) (fun h_11 => ?_) (fun h_11 => ?_)
          · refine aw_iconst K dX9_takeBack_94 ki_0 ?_
            refine aw_goto K 115 dX9_takeBack_95 (by decide) ?_
            refine aw_lv [6, 4, 1] rfl ?_
            exact (a_f_To_takeBack_115 l t ht K hg) _ _ _ _
          · refine aw_iconst K dX9_takeBack_90 ki_1 ?_
            refine aw_goto K 115 dX9_takeBack_91 (by decide) ?_
            refine aw_lv [6, 4, 1] rfl ?_
            exact (a_f_To_takeBack_115 l t ht K hg) _ _ _ _
    · refine aw_bipush K dX9_takeBack_58 kb_m4 ?_
      exact aw_iret dX9_takeBack_60
  · refine aw_bipush K dX9_takeBack_7 kb_m3 ?_
    exact aw_iret dX9_takeBack_9
set_option maxRecDepth 100000 in
set_option maxHeartbeats 4000000 in
theorem c_f_H_back (l : Launch) : CTI l (4) yX11_back cX11_back 1 ((some .int)) (fun P => [rf P 0]) (fun σ => f_H_back σ) := by
  refine met_I rfl rfl rfl (fun P => Nat.le_of_ble_eq_true rfl) (fun P G K hg σ => ?_)
  change AW P G 1 (EI P G cX11_back) (f_H_back σ) σ 0 [(0, rf P 0)] []
  rw [f_H_back]
  refine aw_aload_n K 0 dX11_back_0 rfl ?_
  refine aw_getR K (c' := 20) dX11_back_1 lk_X11_41_11 fd_0_1 ?_
  refine aw_callVI K dX11_back_4 vw_X11_168_9 (c_f_To_takeBack l 20 TW.a) hg (by decide) ob_20 rfl (Nat.le_of_ble_eq_true rfl) rfl rfl (fun r2 σ1 _ => ?_)
  exact aw_iret dX11_back_7
set_option maxRecDepth 100000 in
set_option maxHeartbeats 4000000 in
theorem c_f_Se_atFirst (l : Launch) : CTI l (1) yX8_atFirst cX8_atFirst 1 ((some .int)) (fun P => [rf P 125]) (fun σ => f_Se_atFirst σ) := by
  refine met_I rfl rfl rfl (fun P => Nat.le_of_ble_eq_true rfl) (fun P G K hg σ => ?_)
  change AW P G 1 (EI P G cX8_atFirst) (f_Se_atFirst σ) σ 0 [(0, rf P 125)] []
  rw [f_Se_atFirst]
  refine aw_aload_n K 0 dX8_atFirst_0 rfl ?_
  refine aw_getI K dX8_atFirst_1 lk_X8_43_8 fd_125_4 ?_
  refine aw_ite (fun h_1 => ?_) (fun h_1 => ?_)
  · refine aw_tabIn K 36 (1) dX8_atFirst_4 (ti_of h_1 kt_1) (by decide) (by decide) rfl (by decide) ?_
    refine aw_iconst K dX8_atFirst_36 ki_0 ?_
    exact aw_iret dX8_atFirst_37
  refine aw_ite (fun h_2 => ?_) (fun h_2 => ?_)
  · refine aw_tabIn K 38 (2) dX8_atFirst_4 (ti_of h_2 kt_2) (by decide) (by decide) rfl (by decide) ?_
    refine aw_aload_n K 0 dX8_atFirst_38 rfl ?_
    refine aw_getR K (c' := 90) dX8_atFirst_39 lk_X8_25_8 fd_125_0 ?_
    refine aw_getI K dX8_atFirst_42 lk_X8_111_9 fd_90_8 ?_
    refine aw_bitCount K dX8_atFirst_45 l_X8_114 hg (by decide) (Nat.le_of_ble_eq_true rfl)  ?_
    exact aw_iret dX8_atFirst_48
  refine aw_ite (fun h_3 => ?_) (fun h_3 => ?_)
  · refine aw_tabIn K 51 (3) dX8_atFirst_4 (ti_of h_3 kt_3) (by decide) (by decide) rfl (by decide) ?_
    refine aw_ldc K (x := (1000000 : Int32)) dX8_atFirst_51 (in_r32 _ (List.mem_of_getElem? (i := 23) rfl)) ?_
    exact aw_iret dX8_atFirst_53
  refine aw_ite (fun h_4 => ?_) (fun h_4 => ?_)
  · refine aw_tabIn K 49 (4) dX8_atFirst_4 (ti_of h_4 kt_4) (by decide) (by decide) rfl (by decide) ?_
    refine aw_iconst K dX8_atFirst_49 ki_m1 ?_
    exact aw_iret dX8_atFirst_50
  refine aw_tabOut K 51 dX8_atFirst_4 (by have := lv_neT h_1 kt_1; have := lv_neT h_2 kt_2; have := lv_neT h_3 kt_3; have := lv_neT h_4 kt_4; omega) (by decide) ?_
  refine aw_ldc K (x := (1000000 : Int32)) dX8_atFirst_51 (in_r32 _ (List.mem_of_getElem? (i := 23) rfl)) ?_
  exact aw_iret dX8_atFirst_53
set_option maxRecDepth 100000 in
set_option maxHeartbeats 4000000 in
theorem c_f_Se_joinedWith (l : Launch) {kR : Nat} {fR : Int32 → SG → Option (Int32 × SG)} (hfR : ∀ (z0 : Int32), CTI l kR yX8_solve cX8_solve 10 ((some .int)) (fun P => [rf P 125, .int z0]) (fun σ => fR z0 σ)) (hkR : 3 ≤ kR) (x1 : Int32) (x2 : Int32) (x3 : Int32) : CTI l (kR + 1) yX8_joinedWith cX8_joinedWith 7 ((some .int)) (fun P => [rf P 125, .int x1, .int x2, .int x3]) (fun σ => f_Se_joinedWith fR x1 x2 x3 σ) := by
  refine met_I rfl rfl rfl (fun P => Nat.le_of_ble_eq_true rfl) (fun P G K hg σ => ?_)
  change AW P G 7 (EI P G cX8_joinedWith) (f_Se_joinedWith fR x1 x2 x3 σ) σ 0 [(0, rf P 125), (1, .int x1), (2, .int x2), (3, .int x3)] []
  rw [f_Se_joinedWith]
  refine aw_aload_n K 0 dX8_joinedWith_0 rfl ?_
  refine aw_getR K (c' := 90) dX8_joinedWith_1 lk_X8_25_8 fd_125_0 ?_
  refine aw_getR K (c' := 99) dX8_joinedWith_4 lk_X8_95_9 fd_90_4 ?_
  refine aw_iload_n K 1 dX8_joinedWith_7 rfl ?_
  refine aw_bipush K dX8_joinedWith_8 kb_10 ?_
  refine aw_idiv K dX8_joinedWith_10 (by decide) ?_
  refine aw_gd (fun h_1 => ?_)
  refine aw_ald K dX8_joinedWith_11 ad_99 h_1 rfl ?_
  refine aw_istoreX K (i := 4) (lv' := fun y1 => [(4, .int y1), (0, rf P 125), (1, .int x1), (2, .int x2), (3, .int x3)]) dX8_joinedWith_12 (Nat.le_of_ble_eq_true rfl) (fun _ => rfl) (fun y1 => ?_)
  refine aw_aload_n K 1 dX8_joinedWith_14 rfl ?_
  refine aw_getR K (c' := 90) dX8_joinedWith_15 lk_X8_25_8 fd_125_0 ?_
  refine aw_iload_n K 2 dX8_joinedWith_18 rfl ?_
  refine aw_callVI K dX8_joinedWith_19 vw_X8_67_9 (c_f_To_step l 90 TW.c _) hg (by omega) ob_90 rfl (Nat.le_of_ble_eq_true rfl) rfl rfl (fun r3 σ2 _ => ?_)
  refine aw_istore K (i := 5) (lv' := [(5, .int r3), (4, .int y1), (0, rf P 125), (1, .int x1), (2, .int x2), (3, .int x3)]) dX8_joinedWith_22 (Nat.le_of_ble_eq_true rfl) rfl ?_
  refine aw_aload_n K 2 dX8_joinedWith_24 rfl ?_
  refine aw_iload_n K 4 dX8_joinedWith_25 rfl ?_
  refine aw_iconst K dX8_joinedWith_26 ki_1 ?_
  refine aw_isub K dX8_joinedWith_27 ?_
  refine aw_callVI K dX8_joinedWith_28 vw_X8_39_8 (hfR _) hg (by omega) ob_125 rfl (Nat.le_of_ble_eq_true rfl) rfl rfl (fun r5 σ4 _ => ?_)
  refine aw_istore K (i := 6) (lv' := [(6, .int r5), (5, .int r3), (4, .int y1), (0, rf P 125), (1, .int x1), (2, .int x2), (3, .int x3)]) dX8_joinedWith_31 (Nat.le_of_ble_eq_true rfl) rfl ?_
  refine aw_aload_n K 3 dX8_joinedWith_33 rfl ?_
  refine aw_getR K (c' := 90) dX8_joinedWith_34 lk_X8_25_8 fd_125_0 ?_
  refine aw_iload_n K 4 dX8_joinedWith_37 rfl ?_
  refine aw_iload K 2 dX8_joinedWith_38 rfl ?_
  refine aw_iload K 1 dX8_joinedWith_40 rfl ?_
  refine aw_callVV K dX8_joinedWith_42 vw_X8_98_9 (c_f_To_stepBack l 90 TW.c _ _ _) hg (by omega) ob_90 rfl (Nat.le_of_ble_eq_true rfl) rfl rfl (fun _ σ6 _ => ?_)
  refine aw_aload_n K 3 dX8_joinedWith_45 rfl ?_
  refine aw_getI K dX8_joinedWith_46 lk_X8_43_8 fd_125_4 ?_
  refine aw_ite (fun h_2 => ?_) (fun h_2 => ?_)
  · refine aw_tabIn K 80 (1) dX8_joinedWith_49 (ti_of h_2 kt_1) (by decide) (by decide) rfl (by decide) ?_
    refine aw_iload_n K 6 dX8_joinedWith_80 rfl ?_
    refine aw_iload K 0 dX8_joinedWith_81 rfl ?_
    refine aw_iadd K dX8_joinedWith_83 ?_
    exact aw_iret dX8_joinedWith_84
  refine aw_ite (fun h_3 => ?_) (fun h_3 => ?_)
  · refine aw_tabIn K 85 (2) dX8_joinedWith_49 (ti_of h_3 kt_2) (by decide) (by decide) rfl (by decide) ?_
    refine aw_iload_n K 6 dX8_joinedWith_85 rfl ?_
    refine aw_iload K 0 dX8_joinedWith_86 rfl ?_
    refine aw_max K dX8_joinedWith_88 (by omega) (in_r34 _ (List.mem_of_getElem? (i := 16) rfl)) (in_r34 _ (List.mem_of_getElem? (i := 17) rfl)) (in_r34 _ (List.mem_of_getElem? (i := 18) rfl)) (in_r34 _ (List.mem_of_getElem? (i := 19) rfl)) (Nat.le_of_ble_eq_true rfl) ?_
    exact aw_iret dX8_joinedWith_91
  refine aw_ite (fun h_4 => ?_) (fun h_4 => ?_)
  · refine aw_tabIn K 100 (3) dX8_joinedWith_49 (ti_of h_4 kt_3) (by decide) (by decide) rfl (by decide) ?_
    refine aw_iload_n K 6 dX8_joinedWith_100 rfl ?_
    refine aw_iload K 0 dX8_joinedWith_101 rfl ?_
    refine aw_iload K 1 dX8_joinedWith_103 rfl ?_
    refine aw_iadd K dX8_joinedWith_105 ?_
    refine aw_min K dX8_joinedWith_106 (by omega) (in_r34 _ (List.mem_of_getElem? (i := 20) rfl)) (in_r34 _ (List.mem_of_getElem? (i := 21) rfl)) (in_r34 _ (List.mem_of_getElem? (i := 18) rfl)) (in_r34 _ (List.mem_of_getElem? (i := 22) rfl)) (Nat.le_of_ble_eq_true rfl) ?_
    exact aw_iret dX8_joinedWith_109
  refine aw_ite (fun h_5 => ?_) (fun h_5 => ?_)
  · refine aw_tabIn K 92 (4) dX8_joinedWith_49 (ti_of h_5 kt_4) (by decide) (by decide) rfl (by decide) ?_
    refine aw_iload_n K 6 dX8_joinedWith_92 rfl ?_
    refine aw_iload K 0 dX8_joinedWith_93 rfl ?_
    refine aw_ineg K dX8_joinedWith_95 ?_
    refine aw_max K dX8_joinedWith_96 (by omega) (in_r34 _ (List.mem_of_getElem? (i := 16) rfl)) (in_r34 _ (List.mem_of_getElem? (i := 17) rfl)) (in_r34 _ (List.mem_of_getElem? (i := 18) rfl)) (in_r34 _ (List.mem_of_getElem? (i := 19) rfl)) (Nat.le_of_ble_eq_true rfl) ?_
    exact aw_iret dX8_joinedWith_99
  refine aw_tabOut K 110 dX8_joinedWith_49 (by have := lv_neT h_2 kt_1; have := lv_neT h_3 kt_2; have := lv_neT h_4 kt_3; have := lv_neT h_5 kt_4; omega) (by decide) ?_
  refine aw_iload_n K 6 dX8_joinedWith_110 rfl ?_
  refine aw_iload K 0 dX8_joinedWith_111 rfl ?_
  refine aw_iconst K dX8_joinedWith_113 ki_1 ?_
  refine aw_iadd K dX8_joinedWith_114 ?_
  refine aw_min K dX8_joinedWith_115 (by omega) (in_r34 _ (List.mem_of_getElem? (i := 20) rfl)) (in_r34 _ (List.mem_of_getElem? (i := 21) rfl)) (in_r34 _ (List.mem_of_getElem? (i := 18) rfl)) (in_r34 _ (List.mem_of_getElem? (i := 22) rfl)) (Nat.le_of_ble_eq_true rfl) ?_
  exact aw_iret dX8_joinedWith_118
set_option maxRecDepth 100000 in
set_option maxHeartbeats 4000000 in
theorem c_f_To_isDone (l : Launch) (t : Nat) (ht : TW t) : CTI l (0) yX9_isDone cX9_isDone 1 ((some .boolean)) (fun P => [rf P t]) (fun σ => f_To_isDone t σ) := by
  refine met_Z rfl rfl rfl (fun P => Nat.le_of_ble_eq_true rfl) (fun P G K hg σ => ?_)
  change AW P G 1 (EZ P G cX9_isDone) (f_To_isDone t σ) σ 0 [(0, rf P t)] []
  rw [f_To_isDone]
  refine aw_aload_n K 0 dX9_isDone_0 rfl ?_
  refine aw_getI K dX9_isDone_1 lk_X9_83_9 (fd_To_8 ht) ?_
  refine aw_aload_n K 0 dX9_isDone_4 rfl ?_
  refine aw_getI K dX9_isDone_5 lk_X9_86_9 (fd_To_9 ht) ?_
  refine aw_ior K dX9_isDone_8 ?_
  refine aw_iconst K dX9_isDone_9 ki_1 ?_
  refine aw_aload_n K 0 dX9_isDone_10 rfl ?_
  refine aw_getI K dX9_isDone_11 lk_X9_74_9 (fd_To_2 ht) ?_
  refine aw_ishl K dX9_isDone_14 ?_
  refine aw_iconst K dX9_isDone_15 ki_1 ?_
  refine aw_isub K dX9_isDone_16 ?_
  refine aw_icmp_ne K 24 dX9_isDone_17 (by decide) (fun h_1 => ?_) (fun h_1 => ?_)
  · refine aw_iconst K dX9_isDone_24 ki_0 ?_
    exact aw_zret dX9_isDone_25 (by decide)
  · refine aw_iconst K dX9_isDone_20 ki_1 ?_
    refine aw_goto K 25 dX9_isDone_21 (by decide) ?_
    exact aw_zret dX9_isDone_25 (by decide)
set_option maxRecDepth 100000 in
set_option maxHeartbeats 4000000 in
theorem c_f_Se_atEnd (l : Launch) (x1 : Int32) : CTI l (1) yX8_atEnd cX8_atEnd 2 ((some .int)) (fun P => [rf P 125, .int x1]) (fun σ => f_Se_atEnd x1 σ) := by
  refine met_I rfl rfl rfl (fun P => Nat.le_of_ble_eq_true rfl) (fun P G K hg σ => ?_)
  change AW P G 2 (EI P G cX8_atEnd) (f_Se_atEnd x1 σ) σ 0 [(0, rf P 125), (1, .int x1)] []
  rw [f_Se_atEnd]
  refine aw_aload_n K 0 dX8_atEnd_0 rfl ?_
  refine aw_getI K dX8_atEnd_1 lk_X8_43_8 fd_125_4 ?_
  refine aw_ite (fun h_1 => ?_) (fun h_1 => ?_)
  · refine aw_tabIn K 36 (1) dX8_atEnd_4 (ti_of h_1 kt_1) (by decide) (by decide) rfl (by decide) ?_
    refine aw_aload_n K 0 dX8_atEnd_36 rfl ?_
    refine aw_getR K (c' := 90) dX8_atEnd_37 lk_X8_25_8 fd_125_0 ?_
    refine aw_callVI K dX8_atEnd_40 vw_X8_82_9 (c_f_To_isDone l 90 TW.c) hg (by decide) ob_90 rfl (Nat.le_of_ble_eq_true rfl) rfl rfl (fun r2 σ1 _ => ?_)
    refine aw_if_eq K 50 dX8_atEnd_43 (by decide) (fun h_2 => ?_) (fun h_2 => ?_)
    · refine aw_iconst K dX8_atEnd_50 ki_0 ?_
      exact aw_iret dX8_atEnd_51
    · refine aw_iconst K dX8_atEnd_46 ki_1 ?_
      refine aw_goto K 51 dX8_atEnd_47 (by decide) ?_
      exact aw_iret dX8_atEnd_51
  refine aw_ite (fun h_3 => ?_) (fun h_3 => ?_)
  · refine aw_tabIn K 52 (2) dX8_atEnd_4 (ti_of h_3 kt_2) (by decide) (by decide) rfl (by decide) ?_
    refine aw_aload_n K 0 dX8_atEnd_52 rfl ?_
    refine aw_getR K (c' := 90) dX8_atEnd_53 lk_X8_25_8 fd_125_0 ?_
    refine aw_getI K dX8_atEnd_56 lk_X8_111_9 fd_90_8 ?_
    refine aw_bitCount K dX8_atEnd_59 l_X8_114 hg (by decide) (Nat.le_of_ble_eq_true rfl)  ?_
    exact aw_iret dX8_atEnd_62
  refine aw_ite (fun h_4 => ?_) (fun h_4 => ?_)
  · refine aw_tabIn K 73 (3) dX8_atEnd_4 (ti_of h_4 kt_3) (by decide) (by decide) rfl (by decide) ?_
    refine aw_aload_n K 0 dX8_atEnd_73 rfl ?_
    refine aw_getR K (c' := 90) dX8_atEnd_74 lk_X8_25_8 fd_125_0 ?_
    refine aw_callVI K dX8_atEnd_77 vw_X8_82_9 (c_f_To_isDone l 90 TW.c) hg (by decide) ob_90 rfl (Nat.le_of_ble_eq_true rfl) rfl rfl (fun r5 σ4 _ => ?_)
    refine aw_if_eq K 87 dX8_atEnd_80 (by decide) (fun h_5 => ?_) (fun h_5 => ?_)
    · refine aw_ldc K (x := (1000000 : Int32)) dX8_atEnd_87 (in_r32 _ (List.mem_of_getElem? (i := 23) rfl)) ?_
      exact aw_iret dX8_atEnd_89
    · refine aw_iconst K dX8_atEnd_83 ki_0 ?_
      refine aw_goto K 89 dX8_atEnd_84 (by decide) ?_
      exact aw_iret dX8_atEnd_89
  refine aw_ite (fun h_6 => ?_) (fun h_6 => ?_)
  · refine aw_tabIn K 63 (4) dX8_atEnd_4 (ti_of h_6 kt_4) (by decide) (by decide) rfl (by decide) ?_
    refine aw_iload_n K 1 dX8_atEnd_63 rfl ?_
    refine aw_if_gt K 71 dX8_atEnd_64 (by decide) (fun h_7 => ?_) (fun h_7 => ?_)
    · refine aw_iconst K dX8_atEnd_71 ki_m1 ?_
      exact aw_iret dX8_atEnd_72
    · refine aw_iconst K dX8_atEnd_67 ki_0 ?_
      refine aw_goto K 72 dX8_atEnd_68 (by decide) ?_
      exact aw_iret dX8_atEnd_72
  refine aw_tabOut K 73 dX8_atEnd_4 (by have := lv_neT h_1 kt_1; have := lv_neT h_3 kt_2; have := lv_neT h_4 kt_3; have := lv_neT h_6 kt_4; omega) (by decide) ?_
  refine aw_aload_n K 0 dX8_atEnd_73 rfl ?_
  refine aw_getR K (c' := 90) dX8_atEnd_74 lk_X8_25_8 fd_125_0 ?_
  refine aw_callVI K dX8_atEnd_77 vw_X8_82_9 (c_f_To_isDone l 90 TW.c) hg (by decide) ob_90 rfl (Nat.le_of_ble_eq_true rfl) rfl rfl (fun r7 σ6 _ => ?_)
  refine aw_if_eq K 87 dX8_atEnd_80 (by decide) (fun h_8 => ?_) (fun h_8 => ?_)
  · refine aw_ldc K (x := (1000000 : Int32)) dX8_atEnd_87 (in_r32 _ (List.mem_of_getElem? (i := 23) rfl)) ?_
    exact aw_iret dX8_atEnd_89
  · refine aw_iconst K dX8_atEnd_83 ki_0 ?_
    refine aw_goto K 89 dX8_atEnd_84 (by decide) ?_
    exact aw_iret dX8_atEnd_89
set_option maxRecDepth 100000 in
set_option maxHeartbeats 4000000 in
theorem a_f_Se_key_13 (l : Launch) {P : PT} {G : GT} (K : CX P G cX8_key RX8 (0) 5) (hg : gl G = l) : ∀ (n : Nat) (x2 : Int64) (x4 : Int32) (σ : SG), AW P G 5 (EL P G cX8_key) (f_Se_key_13 n x2 x4 σ) σ 13 [(0, rf P 125), (2, .long x2), (4, .int x4)] [] := by
  intro n
  induction n with
  | zero =>
    intro x2 x4 σ
    rw [f_Se_key_13]
    exact aw_none
  | succ n ih =>
    intro x2 x4 σ
    rw [f_Se_key_13]
    refine aw_iload K 2 dX8_key_13 rfl ?_
    refine aw_bipush K dX8_key_15 kb_6 ?_
    refine aw_icmp_ge K 42 dX8_key_17 (by decide) (fun h_1 => ?_) (fun h_1 => ?_)
    · refine aw_lload_n K 1 dX8_key_42 rfl ?_
      exact aw_lret dX8_key_43
    · refine aw_lload_n K 1 dX8_key_20 rfl ?_
      refine aw_iconst K dX8_key_21 ki_3 ?_
      refine aw_lshl K dX8_key_22 ?_
      refine aw_aload_n K 0 dX8_key_23 rfl ?_
      refine aw_getR K (c' := 90) dX8_key_24 lk_X8_25_8 fd_125_0 ?_
      refine aw_getR K (c' := 99) dX8_key_27 lk_X8_95_9 fd_90_4 ?_
      refine aw_iload K 2 dX8_key_30 rfl ?_
      refine aw_gd (fun h_2 => ?_)
      refine aw_ald K dX8_key_32 ad_99 h_2 rfl ?_
      refine aw_i2l K dX8_key_33 ?_
      refine aw_lor K dX8_key_34 ?_
      refine aw_lstoreX_n K (i := 2) (lv' := fun y1 => [(2, .long y1), (0, rf P 125), (4, .int x4)]) dX8_key_35 rfl (Nat.le_of_ble_eq_true rfl) (fun _ => rfl) (fun y1 => ?_)
      refine aw_iinc K (lv' := fun y2 => [(4, .int y2), (2, .long y1), (0, rf P 125)]) 2 dX8_key_36 rfl ki_1 (Nat.le_of_ble_eq_true rfl) (fun _ => rfl) (fun y2 => ?_)
      refine aw_goto K 13 dX8_key_39 (by decide) ?_
      refine aw_lv [2, 1, 0] rfl ?_
      exact ih _ _ _
set_option maxRecDepth 100000 in
set_option maxHeartbeats 4000000 in
theorem c_f_Se_key (l : Launch) (x1 : Int32) : CTL l (0) yX8_key cX8_key 5 ((some .long)) (fun P => [rf P 125, .int x1]) (fun σ => f_Se_key x1 σ) := by
  refine met_L rfl rfl rfl (fun P => Nat.le_of_ble_eq_true rfl) (fun P G K hg σ => ?_)
  change AW P G 5 (EL P G cX8_key) (f_Se_key x1 σ) σ 0 [(0, rf P 125), (1, .int x1)] []
  rw [f_Se_key]
  refine aw_aload_n K 0 dX8_key_0 rfl ?_
  refine aw_getJ K dX8_key_1 lk_X8_47_8 fd_125_5 ?_
  refine aw_iconst K dX8_key_4 ki_3 ?_
  refine aw_lshl K dX8_key_5 ?_
  refine aw_iload_n K 1 dX8_key_6 rfl ?_
  refine aw_i2l K dX8_key_7 ?_
  refine aw_lor K dX8_key_8 ?_
  refine aw_lstoreX_n K (i := 2) (lv' := fun y1 => [(2, .long y1), (0, rf P 125), (1, .int x1)]) dX8_key_9 rfl (Nat.le_of_ble_eq_true rfl) (fun _ => rfl) (fun y1 => ?_)
  refine aw_iconst K dX8_key_10 ki_0 ?_
  refine aw_istore K (i := 4) (lv' := [(4, .int (0 : Int32)), (2, .long y1), (0, rf P 125), (1, .int x1)]) dX8_key_11 (Nat.le_of_ble_eq_true rfl) rfl ?_
  refine aw_lv [2, 1, 0] rfl ?_
  exact (a_f_Se_key_13 l K hg FU) _ _ _
set_option maxRecDepth 100000 in
set_option maxHeartbeats 4000000 in
theorem a_f_Se_solve_S_76 (l : Launch) {kR : Nat} {fR : Int32 → SG → Option (Int32 × SG)} (hfR : ∀ (z0 : Int32), CTI l kR yX8_solve cX8_solve 10 ((some .int)) (fun P => [rf P 125, .int z0]) (fun σ => fR z0 σ)) (hkR : 3 ≤ kR) {P : PT} {G : GT} (K : CX P G cX8_solve RX8 (kR + 2) 10) (hg : gl G = l) : ∀ (n : Nat) (x1 : Int32) (x2 : Int64) (x4 : Int32) (x5 : Int32) (x7 : Int32) (x8 : Int32) (σ : SG), AW P G 10 (EI P G cX8_solve) (f_Se_solve_S_76 fR n x1 x2 x4 x5 x7 x8 σ) σ 76 [(0, rf P 125), (1, .int x1), (2, .long x2), (4, .int x4), (5, .int x5), (6, .ref (pC P)), (7, .int x7), (8, .int x8)] [] := by
  intro n
  induction n with
  | zero =>
    intro x1 x2 x4 x5 x7 x8 σ
    rw [f_Se_solve_S_76]
    exact aw_none
  | succ n ih =>
    intro x1 x2 x4 x5 x7 x8 σ
    rw [f_Se_solve_S_76]
    refine aw_iload K 7 dX8_solve_76 rfl ?_
    refine aw_iload K 6 dX8_solve_78 rfl ?_
    refine aw_icmp_ge K 119 dX8_solve_80 (by decide) (fun h_1 => ?_) (fun h_1 => ?_)
    · refine aw_aload_n K 0 dX8_solve_119 rfl ?_
      refine aw_getR K (c' := 128) dX8_solve_120 lk_X8_18_8 fd_125_6 ?_
      refine aw_iload K 3 dX8_solve_123 rfl ?_
      refine aw_lload_n K 2 dX8_solve_125 rfl ?_
      refine aw_gd (fun h_2 => ?_)
      refine aw_stl K dX8_solve_126 ad_128 h_2 rfl (fun σ1 => ?_)
      refine aw_aload_n K 0 dX8_solve_127 rfl ?_
      refine aw_getR K (c' := 129) dX8_solve_128 lk_X8_22_8 fd_125_7 ?_
      refine aw_iload K 3 dX8_solve_131 rfl ?_
      refine aw_iload K 4 dX8_solve_133 rfl ?_
      refine aw_gd (fun h_3 => ?_)
      refine aw_ast K dX8_solve_135 ad_129 h_3 rfl (fun σ2 => ?_)
      refine aw_iload K 4 dX8_solve_136 rfl ?_
      exact aw_iret dX8_solve_138
    · refine aw_aload K 5 dX8_solve_83 rfl ?_
      refine aw_iload K 7 dX8_solve_85 rfl ?_
      refine aw_gd (fun h_4 => ?_)
      refine aw_tC K dX8_solve_87 h_4 ?_
      refine aw_istoreX K (i := 9) (lv' := fun y3 => [(9, .int y3), (0, rf P 125), (1, .int x1), (2, .long x2), (4, .int x4), (5, .int x5), (6, .ref (pC P)), (7, .int x7), (8, .int x8)]) dX8_solve_88 (Nat.le_of_ble_eq_true rfl) (fun _ => rfl) (fun y3 => ?_)
      refine aw_aload_n K 1 dX8_solve_90 rfl ?_
      refine aw_getR K (c' := 90) dX8_solve_91 lk_X8_25_8 fd_125_0 ?_
      refine aw_iload K 0 dX8_solve_94 rfl ?_
      refine aw_callVI K dX8_solve_96 vw_X8_55_9 (c_f_To_canBe l 90 TW.c _) hg (by omega) ob_90 rfl (Nat.le_of_ble_eq_true rfl) rfl rfl (fun r5 σ4 _ => ?_)
      refine aw_if_eq K 113 dX8_solve_99 (by decide) (fun h_5 => ?_) (fun h_5 => ?_)
      · refine aw_iinc K (lv' := fun y6 => [(8, .int y6), (9, .int y3), (0, rf P 125), (1, .int x1), (2, .long x2), (4, .int x4), (5, .int x5), (6, .ref (pC P)), (7, .int x7)]) 8 dX8_solve_113 rfl ki_1 (Nat.le_of_ble_eq_true rfl) (fun _ => rfl) (fun y6 => ?_)
        refine aw_goto K 76 dX8_solve_116 (by decide) ?_
        refine aw_lv [2, 3, 4, 5, 6, 7, 8, 0] rfl ?_
        exact ih _ _ _ _ _ _ _
      · refine aw_aload_n K 1 dX8_solve_102 rfl ?_
        refine aw_iload K 0 dX8_solve_103 rfl ?_
        refine aw_iload_n K 2 dX8_solve_105 rfl ?_
        refine aw_iload K 5 dX8_solve_106 rfl ?_
        refine aw_callVI K dX8_solve_108 vw_X8_63_8 (c_f_Se_joinedWith l hfR hkR _ _ _) hg (by omega) ob_125 rfl (Nat.le_of_ble_eq_true rfl) rfl rfl (fun r8 σ7 _ => ?_)
        refine aw_istore K (i := 5) (lv' := [(5, .int r8), (9, .int y3), (0, rf P 125), (1, .int x1), (2, .long x2), (4, .int x4), (6, .ref (pC P)), (7, .int x7), (8, .int x8)]) dX8_solve_111 (Nat.le_of_ble_eq_true rfl) rfl ?_
        refine aw_iinc K (lv' := fun y9 => [(8, .int y9), (5, .int r8), (9, .int y3), (0, rf P 125), (1, .int x1), (2, .long x2), (4, .int x4), (6, .ref (pC P)), (7, .int x7)]) 8 dX8_solve_113 rfl ki_1 (Nat.le_of_ble_eq_true rfl) (fun _ => rfl) (fun y9 => ?_)
        refine aw_goto K 76 dX8_solve_116 (by decide) ?_
        refine aw_lv [3, 4, 5, 6, 1, 7, 8, 0] rfl ?_
        exact ih _ _ _ _ _ _ _
set_option maxRecDepth 100000 in
set_option maxHeartbeats 4000000 in
theorem c_f_Se_solve_S (l : Launch) {kR : Nat} {fR : Int32 → SG → Option (Int32 × SG)} (hfR : ∀ (z0 : Int32), CTI l kR yX8_solve cX8_solve 10 ((some .int)) (fun P => [rf P 125, .int z0]) (fun σ => fR z0 σ)) (hkR : 3 ≤ kR) (x1 : Int32) : CTI l (kR + 2) yX8_solve cX8_solve 10 ((some .int)) (fun P => [rf P 125, .int x1]) (fun σ => f_Se_solve_S fR x1 σ) := by
  refine met_I rfl rfl rfl (fun P => Nat.le_of_ble_eq_true rfl) (fun P G K hg σ => ?_)
  change AW P G 10 (EI P G cX8_solve) (f_Se_solve_S fR x1 σ) σ 0 [(0, rf P 125), (1, .int x1)] []
  rw [f_Se_solve_S]
  refine aw_iload_n K 1 dX8_solve_0 rfl ?_
  refine aw_if_le K 14 dX8_solve_1 (by decide) (fun h_1 => ?_) (fun h_1 => ?_)
  · refine aw_aload_n K 0 dX8_solve_14 rfl ?_
    refine aw_iload_n K 1 dX8_solve_15 rfl ?_
    refine aw_callVI K dX8_solve_16 vw_X8_86_8 (c_f_Se_atEnd l _) hg (by omega) ob_125 rfl (Nat.le_of_ble_eq_true rfl) rfl rfl (fun r2 σ1 _ => ?_)
    exact aw_iret dX8_solve_19
  · refine aw_aload_n K 0 dX8_solve_4 rfl ?_
    refine aw_getR K (c' := 90) dX8_solve_5 lk_X8_25_8 fd_125_0 ?_
    refine aw_callVI K dX8_solve_8 vw_X8_82_9 (c_f_To_isDone l 90 TW.c) hg (by omega) ob_90 rfl (Nat.le_of_ble_eq_true rfl) rfl rfl (fun r4 σ3 _ => ?_)
    refine aw_if_eq K 20 dX8_solve_11 (by decide) (fun h_2 => ?_) (fun h_2 => ?_)
    · refine aw_aload_n K 0 dX8_solve_20 rfl ?_
      refine aw_iload_n K 1 dX8_solve_21 rfl ?_
      refine aw_callVL K dX8_solve_22 vw_X8_89_8 (c_f_Se_key l _) hg (by omega) ob_125 rfl (Nat.le_of_ble_eq_true rfl) rfl rfl (fun r6 σ5 _ => ?_)
      refine aw_lstore_n K (i := 2) (lv' := [(2, .long r6), (0, rf P 125), (1, .int x1)]) dX8_solve_25 rfl (Nat.le_of_ble_eq_true rfl) rfl ?_
      refine aw_lload_n K 0 dX8_solve_26 rfl ?_
      refine aw_ldc2 K (x := (-7046029254386353131 : Int64)) dX8_solve_27 (in_r33 _ (List.mem_of_getElem? (i := 15) rfl)) ?_
      refine aw_lmul K dX8_solve_30 ?_
      refine aw_bipush K dX8_solve_31 kb_53 ?_
      refine aw_lushr K dX8_solve_33 ?_
      refine aw_l2i K dX8_solve_34 ?_
      refine aw_istoreX K (i := 4) (lv' := fun y7 => [(4, .int y7), (2, .long r6), (0, rf P 125), (1, .int x1)]) dX8_solve_35 (Nat.le_of_ble_eq_true rfl) (fun _ => rfl) (fun y7 => ?_)
      refine aw_aload_n K 2 dX8_solve_37 rfl ?_
      refine aw_getR K (c' := 128) dX8_solve_38 lk_X8_18_8 fd_125_6 ?_
      refine aw_iload K 0 dX8_solve_41 rfl ?_
      refine aw_gd (fun h_3 => ?_)
      refine aw_ldl K dX8_solve_43 ad_128 h_3 rfl ?_
      refine aw_lload_n K 1 dX8_solve_44 rfl ?_
      refine aw_lcmp K dX8_solve_45 ?_
      refine aw_if_ne K 57 dX8_solve_46 (by decide) (fun h_4 => ?_) (fun h_4 => ?_)
      · refine aw_aload_n K 2 dX8_solve_57 rfl ?_
        refine aw_callVI K dX8_solve_58 vw_X8_59_8 (c_f_Se_atFirst l) hg (by omega) ob_125 rfl (Nat.le_of_ble_eq_true rfl) rfl rfl (fun r9 σ8 _ => ?_)
        refine aw_istore K (i := 5) (lv' := [(5, .int r9), (4, .int y7), (2, .long r6), (0, rf P 125), (1, .int x1)]) dX8_solve_61 (Nat.le_of_ble_eq_true rfl) rfl ?_
        refine aw_getsCN K dX8_solve_63 (List.mem_of_getElem? (i := 2) rfl) ?_
        refine aw_astore K (i := 6) (lv' := [(6, .ref (pC P)), (5, .int r9), (4, .int y7), (2, .long r6), (0, rf P 125), (1, .int x1)]) dX8_solve_66 (Nat.le_of_ble_eq_true rfl) rfl ?_
        refine aw_aload K 0 dX8_solve_68 rfl ?_
        refine aw_tlenC K dX8_solve_70 ?_
        refine aw_istore K (i := 7) (lv' := [(7, .int (21 : Int32)), (6, .ref (pC P)), (5, .int r9), (4, .int y7), (2, .long r6), (0, rf P 125), (1, .int x1)]) dX8_solve_71 (Nat.le_of_ble_eq_true rfl) rfl ?_
        refine aw_iconst K dX8_solve_73 ki_0 ?_
        refine aw_istore K (i := 8) (lv' := [(8, .int (0 : Int32)), (7, .int (21 : Int32)), (6, .ref (pC P)), (5, .int r9), (4, .int y7), (2, .long r6), (0, rf P 125), (1, .int x1)]) dX8_solve_74 (Nat.le_of_ble_eq_true rfl) rfl ?_
        refine aw_lv [6, 7, 5, 4, 3, 2, 1, 0] rfl ?_
        exact (a_f_Se_solve_S_76 l hfR hkR K hg FU) _ _ _ _ _ _ _
      · refine aw_aload_n K 2 dX8_solve_49 rfl ?_
        refine aw_getR K (c' := 129) dX8_solve_50 lk_X8_22_8 fd_125_7 ?_
        refine aw_iload K 0 dX8_solve_53 rfl ?_
        refine aw_gd (fun h_5 => ?_)
        refine aw_ald K dX8_solve_55 ad_129 h_5 rfl ?_
        exact aw_iret dX8_solve_56
    · refine aw_aload_n K 0 dX8_solve_14 rfl ?_
      refine aw_iload_n K 1 dX8_solve_15 rfl ?_
      refine aw_callVI K dX8_solve_16 vw_X8_86_8 (c_f_Se_atEnd l _) hg (by omega) ob_125 rfl (Nat.le_of_ble_eq_true rfl) rfl rfl (fun r11 σ10 _ => ?_)
      exact aw_iret dX8_solve_19
theorem c_f_Se_solve (l : Launch) (d : Nat) : ∀ (z0 : Int32), CTI l (3 + d * 2) yX8_solve cX8_solve 10 ((some .int)) (fun P => [rf P 125, .int z0]) (fun σ => f_Se_solve d z0 σ) := by
  induction d with
  | zero =>
    intro z0 P σ r σ' hf
    cases hf
  | succ d ih =>
    intro z0
    have q := c_f_Se_solve_S l ih (by omega) z0
    rw [show 3 + d * 2 + 2 = 3 + (d + 1) * 2 by omega] at q
    exact q
set_option maxRecDepth 100000 in
set_option maxHeartbeats 4000000 in
theorem c_f_To_copyPlayFrom (l : Launch) (t : Nat) (ht : TW t) (a1 : Nat) (ha1 : TW a1) : CTV l (2) yX9_copyPlayFrom cX9_copyPlayFrom 2 (none) (fun P => [rf P t, rf P a1]) (fun σ => f_To_copyPlayFrom t a1 σ) := by
  refine met_V rfl rfl rfl (fun P => Nat.le_of_ble_eq_true rfl) (fun P G K hg σ => ?_)
  change AW P G 2 (EV P G cX9_copyPlayFrom) (f_To_copyPlayFrom t a1 σ) σ 0 [(0, rf P t), (1, rf P a1)] []
  rw [f_To_copyPlayFrom]
  refine aw_aload_n K 0 dX9_copyPlayFrom_0 rfl ?_
  refine aw_getR K (c' := t + 1) dX9_copyPlayFrom_1 lk_X9_12_9 (fd_To_1 ht) ?_
  refine aw_aload_n K 1 dX9_copyPlayFrom_4 rfl ?_
  refine aw_getR K (c' := a1 + 1) dX9_copyPlayFrom_5 lk_X9_12_9 (fd_To_1 ha1) ?_
  refine aw_callVV K dX9_copyPlayFrom_8 vw_X9_70_7 (c_f_Ru_copyFrom l (t + 1) (kd_To_1 ht) (a1 + 1) (kd_To_1 ha1)) hg (by decide) (ob_Ru (kd_To_1 ht)) rfl (Nat.le_of_ble_eq_true rfl) rfl rfl (fun _ σ1 _ => ?_)
  refine aw_aload_n K 0 dX9_copyPlayFrom_11 rfl ?_
  refine aw_aload_n K 1 dX9_copyPlayFrom_12 rfl ?_
  refine aw_getI K dX9_copyPlayFrom_13 lk_X9_74_9 (fd_To_2 ha1) ?_
  refine aw_putI K dX9_copyPlayFrom_16 lp_X9_74_9 (fd_To_2 ht) (fun σ2 => ?_)
  refine aw_aload_n K 1 dX9_copyPlayFrom_19 rfl ?_
  refine aw_getR K (c' := a1 + 8) dX9_copyPlayFrom_20 lk_X9_18_9 (fd_To_3 ha1) ?_
  refine aw_iconst K dX9_copyPlayFrom_23 ki_0 ?_
  refine aw_aload_n K 0 dX9_copyPlayFrom_24 rfl ?_
  refine aw_getR K (c' := t + 8) dX9_copyPlayFrom_25 lk_X9_18_9 (fd_To_3 ht) ?_
  refine aw_iconst K dX9_copyPlayFrom_28 ki_0 ?_
  refine aw_bipush K dX9_copyPlayFrom_29 kb_6 ?_
  refine aw_gd (fun h_1 => ?_)
  refine aw_copy K dX9_copyPlayFrom_31 (by decide) (in_r30 _ (List.mem_of_getElem? (i := 15) rfl)) (in_r24 _ (List.mem_of_getElem? (i := 4) rfl)) (in_r24 _ (List.mem_of_getElem? (i := 5) rfl)) (in_r24 _ (List.mem_of_getElem? (i := 6) rfl)) (Nat.le_of_ble_eq_true rfl) (kd_To_3 ha1) (kd_To_3 ht) h_1 (fun σ3 => ?_)
  refine aw_aload_n K 1 dX9_copyPlayFrom_34 rfl ?_
  refine aw_getR K (c' := a1 + 9) dX9_copyPlayFrom_35 lk_X9_22_9 (fd_To_4 ha1) ?_
  refine aw_iconst K dX9_copyPlayFrom_38 ki_0 ?_
  refine aw_aload_n K 0 dX9_copyPlayFrom_39 rfl ?_
  refine aw_getR K (c' := t + 9) dX9_copyPlayFrom_40 lk_X9_22_9 (fd_To_4 ht) ?_
  refine aw_iconst K dX9_copyPlayFrom_43 ki_0 ?_
  refine aw_bipush K dX9_copyPlayFrom_44 kb_6 ?_
  refine aw_gd (fun h_2 => ?_)
  refine aw_copy K dX9_copyPlayFrom_46 (by decide) (in_r30 _ (List.mem_of_getElem? (i := 15) rfl)) (in_r24 _ (List.mem_of_getElem? (i := 4) rfl)) (in_r24 _ (List.mem_of_getElem? (i := 5) rfl)) (in_r24 _ (List.mem_of_getElem? (i := 6) rfl)) (Nat.le_of_ble_eq_true rfl) (kd_To_4 ha1) (kd_To_4 ht) h_2 (fun σ4 => ?_)
  refine aw_aload_n K 1 dX9_copyPlayFrom_49 rfl ?_
  refine aw_getR K (c' := a1 + 10) dX9_copyPlayFrom_50 lk_X9_25_9 (fd_To_5 ha1) ?_
  refine aw_iconst K dX9_copyPlayFrom_53 ki_0 ?_
  refine aw_aload_n K 0 dX9_copyPlayFrom_54 rfl ?_
  refine aw_getR K (c' := t + 10) dX9_copyPlayFrom_55 lk_X9_25_9 (fd_To_5 ht) ?_
  refine aw_iconst K dX9_copyPlayFrom_58 ki_0 ?_
  refine aw_bipush K dX9_copyPlayFrom_59 kb_6 ?_
  refine aw_gd (fun h_3 => ?_)
  refine aw_copy K dX9_copyPlayFrom_61 (by decide) (in_r30 _ (List.mem_of_getElem? (i := 15) rfl)) (in_r24 _ (List.mem_of_getElem? (i := 4) rfl)) (in_r24 _ (List.mem_of_getElem? (i := 5) rfl)) (in_r24 _ (List.mem_of_getElem? (i := 6) rfl)) (Nat.le_of_ble_eq_true rfl) (kd_To_5 ha1) (kd_To_5 ht) h_3 (fun σ5 => ?_)
  refine aw_aload_n K 1 dX9_copyPlayFrom_64 rfl ?_
  refine aw_getR K (c' := a1 + 11) dX9_copyPlayFrom_65 lk_X9_28_9 (fd_To_6 ha1) ?_
  refine aw_iconst K dX9_copyPlayFrom_68 ki_0 ?_
  refine aw_aload_n K 0 dX9_copyPlayFrom_69 rfl ?_
  refine aw_getR K (c' := t + 11) dX9_copyPlayFrom_70 lk_X9_28_9 (fd_To_6 ht) ?_
  refine aw_iconst K dX9_copyPlayFrom_73 ki_0 ?_
  refine aw_bipush K dX9_copyPlayFrom_74 kb_6 ?_
  refine aw_gd (fun h_4 => ?_)
  refine aw_copy K dX9_copyPlayFrom_76 (by decide) (in_r30 _ (List.mem_of_getElem? (i := 15) rfl)) (in_r24 _ (List.mem_of_getElem? (i := 4) rfl)) (in_r24 _ (List.mem_of_getElem? (i := 5) rfl)) (in_r24 _ (List.mem_of_getElem? (i := 6) rfl)) (Nat.le_of_ble_eq_true rfl) (kd_To_6 ha1) (kd_To_6 ht) h_4 (fun σ6 => ?_)
  refine aw_aload_n K 1 dX9_copyPlayFrom_79 rfl ?_
  refine aw_getR K (c' := a1 + 12) dX9_copyPlayFrom_80 lk_X9_31_9 (fd_To_7 ha1) ?_
  refine aw_iconst K dX9_copyPlayFrom_83 ki_0 ?_
  refine aw_aload_n K 0 dX9_copyPlayFrom_84 rfl ?_
  refine aw_getR K (c' := t + 12) dX9_copyPlayFrom_85 lk_X9_31_9 (fd_To_7 ht) ?_
  refine aw_iconst K dX9_copyPlayFrom_88 ki_0 ?_
  refine aw_bipush K dX9_copyPlayFrom_89 kb_6 ?_
  refine aw_gd (fun h_5 => ?_)
  refine aw_copy K dX9_copyPlayFrom_91 (by decide) (in_r30 _ (List.mem_of_getElem? (i := 15) rfl)) (in_r24 _ (List.mem_of_getElem? (i := 4) rfl)) (in_r24 _ (List.mem_of_getElem? (i := 5) rfl)) (in_r24 _ (List.mem_of_getElem? (i := 6) rfl)) (Nat.le_of_ble_eq_true rfl) (kd_To_7 ha1) (kd_To_7 ht) h_5 (fun σ7 => ?_)
  refine aw_aload_n K 0 dX9_copyPlayFrom_94 rfl ?_
  refine aw_aload_n K 1 dX9_copyPlayFrom_95 rfl ?_
  refine aw_getI K dX9_copyPlayFrom_96 lk_X9_83_9 (fd_To_8 ha1) ?_
  refine aw_putI K dX9_copyPlayFrom_99 lp_X9_83_9 (fd_To_8 ht) (fun σ8 => ?_)
  refine aw_aload_n K 0 dX9_copyPlayFrom_102 rfl ?_
  refine aw_aload_n K 1 dX9_copyPlayFrom_103 rfl ?_
  refine aw_getI K dX9_copyPlayFrom_104 lk_X9_86_9 (fd_To_9 ha1) ?_
  refine aw_putI K dX9_copyPlayFrom_107 lp_X9_86_9 (fd_To_9 ht) (fun σ9 => ?_)
  refine aw_aload_n K 1 dX9_copyPlayFrom_110 rfl ?_
  refine aw_getR K (c' := a1 + 13) dX9_copyPlayFrom_111 lk_X9_34_9 (fd_To_10 ha1) ?_
  refine aw_iconst K dX9_copyPlayFrom_114 ki_0 ?_
  refine aw_aload_n K 0 dX9_copyPlayFrom_115 rfl ?_
  refine aw_getR K (c' := t + 13) dX9_copyPlayFrom_116 lk_X9_34_9 (fd_To_10 ht) ?_
  refine aw_iconst K dX9_copyPlayFrom_119 ki_0 ?_
  refine aw_bipush K dX9_copyPlayFrom_120 kb_8 ?_
  refine aw_gd (fun h_6 => ?_)
  refine aw_copy K dX9_copyPlayFrom_122 (by decide) (in_r30 _ (List.mem_of_getElem? (i := 15) rfl)) (in_r24 _ (List.mem_of_getElem? (i := 4) rfl)) (in_r24 _ (List.mem_of_getElem? (i := 5) rfl)) (in_r24 _ (List.mem_of_getElem? (i := 6) rfl)) (Nat.le_of_ble_eq_true rfl) (kd_To_10 ha1) (kd_To_10 ht) h_6 (fun σ10 => ?_)
  refine aw_aload_n K 1 dX9_copyPlayFrom_125 rfl ?_
  refine aw_getR K (c' := a1 + 14) dX9_copyPlayFrom_126 lk_X9_37_9 (fd_To_11 ha1) ?_
  refine aw_iconst K dX9_copyPlayFrom_129 ki_0 ?_
  refine aw_aload_n K 0 dX9_copyPlayFrom_130 rfl ?_
  refine aw_getR K (c' := t + 14) dX9_copyPlayFrom_131 lk_X9_37_9 (fd_To_11 ht) ?_
  refine aw_iconst K dX9_copyPlayFrom_134 ki_0 ?_
  refine aw_bipush K dX9_copyPlayFrom_135 kb_8 ?_
  refine aw_gd (fun h_7 => ?_)
  refine aw_copy K dX9_copyPlayFrom_137 (by decide) (in_r30 _ (List.mem_of_getElem? (i := 15) rfl)) (in_r24 _ (List.mem_of_getElem? (i := 4) rfl)) (in_r24 _ (List.mem_of_getElem? (i := 5) rfl)) (in_r24 _ (List.mem_of_getElem? (i := 6) rfl)) (Nat.le_of_ble_eq_true rfl) (kd_To_11 ha1) (kd_To_11 ht) h_7 (fun σ11 => ?_)
  refine aw_aload_n K 0 dX9_copyPlayFrom_140 rfl ?_
  refine aw_aload_n K 1 dX9_copyPlayFrom_141 rfl ?_
  refine aw_getI K dX9_copyPlayFrom_142 lk_X9_89_9 (fd_To_12 ha1) ?_
  refine aw_putI K dX9_copyPlayFrom_145 lp_X9_89_9 (fd_To_12 ht) (fun σ12 => ?_)
  exact aw_vret dX9_copyPlayFrom_148
set_option maxRecDepth 100000 in
set_option maxHeartbeats 4000000 in
theorem c_f_Se_ask (l : Launch) (x1 : Int32) : CTV l (0) yX8_ask cX8_ask 2 (none) (fun P => [rf P 125, .int x1]) (fun σ => f_Se_ask x1 σ) := by
  refine met_V rfl rfl rfl (fun P => Nat.le_of_ble_eq_true rfl) (fun P G K hg σ => ?_)
  change AW P G 2 (EV P G cX8_ask) (f_Se_ask x1 σ) σ 0 [(0, rf P 125), (1, .int x1)] []
  rw [f_Se_ask]
  refine aw_aload_n K 0 dX8_ask_0 rfl ?_
  refine aw_iload_n K 1 dX8_ask_1 rfl ?_
  refine aw_putI K dX8_ask_2 lp_X8_43_8 fd_125_4 (fun σ1 => ?_)
  refine aw_aload_n K 0 dX8_ask_5 rfl ?_
  refine aw_dup K dX8_ask_6 rfl ?_
  refine aw_getJ K dX8_ask_7 lk_X8_47_8 fd_125_5 ?_
  refine aw_lconst K dX8_ask_10 kl_1 ?_
  refine aw_ladd K dX8_ask_11 ?_
  refine aw_putJ K dX8_ask_12 lp_X8_47_8 fd_125_5 (fun σ2 => ?_)
  exact aw_vret dX8_ask_15
set_option maxRecDepth 100000 in
set_option maxHeartbeats 4000000 in
theorem a_f_Se_first_127 (l : Launch) (a1 : Nat) (ha1 : TW a1) {P : PT} {G : GT} (K : CX P G cX8_first RX8 (29) 9) (hg : gl G = l) {K32 : Int32 → Int32 → SG → Option (Int32 × SG)} (hK32 : ∀ (x4 : Int32) (x5 : Int32) (σ : SG), AW P G 9 (EI P G cX8_first) (K32 x4 x5 σ) σ 32 [(0, rf P 125), (4, .int x4), (5, .int x5)] []) : ∀ (x4 : Int32) (x5 : Int32) (x7 : Int32) (σ : SG), AW P G 9 (EI P G cX8_first) (f_Se_first_127 a1 K32 x4 x5 x7 σ) σ 127 [(0, rf P 125), (4, .int x4), (5, .int x5), (7, .int x7)] [] := by
  intro x4 x5 x7 σ
  rw [f_Se_first_127]
  refine aw_iload K 3 dX8_first_127 rfl ?_
  refine aw_if_ge K 135 dX8_first_129 (by decide) (fun h_1 => ?_) (fun h_1 => ?_)
  · refine aw_aload_n K 0 dX8_first_135 rfl ?_
    refine aw_getR K (c' := 90) dX8_first_136 lk_X8_25_8 fd_125_0 ?_
    refine aw_iload K 3 dX8_first_139 rfl ?_
    refine aw_callVI K dX8_first_141 vw_X8_67_9 (c_f_To_step l 90 TW.c _) hg (by decide) ob_90 rfl (Nat.le_of_ble_eq_true rfl) rfl rfl (fun r2 σ1 _ => ?_)
    refine aw_pop K dX8_first_144 rfl ?_
    refine aw_aload_n K 0 dX8_first_145 rfl ?_
    refine aw_getR K (c' := 126) dX8_first_146 lk_X8_9_8 fd_125_1 ?_
    refine aw_iload K 1 dX8_first_149 rfl ?_
    refine aw_iload K 3 dX8_first_151 rfl ?_
    refine aw_gd (fun h_2 => ?_)
    refine aw_ast K dX8_first_153 ad_126 h_2 rfl (fun σ3 => ?_)
    refine aw_iinc K (lv' := fun y4 => [(4, .int y4), (0, rf P 125), (5, .int x5), (7, .int x7)]) 1 dX8_first_154 rfl ki_1 (Nat.le_of_ble_eq_true rfl) (fun _ => rfl) (fun y4 => ?_)
    refine aw_iinc K (lv' := fun y5 => [(5, .int y5), (4, .int y4), (0, rf P 125), (7, .int x7)]) 2 dX8_first_157 rfl ki_m1 (Nat.le_of_ble_eq_true rfl) (fun _ => rfl) (fun y5 => ?_)
    refine aw_goto K 32 dX8_first_160 (by decide) ?_
    refine aw_lv [2, 1, 0] rfl ?_
    exact hK32 _ _ _
  · refine aw_iload K 1 dX8_first_132 rfl ?_
    exact aw_iret dX8_first_134
set_option maxRecDepth 100000 in
set_option maxHeartbeats 4000000 in
theorem a_f_Se_first_62 (l : Launch) (a1 : Nat) (ha1 : TW a1) {P : PT} {G : GT} (K : CX P G cX8_first RX8 (29) 9) (hg : gl G = l) {K32 : Int32 → Int32 → SG → Option (Int32 × SG)} (hK32 : ∀ (x4 : Int32) (x5 : Int32) (σ : SG), AW P G 9 (EI P G cX8_first) (K32 x4 x5 σ) σ 32 [(0, rf P 125), (4, .int x4), (5, .int x5)] []) : ∀ (n : Nat) (x4 : Int32) (x5 : Int32) (x6 : Int32) (x7 : Int32) (x8 : Int32) (σ : SG), AW P G 9 (EI P G cX8_first) (f_Se_first_62 a1 K32 n x4 x5 x6 x7 x8 σ) σ 62 [(0, rf P 125), (4, .int x4), (5, .int x5), (6, .int x6), (7, .int x7), (8, .int x8)] [] := by
  intro n
  induction n with
  | zero =>
    intro x4 x5 x6 x7 x8 σ
    rw [f_Se_first_62]
    exact aw_none
  | succ n ih =>
    intro x4 x5 x6 x7 x8 σ
    rw [f_Se_first_62]
    refine aw_iload K 5 dX8_first_62 rfl ?_
    refine aw_getsCN K dX8_first_64 (List.mem_of_getElem? (i := 2) rfl) ?_
    refine aw_tlenC K dX8_first_67 ?_
    refine aw_icmp_ge K 127 dX8_first_68 (by decide) (fun h_1 => ?_) (fun h_1 => ?_)
    · refine aw_lv [0, 1, 2, 4] rfl ?_
      exact (a_f_Se_first_127 l a1 ha1 K hg hK32) _ _ _ _
    · refine aw_iload K 4 dX8_first_71 rfl ?_
      refine aw_if_ge K 127 dX8_first_73 (by decide) (fun h_2 => ?_) (fun h_2 => ?_)
      · refine aw_lv [0, 1, 2, 4] rfl ?_
        exact (a_f_Se_first_127 l a1 ha1 K hg hK32) _ _ _ _
      · refine aw_aload_n K 0 dX8_first_76 rfl ?_
        refine aw_getR K (c' := 90) dX8_first_77 lk_X8_25_8 fd_125_0 ?_
        refine aw_getsCN K dX8_first_80 (List.mem_of_getElem? (i := 2) rfl) ?_
        refine aw_iload K 5 dX8_first_83 rfl ?_
        refine aw_gd (fun h_3 => ?_)
        refine aw_tC K dX8_first_85 h_3 ?_
        refine aw_callVI K dX8_first_86 vw_X8_55_9 (c_f_To_canBe l 90 TW.c _) hg (by decide) ob_90 rfl (Nat.le_of_ble_eq_true rfl) rfl rfl (fun r2 σ1 _ => ?_)
        refine aw_if_eq K 121 dX8_first_89 (by decide) (fun h_4 => ?_) (fun h_4 => ?_)
        · refine aw_iinc K (lv' := fun y3 => [(8, .int y3), (0, rf P 125), (4, .int x4), (5, .int x5), (6, .int x6), (7, .int x7)]) 5 dX8_first_121 rfl ki_1 (Nat.le_of_ble_eq_true rfl) (fun _ => rfl) (fun y3 => ?_)
          refine aw_goto K 62 dX8_first_124 (by decide) ?_
          refine aw_lv [1, 2, 3, 4, 5, 0] rfl ?_
          exact ih _ _ _ _ _ _
        · refine aw_aload_n K 0 dX8_first_92 rfl ?_
          refine aw_getsCN K dX8_first_93 (List.mem_of_getElem? (i := 2) rfl) ?_
          refine aw_iload K 5 dX8_first_96 rfl ?_
          refine aw_gd (fun h_5 => ?_)
          refine aw_tC K dX8_first_98 h_5 ?_
          refine aw_iload K 2 dX8_first_99 rfl ?_
          refine aw_aload_n K 0 dX8_first_101 rfl ?_
          refine aw_callVI K dX8_first_102 vw_X8_59_8 (c_f_Se_atFirst l) hg (by decide) ob_125 rfl (Nat.le_of_ble_eq_true rfl) rfl rfl (fun r5 σ4 _ => ?_)
          refine aw_callVI K dX8_first_105 vw_X8_63_8 (c_f_Se_joinedWith l (c_f_Se_solve l DP) (by decide) _ _ _) hg (by decide) ob_125 rfl (Nat.le_of_ble_eq_true rfl) rfl rfl (fun r7 σ6 _ => ?_)
          refine aw_iload K 3 dX8_first_108 rfl ?_
          refine aw_icmp_ne K 121 dX8_first_110 (by decide) (fun h_6 => ?_) (fun h_6 => ?_)
          · refine aw_iinc K (lv' := fun y8 => [(8, .int y8), (0, rf P 125), (4, .int x4), (5, .int x5), (6, .int x6), (7, .int x7)]) 5 dX8_first_121 rfl ki_1 (Nat.le_of_ble_eq_true rfl) (fun _ => rfl) (fun y8 => ?_)
            refine aw_goto K 62 dX8_first_124 (by decide) ?_
            refine aw_lv [1, 2, 3, 4, 5, 0] rfl ?_
            exact ih _ _ _ _ _ _
          · refine aw_getsCN K dX8_first_113 (List.mem_of_getElem? (i := 2) rfl) ?_
            refine aw_iload K 5 dX8_first_116 rfl ?_
            refine aw_gd (fun h_7 => ?_)
            refine aw_tC K dX8_first_118 h_7 ?_
            refine aw_istoreX K (i := 7) (lv' := fun y9 => [(7, .int y9), (0, rf P 125), (4, .int x4), (5, .int x5), (6, .int x6), (8, .int x8)]) dX8_first_119 (Nat.le_of_ble_eq_true rfl) (fun _ => rfl) (fun y9 => ?_)
            refine aw_iinc K (lv' := fun y10 => [(8, .int y10), (7, .int y9), (0, rf P 125), (4, .int x4), (5, .int x5), (6, .int x6)]) 5 dX8_first_121 rfl ki_1 (Nat.le_of_ble_eq_true rfl) (fun _ => rfl) (fun y10 => ?_)
            refine aw_goto K 62 dX8_first_124 (by decide) ?_
            refine aw_lv [2, 3, 4, 5, 1, 0] rfl ?_
            exact ih _ _ _ _ _ _
set_option maxRecDepth 100000 in
set_option maxHeartbeats 4000000 in
theorem a_f_Se_first_32 (l : Launch) (a1 : Nat) (ha1 : TW a1) {P : PT} {G : GT} (K : CX P G cX8_first RX8 (29) 9) (hg : gl G = l) : ∀ (n : Nat) (x4 : Int32) (x5 : Int32) (σ : SG), AW P G 9 (EI P G cX8_first) (f_Se_first_32 a1 n x4 x5 σ) σ 32 [(0, rf P 125), (4, .int x4), (5, .int x5)] [] := by
  intro n
  induction n with
  | zero =>
    intro x4 x5 σ
    rw [f_Se_first_32]
    exact aw_none
  | succ n ih =>
    intro x4 x5 σ
    rw [f_Se_first_32]
    refine aw_iload K 2 dX8_first_32 rfl ?_
    refine aw_if_le K 163 dX8_first_34 (by decide) (fun h_1 => ?_) (fun h_1 => ?_)
    · refine aw_iload K 1 dX8_first_163 rfl ?_
      exact aw_iret dX8_first_165
    · refine aw_iload K 1 dX8_first_37 rfl ?_
      refine aw_aload_n K 0 dX8_first_39 rfl ?_
      refine aw_getR K (c' := 126) dX8_first_40 lk_X8_9_8 fd_125_1 ?_
      refine aw_alen K (v := (6 : Int32)) dX8_first_43 ad_126 (by decide) (by decide) ?_
      refine aw_icmp_ge K 163 dX8_first_44 (by decide) (fun h_2 => ?_) (fun h_2 => ?_)
      · refine aw_iload K 1 dX8_first_163 rfl ?_
        exact aw_iret dX8_first_165
      · refine aw_aload_n K 0 dX8_first_47 rfl ?_
        refine aw_iload K 2 dX8_first_48 rfl ?_
        refine aw_callVI K dX8_first_50 vw_X8_39_8 (c_f_Se_solve l DP _) hg (by decide) ob_125 rfl (Nat.le_of_ble_eq_true rfl) rfl rfl (fun r2 σ1 _ => ?_)
        refine aw_istore K (i := 6) (lv' := [(6, .int r2), (0, rf P 125), (4, .int x4), (5, .int x5)]) dX8_first_53 (Nat.le_of_ble_eq_true rfl) rfl ?_
        refine aw_bipush K dX8_first_55 kb_m3 ?_
        refine aw_istore K (i := 7) (lv' := [(7, .int (-3 : Int32)), (6, .int r2), (0, rf P 125), (4, .int x4), (5, .int x5)]) dX8_first_57 (Nat.le_of_ble_eq_true rfl) rfl ?_
        refine aw_iconst K dX8_first_59 ki_0 ?_
        refine aw_istore K (i := 8) (lv' := [(8, .int (0 : Int32)), (7, .int (-3 : Int32)), (6, .int r2), (0, rf P 125), (4, .int x4), (5, .int x5)]) dX8_first_60 (Nat.le_of_ble_eq_true rfl) rfl ?_
        refine aw_lv [3, 4, 5, 2, 1, 0] rfl ?_
        exact (a_f_Se_first_62 l a1 ha1 K hg ih FU) _ _ _ _ _ _
set_option maxRecDepth 100000 in
set_option maxHeartbeats 4000000 in
theorem c_f_Se_first (l : Launch) (a1 : Nat) (ha1 : TW a1) (x2 : Int32) (x3 : Int32) : CTI l (29) yX8_first cX8_first 9 ((some .int)) (fun P => [rf P 125, rf P a1, .int x2, .int x3]) (fun σ => f_Se_first a1 x2 x3 σ) := by
  refine met_I rfl rfl rfl (fun P => Nat.le_of_ble_eq_true rfl) (fun P G K hg σ => ?_)
  change AW P G 9 (EI P G cX8_first) (f_Se_first a1 x2 x3 σ) σ 0 [(0, rf P 125), (1, rf P a1), (2, .int x2), (3, .int x3)] []
  rw [f_Se_first]
  refine aw_aload_n K 0 dX8_first_0 rfl ?_
  refine aw_getR K (c' := 90) dX8_first_1 lk_X8_25_8 fd_125_0 ?_
  refine aw_aload_n K 1 dX8_first_4 rfl ?_
  refine aw_callVV K dX8_first_5 vw_X8_29_9 (c_f_To_copyPlayFrom l 90 TW.c a1 ha1) hg (by decide) ob_90 rfl (Nat.le_of_ble_eq_true rfl) rfl rfl (fun _ σ1 _ => ?_)
  refine aw_aload_n K 0 dX8_first_8 rfl ?_
  refine aw_iload_n K 2 dX8_first_9 rfl ?_
  refine aw_callVV K dX8_first_10 vw_X8_35_8 (c_f_Se_ask l _) hg (by decide) ob_125 rfl (Nat.le_of_ble_eq_true rfl) rfl rfl (fun _ σ2 _ => ?_)
  refine aw_aload_n K 0 dX8_first_13 rfl ?_
  refine aw_iload_n K 3 dX8_first_14 rfl ?_
  refine aw_callVI K dX8_first_15 vw_X8_39_8 (c_f_Se_solve l DP _) hg (by decide) ob_125 rfl (Nat.le_of_ble_eq_true rfl) rfl rfl (fun r4 σ3 _ => ?_)
  refine aw_ldc K (x := (1000000 : Int32)) dX8_first_18 (in_r32 _ (List.mem_of_getElem? (i := 23) rfl)) ?_
  refine aw_icmp_lt K 26 dX8_first_20 (by decide) (fun h_1 => ?_) (fun h_1 => ?_)
  · refine aw_iconst K dX8_first_26 ki_0 ?_
    refine aw_istore K (i := 4) (lv' := [(4, .int (0 : Int32)), (0, rf P 125), (1, rf P a1), (2, .int x2), (3, .int x3)]) dX8_first_27 (Nat.le_of_ble_eq_true rfl) rfl ?_
    refine aw_iload_n K 4 dX8_first_29 rfl ?_
    refine aw_istore K (i := 5) (lv' := [(5, .int x3), (4, .int (0 : Int32)), (0, rf P 125), (1, rf P a1), (2, .int x2), (3, .int x3)]) dX8_first_30 (Nat.le_of_ble_eq_true rfl) rfl ?_
    refine aw_lv [2, 1, 0] rfl ?_
    exact (a_f_Se_first_32 l a1 ha1 K hg FU) _ _ _
  · refine aw_bipush K dX8_first_23 kb_m3 ?_
    exact aw_iret dX8_first_25
set_option maxRecDepth 100000 in
set_option maxHeartbeats 4000000 in
theorem c_f_H_fewest (l : Launch) : CTI l (30) yX11_fewest cX11_fewest 1 ((some .int)) (fun P => [rf P 0]) (fun σ => f_H_fewest σ) := by
  refine met_I rfl rfl rfl (fun P => Nat.le_of_ble_eq_true rfl) (fun P G K hg σ => ?_)
  change AW P G 1 (EI P G cX11_fewest) (f_H_fewest σ) σ 0 [(0, rf P 0)] []
  rw [f_H_fewest]
  refine aw_aload_n K 0 dX11_fewest_0 rfl ?_
  refine aw_getR K (c' := 125) dX11_fewest_1 lk_X11_56_11 fd_0_5 ?_
  refine aw_aload_n K 0 dX11_fewest_4 rfl ?_
  refine aw_getR K (c' := 20) dX11_fewest_5 lk_X11_41_11 fd_0_1 ?_
  refine aw_iconst K dX11_fewest_8 ki_0 ?_
  refine aw_bipush K dX11_fewest_9 kb_6 ?_
  refine aw_callVI K dX11_fewest_11 vw_X11_171_8 (c_f_Se_first l 20 TW.a _ _) hg (by decide) ob_125 rfl (Nat.le_of_ble_eq_true rfl) rfl rfl (fun r2 σ1 _ => ?_)
  exact aw_iret dX11_fewest_14
set_option maxRecDepth 100000 in
set_option maxHeartbeats 4000000 in
theorem c_f_H_ith (l : Launch) (x1 : Int32) : CTI l (30) yX11_ith cX11_ith 2 ((some .int)) (fun P => [rf P 0, .int x1]) (fun σ => f_H_ith x1 σ) := by
  refine met_I rfl rfl rfl (fun P => Nat.le_of_ble_eq_true rfl) (fun P G K hg σ => ?_)
  change AW P G 2 (EI P G cX11_ith) (f_H_ith x1 σ) σ 0 [(0, rf P 0), (1, .int x1)] []
  rw [f_H_ith]
  refine aw_iload_n K 1 dX11_ith_0 rfl ?_
  refine aw_iconst K dX11_ith_1 ki_0 ?_
  refine aw_iconst K dX11_ith_2 ki_5 ?_
  refine aw_callSI K dX11_ith_3 vw_X11_72 (c_f_H_isIn l _ _ _) hg (by decide) rfl (Nat.le_of_ble_eq_true rfl) rfl rfl (fun r2 σ1 _ => ?_)
  refine aw_if_ne K 11 dX11_ith_6 (by decide) (fun h_1 => ?_) (fun h_1 => ?_)
  · refine aw_iload_n K 1 dX11_ith_11 rfl ?_
    refine aw_aload_n K 0 dX11_ith_12 rfl ?_
    refine aw_getR K (c' := 125) dX11_ith_13 lk_X11_56_11 fd_0_5 ?_
    refine aw_aload_n K 0 dX11_ith_16 rfl ?_
    refine aw_getR K (c' := 20) dX11_ith_17 lk_X11_41_11 fd_0_1 ?_
    refine aw_iconst K dX11_ith_20 ki_0 ?_
    refine aw_bipush K dX11_ith_21 kb_6 ?_
    refine aw_callVI K dX11_ith_23 vw_X11_171_8 (c_f_Se_first l 20 TW.a _ _) hg (by decide) ob_125 rfl (Nat.le_of_ble_eq_true rfl) rfl rfl (fun r4 σ3 _ => ?_)
    refine aw_icmp_ge K 41 dX11_ith_26 (by decide) (fun h_2 => ?_) (fun h_2 => ?_)
    · refine aw_bipush K dX11_ith_41 kb_m3 ?_
      exact aw_iret dX11_ith_43
    · refine aw_aload_n K 0 dX11_ith_29 rfl ?_
      refine aw_getR K (c' := 125) dX11_ith_30 lk_X11_56_11 fd_0_5 ?_
      refine aw_getR K (c' := 126) dX11_ith_33 lk_X11_175_8 fd_125_1 ?_
      refine aw_iload_n K 1 dX11_ith_36 rfl ?_
      refine aw_gd (fun h_3 => ?_)
      refine aw_ald K dX11_ith_37 ad_126 h_3 rfl ?_
      refine aw_goto K 43 dX11_ith_38 (by decide) ?_
      exact aw_iret dX11_ith_43
  · refine aw_iconst K dX11_ith_9 ki_m1 ?_
    exact aw_iret dX11_ith_10
set_option maxRecDepth 100000 in
set_option maxHeartbeats 4000000 in
theorem c_f_Se_told (l : Launch) (a1 : Nat) (ha1 : TW a1) (x2 : Int32) (x3 : Int32) : CTI l (28) yX8_told cX8_told 4 ((some .int)) (fun P => [rf P 125, rf P a1, .int x2, .int x3]) (fun σ => f_Se_told a1 x2 x3 σ) := by
  refine met_I rfl rfl rfl (fun P => Nat.le_of_ble_eq_true rfl) (fun P G K hg σ => ?_)
  change AW P G 4 (EI P G cX8_told) (f_Se_told a1 x2 x3 σ) σ 0 [(0, rf P 125), (1, rf P a1), (2, .int x2), (3, .int x3)] []
  rw [f_Se_told]
  refine aw_aload_n K 0 dX8_told_0 rfl ?_
  refine aw_getR K (c' := 90) dX8_told_1 lk_X8_25_8 fd_125_0 ?_
  refine aw_aload_n K 1 dX8_told_4 rfl ?_
  refine aw_callVV K dX8_told_5 vw_X8_29_9 (c_f_To_copyPlayFrom l 90 TW.c a1 ha1) hg (by decide) ob_90 rfl (Nat.le_of_ble_eq_true rfl) rfl rfl (fun _ σ1 _ => ?_)
  refine aw_aload_n K 0 dX8_told_8 rfl ?_
  refine aw_iload_n K 2 dX8_told_9 rfl ?_
  refine aw_callVV K dX8_told_10 vw_X8_35_8 (c_f_Se_ask l _) hg (by decide) ob_125 rfl (Nat.le_of_ble_eq_true rfl) rfl rfl (fun _ σ2 _ => ?_)
  refine aw_aload_n K 0 dX8_told_13 rfl ?_
  refine aw_iload_n K 3 dX8_told_14 rfl ?_
  refine aw_callVI K dX8_told_15 vw_X8_39_8 (c_f_Se_solve l DP _) hg (by decide) ob_125 rfl (Nat.le_of_ble_eq_true rfl) rfl rfl (fun r4 σ3 _ => ?_)
  exact aw_iret dX8_told_18
set_option maxRecDepth 100000 in
set_option maxHeartbeats 4000000 in
theorem c_f_H_ways (l : Launch) (x1 : Int32) : CTI l (29) yX11_ways cX11_ways 2 ((some .int)) (fun P => [rf P 0, .int x1]) (fun σ => f_H_ways x1 σ) := by
  refine met_I rfl rfl rfl (fun P => Nat.le_of_ble_eq_true rfl) (fun P G K hg σ => ?_)
  change AW P G 2 (EI P G cX11_ways) (f_H_ways x1 σ) σ 0 [(0, rf P 0), (1, .int x1)] []
  rw [f_H_ways]
  refine aw_iload_n K 1 dX11_ways_0 rfl ?_
  refine aw_iconst K dX11_ways_1 ki_0 ?_
  refine aw_bipush K dX11_ways_2 kb_6 ?_
  refine aw_callSI K dX11_ways_4 vw_X11_72 (c_f_H_isIn l _ _ _) hg (by decide) rfl (Nat.le_of_ble_eq_true rfl) rfl rfl (fun r2 σ1 _ => ?_)
  refine aw_if_eq K 26 dX11_ways_7 (by decide) (fun h_1 => ?_) (fun h_1 => ?_)
  · refine aw_iconst K dX11_ways_26 ki_m1 ?_
    exact aw_iret dX11_ways_27
  · refine aw_aload_n K 0 dX11_ways_10 rfl ?_
    refine aw_getR K (c' := 125) dX11_ways_11 lk_X11_56_11 fd_0_5 ?_
    refine aw_aload_n K 0 dX11_ways_14 rfl ?_
    refine aw_getR K (c' := 20) dX11_ways_15 lk_X11_41_11 fd_0_1 ?_
    refine aw_iconst K dX11_ways_18 ki_1 ?_
    refine aw_iload_n K 1 dX11_ways_19 rfl ?_
    refine aw_callVI K dX11_ways_20 vw_X11_178_8 (c_f_Se_told l 20 TW.a _ _) hg (by decide) ob_125 rfl (Nat.le_of_ble_eq_true rfl) rfl rfl (fun r4 σ3 _ => ?_)
    refine aw_goto K 27 dX11_ways_23 (by decide) ?_
    exact aw_iret dX11_ways_27
set_option maxRecDepth 100000 in
set_option maxHeartbeats 4000000 in
theorem c_f_H_most (l : Launch) (x1 : Int32) : CTI l (29) yX11_most cX11_most 2 ((some .int)) (fun P => [rf P 0, .int x1]) (fun σ => f_H_most x1 σ) := by
  refine met_I rfl rfl rfl (fun P => Nat.le_of_ble_eq_true rfl) (fun P G K hg σ => ?_)
  change AW P G 2 (EI P G cX11_most) (f_H_most x1 σ) σ 0 [(0, rf P 0), (1, .int x1)] []
  rw [f_H_most]
  refine aw_iload_n K 1 dX11_most_0 rfl ?_
  refine aw_iconst K dX11_most_1 ki_0 ?_
  refine aw_bipush K dX11_most_2 kb_6 ?_
  refine aw_callSI K dX11_most_4 vw_X11_72 (c_f_H_isIn l _ _ _) hg (by decide) rfl (Nat.le_of_ble_eq_true rfl) rfl rfl (fun r2 σ1 _ => ?_)
  refine aw_if_eq K 26 dX11_most_7 (by decide) (fun h_1 => ?_) (fun h_1 => ?_)
  · refine aw_iconst K dX11_most_26 ki_m1 ?_
    exact aw_iret dX11_most_27
  · refine aw_aload_n K 0 dX11_most_10 rfl ?_
    refine aw_getR K (c' := 125) dX11_most_11 lk_X11_56_11 fd_0_5 ?_
    refine aw_aload_n K 0 dX11_most_14 rfl ?_
    refine aw_getR K (c' := 20) dX11_most_15 lk_X11_41_11 fd_0_1 ?_
    refine aw_iconst K dX11_most_18 ki_2 ?_
    refine aw_iload_n K 1 dX11_most_19 rfl ?_
    refine aw_callVI K dX11_most_20 vw_X11_178_8 (c_f_Se_told l 20 TW.a _ _) hg (by decide) ob_125 rfl (Nat.le_of_ble_eq_true rfl) rfl rfl (fun r4 σ3 _ => ?_)
    refine aw_goto K 27 dX11_most_23 (by decide) ?_
    exact aw_iret dX11_most_27
set_option maxRecDepth 100000 in
set_option maxHeartbeats 4000000 in
theorem c_f_H_cheapest (l : Launch) (x1 : Int32) : CTI l (29) yX11_cheapest cX11_cheapest 3 ((some .int)) (fun P => [rf P 0, .int x1]) (fun σ => f_H_cheapest x1 σ) := by
  refine met_I rfl rfl rfl (fun P => Nat.le_of_ble_eq_true rfl) (fun P G K hg σ => ?_)
  change AW P G 3 (EI P G cX11_cheapest) (f_H_cheapest x1 σ) σ 0 [(0, rf P 0), (1, .int x1)] []
  rw [f_H_cheapest]
  refine aw_iload_n K 1 dX11_cheapest_0 rfl ?_
  refine aw_iconst K dX11_cheapest_1 ki_0 ?_
  refine aw_bipush K dX11_cheapest_2 kb_6 ?_
  refine aw_callSI K dX11_cheapest_4 vw_X11_72 (c_f_H_isIn l _ _ _) hg (by decide) rfl (Nat.le_of_ble_eq_true rfl) rfl rfl (fun r2 σ1 _ => ?_)
  refine aw_if_ne K 12 dX11_cheapest_7 (by decide) (fun h_1 => ?_) (fun h_1 => ?_)
  · refine aw_aload_n K 0 dX11_cheapest_12 rfl ?_
    refine aw_getR K (c' := 125) dX11_cheapest_13 lk_X11_56_11 fd_0_5 ?_
    refine aw_aload_n K 0 dX11_cheapest_16 rfl ?_
    refine aw_getR K (c' := 20) dX11_cheapest_17 lk_X11_41_11 fd_0_1 ?_
    refine aw_iconst K dX11_cheapest_20 ki_3 ?_
    refine aw_iload_n K 1 dX11_cheapest_21 rfl ?_
    refine aw_callVI K dX11_cheapest_22 vw_X11_178_8 (c_f_Se_told l 20 TW.a _ _) hg (by decide) ob_125 rfl (Nat.le_of_ble_eq_true rfl) rfl rfl (fun r4 σ3 _ => ?_)
    refine aw_istore_n K (i := 2) (lv' := [(2, .int r4), (0, rf P 0), (1, .int x1)]) dX11_cheapest_25 rfl (Nat.le_of_ble_eq_true rfl) rfl ?_
    refine aw_iload_n K 0 dX11_cheapest_26 rfl ?_
    refine aw_ldc K (x := (1000000 : Int32)) dX11_cheapest_27 (in_r37 _ (List.mem_of_getElem? (i := 17) rfl)) ?_
    refine aw_icmp_ge K 36 dX11_cheapest_29 (by decide) (fun h_2 => ?_) (fun h_2 => ?_)
    · refine aw_bipush K dX11_cheapest_36 kb_m3 ?_
      exact aw_iret dX11_cheapest_38
    · refine aw_iload_n K 0 dX11_cheapest_32 rfl ?_
      refine aw_goto K 38 dX11_cheapest_33 (by decide) ?_
      exact aw_iret dX11_cheapest_38
  · refine aw_iconst K dX11_cheapest_10 ki_m1 ?_
    exact aw_iret dX11_cheapest_11
set_option maxRecDepth 100000 in
set_option maxHeartbeats 4000000 in
theorem c_f_H_cheaply (l : Launch) (x1 : Int32) (x2 : Int32) : CTI l (30) yX11_cheaply cX11_cheaply 3 ((some .int)) (fun P => [rf P 0, .int x1, .int x2]) (fun σ => f_H_cheaply x1 x2 σ) := by
  refine met_I rfl rfl rfl (fun P => Nat.le_of_ble_eq_true rfl) (fun P G K hg σ => ?_)
  change AW P G 3 (EI P G cX11_cheaply) (f_H_cheaply x1 x2 σ) σ 0 [(0, rf P 0), (1, .int x1), (2, .int x2)] []
  rw [f_H_cheaply]
  refine aw_iload_n K 1 dX11_cheaply_0 rfl ?_
  refine aw_iconst K dX11_cheaply_1 ki_0 ?_
  refine aw_bipush K dX11_cheaply_2 kb_6 ?_
  refine aw_callSI K dX11_cheaply_4 vw_X11_72 (c_f_H_isIn l _ _ _) hg (by decide) rfl (Nat.le_of_ble_eq_true rfl) rfl rfl (fun r2 σ1 _ => ?_)
  refine aw_if_eq K 19 dX11_cheaply_7 (by decide) (fun h_1 => ?_) (fun h_1 => ?_)
  · refine aw_iconst K dX11_cheaply_19 ki_m1 ?_
    exact aw_iret dX11_cheaply_20
  · refine aw_iload_n K 2 dX11_cheaply_10 rfl ?_
    refine aw_iconst K dX11_cheaply_11 ki_0 ?_
    refine aw_iconst K dX11_cheaply_12 ki_5 ?_
    refine aw_callSI K dX11_cheaply_13 vw_X11_72 (c_f_H_isIn l _ _ _) hg (by decide) rfl (Nat.le_of_ble_eq_true rfl) rfl rfl (fun r4 σ3 _ => ?_)
    refine aw_if_ne K 21 dX11_cheaply_16 (by decide) (fun h_2 => ?_) (fun h_2 => ?_)
    · refine aw_iload_n K 2 dX11_cheaply_21 rfl ?_
      refine aw_aload_n K 0 dX11_cheaply_22 rfl ?_
      refine aw_getR K (c' := 125) dX11_cheaply_23 lk_X11_56_11 fd_0_5 ?_
      refine aw_aload_n K 0 dX11_cheaply_26 rfl ?_
      refine aw_getR K (c' := 20) dX11_cheaply_27 lk_X11_41_11 fd_0_1 ?_
      refine aw_iconst K dX11_cheaply_30 ki_3 ?_
      refine aw_iload_n K 1 dX11_cheaply_31 rfl ?_
      refine aw_callVI K dX11_cheaply_32 vw_X11_171_8 (c_f_Se_first l 20 TW.a _ _) hg (by decide) ob_125 rfl (Nat.le_of_ble_eq_true rfl) rfl rfl (fun r6 σ5 _ => ?_)
      refine aw_icmp_ge K 50 dX11_cheaply_35 (by decide) (fun h_3 => ?_) (fun h_3 => ?_)
      · refine aw_bipush K dX11_cheaply_50 kb_m3 ?_
        exact aw_iret dX11_cheaply_52
      · refine aw_aload_n K 0 dX11_cheaply_38 rfl ?_
        refine aw_getR K (c' := 125) dX11_cheaply_39 lk_X11_56_11 fd_0_5 ?_
        refine aw_getR K (c' := 126) dX11_cheaply_42 lk_X11_175_8 fd_125_1 ?_
        refine aw_iload_n K 2 dX11_cheaply_45 rfl ?_
        refine aw_gd (fun h_4 => ?_)
        refine aw_ald K dX11_cheaply_46 ad_126 h_4 rfl ?_
        refine aw_goto K 52 dX11_cheaply_47 (by decide) ?_
        exact aw_iret dX11_cheaply_52
    · refine aw_iconst K dX11_cheaply_19 ki_m1 ?_
      exact aw_iret dX11_cheaply_20
set_option maxRecDepth 100000 in
set_option maxHeartbeats 4000000 in
theorem a_f_Se_whoBars_30 (l : Launch) (a1 : Nat) (ha1 : TW a1) {P : PT} {G : GT} (K : CX P G cX8_whoBars RX8 (28) 4) (hg : gl G = l) : ∀ (n : Nat) (x2 : Int32) (x3 : Int32) (σ : SG), AW P G 4 (EI P G cX8_whoBars) (f_Se_whoBars_30 a1 n x2 x3 σ) σ 30 [(0, rf P 125), (2, .int x2), (3, .int x3)] [] := by
  intro n
  induction n with
  | zero =>
    intro x2 x3 σ
    rw [f_Se_whoBars_30]
    exact aw_none
  | succ n ih =>
    intro x2 x3 σ
    rw [f_Se_whoBars_30]
    refine aw_iload_n K 2 dX8_whoBars_30 rfl ?_
    refine aw_aload_n K 0 dX8_whoBars_31 rfl ?_
    refine aw_getR K (c' := 90) dX8_whoBars_32 lk_X8_25_8 fd_125_0 ?_
    refine aw_getI K dX8_whoBars_35 lk_X8_70_9 fd_90_2 ?_
    refine aw_icmp_ge K 83 dX8_whoBars_38 (by decide) (fun h_1 => ?_) (fun h_1 => ?_)
    · refine aw_aload_n K 0 dX8_whoBars_83 rfl ?_
      refine aw_getR K (c' := 90) dX8_whoBars_84 lk_X8_25_8 fd_125_0 ?_
      refine aw_iconst K dX8_whoBars_87 ki_0 ?_
      refine aw_putI K dX8_whoBars_88 lp_X8_73_9 fd_90_9 (fun σ1 => ?_)
      refine aw_iload_n K 1 dX8_whoBars_91 rfl ?_
      exact aw_iret dX8_whoBars_92
    · refine aw_aload_n K 0 dX8_whoBars_41 rfl ?_
      refine aw_getR K (c' := 90) dX8_whoBars_42 lk_X8_25_8 fd_125_0 ?_
      refine aw_iconst K dX8_whoBars_45 ki_1 ?_
      refine aw_iload_n K 2 dX8_whoBars_46 rfl ?_
      refine aw_ishl K dX8_whoBars_47 ?_
      refine aw_putI K dX8_whoBars_48 lp_X8_73_9 fd_90_9 (fun σ2 => ?_)
      refine aw_aload_n K 0 dX8_whoBars_51 rfl ?_
      refine aw_iconst K dX8_whoBars_52 ki_0 ?_
      refine aw_callVV K dX8_whoBars_53 vw_X8_35_8 (c_f_Se_ask l _) hg (by decide) ob_125 rfl (Nat.le_of_ble_eq_true rfl) rfl rfl (fun _ σ3 _ => ?_)
      refine aw_aload_n K 0 dX8_whoBars_56 rfl ?_
      refine aw_bipush K dX8_whoBars_57 kb_6 ?_
      refine aw_callVI K dX8_whoBars_59 vw_X8_39_8 (c_f_Se_solve l DP _) hg (by decide) ob_125 rfl (Nat.le_of_ble_eq_true rfl) rfl rfl (fun r5 σ4 _ => ?_)
      refine aw_ldc K (x := (1000000 : Int32)) dX8_whoBars_62 (in_r32 _ (List.mem_of_getElem? (i := 23) rfl)) ?_
      refine aw_icmp_ge K 77 dX8_whoBars_64 (by decide) (fun h_2 => ?_) (fun h_2 => ?_)
      · refine aw_iinc K (lv' := fun y6 => [(3, .int y6), (0, rf P 125), (2, .int x2)]) 2 dX8_whoBars_77 rfl ki_1 (Nat.le_of_ble_eq_true rfl) (fun _ => rfl) (fun y6 => ?_)
        refine aw_goto K 30 dX8_whoBars_80 (by decide) ?_
        refine aw_lv [1, 2, 0] rfl ?_
        exact ih _ _ _
      · refine aw_iload_n K 1 dX8_whoBars_67 rfl ?_
        refine aw_aload_n K 0 dX8_whoBars_68 rfl ?_
        refine aw_getR K (c' := 90) dX8_whoBars_69 lk_X8_25_8 fd_125_0 ?_
        refine aw_getI K dX8_whoBars_72 lk_X8_73_9 fd_90_9 ?_
        refine aw_ior K dX8_whoBars_75 ?_
        refine aw_istoreX_n K (i := 2) (lv' := fun y7 => [(2, .int y7), (0, rf P 125), (3, .int x3)]) dX8_whoBars_76 rfl (Nat.le_of_ble_eq_true rfl) (fun _ => rfl) (fun y7 => ?_)
        refine aw_iinc K (lv' := fun y8 => [(3, .int y8), (2, .int y7), (0, rf P 125)]) 2 dX8_whoBars_77 rfl ki_1 (Nat.le_of_ble_eq_true rfl) (fun _ => rfl) (fun y8 => ?_)
        refine aw_goto K 30 dX8_whoBars_80 (by decide) ?_
        refine aw_lv [2, 1, 0] rfl ?_
        exact ih _ _ _
set_option maxRecDepth 100000 in
set_option maxHeartbeats 4000000 in
theorem c_f_Se_whoBars (l : Launch) (a1 : Nat) (ha1 : TW a1) : CTI l (28) yX8_whoBars cX8_whoBars 4 ((some .int)) (fun P => [rf P 125, rf P a1]) (fun σ => f_Se_whoBars a1 σ) := by
  refine met_I rfl rfl rfl (fun P => Nat.le_of_ble_eq_true rfl) (fun P G K hg σ => ?_)
  change AW P G 4 (EI P G cX8_whoBars) (f_Se_whoBars a1 σ) σ 0 [(0, rf P 125), (1, rf P a1)] []
  rw [f_Se_whoBars]
  refine aw_aload_n K 0 dX8_whoBars_0 rfl ?_
  refine aw_getR K (c' := 90) dX8_whoBars_1 lk_X8_25_8 fd_125_0 ?_
  refine aw_aload_n K 1 dX8_whoBars_4 rfl ?_
  refine aw_callVV K dX8_whoBars_5 vw_X8_29_9 (c_f_To_copyPlayFrom l 90 TW.c a1 ha1) hg (by decide) ob_90 rfl (Nat.le_of_ble_eq_true rfl) rfl rfl (fun _ σ1 _ => ?_)
  refine aw_aload_n K 0 dX8_whoBars_8 rfl ?_
  refine aw_iconst K dX8_whoBars_9 ki_0 ?_
  refine aw_callVV K dX8_whoBars_10 vw_X8_35_8 (c_f_Se_ask l _) hg (by decide) ob_125 rfl (Nat.le_of_ble_eq_true rfl) rfl rfl (fun _ σ2 _ => ?_)
  refine aw_aload_n K 0 dX8_whoBars_13 rfl ?_
  refine aw_bipush K dX8_whoBars_14 kb_6 ?_
  refine aw_callVI K dX8_whoBars_16 vw_X8_39_8 (c_f_Se_solve l DP _) hg (by decide) ob_125 rfl (Nat.le_of_ble_eq_true rfl) rfl rfl (fun r4 σ3 _ => ?_)
  refine aw_ldc K (x := (1000000 : Int32)) dX8_whoBars_19 (in_r32 _ (List.mem_of_getElem? (i := 23) rfl)) ?_
  refine aw_icmp_ge K 26 dX8_whoBars_21 (by decide) (fun h_1 => ?_) (fun h_1 => ?_)
  · refine aw_iconst K dX8_whoBars_26 ki_0 ?_
    refine aw_istore_n K (i := 2) (lv' := [(2, .int (0 : Int32)), (0, rf P 125), (1, rf P a1)]) dX8_whoBars_27 rfl (Nat.le_of_ble_eq_true rfl) rfl ?_
    refine aw_iconst K dX8_whoBars_28 ki_0 ?_
    refine aw_istore_n K (i := 3) (lv' := [(3, .int (0 : Int32)), (2, .int (0 : Int32)), (0, rf P 125), (1, rf P a1)]) dX8_whoBars_29 rfl (Nat.le_of_ble_eq_true rfl) rfl ?_
    refine aw_lv [2, 1, 0] rfl ?_
    exact (a_f_Se_whoBars_30 l a1 ha1 K hg FU) _ _ _
  · refine aw_iconst K dX8_whoBars_24 ki_0 ?_
    exact aw_iret dX8_whoBars_25
set_option maxRecDepth 100000 in
set_option maxHeartbeats 4000000 in
theorem c_f_H_bars (l : Launch) : CTI l (29) yX11_bars cX11_bars 1 ((some .int)) (fun P => [rf P 0]) (fun σ => f_H_bars σ) := by
  refine met_I rfl rfl rfl (fun P => Nat.le_of_ble_eq_true rfl) (fun P G K hg σ => ?_)
  change AW P G 1 (EI P G cX11_bars) (f_H_bars σ) σ 0 [(0, rf P 0)] []
  rw [f_H_bars]
  refine aw_aload_n K 0 dX11_bars_0 rfl ?_
  refine aw_getR K (c' := 125) dX11_bars_1 lk_X11_56_11 fd_0_5 ?_
  refine aw_aload_n K 0 dX11_bars_4 rfl ?_
  refine aw_getR K (c' := 20) dX11_bars_5 lk_X11_41_11 fd_0_1 ?_
  refine aw_callVI K dX11_bars_8 vw_X11_181_8 (c_f_Se_whoBars l 20 TW.a) hg (by decide) ob_125 rfl (Nat.le_of_ble_eq_true rfl) rfl rfl (fun r2 σ1 _ => ?_)
  exact aw_iret dX11_bars_11
set_option maxRecDepth 100000 in
set_option maxHeartbeats 4000000 in
theorem a_f_Se_whichJar_26 (l : Launch) (a1 : Nat) (ha1 : TW a1) {P : PT} {G : GT} (K : CX P G cX8_whichJar RX8 (28) 6) (hg : gl G = l) : ∀ (n : Nat) (x2 : Int32) (x3 : Int32) (x4 : Int32) (σ : SG), AW P G 6 (EI P G cX8_whichJar) (f_Se_whichJar_26 a1 n x2 x3 x4 σ) σ 26 [(0, rf P 125), (2, .int x2), (3, .int x3), (4, .int x4)] [] := by
  intro n
  induction n with
  | zero =>
    intro x2 x3 x4 σ
    rw [f_Se_whichJar_26]
    exact aw_none
  | succ n ih =>
    intro x2 x3 x4 σ
    rw [f_Se_whichJar_26]
    refine aw_iload K 3 dX8_whichJar_26 rfl ?_
    refine aw_bipush K dX8_whichJar_28 kb_8 ?_
    refine aw_icmp_ge K 103 dX8_whichJar_30 (by decide) (fun h_1 => ?_) (fun h_1 => ?_)
    · refine aw_iload_n K 2 dX8_whichJar_103 rfl ?_
      exact aw_iret dX8_whichJar_104
    · refine aw_iload_n K 1 dX8_whichJar_33 rfl ?_
      refine aw_aload_n K 0 dX8_whichJar_34 rfl ?_
      refine aw_getR K (c' := 90) dX8_whichJar_35 lk_X8_25_8 fd_125_0 ?_
      refine aw_getI K dX8_whichJar_38 lk_X8_70_9 fd_90_2 ?_
      refine aw_icmp_ge K 103 dX8_whichJar_41 (by decide) (fun h_2 => ?_) (fun h_2 => ?_)
      · refine aw_iload_n K 2 dX8_whichJar_103 rfl ?_
        exact aw_iret dX8_whichJar_104
      · refine aw_aload_n K 0 dX8_whichJar_44 rfl ?_
        refine aw_getR K (c' := 90) dX8_whichJar_45 lk_X8_25_8 fd_125_0 ?_
        refine aw_getR K (c' := 104) dX8_whichJar_48 lk_X8_76_9 fd_90_11 ?_
        refine aw_iload K 3 dX8_whichJar_51 rfl ?_
        refine aw_dup2_11 K dX8_whichJar_53 rfl rfl ?_
        refine aw_gd (fun h_3 => ?_)
        refine aw_ald K dX8_whichJar_54 ad_104 h_3 rfl ?_
        refine aw_iconst K dX8_whichJar_55 ki_1 ?_
        refine aw_iadd K dX8_whichJar_56 ?_
        refine aw_gd (fun h_4 => ?_)
        refine aw_ast K dX8_whichJar_57 ad_104 h_4 rfl (fun σ1 => ?_)
        refine aw_aload_n K 0 dX8_whichJar_58 rfl ?_
        refine aw_iconst K dX8_whichJar_59 ki_2 ?_
        refine aw_callVV K dX8_whichJar_60 vw_X8_35_8 (c_f_Se_ask l _) hg (by decide) ob_125 rfl (Nat.le_of_ble_eq_true rfl) rfl rfl (fun _ σ2 _ => ?_)
        refine aw_aload_n K 0 dX8_whichJar_63 rfl ?_
        refine aw_bipush K dX8_whichJar_64 kb_6 ?_
        refine aw_callVI K dX8_whichJar_66 vw_X8_39_8 (c_f_Se_solve l DP _) hg (by decide) ob_125 rfl (Nat.le_of_ble_eq_true rfl) rfl rfl (fun r4 σ3 _ => ?_)
        refine aw_istore K (i := 5) (lv' := [(5, .int r4), (0, rf P 125), (2, .int x2), (3, .int x3), (4, .int x4)]) dX8_whichJar_69 (Nat.le_of_ble_eq_true rfl) rfl ?_
        refine aw_aload_n K 1 dX8_whichJar_71 rfl ?_
        refine aw_getR K (c' := 90) dX8_whichJar_72 lk_X8_25_8 fd_125_0 ?_
        refine aw_getR K (c' := 104) dX8_whichJar_75 lk_X8_76_9 fd_90_11 ?_
        refine aw_iload K 4 dX8_whichJar_78 rfl ?_
        refine aw_dup2_11 K dX8_whichJar_80 rfl rfl ?_
        refine aw_gd (fun h_5 => ?_)
        refine aw_ald K dX8_whichJar_81 ad_104 h_5 rfl ?_
        refine aw_iconst K dX8_whichJar_82 ki_1 ?_
        refine aw_isub K dX8_whichJar_83 ?_
        refine aw_gd (fun h_6 => ?_)
        refine aw_ast K dX8_whichJar_84 ad_104 h_6 rfl (fun σ5 => ?_)
        refine aw_iload K 0 dX8_whichJar_85 rfl ?_
        refine aw_iload_n K 2 dX8_whichJar_87 rfl ?_
        refine aw_icmp_le K 97 dX8_whichJar_88 (by decide) (fun h_7 => ?_) (fun h_7 => ?_)
        · refine aw_iinc K (lv' := fun y6 => [(4, .int y6), (5, .int r4), (0, rf P 125), (2, .int x2), (3, .int x3)]) 4 dX8_whichJar_97 rfl ki_1 (Nat.le_of_ble_eq_true rfl) (fun _ => rfl) (fun y6 => ?_)
          refine aw_goto K 26 dX8_whichJar_100 (by decide) ?_
          refine aw_lv [2, 3, 4, 0] rfl ?_
          exact ih _ _ _ _
        · refine aw_iload K 0 dX8_whichJar_91 rfl ?_
          refine aw_istore_n K (i := 2) (lv' := [(2, .int r4), (5, .int r4), (0, rf P 125), (3, .int x3), (4, .int x4)]) dX8_whichJar_93 rfl (Nat.le_of_ble_eq_true rfl) rfl ?_
          refine aw_iload K 4 dX8_whichJar_94 rfl ?_
          refine aw_istore_n K (i := 3) (lv' := [(3, .int x4), (2, .int r4), (5, .int r4), (0, rf P 125), (4, .int x4)]) dX8_whichJar_96 rfl (Nat.le_of_ble_eq_true rfl) rfl ?_
          refine aw_iinc K (lv' := fun y7 => [(4, .int y7), (3, .int x4), (2, .int r4), (5, .int r4), (0, rf P 125)]) 4 dX8_whichJar_97 rfl ki_1 (Nat.le_of_ble_eq_true rfl) (fun _ => rfl) (fun y7 => ?_)
          refine aw_goto K 26 dX8_whichJar_100 (by decide) ?_
          refine aw_lv [4, 2, 1, 0] rfl ?_
          exact ih _ _ _ _
set_option maxRecDepth 100000 in
set_option maxHeartbeats 4000000 in
theorem c_f_Se_whichJar (l : Launch) (a1 : Nat) (ha1 : TW a1) : CTI l (28) yX8_whichJar cX8_whichJar 6 ((some .int)) (fun P => [rf P 125, rf P a1]) (fun σ => f_Se_whichJar a1 σ) := by
  refine met_I rfl rfl rfl (fun P => Nat.le_of_ble_eq_true rfl) (fun P G K hg σ => ?_)
  change AW P G 6 (EI P G cX8_whichJar) (f_Se_whichJar a1 σ) σ 0 [(0, rf P 125), (1, rf P a1)] []
  rw [f_Se_whichJar]
  refine aw_aload_n K 0 dX8_whichJar_0 rfl ?_
  refine aw_getR K (c' := 90) dX8_whichJar_1 lk_X8_25_8 fd_125_0 ?_
  refine aw_aload_n K 1 dX8_whichJar_4 rfl ?_
  refine aw_callVV K dX8_whichJar_5 vw_X8_29_9 (c_f_To_copyPlayFrom l 90 TW.c a1 ha1) hg (by decide) ob_90 rfl (Nat.le_of_ble_eq_true rfl) rfl rfl (fun _ σ1 _ => ?_)
  refine aw_aload_n K 0 dX8_whichJar_8 rfl ?_
  refine aw_iconst K dX8_whichJar_9 ki_2 ?_
  refine aw_callVV K dX8_whichJar_10 vw_X8_35_8 (c_f_Se_ask l _) hg (by decide) ob_125 rfl (Nat.le_of_ble_eq_true rfl) rfl rfl (fun _ σ2 _ => ?_)
  refine aw_aload_n K 0 dX8_whichJar_13 rfl ?_
  refine aw_bipush K dX8_whichJar_14 kb_6 ?_
  refine aw_callVI K dX8_whichJar_16 vw_X8_39_8 (c_f_Se_solve l DP _) hg (by decide) ob_125 rfl (Nat.le_of_ble_eq_true rfl) rfl rfl (fun r4 σ3 _ => ?_)
  refine aw_istore_n K (i := 2) (lv' := [(2, .int r4), (0, rf P 125), (1, rf P a1)]) dX8_whichJar_19 rfl (Nat.le_of_ble_eq_true rfl) rfl ?_
  refine aw_bipush K dX8_whichJar_20 kb_m3 ?_
  refine aw_istore_n K (i := 3) (lv' := [(3, .int (-3 : Int32)), (2, .int r4), (0, rf P 125), (1, rf P a1)]) dX8_whichJar_22 rfl (Nat.le_of_ble_eq_true rfl) rfl ?_
  refine aw_iconst K dX8_whichJar_23 ki_0 ?_
  refine aw_istore K (i := 4) (lv' := [(4, .int (0 : Int32)), (3, .int (-3 : Int32)), (2, .int r4), (0, rf P 125), (1, rf P a1)]) dX8_whichJar_24 (Nat.le_of_ble_eq_true rfl) rfl ?_
  refine aw_lv [3, 2, 1, 0] rfl ?_
  exact (a_f_Se_whichJar_26 l a1 ha1 K hg FU) _ _ _ _
set_option maxRecDepth 100000 in
set_option maxHeartbeats 4000000 in
theorem c_f_H_jars (l : Launch) : CTI l (29) yX11_jars cX11_jars 1 ((some .int)) (fun P => [rf P 0]) (fun σ => f_H_jars σ) := by
  refine met_I rfl rfl rfl (fun P => Nat.le_of_ble_eq_true rfl) (fun P G K hg σ => ?_)
  change AW P G 1 (EI P G cX11_jars) (f_H_jars σ) σ 0 [(0, rf P 0)] []
  rw [f_H_jars]
  refine aw_aload_n K 0 dX11_jars_0 rfl ?_
  refine aw_getR K (c' := 125) dX11_jars_1 lk_X11_56_11 fd_0_5 ?_
  refine aw_aload_n K 0 dX11_jars_4 rfl ?_
  refine aw_getR K (c' := 20) dX11_jars_5 lk_X11_41_11 fd_0_1 ?_
  refine aw_callVI K dX11_jars_8 vw_X11_185_8 (c_f_Se_whichJar l 20 TW.a) hg (by decide) ob_125 rfl (Nat.le_of_ble_eq_true rfl) rfl rfl (fun r2 σ1 _ => ?_)
  exact aw_iret dX11_jars_11
set_option maxRecDepth 100000 in
set_option maxHeartbeats 4000000 in
theorem a_f_Se_greatestFee_17 (l : Launch) (a1 : Nat) (ha1 : TW a1) {P : PT} {G : GT} (K : CX P G cX8_greatestFee RX8 (28) 6) (hg : gl G = l) : ∀ (n : Nat) (x2 : Int32) (x3 : Int32) (x4 : Int32) (x5 : Int32) (σ : SG), AW P G 6 (EI P G cX8_greatestFee) (f_Se_greatestFee_17 a1 n x2 x3 x4 x5 σ) σ 17 [(0, rf P 125), (2, .int x2), (3, .int x3), (4, .int x4), (5, .int x5)] [] := by
  intro n
  induction n with
  | zero =>
    intro x2 x3 x4 x5 σ
    rw [f_Se_greatestFee_17]
    exact aw_none
  | succ n ih =>
    intro x2 x3 x4 x5 σ
    rw [f_Se_greatestFee_17]
    refine aw_iload K 4 dX8_greatestFee_17 rfl ?_
    refine aw_bipush K dX8_greatestFee_19 kb_50 ?_
    refine aw_icmp_gt K 86 dX8_greatestFee_21 (by decide) (fun h_1 => ?_) (fun h_1 => ?_)
    · refine aw_iload_n K 2 dX8_greatestFee_86 rfl ?_
      refine aw_if_ge K 95 dX8_greatestFee_87 (by decide) (fun h_2 => ?_) (fun h_2 => ?_)
      · refine aw_iload_n K 2 dX8_greatestFee_95 rfl ?_
        exact aw_iret dX8_greatestFee_96
      · refine aw_bipush K dX8_greatestFee_90 kb_m3 ?_
        refine aw_goto K 96 dX8_greatestFee_92 (by decide) ?_
        exact aw_iret dX8_greatestFee_96
    · refine aw_iload K 3 dX8_greatestFee_24 rfl ?_
      refine aw_iload_n K 2 dX8_greatestFee_26 rfl ?_
      refine aw_isub K dX8_greatestFee_27 ?_
      refine aw_iconst K dX8_greatestFee_28 ki_1 ?_
      refine aw_icmp_le K 86 dX8_greatestFee_29 (by decide) (fun h_3 => ?_) (fun h_3 => ?_)
      · refine aw_iload_n K 2 dX8_greatestFee_86 rfl ?_
        refine aw_if_ge K 95 dX8_greatestFee_87 (by decide) (fun h_4 => ?_) (fun h_4 => ?_)
        · refine aw_iload_n K 2 dX8_greatestFee_95 rfl ?_
          exact aw_iret dX8_greatestFee_96
        · refine aw_bipush K dX8_greatestFee_90 kb_m3 ?_
          refine aw_goto K 96 dX8_greatestFee_92 (by decide) ?_
          exact aw_iret dX8_greatestFee_96
      · refine aw_aload_n K 0 dX8_greatestFee_32 rfl ?_
        refine aw_getR K (c' := 90) dX8_greatestFee_33 lk_X8_25_8 fd_125_0 ?_
        refine aw_iload_n K 2 dX8_greatestFee_36 rfl ?_
        refine aw_iload K 3 dX8_greatestFee_37 rfl ?_
        refine aw_iadd K dX8_greatestFee_39 ?_
        refine aw_iconst K dX8_greatestFee_40 ki_2 ?_
        refine aw_idiv K dX8_greatestFee_41 (by decide) ?_
        refine aw_putI K dX8_greatestFee_42 lp_X8_79_9 fd_90_12 (fun σ1 => ?_)
        refine aw_aload_n K 0 dX8_greatestFee_45 rfl ?_
        refine aw_iconst K dX8_greatestFee_46 ki_0 ?_
        refine aw_callVV K dX8_greatestFee_47 vw_X8_35_8 (c_f_Se_ask l _) hg (by decide) ob_125 rfl (Nat.le_of_ble_eq_true rfl) rfl rfl (fun _ σ2 _ => ?_)
        refine aw_aload_n K 0 dX8_greatestFee_50 rfl ?_
        refine aw_iload_n K 1 dX8_greatestFee_51 rfl ?_
        refine aw_callVI K dX8_greatestFee_52 vw_X8_39_8 (c_f_Se_solve l DP _) hg (by decide) ob_125 rfl (Nat.le_of_ble_eq_true rfl) rfl rfl (fun r4 σ3 _ => ?_)
        refine aw_ldc K (x := (1000000 : Int32)) dX8_greatestFee_55 (in_r32 _ (List.mem_of_getElem? (i := 23) rfl)) ?_
        refine aw_icmp_ge K 71 dX8_greatestFee_57 (by decide) (fun h_5 => ?_) (fun h_5 => ?_)
        · refine aw_aload_n K 0 dX8_greatestFee_71 rfl ?_
          refine aw_getR K (c' := 90) dX8_greatestFee_72 lk_X8_25_8 fd_125_0 ?_
          refine aw_getI K dX8_greatestFee_75 lk_X8_79_9 fd_90_12 ?_
          refine aw_istoreX K (i := 4) (lv' := fun y5 => [(4, .int y5), (0, rf P 125), (2, .int x2), (3, .int x3), (5, .int x5)]) dX8_greatestFee_78 (Nat.le_of_ble_eq_true rfl) (fun _ => rfl) (fun y5 => ?_)
          refine aw_iinc K (lv' := fun y6 => [(5, .int y6), (4, .int y5), (0, rf P 125), (2, .int x2), (3, .int x3)]) 4 dX8_greatestFee_80 rfl ki_1 (Nat.le_of_ble_eq_true rfl) (fun _ => rfl) (fun y6 => ?_)
          refine aw_goto K 17 dX8_greatestFee_83 (by decide) ?_
          refine aw_lv [2, 3, 4, 1, 0] rfl ?_
          exact ih _ _ _ _ _
        · refine aw_aload_n K 0 dX8_greatestFee_60 rfl ?_
          refine aw_getR K (c' := 90) dX8_greatestFee_61 lk_X8_25_8 fd_125_0 ?_
          refine aw_getI K dX8_greatestFee_64 lk_X8_79_9 fd_90_12 ?_
          refine aw_istoreX_n K (i := 3) (lv' := fun y7 => [(3, .int y7), (0, rf P 125), (2, .int x2), (4, .int x4), (5, .int x5)]) dX8_greatestFee_67 rfl (Nat.le_of_ble_eq_true rfl) (fun _ => rfl) (fun y7 => ?_)
          refine aw_goto K 80 dX8_greatestFee_68 (by decide) ?_
          refine aw_iinc K (lv' := fun y8 => [(5, .int y8), (3, .int y7), (0, rf P 125), (2, .int x2), (4, .int x4)]) 4 dX8_greatestFee_80 rfl ki_1 (Nat.le_of_ble_eq_true rfl) (fun _ => rfl) (fun y8 => ?_)
          refine aw_goto K 17 dX8_greatestFee_83 (by decide) ?_
          refine aw_lv [2, 3, 1, 4, 0] rfl ?_
          exact ih _ _ _ _ _
set_option maxRecDepth 100000 in
set_option maxHeartbeats 4000000 in
theorem c_f_Se_greatestFee (l : Launch) (a1 : Nat) (ha1 : TW a1) (x2 : Int32) : CTI l (28) yX8_greatestFee cX8_greatestFee 6 ((some .int)) (fun P => [rf P 125, rf P a1, .int x2]) (fun σ => f_Se_greatestFee a1 x2 σ) := by
  refine met_I rfl rfl rfl (fun P => Nat.le_of_ble_eq_true rfl) (fun P G K hg σ => ?_)
  change AW P G 6 (EI P G cX8_greatestFee) (f_Se_greatestFee a1 x2 σ) σ 0 [(0, rf P 125), (1, rf P a1), (2, .int x2)] []
  rw [f_Se_greatestFee]
  refine aw_aload_n K 0 dX8_greatestFee_0 rfl ?_
  refine aw_getR K (c' := 90) dX8_greatestFee_1 lk_X8_25_8 fd_125_0 ?_
  refine aw_aload_n K 1 dX8_greatestFee_4 rfl ?_
  refine aw_callVV K dX8_greatestFee_5 vw_X8_29_9 (c_f_To_copyPlayFrom l 90 TW.c a1 ha1) hg (by decide) ob_90 rfl (Nat.le_of_ble_eq_true rfl) rfl rfl (fun _ σ1 _ => ?_)
  refine aw_iconst K dX8_greatestFee_8 ki_m1 ?_
  refine aw_istore_n K (i := 3) (lv' := [(3, .int (-1 : Int32)), (0, rf P 125), (1, rf P a1), (2, .int x2)]) dX8_greatestFee_9 rfl (Nat.le_of_ble_eq_true rfl) rfl ?_
  refine aw_bipush K dX8_greatestFee_10 kb_51 ?_
  refine aw_istore K (i := 4) (lv' := [(4, .int (51 : Int32)), (3, .int (-1 : Int32)), (0, rf P 125), (1, rf P a1), (2, .int x2)]) dX8_greatestFee_12 (Nat.le_of_ble_eq_true rfl) rfl ?_
  refine aw_iconst K dX8_greatestFee_14 ki_0 ?_
  refine aw_istore K (i := 5) (lv' := [(5, .int (0 : Int32)), (4, .int (51 : Int32)), (3, .int (-1 : Int32)), (0, rf P 125), (1, rf P a1), (2, .int x2)]) dX8_greatestFee_15 (Nat.le_of_ble_eq_true rfl) rfl ?_
  refine aw_lv [3, 5, 2, 1, 0] rfl ?_
  exact (a_f_Se_greatestFee_17 l a1 ha1 K hg FU) _ _ _ _ _
set_option maxRecDepth 100000 in
set_option maxHeartbeats 4000000 in
theorem c_f_H_feeFor (l : Launch) (x1 : Int32) : CTI l (29) yX11_feeFor cX11_feeFor 2 ((some .int)) (fun P => [rf P 0, .int x1]) (fun σ => f_H_feeFor x1 σ) := by
  refine met_I rfl rfl rfl (fun P => Nat.le_of_ble_eq_true rfl) (fun P G K hg σ => ?_)
  change AW P G 2 (EI P G cX11_feeFor) (f_H_feeFor x1 σ) σ 0 [(0, rf P 0), (1, .int x1)] []
  rw [f_H_feeFor]
  refine aw_iload_n K 1 dX11_feeFor_0 rfl ?_
  refine aw_iconst K dX11_feeFor_1 ki_1 ?_
  refine aw_bipush K dX11_feeFor_2 kb_6 ?_
  refine aw_callSI K dX11_feeFor_4 vw_X11_72 (c_f_H_isIn l _ _ _) hg (by decide) rfl (Nat.le_of_ble_eq_true rfl) rfl rfl (fun r2 σ1 _ => ?_)
  refine aw_if_eq K 25 dX11_feeFor_7 (by decide) (fun h_1 => ?_) (fun h_1 => ?_)
  · refine aw_iconst K dX11_feeFor_25 ki_m1 ?_
    exact aw_iret dX11_feeFor_26
  · refine aw_aload_n K 0 dX11_feeFor_10 rfl ?_
    refine aw_getR K (c' := 125) dX11_feeFor_11 lk_X11_56_11 fd_0_5 ?_
    refine aw_aload_n K 0 dX11_feeFor_14 rfl ?_
    refine aw_getR K (c' := 20) dX11_feeFor_15 lk_X11_41_11 fd_0_1 ?_
    refine aw_iload_n K 1 dX11_feeFor_18 rfl ?_
    refine aw_callVI K dX11_feeFor_19 vw_X11_188_8 (c_f_Se_greatestFee l 20 TW.a _) hg (by decide) ob_125 rfl (Nat.le_of_ble_eq_true rfl) rfl rfl (fun r4 σ3 _ => ?_)
    refine aw_goto K 26 dX11_feeFor_22 (by decide) ?_
    exact aw_iret dX11_feeFor_26
set_option maxRecDepth 100000 in
set_option maxHeartbeats 4000000 in
theorem c_f_Se_isNext (l : Launch) (x1 : Int32) (x2 : Int32) : CTI l (0) yX8_isNext cX8_isNext 3 ((some .boolean)) (fun P => [rf P 125, .int x1, .int x2]) (fun σ => f_Se_isNext x1 x2 σ) := by
  refine met_Z rfl rfl rfl (fun P => Nat.le_of_ble_eq_true rfl) (fun P G K hg σ => ?_)
  change AW P G 3 (EZ P G cX8_isNext) (f_Se_isNext x1 x2 σ) σ 0 [(0, rf P 125), (1, .int x1), (2, .int x2)] []
  rw [f_Se_isNext]
  refine aw_aload_n K 0 dX8_isNext_0 rfl ?_
  refine aw_getR K (c' := 90) dX8_isNext_1 lk_X8_25_8 fd_125_0 ?_
  refine aw_getI K dX8_isNext_4 lk_X8_111_9 fd_90_8 ?_
  refine aw_iload_n K 2 dX8_isNext_7 rfl ?_
  refine aw_ishr K dX8_isNext_8 ?_
  refine aw_iconst K dX8_isNext_9 ki_1 ?_
  refine aw_iand K dX8_isNext_10 ?_
  refine aw_if_ne K 56 dX8_isNext_11 (by decide) (fun h_1 => ?_) (fun h_1 => ?_)
  · refine aw_iconst K dX8_isNext_56 ki_0 ?_
    exact aw_zret dX8_isNext_57 (by decide)
  · refine aw_aload_n K 0 dX8_isNext_14 rfl ?_
    refine aw_getR K (c' := 90) dX8_isNext_15 lk_X8_25_8 fd_125_0 ?_
    refine aw_getR K (c' := 102) dX8_isNext_18 lk_X8_142_9 fd_90_7 ?_
    refine aw_iload_n K 1 dX8_isNext_21 rfl ?_
    refine aw_gd (fun h_2 => ?_)
    refine aw_ald K dX8_isNext_22 ad_102 h_2 rfl ?_
    refine aw_iload_n K 2 dX8_isNext_23 rfl ?_
    refine aw_ishr K dX8_isNext_24 ?_
    refine aw_iconst K dX8_isNext_25 ki_1 ?_
    refine aw_iand K dX8_isNext_26 ?_
    refine aw_iconst K dX8_isNext_27 ki_1 ?_
    refine aw_icmp_ne K 56 dX8_isNext_28 (by decide) (fun h_3 => ?_) (fun h_3 => ?_)
    · refine aw_iconst K dX8_isNext_56 ki_0 ?_
      exact aw_zret dX8_isNext_57 (by decide)
    · refine aw_aload_n K 0 dX8_isNext_31 rfl ?_
      refine aw_getR K (c' := 90) dX8_isNext_32 lk_X8_25_8 fd_125_0 ?_
      refine aw_getR K (c' := 100) dX8_isNext_35 lk_X8_145_9 fd_90_5 ?_
      refine aw_iload_n K 1 dX8_isNext_38 rfl ?_
      refine aw_gd (fun h_4 => ?_)
      refine aw_ald K dX8_isNext_39 ad_100 h_4 rfl ?_
      refine aw_aload_n K 0 dX8_isNext_40 rfl ?_
      refine aw_getR K (c' := 90) dX8_isNext_41 lk_X8_25_8 fd_125_0 ?_
      refine aw_getR K (c' := 99) dX8_isNext_44 lk_X8_95_9 fd_90_4 ?_
      refine aw_iload_n K 2 dX8_isNext_47 rfl ?_
      refine aw_gd (fun h_5 => ?_)
      refine aw_ald K dX8_isNext_48 ad_99 h_5 rfl ?_
      refine aw_icmp_ne K 56 dX8_isNext_49 (by decide) (fun h_6 => ?_) (fun h_6 => ?_)
      · refine aw_iconst K dX8_isNext_56 ki_0 ?_
        exact aw_zret dX8_isNext_57 (by decide)
      · refine aw_iconst K dX8_isNext_52 ki_1 ?_
        refine aw_goto K 57 dX8_isNext_53 (by decide) ?_
        exact aw_zret dX8_isNext_57 (by decide)
set_option maxRecDepth 100000 in
set_option maxHeartbeats 4000000 in
theorem a_f_Se_isOnPath_2 (l : Launch) {P : PT} {G : GT} (K : CX P G cX8_isOnPath RX8 (0) 4) (hg : gl G = l) : ∀ (n : Nat) (x1 : Int32) (x2 : Int32) (x3 : Int32) (σ : SG), AW P G 4 (EZ P G cX8_isOnPath) (f_Se_isOnPath_2 n x1 x2 x3 σ) σ 2 [(0, rf P 125), (1, .int x1), (2, .int x2), (3, .int x3)] [] := by
  intro n
  induction n with
  | zero =>
    intro x1 x2 x3 σ
    rw [f_Se_isOnPath_2]
    exact aw_none
  | succ n ih =>
    intro x1 x2 x3 σ
    rw [f_Se_isOnPath_2]
    refine aw_iload_n K 3 dX8_isOnPath_2 rfl ?_
    refine aw_iload_n K 2 dX8_isOnPath_3 rfl ?_
    refine aw_icmp_ge K 25 dX8_isOnPath_4 (by decide) (fun h_1 => ?_) (fun h_1 => ?_)
    · refine aw_iconst K dX8_isOnPath_25 ki_0 ?_
      exact aw_zret dX8_isOnPath_26 (by decide)
    · refine aw_aload_n K 0 dX8_isOnPath_7 rfl ?_
      refine aw_getR K (c' := 127) dX8_isOnPath_8 lk_X8_15_8 fd_125_2 ?_
      refine aw_iload_n K 3 dX8_isOnPath_11 rfl ?_
      refine aw_gd (fun h_2 => ?_)
      refine aw_ald K dX8_isOnPath_12 ad_127 h_2 rfl ?_
      refine aw_iload_n K 1 dX8_isOnPath_13 rfl ?_
      refine aw_icmp_ne K 19 dX8_isOnPath_14 (by decide) (fun h_3 => ?_) (fun h_3 => ?_)
      · refine aw_iinc K (lv' := fun y1 => [(3, .int y1), (0, rf P 125), (1, .int x1), (2, .int x2)]) 3 dX8_isOnPath_19 rfl ki_1 (Nat.le_of_ble_eq_true rfl) (fun _ => rfl) (fun y1 => ?_)
        refine aw_goto K 2 dX8_isOnPath_22 (by decide) ?_
        refine aw_lv [1, 2, 3, 0] rfl ?_
        exact ih _ _ _ _
      · refine aw_iconst K dX8_isOnPath_17 ki_1 ?_
        exact aw_zret dX8_isOnPath_18 (by decide)
set_option maxRecDepth 100000 in
set_option maxHeartbeats 4000000 in
theorem c_f_Se_isOnPath (l : Launch) (x1 : Int32) (x2 : Int32) : CTI l (0) yX8_isOnPath cX8_isOnPath 4 ((some .boolean)) (fun P => [rf P 125, .int x1, .int x2]) (fun σ => f_Se_isOnPath x1 x2 σ) := by
  refine met_Z rfl rfl rfl (fun P => Nat.le_of_ble_eq_true rfl) (fun P G K hg σ => ?_)
  change AW P G 4 (EZ P G cX8_isOnPath) (f_Se_isOnPath x1 x2 σ) σ 0 [(0, rf P 125), (1, .int x1), (2, .int x2)] []
  rw [f_Se_isOnPath]
  refine aw_iconst K dX8_isOnPath_0 ki_0 ?_
  refine aw_istore_n K (i := 3) (lv' := [(3, .int (0 : Int32)), (0, rf P 125), (1, .int x1), (2, .int x2)]) dX8_isOnPath_1 rfl (Nat.le_of_ble_eq_true rfl) rfl ?_
  refine aw_lv [1, 2, 3, 0] rfl ?_
  exact (a_f_Se_isOnPath_2 l K hg FU) _ _ _ _
set_option maxRecDepth 100000 in
set_option maxHeartbeats 4000000 in
theorem a_f_Se_lookOn_9 (l : Launch) {kR : Nat} {fR : Int32 → Int32 → Int32 → SG → Option (Unit × SG)} (hfR : ∀ (z0 : Int32) (z1 : Int32) (z2 : Int32), CTV l kR yX8_goOn cX8_goOn 4 (none) (fun P => [rf P 125, .int z0, .int z1, .int z2]) (fun σ => fR z0 z1 z2 σ)) (hkR : 0 ≤ kR) {P : PT} {G : GT} (K : CX P G cX8_lookOn RX8 (kR + 1) 4) (hg : gl G = l) : ∀ (n : Nat) (x1 : Int32) (x2 : Int32) (x3 : Int32) (σ : SG), AW P G 4 (EV P G cX8_lookOn) (f_Se_lookOn_9 fR n x1 x2 x3 σ) σ 9 [(0, rf P 125), (1, .int x1), (2, .int x2), (3, .int x3)] [] := by
  intro n
  induction n with
  | zero =>
    intro x1 x2 x3 σ
    rw [f_Se_lookOn_9]
    exact aw_none
  | succ n ih =>
    intro x1 x2 x3 σ
    rw [f_Se_lookOn_9]
    refine aw_iload_n K 3 dX8_lookOn_9 rfl ?_
    refine aw_aload_n K 0 dX8_lookOn_10 rfl ?_
    refine aw_getR K (c' := 90) dX8_lookOn_11 lk_X8_25_8 fd_125_0 ?_
    refine aw_getI K dX8_lookOn_14 lk_X8_70_9 fd_90_2 ?_
    refine aw_icmp_ge K 58 dX8_lookOn_17 (by decide) (fun h_1 => ?_) (fun h_1 => ?_)
    · exact aw_vret dX8_lookOn_58
    · refine aw_aload_n K 0 dX8_lookOn_20 rfl ?_
      refine aw_aload_n K 0 dX8_lookOn_21 rfl ?_
      refine aw_getR K (c' := 127) dX8_lookOn_22 lk_X8_15_8 fd_125_2 ?_
      refine aw_iload_n K 1 dX8_lookOn_25 rfl ?_
      refine aw_iconst K dX8_lookOn_26 ki_1 ?_
      refine aw_isub K dX8_lookOn_27 ?_
      refine aw_gd (fun h_2 => ?_)
      refine aw_ald K dX8_lookOn_28 ad_127 h_2 rfl ?_
      refine aw_iload_n K 3 dX8_lookOn_29 rfl ?_
      refine aw_callVI K dX8_lookOn_30 vw_X8_129_8 (c_f_Se_isNext l _ _) hg (by omega) ob_125 rfl (Nat.le_of_ble_eq_true rfl) rfl rfl (fun r2 σ1 _ => ?_)
      refine aw_if_eq K 52 dX8_lookOn_33 (by decide) (fun h_3 => ?_) (fun h_3 => ?_)
      · refine aw_iinc K (lv' := fun y3 => [(3, .int y3), (0, rf P 125), (1, .int x1), (2, .int x2)]) 3 dX8_lookOn_52 rfl ki_1 (Nat.le_of_ble_eq_true rfl) (fun _ => rfl) (fun y3 => ?_)
        refine aw_goto K 9 dX8_lookOn_55 (by decide) ?_
        refine aw_lv [1, 2, 3, 0] rfl ?_
        exact ih _ _ _ _
      · refine aw_aload_n K 0 dX8_lookOn_36 rfl ?_
        refine aw_iload_n K 3 dX8_lookOn_37 rfl ?_
        refine aw_iload_n K 1 dX8_lookOn_38 rfl ?_
        refine aw_callVI K dX8_lookOn_39 vw_X8_139_8 (c_f_Se_isOnPath l _ _) hg (by omega) ob_125 rfl (Nat.le_of_ble_eq_true rfl) rfl rfl (fun r5 σ4 _ => ?_)
        refine aw_if_ne K 52 dX8_lookOn_42 (by decide) (fun h_4 => ?_) (fun h_4 => ?_)
        · refine aw_iinc K (lv' := fun y6 => [(3, .int y6), (0, rf P 125), (1, .int x1), (2, .int x2)]) 3 dX8_lookOn_52 rfl ki_1 (Nat.le_of_ble_eq_true rfl) (fun _ => rfl) (fun y6 => ?_)
          refine aw_goto K 9 dX8_lookOn_55 (by decide) ?_
          refine aw_lv [1, 2, 3, 0] rfl ?_
          exact ih _ _ _ _
        · refine aw_aload_n K 0 dX8_lookOn_45 rfl ?_
          refine aw_iload_n K 3 dX8_lookOn_46 rfl ?_
          refine aw_iload_n K 1 dX8_lookOn_47 rfl ?_
          refine aw_iload_n K 2 dX8_lookOn_48 rfl ?_
          refine aw_callVV K dX8_lookOn_49 vw_X8_122_8 (hfR _ _ _) hg (by omega) ob_125 rfl (Nat.le_of_ble_eq_true rfl) rfl rfl (fun _ σ7 _ => ?_)
          refine aw_iinc K (lv' := fun y8 => [(3, .int y8), (0, rf P 125), (1, .int x1), (2, .int x2)]) 3 dX8_lookOn_52 rfl ki_1 (Nat.le_of_ble_eq_true rfl) (fun _ => rfl) (fun y8 => ?_)
          refine aw_goto K 9 dX8_lookOn_55 (by decide) ?_
          refine aw_lv [1, 2, 3, 0] rfl ?_
          exact ih _ _ _ _
set_option maxRecDepth 100000 in
set_option maxHeartbeats 4000000 in
theorem c_f_Se_lookOn (l : Launch) {kR : Nat} {fR : Int32 → Int32 → Int32 → SG → Option (Unit × SG)} (hfR : ∀ (z0 : Int32) (z1 : Int32) (z2 : Int32), CTV l kR yX8_goOn cX8_goOn 4 (none) (fun P => [rf P 125, .int z0, .int z1, .int z2]) (fun σ => fR z0 z1 z2 σ)) (hkR : 0 ≤ kR) (x1 : Int32) (x2 : Int32) : CTV l (kR + 1) yX8_lookOn cX8_lookOn 4 (none) (fun P => [rf P 125, .int x1, .int x2]) (fun σ => f_Se_lookOn fR x1 x2 σ) := by
  refine met_V rfl rfl rfl (fun P => Nat.le_of_ble_eq_true rfl) (fun P G K hg σ => ?_)
  change AW P G 4 (EV P G cX8_lookOn) (f_Se_lookOn fR x1 x2 σ) σ 0 [(0, rf P 125), (1, .int x1), (2, .int x2)] []
  rw [f_Se_lookOn]
  refine aw_aload_n K 0 dX8_lookOn_0 rfl ?_
  refine aw_getR K (c' := 127) dX8_lookOn_1 lk_X8_15_8 fd_125_2 ?_
  refine aw_iconst K dX8_lookOn_4 ki_0 ?_
  refine aw_ald K dX8_lookOn_5 ad_127 (by decide) kn_0 ?_
  refine aw_iconst K dX8_lookOn_6 ki_1 ?_
  refine aw_iadd K dX8_lookOn_7 ?_
  refine aw_istoreX_n K (i := 3) (lv' := fun y1 => [(3, .int y1), (0, rf P 125), (1, .int x1), (2, .int x2)]) dX8_lookOn_8 rfl (Nat.le_of_ble_eq_true rfl) (fun _ => rfl) (fun y1 => ?_)
  refine aw_lv [1, 2, 3, 0] rfl ?_
  exact (a_f_Se_lookOn_9 l hfR hkR K hg FU) _ _ _ _
