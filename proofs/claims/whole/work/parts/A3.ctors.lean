/-! CONSTRUCTORS: their contracts (printed by wip/gen/ctors.py) -/
theorem nkb_8 : (Int8.ofInt (8)).toInt32 = (8 : Int32) := by decide
theorem nln_8_4 : ¬ (8 : Int32) < 0 ∧ (8 : Int32).toNatClampNeg = 8 ∧ 8 * 4 ≤ 536870912 := ⟨by decide, by decide, by decide⟩
theorem lf_X7_9_7 : LKF RX7 9 7 1 (.array .int) := ⟨RX7, TX7, 8, tyX7, rfl, inT7, by decide, (in_r5 _ (List.mem_of_getElem? (i := 15) rfl)), tyX7_ok, nmX7, rfl, rfl, tyX7_ok 1 (by decide)⟩
theorem lf_X7_15_7 : LKF RX7 15 7 2 (.array .int) := ⟨RX7, TX7, 8, tyX7, rfl, inT7, by decide, (in_r5 _ (List.mem_of_getElem? (i := 16) rfl)), tyX7_ok, nmX7, rfl, rfl, tyX7_ok 2 (by decide)⟩
theorem lf_X7_18_7 : LKF RX7 18 7 3 (.array .int) := ⟨RX7, TX7, 8, tyX7, rfl, inT7, by decide, (in_r5 _ (List.mem_of_getElem? (i := 17) rfl)), tyX7_ok, nmX7, rfl, rfl, tyX7_ok 3 (by decide)⟩
theorem lf_X7_21_7 : LKF RX7 21 7 4 (.array .int) := ⟨RX7, TX7, 8, tyX7, rfl, inT7, by decide, (in_r5 _ (List.mem_of_getElem? (i := 18) rfl)), tyX7_ok, nmX7, rfl, rfl, tyX7_ok 4 (by decide)⟩
theorem nks_200 : (Int16.ofInt (200)).toInt32 = (200 : Int32) := by decide
theorem nln_200_4 : ¬ (200 : Int32) < 0 ∧ (200 : Int32).toNatClampNeg = 200 ∧ 200 * 4 ≤ 536870912 := ⟨by decide, by decide, by decide⟩
theorem lf_X7_24_7 : LKF RX7 24 7 6 (.array .int) := ⟨RX7, TX7, 8, tyX7, rfl, inT7, by decide, (in_r5 _ (List.mem_of_getElem? (i := 19) rfl)), tyX7_ok, nmX7, rfl, rfl, tyX7_ok 6 (by decide)⟩
theorem nki_5 : Int32.ofInt (5) = (5 : Int32) := by decide
theorem nln_5_4 : ¬ (5 : Int32) < 0 ∧ (5 : Int32).toNatClampNeg = 5 ∧ 5 * 4 ≤ 536870912 := ⟨by decide, by decide, by decide⟩
theorem lf_X7_27_7 : LKF RX7 27 7 7 (.array .int) := ⟨RX7, TX7, 8, tyX7, rfl, inT7, by decide, (in_r5 _ (List.mem_of_getElem? (i := 20) rfl)), tyX7_ok, nmX7, rfl, rfl, tyX7_ok 7 (by decide)⟩
theorem nki_4 : Int32.ofInt (4) = (4 : Int32) := by decide
theorem nln_4_4 : ¬ (4 : Int32) < 0 ∧ (4 : Int32).toNatClampNeg = 4 ∧ 4 * 4 ≤ 536870912 := ⟨by decide, by decide, by decide⟩
theorem nki_0 : Int32.ofInt (0) = (0 : Int32) := by decide
theorem nki_m1 : Int32.ofInt (-1) = (-1 : Int32) := by decide
theorem nin_0_4 : vp_in (0 : Int32) 4 := fun h => by rcases h with h | h <;> revert h <;> decide
theorem ntc_0 : (0 : Int32).toNatClampNeg = 0 := by decide
theorem nki_1 : Int32.ofInt (1) = (1 : Int32) := by decide
theorem nin_1_4 : vp_in (1 : Int32) 4 := fun h => by rcases h with h | h <;> revert h <;> decide
theorem ntc_1 : (1 : Int32).toNatClampNeg = 1 := by decide
theorem nki_2 : Int32.ofInt (2) = (2 : Int32) := by decide
theorem nin_2_4 : vp_in (2 : Int32) 4 := fun h => by rcases h with h | h <;> revert h <;> decide
theorem ntc_2 : (2 : Int32).toNatClampNeg = 2 := by decide
theorem nki_3 : Int32.ofInt (3) = (3 : Int32) := by decide
theorem nin_3_4 : vp_in (3 : Int32) 4 := fun h => by rcases h with h | h <;> revert h <;> decide
theorem ntc_3 : (3 : Int32).toNatClampNeg = 3 := by decide
theorem lf_X1_11_1 : LKF RX1 11 1 0 (.array .int) := ⟨RX1, TX1, 9, tyX1, rfl, inT1, by decide, (in_r3 _ (List.mem_of_getElem? (i := 7) rfl)), tyX1_ok, nmX1, rfl, rfl, tyX1_ok 0 (by decide)⟩
theorem lf_X1_15_1 : LKF RX1 15 1 1 (.array .int) := ⟨RX1, TX1, 9, tyX1, rfl, inT1, by decide, (in_r3 _ (List.mem_of_getElem? (i := 8) rfl)), tyX1_ok, nmX1, rfl, rfl, tyX1_ok 1 (by decide)⟩
theorem nkb_40 : (Int8.ofInt (40)).toInt32 = (40 : Int32) := by decide
theorem nln_40_4 : ¬ (40 : Int32) < 0 ∧ (40 : Int32).toNatClampNeg = 40 ∧ 40 * 4 ≤ 536870912 := ⟨by decide, by decide, by decide⟩
theorem lf_X1_20_1 : LKF RX1 20 1 2 (.array (.array .int)) := ⟨RX1, TX1, 9, tyX1, rfl, inT1, by decide, (in_r3 _ (List.mem_of_getElem? (i := 10) rfl)), tyX1_ok, nmX1, rfl, rfl, tyX1_ok 2 (by decide)⟩
theorem lf_X1_23_1 : LKF RX1 23 1 3 (.array .int) := ⟨RX1, TX1, 9, tyX1, rfl, inT1, by decide, (in_r3 _ (List.mem_of_getElem? (i := 11) rfl)), tyX1_ok, nmX1, rfl, rfl, tyX1_ok 3 (by decide)⟩
theorem lf_X1_26_1 : LKF RX1 26 1 4 (.array .int) := ⟨RX1, TX1, 9, tyX1, rfl, inT1, by decide, (in_r3 _ (List.mem_of_getElem? (i := 12) rfl)), tyX1_ok, nmX1, rfl, rfl, tyX1_ok 4 (by decide)⟩
theorem lf_X1_29_1 : LKF RX1 29 1 5 (.array .int) := ⟨RX1, TX1, 9, tyX1, rfl, inT1, by decide, (in_r3 _ (List.mem_of_getElem? (i := 13) rfl)), tyX1_ok, nmX1, rfl, rfl, tyX1_ok 5 (by decide)⟩
theorem nkb_30 : (Int8.ofInt (30)).toInt32 = (30 : Int32) := by decide
theorem nln_30_4 : ¬ (30 : Int32) < 0 ∧ (30 : Int32).toNatClampNeg = 30 ∧ 30 * 4 ≤ 536870912 := ⟨by decide, by decide, by decide⟩
theorem lf_X1_32_1 : LKF RX1 32 1 7 (.array .int) := ⟨RX1, TX1, 9, tyX1, rfl, inT1, by decide, (in_r3 _ (List.mem_of_getElem? (i := 14) rfl)), tyX1_ok, nmX1, rfl, rfl, tyX1_ok 7 (by decide)⟩
theorem vi_X2_1 : VWI RX2 1 yX4_init cX4_init 2 1 := ⟨(in_r3 _ (List.mem_of_getElem? (i := 17) rfl)), (in_r3 _ (List.mem_of_getElem? (i := 23) rfl)), (in_r3 _ (List.mem_of_getElem? (i := 16) rfl)), (in_r1 _ (List.mem_of_getElem? (i := 19) rfl)), by decide, rfl, ⟨by decide +kernel, by decide +kernel, by decide +kernel⟩⟩
theorem vi_X3_1 : VWI RX3 1 yX4_init cX4_init 2 1 := ⟨(in_r3 _ (List.mem_of_getElem? (i := 17) rfl)), (in_r4 _ (List.mem_of_getElem? (i := 3) rfl)), (in_r3 _ (List.mem_of_getElem? (i := 16) rfl)), (in_r1 _ (List.mem_of_getElem? (i := 19) rfl)), by decide, rfl, ⟨by decide +kernel, by decide +kernel, by decide +kernel⟩⟩
theorem vi_X5_1 : VWI RX5 1 yX4_init cX4_init 2 1 := ⟨(in_r3 _ (List.mem_of_getElem? (i := 17) rfl)), (in_r4 _ (List.mem_of_getElem? (i := 11) rfl)), (in_r3 _ (List.mem_of_getElem? (i := 16) rfl)), (in_r1 _ (List.mem_of_getElem? (i := 19) rfl)), by decide, rfl, ⟨by decide +kernel, by decide +kernel, by decide +kernel⟩⟩
theorem vi_X10_1 : VWI RX10 1 yX3_init cX3_init 2 1 := ⟨(in_r4 _ (List.mem_of_getElem? (i := 2) rfl)), (in_r4 _ (List.mem_of_getElem? (i := 7) rfl)), (in_r4 _ (List.mem_of_getElem? (i := 1) rfl)), (in_r2 _ (List.mem_of_getElem? (i := 1) rfl)), by decide, rfl, ⟨by decide +kernel, by decide +kernel, by decide +kernel⟩⟩
theorem vi_X0_1 : VWI RX0 1 yX5_init cX5_init 2 1 := ⟨(in_r4 _ (List.mem_of_getElem? (i := 10) rfl)), (in_r4 _ (List.mem_of_getElem? (i := 15) rfl)), (in_r4 _ (List.mem_of_getElem? (i := 9) rfl)), (in_r2 _ (List.mem_of_getElem? (i := 7) rfl)), by decide, rfl, ⟨by decide +kernel, by decide +kernel, by decide +kernel⟩⟩
theorem nkb_6 : (Int8.ofInt (6)).toInt32 = (6 : Int32) := by decide
theorem nln_6_4 : ¬ (6 : Int32) < 0 ∧ (6 : Int32).toNatClampNeg = 6 ∧ 6 * 4 ≤ 536870912 := ⟨by decide, by decide, by decide⟩
theorem lf_X8_9_8 : LKF RX8 9 8 1 (.array .int) := ⟨RX8, TX8, 8, tyX8, rfl, inT8, by decide, (in_r6 _ (List.mem_of_getElem? (i := 1) rfl)), tyX8_ok, nmX8, rfl, rfl, tyX8_ok 1 (by decide)⟩
theorem lf_X8_15_8 : LKF RX8 15 8 2 (.array .int) := ⟨RX8, TX8, 8, tyX8, rfl, inT8, by decide, (in_r6 _ (List.mem_of_getElem? (i := 2) rfl)), tyX8_ok, nmX8, rfl, rfl, tyX8_ok 2 (by decide)⟩
theorem nks_2048 : (Int16.ofInt (2048)).toInt32 = (2048 : Int32) := by decide
theorem nln_2048_8 : ¬ (2048 : Int32) < 0 ∧ (2048 : Int32).toNatClampNeg = 2048 ∧ 2048 * 8 ≤ 536870912 := ⟨by decide, by decide, by decide⟩
theorem lf_X8_18_8 : LKF RX8 18 8 6 (.array .long) := ⟨RX8, TX8, 8, tyX8, rfl, inT8, by decide, (in_r6 _ (List.mem_of_getElem? (i := 4) rfl)), tyX8_ok, nmX8, rfl, rfl, tyX8_ok 6 (by decide)⟩
theorem nln_2048_4 : ¬ (2048 : Int32) < 0 ∧ (2048 : Int32).toNatClampNeg = 2048 ∧ 2048 * 4 ≤ 536870912 := ⟨by decide, by decide, by decide⟩
theorem lf_X8_22_8 : LKF RX8 22 8 7 (.array .int) := ⟨RX8, TX8, 8, tyX8, rfl, inT8, by decide, (in_r6 _ (List.mem_of_getElem? (i := 5) rfl)), tyX8_ok, nmX8, rfl, rfl, tyX8_ok 7 (by decide)⟩
theorem lf_X8_25_8 : LKF RX8 25 8 0 (.object "HadForVoice$Town") := ⟨RX8, TX8, 8, tyX8, rfl, inT8, by decide, (in_r6 _ (List.mem_of_getElem? (i := 6) rfl)), tyX8_ok, nmX8, rfl, rfl, tyX8_ok 0 (by decide)⟩
theorem lf_X6_13_6 : LKF RX6 13 6 0 (.array .int) := ⟨RX6, TX6, 6, tyX6, rfl, inT6, by decide, (in_r6 _ (List.mem_of_getElem? (i := 10) rfl)), tyX6_ok, nmX6, rfl, rfl, tyX6_ok 0 (by decide)⟩
theorem nks_201 : (Int16.ofInt (201)).toInt32 = (201 : Int32) := by decide
theorem nln_201_4 : ¬ (201 : Int32) < 0 ∧ (201 : Int32).toNatClampNeg = 201 ∧ 201 * 4 ≤ 536870912 := ⟨by decide, by decide, by decide⟩
theorem lf_X6_17_6 : LKF RX6 17 6 2 (.array .int) := ⟨RX6, TX6, 6, tyX6, rfl, inT6, by decide, (in_r6 _ (List.mem_of_getElem? (i := 11) rfl)), tyX6_ok, nmX6, rfl, rfl, tyX6_ok 2 (by decide)⟩
theorem lf_X6_20_6 : LKF RX6 20 6 3 (.array .int) := ⟨RX6, TX6, 6, tyX6, rfl, inT6, by decide, (in_r6 _ (List.mem_of_getElem? (i := 12) rfl)), tyX6_ok, nmX6, rfl, rfl, tyX6_ok 3 (by decide)⟩
theorem zf_X7 : ∀ j, j < 8 → defaultValue (tyX7 j) = vp_V [.int 0, .null, .null, .null, .null, .int 0, .null, .null] j
  | 0, _ => rfl
  | 1, _ => rfl
  | 2, _ => rfl
  | 3, _ => rfl
  | 4, _ => rfl
  | 5, _ => rfl
  | 6, _ => rfl
  | 7, _ => rfl
  | j + 8, h => absurd h (by omega)
theorem vi_X6_23 : VWM RX6 23 yX7_init cX7_init 1 0 := ⟨(in_r5 _ (List.mem_of_getElem? (i := 13) rfl)), (List.mem_of_getElem? (i := 2) rfl), (in_r5 _ (List.mem_of_getElem? (i := 12) rfl)), (in_r4 _ (List.mem_of_getElem? (i := 22) rfl)), by decide, rfl, ⟨by decide +kernel, by decide +kernel, by decide +kernel⟩⟩
theorem lf_X6_24_6 : LKF RX6 24 6 5 (.object "HadForVoice$Rules") := ⟨RX6, TX6, 6, tyX6, rfl, inT6, by decide, (in_r6 _ (List.mem_of_getElem? (i := 14) rfl)), tyX6_ok, nmX6, rfl, rfl, tyX6_ok 5 (by decide)⟩
theorem vi_X9_11 : VWM RX9 11 yX7_init cX7_init 1 0 := ⟨(in_r5 _ (List.mem_of_getElem? (i := 13) rfl)), (List.mem_of_getElem? (i := 3) rfl), (in_r5 _ (List.mem_of_getElem? (i := 12) rfl)), (in_r4 _ (List.mem_of_getElem? (i := 22) rfl)), by decide, rfl, ⟨by decide +kernel, by decide +kernel, by decide +kernel⟩⟩
theorem lf_X9_12_9 : LKF RX9 12 9 1 (.object "HadForVoice$Rules") := ⟨RX9, TX9, 18, tyX9, rfl, inT9, by decide, (in_r4 _ (List.mem_of_getElem? (i := 23) rfl)), tyX9_ok, nmX9, rfl, rfl, tyX9_ok 1 (by decide)⟩
theorem lf_X9_18_9 : LKF RX9 18 9 3 (.array .int) := ⟨RX9, TX9, 18, tyX9, rfl, inT9, by decide, (in_r5 _ (List.mem_of_getElem? (i := 0) rfl)), tyX9_ok, nmX9, rfl, rfl, tyX9_ok 3 (by decide)⟩
theorem lf_X9_22_9 : LKF RX9 22 9 4 (.array .int) := ⟨RX9, TX9, 18, tyX9, rfl, inT9, by decide, (in_r5 _ (List.mem_of_getElem? (i := 1) rfl)), tyX9_ok, nmX9, rfl, rfl, tyX9_ok 4 (by decide)⟩
theorem lf_X9_25_9 : LKF RX9 25 9 5 (.array .int) := ⟨RX9, TX9, 18, tyX9, rfl, inT9, by decide, (in_r5 _ (List.mem_of_getElem? (i := 2) rfl)), tyX9_ok, nmX9, rfl, rfl, tyX9_ok 5 (by decide)⟩
theorem lf_X9_28_9 : LKF RX9 28 9 6 (.array .int) := ⟨RX9, TX9, 18, tyX9, rfl, inT9, by decide, (in_r5 _ (List.mem_of_getElem? (i := 3) rfl)), tyX9_ok, nmX9, rfl, rfl, tyX9_ok 6 (by decide)⟩
theorem lf_X9_31_9 : LKF RX9 31 9 7 (.array .int) := ⟨RX9, TX9, 18, tyX9, rfl, inT9, by decide, (in_r5 _ (List.mem_of_getElem? (i := 4) rfl)), tyX9_ok, nmX9, rfl, rfl, tyX9_ok 7 (by decide)⟩
theorem lf_X9_34_9 : LKF RX9 34 9 10 (.array .int) := ⟨RX9, TX9, 18, tyX9, rfl, inT9, by decide, (in_r5 _ (List.mem_of_getElem? (i := 5) rfl)), tyX9_ok, nmX9, rfl, rfl, tyX9_ok 10 (by decide)⟩
theorem lf_X9_37_9 : LKF RX9 37 9 11 (.array .int) := ⟨RX9, TX9, 18, tyX9, rfl, inT9, by decide, (in_r5 _ (List.mem_of_getElem? (i := 6) rfl)), tyX9_ok, nmX9, rfl, rfl, tyX9_ok 11 (by decide)⟩
theorem lq_X9_40_9 : LKP RX9 40 9 13 .int := ⟨RX9, TX9, 18, "HadForVoice$Town", tyX9, rfl, inT9, by decide, (in_r5 _ (List.mem_of_getElem? (i := 7) rfl)), .inl rfl, tyX9_ok, nmX9, rfl, tyX9_ok 13 (by decide)⟩
theorem nkb_12 : (Int8.ofInt (12)).toInt32 = (12 : Int32) := by decide
theorem nln_12_4 : ¬ (12 : Int32) < 0 ∧ (12 : Int32).toNatClampNeg = 12 ∧ 12 * 4 ≤ 536870912 := ⟨by decide, by decide, by decide⟩
theorem nln_3_4 : ¬ (3 : Int32) < 0 ∧ (3 : Int32).toNatClampNeg = 3 ∧ 3 * 4 ≤ 536870912 := ⟨by decide, by decide, by decide⟩
theorem lf_X9_46_9 : LKF RX9 46 9 15 (.array (.array .int)) := ⟨RX9, TX9, 18, tyX9, rfl, inT9, by decide, (in_r5 _ (List.mem_of_getElem? (i := 9) rfl)), tyX9_ok, nmX9, rfl, rfl, tyX9_ok 15 (by decide)⟩
theorem lf_X9_49_9 : LKF RX9 49 9 17 (.array (.array .int)) := ⟨RX9, TX9, 18, tyX9, rfl, inT9, by decide, (in_r5 _ (List.mem_of_getElem? (i := 10) rfl)), tyX9_ok, nmX9, rfl, rfl, tyX9_ok 17 (by decide)⟩
theorem lf_X9_52_9 : LKF RX9 52 9 0 (.array (.object "HadForVoice$Person")) := ⟨RX9, TX9, 18, tyX9, rfl, inT9, by decide, (in_r5 _ (List.mem_of_getElem? (i := 11) rfl)), tyX9_ok, nmX9, rfl, rfl, tyX9_ok 0 (by decide)⟩
theorem zf_X1 : ∀ j, j < 9 → defaultValue (tyX1 j) = vp_V [.null, .null, .null, .null, .null, .null, .int 0, .null, .int 0] j
  | 0, _ => rfl
  | 1, _ => rfl
  | 2, _ => rfl
  | 3, _ => rfl
  | 4, _ => rfl
  | 5, _ => rfl
  | 6, _ => rfl
  | 7, _ => rfl
  | 8, _ => rfl
  | j + 9, h => absurd h (by omega)
theorem vi_X11_9 : VWM RX11 9 yX1_init cX1_init 1 0 := ⟨(in_r3 _ (List.mem_of_getElem? (i := 5) rfl)), (List.mem_of_getElem? (i := 0) rfl), (in_r3 _ (List.mem_of_getElem? (i := 4) rfl)), (in_r1 _ (List.mem_of_getElem? (i := 15) rfl)), by decide, rfl, ⟨by decide +kernel, by decide +kernel, by decide +kernel⟩⟩
theorem lf_X11_10_11 : LKF RX11 10 11 0 (.object "HadForVoice$Host") := ⟨RX11, TX11, 9, tyX11, rfl, inT11, by decide, (in_r1 _ (List.mem_of_getElem? (i := 16) rfl)), tyX11_ok, nmX11, rfl, rfl, tyX11_ok 0 (by decide)⟩
theorem zf_X4 : ∀ j, j < 3 → defaultValue (tyX4 j) = vp_V [.null, .int 0, .int 0] j
  | 0, _ => rfl
  | 1, _ => rfl
  | 2, _ => rfl
  | j + 3, h => absurd h (by omega)
theorem lr_X11_10_11 : LKI RX11 10 11 0 := ⟨RX11, TX11, 9, "HadForVoice", rfl, inT11, by decide, (in_r1 _ (List.mem_of_getElem? (i := 16) rfl)), .inl rfl⟩
theorem lf_X4_7_4 : LKF RX4 7 4 0 (.object "HadForVoice$Host") := ⟨RX4, TX4, 3, tyX4, rfl, inT4, by decide, (in_r3 _ (List.mem_of_getElem? (i := 19) rfl)), tyX4_ok, nmX4, rfl, rfl, tyX4_ok 0 (by decide)⟩
theorem vi_X11_18 : VWI RX11 18 yX4_init cX4_init 2 1 := ⟨(in_r3 _ (List.mem_of_getElem? (i := 17) rfl)), (in_r3 _ (List.mem_of_getElem? (i := 15) rfl)), (in_r3 _ (List.mem_of_getElem? (i := 16) rfl)), (in_r1 _ (List.mem_of_getElem? (i := 19) rfl)), by decide, rfl, ⟨by decide +kernel, by decide +kernel, by decide +kernel⟩⟩
theorem nwt_4 : nwT 4 := ⟨RX4, TX4, 3, rfl, .inl rfl⟩
theorem nin_0_6 : vp_in (0 : Int32) 6 := fun h => by rcases h with h | h <;> revert h <;> decide
theorem zf_X2 : ∀ j, j < 3 → defaultValue (tyX2 j) = vp_V [.null, .int 0, .int 0] j
  | 0, _ => rfl
  | 1, _ => rfl
  | 2, _ => rfl
  | j + 3, h => absurd h (by omega)
theorem lf_X4_7_2 : LKF RX4 7 2 0 (.object "HadForVoice$Host") := ⟨RX2, TX2, 3, tyX2, rfl, inT2, by decide, (in_r3 _ (List.mem_of_getElem? (i := 19) rfl)), tyX2_ok, nmX2, rfl, rfl, tyX2_ok 0 (by decide)⟩
theorem vi_X11_23 : VWI RX11 23 yX2_init cX2_init 2 1 := ⟨(in_r3 _ (List.mem_of_getElem? (i := 22) rfl)), (in_r3 _ (List.mem_of_getElem? (i := 20) rfl)), (in_r3 _ (List.mem_of_getElem? (i := 21) rfl)), (in_r1 _ (List.mem_of_getElem? (i := 22) rfl)), by decide, rfl, ⟨by decide +kernel, by decide +kernel, by decide +kernel⟩⟩
theorem nwt_2 : nwT 2 := ⟨RX2, TX2, 3, rfl, .inr (List.mem_of_getElem? (i := 4) rfl)⟩
theorem nin_1_6 : vp_in (1 : Int32) 6 := fun h => by rcases h with h | h <;> revert h <;> decide
theorem zf_X3 : ∀ j, j < 3 → defaultValue (tyX3 j) = vp_V [.null, .int 0, .int 0] j
  | 0, _ => rfl
  | 1, _ => rfl
  | 2, _ => rfl
  | j + 3, h => absurd h (by omega)
theorem lf_X4_7_3 : LKF RX4 7 3 0 (.object "HadForVoice$Host") := ⟨RX3, TX3, 3, tyX3, rfl, inT3, by decide, (in_r3 _ (List.mem_of_getElem? (i := 19) rfl)), tyX3_ok, nmX3, rfl, rfl, tyX3_ok 0 (by decide)⟩
theorem vi_X11_26 : VWI RX11 26 yX3_init cX3_init 2 1 := ⟨(in_r4 _ (List.mem_of_getElem? (i := 2) rfl)), (in_r4 _ (List.mem_of_getElem? (i := 0) rfl)), (in_r4 _ (List.mem_of_getElem? (i := 1) rfl)), (in_r2 _ (List.mem_of_getElem? (i := 1) rfl)), by decide, rfl, ⟨by decide +kernel, by decide +kernel, by decide +kernel⟩⟩
theorem nwt_3 : nwT 3 := ⟨RX3, TX3, 3, rfl, .inr (List.mem_of_getElem? (i := 5) rfl)⟩
theorem nin_2_6 : vp_in (2 : Int32) 6 := fun h => by rcases h with h | h <;> revert h <;> decide
theorem zf_X10 : ∀ j, j < 3 → defaultValue (tyX10 j) = vp_V [.null, .int 0, .int 0] j
  | 0, _ => rfl
  | 1, _ => rfl
  | 2, _ => rfl
  | j + 3, h => absurd h (by omega)
theorem lf_X4_7_10 : LKF RX4 7 10 0 (.object "HadForVoice$Host") := ⟨RX10, TX10, 3, tyX10, rfl, inT10, by decide, (in_r3 _ (List.mem_of_getElem? (i := 19) rfl)), tyX10_ok, nmX10, rfl, rfl, tyX10_ok 0 (by decide)⟩
theorem vi_X11_29 : VWI RX11 29 yX10_init cX10_init 2 1 := ⟨(in_r4 _ (List.mem_of_getElem? (i := 6) rfl)), (in_r4 _ (List.mem_of_getElem? (i := 4) rfl)), (in_r4 _ (List.mem_of_getElem? (i := 5) rfl)), (in_r2 _ (List.mem_of_getElem? (i := 4) rfl)), by decide, rfl, ⟨by decide +kernel, by decide +kernel, by decide +kernel⟩⟩
theorem nwt_10 : nwT 10 := ⟨RX10, TX10, 3, rfl, .inr (List.mem_of_getElem? (i := 6) rfl)⟩
theorem nin_3_6 : vp_in (3 : Int32) 6 := fun h => by rcases h with h | h <;> revert h <;> decide
theorem zf_X5 : ∀ j, j < 3 → defaultValue (tyX5 j) = vp_V [.null, .int 0, .int 0] j
  | 0, _ => rfl
  | 1, _ => rfl
  | 2, _ => rfl
  | j + 3, h => absurd h (by omega)
theorem lf_X4_7_5 : LKF RX4 7 5 0 (.object "HadForVoice$Host") := ⟨RX5, TX5, 3, tyX5, rfl, inT5, by decide, (in_r3 _ (List.mem_of_getElem? (i := 19) rfl)), tyX5_ok, nmX5, rfl, rfl, tyX5_ok 0 (by decide)⟩
theorem vi_X11_32 : VWI RX11 32 yX5_init cX5_init 2 1 := ⟨(in_r4 _ (List.mem_of_getElem? (i := 10) rfl)), (in_r4 _ (List.mem_of_getElem? (i := 8) rfl)), (in_r4 _ (List.mem_of_getElem? (i := 9) rfl)), (in_r2 _ (List.mem_of_getElem? (i := 7) rfl)), by decide, rfl, ⟨by decide +kernel, by decide +kernel, by decide +kernel⟩⟩
theorem nwt_5 : nwT 5 := ⟨RX5, TX5, 3, rfl, .inr (List.mem_of_getElem? (i := 7) rfl)⟩
theorem nin_4_6 : vp_in (4 : Int32) 6 := fun h => by rcases h with h | h <;> revert h <;> decide
theorem ntc_4 : (4 : Int32).toNatClampNeg = 4 := by decide
theorem zf_X0 : ∀ j, j < 3 → defaultValue (tyX0 j) = vp_V [.null, .int 0, .int 0] j
  | 0, _ => rfl
  | 1, _ => rfl
  | 2, _ => rfl
  | j + 3, h => absurd h (by omega)
theorem lf_X4_7_0 : LKF RX4 7 0 0 (.object "HadForVoice$Host") := ⟨RX0, TX0, 3, tyX0, rfl, inT0, by decide, (in_r3 _ (List.mem_of_getElem? (i := 19) rfl)), tyX0_ok, nmX0, rfl, rfl, tyX0_ok 0 (by decide)⟩
theorem vi_X11_35 : VWI RX11 35 yX0_init cX0_init 2 1 := ⟨(in_r4 _ (List.mem_of_getElem? (i := 14) rfl)), (in_r4 _ (List.mem_of_getElem? (i := 12) rfl)), (in_r4 _ (List.mem_of_getElem? (i := 13) rfl)), (in_r2 _ (List.mem_of_getElem? (i := 10) rfl)), by decide, rfl, ⟨by decide +kernel, by decide +kernel, by decide +kernel⟩⟩
theorem nwt_0 : nwT 0 := ⟨RX0, TX0, 3, rfl, .inr (List.mem_of_getElem? (i := 8) rfl)⟩
theorem nin_5_6 : vp_in (5 : Int32) 6 := fun h => by rcases h with h | h <;> revert h <;> decide
theorem ntc_5 : (5 : Int32).toNatClampNeg = 5 := by decide
theorem zf_X9 : ∀ j, j < 18 → defaultValue (tyX9 j) = vp_V [.null, .null, .int 0, .null, .null, .null, .null, .null, .int 0, .int 0, .null, .null, .int 0, .int 0, .int 0, .null, .int 0, .null] j
  | 0, _ => rfl
  | 1, _ => rfl
  | 2, _ => rfl
  | 3, _ => rfl
  | 4, _ => rfl
  | 5, _ => rfl
  | 6, _ => rfl
  | 7, _ => rfl
  | 8, _ => rfl
  | 9, _ => rfl
  | 10, _ => rfl
  | 11, _ => rfl
  | 12, _ => rfl
  | 13, _ => rfl
  | 14, _ => rfl
  | 15, _ => rfl
  | 16, _ => rfl
  | 17, _ => rfl
  | j + 18, h => absurd h (by omega)
theorem vi_X11_38 : VWI RX11 38 yX9_init cX9_init 2 1 := ⟨(in_r4 _ (List.mem_of_getElem? (i := 18) rfl)), (in_r4 _ (List.mem_of_getElem? (i := 16) rfl)), (in_r4 _ (List.mem_of_getElem? (i := 17) rfl)), (in_r2 _ (List.mem_of_getElem? (i := 13) rfl)), by decide, rfl, ⟨by decide +kernel, by decide +kernel, by decide +kernel⟩⟩
theorem lf_X11_41_11 : LKF RX11 41 11 1 (.object "HadForVoice$Town") := ⟨RX11, TX11, 9, tyX11, rfl, inT11, by decide, (in_r2 _ (List.mem_of_getElem? (i := 14) rfl)), tyX11_ok, nmX11, rfl, rfl, tyX11_ok 1 (by decide)⟩
theorem lf_X11_45_11 : LKF RX11 45 11 2 (.object "HadForVoice$Town") := ⟨RX11, TX11, 9, tyX11, rfl, inT11, by decide, (in_r2 _ (List.mem_of_getElem? (i := 15) rfl)), tyX11_ok, nmX11, rfl, rfl, tyX11_ok 2 (by decide)⟩
theorem lf_X11_48_11 : LKF RX11 48 11 4 (.object "HadForVoice$Town") := ⟨RX11, TX11, 9, tyX11, rfl, inT11, by decide, (in_r2 _ (List.mem_of_getElem? (i := 16) rfl)), tyX11_ok, nmX11, rfl, rfl, tyX11_ok 4 (by decide)⟩
theorem zf_X8 : ∀ j, j < 8 → defaultValue (tyX8 j) = vp_V [.null, .null, .null, .int 0, .int 0, .long 0, .null, .null] j
  | 0, _ => rfl
  | 1, _ => rfl
  | 2, _ => rfl
  | 3, _ => rfl
  | 4, _ => rfl
  | 5, _ => rfl
  | 6, _ => rfl
  | 7, _ => rfl
  | j + 8, h => absurd h (by omega)
theorem lr_X11_48_11 : LKI RX11 48 11 4 := ⟨RX11, TX11, 9, "HadForVoice", rfl, inT11, by decide, (in_r2 _ (List.mem_of_getElem? (i := 16) rfl)), .inl rfl⟩
theorem vi_X11_53 : VWI RX11 53 yX8_init cX8_init 2 1 := ⟨(in_r5 _ (List.mem_of_getElem? (i := 23) rfl)), (in_r5 _ (List.mem_of_getElem? (i := 21) rfl)), (in_r5 _ (List.mem_of_getElem? (i := 22) rfl)), (in_r2 _ (List.mem_of_getElem? (i := 19) rfl)), by decide, rfl, ⟨by decide +kernel, by decide +kernel, by decide +kernel⟩⟩
theorem lf_X11_56_11 : LKF RX11 56 11 5 (.object "HadForVoice$Search") := ⟨RX11, TX11, 9, tyX11, rfl, inT11, by decide, (in_r2 _ (List.mem_of_getElem? (i := 20) rfl)), tyX11_ok, nmX11, rfl, rfl, tyX11_ok 5 (by decide)⟩
theorem zf_X6 : ∀ j, j < 6 → defaultValue (tyX6 j) = vp_V [.null, .int 0, .null, .null, .int 0, .null] j
  | 0, _ => rfl
  | 1, _ => rfl
  | 2, _ => rfl
  | 3, _ => rfl
  | 4, _ => rfl
  | 5, _ => rfl
  | j + 6, h => absurd h (by omega)
theorem vi_X11_62 : VWM RX11 62 yX6_init cX6_init 1 0 := ⟨(in_r6 _ (List.mem_of_getElem? (i := 8) rfl)), (List.mem_of_getElem? (i := 1) rfl), (in_r6 _ (List.mem_of_getElem? (i := 7) rfl)), (in_r2 _ (List.mem_of_getElem? (i := 23) rfl)), by decide, rfl, ⟨by decide +kernel, by decide +kernel, by decide +kernel⟩⟩
theorem lf_X11_63_11 : LKF RX11 63 11 6 (.object "HadForVoice$RuleText") := ⟨RX11, TX11, 9, tyX11, rfl, inT11, by decide, (in_r3 _ (List.mem_of_getElem? (i := 0) rfl)), tyX11_ok, nmX11, rfl, rfl, tyX11_ok 6 (by decide)⟩
theorem lf_X11_69_11 : LKF RX11 69 11 7 (.array (.array .int)) := ⟨RX11, TX11, 9, tyX11, rfl, inT11, by decide, (in_r3 _ (List.mem_of_getElem? (i := 3) rfl)), tyX11_ok, nmX11, rfl, rfl, tyX11_ok 7 (by decide)⟩
theorem nks_340 : (Int16.ofInt (340)).toInt32 = (340 : Int32) := by decide
theorem nln_340_4 : ¬ (340 : Int32) < 0 ∧ (340 : Int32).toNatClampNeg = 340 ∧ 340 * 4 ≤ 536870912 := ⟨by decide, by decide, by decide⟩
theorem lf_X12_7_12 : LKF RX12 7 12 0 (.array .int) := ⟨RX12, TX12, 45, tyX12, rfl, inT12, by decide, (in_r6 _ (List.mem_of_getElem? (i := 19) rfl)), tyX12_ok, nmX12, rfl, rfl, tyX12_ok 0 (by decide)⟩
theorem lf_X12_13_12 : LKF RX12 13 12 1 (.array .int) := ⟨RX12, TX12, 45, tyX12, rfl, inT12, by decide, (in_r6 _ (List.mem_of_getElem? (i := 20) rfl)), tyX12_ok, nmX12, rfl, rfl, tyX12_ok 1 (by decide)⟩
theorem lf_X12_16_12 : LKF RX12 16 12 2 (.array .int) := ⟨RX12, TX12, 45, tyX12, rfl, inT12, by decide, (in_r6 _ (List.mem_of_getElem? (i := 21) rfl)), tyX12_ok, nmX12, rfl, rfl, tyX12_ok 2 (by decide)⟩
theorem lq_X12_19_12 : LKP RX12 19 12 4 .int := ⟨RX12, TX12, 45, "HadForVoiceModel", tyX12, rfl, inT12, by decide, (in_r6 _ (List.mem_of_getElem? (i := 22) rfl)), .inl rfl, tyX12_ok, nmX12, rfl, tyX12_ok 4 (by decide)⟩
theorem lf_X12_23_12 : LKF RX12 23 12 5 (.array .int) := ⟨RX12, TX12, 45, tyX12, rfl, inT12, by decide, (in_r6 _ (List.mem_of_getElem? (i := 23) rfl)), tyX12_ok, nmX12, rfl, rfl, tyX12_ok 5 (by decide)⟩
theorem lf_X12_26_12 : LKF RX12 26 12 8 (.array .int) := ⟨RX12, TX12, 45, tyX12, rfl, inT12, by decide, (in_r7 _ (List.mem_of_getElem? (i := 0) rfl)), tyX12_ok, nmX12, rfl, rfl, tyX12_ok 8 (by decide)⟩
theorem lf_X12_29_12 : LKF RX12 29 12 9 (.array .int) := ⟨RX12, TX12, 45, tyX12, rfl, inT12, by decide, (in_r7 _ (List.mem_of_getElem? (i := 1) rfl)), tyX12_ok, nmX12, rfl, rfl, tyX12_ok 9 (by decide)⟩
theorem lf_X12_32_12 : LKF RX12 32 12 10 (.array .int) := ⟨RX12, TX12, 45, tyX12, rfl, inT12, by decide, (in_r7 _ (List.mem_of_getElem? (i := 2) rfl)), tyX12_ok, nmX12, rfl, rfl, tyX12_ok 10 (by decide)⟩
theorem lf_X12_35_12 : LKF RX12 35 12 16 (.array .int) := ⟨RX12, TX12, 45, tyX12, rfl, inT12, by decide, (in_r7 _ (List.mem_of_getElem? (i := 3) rfl)), tyX12_ok, nmX12, rfl, rfl, tyX12_ok 16 (by decide)⟩
theorem lf_X12_38_12 : LKF RX12 38 12 17 (.array .int) := ⟨RX12, TX12, 45, tyX12, rfl, inT12, by decide, (in_r7 _ (List.mem_of_getElem? (i := 4) rfl)), tyX12_ok, nmX12, rfl, rfl, tyX12_ok 17 (by decide)⟩
theorem nkb_18 : (Int8.ofInt (18)).toInt32 = (18 : Int32) := by decide
theorem nln_18_4 : ¬ (18 : Int32) < 0 ∧ (18 : Int32).toNatClampNeg = 18 ∧ 18 * 4 ≤ 536870912 := ⟨by decide, by decide, by decide⟩
theorem lf_X12_41_12 : LKF RX12 41 12 23 (.array .int) := ⟨RX12, TX12, 45, tyX12, rfl, inT12, by decide, (in_r7 _ (List.mem_of_getElem? (i := 5) rfl)), tyX12_ok, nmX12, rfl, rfl, tyX12_ok 23 (by decide)⟩
theorem lf_X12_44_12 : LKF RX12 44 12 25 (.array .int) := ⟨RX12, TX12, 45, tyX12, rfl, inT12, by decide, (in_r7 _ (List.mem_of_getElem? (i := 6) rfl)), tyX12_ok, nmX12, rfl, rfl, tyX12_ok 25 (by decide)⟩
theorem lf_X12_47_12 : LKF RX12 47 12 33 (.array .int) := ⟨RX12, TX12, 45, tyX12, rfl, inT12, by decide, (in_r7 _ (List.mem_of_getElem? (i := 7) rfl)), tyX12_ok, nmX12, rfl, rfl, tyX12_ok 33 (by decide)⟩
theorem lf_X12_50_12 : LKF RX12 50 12 34 (.array .int) := ⟨RX12, TX12, 45, tyX12, rfl, inT12, by decide, (in_r7 _ (List.mem_of_getElem? (i := 8) rfl)), tyX12_ok, nmX12, rfl, rfl, tyX12_ok 34 (by decide)⟩
theorem nks_160 : (Int16.ofInt (160)).toInt32 = (160 : Int32) := by decide
theorem nln_160_4 : ¬ (160 : Int32) < 0 ∧ (160 : Int32).toNatClampNeg = 160 ∧ 160 * 4 ≤ 536870912 := ⟨by decide, by decide, by decide⟩
theorem lf_X12_53_12 : LKF RX12 53 12 35 (.array .int) := ⟨RX12, TX12, 45, tyX12, rfl, inT12, by decide, (in_r7 _ (List.mem_of_getElem? (i := 9) rfl)), tyX12_ok, nmX12, rfl, rfl, tyX12_ok 35 (by decide)⟩
theorem lf_X12_56_12 : LKF RX12 56 12 36 (.array .int) := ⟨RX12, TX12, 45, tyX12, rfl, inT12, by decide, (in_r7 _ (List.mem_of_getElem? (i := 10) rfl)), tyX12_ok, nmX12, rfl, rfl, tyX12_ok 36 (by decide)⟩
theorem lf_X12_59_12 : LKF RX12 59 12 37 (.array .int) := ⟨RX12, TX12, 45, tyX12, rfl, inT12, by decide, (in_r7 _ (List.mem_of_getElem? (i := 11) rfl)), tyX12_ok, nmX12, rfl, rfl, tyX12_ok 37 (by decide)⟩
theorem lf_X12_62_12 : LKF RX12 62 12 38 (.array .int) := ⟨RX12, TX12, 45, tyX12, rfl, inT12, by decide, (in_r7 _ (List.mem_of_getElem? (i := 12) rfl)), tyX12_ok, nmX12, rfl, rfl, tyX12_ok 38 (by decide)⟩
theorem lf_X12_65_12 : LKF RX12 65 12 39 (.array .int) := ⟨RX12, TX12, 45, tyX12, rfl, inT12, by decide, (in_r7 _ (List.mem_of_getElem? (i := 13) rfl)), tyX12_ok, nmX12, rfl, rfl, tyX12_ok 39 (by decide)⟩
theorem lr_X12_7_12 : LKI RX12 7 12 0 := ⟨RX12, TX12, 45, "HadForVoiceModel", rfl, inT12, by decide, (in_r6 _ (List.mem_of_getElem? (i := 19) rfl)), .inl rfl⟩
theorem nin_5_340 : vp_in (5 : Int32) 340 := fun h => by rcases h with h | h <;> revert h <;> decide
theorem vi_L_9 : VWI RL 9 yX11_init cX11_init 2 0 := ⟨(in_r1 _ (List.mem_of_getElem? (i := 9) rfl)), (in_r1 _ (List.mem_of_getElem? (i := 7) rfl)), (in_r1 _ (List.mem_of_getElem? (i := 8) rfl)), (in_r1 _ (List.mem_of_getElem? (i := 2) rfl)), by decide, rfl, ⟨by decide +kernel, by decide +kernel, by decide +kernel⟩⟩
theorem vi_L_12 : VWI RL 12 yX12_init cX12_init 1 0 := ⟨(in_r6 _ (List.mem_of_getElem? (i := 17) rfl)), (in_r6 _ (List.mem_of_getElem? (i := 15) rfl)), (in_r6 _ (List.mem_of_getElem? (i := 16) rfl)), (in_r1 _ (List.mem_of_getElem? (i := 5) rfl)), by decide, rfl, ⟨by decide +kernel, by decide +kernel, by decide +kernel⟩⟩
theorem zf_X11 : ∀ j, j < 9 → defaultValue (tyX11 j) = vp_V [.null, .null, .null, .int 0, .null, .null, .null, .null, .int 0] j
  | 0, _ => rfl
  | 1, _ => rfl
  | 2, _ => rfl
  | 3, _ => rfl
  | 4, _ => rfl
  | 5, _ => rfl
  | 6, _ => rfl
  | 7, _ => rfl
  | 8, _ => rfl
  | j + 9, h => absurd h (by omega)
theorem zf_X12 : ∀ j, j < 45 → defaultValue (tyX12 j) = vp_V [.null, .null, .null, .int 0, .int 0, .null, .int 0, .int 0, .null, .null, .null, .int 0, .int 0, .int 0, .int 0, .int 0, .null, .null, .int 0, .int 0, .int 0, .int 0, .int 0, .null, .int 0, .null, .int 0, .int 0, .int 0, .int 0, .int 0, .int 0, .int 0, .null, .null, .null, .null, .null, .null, .null, .int 0, .int 0, .int 0, .int 0, .int 0] j
  | 0, _ => rfl
  | 1, _ => rfl
  | 2, _ => rfl
  | 3, _ => rfl
  | 4, _ => rfl
  | 5, _ => rfl
  | 6, _ => rfl
  | 7, _ => rfl
  | 8, _ => rfl
  | 9, _ => rfl
  | 10, _ => rfl
  | 11, _ => rfl
  | 12, _ => rfl
  | 13, _ => rfl
  | 14, _ => rfl
  | 15, _ => rfl
  | 16, _ => rfl
  | 17, _ => rfl
  | 18, _ => rfl
  | 19, _ => rfl
  | 20, _ => rfl
  | 21, _ => rfl
  | 22, _ => rfl
  | 23, _ => rfl
  | 24, _ => rfl
  | 25, _ => rfl
  | 26, _ => rfl
  | 27, _ => rfl
  | 28, _ => rfl
  | 29, _ => rfl
  | 30, _ => rfl
  | 31, _ => rfl
  | 32, _ => rfl
  | 33, _ => rfl
  | 34, _ => rfl
  | 35, _ => rfl
  | 36, _ => rfl
  | 37, _ => rfl
  | 38, _ => rfl
  | 39, _ => rfl
  | 40, _ => rfl
  | 41, _ => rfl
  | 42, _ => rfl
  | 43, _ => rfl
  | 44, _ => rfl
  | j + 45, h => absurd h (by omega)
def nwp_X7 (P : PT) (K c : Nat) (ρ : Nat → va_E) : Nat → va_E :=
  upC (upC (upC (upC (upC (upC (upC (upC (upC (upC (upC (upC (ρ) K (.inl (pY P 0, 8, .inl (fun _ => 0)))) c (.inr (7, [.int 0, .ref (pb P + K), .null, .null, .null, .int 0, .null, .null]))) (K + 1) (.inl (pY P 0, 8, .inl (fun _ => 0)))) c (.inr (7, [.int 0, .ref (pb P + K), .ref (pb P + (K + 1)), .null, .null, .int 0, .null, .null]))) (K + 2) (.inl (pY P 0, 8, .inl (fun _ => 0)))) c (.inr (7, [.int 0, .ref (pb P + K), .ref (pb P + (K + 1)), .ref (pb P + (K + 2)), .null, .int 0, .null, .null]))) (K + 3) (.inl (pY P 0, 8, .inl (fun _ => 0)))) c (.inr (7, [.int 0, .ref (pb P + K), .ref (pb P + (K + 1)), .ref (pb P + (K + 2)), .ref (pb P + (K + 3)), .int 0, .null, .null]))) (K + 4) (.inl (pY P 0, 200, .inl (fun _ => 0)))) c (.inr (7, [.int 0, .ref (pb P + K), .ref (pb P + (K + 1)), .ref (pb P + (K + 2)), .ref (pb P + (K + 3)), .int 0, .ref (pb P + (K + 4)), .null]))) (K + 5) (.inl (pY P 0, 5, .inl (fun _ => 0)))) c (.inr (7, [.int 0, .ref (pb P + K), .ref (pb P + (K + 1)), .ref (pb P + (K + 2)), .ref (pb P + (K + 3)), .int 0, .ref (pb P + (K + 4)), .ref (pb P + (K + 5))]))
theorem nwo_X7 {P : PT} {K c i : Nat} {ρ : Nat → va_E} (h1 : i < K) (h2 : i ≠ c) : nwp_X7 P K c ρ i = ρ i := (upC_ne (by omega)).trans ((upC_ne (by omega)).trans ((upC_ne (by omega)).trans ((upC_ne (by omega)).trans ((upC_ne (by omega)).trans ((upC_ne (by omega)).trans ((upC_ne (by omega)).trans ((upC_ne (by omega)).trans ((upC_ne (by omega)).trans ((upC_ne (by omega)).trans ((upC_ne (by omega)).trans ((upC_ne (by omega)).trans (rfl))))))))))))
set_option maxRecDepth 100000 in
set_option maxHeartbeats 4000000 in
theorem n_X7_init (l : Launch) (P : PT) (K c : Nat) {ρ : Nat → va_E} (hc : c < K) (h0 : ρ c = .inr (7, [.int 0, .null, .null, .null, .null, .int 0, .null, .null])) : nwM l 1 yX7_init cX7_init 1 6 237 K [rf P c] P ρ (nwp_X7 P K c ρ) := by
  refine nw_met rfl rfl rfl (Nat.le_of_ble_eq_true rfl) (fun G C hg hname E => ?_)
  change nwA P G 1 K ρ 0 0 0 [(0, rf P c)] []
  refine nw_aload_n C 0 dX7_init_0 rfl ?_
  refine nw_obj C dX7_init_1 (in_r5 _ (List.mem_of_getElem? (i := 14) rfl)) (in_r1 _ (List.mem_of_getElem? (i := 11) rfl)) (in_r1 _ (List.mem_of_getElem? (i := 12) rfl)) (by decide) ?_
  refine nw_aload_n C 0 dX7_init_4 rfl ?_
  refine nw_bipush C dX7_init_5 nkb_8 ?_
  refine nw_newi (K' := K + 1) (c' := 1) (s' := 8) C dX7_init_7 nln_8_4 (in_r3 _ (List.mem_of_getElem? (i := 2) rfl)) rfl rfl rfl ⟨Nat.le_of_ble_eq_true rfl, Nat.le_of_ble_eq_true rfl⟩ ?_
  refine nw_putF (fs' := [.int 0, .ref (pb P + K), .null, .null, .null, .int 0, .null, .null]) C hname dX7_init_9 lf_X7_9_7 (by omega) ((upC_ne (by omega)).trans (h0)) rfl rfl (Nat.le_of_ble_eq_true rfl) rfl ?_
  refine nw_aload_n C 0 dX7_init_12 rfl ?_
  refine nw_bipush C dX7_init_13 nkb_8 ?_
  refine nw_newi (K' := K + 2) (c' := 2) (s' := 16) C dX7_init_15 nln_8_4 (in_r3 _ (List.mem_of_getElem? (i := 2) rfl)) rfl rfl rfl ⟨Nat.le_of_ble_eq_true rfl, Nat.le_of_ble_eq_true rfl⟩ ?_
  refine nw_putF (fs' := [.int 0, .ref (pb P + K), .ref (pb P + (K + 1)), .null, .null, .int 0, .null, .null]) C hname dX7_init_17 lf_X7_15_7 (by omega) ((upC_ne (by omega)).trans (upC_eq)) rfl rfl (Nat.le_of_ble_eq_true rfl) rfl ?_
  refine nw_aload_n C 0 dX7_init_20 rfl ?_
  refine nw_bipush C dX7_init_21 nkb_8 ?_
  refine nw_newi (K' := K + 3) (c' := 3) (s' := 24) C dX7_init_23 nln_8_4 (in_r3 _ (List.mem_of_getElem? (i := 2) rfl)) rfl rfl rfl ⟨Nat.le_of_ble_eq_true rfl, Nat.le_of_ble_eq_true rfl⟩ ?_
  refine nw_putF (fs' := [.int 0, .ref (pb P + K), .ref (pb P + (K + 1)), .ref (pb P + (K + 2)), .null, .int 0, .null, .null]) C hname dX7_init_25 lf_X7_18_7 (by omega) ((upC_ne (by omega)).trans (upC_eq)) rfl rfl (Nat.le_of_ble_eq_true rfl) rfl ?_
  refine nw_aload_n C 0 dX7_init_28 rfl ?_
  refine nw_bipush C dX7_init_29 nkb_8 ?_
  refine nw_newi (K' := K + 4) (c' := 4) (s' := 32) C dX7_init_31 nln_8_4 (in_r3 _ (List.mem_of_getElem? (i := 2) rfl)) rfl rfl rfl ⟨Nat.le_of_ble_eq_true rfl, Nat.le_of_ble_eq_true rfl⟩ ?_
  refine nw_putF (fs' := [.int 0, .ref (pb P + K), .ref (pb P + (K + 1)), .ref (pb P + (K + 2)), .ref (pb P + (K + 3)), .int 0, .null, .null]) C hname dX7_init_33 lf_X7_21_7 (by omega) ((upC_ne (by omega)).trans (upC_eq)) rfl rfl (Nat.le_of_ble_eq_true rfl) rfl ?_
  refine nw_aload_n C 0 dX7_init_36 rfl ?_
  refine nw_sipush C dX7_init_37 nks_200 ?_
  refine nw_newi (K' := K + 5) (c' := 5) (s' := 232) C dX7_init_40 nln_200_4 (in_r3 _ (List.mem_of_getElem? (i := 2) rfl)) rfl rfl rfl ⟨Nat.le_of_ble_eq_true rfl, Nat.le_of_ble_eq_true rfl⟩ ?_
  refine nw_putF (fs' := [.int 0, .ref (pb P + K), .ref (pb P + (K + 1)), .ref (pb P + (K + 2)), .ref (pb P + (K + 3)), .int 0, .ref (pb P + (K + 4)), .null]) C hname dX7_init_42 lf_X7_24_7 (by omega) ((upC_ne (by omega)).trans (upC_eq)) rfl rfl (Nat.le_of_ble_eq_true rfl) rfl ?_
  refine nw_aload_n C 0 dX7_init_45 rfl ?_
  refine nw_iconst C dX7_init_46 nki_5 ?_
  refine nw_newi (K' := K + 6) (c' := 6) (s' := 237) C dX7_init_47 nln_5_4 (in_r3 _ (List.mem_of_getElem? (i := 2) rfl)) rfl rfl rfl ⟨Nat.le_of_ble_eq_true rfl, Nat.le_of_ble_eq_true rfl⟩ ?_
  refine nw_putF (fs' := [.int 0, .ref (pb P + K), .ref (pb P + (K + 1)), .ref (pb P + (K + 2)), .ref (pb P + (K + 3)), .int 0, .ref (pb P + (K + 4)), .ref (pb P + (K + 5))]) C hname dX7_init_49 lf_X7_27_7 (by omega) ((upC_ne (by omega)).trans (upC_eq)) rfl rfl (Nat.le_of_ble_eq_true rfl) rfl ?_
  exact nw_vret E dX7_init_52
def nwp_X1 (P : PT) (K c : Nat) (ρ : Nat → va_E) : Nat → va_E :=
  upC (upC (upC (upC (upC (upC (upC (upC (upC (upR (upC (upC (upC (upC (upC (upC (upC (upC (ρ) K (.inl (pY P 0, 4, .inl (fun _ => 0)))) K (.inl (pY P 0, 4, .inl (upd (fun _ => 0) 0 (-1))))) K (.inl (pY P 0, 4, .inl (upd (upd (fun _ => 0) 0 (-1)) 1 (-1))))) K (.inl (pY P 0, 4, .inl (upd (upd (upd (fun _ => 0) 0 (-1)) 1 (-1)) 2 (-1))))) K (.inl (pY P 0, 4, .inl (upd (upd (upd (upd (fun _ => 0) 0 (-1)) 1 (-1)) 2 (-1)) 3 (-1))))) c (.inr (1, [.ref (pb P + K), .null, .null, .null, .null, .null, .int 0, .null, .int 0]))) (K + 1) (.inl (pY P 0, 4, .inl (fun _ => 0)))) c (.inr (1, [.ref (pb P + K), .ref (pb P + (K + 1)), .null, .null, .null, .null, .int 0, .null, .int 0]))) (K + 2) 4 (.inl (pY P 2, 4, .inr (.inr (.inr (.inr (fun j => some (pb P + (K + 2 + 1 + j)))))))) (.inl (pY P 0, 40, .inl (fun _ => 0)))) c (.inr (1, [.ref (pb P + K), .ref (pb P + (K + 1)), .ref (pb P + (K + 2)), .null, .null, .null, .int 0, .null, .int 0]))) (K + 7) (.inl (pY P 0, 4, .inl (fun _ => 0)))) c (.inr (1, [.ref (pb P + K), .ref (pb P + (K + 1)), .ref (pb P + (K + 2)), .ref (pb P + (K + 7)), .null, .null, .int 0, .null, .int 0]))) (K + 8) (.inl (pY P 0, 4, .inl (fun _ => 0)))) c (.inr (1, [.ref (pb P + K), .ref (pb P + (K + 1)), .ref (pb P + (K + 2)), .ref (pb P + (K + 7)), .ref (pb P + (K + 8)), .null, .int 0, .null, .int 0]))) (K + 9) (.inl (pY P 0, 4, .inl (fun _ => 0)))) c (.inr (1, [.ref (pb P + K), .ref (pb P + (K + 1)), .ref (pb P + (K + 2)), .ref (pb P + (K + 7)), .ref (pb P + (K + 8)), .ref (pb P + (K + 9)), .int 0, .null, .int 0]))) (K + 10) (.inl (pY P 0, 30, .inl (fun _ => 0)))) c (.inr (1, [.ref (pb P + K), .ref (pb P + (K + 1)), .ref (pb P + (K + 2)), .ref (pb P + (K + 7)), .ref (pb P + (K + 8)), .ref (pb P + (K + 9)), .int 0, .ref (pb P + (K + 10)), .int 0]))
theorem nwo_X1 {P : PT} {K c i : Nat} {ρ : Nat → va_E} (h1 : i < K) (h2 : i ≠ c) : nwp_X1 P K c ρ i = ρ i := (upC_ne (by omega)).trans ((upC_ne (by omega)).trans ((upC_ne (by omega)).trans ((upC_ne (by omega)).trans ((upC_ne (by omega)).trans ((upC_ne (by omega)).trans ((upC_ne (by omega)).trans ((upC_ne (by omega)).trans ((upC_ne (by omega)).trans ((upR_ne (by omega)).trans ((upC_ne (by omega)).trans ((upC_ne (by omega)).trans ((upC_ne (by omega)).trans ((upC_ne (by omega)).trans ((upC_ne (by omega)).trans ((upC_ne (by omega)).trans ((upC_ne (by omega)).trans ((upC_ne (by omega)).trans (rfl))))))))))))))))))
set_option maxRecDepth 100000 in
set_option maxHeartbeats 4000000 in
theorem n_X1_init (l : Launch) (P : PT) (K c : Nat) {ρ : Nat → va_E} (hc : c < K) (h0 : ρ c = .inr (1, [.null, .null, .null, .null, .null, .null, .int 0, .null, .int 0])) : nwM l 1 yX1_init cX1_init 1 11 214 K [rf P c] P ρ (nwp_X1 P K c ρ) := by
  refine nw_met rfl rfl rfl (Nat.le_of_ble_eq_true rfl) (fun G C hg hname E => ?_)
  change nwA P G 1 K ρ 0 0 0 [(0, rf P c)] []
  refine nw_aload_n C 0 dX1_init_0 rfl ?_
  refine nw_obj C dX1_init_1 (in_r3 _ (List.mem_of_getElem? (i := 6) rfl)) (in_r1 _ (List.mem_of_getElem? (i := 11) rfl)) (in_r1 _ (List.mem_of_getElem? (i := 12) rfl)) (by decide) ?_
  refine nw_aload_n C 0 dX1_init_4 rfl ?_
  refine nw_iconst C dX1_init_5 nki_4 ?_
  refine nw_newi (K' := K + 1) (c' := 1) (s' := 4) C dX1_init_6 nln_4_4 (in_r3 _ (List.mem_of_getElem? (i := 2) rfl)) rfl rfl rfl ⟨Nat.le_of_ble_eq_true rfl, Nat.le_of_ble_eq_true rfl⟩ ?_
  refine nw_dup C dX1_init_8 rfl ?_
  refine nw_iconst C dX1_init_9 nki_0 ?_
  refine nw_iconst C dX1_init_10 nki_m1 ?_
  refine nw_iast C dX1_init_11 (by omega) (upC_eq) nin_0_4 ntc_0 ?_
  refine nw_dup C dX1_init_12 rfl ?_
  refine nw_iconst C dX1_init_13 nki_1 ?_
  refine nw_iconst C dX1_init_14 nki_m1 ?_
  refine nw_iast C dX1_init_15 (by omega) (upC_eq) nin_1_4 ntc_1 ?_
  refine nw_dup C dX1_init_16 rfl ?_
  refine nw_iconst C dX1_init_17 nki_2 ?_
  refine nw_iconst C dX1_init_18 nki_m1 ?_
  refine nw_iast C dX1_init_19 (by omega) (upC_eq) nin_2_4 ntc_2 ?_
  refine nw_dup C dX1_init_20 rfl ?_
  refine nw_iconst C dX1_init_21 nki_3 ?_
  refine nw_iconst C dX1_init_22 nki_m1 ?_
  refine nw_iast C dX1_init_23 (by omega) (upC_eq) nin_3_4 ntc_3 ?_
  refine nw_putF (fs' := [.ref (pb P + K), .null, .null, .null, .null, .null, .int 0, .null, .int 0]) C hname dX1_init_24 lf_X1_11_1 (by omega) ((upC_ne (by omega)).trans ((upC_ne (by omega)).trans ((upC_ne (by omega)).trans ((upC_ne (by omega)).trans ((upC_ne (by omega)).trans (h0)))))) rfl rfl (Nat.le_of_ble_eq_true rfl) rfl ?_
  refine nw_aload_n C 0 dX1_init_27 rfl ?_
  refine nw_iconst C dX1_init_28 nki_4 ?_
  refine nw_newi (K' := K + 2) (c' := 2) (s' := 8) C dX1_init_29 nln_4_4 (in_r3 _ (List.mem_of_getElem? (i := 2) rfl)) rfl rfl rfl ⟨Nat.le_of_ble_eq_true rfl, Nat.le_of_ble_eq_true rfl⟩ ?_
  refine nw_putF (fs' := [.ref (pb P + K), .ref (pb P + (K + 1)), .null, .null, .null, .null, .int 0, .null, .int 0]) C hname dX1_init_31 lf_X1_15_1 (by omega) ((upC_ne (by omega)).trans (upC_eq)) rfl rfl (Nat.le_of_ble_eq_true rfl) rfl ?_
  refine nw_aload_n C 0 dX1_init_34 rfl ?_
  refine nw_iconst C dX1_init_35 nki_4 ?_
  refine nw_bipush C dX1_init_36 nkb_40 ?_
  refine nw_newm (N := 4) (M := 40) (K' := K + 7) (c' := 7) (s' := 172) C dX1_init_38 nln_4_4 ⟨nln_40_4.1, nln_40_4.2.1, nln_40_4.2.2, by decide⟩ ⟨(in_r3 _ (List.mem_of_getElem? (i := 9) rfl)), (in_r3 _ (List.mem_of_getElem? (i := 2) rfl))⟩ (by omega) rfl rfl rfl ⟨Nat.le_of_ble_eq_true rfl, Nat.le_of_ble_eq_true rfl⟩ ?_
  refine nw_putF (fs' := [.ref (pb P + K), .ref (pb P + (K + 1)), .ref (pb P + (K + 2)), .null, .null, .null, .int 0, .null, .int 0]) C hname dX1_init_42 lf_X1_20_1 (by omega) ((upR_ne (by omega)).trans (upC_eq)) rfl rfl (Nat.le_of_ble_eq_true rfl) rfl ?_
  refine nw_aload_n C 0 dX1_init_45 rfl ?_
  refine nw_iconst C dX1_init_46 nki_4 ?_
  refine nw_newi (K' := K + 8) (c' := 8) (s' := 176) C dX1_init_47 nln_4_4 (in_r3 _ (List.mem_of_getElem? (i := 2) rfl)) rfl rfl rfl ⟨Nat.le_of_ble_eq_true rfl, Nat.le_of_ble_eq_true rfl⟩ ?_
  refine nw_putF (fs' := [.ref (pb P + K), .ref (pb P + (K + 1)), .ref (pb P + (K + 2)), .ref (pb P + (K + 7)), .null, .null, .int 0, .null, .int 0]) C hname dX1_init_49 lf_X1_23_1 (by omega) ((upC_ne (by omega)).trans (upC_eq)) rfl rfl (Nat.le_of_ble_eq_true rfl) rfl ?_
  refine nw_aload_n C 0 dX1_init_52 rfl ?_
  refine nw_iconst C dX1_init_53 nki_4 ?_
  refine nw_newi (K' := K + 9) (c' := 9) (s' := 180) C dX1_init_54 nln_4_4 (in_r3 _ (List.mem_of_getElem? (i := 2) rfl)) rfl rfl rfl ⟨Nat.le_of_ble_eq_true rfl, Nat.le_of_ble_eq_true rfl⟩ ?_
  refine nw_putF (fs' := [.ref (pb P + K), .ref (pb P + (K + 1)), .ref (pb P + (K + 2)), .ref (pb P + (K + 7)), .ref (pb P + (K + 8)), .null, .int 0, .null, .int 0]) C hname dX1_init_56 lf_X1_26_1 (by omega) ((upC_ne (by omega)).trans (upC_eq)) rfl rfl (Nat.le_of_ble_eq_true rfl) rfl ?_
  refine nw_aload_n C 0 dX1_init_59 rfl ?_
  refine nw_iconst C dX1_init_60 nki_4 ?_
  refine nw_newi (K' := K + 10) (c' := 10) (s' := 184) C dX1_init_61 nln_4_4 (in_r3 _ (List.mem_of_getElem? (i := 2) rfl)) rfl rfl rfl ⟨Nat.le_of_ble_eq_true rfl, Nat.le_of_ble_eq_true rfl⟩ ?_
  refine nw_putF (fs' := [.ref (pb P + K), .ref (pb P + (K + 1)), .ref (pb P + (K + 2)), .ref (pb P + (K + 7)), .ref (pb P + (K + 8)), .ref (pb P + (K + 9)), .int 0, .null, .int 0]) C hname dX1_init_63 lf_X1_29_1 (by omega) ((upC_ne (by omega)).trans (upC_eq)) rfl rfl (Nat.le_of_ble_eq_true rfl) rfl ?_
  refine nw_aload_n C 0 dX1_init_66 rfl ?_
  refine nw_bipush C dX1_init_67 nkb_30 ?_
  refine nw_newi (K' := K + 11) (c' := 11) (s' := 214) C dX1_init_69 nln_30_4 (in_r3 _ (List.mem_of_getElem? (i := 2) rfl)) rfl rfl rfl ⟨Nat.le_of_ble_eq_true rfl, Nat.le_of_ble_eq_true rfl⟩ ?_
  refine nw_putF (fs' := [.ref (pb P + K), .ref (pb P + (K + 1)), .ref (pb P + (K + 2)), .ref (pb P + (K + 7)), .ref (pb P + (K + 8)), .ref (pb P + (K + 9)), .int 0, .ref (pb P + (K + 10)), .int 0]) C hname dX1_init_71 lf_X1_32_1 (by omega) ((upC_ne (by omega)).trans (upC_eq)) rfl rfl (Nat.le_of_ble_eq_true rfl) rfl ?_
  exact nw_vret E dX1_init_74
set_option maxRecDepth 100000 in
set_option maxHeartbeats 4000000 in
theorem n_X4_init (l : Launch) (P : PT) (K c a ci : Nat) {ρ : Nat → va_E} (hc : c < K) (lf : LKF RX4 7 ci 0 (.object "HadForVoice$Host")) (h0 : ρ c = .inr (ci, [.null, .int 0, .int 0])) : nwM l 1 yX4_init cX4_init 2 0 0 K [rf P c, rf P a] P ρ (upC ρ c (.inr (ci, [.ref (pb P + a), .int 0, .int 0]))) := by
  refine nw_met rfl rfl rfl (Nat.le_of_ble_eq_true rfl) (fun G C hg hname E => ?_)
  change nwA P G 2 K ρ 0 0 0 [(0, rf P c), (1, rf P a)] []
  refine nw_aload_n C 0 dX4_init_0 rfl ?_
  refine nw_obj C dX4_init_1 (in_r3 _ (List.mem_of_getElem? (i := 18) rfl)) (in_r1 _ (List.mem_of_getElem? (i := 11) rfl)) (in_r1 _ (List.mem_of_getElem? (i := 12) rfl)) (by decide) ?_
  refine nw_aload_n C 0 dX4_init_4 rfl ?_
  refine nw_aload_n C 1 dX4_init_5 rfl ?_
  refine nw_putF (fs' := [.ref (pb P + a), .int 0, .int 0]) C hname dX4_init_6 lf (by omega) (h0) rfl rfl (Nat.le_of_ble_eq_true rfl) rfl ?_
  exact nw_vret E dX4_init_9
set_option maxRecDepth 100000 in
set_option maxHeartbeats 4000000 in
theorem n_X2_init (l : Launch) (P : PT) (K c a ci : Nat) {ρ : Nat → va_E} (hc : c < K) (lf : LKF RX4 7 ci 0 (.object "HadForVoice$Host")) (h0 : ρ c = .inr (ci, [.null, .int 0, .int 0])) : nwM l 2 yX2_init cX2_init 2 0 0 K [rf P c, rf P a] P ρ (upC ρ c (.inr (ci, [.ref (pb P + a), .int 0, .int 0]))) := by
  refine nw_met rfl rfl rfl (Nat.le_of_ble_eq_true rfl) (fun G C hg hname E => ?_)
  change nwA P G 2 K ρ 0 0 0 [(0, rf P c), (1, rf P a)] []
  refine nw_aload_n C 0 dX2_init_0 rfl ?_
  refine nw_aload_n C 1 dX2_init_1 rfl ?_
  refine nw_call (As := [rf P a]) (rest := []) (K' := K + 0) (c' := 0) (s' := 0) C dX2_init_2 vi_X2_1 (n_X4_init l P K c a ci (by omega) lf (h0)) hg (by decide) rfl (Nat.le_of_ble_eq_true rfl) rfl (by omega) rfl rfl rfl ⟨Nat.le_of_ble_eq_true rfl, Nat.le_of_ble_eq_true rfl⟩ ?_
  exact nw_vret E dX2_init_5
set_option maxRecDepth 100000 in
set_option maxHeartbeats 4000000 in
theorem n_X3_init (l : Launch) (P : PT) (K c a ci : Nat) {ρ : Nat → va_E} (hc : c < K) (lf : LKF RX4 7 ci 0 (.object "HadForVoice$Host")) (h0 : ρ c = .inr (ci, [.null, .int 0, .int 0])) : nwM l 2 yX3_init cX3_init 2 0 0 K [rf P c, rf P a] P ρ (upC ρ c (.inr (ci, [.ref (pb P + a), .int 0, .int 0]))) := by
  refine nw_met rfl rfl rfl (Nat.le_of_ble_eq_true rfl) (fun G C hg hname E => ?_)
  change nwA P G 2 K ρ 0 0 0 [(0, rf P c), (1, rf P a)] []
  refine nw_aload_n C 0 dX3_init_0 rfl ?_
  refine nw_aload_n C 1 dX3_init_1 rfl ?_
  refine nw_call (As := [rf P a]) (rest := []) (K' := K + 0) (c' := 0) (s' := 0) C dX3_init_2 vi_X3_1 (n_X4_init l P K c a ci (by omega) lf (h0)) hg (by decide) rfl (Nat.le_of_ble_eq_true rfl) rfl (by omega) rfl rfl rfl ⟨Nat.le_of_ble_eq_true rfl, Nat.le_of_ble_eq_true rfl⟩ ?_
  exact nw_vret E dX3_init_5
set_option maxRecDepth 100000 in
set_option maxHeartbeats 4000000 in
theorem n_X5_init (l : Launch) (P : PT) (K c a ci : Nat) {ρ : Nat → va_E} (hc : c < K) (lf : LKF RX4 7 ci 0 (.object "HadForVoice$Host")) (h0 : ρ c = .inr (ci, [.null, .int 0, .int 0])) : nwM l 2 yX5_init cX5_init 2 0 0 K [rf P c, rf P a] P ρ (upC ρ c (.inr (ci, [.ref (pb P + a), .int 0, .int 0]))) := by
  refine nw_met rfl rfl rfl (Nat.le_of_ble_eq_true rfl) (fun G C hg hname E => ?_)
  change nwA P G 2 K ρ 0 0 0 [(0, rf P c), (1, rf P a)] []
  refine nw_aload_n C 0 dX5_init_0 rfl ?_
  refine nw_aload_n C 1 dX5_init_1 rfl ?_
  refine nw_call (As := [rf P a]) (rest := []) (K' := K + 0) (c' := 0) (s' := 0) C dX5_init_2 vi_X5_1 (n_X4_init l P K c a ci (by omega) lf (h0)) hg (by decide) rfl (Nat.le_of_ble_eq_true rfl) rfl (by omega) rfl rfl rfl ⟨Nat.le_of_ble_eq_true rfl, Nat.le_of_ble_eq_true rfl⟩ ?_
  exact nw_vret E dX5_init_5
set_option maxRecDepth 100000 in
set_option maxHeartbeats 4000000 in
theorem n_X10_init (l : Launch) (P : PT) (K c a ci : Nat) {ρ : Nat → va_E} (hc : c < K) (lf : LKF RX4 7 ci 0 (.object "HadForVoice$Host")) (h0 : ρ c = .inr (ci, [.null, .int 0, .int 0])) : nwM l 3 yX10_init cX10_init 2 0 0 K [rf P c, rf P a] P ρ (upC ρ c (.inr (ci, [.ref (pb P + a), .int 0, .int 0]))) := by
  refine nw_met rfl rfl rfl (Nat.le_of_ble_eq_true rfl) (fun G C hg hname E => ?_)
  change nwA P G 2 K ρ 0 0 0 [(0, rf P c), (1, rf P a)] []
  refine nw_aload_n C 0 dX10_init_0 rfl ?_
  refine nw_aload_n C 1 dX10_init_1 rfl ?_
  refine nw_call (As := [rf P a]) (rest := []) (K' := K + 0) (c' := 0) (s' := 0) C dX10_init_2 vi_X10_1 (n_X3_init l P K c a ci (by omega) lf (h0)) hg (by decide) rfl (Nat.le_of_ble_eq_true rfl) rfl (by omega) rfl rfl rfl ⟨Nat.le_of_ble_eq_true rfl, Nat.le_of_ble_eq_true rfl⟩ ?_
  exact nw_vret E dX10_init_5
set_option maxRecDepth 100000 in
set_option maxHeartbeats 4000000 in
theorem n_X0_init (l : Launch) (P : PT) (K c a ci : Nat) {ρ : Nat → va_E} (hc : c < K) (lf : LKF RX4 7 ci 0 (.object "HadForVoice$Host")) (h0 : ρ c = .inr (ci, [.null, .int 0, .int 0])) : nwM l 3 yX0_init cX0_init 2 0 0 K [rf P c, rf P a] P ρ (upC ρ c (.inr (ci, [.ref (pb P + a), .int 0, .int 0]))) := by
  refine nw_met rfl rfl rfl (Nat.le_of_ble_eq_true rfl) (fun G C hg hname E => ?_)
  change nwA P G 2 K ρ 0 0 0 [(0, rf P c), (1, rf P a)] []
  refine nw_aload_n C 0 dX0_init_0 rfl ?_
  refine nw_aload_n C 1 dX0_init_1 rfl ?_
  refine nw_call (As := [rf P a]) (rest := []) (K' := K + 0) (c' := 0) (s' := 0) C dX0_init_2 vi_X0_1 (n_X5_init l P K c a ci (by omega) lf (h0)) hg (by decide) rfl (Nat.le_of_ble_eq_true rfl) rfl (by omega) rfl rfl rfl ⟨Nat.le_of_ble_eq_true rfl, Nat.le_of_ble_eq_true rfl⟩ ?_
  exact nw_vret E dX0_init_5
def nwp_X8 (P : PT) (K c a : Nat) (ρ : Nat → va_E) : Nat → va_E :=
  upC (upC (upC (upC (upC (upC (upC (upC (upC (ρ) K (.inl (pY P 0, 6, .inl (fun _ => 0)))) c (.inr (8, [.null, .ref (pb P + K), .null, .int 0, .int 0, .long 0, .null, .null]))) (K + 1) (.inl (pY P 0, 6, .inl (fun _ => 0)))) c (.inr (8, [.null, .ref (pb P + K), .ref (pb P + (K + 1)), .int 0, .int 0, .long 0, .null, .null]))) (K + 2) (.inl (pY P 1, 2048, .inr (.inl (fun _ => 0))))) c (.inr (8, [.null, .ref (pb P + K), .ref (pb P + (K + 1)), .int 0, .int 0, .long 0, .ref (pb P + (K + 2)), .null]))) (K + 3) (.inl (pY P 0, 2048, .inl (fun _ => 0)))) c (.inr (8, [.null, .ref (pb P + K), .ref (pb P + (K + 1)), .int 0, .int 0, .long 0, .ref (pb P + (K + 2)), .ref (pb P + (K + 3))]))) c (.inr (8, [.ref (pb P + a), .ref (pb P + K), .ref (pb P + (K + 1)), .int 0, .int 0, .long 0, .ref (pb P + (K + 2)), .ref (pb P + (K + 3))]))
theorem nwo_X8 {P : PT} {K c a i : Nat} {ρ : Nat → va_E} (h1 : i < K) (h2 : i ≠ c) : nwp_X8 P K c a ρ i = ρ i := (upC_ne (by omega)).trans ((upC_ne (by omega)).trans ((upC_ne (by omega)).trans ((upC_ne (by omega)).trans ((upC_ne (by omega)).trans ((upC_ne (by omega)).trans ((upC_ne (by omega)).trans ((upC_ne (by omega)).trans ((upC_ne (by omega)).trans (rfl)))))))))
set_option maxRecDepth 100000 in
set_option maxHeartbeats 4000000 in
theorem n_X8_init (l : Launch) (P : PT) (K c a : Nat) {ρ : Nat → va_E} (hc : c < K) (h0 : ρ c = .inr (8, [.null, .null, .null, .int 0, .int 0, .long 0, .null, .null])) : nwM l 1 yX8_init cX8_init 2 4 4108 K [rf P c, rf P a] P ρ (nwp_X8 P K c a ρ) := by
  refine nw_met rfl rfl rfl (Nat.le_of_ble_eq_true rfl) (fun G C hg hname E => ?_)
  change nwA P G 2 K ρ 0 0 0 [(0, rf P c), (1, rf P a)] []
  refine nw_aload_n C 0 dX8_init_0 rfl ?_
  refine nw_obj C dX8_init_1 (in_r6 _ (List.mem_of_getElem? (i := 0) rfl)) (in_r1 _ (List.mem_of_getElem? (i := 11) rfl)) (in_r1 _ (List.mem_of_getElem? (i := 12) rfl)) (by decide) ?_
  refine nw_aload_n C 0 dX8_init_4 rfl ?_
  refine nw_bipush C dX8_init_5 nkb_6 ?_
  refine nw_newi (K' := K + 1) (c' := 1) (s' := 6) C dX8_init_7 nln_6_4 (in_r3 _ (List.mem_of_getElem? (i := 2) rfl)) rfl rfl rfl ⟨Nat.le_of_ble_eq_true rfl, Nat.le_of_ble_eq_true rfl⟩ ?_
  refine nw_putF (fs' := [.null, .ref (pb P + K), .null, .int 0, .int 0, .long 0, .null, .null]) C hname dX8_init_9 lf_X8_9_8 (by omega) ((upC_ne (by omega)).trans (h0)) rfl rfl (Nat.le_of_ble_eq_true rfl) rfl ?_
  refine nw_aload_n C 0 dX8_init_12 rfl ?_
  refine nw_bipush C dX8_init_13 nkb_6 ?_
  refine nw_newi (K' := K + 2) (c' := 2) (s' := 12) C dX8_init_15 nln_6_4 (in_r3 _ (List.mem_of_getElem? (i := 2) rfl)) rfl rfl rfl ⟨Nat.le_of_ble_eq_true rfl, Nat.le_of_ble_eq_true rfl⟩ ?_
  refine nw_putF (fs' := [.null, .ref (pb P + K), .ref (pb P + (K + 1)), .int 0, .int 0, .long 0, .null, .null]) C hname dX8_init_17 lf_X8_15_8 (by omega) ((upC_ne (by omega)).trans (upC_eq)) rfl rfl (Nat.le_of_ble_eq_true rfl) rfl ?_
  refine nw_aload_n C 0 dX8_init_20 rfl ?_
  refine nw_sipush C dX8_init_21 nks_2048 ?_
  refine nw_newl (K' := K + 3) (c' := 3) (s' := 2060) C dX8_init_24 nln_2048_8 (in_r6 _ (List.mem_of_getElem? (i := 3) rfl)) rfl rfl rfl ⟨Nat.le_of_ble_eq_true rfl, Nat.le_of_ble_eq_true rfl⟩ ?_
  refine nw_putF (fs' := [.null, .ref (pb P + K), .ref (pb P + (K + 1)), .int 0, .int 0, .long 0, .ref (pb P + (K + 2)), .null]) C hname dX8_init_26 lf_X8_18_8 (by omega) ((upC_ne (by omega)).trans (upC_eq)) rfl rfl (Nat.le_of_ble_eq_true rfl) rfl ?_
  refine nw_aload_n C 0 dX8_init_29 rfl ?_
  refine nw_sipush C dX8_init_30 nks_2048 ?_
  refine nw_newi (K' := K + 4) (c' := 4) (s' := 4108) C dX8_init_33 nln_2048_4 (in_r3 _ (List.mem_of_getElem? (i := 2) rfl)) rfl rfl rfl ⟨Nat.le_of_ble_eq_true rfl, Nat.le_of_ble_eq_true rfl⟩ ?_
  refine nw_putF (fs' := [.null, .ref (pb P + K), .ref (pb P + (K + 1)), .int 0, .int 0, .long 0, .ref (pb P + (K + 2)), .ref (pb P + (K + 3))]) C hname dX8_init_35 lf_X8_22_8 (by omega) ((upC_ne (by omega)).trans (upC_eq)) rfl rfl (Nat.le_of_ble_eq_true rfl) rfl ?_
  refine nw_aload_n C 0 dX8_init_38 rfl ?_
  refine nw_aload_n C 1 dX8_init_39 rfl ?_
  refine nw_putF (fs' := [.ref (pb P + a), .ref (pb P + K), .ref (pb P + (K + 1)), .int 0, .int 0, .long 0, .ref (pb P + (K + 2)), .ref (pb P + (K + 3))]) C hname dX8_init_40 lf_X8_25_8 (by omega) (upC_eq) rfl rfl (Nat.le_of_ble_eq_true rfl) rfl ?_
  exact nw_vret E dX8_init_43
def nwp_X6 (P : PT) (K c : Nat) (ρ : Nat → va_E) : Nat → va_E :=
  upC (nwp_X7 P (K + 4) (K + 3) (upC (upC (upC (upC (upC (upC (upC (ρ) K (.inl (pY P 0, 200, .inl (fun _ => 0)))) c (.inr (6, [.ref (pb P + K), .int 0, .null, .null, .int 0, .null]))) (K + 1) (.inl (pY P 0, 201, .inl (fun _ => 0)))) c (.inr (6, [.ref (pb P + K), .int 0, .ref (pb P + (K + 1)), .null, .int 0, .null]))) (K + 2) (.inl (pY P 0, 201, .inl (fun _ => 0)))) c (.inr (6, [.ref (pb P + K), .int 0, .ref (pb P + (K + 1)), .ref (pb P + (K + 2)), .int 0, .null]))) (K + 3) (.inr (7, [.int 0, .null, .null, .null, .null, .int 0, .null, .null])))) c (.inr (6, [.ref (pb P + K), .int 0, .ref (pb P + (K + 1)), .ref (pb P + (K + 2)), .int 0, .ref (pb P + (K + 3))]))
theorem nwo_X6 {P : PT} {K c i : Nat} {ρ : Nat → va_E} (h1 : i < K) (h2 : i ≠ c) : nwp_X6 P K c ρ i = ρ i := (upC_ne (by omega)).trans ((nwo_X7 (by omega) (by omega)).trans ((upC_ne (by omega)).trans ((upC_ne (by omega)).trans ((upC_ne (by omega)).trans ((upC_ne (by omega)).trans ((upC_ne (by omega)).trans ((upC_ne (by omega)).trans ((upC_ne (by omega)).trans (rfl)))))))))
set_option maxRecDepth 100000 in
set_option maxHeartbeats 4000000 in
theorem n_X6_init (l : Launch) (P : PT) (K c : Nat) {ρ : Nat → va_E} (hc : c < K) (h0 : ρ c = .inr (6, [.null, .int 0, .null, .null, .int 0, .null])) : nwM l 2 yX6_init cX6_init 1 10 847 K [rf P c] P ρ (nwp_X6 P K c ρ) := by
  refine nw_met rfl rfl rfl (Nat.le_of_ble_eq_true rfl) (fun G C hg hname E => ?_)
  change nwA P G 1 K ρ 0 0 0 [(0, rf P c)] []
  refine nw_aload_n C 0 dX6_init_0 rfl ?_
  refine nw_obj C dX6_init_1 (in_r6 _ (List.mem_of_getElem? (i := 9) rfl)) (in_r1 _ (List.mem_of_getElem? (i := 11) rfl)) (in_r1 _ (List.mem_of_getElem? (i := 12) rfl)) (by decide) ?_
  refine nw_aload_n C 0 dX6_init_4 rfl ?_
  refine nw_sipush C dX6_init_5 nks_200 ?_
  refine nw_newi (K' := K + 1) (c' := 1) (s' := 200) C dX6_init_8 nln_200_4 (in_r3 _ (List.mem_of_getElem? (i := 2) rfl)) rfl rfl rfl ⟨Nat.le_of_ble_eq_true rfl, Nat.le_of_ble_eq_true rfl⟩ ?_
  refine nw_putF (fs' := [.ref (pb P + K), .int 0, .null, .null, .int 0, .null]) C hname dX6_init_10 lf_X6_13_6 (by omega) ((upC_ne (by omega)).trans (h0)) rfl rfl (Nat.le_of_ble_eq_true rfl) rfl ?_
  refine nw_aload_n C 0 dX6_init_13 rfl ?_
  refine nw_sipush C dX6_init_14 nks_201 ?_
  refine nw_newi (K' := K + 2) (c' := 2) (s' := 401) C dX6_init_17 nln_201_4 (in_r3 _ (List.mem_of_getElem? (i := 2) rfl)) rfl rfl rfl ⟨Nat.le_of_ble_eq_true rfl, Nat.le_of_ble_eq_true rfl⟩ ?_
  refine nw_putF (fs' := [.ref (pb P + K), .int 0, .ref (pb P + (K + 1)), .null, .int 0, .null]) C hname dX6_init_19 lf_X6_17_6 (by omega) ((upC_ne (by omega)).trans (upC_eq)) rfl rfl (Nat.le_of_ble_eq_true rfl) rfl ?_
  refine nw_aload_n C 0 dX6_init_22 rfl ?_
  refine nw_sipush C dX6_init_23 nks_201 ?_
  refine nw_newi (K' := K + 3) (c' := 3) (s' := 602) C dX6_init_26 nln_201_4 (in_r3 _ (List.mem_of_getElem? (i := 2) rfl)) rfl rfl rfl ⟨Nat.le_of_ble_eq_true rfl, Nat.le_of_ble_eq_true rfl⟩ ?_
  refine nw_putF (fs' := [.ref (pb P + K), .int 0, .ref (pb P + (K + 1)), .ref (pb P + (K + 2)), .int 0, .null]) C hname dX6_init_28 lf_X6_20_6 (by omega) ((upC_ne (by omega)).trans (upC_eq)) rfl rfl (Nat.le_of_ble_eq_true rfl) rfl ?_
  refine nw_aload_n C 0 dX6_init_31 rfl ?_
  refine nw_newc (K' := K + 4) (c' := 4) (s' := 610) (ci := 7) (ty := tyX7) (fs := [.int 0, .null, .null, .null, .null, .int 0, .null, .null]) C dX6_init_32 rfl inT7 tyX7_ok zf_X7 ⟨(in_r6 _ (List.mem_of_getElem? (i := 13) rfl)), (in_r4 _ (List.mem_of_getElem? (i := 21) rfl)), (in_r4 _ (List.mem_of_getElem? (i := 22) rfl))⟩ rfl rfl rfl ⟨Nat.le_of_ble_eq_true rfl, Nat.le_of_ble_eq_true rfl⟩ ?_
  refine nw_dup C dX6_init_35 rfl ?_
  refine nw_callN (As := []) (rest := [rf P (K + 3), rf P c]) (K' := K + 10) (c' := 10) (s' := 847) C dX6_init_36 vi_X6_23 (n_X7_init l P (K + 4) (K + 3) (by omega) (upC_eq)) hg (by decide) rfl (Nat.le_of_ble_eq_true rfl) rfl (by omega) rfl rfl rfl ⟨Nat.le_of_ble_eq_true rfl, Nat.le_of_ble_eq_true rfl⟩ ?_
  refine nw_putF (fs' := [.ref (pb P + K), .int 0, .ref (pb P + (K + 1)), .ref (pb P + (K + 2)), .int 0, .ref (pb P + (K + 3))]) C hname dX6_init_39 lf_X6_24_6 (by omega) ((nwo_X7 (by omega) (by omega)).trans ((upC_ne (by omega)).trans (upC_eq))) rfl rfl (Nat.le_of_ble_eq_true rfl) rfl ?_
  exact nw_vret E dX6_init_42
def nwp_X9 (P : PT) (K c a : Nat) (ρ : Nat → va_E) : Nat → va_E :=
  upC (upC (upR (upC (upR (upC (upC (upC (upC (upC (upC (upC (upC (upC (upC (upC (upC (upC (upC (upC (upC (nwp_X7 P (K + 1) K (upC (ρ) K (.inr (7, [.int 0, .null, .null, .null, .null, .int 0, .null, .null])))) c (.inr (9, [.null, .ref (pb P + K), .int 0, .null, .null, .null, .null, .null, .int 0, .int 0, .null, .null, .int 0, .int 0, .int 0, .null, .int 0, .null]))) (K + 7) (.inl (pY P 0, 6, .inl (fun _ => 0)))) c (.inr (9, [.null, .ref (pb P + K), .int 0, .ref (pb P + (K + 7)), .null, .null, .null, .null, .int 0, .int 0, .null, .null, .int 0, .int 0, .int 0, .null, .int 0, .null]))) (K + 8) (.inl (pY P 0, 6, .inl (fun _ => 0)))) c (.inr (9, [.null, .ref (pb P + K), .int 0, .ref (pb P + (K + 7)), .ref (pb P + (K + 8)), .null, .null, .null, .int 0, .int 0, .null, .null, .int 0, .int 0, .int 0, .null, .int 0, .null]))) (K + 9) (.inl (pY P 0, 6, .inl (fun _ => 0)))) c (.inr (9, [.null, .ref (pb P + K), .int 0, .ref (pb P + (K + 7)), .ref (pb P + (K + 8)), .ref (pb P + (K + 9)), .null, .null, .int 0, .int 0, .null, .null, .int 0, .int 0, .int 0, .null, .int 0, .null]))) (K + 10) (.inl (pY P 0, 6, .inl (fun _ => 0)))) c (.inr (9, [.null, .ref (pb P + K), .int 0, .ref (pb P + (K + 7)), .ref (pb P + (K + 8)), .ref (pb P + (K + 9)), .ref (pb P + (K + 10)), .null, .int 0, .int 0, .null, .null, .int 0, .int 0, .int 0, .null, .int 0, .null]))) (K + 11) (.inl (pY P 0, 6, .inl (fun _ => 0)))) c (.inr (9, [.null, .ref (pb P + K), .int 0, .ref (pb P + (K + 7)), .ref (pb P + (K + 8)), .ref (pb P + (K + 9)), .ref (pb P + (K + 10)), .ref (pb P + (K + 11)), .int 0, .int 0, .null, .null, .int 0, .int 0, .int 0, .null, .int 0, .null]))) (K + 12) (.inl (pY P 0, 8, .inl (fun _ => 0)))) c (.inr (9, [.null, .ref (pb P + K), .int 0, .ref (pb P + (K + 7)), .ref (pb P + (K + 8)), .ref (pb P + (K + 9)), .ref (pb P + (K + 10)), .ref (pb P + (K + 11)), .int 0, .int 0, .ref (pb P + (K + 12)), .null, .int 0, .int 0, .int 0, .null, .int 0, .null]))) (K + 13) (.inl (pY P 0, 8, .inl (fun _ => 0)))) c (.inr (9, [.null, .ref (pb P + K), .int 0, .ref (pb P + (K + 7)), .ref (pb P + (K + 8)), .ref (pb P + (K + 9)), .ref (pb P + (K + 10)), .ref (pb P + (K + 11)), .int 0, .int 0, .ref (pb P + (K + 12)), .ref (pb P + (K + 13)), .int 0, .int 0, .int 0, .null, .int 0, .null]))) c (.inr (9, [.null, .ref (pb P + K), .int 0, .ref (pb P + (K + 7)), .ref (pb P + (K + 8)), .ref (pb P + (K + 9)), .ref (pb P + (K + 10)), .ref (pb P + (K + 11)), .int 0, .int 0, .ref (pb P + (K + 12)), .ref (pb P + (K + 13)), .int 0, .int 1, .int 0, .null, .int 0, .null]))) (K + 14) 12 (.inl (pY P 2, 12, .inr (.inr (.inr (.inr (fun j => some (pb P + (K + 14 + 1 + j)))))))) (.inl (pY P 0, 3, .inl (fun _ => 0)))) c (.inr (9, [.null, .ref (pb P + K), .int 0, .ref (pb P + (K + 7)), .ref (pb P + (K + 8)), .ref (pb P + (K + 9)), .ref (pb P + (K + 10)), .ref (pb P + (K + 11)), .int 0, .int 0, .ref (pb P + (K + 12)), .ref (pb P + (K + 13)), .int 0, .int 1, .int 0, .ref (pb P + (K + 14)), .int 0, .null]))) (K + 27) 6 (.inl (pY P 2, 6, .inr (.inr (.inr (.inr (fun j => some (pb P + (K + 27 + 1 + j)))))))) (.inl (pY P 0, 3, .inl (fun _ => 0)))) c (.inr (9, [.null, .ref (pb P + K), .int 0, .ref (pb P + (K + 7)), .ref (pb P + (K + 8)), .ref (pb P + (K + 9)), .ref (pb P + (K + 10)), .ref (pb P + (K + 11)), .int 0, .int 0, .ref (pb P + (K + 12)), .ref (pb P + (K + 13)), .int 0, .int 1, .int 0, .ref (pb P + (K + 14)), .int 0, .ref (pb P + (K + 27))]))) c (.inr (9, [.ref (pb P + a), .ref (pb P + K), .int 0, .ref (pb P + (K + 7)), .ref (pb P + (K + 8)), .ref (pb P + (K + 9)), .ref (pb P + (K + 10)), .ref (pb P + (K + 11)), .int 0, .int 0, .ref (pb P + (K + 12)), .ref (pb P + (K + 13)), .int 0, .int 1, .int 0, .ref (pb P + (K + 14)), .int 0, .ref (pb P + (K + 27))]))
theorem nwo_X9 {P : PT} {K c a i : Nat} {ρ : Nat → va_E} (h1 : i < K) (h2 : i ≠ c) : nwp_X9 P K c a ρ i = ρ i := (upC_ne (by omega)).trans ((upC_ne (by omega)).trans ((upR_ne (by omega)).trans ((upC_ne (by omega)).trans ((upR_ne (by omega)).trans ((upC_ne (by omega)).trans ((upC_ne (by omega)).trans ((upC_ne (by omega)).trans ((upC_ne (by omega)).trans ((upC_ne (by omega)).trans ((upC_ne (by omega)).trans ((upC_ne (by omega)).trans ((upC_ne (by omega)).trans ((upC_ne (by omega)).trans ((upC_ne (by omega)).trans ((upC_ne (by omega)).trans ((upC_ne (by omega)).trans ((upC_ne (by omega)).trans ((upC_ne (by omega)).trans ((upC_ne (by omega)).trans ((upC_ne (by omega)).trans ((nwo_X7 (by omega) (by omega)).trans ((upC_ne (by omega)).trans (rfl)))))))))))))))))))))))
set_option maxRecDepth 100000 in
set_option maxHeartbeats 4000000 in
theorem n_X9_init (l : Launch) (P : PT) (K c a : Nat) {ρ : Nat → va_E} (hc : c < K) (h0 : ρ c = .inr (9, [.null, .null, .int 0, .null, .null, .null, .null, .null, .int 0, .int 0, .null, .null, .int 0, .int 0, .int 0, .null, .int 0, .null])) : nwM l 2 yX9_init cX9_init 2 34 363 K [rf P c, rf P a] P ρ (nwp_X9 P K c a ρ) := by
  refine nw_met rfl rfl rfl (Nat.le_of_ble_eq_true rfl) (fun G C hg hname E => ?_)
  change nwA P G 2 K ρ 0 0 0 [(0, rf P c), (1, rf P a)] []
  refine nw_aload_n C 0 dX9_init_0 rfl ?_
  refine nw_obj C dX9_init_1 (in_r4 _ (List.mem_of_getElem? (i := 19) rfl)) (in_r1 _ (List.mem_of_getElem? (i := 11) rfl)) (in_r1 _ (List.mem_of_getElem? (i := 12) rfl)) (by decide) ?_
  refine nw_aload_n C 0 dX9_init_4 rfl ?_
  refine nw_newc (K' := K + 1) (c' := 1) (s' := 8) (ci := 7) (ty := tyX7) (fs := [.int 0, .null, .null, .null, .null, .int 0, .null, .null]) C dX9_init_5 rfl inT7 tyX7_ok zf_X7 ⟨(in_r4 _ (List.mem_of_getElem? (i := 20) rfl)), (in_r4 _ (List.mem_of_getElem? (i := 21) rfl)), (in_r4 _ (List.mem_of_getElem? (i := 22) rfl))⟩ rfl rfl rfl ⟨Nat.le_of_ble_eq_true rfl, Nat.le_of_ble_eq_true rfl⟩ ?_
  refine nw_dup C dX9_init_8 rfl ?_
  refine nw_callN (As := []) (rest := [rf P K, rf P c]) (K' := K + 7) (c' := 7) (s' := 245) C dX9_init_9 vi_X9_11 (n_X7_init l P (K + 1) K (by omega) (upC_eq)) hg (by decide) rfl (Nat.le_of_ble_eq_true rfl) rfl (by omega) rfl rfl rfl ⟨Nat.le_of_ble_eq_true rfl, Nat.le_of_ble_eq_true rfl⟩ ?_
  refine nw_putF (fs' := [.null, .ref (pb P + K), .int 0, .null, .null, .null, .null, .null, .int 0, .int 0, .null, .null, .int 0, .int 0, .int 0, .null, .int 0, .null]) C hname dX9_init_12 lf_X9_12_9 (by omega) ((nwo_X7 (by omega) (by omega)).trans ((upC_ne (by omega)).trans (h0))) rfl rfl (Nat.le_of_ble_eq_true rfl) rfl ?_
  refine nw_aload_n C 0 dX9_init_15 rfl ?_
  refine nw_bipush C dX9_init_16 nkb_6 ?_
  refine nw_newi (K' := K + 8) (c' := 8) (s' := 251) C dX9_init_18 nln_6_4 (in_r3 _ (List.mem_of_getElem? (i := 2) rfl)) rfl rfl rfl ⟨Nat.le_of_ble_eq_true rfl, Nat.le_of_ble_eq_true rfl⟩ ?_
  refine nw_putF (fs' := [.null, .ref (pb P + K), .int 0, .ref (pb P + (K + 7)), .null, .null, .null, .null, .int 0, .int 0, .null, .null, .int 0, .int 0, .int 0, .null, .int 0, .null]) C hname dX9_init_20 lf_X9_18_9 (by omega) ((upC_ne (by omega)).trans (upC_eq)) rfl rfl (Nat.le_of_ble_eq_true rfl) rfl ?_
  refine nw_aload_n C 0 dX9_init_23 rfl ?_
  refine nw_bipush C dX9_init_24 nkb_6 ?_
  refine nw_newi (K' := K + 9) (c' := 9) (s' := 257) C dX9_init_26 nln_6_4 (in_r3 _ (List.mem_of_getElem? (i := 2) rfl)) rfl rfl rfl ⟨Nat.le_of_ble_eq_true rfl, Nat.le_of_ble_eq_true rfl⟩ ?_
  refine nw_putF (fs' := [.null, .ref (pb P + K), .int 0, .ref (pb P + (K + 7)), .ref (pb P + (K + 8)), .null, .null, .null, .int 0, .int 0, .null, .null, .int 0, .int 0, .int 0, .null, .int 0, .null]) C hname dX9_init_28 lf_X9_22_9 (by omega) ((upC_ne (by omega)).trans (upC_eq)) rfl rfl (Nat.le_of_ble_eq_true rfl) rfl ?_
  refine nw_aload_n C 0 dX9_init_31 rfl ?_
  refine nw_bipush C dX9_init_32 nkb_6 ?_
  refine nw_newi (K' := K + 10) (c' := 10) (s' := 263) C dX9_init_34 nln_6_4 (in_r3 _ (List.mem_of_getElem? (i := 2) rfl)) rfl rfl rfl ⟨Nat.le_of_ble_eq_true rfl, Nat.le_of_ble_eq_true rfl⟩ ?_
  refine nw_putF (fs' := [.null, .ref (pb P + K), .int 0, .ref (pb P + (K + 7)), .ref (pb P + (K + 8)), .ref (pb P + (K + 9)), .null, .null, .int 0, .int 0, .null, .null, .int 0, .int 0, .int 0, .null, .int 0, .null]) C hname dX9_init_36 lf_X9_25_9 (by omega) ((upC_ne (by omega)).trans (upC_eq)) rfl rfl (Nat.le_of_ble_eq_true rfl) rfl ?_
  refine nw_aload_n C 0 dX9_init_39 rfl ?_
  refine nw_bipush C dX9_init_40 nkb_6 ?_
  refine nw_newi (K' := K + 11) (c' := 11) (s' := 269) C dX9_init_42 nln_6_4 (in_r3 _ (List.mem_of_getElem? (i := 2) rfl)) rfl rfl rfl ⟨Nat.le_of_ble_eq_true rfl, Nat.le_of_ble_eq_true rfl⟩ ?_
  refine nw_putF (fs' := [.null, .ref (pb P + K), .int 0, .ref (pb P + (K + 7)), .ref (pb P + (K + 8)), .ref (pb P + (K + 9)), .ref (pb P + (K + 10)), .null, .int 0, .int 0, .null, .null, .int 0, .int 0, .int 0, .null, .int 0, .null]) C hname dX9_init_44 lf_X9_28_9 (by omega) ((upC_ne (by omega)).trans (upC_eq)) rfl rfl (Nat.le_of_ble_eq_true rfl) rfl ?_
  refine nw_aload_n C 0 dX9_init_47 rfl ?_
  refine nw_bipush C dX9_init_48 nkb_6 ?_
  refine nw_newi (K' := K + 12) (c' := 12) (s' := 275) C dX9_init_50 nln_6_4 (in_r3 _ (List.mem_of_getElem? (i := 2) rfl)) rfl rfl rfl ⟨Nat.le_of_ble_eq_true rfl, Nat.le_of_ble_eq_true rfl⟩ ?_
  refine nw_putF (fs' := [.null, .ref (pb P + K), .int 0, .ref (pb P + (K + 7)), .ref (pb P + (K + 8)), .ref (pb P + (K + 9)), .ref (pb P + (K + 10)), .ref (pb P + (K + 11)), .int 0, .int 0, .null, .null, .int 0, .int 0, .int 0, .null, .int 0, .null]) C hname dX9_init_52 lf_X9_31_9 (by omega) ((upC_ne (by omega)).trans (upC_eq)) rfl rfl (Nat.le_of_ble_eq_true rfl) rfl ?_
  refine nw_aload_n C 0 dX9_init_55 rfl ?_
  refine nw_bipush C dX9_init_56 nkb_8 ?_
  refine nw_newi (K' := K + 13) (c' := 13) (s' := 283) C dX9_init_58 nln_8_4 (in_r3 _ (List.mem_of_getElem? (i := 2) rfl)) rfl rfl rfl ⟨Nat.le_of_ble_eq_true rfl, Nat.le_of_ble_eq_true rfl⟩ ?_
  refine nw_putF (fs' := [.null, .ref (pb P + K), .int 0, .ref (pb P + (K + 7)), .ref (pb P + (K + 8)), .ref (pb P + (K + 9)), .ref (pb P + (K + 10)), .ref (pb P + (K + 11)), .int 0, .int 0, .ref (pb P + (K + 12)), .null, .int 0, .int 0, .int 0, .null, .int 0, .null]) C hname dX9_init_60 lf_X9_34_9 (by omega) ((upC_ne (by omega)).trans (upC_eq)) rfl rfl (Nat.le_of_ble_eq_true rfl) rfl ?_
  refine nw_aload_n C 0 dX9_init_63 rfl ?_
  refine nw_bipush C dX9_init_64 nkb_8 ?_
  refine nw_newi (K' := K + 14) (c' := 14) (s' := 291) C dX9_init_66 nln_8_4 (in_r3 _ (List.mem_of_getElem? (i := 2) rfl)) rfl rfl rfl ⟨Nat.le_of_ble_eq_true rfl, Nat.le_of_ble_eq_true rfl⟩ ?_
  refine nw_putF (fs' := [.null, .ref (pb P + K), .int 0, .ref (pb P + (K + 7)), .ref (pb P + (K + 8)), .ref (pb P + (K + 9)), .ref (pb P + (K + 10)), .ref (pb P + (K + 11)), .int 0, .int 0, .ref (pb P + (K + 12)), .ref (pb P + (K + 13)), .int 0, .int 0, .int 0, .null, .int 0, .null]) C hname dX9_init_68 lf_X9_37_9 (by omega) ((upC_ne (by omega)).trans (upC_eq)) rfl rfl (Nat.le_of_ble_eq_true rfl) rfl ?_
  refine nw_aload_n C 0 dX9_init_71 rfl ?_
  refine nw_iconst C dX9_init_72 nki_1 ?_
  refine nw_put (fs' := [.null, .ref (pb P + K), .int 0, .ref (pb P + (K + 7)), .ref (pb P + (K + 8)), .ref (pb P + (K + 9)), .ref (pb P + (K + 10)), .ref (pb P + (K + 11)), .int 0, .int 0, .ref (pb P + (K + 12)), .ref (pb P + (K + 13)), .int 0, .int 1, .int 0, .null, .int 0, .null]) C dX9_init_73 lq_X9_40_9 (by omega) (upC_eq) rfl rfl (Nat.le_of_ble_eq_true rfl) rfl ?_
  refine nw_aload_n C 0 dX9_init_76 rfl ?_
  refine nw_bipush C dX9_init_77 nkb_12 ?_
  refine nw_iconst C dX9_init_79 nki_3 ?_
  refine nw_newm (N := 12) (M := 3) (K' := K + 27) (c' := 27) (s' := 339) C dX9_init_80 nln_12_4 ⟨nln_3_4.1, nln_3_4.2.1, nln_3_4.2.2, by decide⟩ ⟨(in_r5 _ (List.mem_of_getElem? (i := 8) rfl)), (in_r3 _ (List.mem_of_getElem? (i := 2) rfl))⟩ (by omega) rfl rfl rfl ⟨Nat.le_of_ble_eq_true rfl, Nat.le_of_ble_eq_true rfl⟩ ?_
  refine nw_putF (fs' := [.null, .ref (pb P + K), .int 0, .ref (pb P + (K + 7)), .ref (pb P + (K + 8)), .ref (pb P + (K + 9)), .ref (pb P + (K + 10)), .ref (pb P + (K + 11)), .int 0, .int 0, .ref (pb P + (K + 12)), .ref (pb P + (K + 13)), .int 0, .int 1, .int 0, .ref (pb P + (K + 14)), .int 0, .null]) C hname dX9_init_84 lf_X9_46_9 (by omega) ((upR_ne (by omega)).trans (upC_eq)) rfl rfl (Nat.le_of_ble_eq_true rfl) rfl ?_
  refine nw_aload_n C 0 dX9_init_87 rfl ?_
  refine nw_bipush C dX9_init_88 nkb_6 ?_
  refine nw_iconst C dX9_init_90 nki_3 ?_
  refine nw_newm (N := 6) (M := 3) (K' := K + 34) (c' := 34) (s' := 363) C dX9_init_91 nln_6_4 ⟨nln_3_4.1, nln_3_4.2.1, nln_3_4.2.2, by decide⟩ ⟨(in_r5 _ (List.mem_of_getElem? (i := 8) rfl)), (in_r3 _ (List.mem_of_getElem? (i := 2) rfl))⟩ (by omega) rfl rfl rfl ⟨Nat.le_of_ble_eq_true rfl, Nat.le_of_ble_eq_true rfl⟩ ?_
  refine nw_putF (fs' := [.null, .ref (pb P + K), .int 0, .ref (pb P + (K + 7)), .ref (pb P + (K + 8)), .ref (pb P + (K + 9)), .ref (pb P + (K + 10)), .ref (pb P + (K + 11)), .int 0, .int 0, .ref (pb P + (K + 12)), .ref (pb P + (K + 13)), .int 0, .int 1, .int 0, .ref (pb P + (K + 14)), .int 0, .ref (pb P + (K + 27))]) C hname dX9_init_95 lf_X9_49_9 (by omega) ((upR_ne (by omega)).trans (upC_eq)) rfl rfl (Nat.le_of_ble_eq_true rfl) rfl ?_
  refine nw_aload_n C 0 dX9_init_98 rfl ?_
  refine nw_aload_n C 1 dX9_init_99 rfl ?_
  refine nw_putF (fs' := [.ref (pb P + a), .ref (pb P + K), .int 0, .ref (pb P + (K + 7)), .ref (pb P + (K + 8)), .ref (pb P + (K + 9)), .ref (pb P + (K + 10)), .ref (pb P + (K + 11)), .int 0, .int 0, .ref (pb P + (K + 12)), .ref (pb P + (K + 13)), .int 0, .int 1, .int 0, .ref (pb P + (K + 14)), .int 0, .ref (pb P + (K + 27))]) C hname dX9_init_100 lf_X9_52_9 (by omega) (upC_eq) rfl rfl (Nat.le_of_ble_eq_true rfl) rfl ?_
  exact nw_vret E dX9_init_103
def nwp_X11 (P : PT) (K c : Nat) (ρ : Nat → va_E) : Nat → va_E :=
  upC (upR (upC (nwp_X6 P (K + 130) (K + 129) (upC (upC (nwp_X8 P (K + 125) (K + 124) (K + 89) (upC (upC (nwp_X9 P (K + 90) (K + 89) (K + 12) (upC (upC (nwp_X9 P (K + 55) (K + 54) (K + 12) (upC (upC (nwp_X9 P (K + 20) (K + 19) (K + 12) (upC (upC (upC (upC (upC (upC (upC (upC (upC (upC (upC (upC (upC (upC (upC (upC (upC (upC (upC (upC (upC (nwp_X1 P (K + 1) K (upC (ρ) K (.inr (1, [.null, .null, .null, .null, .null, .null, .int 0, .null, .int 0])))) c (.inr (11, [.ref (pb P + K), .null, .null, .int 0, .null, .null, .null, .null, .int 0]))) (K + 12) (.inl (pY P 3, 6, .inr (.inr (.inr (.inr (fun _ => none))))))) (K + 13) (.inr (4, [.null, .int 0, .int 0]))) (K + 13) (.inr (4, [.ref (pb P + K), .int 0, .int 0]))) (K + 12) (.inl (pY P 3, 6, .inr (.inr (.inr (.inr (va_up (fun _ => none) 0 (some (pb P + (K + 13)))))))))) (K + 14) (.inr (2, [.null, .int 0, .int 0]))) (K + 14) (.inr (2, [.ref (pb P + K), .int 0, .int 0]))) (K + 12) (.inl (pY P 3, 6, .inr (.inr (.inr (.inr (va_up (va_up (fun _ => none) 0 (some (pb P + (K + 13)))) 1 (some (pb P + (K + 14)))))))))) (K + 15) (.inr (3, [.null, .int 0, .int 0]))) (K + 15) (.inr (3, [.ref (pb P + K), .int 0, .int 0]))) (K + 12) (.inl (pY P 3, 6, .inr (.inr (.inr (.inr (va_up (va_up (va_up (fun _ => none) 0 (some (pb P + (K + 13)))) 1 (some (pb P + (K + 14)))) 2 (some (pb P + (K + 15)))))))))) (K + 16) (.inr (10, [.null, .int 0, .int 0]))) (K + 16) (.inr (10, [.ref (pb P + K), .int 0, .int 0]))) (K + 12) (.inl (pY P 3, 6, .inr (.inr (.inr (.inr (va_up (va_up (va_up (va_up (fun _ => none) 0 (some (pb P + (K + 13)))) 1 (some (pb P + (K + 14)))) 2 (some (pb P + (K + 15)))) 3 (some (pb P + (K + 16)))))))))) (K + 17) (.inr (5, [.null, .int 0, .int 0]))) (K + 17) (.inr (5, [.ref (pb P + K), .int 0, .int 0]))) (K + 12) (.inl (pY P 3, 6, .inr (.inr (.inr (.inr (va_up (va_up (va_up (va_up (va_up (fun _ => none) 0 (some (pb P + (K + 13)))) 1 (some (pb P + (K + 14)))) 2 (some (pb P + (K + 15)))) 3 (some (pb P + (K + 16)))) 4 (some (pb P + (K + 17)))))))))) (K + 18) (.inr (0, [.null, .int 0, .int 0]))) (K + 18) (.inr (0, [.ref (pb P + K), .int 0, .int 0]))) (K + 12) (.inl (pY P 3, 6, .inr (.inr (.inr (.inr (va_up (va_up (va_up (va_up (va_up (va_up (fun _ => none) 0 (some (pb P + (K + 13)))) 1 (some (pb P + (K + 14)))) 2 (some (pb P + (K + 15)))) 3 (some (pb P + (K + 16)))) 4 (some (pb P + (K + 17)))) 5 (some (pb P + (K + 18)))))))))) (K + 19) (.inr (9, [.null, .null, .int 0, .null, .null, .null, .null, .null, .int 0, .int 0, .null, .null, .int 0, .int 0, .int 0, .null, .int 0, .null])))) c (.inr (11, [.ref (pb P + K), .ref (pb P + (K + 19)), .null, .int 0, .null, .null, .null, .null, .int 0]))) (K + 54) (.inr (9, [.null, .null, .int 0, .null, .null, .null, .null, .null, .int 0, .int 0, .null, .null, .int 0, .int 0, .int 0, .null, .int 0, .null])))) c (.inr (11, [.ref (pb P + K), .ref (pb P + (K + 19)), .ref (pb P + (K + 54)), .int 0, .null, .null, .null, .null, .int 0]))) (K + 89) (.inr (9, [.null, .null, .int 0, .null, .null, .null, .null, .null, .int 0, .int 0, .null, .null, .int 0, .int 0, .int 0, .null, .int 0, .null])))) c (.inr (11, [.ref (pb P + K), .ref (pb P + (K + 19)), .ref (pb P + (K + 54)), .int 0, .ref (pb P + (K + 89)), .null, .null, .null, .int 0]))) (K + 124) (.inr (8, [.null, .null, .null, .int 0, .int 0, .long 0, .null, .null])))) c (.inr (11, [.ref (pb P + K), .ref (pb P + (K + 19)), .ref (pb P + (K + 54)), .int 0, .ref (pb P + (K + 89)), .ref (pb P + (K + 124)), .null, .null, .int 0]))) (K + 129) (.inr (6, [.null, .int 0, .null, .null, .int 0, .null])))) c (.inr (11, [.ref (pb P + K), .ref (pb P + (K + 19)), .ref (pb P + (K + 54)), .int 0, .ref (pb P + (K + 89)), .ref (pb P + (K + 124)), .ref (pb P + (K + 129)), .null, .int 0]))) (K + 140) 6 (.inl (pY P 2, 6, .inr (.inr (.inr (.inr (fun j => some (pb P + (K + 140 + 1 + j)))))))) (.inl (pY P 0, 3, .inl (fun _ => 0)))) c (.inr (11, [.ref (pb P + K), .ref (pb P + (K + 19)), .ref (pb P + (K + 54)), .int 0, .ref (pb P + (K + 89)), .ref (pb P + (K + 124)), .ref (pb P + (K + 129)), .ref (pb P + (K + 140)), .int 0]))
set_option maxRecDepth 100000 in
set_option maxHeartbeats 4000000 in
theorem n_X11_init (l : Launch) (P : PT) (K c : Nat) {ρ : Nat → va_E} (hc : c < K) (h0 : ρ c = .inr (11, [.null, .null, .null, .int 0, .null, .null, .null, .null, .int 0])) : nwM l 4 yX11_init cX11_init 2 147 6383 K [rf P c] P ρ (nwp_X11 P K c ρ) := by
  refine nw_met rfl rfl rfl (Nat.le_of_ble_eq_true rfl) (fun G C hg hname E => ?_)
  change nwA P G 2 K ρ 0 0 0 [(0, rf P c)] []
  refine nw_aload_n C 0 dX11_init_0 rfl ?_
  refine nw_obj C dX11_init_1 (in_r1 _ (List.mem_of_getElem? (i := 10) rfl)) (in_r1 _ (List.mem_of_getElem? (i := 11) rfl)) (in_r1 _ (List.mem_of_getElem? (i := 12) rfl)) (by decide) ?_
  refine nw_aload_n C 0 dX11_init_4 rfl ?_
  refine nw_newc (K' := K + 1) (c' := 1) (s' := 9) (ci := 1) (ty := tyX1) (fs := [.null, .null, .null, .null, .null, .null, .int 0, .null, .int 0]) C dX11_init_5 rfl inT1 tyX1_ok zf_X1 ⟨(in_r1 _ (List.mem_of_getElem? (i := 13) rfl)), (in_r1 _ (List.mem_of_getElem? (i := 14) rfl)), (in_r1 _ (List.mem_of_getElem? (i := 15) rfl))⟩ rfl rfl rfl ⟨Nat.le_of_ble_eq_true rfl, Nat.le_of_ble_eq_true rfl⟩ ?_
  refine nw_dup C dX11_init_8 rfl ?_
  refine nw_callN (As := []) (rest := [rf P K, rf P c]) (K' := K + 12) (c' := 12) (s' := 223) C dX11_init_9 vi_X11_9 (n_X1_init l P (K + 1) K (by omega) (upC_eq)) hg (by decide) rfl (Nat.le_of_ble_eq_true rfl) rfl (by omega) rfl rfl rfl ⟨Nat.le_of_ble_eq_true rfl, Nat.le_of_ble_eq_true rfl⟩ ?_
  refine nw_putF (fs' := [.ref (pb P + K), .null, .null, .int 0, .null, .null, .null, .null, .int 0]) C hname dX11_init_12 lf_X11_10_11 (by omega) ((nwo_X1 (by omega) (by omega)).trans ((upC_ne (by omega)).trans (h0))) rfl rfl (Nat.le_of_ble_eq_true rfl) rfl ?_
  refine nw_bipush C dX11_init_15 nkb_6 ?_
  refine nw_newp (K' := K + 13) (c' := 13) (s' := 229) C dX11_init_17 nln_6_4 (in_r1 _ (List.mem_of_getElem? (i := 17) rfl)) rfl rfl rfl ⟨Nat.le_of_ble_eq_true rfl, Nat.le_of_ble_eq_true rfl⟩ ?_
  refine nw_dup C dX11_init_20 rfl ?_
  refine nw_iconst C dX11_init_21 nki_0 ?_
  refine nw_newc (K' := K + 14) (c' := 14) (s' := 232) (ci := 4) (ty := tyX4) (fs := [.null, .int 0, .int 0]) C dX11_init_22 rfl inT4 tyX4_ok zf_X4 ⟨(in_r1 _ (List.mem_of_getElem? (i := 17) rfl)), (in_r1 _ (List.mem_of_getElem? (i := 18) rfl)), (in_r1 _ (List.mem_of_getElem? (i := 19) rfl))⟩ rfl rfl rfl ⟨Nat.le_of_ble_eq_true rfl, Nat.le_of_ble_eq_true rfl⟩ ?_
  refine nw_dup C dX11_init_25 rfl ?_
  refine nw_aload_n C 0 dX11_init_26 rfl ?_
  refine nw_get (x := .ref (pb P + K)) C dX11_init_27 lr_X11_10_11 (by omega) ((upC_ne (by omega)).trans ((upC_ne (by omega)).trans (upC_eq))) rfl ?_
  refine nw_call (As := [rf P K]) (rest := [rf P (K + 13), .int 0, rf P (K + 12), rf P (K + 12)]) (K' := K + 14) (c' := 14) (s' := 232) C dX11_init_30 vi_X11_18 (n_X4_init l P (K + 14) (K + 13) K 4 (by omega) lf_X4_7_4 (upC_eq)) hg (by decide) rfl (Nat.le_of_ble_eq_true rfl) rfl (by omega) rfl rfl rfl ⟨Nat.le_of_ble_eq_true rfl, Nat.le_of_ble_eq_true rfl⟩ ?_
  refine nw_aast C dX11_init_33 (by omega) ((upC_ne (by omega)).trans ((upC_ne (by omega)).trans (upC_eq))) (by omega) (upC_eq) nwt_4 nin_0_6 ntc_0 ?_
  refine nw_dup C dX11_init_34 rfl ?_
  refine nw_iconst C dX11_init_35 nki_1 ?_
  refine nw_newc (K' := K + 15) (c' := 15) (s' := 235) (ci := 2) (ty := tyX2) (fs := [.null, .int 0, .int 0]) C dX11_init_36 rfl inT2 tyX2_ok zf_X2 ⟨(in_r1 _ (List.mem_of_getElem? (i := 20) rfl)), (in_r1 _ (List.mem_of_getElem? (i := 21) rfl)), (in_r1 _ (List.mem_of_getElem? (i := 22) rfl))⟩ rfl rfl rfl ⟨Nat.le_of_ble_eq_true rfl, Nat.le_of_ble_eq_true rfl⟩ ?_
  refine nw_dup C dX11_init_39 rfl ?_
  refine nw_aload_n C 0 dX11_init_40 rfl ?_
  refine nw_get (x := .ref (pb P + K)) C dX11_init_41 lr_X11_10_11 (by omega) ((upC_ne (by omega)).trans ((upC_ne (by omega)).trans ((upC_ne (by omega)).trans ((upC_ne (by omega)).trans ((upC_ne (by omega)).trans (upC_eq)))))) rfl ?_
  refine nw_call (As := [rf P K]) (rest := [rf P (K + 14), .int 1, rf P (K + 12), rf P (K + 12)]) (K' := K + 15) (c' := 15) (s' := 235) C dX11_init_44 vi_X11_23 (n_X2_init l P (K + 15) (K + 14) K 2 (by omega) lf_X4_7_2 (upC_eq)) hg (by decide) rfl (Nat.le_of_ble_eq_true rfl) rfl (by omega) rfl rfl rfl ⟨Nat.le_of_ble_eq_true rfl, Nat.le_of_ble_eq_true rfl⟩ ?_
  refine nw_aast C dX11_init_47 (by omega) ((upC_ne (by omega)).trans ((upC_ne (by omega)).trans (upC_eq))) (by omega) (upC_eq) nwt_2 nin_1_6 ntc_1 ?_
  refine nw_dup C dX11_init_48 rfl ?_
  refine nw_iconst C dX11_init_49 nki_2 ?_
  refine nw_newc (K' := K + 16) (c' := 16) (s' := 238) (ci := 3) (ty := tyX3) (fs := [.null, .int 0, .int 0]) C dX11_init_50 rfl inT3 tyX3_ok zf_X3 ⟨(in_r1 _ (List.mem_of_getElem? (i := 23) rfl)), (in_r2 _ (List.mem_of_getElem? (i := 0) rfl)), (in_r2 _ (List.mem_of_getElem? (i := 1) rfl))⟩ rfl rfl rfl ⟨Nat.le_of_ble_eq_true rfl, Nat.le_of_ble_eq_true rfl⟩ ?_
  refine nw_dup C dX11_init_53 rfl ?_
  refine nw_aload_n C 0 dX11_init_54 rfl ?_
  refine nw_get (x := .ref (pb P + K)) C dX11_init_55 lr_X11_10_11 (by omega) ((upC_ne (by omega)).trans ((upC_ne (by omega)).trans ((upC_ne (by omega)).trans ((upC_ne (by omega)).trans ((upC_ne (by omega)).trans ((upC_ne (by omega)).trans ((upC_ne (by omega)).trans ((upC_ne (by omega)).trans (upC_eq))))))))) rfl ?_
  refine nw_call (As := [rf P K]) (rest := [rf P (K + 15), .int 2, rf P (K + 12), rf P (K + 12)]) (K' := K + 16) (c' := 16) (s' := 238) C dX11_init_58 vi_X11_26 (n_X3_init l P (K + 16) (K + 15) K 3 (by omega) lf_X4_7_3 (upC_eq)) hg (by decide) rfl (Nat.le_of_ble_eq_true rfl) rfl (by omega) rfl rfl rfl ⟨Nat.le_of_ble_eq_true rfl, Nat.le_of_ble_eq_true rfl⟩ ?_
  refine nw_aast C dX11_init_61 (by omega) ((upC_ne (by omega)).trans ((upC_ne (by omega)).trans (upC_eq))) (by omega) (upC_eq) nwt_3 nin_2_6 ntc_2 ?_
  refine nw_dup C dX11_init_62 rfl ?_
  refine nw_iconst C dX11_init_63 nki_3 ?_
  refine nw_newc (K' := K + 17) (c' := 17) (s' := 241) (ci := 10) (ty := tyX10) (fs := [.null, .int 0, .int 0]) C dX11_init_64 rfl inT10 tyX10_ok zf_X10 ⟨(in_r2 _ (List.mem_of_getElem? (i := 2) rfl)), (in_r2 _ (List.mem_of_getElem? (i := 3) rfl)), (in_r2 _ (List.mem_of_getElem? (i := 4) rfl))⟩ rfl rfl rfl ⟨Nat.le_of_ble_eq_true rfl, Nat.le_of_ble_eq_true rfl⟩ ?_
  refine nw_dup C dX11_init_67 rfl ?_
  refine nw_aload_n C 0 dX11_init_68 rfl ?_
  refine nw_get (x := .ref (pb P + K)) C dX11_init_69 lr_X11_10_11 (by omega) ((upC_ne (by omega)).trans ((upC_ne (by omega)).trans ((upC_ne (by omega)).trans ((upC_ne (by omega)).trans ((upC_ne (by omega)).trans ((upC_ne (by omega)).trans ((upC_ne (by omega)).trans ((upC_ne (by omega)).trans ((upC_ne (by omega)).trans ((upC_ne (by omega)).trans ((upC_ne (by omega)).trans (upC_eq)))))))))))) rfl ?_
  refine nw_call (As := [rf P K]) (rest := [rf P (K + 16), .int 3, rf P (K + 12), rf P (K + 12)]) (K' := K + 17) (c' := 17) (s' := 241) C dX11_init_72 vi_X11_29 (n_X10_init l P (K + 17) (K + 16) K 10 (by omega) lf_X4_7_10 (upC_eq)) hg (by decide) rfl (Nat.le_of_ble_eq_true rfl) rfl (by omega) rfl rfl rfl ⟨Nat.le_of_ble_eq_true rfl, Nat.le_of_ble_eq_true rfl⟩ ?_
  refine nw_aast C dX11_init_75 (by omega) ((upC_ne (by omega)).trans ((upC_ne (by omega)).trans (upC_eq))) (by omega) (upC_eq) nwt_10 nin_3_6 ntc_3 ?_
  refine nw_dup C dX11_init_76 rfl ?_
  refine nw_iconst C dX11_init_77 nki_4 ?_
  refine nw_newc (K' := K + 18) (c' := 18) (s' := 244) (ci := 5) (ty := tyX5) (fs := [.null, .int 0, .int 0]) C dX11_init_78 rfl inT5 tyX5_ok zf_X5 ⟨(in_r2 _ (List.mem_of_getElem? (i := 5) rfl)), (in_r2 _ (List.mem_of_getElem? (i := 6) rfl)), (in_r2 _ (List.mem_of_getElem? (i := 7) rfl))⟩ rfl rfl rfl ⟨Nat.le_of_ble_eq_true rfl, Nat.le_of_ble_eq_true rfl⟩ ?_
  refine nw_dup C dX11_init_81 rfl ?_
  refine nw_aload_n C 0 dX11_init_82 rfl ?_
  refine nw_get (x := .ref (pb P + K)) C dX11_init_83 lr_X11_10_11 (by omega) ((upC_ne (by omega)).trans ((upC_ne (by omega)).trans ((upC_ne (by omega)).trans ((upC_ne (by omega)).trans ((upC_ne (by omega)).trans ((upC_ne (by omega)).trans ((upC_ne (by omega)).trans ((upC_ne (by omega)).trans ((upC_ne (by omega)).trans ((upC_ne (by omega)).trans ((upC_ne (by omega)).trans ((upC_ne (by omega)).trans ((upC_ne (by omega)).trans ((upC_ne (by omega)).trans (upC_eq))))))))))))))) rfl ?_
  refine nw_call (As := [rf P K]) (rest := [rf P (K + 17), .int 4, rf P (K + 12), rf P (K + 12)]) (K' := K + 18) (c' := 18) (s' := 244) C dX11_init_86 vi_X11_32 (n_X5_init l P (K + 18) (K + 17) K 5 (by omega) lf_X4_7_5 (upC_eq)) hg (by decide) rfl (Nat.le_of_ble_eq_true rfl) rfl (by omega) rfl rfl rfl ⟨Nat.le_of_ble_eq_true rfl, Nat.le_of_ble_eq_true rfl⟩ ?_
  refine nw_aast C dX11_init_89 (by omega) ((upC_ne (by omega)).trans ((upC_ne (by omega)).trans (upC_eq))) (by omega) (upC_eq) nwt_5 nin_4_6 ntc_4 ?_
  refine nw_dup C dX11_init_90 rfl ?_
  refine nw_iconst C dX11_init_91 nki_5 ?_
  refine nw_newc (K' := K + 19) (c' := 19) (s' := 247) (ci := 0) (ty := tyX0) (fs := [.null, .int 0, .int 0]) C dX11_init_92 rfl inT0 tyX0_ok zf_X0 ⟨(in_r2 _ (List.mem_of_getElem? (i := 8) rfl)), (in_r2 _ (List.mem_of_getElem? (i := 9) rfl)), (in_r2 _ (List.mem_of_getElem? (i := 10) rfl))⟩ rfl rfl rfl ⟨Nat.le_of_ble_eq_true rfl, Nat.le_of_ble_eq_true rfl⟩ ?_
  refine nw_dup C dX11_init_95 rfl ?_
  refine nw_aload_n C 0 dX11_init_96 rfl ?_
  refine nw_get (x := .ref (pb P + K)) C dX11_init_97 lr_X11_10_11 (by omega) ((upC_ne (by omega)).trans ((upC_ne (by omega)).trans ((upC_ne (by omega)).trans ((upC_ne (by omega)).trans ((upC_ne (by omega)).trans ((upC_ne (by omega)).trans ((upC_ne (by omega)).trans ((upC_ne (by omega)).trans ((upC_ne (by omega)).trans ((upC_ne (by omega)).trans ((upC_ne (by omega)).trans ((upC_ne (by omega)).trans ((upC_ne (by omega)).trans ((upC_ne (by omega)).trans ((upC_ne (by omega)).trans ((upC_ne (by omega)).trans ((upC_ne (by omega)).trans (upC_eq)))))))))))))))))) rfl ?_
  refine nw_call (As := [rf P K]) (rest := [rf P (K + 18), .int 5, rf P (K + 12), rf P (K + 12)]) (K' := K + 19) (c' := 19) (s' := 247) C dX11_init_100 vi_X11_35 (n_X0_init l P (K + 19) (K + 18) K 0 (by omega) lf_X4_7_0 (upC_eq)) hg (by decide) rfl (Nat.le_of_ble_eq_true rfl) rfl (by omega) rfl rfl rfl ⟨Nat.le_of_ble_eq_true rfl, Nat.le_of_ble_eq_true rfl⟩ ?_
  refine nw_aast C dX11_init_103 (by omega) ((upC_ne (by omega)).trans ((upC_ne (by omega)).trans (upC_eq))) (by omega) (upC_eq) nwt_0 nin_5_6 ntc_5 ?_
  refine nw_astore_n C dX11_init_104 rfl (by decide) (lv' := [(1, rf P (K + 12)), (0, rf P c)]) rfl ?_
  refine nw_aload_n C 1 dX11_init_105 rfl ?_
  refine nw_newc (K' := K + 20) (c' := 20) (s' := 265) (ci := 9) (ty := tyX9) (fs := [.null, .null, .int 0, .null, .null, .null, .null, .null, .int 0, .int 0, .null, .null, .int 0, .int 0, .int 0, .null, .int 0, .null]) C dX11_init_106 rfl inT9 tyX9_ok zf_X9 ⟨(in_r2 _ (List.mem_of_getElem? (i := 11) rfl)), (in_r2 _ (List.mem_of_getElem? (i := 12) rfl)), (in_r2 _ (List.mem_of_getElem? (i := 13) rfl))⟩ rfl rfl rfl ⟨Nat.le_of_ble_eq_true rfl, Nat.le_of_ble_eq_true rfl⟩ ?_
  refine nw_dup C dX11_init_109 rfl ?_
  refine nw_aload_n C 0 dX11_init_110 rfl ?_
  refine nw_call (As := [rf P (K + 12)]) (rest := [rf P (K + 19), rf P c]) (K' := K + 54) (c' := 54) (s' := 628) C dX11_init_111 vi_X11_38 (n_X9_init l P (K + 20) (K + 19) (K + 12) (by omega) (upC_eq)) hg (by decide) rfl (Nat.le_of_ble_eq_true rfl) rfl (by omega) rfl rfl rfl ⟨Nat.le_of_ble_eq_true rfl, Nat.le_of_ble_eq_true rfl⟩ ?_
  refine nw_putF (fs' := [.ref (pb P + K), .ref (pb P + (K + 19)), .null, .int 0, .null, .null, .null, .null, .int 0]) C hname dX11_init_114 lf_X11_41_11 (by omega) ((nwo_X9 (by omega) (by omega)).trans ((upC_ne (by omega)).trans ((upC_ne (by omega)).trans ((upC_ne (by omega)).trans ((upC_ne (by omega)).trans ((upC_ne (by omega)).trans ((upC_ne (by omega)).trans ((upC_ne (by omega)).trans ((upC_ne (by omega)).trans ((upC_ne (by omega)).trans ((upC_ne (by omega)).trans ((upC_ne (by omega)).trans ((upC_ne (by omega)).trans ((upC_ne (by omega)).trans ((upC_ne (by omega)).trans ((upC_ne (by omega)).trans ((upC_ne (by omega)).trans ((upC_ne (by omega)).trans ((upC_ne (by omega)).trans ((upC_ne (by omega)).trans ((upC_ne (by omega)).trans (upC_eq)))))))))))))))))))))) rfl rfl (Nat.le_of_ble_eq_true rfl) rfl ?_
  refine nw_aload_n C 1 dX11_init_117 rfl ?_
  refine nw_newc (K' := K + 55) (c' := 55) (s' := 646) (ci := 9) (ty := tyX9) (fs := [.null, .null, .int 0, .null, .null, .null, .null, .null, .int 0, .int 0, .null, .null, .int 0, .int 0, .int 0, .null, .int 0, .null]) C dX11_init_118 rfl inT9 tyX9_ok zf_X9 ⟨(in_r2 _ (List.mem_of_getElem? (i := 11) rfl)), (in_r2 _ (List.mem_of_getElem? (i := 12) rfl)), (in_r2 _ (List.mem_of_getElem? (i := 13) rfl))⟩ rfl rfl rfl ⟨Nat.le_of_ble_eq_true rfl, Nat.le_of_ble_eq_true rfl⟩ ?_
  refine nw_dup C dX11_init_121 rfl ?_
  refine nw_aload_n C 0 dX11_init_122 rfl ?_
  refine nw_call (As := [rf P (K + 12)]) (rest := [rf P (K + 54), rf P c]) (K' := K + 89) (c' := 89) (s' := 1009) C dX11_init_123 vi_X11_38 (n_X9_init l P (K + 55) (K + 54) (K + 12) (by omega) (upC_eq)) hg (by decide) rfl (Nat.le_of_ble_eq_true rfl) rfl (by omega) rfl rfl rfl ⟨Nat.le_of_ble_eq_true rfl, Nat.le_of_ble_eq_true rfl⟩ ?_
  refine nw_putF (fs' := [.ref (pb P + K), .ref (pb P + (K + 19)), .ref (pb P + (K + 54)), .int 0, .null, .null, .null, .null, .int 0]) C hname dX11_init_126 lf_X11_45_11 (by omega) ((nwo_X9 (by omega) (by omega)).trans ((upC_ne (by omega)).trans (upC_eq))) rfl rfl (Nat.le_of_ble_eq_true rfl) rfl ?_
  refine nw_aload_n C 1 dX11_init_129 rfl ?_
  refine nw_newc (K' := K + 90) (c' := 90) (s' := 1027) (ci := 9) (ty := tyX9) (fs := [.null, .null, .int 0, .null, .null, .null, .null, .null, .int 0, .int 0, .null, .null, .int 0, .int 0, .int 0, .null, .int 0, .null]) C dX11_init_130 rfl inT9 tyX9_ok zf_X9 ⟨(in_r2 _ (List.mem_of_getElem? (i := 11) rfl)), (in_r2 _ (List.mem_of_getElem? (i := 12) rfl)), (in_r2 _ (List.mem_of_getElem? (i := 13) rfl))⟩ rfl rfl rfl ⟨Nat.le_of_ble_eq_true rfl, Nat.le_of_ble_eq_true rfl⟩ ?_
  refine nw_dup C dX11_init_133 rfl ?_
  refine nw_aload_n C 0 dX11_init_134 rfl ?_
  refine nw_call (As := [rf P (K + 12)]) (rest := [rf P (K + 89), rf P c]) (K' := K + 124) (c' := 124) (s' := 1390) C dX11_init_135 vi_X11_38 (n_X9_init l P (K + 90) (K + 89) (K + 12) (by omega) (upC_eq)) hg (by decide) rfl (Nat.le_of_ble_eq_true rfl) rfl (by omega) rfl rfl rfl ⟨Nat.le_of_ble_eq_true rfl, Nat.le_of_ble_eq_true rfl⟩ ?_
  refine nw_putF (fs' := [.ref (pb P + K), .ref (pb P + (K + 19)), .ref (pb P + (K + 54)), .int 0, .ref (pb P + (K + 89)), .null, .null, .null, .int 0]) C hname dX11_init_138 lf_X11_48_11 (by omega) ((nwo_X9 (by omega) (by omega)).trans ((upC_ne (by omega)).trans (upC_eq))) rfl rfl (Nat.le_of_ble_eq_true rfl) rfl ?_
  refine nw_aload_n C 1 dX11_init_141 rfl ?_
  refine nw_newc (K' := K + 125) (c' := 125) (s' := 1398) (ci := 8) (ty := tyX8) (fs := [.null, .null, .null, .int 0, .int 0, .long 0, .null, .null]) C dX11_init_142 rfl inT8 tyX8_ok zf_X8 ⟨(in_r2 _ (List.mem_of_getElem? (i := 17) rfl)), (in_r2 _ (List.mem_of_getElem? (i := 18) rfl)), (in_r2 _ (List.mem_of_getElem? (i := 19) rfl))⟩ rfl rfl rfl ⟨Nat.le_of_ble_eq_true rfl, Nat.le_of_ble_eq_true rfl⟩ ?_
  refine nw_dup C dX11_init_145 rfl ?_
  refine nw_aload_n C 1 dX11_init_146 rfl ?_
  refine nw_get (x := .ref (pb P + (K + 89))) C dX11_init_147 lr_X11_48_11 (by omega) ((upC_ne (by omega)).trans (upC_eq)) rfl ?_
  refine nw_call (As := [rf P (K + 89)]) (rest := [rf P (K + 124), rf P c]) (K' := K + 129) (c' := 129) (s' := 5506) C dX11_init_150 vi_X11_53 (n_X8_init l P (K + 125) (K + 124) (K + 89) (by omega) (upC_eq)) hg (by decide) rfl (Nat.le_of_ble_eq_true rfl) rfl (by omega) rfl rfl rfl ⟨Nat.le_of_ble_eq_true rfl, Nat.le_of_ble_eq_true rfl⟩ ?_
  refine nw_putF (fs' := [.ref (pb P + K), .ref (pb P + (K + 19)), .ref (pb P + (K + 54)), .int 0, .ref (pb P + (K + 89)), .ref (pb P + (K + 124)), .null, .null, .int 0]) C hname dX11_init_153 lf_X11_56_11 (by omega) ((nwo_X8 (by omega) (by omega)).trans ((upC_ne (by omega)).trans (upC_eq))) rfl rfl (Nat.le_of_ble_eq_true rfl) rfl ?_
  refine nw_aload_n C 1 dX11_init_156 rfl ?_
  refine nw_newc (K' := K + 130) (c' := 130) (s' := 5512) (ci := 6) (ty := tyX6) (fs := [.null, .int 0, .null, .null, .int 0, .null]) C dX11_init_157 rfl inT6 tyX6_ok zf_X6 ⟨(in_r2 _ (List.mem_of_getElem? (i := 21) rfl)), (in_r2 _ (List.mem_of_getElem? (i := 22) rfl)), (in_r2 _ (List.mem_of_getElem? (i := 23) rfl))⟩ rfl rfl rfl ⟨Nat.le_of_ble_eq_true rfl, Nat.le_of_ble_eq_true rfl⟩ ?_
  refine nw_dup C dX11_init_160 rfl ?_
  refine nw_callN (As := []) (rest := [rf P (K + 129), rf P c]) (K' := K + 140) (c' := 140) (s' := 6359) C dX11_init_161 vi_X11_62 (n_X6_init l P (K + 130) (K + 129) (by omega) (upC_eq)) hg (by decide) rfl (Nat.le_of_ble_eq_true rfl) rfl (by omega) rfl rfl rfl ⟨Nat.le_of_ble_eq_true rfl, Nat.le_of_ble_eq_true rfl⟩ ?_
  refine nw_putF (fs' := [.ref (pb P + K), .ref (pb P + (K + 19)), .ref (pb P + (K + 54)), .int 0, .ref (pb P + (K + 89)), .ref (pb P + (K + 124)), .ref (pb P + (K + 129)), .null, .int 0]) C hname dX11_init_164 lf_X11_63_11 (by omega) ((nwo_X6 (by omega) (by omega)).trans ((upC_ne (by omega)).trans (upC_eq))) rfl rfl (Nat.le_of_ble_eq_true rfl) rfl ?_
  refine nw_aload_n C 1 dX11_init_167 rfl ?_
  refine nw_bipush C dX11_init_168 nkb_6 ?_
  refine nw_iconst C dX11_init_170 nki_3 ?_
  refine nw_newm (N := 6) (M := 3) (K' := K + 147) (c' := 147) (s' := 6383) C dX11_init_171 nln_6_4 ⟨nln_3_4.1, nln_3_4.2.1, nln_3_4.2.2, by decide⟩ ⟨(in_r3 _ (List.mem_of_getElem? (i := 1) rfl)), (in_r3 _ (List.mem_of_getElem? (i := 2) rfl))⟩ (by omega) rfl rfl rfl ⟨Nat.le_of_ble_eq_true rfl, Nat.le_of_ble_eq_true rfl⟩ ?_
  refine nw_putF (fs' := [.ref (pb P + K), .ref (pb P + (K + 19)), .ref (pb P + (K + 54)), .int 0, .ref (pb P + (K + 89)), .ref (pb P + (K + 124)), .ref (pb P + (K + 129)), .ref (pb P + (K + 140)), .int 0]) C hname dX11_init_175 lf_X11_69_11 (by omega) ((upR_ne (by omega)).trans (upC_eq)) rfl rfl (Nat.le_of_ble_eq_true rfl) rfl ?_
  exact nw_vret E dX11_init_178
def nwp_X12 (P : PT) (K c : Nat) (ρ : Nat → va_E) : Nat → va_E :=
  upC (upC (upC (upC (upC (upC (upC (upC (upC (upC (upC (upC (upC (upC (upC (upC (upC (upC (upC (upC (upC (upC (upC (upC (upC (upC (upC (upC (upC (upC (upC (upC (upC (upC (upC (upC (upC (upC (upC (upC (upC (upC (ρ) K (.inl (pY P 0, 340, .inl (fun _ => 0)))) c (.inr (12, [.ref (pb P + K), .null, .null, .int 0, .int 0, .null, .int 0, .int 0, .null, .null, .null, .int 0, .int 0, .int 0, .int 0, .int 0, .null, .null, .int 0, .int 0, .int 0, .int 0, .int 0, .null, .int 0, .null, .int 0, .int 0, .int 0, .int 0, .int 0, .int 0, .int 0, .null, .null, .null, .null, .null, .null, .null, .int 0, .int 0, .int 0, .int 0, .int 0]))) (K + 1) (.inl (pY P 0, 340, .inl (fun _ => 0)))) c (.inr (12, [.ref (pb P + K), .ref (pb P + (K + 1)), .null, .int 0, .int 0, .null, .int 0, .int 0, .null, .null, .null, .int 0, .int 0, .int 0, .int 0, .int 0, .null, .null, .int 0, .int 0, .int 0, .int 0, .int 0, .null, .int 0, .null, .int 0, .int 0, .int 0, .int 0, .int 0, .int 0, .int 0, .null, .null, .null, .null, .null, .null, .null, .int 0, .int 0, .int 0, .int 0, .int 0]))) (K + 2) (.inl (pY P 0, 340, .inl (fun _ => 0)))) c (.inr (12, [.ref (pb P + K), .ref (pb P + (K + 1)), .ref (pb P + (K + 2)), .int 0, .int 0, .null, .int 0, .int 0, .null, .null, .null, .int 0, .int 0, .int 0, .int 0, .int 0, .null, .null, .int 0, .int 0, .int 0, .int 0, .int 0, .null, .int 0, .null, .int 0, .int 0, .int 0, .int 0, .int 0, .int 0, .int 0, .null, .null, .null, .null, .null, .null, .null, .int 0, .int 0, .int 0, .int 0, .int 0]))) c (.inr (12, [.ref (pb P + K), .ref (pb P + (K + 1)), .ref (pb P + (K + 2)), .int 0, .int (-1), .null, .int 0, .int 0, .null, .null, .null, .int 0, .int 0, .int 0, .int 0, .int 0, .null, .null, .int 0, .int 0, .int 0, .int 0, .int 0, .null, .int 0, .null, .int 0, .int 0, .int 0, .int 0, .int 0, .int 0, .int 0, .null, .null, .null, .null, .null, .null, .null, .int 0, .int 0, .int 0, .int 0, .int 0]))) (K + 3) (.inl (pY P 0, 200, .inl (fun _ => 0)))) c (.inr (12, [.ref (pb P + K), .ref (pb P + (K + 1)), .ref (pb P + (K + 2)), .int 0, .int (-1), .ref (pb P + (K + 3)), .int 0, .int 0, .null, .null, .null, .int 0, .int 0, .int 0, .int 0, .int 0, .null, .null, .int 0, .int 0, .int 0, .int 0, .int 0, .null, .int 0, .null, .int 0, .int 0, .int 0, .int 0, .int 0, .int 0, .int 0, .null, .null, .null, .null, .null, .null, .null, .int 0, .int 0, .int 0, .int 0, .int 0]))) (K + 4) (.inl (pY P 0, 6, .inl (fun _ => 0)))) c (.inr (12, [.ref (pb P + K), .ref (pb P + (K + 1)), .ref (pb P + (K + 2)), .int 0, .int (-1), .ref (pb P + (K + 3)), .int 0, .int 0, .ref (pb P + (K + 4)), .null, .null, .int 0, .int 0, .int 0, .int 0, .int 0, .null, .null, .int 0, .int 0, .int 0, .int 0, .int 0, .null, .int 0, .null, .int 0, .int 0, .int 0, .int 0, .int 0, .int 0, .int 0, .null, .null, .null, .null, .null, .null, .null, .int 0, .int 0, .int 0, .int 0, .int 0]))) (K + 5) (.inl (pY P 0, 6, .inl (fun _ => 0)))) c (.inr (12, [.ref (pb P + K), .ref (pb P + (K + 1)), .ref (pb P + (K + 2)), .int 0, .int (-1), .ref (pb P + (K + 3)), .int 0, .int 0, .ref (pb P + (K + 4)), .ref (pb P + (K + 5)), .null, .int 0, .int 0, .int 0, .int 0, .int 0, .null, .null, .int 0, .int 0, .int 0, .int 0, .int 0, .null, .int 0, .null, .int 0, .int 0, .int 0, .int 0, .int 0, .int 0, .int 0, .null, .null, .null, .null, .null, .null, .null, .int 0, .int 0, .int 0, .int 0, .int 0]))) (K + 6) (.inl (pY P 0, 6, .inl (fun _ => 0)))) c (.inr (12, [.ref (pb P + K), .ref (pb P + (K + 1)), .ref (pb P + (K + 2)), .int 0, .int (-1), .ref (pb P + (K + 3)), .int 0, .int 0, .ref (pb P + (K + 4)), .ref (pb P + (K + 5)), .ref (pb P + (K + 6)), .int 0, .int 0, .int 0, .int 0, .int 0, .null, .null, .int 0, .int 0, .int 0, .int 0, .int 0, .null, .int 0, .null, .int 0, .int 0, .int 0, .int 0, .int 0, .int 0, .int 0, .null, .null, .null, .null, .null, .null, .null, .int 0, .int 0, .int 0, .int 0, .int 0]))) (K + 7) (.inl (pY P 0, 6, .inl (fun _ => 0)))) c (.inr (12, [.ref (pb P + K), .ref (pb P + (K + 1)), .ref (pb P + (K + 2)), .int 0, .int (-1), .ref (pb P + (K + 3)), .int 0, .int 0, .ref (pb P + (K + 4)), .ref (pb P + (K + 5)), .ref (pb P + (K + 6)), .int 0, .int 0, .int 0, .int 0, .int 0, .ref (pb P + (K + 7)), .null, .int 0, .int 0, .int 0, .int 0, .int 0, .null, .int 0, .null, .int 0, .int 0, .int 0, .int 0, .int 0, .int 0, .int 0, .null, .null, .null, .null, .null, .null, .null, .int 0, .int 0, .int 0, .int 0, .int 0]))) (K + 8) (.inl (pY P 0, 6, .inl (fun _ => 0)))) c (.inr (12, [.ref (pb P + K), .ref (pb P + (K + 1)), .ref (pb P + (K + 2)), .int 0, .int (-1), .ref (pb P + (K + 3)), .int 0, .int 0, .ref (pb P + (K + 4)), .ref (pb P + (K + 5)), .ref (pb P + (K + 6)), .int 0, .int 0, .int 0, .int 0, .int 0, .ref (pb P + (K + 7)), .ref (pb P + (K + 8)), .int 0, .int 0, .int 0, .int 0, .int 0, .null, .int 0, .null, .int 0, .int 0, .int 0, .int 0, .int 0, .int 0, .int 0, .null, .null, .null, .null, .null, .null, .null, .int 0, .int 0, .int 0, .int 0, .int 0]))) (K + 9) (.inl (pY P 0, 18, .inl (fun _ => 0)))) c (.inr (12, [.ref (pb P + K), .ref (pb P + (K + 1)), .ref (pb P + (K + 2)), .int 0, .int (-1), .ref (pb P + (K + 3)), .int 0, .int 0, .ref (pb P + (K + 4)), .ref (pb P + (K + 5)), .ref (pb P + (K + 6)), .int 0, .int 0, .int 0, .int 0, .int 0, .ref (pb P + (K + 7)), .ref (pb P + (K + 8)), .int 0, .int 0, .int 0, .int 0, .int 0, .ref (pb P + (K + 9)), .int 0, .null, .int 0, .int 0, .int 0, .int 0, .int 0, .int 0, .int 0, .null, .null, .null, .null, .null, .null, .null, .int 0, .int 0, .int 0, .int 0, .int 0]))) (K + 10) (.inl (pY P 0, 200, .inl (fun _ => 0)))) c (.inr (12, [.ref (pb P + K), .ref (pb P + (K + 1)), .ref (pb P + (K + 2)), .int 0, .int (-1), .ref (pb P + (K + 3)), .int 0, .int 0, .ref (pb P + (K + 4)), .ref (pb P + (K + 5)), .ref (pb P + (K + 6)), .int 0, .int 0, .int 0, .int 0, .int 0, .ref (pb P + (K + 7)), .ref (pb P + (K + 8)), .int 0, .int 0, .int 0, .int 0, .int 0, .ref (pb P + (K + 9)), .int 0, .ref (pb P + (K + 10)), .int 0, .int 0, .int 0, .int 0, .int 0, .int 0, .int 0, .null, .null, .null, .null, .null, .null, .null, .int 0, .int 0, .int 0, .int 0, .int 0]))) (K + 11) (.inl (pY P 0, 4, .inl (fun _ => 0)))) (K + 11) (.inl (pY P 0, 4, .inl (upd (fun _ => 0) 0 (-1))))) (K + 11) (.inl (pY P 0, 4, .inl (upd (upd (fun _ => 0) 0 (-1)) 1 (-1))))) (K + 11) (.inl (pY P 0, 4, .inl (upd (upd (upd (fun _ => 0) 0 (-1)) 1 (-1)) 2 (-1))))) (K + 11) (.inl (pY P 0, 4, .inl (upd (upd (upd (upd (fun _ => 0) 0 (-1)) 1 (-1)) 2 (-1)) 3 (-1))))) c (.inr (12, [.ref (pb P + K), .ref (pb P + (K + 1)), .ref (pb P + (K + 2)), .int 0, .int (-1), .ref (pb P + (K + 3)), .int 0, .int 0, .ref (pb P + (K + 4)), .ref (pb P + (K + 5)), .ref (pb P + (K + 6)), .int 0, .int 0, .int 0, .int 0, .int 0, .ref (pb P + (K + 7)), .ref (pb P + (K + 8)), .int 0, .int 0, .int 0, .int 0, .int 0, .ref (pb P + (K + 9)), .int 0, .ref (pb P + (K + 10)), .int 0, .int 0, .int 0, .int 0, .int 0, .int 0, .int 0, .ref (pb P + (K + 11)), .null, .null, .null, .null, .null, .null, .int 0, .int 0, .int 0, .int 0, .int 0]))) (K + 12) (.inl (pY P 0, 4, .inl (fun _ => 0)))) c (.inr (12, [.ref (pb P + K), .ref (pb P + (K + 1)), .ref (pb P + (K + 2)), .int 0, .int (-1), .ref (pb P + (K + 3)), .int 0, .int 0, .ref (pb P + (K + 4)), .ref (pb P + (K + 5)), .ref (pb P + (K + 6)), .int 0, .int 0, .int 0, .int 0, .int 0, .ref (pb P + (K + 7)), .ref (pb P + (K + 8)), .int 0, .int 0, .int 0, .int 0, .int 0, .ref (pb P + (K + 9)), .int 0, .ref (pb P + (K + 10)), .int 0, .int 0, .int 0, .int 0, .int 0, .int 0, .int 0, .ref (pb P + (K + 11)), .ref (pb P + (K + 12)), .null, .null, .null, .null, .null, .int 0, .int 0, .int 0, .int 0, .int 0]))) (K + 13) (.inl (pY P 0, 160, .inl (fun _ => 0)))) c (.inr (12, [.ref (pb P + K), .ref (pb P + (K + 1)), .ref (pb P + (K + 2)), .int 0, .int (-1), .ref (pb P + (K + 3)), .int 0, .int 0, .ref (pb P + (K + 4)), .ref (pb P + (K + 5)), .ref (pb P + (K + 6)), .int 0, .int 0, .int 0, .int 0, .int 0, .ref (pb P + (K + 7)), .ref (pb P + (K + 8)), .int 0, .int 0, .int 0, .int 0, .int 0, .ref (pb P + (K + 9)), .int 0, .ref (pb P + (K + 10)), .int 0, .int 0, .int 0, .int 0, .int 0, .int 0, .int 0, .ref (pb P + (K + 11)), .ref (pb P + (K + 12)), .ref (pb P + (K + 13)), .null, .null, .null, .null, .int 0, .int 0, .int 0, .int 0, .int 0]))) (K + 14) (.inl (pY P 0, 4, .inl (fun _ => 0)))) c (.inr (12, [.ref (pb P + K), .ref (pb P + (K + 1)), .ref (pb P + (K + 2)), .int 0, .int (-1), .ref (pb P + (K + 3)), .int 0, .int 0, .ref (pb P + (K + 4)), .ref (pb P + (K + 5)), .ref (pb P + (K + 6)), .int 0, .int 0, .int 0, .int 0, .int 0, .ref (pb P + (K + 7)), .ref (pb P + (K + 8)), .int 0, .int 0, .int 0, .int 0, .int 0, .ref (pb P + (K + 9)), .int 0, .ref (pb P + (K + 10)), .int 0, .int 0, .int 0, .int 0, .int 0, .int 0, .int 0, .ref (pb P + (K + 11)), .ref (pb P + (K + 12)), .ref (pb P + (K + 13)), .ref (pb P + (K + 14)), .null, .null, .null, .int 0, .int 0, .int 0, .int 0, .int 0]))) (K + 15) (.inl (pY P 0, 4, .inl (fun _ => 0)))) c (.inr (12, [.ref (pb P + K), .ref (pb P + (K + 1)), .ref (pb P + (K + 2)), .int 0, .int (-1), .ref (pb P + (K + 3)), .int 0, .int 0, .ref (pb P + (K + 4)), .ref (pb P + (K + 5)), .ref (pb P + (K + 6)), .int 0, .int 0, .int 0, .int 0, .int 0, .ref (pb P + (K + 7)), .ref (pb P + (K + 8)), .int 0, .int 0, .int 0, .int 0, .int 0, .ref (pb P + (K + 9)), .int 0, .ref (pb P + (K + 10)), .int 0, .int 0, .int 0, .int 0, .int 0, .int 0, .int 0, .ref (pb P + (K + 11)), .ref (pb P + (K + 12)), .ref (pb P + (K + 13)), .ref (pb P + (K + 14)), .ref (pb P + (K + 15)), .null, .null, .int 0, .int 0, .int 0, .int 0, .int 0]))) (K + 16) (.inl (pY P 0, 4, .inl (fun _ => 0)))) c (.inr (12, [.ref (pb P + K), .ref (pb P + (K + 1)), .ref (pb P + (K + 2)), .int 0, .int (-1), .ref (pb P + (K + 3)), .int 0, .int 0, .ref (pb P + (K + 4)), .ref (pb P + (K + 5)), .ref (pb P + (K + 6)), .int 0, .int 0, .int 0, .int 0, .int 0, .ref (pb P + (K + 7)), .ref (pb P + (K + 8)), .int 0, .int 0, .int 0, .int 0, .int 0, .ref (pb P + (K + 9)), .int 0, .ref (pb P + (K + 10)), .int 0, .int 0, .int 0, .int 0, .int 0, .int 0, .int 0, .ref (pb P + (K + 11)), .ref (pb P + (K + 12)), .ref (pb P + (K + 13)), .ref (pb P + (K + 14)), .ref (pb P + (K + 15)), .ref (pb P + (K + 16)), .null, .int 0, .int 0, .int 0, .int 0, .int 0]))) (K + 17) (.inl (pY P 0, 30, .inl (fun _ => 0)))) c (.inr (12, [.ref (pb P + K), .ref (pb P + (K + 1)), .ref (pb P + (K + 2)), .int 0, .int (-1), .ref (pb P + (K + 3)), .int 0, .int 0, .ref (pb P + (K + 4)), .ref (pb P + (K + 5)), .ref (pb P + (K + 6)), .int 0, .int 0, .int 0, .int 0, .int 0, .ref (pb P + (K + 7)), .ref (pb P + (K + 8)), .int 0, .int 0, .int 0, .int 0, .int 0, .ref (pb P + (K + 9)), .int 0, .ref (pb P + (K + 10)), .int 0, .int 0, .int 0, .int 0, .int 0, .int 0, .int 0, .ref (pb P + (K + 11)), .ref (pb P + (K + 12)), .ref (pb P + (K + 13)), .ref (pb P + (K + 14)), .ref (pb P + (K + 15)), .ref (pb P + (K + 16)), .ref (pb P + (K + 17)), .int 0, .int 0, .int 0, .int 0, .int 0]))) K (.inl (pY P 0, 340, .inl (upd (fun _ => 0) 5 (1))))
set_option maxRecDepth 100000 in
set_option maxHeartbeats 4000000 in
theorem n_X12_init (l : Launch) (P : PT) (K c : Nat) {ρ : Nat → va_E} (hc : c < K) (h0 : ρ c = .inr (12, [.null, .null, .null, .int 0, .int 0, .null, .int 0, .int 0, .null, .null, .null, .int 0, .int 0, .int 0, .int 0, .int 0, .null, .null, .int 0, .int 0, .int 0, .int 0, .int 0, .null, .int 0, .null, .int 0, .int 0, .int 0, .int 0, .int 0, .int 0, .int 0, .null, .null, .null, .null, .null, .null, .null, .int 0, .int 0, .int 0, .int 0, .int 0])) : nwM l 1 yX12_init cX12_init 1 18 1678 K [rf P c] P ρ (nwp_X12 P K c ρ) := by
  refine nw_met rfl rfl rfl (Nat.le_of_ble_eq_true rfl) (fun G C hg hname E => ?_)
  change nwA P G 1 K ρ 0 0 0 [(0, rf P c)] []
  refine nw_aload_n C 0 dX12_init_0 rfl ?_
  refine nw_obj C dX12_init_1 (in_r6 _ (List.mem_of_getElem? (i := 18) rfl)) (in_r1 _ (List.mem_of_getElem? (i := 11) rfl)) (in_r1 _ (List.mem_of_getElem? (i := 12) rfl)) (by decide) ?_
  refine nw_aload_n C 0 dX12_init_4 rfl ?_
  refine nw_sipush C dX12_init_5 nks_340 ?_
  refine nw_newi (K' := K + 1) (c' := 1) (s' := 340) C dX12_init_8 nln_340_4 (in_r3 _ (List.mem_of_getElem? (i := 2) rfl)) rfl rfl rfl ⟨Nat.le_of_ble_eq_true rfl, Nat.le_of_ble_eq_true rfl⟩ ?_
  refine nw_putF (fs' := [.ref (pb P + K), .null, .null, .int 0, .int 0, .null, .int 0, .int 0, .null, .null, .null, .int 0, .int 0, .int 0, .int 0, .int 0, .null, .null, .int 0, .int 0, .int 0, .int 0, .int 0, .null, .int 0, .null, .int 0, .int 0, .int 0, .int 0, .int 0, .int 0, .int 0, .null, .null, .null, .null, .null, .null, .null, .int 0, .int 0, .int 0, .int 0, .int 0]) C hname dX12_init_10 lf_X12_7_12 (by omega) ((upC_ne (by omega)).trans (h0)) rfl rfl (Nat.le_of_ble_eq_true rfl) rfl ?_
  refine nw_aload_n C 0 dX12_init_13 rfl ?_
  refine nw_sipush C dX12_init_14 nks_340 ?_
  refine nw_newi (K' := K + 2) (c' := 2) (s' := 680) C dX12_init_17 nln_340_4 (in_r3 _ (List.mem_of_getElem? (i := 2) rfl)) rfl rfl rfl ⟨Nat.le_of_ble_eq_true rfl, Nat.le_of_ble_eq_true rfl⟩ ?_
  refine nw_putF (fs' := [.ref (pb P + K), .ref (pb P + (K + 1)), .null, .int 0, .int 0, .null, .int 0, .int 0, .null, .null, .null, .int 0, .int 0, .int 0, .int 0, .int 0, .null, .null, .int 0, .int 0, .int 0, .int 0, .int 0, .null, .int 0, .null, .int 0, .int 0, .int 0, .int 0, .int 0, .int 0, .int 0, .null, .null, .null, .null, .null, .null, .null, .int 0, .int 0, .int 0, .int 0, .int 0]) C hname dX12_init_19 lf_X12_13_12 (by omega) ((upC_ne (by omega)).trans (upC_eq)) rfl rfl (Nat.le_of_ble_eq_true rfl) rfl ?_
  refine nw_aload_n C 0 dX12_init_22 rfl ?_
  refine nw_sipush C dX12_init_23 nks_340 ?_
  refine nw_newi (K' := K + 3) (c' := 3) (s' := 1020) C dX12_init_26 nln_340_4 (in_r3 _ (List.mem_of_getElem? (i := 2) rfl)) rfl rfl rfl ⟨Nat.le_of_ble_eq_true rfl, Nat.le_of_ble_eq_true rfl⟩ ?_
  refine nw_putF (fs' := [.ref (pb P + K), .ref (pb P + (K + 1)), .ref (pb P + (K + 2)), .int 0, .int 0, .null, .int 0, .int 0, .null, .null, .null, .int 0, .int 0, .int 0, .int 0, .int 0, .null, .null, .int 0, .int 0, .int 0, .int 0, .int 0, .null, .int 0, .null, .int 0, .int 0, .int 0, .int 0, .int 0, .int 0, .int 0, .null, .null, .null, .null, .null, .null, .null, .int 0, .int 0, .int 0, .int 0, .int 0]) C hname dX12_init_28 lf_X12_16_12 (by omega) ((upC_ne (by omega)).trans (upC_eq)) rfl rfl (Nat.le_of_ble_eq_true rfl) rfl ?_
  refine nw_aload_n C 0 dX12_init_31 rfl ?_
  refine nw_iconst C dX12_init_32 nki_m1 ?_
  refine nw_put (fs' := [.ref (pb P + K), .ref (pb P + (K + 1)), .ref (pb P + (K + 2)), .int 0, .int (-1), .null, .int 0, .int 0, .null, .null, .null, .int 0, .int 0, .int 0, .int 0, .int 0, .null, .null, .int 0, .int 0, .int 0, .int 0, .int 0, .null, .int 0, .null, .int 0, .int 0, .int 0, .int 0, .int 0, .int 0, .int 0, .null, .null, .null, .null, .null, .null, .null, .int 0, .int 0, .int 0, .int 0, .int 0]) C dX12_init_33 lq_X12_19_12 (by omega) (upC_eq) rfl rfl (Nat.le_of_ble_eq_true rfl) rfl ?_
  refine nw_aload_n C 0 dX12_init_36 rfl ?_
  refine nw_sipush C dX12_init_37 nks_200 ?_
  refine nw_newi (K' := K + 4) (c' := 4) (s' := 1220) C dX12_init_40 nln_200_4 (in_r3 _ (List.mem_of_getElem? (i := 2) rfl)) rfl rfl rfl ⟨Nat.le_of_ble_eq_true rfl, Nat.le_of_ble_eq_true rfl⟩ ?_
  refine nw_putF (fs' := [.ref (pb P + K), .ref (pb P + (K + 1)), .ref (pb P + (K + 2)), .int 0, .int (-1), .ref (pb P + (K + 3)), .int 0, .int 0, .null, .null, .null, .int 0, .int 0, .int 0, .int 0, .int 0, .null, .null, .int 0, .int 0, .int 0, .int 0, .int 0, .null, .int 0, .null, .int 0, .int 0, .int 0, .int 0, .int 0, .int 0, .int 0, .null, .null, .null, .null, .null, .null, .null, .int 0, .int 0, .int 0, .int 0, .int 0]) C hname dX12_init_42 lf_X12_23_12 (by omega) ((upC_ne (by omega)).trans (upC_eq)) rfl rfl (Nat.le_of_ble_eq_true rfl) rfl ?_
  refine nw_aload_n C 0 dX12_init_45 rfl ?_
  refine nw_bipush C dX12_init_46 nkb_6 ?_
  refine nw_newi (K' := K + 5) (c' := 5) (s' := 1226) C dX12_init_48 nln_6_4 (in_r3 _ (List.mem_of_getElem? (i := 2) rfl)) rfl rfl rfl ⟨Nat.le_of_ble_eq_true rfl, Nat.le_of_ble_eq_true rfl⟩ ?_
  refine nw_putF (fs' := [.ref (pb P + K), .ref (pb P + (K + 1)), .ref (pb P + (K + 2)), .int 0, .int (-1), .ref (pb P + (K + 3)), .int 0, .int 0, .ref (pb P + (K + 4)), .null, .null, .int 0, .int 0, .int 0, .int 0, .int 0, .null, .null, .int 0, .int 0, .int 0, .int 0, .int 0, .null, .int 0, .null, .int 0, .int 0, .int 0, .int 0, .int 0, .int 0, .int 0, .null, .null, .null, .null, .null, .null, .null, .int 0, .int 0, .int 0, .int 0, .int 0]) C hname dX12_init_50 lf_X12_26_12 (by omega) ((upC_ne (by omega)).trans (upC_eq)) rfl rfl (Nat.le_of_ble_eq_true rfl) rfl ?_
  refine nw_aload_n C 0 dX12_init_53 rfl ?_
  refine nw_bipush C dX12_init_54 nkb_6 ?_
  refine nw_newi (K' := K + 6) (c' := 6) (s' := 1232) C dX12_init_56 nln_6_4 (in_r3 _ (List.mem_of_getElem? (i := 2) rfl)) rfl rfl rfl ⟨Nat.le_of_ble_eq_true rfl, Nat.le_of_ble_eq_true rfl⟩ ?_
  refine nw_putF (fs' := [.ref (pb P + K), .ref (pb P + (K + 1)), .ref (pb P + (K + 2)), .int 0, .int (-1), .ref (pb P + (K + 3)), .int 0, .int 0, .ref (pb P + (K + 4)), .ref (pb P + (K + 5)), .null, .int 0, .int 0, .int 0, .int 0, .int 0, .null, .null, .int 0, .int 0, .int 0, .int 0, .int 0, .null, .int 0, .null, .int 0, .int 0, .int 0, .int 0, .int 0, .int 0, .int 0, .null, .null, .null, .null, .null, .null, .null, .int 0, .int 0, .int 0, .int 0, .int 0]) C hname dX12_init_58 lf_X12_29_12 (by omega) ((upC_ne (by omega)).trans (upC_eq)) rfl rfl (Nat.le_of_ble_eq_true rfl) rfl ?_
  refine nw_aload_n C 0 dX12_init_61 rfl ?_
  refine nw_bipush C dX12_init_62 nkb_6 ?_
  refine nw_newi (K' := K + 7) (c' := 7) (s' := 1238) C dX12_init_64 nln_6_4 (in_r3 _ (List.mem_of_getElem? (i := 2) rfl)) rfl rfl rfl ⟨Nat.le_of_ble_eq_true rfl, Nat.le_of_ble_eq_true rfl⟩ ?_
  refine nw_putF (fs' := [.ref (pb P + K), .ref (pb P + (K + 1)), .ref (pb P + (K + 2)), .int 0, .int (-1), .ref (pb P + (K + 3)), .int 0, .int 0, .ref (pb P + (K + 4)), .ref (pb P + (K + 5)), .ref (pb P + (K + 6)), .int 0, .int 0, .int 0, .int 0, .int 0, .null, .null, .int 0, .int 0, .int 0, .int 0, .int 0, .null, .int 0, .null, .int 0, .int 0, .int 0, .int 0, .int 0, .int 0, .int 0, .null, .null, .null, .null, .null, .null, .null, .int 0, .int 0, .int 0, .int 0, .int 0]) C hname dX12_init_66 lf_X12_32_12 (by omega) ((upC_ne (by omega)).trans (upC_eq)) rfl rfl (Nat.le_of_ble_eq_true rfl) rfl ?_
  refine nw_aload_n C 0 dX12_init_69 rfl ?_
  refine nw_bipush C dX12_init_70 nkb_6 ?_
  refine nw_newi (K' := K + 8) (c' := 8) (s' := 1244) C dX12_init_72 nln_6_4 (in_r3 _ (List.mem_of_getElem? (i := 2) rfl)) rfl rfl rfl ⟨Nat.le_of_ble_eq_true rfl, Nat.le_of_ble_eq_true rfl⟩ ?_
  refine nw_putF (fs' := [.ref (pb P + K), .ref (pb P + (K + 1)), .ref (pb P + (K + 2)), .int 0, .int (-1), .ref (pb P + (K + 3)), .int 0, .int 0, .ref (pb P + (K + 4)), .ref (pb P + (K + 5)), .ref (pb P + (K + 6)), .int 0, .int 0, .int 0, .int 0, .int 0, .ref (pb P + (K + 7)), .null, .int 0, .int 0, .int 0, .int 0, .int 0, .null, .int 0, .null, .int 0, .int 0, .int 0, .int 0, .int 0, .int 0, .int 0, .null, .null, .null, .null, .null, .null, .null, .int 0, .int 0, .int 0, .int 0, .int 0]) C hname dX12_init_74 lf_X12_35_12 (by omega) ((upC_ne (by omega)).trans (upC_eq)) rfl rfl (Nat.le_of_ble_eq_true rfl) rfl ?_
  refine nw_aload_n C 0 dX12_init_77 rfl ?_
  refine nw_bipush C dX12_init_78 nkb_6 ?_
  refine nw_newi (K' := K + 9) (c' := 9) (s' := 1250) C dX12_init_80 nln_6_4 (in_r3 _ (List.mem_of_getElem? (i := 2) rfl)) rfl rfl rfl ⟨Nat.le_of_ble_eq_true rfl, Nat.le_of_ble_eq_true rfl⟩ ?_
  refine nw_putF (fs' := [.ref (pb P + K), .ref (pb P + (K + 1)), .ref (pb P + (K + 2)), .int 0, .int (-1), .ref (pb P + (K + 3)), .int 0, .int 0, .ref (pb P + (K + 4)), .ref (pb P + (K + 5)), .ref (pb P + (K + 6)), .int 0, .int 0, .int 0, .int 0, .int 0, .ref (pb P + (K + 7)), .ref (pb P + (K + 8)), .int 0, .int 0, .int 0, .int 0, .int 0, .null, .int 0, .null, .int 0, .int 0, .int 0, .int 0, .int 0, .int 0, .int 0, .null, .null, .null, .null, .null, .null, .null, .int 0, .int 0, .int 0, .int 0, .int 0]) C hname dX12_init_82 lf_X12_38_12 (by omega) ((upC_ne (by omega)).trans (upC_eq)) rfl rfl (Nat.le_of_ble_eq_true rfl) rfl ?_
  refine nw_aload_n C 0 dX12_init_85 rfl ?_
  refine nw_bipush C dX12_init_86 nkb_18 ?_
  refine nw_newi (K' := K + 10) (c' := 10) (s' := 1268) C dX12_init_88 nln_18_4 (in_r3 _ (List.mem_of_getElem? (i := 2) rfl)) rfl rfl rfl ⟨Nat.le_of_ble_eq_true rfl, Nat.le_of_ble_eq_true rfl⟩ ?_
  refine nw_putF (fs' := [.ref (pb P + K), .ref (pb P + (K + 1)), .ref (pb P + (K + 2)), .int 0, .int (-1), .ref (pb P + (K + 3)), .int 0, .int 0, .ref (pb P + (K + 4)), .ref (pb P + (K + 5)), .ref (pb P + (K + 6)), .int 0, .int 0, .int 0, .int 0, .int 0, .ref (pb P + (K + 7)), .ref (pb P + (K + 8)), .int 0, .int 0, .int 0, .int 0, .int 0, .ref (pb P + (K + 9)), .int 0, .null, .int 0, .int 0, .int 0, .int 0, .int 0, .int 0, .int 0, .null, .null, .null, .null, .null, .null, .null, .int 0, .int 0, .int 0, .int 0, .int 0]) C hname dX12_init_90 lf_X12_41_12 (by omega) ((upC_ne (by omega)).trans (upC_eq)) rfl rfl (Nat.le_of_ble_eq_true rfl) rfl ?_
  refine nw_aload_n C 0 dX12_init_93 rfl ?_
  refine nw_sipush C dX12_init_94 nks_200 ?_
  refine nw_newi (K' := K + 11) (c' := 11) (s' := 1468) C dX12_init_97 nln_200_4 (in_r3 _ (List.mem_of_getElem? (i := 2) rfl)) rfl rfl rfl ⟨Nat.le_of_ble_eq_true rfl, Nat.le_of_ble_eq_true rfl⟩ ?_
  refine nw_putF (fs' := [.ref (pb P + K), .ref (pb P + (K + 1)), .ref (pb P + (K + 2)), .int 0, .int (-1), .ref (pb P + (K + 3)), .int 0, .int 0, .ref (pb P + (K + 4)), .ref (pb P + (K + 5)), .ref (pb P + (K + 6)), .int 0, .int 0, .int 0, .int 0, .int 0, .ref (pb P + (K + 7)), .ref (pb P + (K + 8)), .int 0, .int 0, .int 0, .int 0, .int 0, .ref (pb P + (K + 9)), .int 0, .ref (pb P + (K + 10)), .int 0, .int 0, .int 0, .int 0, .int 0, .int 0, .int 0, .null, .null, .null, .null, .null, .null, .null, .int 0, .int 0, .int 0, .int 0, .int 0]) C hname dX12_init_99 lf_X12_44_12 (by omega) ((upC_ne (by omega)).trans (upC_eq)) rfl rfl (Nat.le_of_ble_eq_true rfl) rfl ?_
  refine nw_aload_n C 0 dX12_init_102 rfl ?_
  refine nw_iconst C dX12_init_103 nki_4 ?_
  refine nw_newi (K' := K + 12) (c' := 12) (s' := 1472) C dX12_init_104 nln_4_4 (in_r3 _ (List.mem_of_getElem? (i := 2) rfl)) rfl rfl rfl ⟨Nat.le_of_ble_eq_true rfl, Nat.le_of_ble_eq_true rfl⟩ ?_
  refine nw_dup C dX12_init_106 rfl ?_
  refine nw_iconst C dX12_init_107 nki_0 ?_
  refine nw_iconst C dX12_init_108 nki_m1 ?_
  refine nw_iast C dX12_init_109 (by omega) (upC_eq) nin_0_4 ntc_0 ?_
  refine nw_dup C dX12_init_110 rfl ?_
  refine nw_iconst C dX12_init_111 nki_1 ?_
  refine nw_iconst C dX12_init_112 nki_m1 ?_
  refine nw_iast C dX12_init_113 (by omega) (upC_eq) nin_1_4 ntc_1 ?_
  refine nw_dup C dX12_init_114 rfl ?_
  refine nw_iconst C dX12_init_115 nki_2 ?_
  refine nw_iconst C dX12_init_116 nki_m1 ?_
  refine nw_iast C dX12_init_117 (by omega) (upC_eq) nin_2_4 ntc_2 ?_
  refine nw_dup C dX12_init_118 rfl ?_
  refine nw_iconst C dX12_init_119 nki_3 ?_
  refine nw_iconst C dX12_init_120 nki_m1 ?_
  refine nw_iast C dX12_init_121 (by omega) (upC_eq) nin_3_4 ntc_3 ?_
  refine nw_putF (fs' := [.ref (pb P + K), .ref (pb P + (K + 1)), .ref (pb P + (K + 2)), .int 0, .int (-1), .ref (pb P + (K + 3)), .int 0, .int 0, .ref (pb P + (K + 4)), .ref (pb P + (K + 5)), .ref (pb P + (K + 6)), .int 0, .int 0, .int 0, .int 0, .int 0, .ref (pb P + (K + 7)), .ref (pb P + (K + 8)), .int 0, .int 0, .int 0, .int 0, .int 0, .ref (pb P + (K + 9)), .int 0, .ref (pb P + (K + 10)), .int 0, .int 0, .int 0, .int 0, .int 0, .int 0, .int 0, .ref (pb P + (K + 11)), .null, .null, .null, .null, .null, .null, .int 0, .int 0, .int 0, .int 0, .int 0]) C hname dX12_init_122 lf_X12_47_12 (by omega) ((upC_ne (by omega)).trans ((upC_ne (by omega)).trans ((upC_ne (by omega)).trans ((upC_ne (by omega)).trans ((upC_ne (by omega)).trans (upC_eq)))))) rfl rfl (Nat.le_of_ble_eq_true rfl) rfl ?_
  refine nw_aload_n C 0 dX12_init_125 rfl ?_
  refine nw_iconst C dX12_init_126 nki_4 ?_
  refine nw_newi (K' := K + 13) (c' := 13) (s' := 1476) C dX12_init_127 nln_4_4 (in_r3 _ (List.mem_of_getElem? (i := 2) rfl)) rfl rfl rfl ⟨Nat.le_of_ble_eq_true rfl, Nat.le_of_ble_eq_true rfl⟩ ?_
  refine nw_putF (fs' := [.ref (pb P + K), .ref (pb P + (K + 1)), .ref (pb P + (K + 2)), .int 0, .int (-1), .ref (pb P + (K + 3)), .int 0, .int 0, .ref (pb P + (K + 4)), .ref (pb P + (K + 5)), .ref (pb P + (K + 6)), .int 0, .int 0, .int 0, .int 0, .int 0, .ref (pb P + (K + 7)), .ref (pb P + (K + 8)), .int 0, .int 0, .int 0, .int 0, .int 0, .ref (pb P + (K + 9)), .int 0, .ref (pb P + (K + 10)), .int 0, .int 0, .int 0, .int 0, .int 0, .int 0, .int 0, .ref (pb P + (K + 11)), .ref (pb P + (K + 12)), .null, .null, .null, .null, .null, .int 0, .int 0, .int 0, .int 0, .int 0]) C hname dX12_init_129 lf_X12_50_12 (by omega) ((upC_ne (by omega)).trans (upC_eq)) rfl rfl (Nat.le_of_ble_eq_true rfl) rfl ?_
  refine nw_aload_n C 0 dX12_init_132 rfl ?_
  refine nw_sipush C dX12_init_133 nks_160 ?_
  refine nw_newi (K' := K + 14) (c' := 14) (s' := 1636) C dX12_init_136 nln_160_4 (in_r3 _ (List.mem_of_getElem? (i := 2) rfl)) rfl rfl rfl ⟨Nat.le_of_ble_eq_true rfl, Nat.le_of_ble_eq_true rfl⟩ ?_
  refine nw_putF (fs' := [.ref (pb P + K), .ref (pb P + (K + 1)), .ref (pb P + (K + 2)), .int 0, .int (-1), .ref (pb P + (K + 3)), .int 0, .int 0, .ref (pb P + (K + 4)), .ref (pb P + (K + 5)), .ref (pb P + (K + 6)), .int 0, .int 0, .int 0, .int 0, .int 0, .ref (pb P + (K + 7)), .ref (pb P + (K + 8)), .int 0, .int 0, .int 0, .int 0, .int 0, .ref (pb P + (K + 9)), .int 0, .ref (pb P + (K + 10)), .int 0, .int 0, .int 0, .int 0, .int 0, .int 0, .int 0, .ref (pb P + (K + 11)), .ref (pb P + (K + 12)), .ref (pb P + (K + 13)), .null, .null, .null, .null, .int 0, .int 0, .int 0, .int 0, .int 0]) C hname dX12_init_138 lf_X12_53_12 (by omega) ((upC_ne (by omega)).trans (upC_eq)) rfl rfl (Nat.le_of_ble_eq_true rfl) rfl ?_
  refine nw_aload_n C 0 dX12_init_141 rfl ?_
  refine nw_iconst C dX12_init_142 nki_4 ?_
  refine nw_newi (K' := K + 15) (c' := 15) (s' := 1640) C dX12_init_143 nln_4_4 (in_r3 _ (List.mem_of_getElem? (i := 2) rfl)) rfl rfl rfl ⟨Nat.le_of_ble_eq_true rfl, Nat.le_of_ble_eq_true rfl⟩ ?_
  refine nw_putF (fs' := [.ref (pb P + K), .ref (pb P + (K + 1)), .ref (pb P + (K + 2)), .int 0, .int (-1), .ref (pb P + (K + 3)), .int 0, .int 0, .ref (pb P + (K + 4)), .ref (pb P + (K + 5)), .ref (pb P + (K + 6)), .int 0, .int 0, .int 0, .int 0, .int 0, .ref (pb P + (K + 7)), .ref (pb P + (K + 8)), .int 0, .int 0, .int 0, .int 0, .int 0, .ref (pb P + (K + 9)), .int 0, .ref (pb P + (K + 10)), .int 0, .int 0, .int 0, .int 0, .int 0, .int 0, .int 0, .ref (pb P + (K + 11)), .ref (pb P + (K + 12)), .ref (pb P + (K + 13)), .ref (pb P + (K + 14)), .null, .null, .null, .int 0, .int 0, .int 0, .int 0, .int 0]) C hname dX12_init_145 lf_X12_56_12 (by omega) ((upC_ne (by omega)).trans (upC_eq)) rfl rfl (Nat.le_of_ble_eq_true rfl) rfl ?_
  refine nw_aload_n C 0 dX12_init_148 rfl ?_
  refine nw_iconst C dX12_init_149 nki_4 ?_
  refine nw_newi (K' := K + 16) (c' := 16) (s' := 1644) C dX12_init_150 nln_4_4 (in_r3 _ (List.mem_of_getElem? (i := 2) rfl)) rfl rfl rfl ⟨Nat.le_of_ble_eq_true rfl, Nat.le_of_ble_eq_true rfl⟩ ?_
  refine nw_putF (fs' := [.ref (pb P + K), .ref (pb P + (K + 1)), .ref (pb P + (K + 2)), .int 0, .int (-1), .ref (pb P + (K + 3)), .int 0, .int 0, .ref (pb P + (K + 4)), .ref (pb P + (K + 5)), .ref (pb P + (K + 6)), .int 0, .int 0, .int 0, .int 0, .int 0, .ref (pb P + (K + 7)), .ref (pb P + (K + 8)), .int 0, .int 0, .int 0, .int 0, .int 0, .ref (pb P + (K + 9)), .int 0, .ref (pb P + (K + 10)), .int 0, .int 0, .int 0, .int 0, .int 0, .int 0, .int 0, .ref (pb P + (K + 11)), .ref (pb P + (K + 12)), .ref (pb P + (K + 13)), .ref (pb P + (K + 14)), .ref (pb P + (K + 15)), .null, .null, .int 0, .int 0, .int 0, .int 0, .int 0]) C hname dX12_init_152 lf_X12_59_12 (by omega) ((upC_ne (by omega)).trans (upC_eq)) rfl rfl (Nat.le_of_ble_eq_true rfl) rfl ?_
  refine nw_aload_n C 0 dX12_init_155 rfl ?_
  refine nw_iconst C dX12_init_156 nki_4 ?_
  refine nw_newi (K' := K + 17) (c' := 17) (s' := 1648) C dX12_init_157 nln_4_4 (in_r3 _ (List.mem_of_getElem? (i := 2) rfl)) rfl rfl rfl ⟨Nat.le_of_ble_eq_true rfl, Nat.le_of_ble_eq_true rfl⟩ ?_
  refine nw_putF (fs' := [.ref (pb P + K), .ref (pb P + (K + 1)), .ref (pb P + (K + 2)), .int 0, .int (-1), .ref (pb P + (K + 3)), .int 0, .int 0, .ref (pb P + (K + 4)), .ref (pb P + (K + 5)), .ref (pb P + (K + 6)), .int 0, .int 0, .int 0, .int 0, .int 0, .ref (pb P + (K + 7)), .ref (pb P + (K + 8)), .int 0, .int 0, .int 0, .int 0, .int 0, .ref (pb P + (K + 9)), .int 0, .ref (pb P + (K + 10)), .int 0, .int 0, .int 0, .int 0, .int 0, .int 0, .int 0, .ref (pb P + (K + 11)), .ref (pb P + (K + 12)), .ref (pb P + (K + 13)), .ref (pb P + (K + 14)), .ref (pb P + (K + 15)), .ref (pb P + (K + 16)), .null, .int 0, .int 0, .int 0, .int 0, .int 0]) C hname dX12_init_159 lf_X12_62_12 (by omega) ((upC_ne (by omega)).trans (upC_eq)) rfl rfl (Nat.le_of_ble_eq_true rfl) rfl ?_
  refine nw_aload_n C 0 dX12_init_162 rfl ?_
  refine nw_bipush C dX12_init_163 nkb_30 ?_
  refine nw_newi (K' := K + 18) (c' := 18) (s' := 1678) C dX12_init_165 nln_30_4 (in_r3 _ (List.mem_of_getElem? (i := 2) rfl)) rfl rfl rfl ⟨Nat.le_of_ble_eq_true rfl, Nat.le_of_ble_eq_true rfl⟩ ?_
  refine nw_putF (fs' := [.ref (pb P + K), .ref (pb P + (K + 1)), .ref (pb P + (K + 2)), .int 0, .int (-1), .ref (pb P + (K + 3)), .int 0, .int 0, .ref (pb P + (K + 4)), .ref (pb P + (K + 5)), .ref (pb P + (K + 6)), .int 0, .int 0, .int 0, .int 0, .int 0, .ref (pb P + (K + 7)), .ref (pb P + (K + 8)), .int 0, .int 0, .int 0, .int 0, .int 0, .ref (pb P + (K + 9)), .int 0, .ref (pb P + (K + 10)), .int 0, .int 0, .int 0, .int 0, .int 0, .int 0, .int 0, .ref (pb P + (K + 11)), .ref (pb P + (K + 12)), .ref (pb P + (K + 13)), .ref (pb P + (K + 14)), .ref (pb P + (K + 15)), .ref (pb P + (K + 16)), .ref (pb P + (K + 17)), .int 0, .int 0, .int 0, .int 0, .int 0]) C hname dX12_init_167 lf_X12_65_12 (by omega) ((upC_ne (by omega)).trans (upC_eq)) rfl rfl (Nat.le_of_ble_eq_true rfl) rfl ?_
  refine nw_aload_n C 0 dX12_init_170 rfl ?_
  refine nw_get (x := .ref (pb P + K)) C dX12_init_171 lr_X12_7_12 (by omega) (upC_eq) rfl ?_
  refine nw_iconst C dX12_init_174 nki_5 ?_
  refine nw_iconst C dX12_init_175 nki_1 ?_
  refine nw_iast C dX12_init_176 (by omega) ((upC_ne (by omega)).trans ((upC_ne (by omega)).trans ((upC_ne (by omega)).trans ((upC_ne (by omega)).trans ((upC_ne (by omega)).trans ((upC_ne (by omega)).trans ((upC_ne (by omega)).trans ((upC_ne (by omega)).trans ((upC_ne (by omega)).trans ((upC_ne (by omega)).trans ((upC_ne (by omega)).trans ((upC_ne (by omega)).trans ((upC_ne (by omega)).trans ((upC_ne (by omega)).trans ((upC_ne (by omega)).trans ((upC_ne (by omega)).trans ((upC_ne (by omega)).trans ((upC_ne (by omega)).trans ((upC_ne (by omega)).trans ((upC_ne (by omega)).trans ((upC_ne (by omega)).trans ((upC_ne (by omega)).trans ((upC_ne (by omega)).trans ((upC_ne (by omega)).trans ((upC_ne (by omega)).trans ((upC_ne (by omega)).trans ((upC_ne (by omega)).trans ((upC_ne (by omega)).trans ((upC_ne (by omega)).trans ((upC_ne (by omega)).trans ((upC_ne (by omega)).trans ((upC_ne (by omega)).trans ((upC_ne (by omega)).trans ((upC_ne (by omega)).trans ((upC_ne (by omega)).trans ((upC_ne (by omega)).trans ((upC_ne (by omega)).trans ((upC_ne (by omega)).trans ((upC_ne (by omega)).trans ((upC_ne (by omega)).trans (upC_eq))))))))))))))))))))))))))))))))))))))))) nin_5_340 ntc_5 ?_
  exact nw_vret E dX12_init_177
