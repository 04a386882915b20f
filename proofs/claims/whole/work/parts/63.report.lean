/-! REPORT and FORGET, both sides -/
def okRp (x y z : Int32) : Prop := (0 ≤ x ∧ x ≤ 99) ∧ (0 ≤ y ∧ y ≤ 99) ∧ 0 ≤ z ∧ z ≤ 999
def rpS (S : Nat → Int32) (x y z : Int32) : Nat → Int32 := us (us (us (us S (52 + 3 * nx (S 3)) x) (52 + 3 * nx (S 3) + 1) y) (52 + 3 * nx (S 3) + 2) z) 3 (S 3 + 1)
theorem rpS_off {S : Nat → Int32} {x y z : Int32} {i : Nat} (h : rg (S 3) 6) (h1 : i ≠ 3) (h2 : i < 52 + 3 * nx (S 3) ∨ 52 + 3 * nx (S 3) + 3 ≤ i) : rpS S x y z i = S i := by
  unfold rpS
  rw [us_ne h1, us_ne (by omega), us_ne (by omega), us_ne (by omega)]
theorem c_rpt {t : Nat} {σ σ' : SG} {S : Nat → Int32} {x y z : Int32} (h : RPT t σ S) (hk : nx (S 3) < 6) (e : σ' = uI (uI (uI (uI σ (t + 28 + 1 + nx (S 3)) 0 x) (t + 28 + 1 + nx (S 3)) 1 y) (t + 28 + 1 + nx (S 3)) 2 z) t 16 (S 3 + 1)) : RPT t σ' (rpS S x y z) := by
  obtain ⟨h1, h2, h3⟩ := h
  have e3 : rpS S x y z 3 = nI (nx (S 3) + 1) := by
    unfold rpS
    rw [us_same, h1.2, nI_1, nx_nI (by omega)]
  refine ⟨by rw [e3]; exact rg_nI (by omega) (by decide), by rw [e, uI_same, e3, h1.2, nI_1, nx_nI (by omega)], fun i hi => ?_⟩
  rw [e3, nx_nI (by omega)] at hi
  by_cases ei : i = nx (S 3)
  · subst ei
    refine ⟨?_, ?_, ?_⟩
    · rw [e, uI_c (by omega), uI_i (by decide), uI_i (by decide), uI_same]
      unfold rpS
      rw [us_ne (by omega), us_ne (by omega), us_ne (by omega), us_same]
    · rw [e, uI_c (by omega), uI_i (by decide), uI_same]
      unfold rpS
      rw [us_ne (by omega), us_ne (by omega), us_same]
    · rw [e, uI_c (by omega), uI_same]
      unfold rpS
      rw [us_ne (by omega), us_same]
  · obtain ⟨c0, c1, c2⟩ := h3 i (by omega)
    rw [e, uI_c (by omega), uI_c (by omega), uI_c (by omega), uI_c (by omega), uI_c (by omega), uI_c (by omega), uI_c (by omega), uI_c (by omega), uI_c (by omega), uI_c (by omega), uI_c (by omega), uI_c (by omega), rpS_off h1 (by omega) (by omega), rpS_off h1 (by omega) (by omega), rpS_off h1 (by omega) (by omega)]
    exact ⟨c0, c1, c2⟩
