/-! REPORT and FORGET, both sides -/
def okRp (x y z : Int32) : Prop := (0 ≤ x ∧ x ≤ 99) ∧ (0 ≤ y ∧ y ≤ 99) ∧ 0 ≤ z ∧ z ≤ 999
def rpS (S : Nat → Int32) (x y z : Int32) : Nat → Int32 := us (us (us (us S (52 + 3 * nx (S 3)) x) (52 + 3 * nx (S 3) + 1) y) (52 + 3 * nx (S 3) + 2) z) 3 (S 3 + 1)
theorem rpS_off {S : Nat → Int32} {x y z : Int32} {i : Nat} (h : rg (S 3) 6) (h1 : i ≠ 3) (h2 : i < 52 + 3 * nx (S 3) ∨ 52 + 3 * nx (S 3) + 3 ≤ i) : rpS S x y z i = S i := by
  unfold rpS
  rw [us_ne h1, us_ne (by omega), us_ne (by omega), us_ne (by omega)]
theorem c_rpt {t : Nat} {σ σ' : SG} {S : Nat → Int32} {x y z : Int32} (h : RPT t σ S) (hk : nx (S 3) < 6) (e : σ' = uI (uI (uI (uI σ (t + 28 + 1 + nx (S 3)) 0 x) (t + 28 + 1 + nx (S 3)) 1 y) (t + 28 + 1 + nx (S 3)) 2 z) t 16 (S 3 + 1)) : RPT t σ' (rpS S x y z) := by
  obtain ⟨h1, h2, h3⟩ := h
  have e3 : rpS S x y z 3 = nI (nx (S 3) + 1) := by
    unfold rpS
    rw [us_same, h1.2, nI_1, nx_nI (by omega)]
  refine ⟨by rw [e3]; exact rg_nI (by omega) (by decide), by rw [e, uI_same, e3, h1.2, nI_1, nx_nI (by omega)], fun i hi => ?_⟩
  rw [e3, nx_nI (by omega)] at hi
  by_cases ei : i = nx (S 3)
  · subst ei
    refine ⟨?_, ?_, ?_⟩
    · rw [e, uI_c (by omega), uI_i (by decide), uI_i (by decide), uI_same]
      unfold rpS
      rw [us_ne (by omega), us_ne (by omega), us_ne (by omega), us_same]
    · rw [e, uI_c (by omega), uI_i (by decide), uI_same]
      unfold rpS
      rw [us_ne (by omega), us_ne (by omega), us_same]
    · rw [e, uI_c (by omega), uI_same]
      unfold rpS
      rw [us_ne (by omega), us_same]
  · obtain ⟨c0, c1, c2⟩ := h3 i (by omega)
    rw [e, uI_c (by omega), uI_c (by omega), uI_c (by omega), uI_c (by omega), uI_c (by omega), uI_c (by omega), uI_c (by omega), uI_c (by omega), uI_c (by omega), uI_c (by omega), uI_c (by omega), uI_c (by omega), rpS_off h1 (by omega) (by omega), rpS_off h1 (by omega) (by omega), rpS_off h1 (by omega) (by omega)]
    exact ⟨c0, c1, c2⟩
def repA (S : Nat → Int32) (x y z : Int32) : Int32 := if 0 ≤ x ∧ x ≤ 99 then (if 0 ≤ y ∧ y ≤ 99 then (if 0 ≤ z ∧ z ≤ 999 then (if nx (S 3) < 6 then S 3 else -2) else -1) else -1) else -1
def rpN (S : Nat → Int32) (x y z : Int32) : Nat → Int32 := if 0 ≤ x ∧ x ≤ 99 then (if 0 ≤ y ∧ y ≤ 99 then (if 0 ≤ z ∧ z ≤ 999 then (if nx (S 3) < 6 then rpS S x y z else S) else S) else S) else S
theorem i_p1m1 (x : Int32) : x + 1 - 1 = x := by simp
theorem cq_report {σ : SG} {S : Nat → Int32} (h : RPT 20 σ S) (x y z : Int32) : ∃ σ', f_H_report x y z σ = some (repA S x y z, σ') ∧ RPT 20 σ' (rpN S x y z) ∧ fr (fun c => c = 20 ∨ (49 ≤ c ∧ c ≤ 54)) σ σ' ∧ ∀ i, i ≠ 16 → σ'.1 20 i = σ.1 20 i := by
  have h6 := h.1.1
  have e16 := h.2.1
  unfold f_H_report repA rpN
  rw [b_isIn, bnd_some, b_isIn, bnd_some, b_isIn, bnd_some]
  by_cases hx : 0 ≤ x ∧ x ≤ 99
  · rw [if_neg (bI_n0.mpr hx), if_pos hx, if_pos hx]
    by_cases hy : 0 ≤ y ∧ y ≤ 99
    · rw [if_neg (bI_n0.mpr hy), if_pos hy, if_pos hy]
      by_cases hz : 0 ≤ z ∧ z ≤ 999
      · rw [if_pos (bI_n0.mpr hz), if_pos hz, if_pos hz, e16]
        have hlt : S 3 < (6 : Int32) ↔ nx (S 3) < 6 := by
          have q := n_lt (a := nx (S 3)) (b := 6) (by omega) (by decide)
          rw [← h.1.2] at q
          exact q
        by_cases hk : nx (S 3) < 6
        · rw [if_pos (hlt.mpr hk), if_pos hk, if_pos hk, gd_pos (show ix (S 3) 6 by rw [h.1.2]; exact ix_nI hk (by decide)), sx_eq, sx_eq, sx_eq, sx_eq, uI_same, i_p1m1, uI_c (c' := 20) (by omega), uI_c (c' := 20) (by omega), uI_c (c' := 20) (by omega), e16]
          refine ⟨_, rfl, c_rpt h hk rfl, ?_, fun i hi => by rw [uI_i hi, uI_c (by omega), uI_c (by omega), uI_c (by omega)]⟩
          exact ((fr.tr (fr.uI (Or.inr (by omega))) (fr.uI (Or.inr (by omega)))).tr (fr.uI (Or.inr (by omega)))).tr (fr.uI (Or.inl rfl))
        · rw [if_neg (fun q => hk (hlt.mp q)), if_neg hk, if_neg hk]
          exact ⟨σ, rfl, h, fr.rf, fun _ _ => rfl⟩
      · rw [if_neg (fun q => q (bI_0.mpr hz)), if_neg hz, if_neg hz]
        exact ⟨σ, rfl, h, fr.rf, fun _ _ => rfl⟩
    · rw [if_pos (bI_0.mpr hy), if_neg hy, if_neg hy]
      exact ⟨σ, rfl, h, fr.rf, fun _ _ => rfl⟩
  · rw [if_pos (bI_0.mpr hx), if_neg hx, if_neg hx]
    exact ⟨σ, rfl, h, fr.rf, fun _ _ => rfl⟩
theorem mq_report {σ : SG} (h1 : rg (σ.1 149 3) 6) (x y z : Int32) : ∃ σ', f_M_report x y z σ = some (repA (σ.1 149) x y z, σ') ∧ σ'.1 149 = rpN (σ.1 149) x y z ∧ fr (fun c => c = 149) σ σ' := by
  have h6 := h1.1
  unfold f_M_report repA rpN
  rw [m_in32 (a := 0) (b := 99) (by decide) (by decide), bnd_some, m_in32 (a := 0) (b := 99) (by decide) (by decide), bnd_some, m_in32 (a := 0) (b := 999) (by decide) (by decide), bnd_some]
  by_cases hx : 0 ≤ x ∧ x ≤ 99
  · rw [if_neg (bI_n0.mpr hx), if_pos hx, if_pos hx]
    by_cases hy : 0 ≤ y ∧ y ≤ 99
    · rw [if_neg (bI_n0.mpr hy), if_pos hy, if_pos hy]
      by_cases hz : 0 ≤ z ∧ z ≤ 999
      · rw [if_pos (bI_n0.mpr hz), if_pos hz, if_pos hz]
        have hlt : σ.1 149 3 = (6 : Int32) ↔ nx (σ.1 149 3) = 6 := by
          have q := n_inj (a := nx (σ.1 149 3)) (b := 6) (by omega) (by decide)
          rw [← h1.2] at q
          exact q
        by_cases hk : nx (σ.1 149 3) < 6
        · have e52 : (52 : Int32) + (3 : Int32) * σ.1 149 3 = nI (52 + 3 * nx (σ.1 149 3)) := by
            rw [h1.2, show (3 : Int32) * nI (nx (σ.1 149 3)) = nI (3 * nx (σ.1 149 3)) from n_mul 3 _, nx_nI (by omega)]
            exact n_add 52 _
          have e2' : nI (52 + 3 * nx (σ.1 149 3)) + (2 : Int32) = nI (52 + 3 * nx (σ.1 149 3) + 2) := n_add _ 2
          rw [if_pos (fun q => by have := hlt.mp q; omega), if_pos hk, if_pos hk, lx_eq, e52, nI_1, e2', gd_pos (ix_nI (by omega) (by decide)), sx_eq, gd_pos (ix_nI (by omega) (by decide)), sx_eq, gd_pos (ix_nI (by omega) (by decide)), sx_eq, sx_eq, nx_nI (by omega), nx_nI (by omega), nx_nI (by omega), uI_same, i_p1m1, uI_i (i := 52 + 3 * nx (σ.1 149 3) + 2) (j := 3) (by omega), uI_i (i := 52 + 3 * nx (σ.1 149 3) + 1) (j := 3) (by omega), uI_i (i := 52 + 3 * nx (σ.1 149 3)) (j := 3) (by omega)]
          refine ⟨_, rfl, ?_, ((fr.tr fr_u1 fr_u1).tr fr_u1).tr fr_u1⟩
          rw [uI149, uI149, uI149, uI149]
          rfl
        · rw [if_neg (fun q => q (hlt.mpr (by omega))), if_neg hk, if_neg hk]
          exact ⟨σ, rfl, rfl, fr.rf⟩
      · rw [if_neg (fun q => q (bI_0.mpr hz)), if_neg hz, if_neg hz]
        exact ⟨σ, rfl, rfl, fr.rf⟩
    · rw [if_pos (bI_0.mpr hy), if_neg hy, if_neg hy]
      exact ⟨σ, rfl, rfl, fr.rf⟩
  · rw [if_pos (bI_0.mpr hx), if_neg hx, if_neg hx]
    exact ⟨σ, rfl, rfl, fr.rf⟩
theorem cq_forget {σ : SG} {S : Nat → Int32} (h : RPT 20 σ S) : ∃ σ', f_H_forget σ = some (S 3, σ') ∧ RPT 20 σ' (us S 3 0) ∧ fr (fun c => c = 20) σ σ' ∧ ∀ i, i ≠ 16 → σ'.1 20 i = σ.1 20 i := by
  unfold f_H_forget
  rw [lx_eq, sx_eq, h.2.1]
  refine ⟨_, rfl, ⟨by rw [us_same]; exact rg_nI (k := 0) (by decide) (by decide), by rw [uI_same, us_same], fun i hi => ?_⟩, fr_u1, fun i hi => uI_i hi⟩
  rw [us_same] at hi
  exact absurd hi (Nat.not_lt_zero i)
theorem mq_forget (σ : SG) : ∃ σ', f_M_forget σ = some (σ.1 149 3, σ') ∧ σ'.1 149 = us (σ.1 149) 3 0 ∧ fr (fun c => c = 149) σ σ' := by
  unfold f_M_forget f_M_becomes
  rw [gd_pos (by decide), lx_eq, gd_pos (by decide), sx_eq, bnd_some]
  exact ⟨_, rfl, uI149, fr_u1⟩
