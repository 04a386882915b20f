/-! act, trace, many, both sides -/
def TRc (σ : SG) (L : List Nat) : Prop := L.length ≤ 29 ∧ σ.1 1 6 = nI L.length ∧ ∀ i x, L[i]? = some x → σ.1 12 i = nI x
def TRm (σ : SG) (L : List Nat) : Prop := L.length ≤ 29 ∧ σ.1 148 40 = nI L.length ∧ ∀ i x, L[i]? = some x → σ.1 166 i = nI x
abbrev actOK (S : Nat → Int32) (H : HO) (x y : Int32) : Prop := (sh4 x ∧ onP S H (nx x)) ∧ 0 ≤ y ∧ y ≤ 3
abbrev actP (S : Nat → Int32) (H : HO) (x y v : Int32) : Int32 × AS := acA (kdN S (nx (H 4 (nx x)))) (H 4 (nx x)) (ndS S (nx (H 4 (nx x)))) y v
def actA (S : Nat → Int32) (H : HO) (x y v : Int32) : Int32 := if actOK S H x y then acV (actP S H x y v) else 0
def actL (S : Nat → Int32) (H : HO) (x y v : Int32) : List Nat := if actOK S H x y then (actP S H x y v).2.1 else []
abbrev Lac (c : Nat) : Prop := c = 1 ∨ c = 12 ∨ (14 ≤ c ∧ c ≤ 19)
theorem cq_act {σ : SG} {S : Nat → Int32} {H : HO} (g : GD S) (hT : TWR 20 σ S nob) (hC : HC σ H) (x y v : Int32) : ∃ σ', f_H_act x y v σ = some (actA S H x y v, σ') ∧ TRc σ' (actL S H x y v) ∧ fr Lac σ σ' := by
  unfold f_H_act f_Ho_startTrace actA actL
  rw [sx_eq, sx_eq, bnd_some]
  generalize hτ : uI (uI σ 1 6 (0 : Int32)) 1 8 (0 : Int32) = τ
  have fτ : fr Lac σ τ := by
    rw [← hτ]
    exact fr.tr (fr.uI (Or.inl rfl)) (fr.uI (Or.inl rfl))
  have tτ : TAc τ ([], false) 0 := by
    rw [← hτ]
    exact ⟨Nat.le_refl _, by rw [uI_i (by decide), uI_same]; rfl, by rw [uI_same, bI_neg (fun z : (false = true) => by cases z)], fun i x h => by cases h⟩
  have T1 : TWR 20 τ S nob := hT.cong (fun c c1 c2 _ => fτ.1 c (by omega))
  have C1 : HC τ H := hC.keep (fun c c1 c2 => by rw [← hτ, uIc (by omega), uIc (by omega)])
  rw [b_personOn T1 C1, bnd_some]
  by_cases hp : sh4 x ∧ onP S H (nx x)
  · obtain ⟨p, hp6, hpn, ep⟩ := isP_in g.1 hp.2.2
    by_cases hy : 0 ≤ y ∧ y ≤ 3
    · have ip := ix_nI hp6 (show (6 : Nat) < 2147483648 by decide)
      have np : nx (nI p) = p := nx_nI (by omega)
      have k5 : kdN S p ≤ 5 := (rgP g hp6).1.1
      have ek : τ.1 28 p = nI (kdN S p) := ((T1.2.2.2.2.1 p hp6).1).trans (rgP g hp6).1.2
      have ea : ∀ (c : Nat) (w : Int32), 14 ≤ c → c ≤ 19 → (uI τ c 1 w).1 30 p = ndS S p := fun c w c1 c2 => by
        rw [uI_c (by omega)]
        exact (T1.2.2.2.2.1 p hp6).2.2.1
      have eP : actP S H x y v = acA (kdN S p) (nI p) (ndS S p) y v := by
        show acA (kdN S (nx (H 4 (nx x)))) (H 4 (nx x)) (ndS S (nx (H 4 (nx x)))) y v = _
        rw [ep, np]
      rw [if_pos hp, if_pos (show actOK S H x y from ⟨hp, hy⟩), if_pos (show actOK S H x y from ⟨hp, hy⟩), eP, ep, if_neg (nI_pos (by omega)), b_isIn, bnd_some, if_pos (bI_n0.mpr hy), np, gd_pos ip, ek, gd_pos (ix_nI (by omega) (by decide))]
      have fin : ∀ (c k : Nat) (X : Option (Int32 × SG)), 14 ≤ c → c ≤ 19 → kdN S p = k → (∀ τ', τ' = uI (uI τ c 1 (nI p)) c 2 (ndS S p) → ∃ σ', X = some (acV (acA k (nI p) (ndS S p) y v), σ') ∧ TAc σ' (acA k (nI p) (ndS S p) y v).2 29 ∧ fr La τ' σ') → ∃ σ', X = some (acV (acA (kdN S p) (nI p) (ndS S p) y v), σ') ∧ TRc σ' (acA (kdN S p) (nI p) (ndS S p) y v).2.1 ∧ fr Lac σ σ' := fun c k X c1 c2 hk hX => by
        obtain ⟨σ', q1, q2, q3⟩ := hX _ rfl
        rw [hk]
        exact ⟨σ', q1, ⟨q2.1, q2.2.1, q2.2.2.2⟩, (fτ.tr ((fr.uI (Or.inr (Or.inr ⟨c1, c2⟩))).tr (fr.uI (Or.inr (Or.inr ⟨c1, c2⟩))))).tr (q3.mono (fun z hz => by omega))⟩
      have ta : ∀ c, 14 ≤ c → c ≤ 19 → TAc (uI (uI τ c 1 (nI p)) c 2 (ndS S p)) ([], false) 0 := fun c c1 c2 => ⟨Nat.le_refl _, by rw [uI_c (by omega), uI_c (by omega)]; exact tτ.2.1, by rw [uI_c (by omega), uI_c (by omega)]; exact tτ.2.2.1, fun i x h => by cases h⟩
      have en : ∀ c, (uI (uI τ c 1 (nI p)) c 2 (ndS S p)).1 c 1 = nI p := fun c => by rw [uI_i (by decide), uI_same]
      have eaa : ∀ c, (uI (uI τ c 1 (nI p)) c 2 (ndS S p)).1 c 2 = ndS S p := fun c => uI_same
      by_cases k0 : kdN S p = 0
      · rw [if_pos (show nI (kdN S p) = (0 : Int32) by rw [k0]; rfl), sx_eq, gd_pos ip, ea 14 _ (by decide) (by decide), sx_eq]
        exact fin 14 0 _ (by decide) (by decide) k0 (fun τ' hτ' => by rw [hτ']; exact a_act_14 (ta 14 (by decide) (by decide)) (en 14) (eaa 14))
      · rw [if_neg (show ¬ nI (kdN S p) = (0 : Int32) from fun z => k0 ((k_eq (j := 0) k5 (by decide)).mp z))]
        by_cases k1 : kdN S p = 1
        · rw [if_pos (show nI (kdN S p) = (1 : Int32) by rw [k1]; rfl), sx_eq, gd_pos ip, ea 15 _ (by decide) (by decide), sx_eq]
          exact fin 15 1 _ (by decide) (by decide) k1 (fun τ' hτ' => by rw [hτ']; exact a_act_15 (ta 15 (by decide) (by decide)) (en 15) (eaa 15))
        · rw [if_neg (show ¬ nI (kdN S p) = (1 : Int32) from fun z => k1 ((k_eq (j := 1) k5 (by decide)).mp z))]
          by_cases k2 : kdN S p = 2
          · rw [if_pos (show nI (kdN S p) = (2 : Int32) by rw [k2]; rfl), sx_eq, gd_pos ip, ea 16 _ (by decide) (by decide), sx_eq]
            exact fin 16 2 _ (by decide) (by decide) k2 (fun τ' hτ' => by rw [hτ']; exact a_act_16 (ta 16 (by decide) (by decide)) (en 16) (eaa 16))
          · rw [if_neg (show ¬ nI (kdN S p) = (2 : Int32) from fun z => k2 ((k_eq (j := 2) k5 (by decide)).mp z))]
            by_cases k3 : kdN S p = 3
            · rw [if_pos (show nI (kdN S p) = (3 : Int32) by rw [k3]; rfl), sx_eq, gd_pos ip, ea 17 _ (by decide) (by decide), sx_eq]
              exact fin 17 3 _ (by decide) (by decide) k3 (fun τ' hτ' => by rw [hτ']; exact a_act_17 (ta 17 (by decide) (by decide)) (en 17) (eaa 17))
            · rw [if_neg (show ¬ nI (kdN S p) = (3 : Int32) from fun z => k3 ((k_eq (j := 3) k5 (by decide)).mp z))]
              by_cases k4 : kdN S p = 4
              · rw [if_pos (show nI (kdN S p) = (4 : Int32) by rw [k4]; rfl), sx_eq, gd_pos ip, ea 18 _ (by decide) (by decide), sx_eq]
                exact fin 18 4 _ (by decide) (by decide) k4 (fun τ' hτ' => by rw [hτ']; exact a_act_18 (ta 18 (by decide) (by decide)) (en 18) (eaa 18))
              · rw [if_neg (show ¬ nI (kdN S p) = (4 : Int32) from fun z => k4 ((k_eq (j := 4) k5 (by decide)).mp z)), sx_eq, gd_pos ip, ea 19 _ (by decide) (by decide), sx_eq]
                exact fin 19 5 _ (by decide) (by decide) (by omega) (fun τ' hτ' => by rw [hτ']; exact a_act_19 (ta 19 (by decide) (by decide)) (en 19) (eaa 19))
    · rw [if_pos hp, if_neg (show ¬ actOK S H x y from fun w => hy w.2), if_neg (show ¬ actOK S H x y from fun w => hy w.2), ep, if_neg (nI_pos (by omega)), b_isIn, bnd_some, if_neg (fun w => w (bI_0.mpr hy))]
      exact ⟨τ, rfl, ⟨Nat.zero_le _, tτ.2.1, fun i x h => by cases h⟩, fτ⟩
  · rw [if_neg hp, if_pos (by decide), if_neg (show ¬ actOK S H x y from fun w => hp w.1), if_neg (show ¬ actOK S H x y from fun w => hp w.1)]
    exact ⟨τ, rfl, ⟨Nat.zero_le _, tτ.2.1, fun i x h => by cases h⟩, fτ⟩
theorem mq_act {σ : SG} {H : HO} (g : GD (σ.1 149)) (hM : HM σ H) (x y v : Int32) : ∃ σ', f_M_act x y v σ = some (actA (σ.1 149) H x y v, σ') ∧ TRm σ' (actL (σ.1 149) H x y v) ∧ fr (fun c => c = 148 ∨ c = 166) σ σ' ∧ ∀ i, i < 40 ∨ 44 < i → σ'.1 148 i = σ.1 148 i := by
  unfold f_M_act actA actL
  rw [sx_eq, sx_eq]
  generalize hτ : uI (uI σ 148 40 (0 : Int32)) 148 44 (0 : Int32) = τ
  have fτ : fr (fun c => c = 148 ∨ c = 166) σ τ := by
    rw [← hτ]
    exact fr.tr (fr.uI (Or.inl rfl)) (fr.uI (Or.inl rfl))
  have oτ : ∀ i, i < 40 ∨ 44 < i → τ.1 148 i = σ.1 148 i := fun i hi => by rw [← hτ, uI_i (by omega), uI_i (by omega)]
  have s1 : τ.1 149 = σ.1 149 := fτ.1 _ (by decide)
  have M1 : HM τ H := hM.keep (fun c c1 c2 => fτ.1 c (by omega))
  have t40 : τ.1 148 40 = 0 := by rw [← hτ, uI_i (by decide), uI_same]
  have t44 : τ.1 148 44 = 0 := by rw [← hτ, uI_same]
  rw [m_onShelf (by rw [s1]; exact g.1) M1, bnd_some, sx_eq, uI_same, s1]
  by_cases hp : sh4 x ∧ onP (σ.1 149) H (nx x)
  · obtain ⟨p, hp6, hpn, ep⟩ := isP_in g.1 hp.2.2
    have np : nx (nI p) = p := nx_nI (by omega)
    by_cases hy : 0 ≤ y ∧ y ≤ 3
    · have k5 : kdN (σ.1 149) p ≤ 5 := (rgP g hp6).1.1
      have ek : σ.1 149 (22 + 5 * p) = nI (kdN (σ.1 149) p) := (rgP g hp6).1.2
      have eP : actP (σ.1 149) H x y v = acA (kdN (σ.1 149) p) (nI p) (ndS (σ.1 149) p) y v := by
        show acA (kdN (σ.1 149) (nx (H 4 (nx x)))) (H 4 (nx x)) (ndS (σ.1 149) (nx (H 4 (nx x)))) y v = _
        rw [ep, np]
      rw [if_pos hp, if_pos (show actOK (σ.1 149) H x y from ⟨hp, hy⟩), if_pos (show actOK (σ.1 149) H x y from ⟨hp, hy⟩), eP, ep, if_neg (nI_pos (by omega)), m_in32 (a := 0) (b := 3) (by decide) (by decide), bnd_some, if_pos (bI_n0.mpr hy), uI_same, m_its2 hp6, bnd_some, sx_eq, uI_i (show 41 ≠ 42 by decide), uI_same, m_its0 hp6, bnd_some, sx_eq, uIc (c' := 149) (by decide), uIc (c' := 149) (by decide), uIc (c' := 149) (by decide), s1, ek]
      generalize hτ2 : uI (uI (uI τ 148 41 (nI p)) 148 42 (σ.1 149 (22 + 5 * p + 2))) 148 43 (nI (kdN (σ.1 149) p)) = τ2
      have f2 : fr (fun c => c = 148 ∨ c = 166) σ τ2 := by
        rw [← hτ2]
        exact ((fτ.tr (fr.uI (Or.inl rfl))).tr (fr.uI (Or.inl rfl))).tr (fr.uI (Or.inl rfl))
      have o2 : ∀ i, i < 40 ∨ 44 < i → τ2.1 148 i = σ.1 148 i := fun i hi => by rw [← hτ2, uI_i (by omega), uI_i (by omega), uI_i (by omega), oτ i hi]
      have ta : TAm τ2 ([], false) 0 (kdN (σ.1 149) p) (nI p) (ndS (σ.1 149) p) := by
        refine ⟨Nat.le_refl _, ?_, ?_, (fun i x h => by cases h), ?_, ?_, ?_⟩
        · rw [← hτ2, uI_i (by decide), uI_i (by decide), uI_i (by decide), t40]; rfl
        · rw [← hτ2, uI_i (by decide), uI_i (by decide), uI_i (by decide), t44, bI_neg (fun z : (false = true) => by cases z)]
        · rw [← hτ2, uI_i (by decide), uI_i (by decide), uI_same]
        · rw [← hτ2, uI_i (by decide), uI_same]
        · rw [← hτ2, uI_same]
      obtain ⟨σ', q1, q2, q3⟩ := m_act_t (x := v) (t := y) ta k5
      rw [q1]
      exact ⟨σ', rfl, ⟨q2.1, q2.2.1, q2.2.2.2.1⟩, f2.tr q3.1, fun i hi => by rw [q3.2 i (by omega) (by omega), o2 i hi]⟩
    · rw [if_pos hp, if_neg (show ¬ actOK (σ.1 149) H x y from fun w => hy w.2), if_neg (show ¬ actOK (σ.1 149) H x y from fun w => hy w.2), ep, if_neg (nI_pos (by omega)), m_in32 (a := 0) (b := 3) (by decide) (by decide), bnd_some, if_neg (fun w => w (bI_0.mpr hy))]
      exact ⟨_, rfl, ⟨Nat.zero_le _, by rw [uI_i (by decide), t40]; rfl, fun i x h => by cases h⟩, fτ.tr (fr.uI (Or.inl rfl)), fun i hi => by rw [uI_i (by omega), oτ i hi]⟩
  · rw [if_neg hp, if_pos (by decide), if_neg (show ¬ actOK (σ.1 149) H x y from fun w => hp w.1), if_neg (show ¬ actOK (σ.1 149) H x y from fun w => hp w.1)]
    exact ⟨_, rfl, ⟨Nat.zero_le _, by rw [uI_i (by decide), t40]; rfl, fun i x h => by cases h⟩, fτ.tr (fr.uI (Or.inl rfl)), fun i hi => by rw [uI_i (by omega), oτ i hi]⟩
/-! trace -/
def trcA (L : List Nat) (x : Int32) : Int32 := if 0 ≤ x ∧ x ≤ nI L.length - 1 then nI (L.getD (nx x) 0) else -3
theorem tr_ix {m : Nat} (hm : m ≤ 30) {x : Int32} : (0 ≤ x ∧ x ≤ nI m - 1) → ∃ k, k < m ∧ x = nI k := by
  intro ⟨h0, h1⟩
  cases m with
  | zero =>
    rw [i_le] at h0 h1
    have e : (nI 0 - 1 : Int32).toInt = -1 := by decide
    have e0 : (0 : Int32).toInt = 0 := rfl
    rw [e] at h1
    rw [e0] at h0
    omega
  | succ m =>
    rw [nI_pred] at h1
    obtain ⟨k, hk, e⟩ := n_sp (b := m) (by omega) h0 h1
    exact ⟨k, by omega, e⟩
theorem cq_trace {σ : SG} {L : List Nat} (h : TRc σ L) (x : Int32) : f_H_trace x σ = some (trcA L x, σ) := by
  obtain ⟨h1, h2, h3⟩ := h
  unfold f_H_trace trcA
  rw [h2, b_isIn, bnd_some]
  by_cases hx : 0 ≤ x ∧ x ≤ nI L.length - 1
  · obtain ⟨k, hk, rfl⟩ := tr_ix (by omega) hx
    have e : L[k]? = some (L[k]'hk) := List.getElem?_eq_getElem hk
    rw [if_neg (bI_n0.mpr hx), if_pos hx, gd_pos (ix_nI (by omega) (by decide)), nx_nI (by omega), h3 k _ e, List.getD_eq_getElem?_getD, e]
    rfl
  · rw [if_pos (bI_0.mpr hx), if_neg hx]
theorem m_traced {σ : SG} {L : List Nat} (h : TRm σ L) : f_M_traced σ = some (nI L.length, σ) := by
  obtain ⟨h1, h2, h3⟩ := h
  unfold f_M_traced
  rw [h2, if_neg (show ¬ (30 : Int32) ≤ nI L.length from nI_ge (show L.length < 30 by omega) (by decide))]
theorem mq_trace {σ : SG} {L : List Nat} (h : TRm σ L) (x : Int32) : f_M_trace x σ = some (trcA L x, σ) := by
  have h0 := h
  obtain ⟨h1, h2, h3⟩ := h
  unfold f_M_trace trcA
  rw [m_traced h0, bnd_some, m_in32 (a := 0) (b := nI L.length - 1) (by decide) (Int32.toInt_toInt64 _), bnd_some]
  by_cases hx : 0 ≤ x ∧ x ≤ nI L.length - 1
  · obtain ⟨k, hk, rfl⟩ := tr_ix (by omega) hx
    have e : L[k]? = some (L[k]'hk) := List.getElem?_eq_getElem hk
    rw [if_neg (bI_n0.mpr hx), if_pos hx, gd_pos (ix_nI (by omega) (by decide)), nx_nI (by omega), h3 k _ e, List.getD_eq_getElem?_getD, e]
    rfl
  · rw [if_pos (bI_0.mpr hx), if_neg hx]
/-! many -/
def manA (S : Nat → Int32) (R : List RU) (m t : Nat) (L : List Nat) (y : Int32) : Int32 := if y = 0 then S 0 else if y = 1 then nI R.length else if y = 2 then S 4 else if y = 3 then S 3 else if y = 4 then nI m else if y = 5 then nI t else if y = 6 then nI L.length else -1
theorem cq_many {σ : SG} {S : Nat → Int32} {R : List RU} {m t : Nat} {W : Nat → Nat → Int32} {L : List Nat} (hN : TN 20 σ S R) (hW : RWc σ m W) (ht : σ.1 130 1 = nI t) (hL : TRc σ L) (y : Int32) : f_H_many y σ = some (manA S R m t L y, σ) := by
  unfold f_H_many manA
  have e1 : σ.1 21 0 = nI R.length := by
    have := (hN.2.1.1.count).1
    rw [Nat.zero_add] at this
    exact this
  by_cases y0 : y = 0
  · rw [if_pos y0, if_pos y0, hN.1.1]
  · rw [if_neg y0, if_neg y0]
    by_cases y1 : y = 1
    · rw [if_pos y1, if_pos y1, e1]
    · rw [if_neg y1, if_neg y1]
      by_cases y2 : y = 2
      · rw [if_pos y2, if_pos y2, hN.2.2.1.2.2.1]
      · rw [if_neg y2, if_neg y2]
        by_cases y3 : y = 3
        · rw [if_pos y3, if_pos y3, hN.2.2.2.2.1]
        · rw [if_neg y3, if_neg y3]
          by_cases y4 : y = 4
          · rw [if_pos y4, if_pos y4, hW.1]
          · rw [if_neg y4, if_neg y4]
            by_cases y5 : y = 5
            · rw [if_pos y5, if_pos y5, ht]
            · rw [if_neg y5, if_neg y5]
              by_cases y6 : y = 6
              · rw [if_pos y6, if_pos y6, hL.2.1]
              · rw [if_neg y6, if_neg y6]
theorem mq_many {σ : SG} {R : List RU} {m t : Nat} {W : Nat → Nat → Int32} {L : List Nat} (hR : RMt (σ.1 149) R) (hW : RWm σ m W) (ht : σ.1 148 26 = nI t) (hL : TRm σ L) (y : Int32) : f_M_many y σ = some (manA (σ.1 149) R m t L y, σ) := by
  unfold f_M_many manA
  have e1 : σ.1 149 1 = nI R.length := by
    have := (hR.1.count).1
    rw [Nat.zero_add] at this
    exact this
  by_cases y0 : y = 0
  · rw [if_pos y0, if_pos y0]
  · rw [if_neg y0, if_neg y0]
    by_cases y1 : y = 1
    · rw [if_pos y1, if_pos y1, e1]
    · rw [if_neg y1, if_neg y1]
      by_cases y2 : y = 2
      · rw [if_pos y2, if_pos y2]
      · rw [if_neg y2, if_neg y2]
        by_cases y3 : y = 3
        · rw [if_pos y3, if_pos y3]
        · rw [if_neg y3, if_neg y3]
          by_cases y4 : y = 4
          · rw [if_pos y4, if_pos y4, hW.1]
          · rw [if_neg y4, if_neg y4]
            by_cases y5 : y = 5
            · rw [if_pos y5, if_pos y5, ht]
            · rw [if_neg y5, if_neg y5]
              by_cases y6 : y = 6
              · rw [if_pos y6, if_pos y6, m_traced hL, bnd_some]
              · rw [if_neg y6, if_neg y6]
