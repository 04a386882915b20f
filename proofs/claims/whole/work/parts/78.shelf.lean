/-! SHELVES: shelf, taken, act, trace, both sides -/
def shlR (H : HO) (s : Nat) (a b c : Int32) : HO := fun k => if k = 3 then us (H 3) s a else if k = 4 then us (H 4) s b else if k = 5 then us (H 5) s c else H k
abbrev isP (S : Nat → Int32) (z : Int32) : Prop := 0 ≤ z ∧ z < S 0
def shlA (S : Nat → Int32) (x y z : Int32) : Int32 := if sh4 x then (if y = 0 then (if isP S z then 1 else -1) else if y = 1 then (if sh4 z then 1 else -1) else if y = 2 then 1 else -1) else -1
def shlN (S : Nat → Int32) (H : HO) (x y z : Int32) : HO := if sh4 x then (if y = 0 then (if isP S z then shlR H (nx x) 1 z 0 else H) else if y = 1 then (if sh4 z then shlR H (nx x) (if H 0 (nx z) = -1 then 0 else 2) (H 1 (nx z)) (H 0 (nx z)) else H) else if y = 2 then shlR H (nx x) 0 0 0 else H) else H
theorem b_hold {σ : SG} {H : HO} {s : Nat} (h : HC σ H) (hs : s < 4) (w d z b c : Int32) (hk : w = 0 ∨ (w = 1 ∧ d = b) ∨ (w = 2 ∧ d = c ∧ z = b ∧ 0 ≤ c)) : ∃ σ', f_Ho_hold (nI s) w d z σ = some (1, σ') ∧ HC σ' (shlR H s w b c) ∧ fr (fun c => 9 ≤ c ∧ c ≤ 11) σ σ' := by
  unfold f_Ho_hold
  rw [nx_nI (k := s) (by omega), gd_pos (ix_nI hs (by decide)), sx_eq, gd_pos (ix_nI hs (by decide)), sx_eq, gd_pos (ix_nI hs (by decide)), sx_eq]
  refine ⟨_, rfl, fun s' hs' => ?_, (fr.tr (fr.uI (by omega)) (fr.uI (by omega))).tr (fr.uI (by omega))⟩
  obtain ⟨a1, a2, a3, a4, a5, a6, a7⟩ := h s' hs'
  refine ⟨by rw [uI_c (by decide), uI_c (by decide), uI_c (by decide)]; exact a1, a2, by rw [uI_c (by decide), uI_c (by decide), uI_c (by decide)]; exact a3, a4, fun i hi => by rw [uI_c (by omega), uI_c (by omega), uI_c (by omega)]; exact a5 i hi, ?_, ?_⟩
  · show _ = us (H 3) s w s'
    rw [uI_c (by decide), uI_c (by decide)]
    by_cases e : s' = s
    · rw [e, uI_same, us_same]
    · rw [uI_i e, us_ne e]
      exact a6
  · show us (H 3) s w s' = 0 ∨ (us (H 3) s w s' = 1 ∧ _ = us (H 4) s b s') ∨ (us (H 3) s w s' = 2 ∧ _ = us (H 5) s c s' ∧ _ = us (H 4) s b s' ∧ 0 ≤ us (H 5) s c s')
    by_cases e : s' = s
    · rw [e, us_same, us_same, us_same, uI_c (c' := 10) (by decide), uI_same, uI_same]
      exact hk
    · rw [us_ne e, us_ne e, us_ne e, uI_c (c' := 10) (by decide), uI_i e, uI_c (c' := 10) (by decide), uI_i e, uI_c (c' := 11) (by decide), uI_c (c' := 11) (by decide)]
      exact a7
theorem cq_shelf {σ : SG} {S : Nat → Int32} {H : HO} (hT : TWR 20 σ S nob) (h : HC σ H) (x y z : Int32) : ∃ σ', f_H_shelf x y z σ = some (shlA S x y z, σ') ∧ HC σ' (shlN S H x y z) ∧ fr (fun c => 9 ≤ c ∧ c ≤ 11) σ σ' := by
  unfold f_H_shelf shlA shlN
  rw [b_isSheet, bnd_some]
  by_cases hx : sh4 x
  · obtain ⟨s, hs, rfl⟩ := sh_in hx
    rw [if_pos (bI_n0.mpr hx), if_pos hx, if_pos hx, nx_nI (k := s) (by omega)]
    by_cases y0 : y = 0
    · rw [if_pos y0, if_pos y0, if_pos y0, b_isPerson, hT.1, bnd_some]
      by_cases hz : isP S z
      · obtain ⟨σ', q1, q2, q3⟩ := b_hold h hs 1 z 0 z 0 (Or.inr (Or.inl ⟨rfl, rfl⟩))
        rw [if_neg (bI_n0.mpr hz), if_pos hz, if_pos hz, q1, bnd_some]
        exact ⟨σ', rfl, q2, q3⟩
      · rw [if_pos (bI_0.mpr hz), if_neg hz, if_neg hz]
        exact ⟨σ, rfl, h, fr.rf⟩
    · rw [if_neg y0, if_neg y0, if_neg y0]
      by_cases y1 : y = 1
      · rw [if_pos y1, if_pos y1, if_pos y1, b_isSheet, bnd_some]
        by_cases hz : sh4 z
        · obtain ⟨s2, hs2, rfl⟩ := sh_in hz
          obtain ⟨a1, a2, a3, a4, -⟩ := h s2 hs2
          rw [if_neg (bI_n0.mpr hz), if_pos hz, if_pos hz, nx_nI (k := s2) (by omega)]
          unfold f_Ho_holdRow
          rw [nx_nI (k := s2) (by omega), gd_pos (ix_nI hs2 (by decide)), gd_pos (ix_nI hs2 (by decide)), gd_pos (ix_nI hs2 (by decide)), gd_pos (ix_nI hs2 (by decide)), gd_pos (ix_nI hs2 (by decide)), a1, a3]
          by_cases hm : H 0 s2 = -1
          · obtain ⟨σ', q1, q2, q3⟩ := b_hold h hs 0 (H 0 s2) (H 1 s2) (H 1 s2) (H 0 s2) (Or.inl rfl)
            rw [if_neg (fun w => w hm), if_pos hm, q1, bnd_some, bnd_some]
            exact ⟨σ', rfl, q2, q3⟩
          · obtain ⟨σ', q1, q2, q3⟩ := b_hold h hs 2 (H 0 s2) (H 1 s2) (H 1 s2) (H 0 s2) (Or.inr (Or.inr ⟨rfl, rfl, rfl, (srt_0 a2).mpr hm⟩))
            rw [if_pos hm, if_neg hm, q1, bnd_some, bnd_some]
            exact ⟨σ', rfl, q2, q3⟩
        · rw [if_pos (bI_0.mpr hz), if_neg hz, if_neg hz]
          exact ⟨σ, rfl, h, fr.rf⟩
      · rw [if_neg y1, if_neg y1, if_neg y1]
        by_cases y2 : y = 2
        · obtain ⟨σ', q1, q2, q3⟩ := b_hold h hs 0 0 0 0 0 (Or.inl rfl)
          rw [if_pos y2, if_pos y2, if_pos y2, q1, bnd_some]
          exact ⟨σ', rfl, q2, q3⟩
        · rw [if_neg y2, if_neg y2, if_neg y2]
          exact ⟨σ, rfl, h, fr.rf⟩
  · rw [if_neg (fun w => w (bI_0.mpr hx)), if_neg hx, if_neg hx]
    exact ⟨σ, rfl, h, fr.rf⟩
theorem HM.shl {σ σ' : SG} {H : HO} {s : Nat} {a b c : Int32} (h : HM σ H) (e3 : σ'.1 163 = us (H 3) s a) (e4 : σ'.1 164 = us (H 4) s b) (e5 : σ'.1 165 = us (H 5) s c) (e : ∀ k, k < 3 → σ'.1 (160 + k) = σ.1 (160 + k)) : HM σ' (shlR H s a b c) := by
  intro k hk
  unfold shlR
  by_cases k3 : k = 3
  · rw [if_pos k3, k3]; exact e3
  · rw [if_neg k3]
    by_cases k4 : k = 4
    · rw [if_pos k4, k4]; exact e4
    · rw [if_neg k4]
      by_cases k5 : k = 5
      · rw [if_pos k5, k5]; exact e5
      · rw [if_neg k5, e k (by omega)]
        exact h k hk
theorem uIus {σ : SG} {c s : Nat} {v : Int32} {F : Nat → Int32} (h : σ.1 c = F) : (uI σ c s v).1 c = us F s v := by
  funext i
  rw [uI_at, h]
  by_cases e : i = s
  · rw [if_pos ⟨rfl, e⟩, e, us_same]
  · rw [if_neg (fun w => e w.2), us_ne e]
theorem m_hold3 {σ : SG} {H : HO} {s : Nat} (h : HM σ H) (a b c : Int32) : HM (uI (uI (uI σ 163 s a) 164 s b) 165 s c) (shlR H s a b c) ∧ fr (fun c => 163 ≤ c ∧ c ≤ 165) σ (uI (uI (uI σ 163 s a) 164 s b) 165 s c) := by
  refine ⟨h.shl ?_ ?_ ?_ (fun k hk => by rw [uIc (by omega), uIc (by omega), uIc (by omega)]), (fr.tr (fr.uI (by omega)) (fr.uI (by omega))).tr (fr.uI (by omega))⟩
  · rw [uIc (by decide), uIc (by decide)]
    exact uIus (h 3 (by decide))
  · rw [uIc (by decide)]
    exact uIus (by rw [uIc (by decide)]; exact h 4 (by decide))
  · exact uIus (by rw [uIc (by decide), uIc (by decide)]; exact h 5 (by decide))
theorem m_shelf_45 {σ : SG} {S : Nat → Int32} {H : HO} {s : Nat} (h : HM σ H) (hs : s < 4) (ho : HOk H) (y z : Int32) (hy : y = 0 ∨ (y = 1 ∧ sh4 z) ∨ (¬ y = 0 ∧ ¬ y = 1)) : ∃ σ', f_M_shelf_45 (nI s) y z σ = some (1, σ') ∧ HM σ' (if y = 0 then shlR H s 1 z 0 else if y = 1 then shlR H s (if H 0 (nx z) = -1 then 0 else 2) (H 1 (nx z)) (H 0 (nx z)) else shlR H s 0 0 0) ∧ fr (fun c => 163 ≤ c ∧ c ≤ 165) σ σ' := by
  have i4 := ix_nI hs (show (4 : Nat) < 2147483648 by decide)
  have ns : nx (nI s) = s := nx_nI (by omega)
  unfold f_M_shelf_45
  rcases hy with y0 | ⟨y1, hz⟩ | ⟨y0, y1⟩
  · have y1 : ¬ y = 1 := by rw [y0]; decide
    rw [if_neg (fun w => w y0), if_pos y0]
    unfold f_M_shelf_77
    rw [ns, gd_pos i4, sx_eq, if_neg (fun w => w y0)]
    unfold f_M_shelf_106
    rw [ns, gd_pos i4, sx_eq, if_pos y1, gd_pos i4, sx_eq]
    obtain ⟨w1, w2⟩ := m_hold3 (s := s) h 1 z 0
    exact ⟨_, rfl, w1, w2⟩
  · have y0 : ¬ y = 0 := by rw [y1]; decide
    obtain ⟨s2, hs2, rfl⟩ := sh_in hz
    have j4 := ix_nI hs2 (show (4 : Nat) < 2147483648 by decide)
    have ns2 : nx (nI s2) = s2 := nx_nI (by omega)
    have e0 : σ.1 160 = H 0 := h 0 (by decide)
    have e1 : σ.1 161 = H 1 := h 1 (by decide)
    have hneg : H 0 s2 < 0 ↔ H 0 s2 = -1 := by
      have := srt_0 (ho s2 hs2).1
      constructor
      · intro w
        by_cases q : H 0 s2 = -1
        · exact q
        · exact absurd (this.mpr q) (Int32.not_le.mpr w)
      · intro w
        rw [w]
        decide
    rw [if_pos y0, if_neg (fun w => w y1), if_neg y0, if_pos y1, ns2, gd_pos j4, e0]
    have go : ∀ (v : Int32), ∃ σ', f_M_shelf_77 (nI s) y (nI s2) v (nI s) σ = some (1, σ') ∧ HM σ' (shlR H s v (H 1 s2) (H 0 s2)) ∧ fr (fun c => 163 ≤ c ∧ c ≤ 165) σ σ' := fun v => by
      unfold f_M_shelf_77
      rw [ns, gd_pos i4, sx_eq, if_pos y0, if_neg (fun w => w y1), ns2, gd_pos j4, uI_c (by decide), e1]
      unfold f_M_shelf_106
      rw [ns, gd_pos i4, sx_eq, if_neg (fun w => w y1), ns2, gd_pos j4, gd_pos i4, sx_eq, uI_c (by decide), uI_c (by decide), e0]
      obtain ⟨w1, w2⟩ := m_hold3 (s := s) h v (H 1 s2) (H 0 s2)
      exact ⟨_, rfl, w1, w2⟩
    by_cases hm : H 0 s2 = -1
    · rw [if_pos (hneg.mpr hm), if_pos hm]
      exact go 0
    · rw [if_neg (fun w => hm (hneg.mp w)), if_neg hm]
      exact go 2
  · rw [if_pos y0, if_pos y1, if_neg y0, if_neg y1]
    unfold f_M_shelf_77
    rw [ns, gd_pos i4, sx_eq, if_pos y0, if_pos y1]
    unfold f_M_shelf_106
    rw [ns, gd_pos i4, sx_eq, if_pos y1, gd_pos i4, sx_eq]
    obtain ⟨w1, w2⟩ := m_hold3 (s := s) h 0 0 0
    exact ⟨_, rfl, w1, w2⟩
theorem mq_shelf {σ : SG} {H : HO} (hg : rg (σ.1 149 0) 6) (h : HM σ H) (ho : HOk H) (x y z : Int32) : ∃ σ', f_M_shelf x y z σ = some (shlA (σ.1 149) x y z, σ') ∧ HM σ' (shlN (σ.1 149) H x y z) ∧ fr (fun c => 163 ≤ c ∧ c ≤ 165) σ σ' := by
  unfold f_M_shelf shlA shlN
  rw [m_isOne, bnd_some]
  by_cases hx : sh4 x
  · obtain ⟨s, hs, rfl⟩ := sh_in hx
    rw [if_neg (bI_n0.mpr hx), if_pos hx, if_pos hx, m_in32 (a := 0) (b := 2) (by decide) (by decide), bnd_some, nx_nI (k := s) (by omega)]
    by_cases hy : 0 ≤ y ∧ y ≤ 2
    · rw [if_neg (bI_n0.mpr hy)]
      by_cases y0 : y = 0
      · have y1 : ¬ y = 1 := by rw [y0]; decide
        rw [if_neg (fun w => w y0), if_pos y0, if_pos y0, m_isPerson hg, bnd_some]
        by_cases hz : isP (σ.1 149) z
        · obtain ⟨σ', q1, q2, q3⟩ := m_shelf_45 (S := σ.1 149) h hs ho y z (Or.inl y0)
          rw [if_pos y0] at q2
          rw [if_neg (bI_n0.mpr hz), if_pos hz, if_pos hz, if_pos y1, q1]
          exact ⟨σ', rfl, q2, q3⟩
        · rw [if_pos (bI_0.mpr hz), if_neg hz, if_neg hz]
          exact ⟨σ, rfl, h, fr.rf⟩
      · rw [if_pos y0, if_neg y0, if_neg y0]
        by_cases y1 : y = 1
        · rw [if_neg (fun w => w y1), if_pos y1, if_pos y1, m_isOne, bnd_some]
          by_cases hz : sh4 z
          · obtain ⟨σ', q1, q2, q3⟩ := m_shelf_45 (S := σ.1 149) h hs ho y z (Or.inr (Or.inl ⟨y1, hz⟩))
            rw [if_neg y0, if_pos y1] at q2
            rw [if_pos (bI_n0.mpr hz), if_pos hz, if_pos hz, q1]
            exact ⟨σ', rfl, q2, q3⟩
          · rw [if_neg (fun w => w (bI_0.mpr hz)), if_neg hz, if_neg hz]
            exact ⟨σ, rfl, h, fr.rf⟩
        · have y2 : y = 2 := by
            obtain ⟨k, hk, e⟩ := n_sp (b := 2) (by decide) hy.1 hy.2
            match k, hk with
            | 0, _ => exact absurd e y0
            | 1, _ => exact absurd e y1
            | 2, _ => exact e
          obtain ⟨σ', q1, q2, q3⟩ := m_shelf_45 (S := σ.1 149) h hs ho y z (Or.inr (Or.inr ⟨y0, y1⟩))
          rw [if_neg y0, if_neg y1] at q2
          rw [if_pos y1, if_neg y1, if_neg y1, if_pos y2, if_pos y2, q1]
          exact ⟨σ', rfl, q2, q3⟩
    · have y0 : ¬ y = 0 := fun w => hy (by rw [w]; decide)
      have y1 : ¬ y = 1 := fun w => hy (by rw [w]; decide)
      have y2 : ¬ y = 2 := fun w => hy (by rw [w]; decide)
      rw [if_pos (bI_0.mpr hy), if_neg y0, if_neg y0, if_neg y1, if_neg y1, if_neg y2, if_neg y2]
      exact ⟨σ, rfl, h, fr.rf⟩
  · rw [if_pos (bI_0.mpr hx), if_neg hx, if_neg hx]
    exact ⟨σ, rfl, h, fr.rf⟩
/-! taken -/
abbrev onP (S : Nat → Int32) (H : HO) (s : Nat) : Prop := H 3 s = 1 ∧ isP S (H 4 s)
theorem isP_in {S : Nat → Int32} {z : Int32} (g : rg (S 0) 6) (h : isP S z) : ∃ p, p < 6 ∧ p < ppN S ∧ z = nI p := by
  obtain ⟨p, hp, rfl⟩ := n_of0 h.1
  have h2 := h.2
  have h6 := g.1
  rw [g.2] at h2
  have := (n_lt hp (by omega)).mp h2
  exact ⟨p, by omega, this, rfl⟩
theorem b_personOn {σ : SG} {S : Nat → Int32} {H : HO} (hT : TWR 20 σ S nob) (h : HC σ H) (x : Int32) : f_H_personOn x σ = some (if sh4 x ∧ onP S H (nx x) then H 4 (nx x) else -3, σ) := by
  unfold f_H_personOn
  rw [b_isSheet, bnd_some]
  by_cases hx : sh4 x
  · obtain ⟨s, hs, rfl⟩ := sh_in hx
    obtain ⟨-, -, -, -, -, a6, a7⟩ := h s hs
    rw [if_neg (bI_n0.mpr hx), nx_nI (k := s) (by omega), gd_pos (ix_nI hs (by decide)), a6]
    by_cases h1 : H 3 s = 1
    · have e10 : σ.1 10 s = H 4 s := by
        rcases a7 with w | w | w
        · rw [h1] at w; exact absurd w (by decide)
        · exact w.2
        · rw [h1] at w; exact absurd w.1 (by decide)
      rw [if_neg (fun w => w h1), gd_pos (ix_nI hs (by decide)), e10, b_isPerson, hT.1, bnd_some]
      by_cases hp : isP S (H 4 s)
      · rw [if_pos (bI_n0.mpr hp), gd_pos (ix_nI hs (by decide)), if_pos ⟨hx, h1, hp⟩, e10]
      · rw [if_neg (fun w => w (bI_0.mpr hp)), if_neg (fun w => hp w.2.2)]
    · rw [if_pos h1, if_neg (fun w => h1 w.2.1)]
  · rw [if_pos (bI_0.mpr hx), if_neg (fun w => hx w.1)]
theorem m_onShelf {σ : SG} {H : HO} (hg : rg (σ.1 149 0) 6) (h : HM σ H) (x : Int32) : f_M_onShelf x σ = some (if sh4 x ∧ onP (σ.1 149) H (nx x) then H 4 (nx x) else -1, σ) := by
  unfold f_M_onShelf
  rw [m_isOne, bnd_some]
  by_cases hx : sh4 x
  · obtain ⟨s, hs, rfl⟩ := sh_in hx
    rw [if_neg (bI_n0.mpr hx), nx_nI (k := s) (by omega), gd_pos (ix_nI hs (by decide)), show σ.1 163 = H 3 from h 3 (by decide), show σ.1 164 = H 4 from h 4 (by decide)]
    by_cases h1 : H 3 s = 1
    · rw [if_neg (fun w => w h1), gd_pos (ix_nI hs (by decide)), m_isPerson hg, bnd_some]
      by_cases hp : isP (σ.1 149) (H 4 s)
      · rw [if_neg (bI_n0.mpr hp), gd_pos (ix_nI hs (by decide)), if_pos ⟨hx, h1, hp⟩, show σ.1 164 = H 4 from h 4 (by decide)]
      · rw [if_pos (bI_0.mpr hp), if_neg (fun w => hp w.2.2)]
    · rw [if_pos h1, if_neg (fun w => h1 w.2.1)]
  · rw [if_pos (bI_0.mpr hx), if_neg (fun w => hx w.1)]
def takA (S : Nat → Int32) (H : HO) (x y : Int32) : Int32 := if sh4 x then (if (10 ≤ y ∧ y ≤ 14) ∨ (0 ≤ y ∧ y ≤ 5) then (if H 3 (nx x) = 2 then (if y - 10 = H 5 (nx x) then H 4 (nx x) else -13) else if onP S H (nx x) then (if (0 ≤ y ∧ y ≤ 5) ∧ und (S (22 + 5 * nx (H 4 (nx x)))) y then H 4 (nx x) else -13) else -11) else -1) else -1
theorem y_10 {y z : Int32} (hy : 0 ≤ y ∧ y ≤ 5) (hz : 0 ≤ z) : ¬ y - 10 = z := fun e => by
  obtain ⟨k, hk, rfl⟩ := n_sp (b := 5) (by decide) hy.1 hy.2
  rw [← e] at hz
  match k, hk with
  | 0, _ => exact absurd hz (by decide)
  | 1, _ => exact absurd hz (by decide)
  | 2, _ => exact absurd hz (by decide)
  | 3, _ => exact absurd hz (by decide)
  | 4, _ => exact absurd hz (by decide)
  | 5, _ => exact absurd hz (by decide)
theorem y_no {y : Int32} (h : 10 ≤ y ∧ y ≤ 14) : ¬ (0 ≤ y ∧ y ≤ 5) := fun z => by
  have a := h.1
  have b := z.2
  rw [i_le] at a b
  have e1 : (10 : Int32).toInt = 10 := rfl
  have e2 : (5 : Int32).toInt = 5 := rfl
  omega
theorem c_tak {σ : SG} {S : Nat → Int32} {H : HO} {s : Nat} (hg : GD S) (hT : TWR 20 σ S nob) (h : HC σ H) (hs : s < 4) {y : Int32} (b : Bool) (hb : b = true ↔ (10 ≤ y ∧ y ≤ 14)) (hy : (10 ≤ y ∧ y ≤ 14) ∨ (0 ≤ y ∧ y ≤ 5)) : f_H_taken_31 (nI s) y (nI b.toNat) σ = some ((if H 3 s = 2 then (if y - 10 = H 5 s then H 4 s else -13) else if onP S H s then (if (0 ≤ y ∧ y ≤ 5) ∧ und (S (22 + 5 * nx (H 4 s))) y then H 4 s else -13) else -11), σ) := by
  have hx : sh4 (nI s) := ⟨nI_pos' (by omega), (n_le (b := 3) (by omega) (by decide)).mpr (by omega)⟩
  obtain ⟨-, -, -, -, -, a6, a7⟩ := h s hs
  unfold f_H_taken_31
  rw [nx_nI (k := s) (by omega), gd_pos (ix_nI hs (by decide)), a6]
  by_cases h2 : H 3 s = 2
  · obtain ⟨e10, e11, e0⟩ : σ.1 10 s = H 5 s ∧ σ.1 11 s = H 4 s ∧ 0 ≤ H 5 s := by
      rcases a7 with w | w | w
      · rw [h2] at w; exact absurd w (by decide)
      · rw [h2] at w; exact absurd w.1 (by decide)
      · exact w.2
    rw [if_neg (fun w => w h2), if_pos h2]
    cases b with
    | true =>
      rw [if_neg (show ¬ nI (true).toNat = 0 by decide), gd_pos (ix_nI hs (by decide)), e10]
      by_cases e : y - 10 = H 5 s
      · rw [if_neg (fun w => w e.symm), gd_pos (ix_nI hs (by decide)), if_pos e, e11]
      · rw [if_pos (fun w => e w.symm), if_neg e]
    | false =>
      rw [if_pos (show nI (false).toNat = 0 by decide), if_neg (y_10 (by
        rcases hy with w | w
        · exact absurd (hb.mpr w) (by decide)
        · exact w) e0)]
  · rw [if_pos h2, if_neg h2, b_personOn hT h, bnd_some, nx_nI (k := s) (by omega)]
    by_cases hp : onP S H s
    · obtain ⟨p, hp6, hpn, ep⟩ := isP_in hg.1 hp.2
      rw [if_pos (show sh4 (nI s) ∧ onP S H s from ⟨hx, hp⟩), if_pos hp, ep, if_pos (nI_pos' (by omega)), nx_nI (k := p) (by omega)]
      cases b with
      | true =>
        rw [if_pos (show ¬ nI (true).toNat = 0 by decide), if_neg (fun w => y_no (hb.mp rfl) w.1)]
      | false =>
        have hy5 : 0 ≤ y ∧ y ≤ 5 := by
          rcases hy with w | w
          · exact absurd (hb.mpr w) (by decide)
          · exact w
        have ek : σ.1 28 p = nI (kdN S p) := ((hT.2.2.2.2.1 p hp6).1).trans (rgP hg hp6).1.2
        have ekS : S (22 + 5 * p) = nI (kdN S p) := (rgP hg hp6).1.2
        rw [if_neg (show ¬ ¬ nI (false).toNat = 0 by decide), gd_pos (ix_nI hp6 (by decide)), ek, b_isUnder (rgP hg hp6).1.1, bnd_some]
        by_cases hu : und (nI (kdN S p)) y
        · rw [if_neg (bI_n0.mpr hu), if_pos ⟨hy5, by rw [ekS]; exact hu⟩]
        · rw [if_pos (bI_0.mpr hu), if_neg (fun w => hu (by rw [← ekS]; exact w.2))]
    · rw [if_neg (show ¬ (sh4 (nI s) ∧ onP S H s) from fun w => hp w.2), if_neg hp, if_neg (show ¬ (0 : Int32) ≤ -3 by decide)]
theorem cq_taken {σ : SG} {S : Nat → Int32} {H : HO} (hg : GD S) (hT : TWR 20 σ S nob) (h : HC σ H) (x y : Int32) : f_H_taken x y σ = some (takA S H x y, σ) := by
  unfold f_H_taken takA
  rw [b_isIn, bnd_some, b_isSheet, bnd_some]
  by_cases hx : sh4 x
  · obtain ⟨s, hs, rfl⟩ := sh_in hx
    rw [if_neg (bI_n0.mpr hx), if_pos hx, nx_nI (k := s) (by omega)]
    by_cases h10 : 10 ≤ y ∧ y ≤ 14
    · rw [if_pos (bI_n0.mpr h10), if_pos (Or.inl h10), bI_pos h10]
      exact c_tak hg hT h hs true ⟨fun _ => h10, fun _ => rfl⟩ (Or.inl h10)
    · rw [if_neg (fun w => w (bI_0.mpr h10)), b_isIn, bnd_some]
      by_cases h5 : 0 ≤ y ∧ y ≤ 5
      · rw [if_pos (bI_n0.mpr h5), if_pos (Or.inr h5), bI_neg h10]
        exact c_tak hg hT h hs false ⟨fun w => absurd w (by decide), fun w => absurd w h10⟩ (Or.inr h5)
      · rw [if_neg (fun w => w (bI_0.mpr h5)), if_neg (fun w => by rcases w with w | w; exact h10 w; exact h5 w)]
  · rw [if_pos (bI_0.mpr hx), if_neg hx]
/-- what lies on a SHELF is told as it is -/
def HSh (H : HO) : Prop := ∀ s, s < 4 → H 3 s = 0 ∨ H 3 s = 1 ∨ (H 3 s = 2 ∧ 0 ≤ H 5 s)
theorem HC.sh {σ : SG} {H : HO} (h : HC σ H) : HSh H := fun s hs => by
  rcases (h s hs).2.2.2.2.2.2 with w | w | w
  · exact Or.inl w
  · exact Or.inr (Or.inl w.1)
  · exact Or.inr (Or.inr ⟨w.1, w.2.2.2⟩)
theorem mq_taken {σ : SG} {H : HO} (hg : GD (σ.1 149)) (h : HM σ H) (hsh : HSh H) (x y : Int32) : f_M_taken x y σ = some (takA (σ.1 149) H x y, σ) := by
  unfold f_M_taken takA
  rw [m_isOne, bnd_some]
  by_cases hx : sh4 x
  · obtain ⟨s, hs, rfl⟩ := sh_in hx
    rw [if_neg (bI_n0.mpr hx), if_pos hx, nx_nI (k := s) (by omega), m_in32 (a := 0) (b := 5) (by decide) (by decide), bnd_some]
    have e3 : σ.1 163 = H 3 := h 3 (by decide)
    have e4 : σ.1 164 = H 4 := h 4 (by decide)
    have e5 : σ.1 165 = H 5 := h 5 (by decide)
    have h20 : (2 : Int32) ≤ H 3 s ↔ H 3 s = 2 := by
      rcases hsh s hs with w | w | w
      · rw [w]; decide
      · rw [w]; decide
      · rw [w.1]; decide
    have body : (10 ≤ y ∧ y ≤ 14) ∨ (0 ≤ y ∧ y ≤ 5) → bnd (f_M_onShelf (nI s) σ) (fun r6 σ5 => if 0 ≤ r6 then f_M_taken_58 (nI s) y r6 σ5 else gd (ix (nI s) 4) (if (2 : Int32) ≤ (σ5.1 163 s) then f_M_taken_58 (nI s) y r6 σ5 else some ((-11 : Int32), σ5))) = some ((if H 3 s = 2 then (if y - 10 = H 5 s then H 4 s else -13) else if onP (σ.1 149) H s then (if (0 ≤ y ∧ y ≤ 5) ∧ und ((σ.1 149) (22 + 5 * nx (H 4 s))) y then H 4 s else -13) else -11), σ) := fun hy => by
      rw [m_onShelf hg.1 h, bnd_some, nx_nI (k := s) (by omega)]
      by_cases hp : onP (σ.1 149) H s
      · have h2 : ¬ H 3 s = 2 := by rw [hp.1]; decide
        obtain ⟨p, hp6, hpn, ep⟩ := isP_in hg.1 hp.2
        rw [if_pos (show sh4 (nI s) ∧ onP (σ.1 149) H s from ⟨hx, hp⟩), if_neg h2, if_pos hp, ep, if_pos (nI_pos' (by omega)), nx_nI (k := p) (by omega)]
        unfold f_M_taken_58
        rw [if_neg (nI_pos (by omega))]
        by_cases h5 : 0 ≤ y ∧ y ≤ 5
        · have n6 : ¬ (6 : Int32) ≤ y := fun w => by
            have b := h5.2
            rw [i_le] at w b
            have c1 : (6 : Int32).toInt = 6 := rfl
            have c2 : (5 : Int32).toInt = 5 := rfl
            omega
          rw [if_neg n6, m_its0 hp6, bnd_some, m_isUnder, bnd_some]
          by_cases hu : und (σ.1 149 (22 + 5 * p)) y
          · rw [if_neg (bI_n0.mpr hu), if_neg (by decide), gd_pos (ix_nI hs (by decide)), nx_nI (by omega), e4, ep, if_pos ⟨h5, hu⟩]
          · rw [if_pos (bI_0.mpr hu), if_pos rfl, if_neg (fun w => hu w.2)]
        · have h10 : 10 ≤ y ∧ y ≤ 14 := by
            rcases hy with w | w
            · exact w
            · exact absurd w h5
          have p6 : (6 : Int32) ≤ y := by
            have b := h10.1
            rw [i_le] at b ⊢
            have c1 : (6 : Int32).toInt = 6 := rfl
            have c2 : (10 : Int32).toInt = 10 := rfl
            omega
          rw [if_pos p6, if_pos rfl, if_neg (fun w => h5 w.1)]
      · rw [if_neg (show ¬ (sh4 (nI s) ∧ onP (σ.1 149) H s) from fun w => hp w.2), if_neg (show ¬ (0 : Int32) ≤ -1 by decide), gd_pos (ix_nI hs (by decide)), e3]
        by_cases h2 : H 3 s = 2
        · rw [if_pos (h20.mpr h2), if_pos h2]
          unfold f_M_taken_58
          rw [if_pos (show (-1 : Int32) < 0 by decide), gd_pos (ix_nI hs (by decide)), nx_nI (by omega), e5]
          by_cases e : y - 10 = H 5 s
          · rw [if_neg (fun w => w e), if_neg (by decide), gd_pos (ix_nI hs (by decide)), if_pos e, e4]
          · rw [if_pos e, if_pos rfl, if_neg e]
        · rw [if_neg (fun w => h2 (h20.mp w)), if_neg h2, if_neg hp]
    by_cases h5 : 0 ≤ y ∧ y ≤ 5
    · rw [if_pos (bI_n0.mpr h5), if_pos (Or.inr h5)]
      exact body (Or.inr h5)
    · rw [if_neg (fun w => w (bI_0.mpr h5)), m_in32 (a := 10) (b := 14) (by decide) (by decide), bnd_some]
      by_cases h10 : 10 ≤ y ∧ y ≤ 14
      · rw [if_pos (bI_n0.mpr h10), if_pos (Or.inl h10)]
        exact body (Or.inl h10)
      · rw [if_neg (fun w => w (bI_0.mpr h10)), if_neg (fun w => by rcases w with w | w; exact h10 w; exact h5 w)]
  · rw [if_pos (bI_0.mpr hx), if_neg hx]
