/-! SHEETS: what both sides hold of the host; sheet, write, item -/
/-- H: 0 sorts, 1 sizes, 2 items, 3 what SHELVES hold, 4 a number or a size, 5 a row's sort -/
abbrev HO : Type := Nat → Nat → Int32
def HCs (σ : SG) (H : HO) (s : Nat) : Prop := σ.1 2 s = H 0 s ∧ (H 0 s = -1 ∨ 0 ≤ H 0 s) ∧ σ.1 3 s = H 1 s ∧ rg (H 1 s) 40 ∧ (∀ i, i < 40 → σ.1 (4 + 1 + s) i = H 2 (40 * s + i)) ∧ σ.1 9 s = H 3 s ∧ (H 3 s = 0 ∨ (H 3 s = 1 ∧ σ.1 10 s = H 4 s) ∨ (H 3 s = 2 ∧ σ.1 10 s = H 5 s ∧ σ.1 11 s = H 4 s ∧ 0 ≤ H 5 s))
def HC (σ : SG) (H : HO) : Prop := ∀ s, s < 4 → HCs σ H s
def HM (σ : SG) (H : HO) : Prop := ∀ k, k < 6 → σ.1 (160 + k) = H k
theorem HC.keep {σ σ' : SG} {H : HO} (h : HC σ H) (hc : ∀ c, 2 ≤ c → c ≤ 11 → σ'.1 c = σ.1 c) : HC σ' H := fun s hs => by
  obtain ⟨a, b, c, d, e, f, g⟩ := h s hs
  refine ⟨by rw [hc 2 (by decide) (by decide)]; exact a, b, by rw [hc 3 (by decide) (by decide)]; exact c, d, fun i hi => by rw [hc _ (by omega) (by omega)]; exact e i hi, by rw [hc 9 (by decide) (by decide)]; exact f, ?_⟩
  rw [hc 10 (by decide) (by decide), hc 11 (by decide) (by decide)]
  exact g
theorem HM.keep {σ σ' : SG} {H : HO} (h : HM σ H) (hc : ∀ c, 160 ≤ c → c ≤ 165 → σ'.1 c = σ.1 c) : HM σ' H := fun k hk => by
  rw [hc _ (by omega) (by omega)]
  exact h k hk
abbrev sh4 (x : Int32) : Prop := 0 ≤ x ∧ x ≤ 3
theorem sh_in {x : Int32} (h : sh4 x) : ∃ s, s < 4 ∧ x = nI s := by
  obtain ⟨k, hk, e⟩ := n_sp (b := 3) (by decide) h.1 h.2
  exact ⟨k, by omega, e⟩
abbrev plc (H : HO) (s : Nat) (i : Int32) : Prop := 0 ≤ i ∧ i < H 1 s
theorem plc_in {H : HO} {s : Nat} {i : Int32} (h : rg (H 1 s) 40) (hp : plc H s i) : ∃ j, j < 40 ∧ i = nI j := by
  obtain ⟨j, hj, rfl⟩ := n_of0 hp.1
  have h2 := hp.2
  have h1 := h.1
  rw [h.2] at h2
  have := (n_lt hj (by omega)).mp h2
  exact ⟨j, by omega, rfl⟩
theorem rg_pred {x y : Int32} {b : Nat} (h : rg y b) (hb : b < 1000) : x ≤ y - 1 ↔ x < y := by
  have h1 := h.1
  have e : (y - 1).toInt = (nx y : Int) - 1 := by
    rw [h.2, nx_nI (by omega)]
    generalize nx y = n at *
    cases n with
    | zero => decide
    | succ n =>
      rw [nI_pred, nI_toInt (by omega)]
      omega
  rw [i_le, i_lt, e, h.toInt (by omega)]
  omega
theorem b_isPlace {σ : SG} {H : HO} {s : Nat} (h : HC σ H) (hs : s < 4) (i : Int32) : f_Ho_isPlace (nI s) i σ = some (bI (plc H s i), σ) := by
  obtain ⟨-, -, c, -⟩ := h s hs
  unfold f_Ho_isPlace
  by_cases h0 : i < 0
  · rw [if_pos h0, bI_neg (fun z => absurd h0 (Int32.not_lt.mpr z.1))]
  · rw [if_neg h0, gd_pos (ix_nI hs (by decide)), nx_nI (by omega), c]
    by_cases h1 : H 1 s ≤ i
    · rw [if_pos h1, bI_neg (fun z => absurd h1 (Int32.not_le.mpr z.2))]
    · rw [if_neg h1, bI_pos ⟨Int32.not_lt.mp h0, Int32.not_le.mp h1⟩]
theorem m_place {σ : SG} {H : HO} {s : Nat} (hr : rg (H 1 s) 40) (i : Int32) : f_M_in i.toInt64 (0 : Int64) ((H 1 s - (1 : Int32)).toInt64) σ = some (bI (plc H s i), σ) := by
  rw [m_in32 (a := 0) (b := H 1 s - 1) (by decide) (Int32.toInt_toInt64 _)]
  exact congrArg (fun q => some (q, σ)) (bI_iff (and_congr Iff.rfl (rg_pred hr (by decide))))
def rfA (H : HO) (s : Nat) (y : Int32) : Int32 := if H 0 s = -1 then -11 else if H 0 s = y then 0 else -13
theorem b_refusal {σ : SG} {H : HO} {s : Nat} (h : HC σ H) (hs : s < 4) (y : Int32) : f_Ho_refusal (nI s) y σ = some (rfA H s y, σ) := by
  obtain ⟨a, -⟩ := h s hs
  unfold f_Ho_refusal rfA
  rw [gd_pos (ix_nI hs (by decide)), gd_pos (ix_nI hs (by decide)), nx_nI (by omega), a]
  by_cases h1 : H 0 s = -1
  · rw [if_neg (fun z => z h1), if_pos h1]
  · rw [if_pos h1, if_neg h1]
    by_cases h2 : H 0 s = y
    · rw [if_neg (fun z => z h2), if_pos h2]
    · rw [if_pos h2, if_neg h2]
theorem srt_0 {x : Int32} (h : x = -1 ∨ 0 ≤ x) : 0 ≤ x ↔ ¬ x = -1 := by
  rcases h with e | e
  · rw [e]
    decide
  · exact ⟨fun _ z => by rw [z] at e; exact absurd e (by decide), fun _ => e⟩
theorem m_whyNot {σ : SG} {H : HO} {s : Nat} (h : HM σ H) (hs : s < 4) (h0 : H 0 s = -1 ∨ 0 ≤ H 0 s) (y : Int32) : f_M_whyNot (nI s) y σ = some (rfA H s y, σ) := by
  have a : σ.1 160 = H 0 := h 0 (by decide)
  unfold f_M_whyNot rfA
  rw [gd_pos (ix_nI hs (by decide)), gd_pos (ix_nI hs (by decide)), nx_nI (by omega), a]
  by_cases h1 : H 0 s = -1
  · rw [if_neg (fun z => (srt_0 h0).mp z h1), if_pos h1]
  · rw [if_pos ((srt_0 h0).mpr h1), if_neg h1]
    by_cases h2 : H 0 s = y
    · rw [if_pos h2, if_pos h2]
    · rw [if_neg h2, if_neg h2]
/-! sheet -/
def shtZ (y z : Int32) : Int32 := if y = -1 then 0 else z
abbrev shtOK (x y z : Int32) : Prop := sh4 x ∧ (-1 ≤ y ∧ y ≤ 4) ∧ shtZ y z ≤ 40 ∧ 0 ≤ shtZ y z
def shtA (x y z : Int32) : Int32 := if sh4 x then (if -1 ≤ y ∧ y ≤ 4 then (if shtZ y z ≤ 40 then (if 0 ≤ shtZ y z then 1 else -14) else -1) else -1) else -1
def shtR (H : HO) (s : Nat) (y n : Int32) : HO := fun c => if c = 0 then us (H 0) s y else if c = 1 then us (H 1) s n else if c = 2 then (fun i => if 40 * s ≤ i ∧ i < 40 * s + 40 then 0 else H 2 i) else H c
def shtN (H : HO) (x y z : Int32) : HO := if shtOK x y z then shtR H (nx x) y (shtZ y z) else H
theorem shtR_hc {σ σ' : SG} {H : HO} {s : Nat} {y n : Int32} (h : HC σ H) (hs : s < 4) (hy : y = -1 ∨ 0 ≤ y) (hn : rg n 40) (e : σ' = flI (uI (uI σ 2 s y) 3 s n) (4 + 1 + s) 40 0) : HC σ' (shtR H s y n) := by
  have at' : ∀ c i, σ'.1 c i = if c = 4 + 1 + s ∧ i < 40 then 0 else (uI (uI σ 2 s y) 3 s n).1 c i := fun c i => by rw [e]; rfl
  have oth : ∀ c i, c ≠ 4 + 1 + s → c ≠ 2 → c ≠ 3 → σ'.1 c i = σ.1 c i := fun c i h1 h2 h3 => by
    rw [at', if_neg (fun z => h1 z.1), uI_c h3, uI_c h2]
  intro s' hs'
  obtain ⟨a, b, c, d, e5, f, g⟩ := h s' hs'
  have r3 : shtR H s y n 3 = H 3 := rfl
  have r4 : shtR H s y n 4 = H 4 := rfl
  have r5 : shtR H s y n 5 = H 5 := rfl
  have r0 : shtR H s y n 0 = us (H 0) s y := rfl
  have r1 : shtR H s y n 1 = us (H 1) s n := rfl
  have r2 : ∀ i, shtR H s y n 2 i = if 40 * s ≤ i ∧ i < 40 * s + 40 then 0 else H 2 i := fun i => rfl
  unfold HCs
  rw [r0, r1, r3, r4, r5, at', if_neg (by omega), at', if_neg (by omega), oth 9 _ (by omega) (by decide) (by decide), oth 10 _ (by omega) (by decide) (by decide), oth 11 _ (by omega) (by decide) (by decide)]
  by_cases es : s' = s
  · subst es
    rw [us_same, us_same, uI_c (by decide), uI_same, uI_same]
    refine ⟨rfl, hy, rfl, hn, fun i hi => ?_, f, g⟩
    rw [at', if_pos ⟨rfl, hi⟩, r2, if_pos ⟨by omega, by omega⟩]
  · rw [us_ne es, us_ne es, uI_c (by decide), uI_i es, uI_i es, uI_c (by decide)]
    refine ⟨a, b, c, d, fun i hi => ?_, f, g⟩
    rw [oth _ _ (by omega) (by omega) (by omega), e5 i hi, r2, if_neg (by omega)]
theorem cq_sheet {σ : SG} {H : HO} (h : HC σ H) (x y z : Int32) : ∃ σ', f_H_sheet x y z σ = some (shtA x y z, σ') ∧ HC σ' (shtN H x y z) ∧ fr (fun c => 2 ≤ c ∧ c ≤ 8) σ σ' := by
  unfold f_H_sheet shtA shtN
  rw [b_isSheet, bnd_some]
  by_cases hx : sh4 x
  · obtain ⟨s, hs, rfl⟩ := sh_in hx
    rw [if_neg (bI_n0.mpr hx), if_pos hx, b_isIn, bnd_some]
    by_cases hy : -1 ≤ y ∧ y ≤ 4
    · have e28 : (if ¬ y = (-1 : Int32) then f_H_sheet_28 (nI s) y z σ else f_H_sheet_28 (nI s) y (0 : Int32) σ) = f_H_sheet_28 (nI s) y (shtZ y z) σ := by
        unfold shtZ
        by_cases hm : y = -1
        · rw [if_neg (fun w => w hm), if_pos hm]
        · rw [if_pos hm, if_neg hm]
      rw [if_pos (bI_n0.mpr hy), if_pos hy, e28]
      unfold f_H_sheet_28
      by_cases h40 : shtZ y z ≤ 40
      · rw [if_pos h40, if_pos h40]
        by_cases h0 : 0 ≤ shtZ y z
        · rw [if_pos h0, if_pos h0, if_pos ⟨hx, hy, h40, h0⟩, nx_nI (k := s) (by omega), gd_pos (ix_nI hs (by decide)), sx_eq, gd_pos (ix_nI hs (by decide)), sx_eq, gd_pos (ix_nI hs (by decide)), sx_eq]
          refine ⟨_, rfl, shtR_hc h hs ?_ (rg_of (by decide) h0 h40) rfl, ?_⟩
          · by_cases hm : y = -1
            · exact Or.inl hm
            · refine Or.inr ?_
              have a := hy.1
              rw [i_le] at a ⊢
              have e1 : (-1 : Int32).toInt = -1 := rfl
              have e0 : (0 : Int32).toInt = 0 := rfl
              rw [e1] at a
              rw [e0]
              have : y.toInt ≠ -1 := fun w => hm (Int32.toInt_inj.mp w)
              omega
          · refine (fr.tr (fr.uI (by omega)) (fr.uI (by omega))).tr ⟨fun q hq => funext fun j => if_neg (fun w => hq (by omega)), rfl⟩
        · rw [if_neg h0, if_neg h0, if_neg (fun w => h0 w.2.2.2)]
          exact ⟨σ, rfl, h, fr.rf⟩
      · rw [if_neg h40, if_neg h40, if_neg (fun w => h40 w.2.2.1)]
        exact ⟨σ, rfl, h, fr.rf⟩
    · rw [if_neg (fun w => w (bI_0.mpr hy)), if_neg hy, if_neg (fun w => hy w.2.1)]
      exact ⟨σ, rfl, h, fr.rf⟩
  · rw [if_pos (bI_0.mpr hx), if_neg hx, if_neg (fun w => hx w.1)]
    exact ⟨σ, rfl, h, fr.rf⟩
theorem m_sh_l {s : Nat} (hs : s < 4) : ∀ (d k f : Nat) (σ : SG), k + d = 40 → d < f → ∃ τ, f_M_sheet_69 f (nI s) (nI k) σ = some (1, τ) ∧ fr (fun c => c = 162) σ τ ∧ ∀ i, τ.1 162 i = if 40 * s + k ≤ i ∧ i < 40 * s + 40 then 0 else σ.1 162 i := by
  intro d
  induction d with
  | zero =>
    intro k f σ hk hf
    obtain ⟨f, rfl⟩ : ∃ g, f = g + 1 := ⟨f - 1, by omega⟩
    have e : k = 40 := by omega
    subst e
    rw [f_M_sheet_69, if_pos (by decide)]
    exact ⟨σ, rfl, fr.rf, fun i => by rw [if_neg (by omega)]⟩
  | succ d ih =>
    intro k f σ hk hf
    obtain ⟨f, rfl⟩ : ∃ g, f = g + 1 := ⟨f - 1, by omega⟩
    have hlt : k < 40 := by omega
    rw [f_M_sheet_69, if_neg (show ¬ (40 : Int32) ≤ nI k from nI_ge hlt (by decide)), show (40 : Int32) = nI 40 from rfl, n_mul, n_add, gd_pos (ix_nI (by omega) (by decide)), nx_nI (by omega), sx_eq, lx_eq, nI_1]
    obtain ⟨τ, q1, q2, q3⟩ := ih (k + 1) f (uI σ 162 (40 * s + k) 0) (by omega) (by omega)
    refine ⟨τ, q1, fr_u1.tr q2, fun i => ?_⟩
    rw [q3 i]
    by_cases e : i = 40 * s + k
    · rw [if_neg (by omega), e, uI_same, if_pos (by omega)]
    · rw [uI_i e]
      by_cases e2 : 40 * s + (k + 1) ≤ i ∧ i < 40 * s + 40
      · rw [if_pos e2, if_pos (by omega)]
      · rw [if_neg e2, if_neg (by omega)]
theorem mq_sheet {σ : SG} {H : HO} (h : HM σ H) (x y z : Int32) : ∃ σ', f_M_sheet x y z σ = some (shtA x y z, σ') ∧ HM σ' (shtN H x y z) ∧ fr (fun c => 160 ≤ c ∧ c ≤ 162) σ σ' := by
  unfold f_M_sheet shtA shtN
  rw [m_isOne, bnd_some]
  by_cases hx : sh4 x
  · obtain ⟨s, hs, rfl⟩ := sh_in hx
    rw [if_neg (bI_n0.mpr hx), if_pos hx, m_in32 (a := -1) (b := 4) (by decide) (by decide), bnd_some]
    by_cases hy : -1 ≤ y ∧ y ≤ 4
    · have hneg : y < 0 ↔ y = -1 := by
        have a := hy.1
        rw [i_le] at a
        have e1 : (-1 : Int32).toInt = -1 := rfl
        have e0 : (0 : Int32).toInt = 0 := rfl
        rw [e1] at a
        rw [i_lt, i_eq, e0, e1]
        omega
      rw [if_neg (bI_n0.mpr hy), if_pos hy]
      have go : ∀ n, n = shtZ y z → shtZ y z ≤ 40 → 0 ≤ shtZ y z → ∃ σ', f_M_sheet_44 (nI s) y z σ = some (1, σ') ∧ HM σ' (shtR H s y n) ∧ fr (fun c => 160 ≤ c ∧ c ≤ 162) σ σ' := fun n en h40 h0 => by
        unfold f_M_sheet_44
        have tail : ∃ σ', f_M_sheet_69 FU (nI s) 0 (uI (uI σ 160 s y) 161 s n) = some (1, σ') ∧ HM σ' (shtR H s y n) ∧ fr (fun c => 160 ≤ c ∧ c ≤ 162) σ σ' := by
          obtain ⟨τ, q1, q2, q3⟩ := m_sh_l hs 40 0 FU (uI (uI σ 160 s y) 161 s n) rfl (by rw [FU_eq]; omega)
          refine ⟨τ, q1, ?_, (fr.tr (fr.uI (by omega)) (fr.uI (by omega))).tr (q2.mono (fun c hc => by omega))⟩
          have e0 : τ.1 160 = us (H 0) s y := by
            rw [q2.1 _ (by decide), uIc (by decide)]
            funext i
            rw [uI_at, show σ.1 160 = H 0 from h 0 (by decide)]
            by_cases e : i = s
            · rw [if_pos ⟨rfl, e⟩, e, us_same]
            · rw [if_neg (fun w => e w.2), us_ne e]
          have e1 : τ.1 161 = us (H 1) s n := by
            rw [q2.1 _ (by decide)]
            funext i
            rw [uI_at]
            by_cases e : i = s
            · rw [if_pos ⟨rfl, e⟩, e, us_same]
            · rw [if_neg (fun w => e w.2), us_ne e, uI_c (by decide), show σ.1 161 = H 1 from h 1 (by decide)]
          have e2 : τ.1 162 = fun i => if 40 * s ≤ i ∧ i < 40 * s + 40 then 0 else H 2 i := by
            funext i
            rw [q3 i, uI_c (by decide), uI_c (by decide), show σ.1 162 = H 2 from h 2 (by decide), Nat.add_zero]
          have e3 : ∀ k, 3 ≤ k → k < 6 → τ.1 (160 + k) = H k := fun k k1 k2 => by
            rw [q2.1 _ (by omega), uIc (by omega), uIc (by omega)]
            exact h k k2
          intro k hk
          match k, hk with
          | 0, _ => exact e0
          | 1, _ => exact e1
          | 2, _ => exact e2
          | 3, _ => exact e3 3 (by decide) (by decide)
          | 4, _ => exact e3 4 (by decide) (by decide)
          | 5, _ => exact e3 5 (by decide) (by decide)
        rw [nx_nI (k := s) (by omega), gd_pos (ix_nI hs (by decide)), sx_eq]
        by_cases hm : y = -1
        · have en0 : n = 0 := by rw [en]; unfold shtZ; rw [if_pos hm]
          rw [if_neg (fun w => by have := hneg.mpr hm; exact absurd this (Int32.not_lt.mpr w)), gd_pos (ix_nI hs (by decide)), sx_eq]
          rw [en0] at tail ⊢
          exact tail
        · have enz : n = z := by rw [en]; unfold shtZ; rw [if_neg hm]
          rw [if_pos (Int32.not_lt.mp (fun w => hm (hneg.mp w))), gd_pos (ix_nI hs (by decide)), sx_eq, ← enz]
          exact tail
      rw [nx_nI (by omega)]
      by_cases hm : y = -1
      · have hm0 := hneg.mpr hm
        have z0 : shtZ y z = 0 := by unfold shtZ; rw [if_pos hm]
        obtain ⟨σ', w1, w2, w3⟩ := go _ rfl (by rw [z0]; decide) (by rw [z0]; decide)
        rw [if_pos hm0, if_pos hm0, if_pos (show shtZ y z ≤ 40 by rw [z0]; decide), if_pos (show 0 ≤ shtZ y z by rw [z0]; decide), if_pos ⟨hx, hy, by rw [z0]; decide, by rw [z0]; decide⟩]
        exact ⟨σ', w1, w2, w3⟩
      · have hm0 : ¬ y < 0 := fun w => hm (hneg.mp w)
        have z0 : shtZ y z = z := by unfold shtZ; rw [if_neg hm]
        rw [if_neg hm0, if_neg hm0]
        by_cases h40 : shtZ y z ≤ 40
        · rw [if_pos (show z ≤ 40 by rw [← z0]; exact h40), if_pos h40]
          by_cases h0 : 0 ≤ shtZ y z
          · rw [if_pos (show 0 ≤ z by rw [← z0]; exact h0), if_pos h0, if_pos ⟨hx, hy, h40, h0⟩]
            exact go _ rfl h40 h0
          · rw [if_neg (show ¬ 0 ≤ z by rw [← z0]; exact h0), if_neg h0, if_neg (fun w => h0 w.2.2.2)]
            exact ⟨σ, rfl, h, fr.rf⟩
        · rw [if_neg (show ¬ z ≤ 40 by rw [← z0]; exact h40), if_neg h40, if_neg (fun w => h40 w.2.2.1)]
          exact ⟨σ, rfl, h, fr.rf⟩
    · rw [if_pos (bI_0.mpr hy), if_neg hy, if_neg (fun w => hy w.2.1)]
      exact ⟨σ, rfl, h, fr.rf⟩
  · rw [if_pos (bI_0.mpr hx), if_neg hx, if_neg (fun w => hx w.1)]
    exact ⟨σ, rfl, h, fr.rf⟩
/-! write -/
def nrw (t v : Int32) : Int32 := if t = 0 then v.toInt8.toInt32 else if t = 1 then v.toInt16.toInt32 else if t = 4 then (if v = 0 then 0 else 1) else v
theorem b_narrowed (t v : Int32) (σ : SG) : f_Ho_narrowed t v σ = some (nrw t v, σ) := by
  unfold f_Ho_narrowed nrw
  by_cases h0 : t = 0
  · rw [if_pos h0, if_pos h0]
  · rw [if_neg h0, if_neg h0]
    by_cases h1 : t = 1
    · rw [if_pos h1, if_pos h1]
    · rw [if_neg h1, if_neg h1]
      by_cases h4 : t = 4
      · rw [if_neg (by rw [h4]; decide), if_neg (by rw [h4]; decide), if_pos h4, if_pos h4]
        by_cases hv : v = 0
        · rw [if_pos hv, if_pos hv]
        · rw [if_neg hv, if_neg hv]
      · rw [if_neg h4, if_neg h4]
        by_cases h2 : t = 2
        · rw [if_pos h2]
        · rw [if_neg h2]
          by_cases h3 : t = 3
          · rw [if_pos h3]
          · rw [if_neg h3]
theorem m_narrowed (t v : Int32) (σ : SG) : f_M_narrowed t v σ = some (nrw t v, σ) := by
  unfold f_M_narrowed nrw
  by_cases h0 : t = 0
  · rw [if_neg (fun z => z h0), if_pos h0]
  · rw [if_pos h0, if_neg h0]
    by_cases h1 : t = 1
    · rw [if_neg (fun z => z h1), if_pos h1]
    · rw [if_pos h1, if_neg h1]
      by_cases h4 : t = 4
      · rw [if_neg (fun z => z h4), if_pos h4]
        by_cases hv : v = 0
        · rw [if_neg (fun z => z hv), if_pos hv]
        · rw [if_pos hv, if_neg hv]
      · rw [if_pos h4, if_neg h4]
def wrtA (H : HO) (x i : Int32) : Int32 := if sh4 x then (if H 0 (nx x) = -1 then -11 else if plc H (nx x) i then 1 else -12) else -1
def wrtR (H : HO) (j : Nat) (v : Int32) : HO := fun c => if c = 2 then us (H 2) j v else H c
def wrtN (H : HO) (x i v : Int32) : HO := if sh4 x then (if H 0 (nx x) = -1 then H else if plc H (nx x) i then wrtR H (40 * nx x + nx i) (nrw (H 0 (nx x)) v) else H) else H
theorem cq_write {σ : SG} {H : HO} (h : HC σ H) (x i v : Int32) : ∃ σ', f_H_write x i v σ = some (wrtA H x i, σ') ∧ HC σ' (wrtN H x i v) ∧ fr (fun c => 5 ≤ c ∧ c ≤ 8) σ σ' := by
  unfold f_H_write wrtA wrtN
  rw [b_isSheet, bnd_some]
  by_cases hx : sh4 x
  · obtain ⟨s, hs, rfl⟩ := sh_in hx
    obtain ⟨a, -, -, hr, -⟩ := h s hs
    rw [if_pos (bI_n0.mpr hx), if_pos hx, if_pos hx, gd_pos (ix_nI hs (by decide)), nx_nI (by omega), a]
    by_cases hm : H 0 s = -1
    · rw [if_neg (fun z => z hm), if_pos hm, if_pos hm]
      exact ⟨σ, rfl, h, fr.rf⟩
    · rw [if_pos hm, if_neg hm, if_neg hm, b_isPlace h hs, bnd_some]
      by_cases hp : plc H s i
      · obtain ⟨j, hj, rfl⟩ := plc_in hr hp
        rw [if_pos (bI_n0.mpr hp), if_pos hp, if_pos hp, gd_pos (ix_nI hs (by decide)), gd_pos (ix_nI hs (by decide)), a, b_narrowed, bnd_some, gd_pos (ix_nI hj (by decide)), nx_nI (by omega), sx_eq]
        refine ⟨_, rfl, fun s' hs' => ?_, fr.uI (by omega)⟩
        obtain ⟨a', b', c', d', e', f', g'⟩ := h s' hs'
        refine ⟨by rw [uI_c (by omega)]; exact a', b', by rw [uI_c (by omega)]; exact c', d', fun i' hi' => ?_, by rw [uI_c (by omega)]; exact f', by rw [uI_c (by omega), uI_c (by omega)]; exact g'⟩
        show _ = us (H 2) (40 * s + j) (nrw (H 0 s) v) (40 * s' + i')
        rw [uI_at]
        by_cases e : s' = s ∧ i' = j
        · rw [if_pos ⟨by omega, e.2⟩, e.1, e.2, us_same]
        · rw [if_neg (fun z => e ⟨by omega, z.2⟩), us_ne (by omega)]
          exact e' i' hi'
      · rw [if_neg (fun z => z (bI_0.mpr hp)), if_neg hp, if_neg hp]
        exact ⟨σ, rfl, h, fr.rf⟩
  · rw [if_neg (fun z => z (bI_0.mpr hx)), if_neg hx, if_neg hx]
    exact ⟨σ, rfl, h, fr.rf⟩
/-- what the reference needs to know of it -/
def HOk (H : HO) : Prop := ∀ s, s < 4 → (H 0 s = -1 ∨ 0 ≤ H 0 s) ∧ rg (H 1 s) 40
theorem HC.ok {σ : SG} {H : HO} (h : HC σ H) : HOk H := fun s hs => ⟨(h s hs).2.1, (h s hs).2.2.2.1⟩
theorem mq_write {σ : SG} {H : HO} (h : HM σ H) (ho : HOk H) (x i v : Int32) : ∃ σ', f_M_write x i v σ = some (wrtA H x i, σ') ∧ HM σ' (wrtN H x i v) ∧ fr (fun c => c = 162) σ σ' := by
  unfold f_M_write wrtA wrtN
  rw [m_isOne, bnd_some]
  by_cases hx : sh4 x
  · obtain ⟨s, hs, rfl⟩ := sh_in hx
    obtain ⟨h0, hr⟩ := ho s hs
    have a : σ.1 160 = H 0 := h 0 (by decide)
    have b : σ.1 161 = H 1 := h 1 (by decide)
    rw [if_pos (bI_n0.mpr hx), if_pos hx, if_pos hx, gd_pos (ix_nI hs (by decide)), nx_nI (by omega), a, b]
    by_cases hm : H 0 s = -1
    · rw [if_neg (fun z => (srt_0 h0).mp z hm), if_pos hm, if_pos hm]
      exact ⟨σ, rfl, h, fr.rf⟩
    · rw [if_pos ((srt_0 h0).mpr hm), if_neg hm, if_neg hm, gd_pos (ix_nI hs (by decide)), m_place hr, bnd_some]
      by_cases hp : plc H s i
      · obtain ⟨j, hj, rfl⟩ := plc_in hr hp
        rw [if_pos (bI_n0.mpr hp), if_pos hp, if_pos hp, gd_pos (ix_nI hs (by decide)), a, m_narrowed, bnd_some, show (40 : Int32) = nI 40 from rfl, n_mul, n_add, gd_pos (ix_nI (by omega) (by decide)), nx_nI (by omega), nx_nI (by omega), sx_eq]
        refine ⟨_, rfl, fun k hk => ?_, fr_u1⟩
        unfold wrtR
        by_cases e : k = 2
        · subst e
          rw [if_pos rfl]
          funext i'
          rw [uI_at, show σ.1 162 = H 2 from h 2 (by decide)]
          by_cases e2 : i' = 40 * s + j
          · rw [if_pos ⟨rfl, e2⟩, e2, us_same]
          · rw [if_neg (fun z => e2 z.2), us_ne e2]
        · rw [if_neg e, uIc (by omega)]
          exact h k hk
      · rw [if_neg (fun z => z (bI_0.mpr hp)), if_neg hp, if_neg hp]
        exact ⟨σ, rfl, h, fr.rf⟩
  · rw [if_neg (fun z => z (bI_0.mpr hx)), if_neg hx, if_neg hx]
    exact ⟨σ, rfl, h, fr.rf⟩
/-! item -/
def itmA (H : HO) (x y i : Int32) : Int32 := if sh4 x then (if 0 ≤ y ∧ y ≤ 4 then (if rfA H (nx x) y = 0 then (if plc H (nx x) i then H 2 (40 * nx x + nx i) else -12) else rfA H (nx x) y) else -1) else -1
theorem cq_item {σ : SG} {H : HO} (h : HC σ H) (x y i : Int32) : f_H_item x y i σ = some (itmA H x y i, σ) := by
  unfold f_H_item itmA
  rw [b_isSheet, bnd_some]
  by_cases hx : sh4 x
  · obtain ⟨s, hs, rfl⟩ := sh_in hx
    obtain ⟨a, -, -, hr, e5, -⟩ := h s hs
    rw [if_neg (bI_n0.mpr hx), if_pos hx, b_isIn, bnd_some, nx_nI (by omega)]
    by_cases hy : 0 ≤ y ∧ y ≤ 4
    · rw [if_pos (bI_n0.mpr hy), if_pos hy, b_refusal h hs, bnd_some]
      by_cases hf : rfA H s y = 0
      · rw [if_pos hf, if_pos hf, b_isPlace h hs, bnd_some]
        by_cases hp : plc H s i
        · obtain ⟨j, hj, rfl⟩ := plc_in hr hp
          rw [if_neg (bI_n0.mpr hp), if_pos hp, gd_pos (ix_nI hs (by decide)), gd_pos (ix_nI hj (by decide)), nx_nI (by omega), e5 j hj]
        · rw [if_pos (bI_0.mpr hp), if_neg hp]
      · rw [if_neg hf, if_neg hf]
    · rw [if_neg (fun z => z (bI_0.mpr hy)), if_neg hy]
  · rw [if_pos (bI_0.mpr hx), if_neg hx]
theorem mq_item {σ : SG} {H : HO} (h : HM σ H) (ho : HOk H) (x y i : Int32) : f_M_item x y i σ = some (itmA H x y i, σ) := by
  unfold f_M_item itmA
  rw [m_isOne, bnd_some]
  by_cases hx : sh4 x
  · obtain ⟨s, hs, rfl⟩ := sh_in hx
    obtain ⟨h0, hr⟩ := ho s hs
    have b : σ.1 161 = H 1 := h 1 (by decide)
    rw [if_neg (bI_n0.mpr hx), if_pos hx, m_in32 (a := 0) (b := 4) (by decide) (by decide), bnd_some, nx_nI (by omega)]
    by_cases hy : 0 ≤ y ∧ y ≤ 4
    · rw [if_pos (bI_n0.mpr hy), if_pos hy, m_whyNot h hs h0, bnd_some]
      by_cases hf : rfA H s y = 0
      · rw [if_pos hf, if_pos hf, gd_pos (ix_nI hs (by decide)), b, m_place hr, bnd_some]
        by_cases hp : plc H s i
        · obtain ⟨j, hj, rfl⟩ := plc_in hr hp
          rw [if_neg (bI_n0.mpr hp), if_pos hp, show (40 : Int32) = nI 40 from rfl, n_mul, n_add, gd_pos (ix_nI (by omega) (by decide)), nx_nI (by omega), nx_nI (by omega), show σ.1 162 = H 2 from h 2 (by decide)]
        · rw [if_pos (bI_0.mpr hp), if_neg hp]
      · rw [if_neg hf, if_neg hf]
    · rw [if_neg (fun z => z (bI_0.mpr hy)), if_neg hy]
  · rw [if_pos (bI_0.mpr hx), if_neg hx]
