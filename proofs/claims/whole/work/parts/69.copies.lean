/-! towns copied whole, either way; the reference's copies; KEEP and AGAIN -/
abbrev aprt (a t : Nat) : Prop := a + 35 ≤ t ∨ t + 35 ≤ a
theorem b_copyRu2 {t a : Nat} {σ : SG} {R : List RU} (hd : a + 6 ≤ t ∨ t + 6 ≤ a) (h : RLC a σ R 0 0) : ∃ σ', f_Ru_copyFrom t a σ = some ((), σ') ∧ fr (fun c => t ≤ c ∧ c ≤ t + 5) σ σ' ∧ RLC t σ' R 0 0 := by
  have hcnt := h.count
  obtain ⟨z, z1, z2, -⟩ := h.tot
  have hn : nx (σ.1 a 0) ≤ 8 := by rw [hcnt.1, nx_nI (by omega)]; omega
  have hz : nx (σ.1 a 5) ≤ 200 := by rw [z1, nx_nI (by omega)]; exact z2
  have n0 : ¬ σ.1 a 0 < 0 := by rw [hcnt.1]; exact nI_pos (by omega)
  have z0 : ¬ σ.1 a 5 < 0 := by rw [z1]; exact nI_pos (by omega)
  generalize hN : σ.1 a 0 = N at hn n0
  generalize hZ : σ.1 a 5 = Z at hz z0
  have okN : cpOk (0 : Int32) (0 : Int32) N 8 8 := ⟨by decide, by decide, n0, by rw [show nx (0 : Int32) = 0 from rfl]; omega, by rw [show nx (0 : Int32) = 0 from rfl]; omega⟩
  have okZ : cpOk (0 : Int32) (0 : Int32) Z 200 200 := ⟨by decide, by decide, z0, by rw [show nx (0 : Int32) = 0 from rfl]; omega, by rw [show nx (0 : Int32) = 0 from rfl]; omega⟩
  unfold f_Ru_copyFrom
  rw [hN, sx_eq, sx_eq, uI_c (c := t) (c' := a) (by omega), hZ]
  generalize h2 : uI (uI σ t 0 N) t 5 Z = σ2
  have s2 : ∀ c, c ≠ t → σ2.1 c = σ.1 c := fun c hc => by rw [← h2, uIc hc, uIc hc]
  have e0 : σ2.1 t 0 = N := by rw [← h2, uI_i (by decide), uI_same]
  have e5 : σ2.1 t 5 = Z := by rw [← h2, uI_same]
  have f2 : fr (fun c => t ≤ c ∧ c ≤ t + 5) σ σ2 := by
    rw [← h2]
    exact fr.tr (fr.uI ⟨Nat.le_refl _, by omega⟩) (fr.uI ⟨Nat.le_refl _, by omega⟩)
  rw [e0, gd_pos okN, sx_eq, cpc (by omega), e0, gd_pos okN, sx_eq, cpc (by omega), cpc (by omega), e0, gd_pos okN, sx_eq, cpc (by omega), cpc (by omega), cpc (by omega), e0, gd_pos okN, sx_eq, cpc (by omega), cpc (by omega), cpc (by omega), cpc (by omega), e5, gd_pos okZ, sx_eq]
  refine ⟨_, rfl, ((((f2.tr (fr_cp ⟨by omega, by omega⟩)).tr (fr_cp ⟨by omega, by omega⟩)).tr (fr_cp ⟨by omega, by omega⟩)).tr (fr_cp ⟨by omega, by omega⟩)).tr (fr_cp ⟨by omega, by omega⟩), h.copy ?_ ?_ (fun i hi => ?_) (fun i hi => ?_)⟩
  · rw [cpc (by omega), cpc (by omega), cpc (by omega), cpc (by omega), cpc (by omega), e0, hN]
  · rw [cpc (by omega), cpc (by omega), cpc (by omega), cpc (by omega), cpc (by omega), e5, hZ]
  · rw [hN] at hi
    refine ⟨?_, ?_, ?_, ?_⟩
    · rw [cpc (by omega), cpc (by omega), cpc (by omega), cpc (by omega), cph hi, s2 _ (by omega)]
    · rw [cpc (by omega), cpc (by omega), cpc (by omega), cph hi, cpc (by omega), s2 _ (by omega)]
    · rw [cpc (by omega), cpc (by omega), cph hi, cpc (by omega), cpc (by omega), s2 _ (by omega)]
    · rw [cpc (by omega), cph hi, cpc (by omega), cpc (by omega), cpc (by omega), s2 _ (by omega)]
  · rw [hZ] at hi
    rw [cph hi, cpc (by omega), cpc (by omega), cpc (by omega), cpc (by omega), s2 _ (by omega)]
theorem b_copyPlay2 {t a : Nat} {σ : SG} {S : Nat → Int32} {o : Nat → Bool} {R : List RU} (hd : aprt a t) (hT : TWR a σ S o) (hR : RLt a σ R) : ∃ σ', f_To_copyPlayFrom t a σ = some ((), σ') ∧ fr (fun c => t ≤ c ∧ c ≤ t + 14) σ σ' ∧ TWR t σ' S o ∧ RLt t σ' R ∧ ∀ i, i ≠ 2 → i ≠ 8 → i ≠ 9 → i ≠ 12 → σ'.1 t i = σ.1 t i := by
  unfold f_To_copyPlayFrom
  obtain ⟨σ1, q1, q2, q3⟩ := b_copyRu2 (t := t + 1) (a := a + 1) (by omega) hR.1
  rw [q1, bnd_some, sx_eq, gd_pos (by decide), sx_eq, gd_pos (by decide), sx_eq, gd_pos (by decide), sx_eq, gd_pos (by decide), sx_eq, gd_pos (by decide), sx_eq, sx_eq, sx_eq, gd_pos (by decide), sx_eq, gd_pos (by decide), sx_eq, sx_eq]
  have q2' : fr (fun c => t ≤ c ∧ c ≤ t + 14) σ σ1 := q2.mono (fun c hc => by omega)
  have s1 : ∀ c, a ≤ c → c ≤ a + 14 → σ1.1 c = σ.1 c := fun c c1 c2 => q2.1 c (by omega)
  obtain ⟨a1, a2, a3, a4, a5, a6⟩ := hT
  refine ⟨_, rfl, ((((((((((q2'.tr (fr.uI (by omega))).tr (fr_cp (by omega))).tr (fr_cp (by omega))).tr (fr_cp (by omega))).tr (fr_cp (by omega))).tr (fr_cp (by omega))).tr (fr.uI (by omega))).tr (fr.uI (by omega))).tr (fr_cp (by omega))).tr (fr_cp (by omega))).tr (fr.uI (by omega)), ⟨?_, ?_, ?_, ?_, fun p hp => ⟨?_, ?_, ?_, ?_, ?_⟩, fun j hj => ⟨?_, ?_⟩⟩, ?_, fun i i2 i8 i9 i12 => ?_⟩
  · rw [← a1, uI_i (by decide)]
    repeat (first | rw [uI_i (by decide)] | rw [cpc (by omega)])
    rw [uI_same, s1 _ (by omega) (by omega)]
  · rw [uI_same, ← a2]
    repeat (first | rw [uI_c (by omega)] | rw [cpc (by omega)])
    rw [s1 _ (by omega) (by omega)]
  · rw [← a3, uI_i (by decide), cpc (by omega), cpc (by omega), uI_same]
    repeat (first | rw [uI_c (by omega)] | rw [cpc (by omega)])
    rw [s1 _ (by omega) (by omega)]
  · rw [← a4, uI_i (by decide), cpc (by omega), cpc (by omega), uI_i (by decide), uI_same]
    repeat (first | rw [uI_c (by omega)] | rw [cpc (by omega)])
    rw [s1 _ (by omega) (by omega)]
  · rw [← (a5 p hp).1]
    repeat (first | rw [uI_c (by omega)] | rw [cpc (by omega)])
    rw [cph (nx6 hp), uI_c (by omega), s1 _ (by omega) (by omega)]
  · rw [← (a5 p hp).2.1]
    repeat (first | rw [uI_c (by omega)] | rw [cpc (by omega)])
    rw [cph (nx6 hp), cpc (by omega), uI_c (by omega), s1 _ (by omega) (by omega)]
  · rw [← (a5 p hp).2.2.1]
    repeat (first | rw [uI_c (by omega)] | rw [cpc (by omega)])
    rw [cph (nx6 hp), cpc (by omega), cpc (by omega), uI_c (by omega), s1 _ (by omega) (by omega)]
  · rw [← (a5 p hp).2.2.2.1]
    repeat (first | rw [uI_c (by omega)] | rw [cpc (by omega)])
    rw [cph (nx6 hp), cpc (by omega), cpc (by omega), cpc (by omega), uI_c (by omega), s1 _ (by omega) (by omega)]
  · rw [← (a5 p hp).2.2.2.2]
    repeat (first | rw [uI_c (by omega)] | rw [cpc (by omega)])
    rw [cph (nx6 hp), cpc (by omega), cpc (by omega), cpc (by omega), cpc (by omega), uI_c (by omega), s1 _ (by omega) (by omega)]
  · rw [← (a6 j hj).1, uI_c (by omega), cpc (by omega), cph (nx8 hj)]
    repeat (first | rw [uI_c (by omega)] | rw [cpc (by omega)])
    rw [s1 _ (by omega) (by omega)]
  · rw [← (a6 j hj).2, uI_c (by omega), cph (nx8 hj)]
    repeat (first | rw [uI_c (by omega)] | rw [cpc (by omega)])
    rw [s1 _ (by omega) (by omega)]
  · refine RLt.cong (σ := σ1) ⟨q3, hR.2⟩ fun c c1 c2 => funext fun i => ?_
    repeat (first | rw [uI_c (by omega)] | rw [cpc (by omega)])
  · rw [uI_i i12, cpc (by omega), cpc (by omega), uI_i i9, uI_i i8, cpc (by omega), cpc (by omega), cpc (by omega), cpc (by omega), cpc (by omega), uI_i i2, q2.at (by omega)]
theorem b_cpRows {a0 a1 : Nat} (hd : a0 + 13 ≤ a1 ∨ a1 + 13 ≤ a0) : ∀ (d k f : Nat) (σ : SG), k + d = 12 → d < f → ∃ τ, f_To_copyRows_2 a0 a1 f (nI k) σ = some ((), τ) ∧ fr (fun c => a1 + 1 ≤ c ∧ c ≤ a1 + 12) σ τ ∧ (∀ i, k ≤ i → i < 12 → ∀ j, j < 3 → τ.1 (a1 + 1 + i) j = σ.1 (a0 + 1 + i) j) ∧ ∀ i, i < k → τ.1 (a1 + 1 + i) = σ.1 (a1 + 1 + i) := by
  intro d
  induction d with
  | zero =>
    intro k f σ hk hf
    obtain ⟨f, rfl⟩ : ∃ g, f = g + 1 := ⟨f - 1, by omega⟩
    have e : k = 12 := by omega
    subst e
    rw [f_To_copyRows_2, if_pos (by decide)]
    exact ⟨σ, rfl, fr.rf, fun i h1 h2 => by omega, fun i _ => rfl⟩
  | succ d ih =>
    intro k f σ hk hf
    obtain ⟨f, rfl⟩ : ∃ g, f = g + 1 := ⟨f - 1, by omega⟩
    have hlt : k < 12 := by omega
    have n12 : ¬ (12 : Int32) ≤ nI k := nI_ge hlt (by decide)
    rw [f_To_copyRows_2, if_neg n12, if_neg n12, gd_pos (ix_nI hlt (by decide)), gd_pos (ix_nI hlt (by decide)), gd_pos (by decide), sx_eq, lx_eq, nI_1, nx_nI (by omega)]
    obtain ⟨τ, q1, q2, q3, q4⟩ := ih (k + 1) f (cpI σ (a0 + 1 + k) (a1 + 1 + k) (0 : Int32) (0 : Int32) (3 : Int32)) (by omega) (by omega)
    refine ⟨τ, q1, (fr_cp ⟨by omega, by omega⟩).tr q2, fun i h1 h2 j hj => ?_, fun i hi => ?_⟩
    · by_cases e : i = k
      · subst e
        rw [q4 i (by omega), cph (show j < nx (3 : Int32) from hj)]
      · rw [q3 i (by omega) h2 j hj, cpc (by omega)]
    · rw [q4 i (by omega)]
      funext j
      exact cpc (by omega)
theorem b_cpRows1 {a0 a1 : Nat} (hd : a0 + 7 ≤ a1 ∨ a1 + 7 ≤ a0) : ∀ (d k f : Nat) (σ : SG), k + d = 6 → d < f → ∃ τ, f_To_copyRows_v1_2 a0 a1 f (nI k) σ = some ((), τ) ∧ fr (fun c => a1 + 1 ≤ c ∧ c ≤ a1 + 6) σ τ ∧ (∀ i, k ≤ i → i < 6 → ∀ j, j < 3 → τ.1 (a1 + 1 + i) j = σ.1 (a0 + 1 + i) j) ∧ ∀ i, i < k → τ.1 (a1 + 1 + i) = σ.1 (a1 + 1 + i) := by
  intro d
  induction d with
  | zero =>
    intro k f σ hk hf
    obtain ⟨f, rfl⟩ : ∃ g, f = g + 1 := ⟨f - 1, by omega⟩
    have e : k = 6 := by omega
    subst e
    rw [f_To_copyRows_v1_2, if_pos (by decide)]
    exact ⟨σ, rfl, fr.rf, fun i h1 h2 => by omega, fun i _ => rfl⟩
  | succ d ih =>
    intro k f σ hk hf
    obtain ⟨f, rfl⟩ : ∃ g, f = g + 1 := ⟨f - 1, by omega⟩
    have hlt : k < 6 := by omega
    have n12 : ¬ (6 : Int32) ≤ nI k := nI_ge hlt (by decide)
    rw [f_To_copyRows_v1_2, if_neg n12, if_neg n12, gd_pos (ix_nI hlt (by decide)), gd_pos (ix_nI hlt (by decide)), gd_pos (by decide), sx_eq, lx_eq, nI_1, nx_nI (by omega)]
    obtain ⟨τ, q1, q2, q3, q4⟩ := ih (k + 1) f (cpI σ (a0 + 1 + k) (a1 + 1 + k) (0 : Int32) (0 : Int32) (3 : Int32)) (by omega) (by omega)
    refine ⟨τ, q1, (fr_cp ⟨by omega, by omega⟩).tr q2, fun i h1 h2 j hj => ?_, fun i hi => ?_⟩
    · by_cases e : i = k
      · subst e
        rw [q4 i (by omega), cph (show j < nx (3 : Int32) from hj)]
      · rw [q3 i (by omega) h2 j hj, cpc (by omega)]
    · rw [q4 i (by omega)]
      funext j
      exact cpc (by omega)
/-- a town of the class holds all of S, and THE RULES R -/
def TN (t : Nat) (σ : SG) (S : Nat → Int32) (R : List RU) : Prop := TWR t σ S nob ∧ RLt t σ R ∧ LGt t σ S ∧ RPT t σ S
theorem b_copyFrom {t a : Nat} {σ : SG} {S : Nat → Int32} {R : List RU} (hd : aprt a t) (h : TN a σ S R) : ∃ σ', f_To_copyFrom t a σ = some ((), σ') ∧ fr (fun c => t ≤ c ∧ c ≤ t + 34) σ σ' ∧ TN t σ' S R := by
  obtain ⟨hT, hR, hL, hP⟩ := h
  obtain ⟨l1, l2, l3, l4⟩ := hL
  obtain ⟨p1, p2, p3⟩ := hP
  have l12 := l1.1
  have p6 := p1.1
  unfold f_To_copyFrom
  obtain ⟨σ1, q1, q2, q3, q4, -⟩ := b_copyPlay2 hd hT hR
  have s1 : ∀ c, a ≤ c → c ≤ a + 34 → σ1.1 c = σ.1 c := fun c c1 c2 => q2.1 c (by omega)
  rw [q1, bnd_some, sx_eq, sx_eq, uI_c (c := t) (c' := a) (by omega), s1 a (by omega) (by omega), l2, l3]
  generalize h3 : uI (uI σ1 t 13 (S 5)) t 14 (S 4) = σ3
  have s3 : ∀ c, c ≠ t → σ3.1 c = σ1.1 c := fun c hc => by rw [← h3, uIc hc, uIc hc]
  have T3 : TWR t σ3 S nob := by
    rw [← h3]
    exact (q3.own (by decide) (by decide) (by decide) (by decide)).own (by decide) (by decide) (by decide) (by decide)
  obtain ⟨σ4, r1, r2, r3, -⟩ := b_cpRows (a0 := a + 15) (a1 := t + 15) (by omega) 12 0 FU σ3 rfl (by rw [FU_eq]; omega)
  have r1 : f_To_copyRows_2 (a + 15) (t + 15) FU (0 : Int32) σ3 = _ := r1
  unfold f_To_copyRows f_To_copyRows_v1
  have e16 : σ4.1 a 16 = S 3 := by rw [r2.at (by omega), s3 _ (by omega), s1 _ (by omega) (by omega)]; exact p2
  rw [r1, bnd_some, sx_eq, e16]
  obtain ⟨σ6, w1, w2, w3, -⟩ := b_cpRows1 (a0 := a + 28) (a1 := t + 28) (by omega) 6 0 FU (uI σ4 t 16 (S 3)) rfl (by rw [FU_eq]; omega)
  have w1 : f_To_copyRows_v1_2 (a + 28) (t + 28) FU (0 : Int32) (uI σ4 t 16 (S 3)) = _ := w1
  rw [w1, bnd_some]
  have T4 : TWR t σ4 S nob := T3.cong (fun c c1 c2 _ => r2.1 c (by omega))
  have T5 : TWR t (uI σ4 t 16 (S 3)) S nob := T4.own (by decide) (by decide) (by decide) (by decide)
  refine ⟨σ6, rfl, ?_, T5.cong (fun c c1 c2 _ => w2.1 c (by omega)), q4.cong (fun c c1 c2 => by rw [w2.1 _ (by omega), uIc (by omega), r2.1 _ (by omega), s3 _ (by omega)]), ⟨l1, ?_, ?_, fun i hi => ?_⟩, p1, ?_, fun i hi => ?_⟩
  · refine (((q2.mono (fun c hc => by omega)).tr ?_).tr (r2.mono (fun c hc => by omega))).tr ((fr.uI (by omega)).tr (w2.mono (fun c hc => by omega)))
    rw [← h3]
    exact fr.tr (fr.uI (by omega)) (fr.uI (by omega))
  · rw [w2.at (by omega), uI_i (by decide), r2.at (by omega), ← h3, uI_i (by decide), uI_same]
  · rw [w2.at (by omega), uI_i (by decide), r2.at (by omega), ← h3, uI_same]
  · have row : ∀ j, j < 3 → σ6.1 (t + 15 + 1 + i) j = σ.1 (a + 15 + 1 + i) j := fun j hj => by
      rw [w2.at (by omega), uI_c (by omega), r3 i (by omega) (by omega) j hj, s3 _ (by omega), s1 _ (by omega) (by omega)]
    rw [row 0 (by decide), row 1 (by decide), row 2 (by decide)]
    exact l4 i hi
  · rw [w2.at (by omega), uI_same]
  · have row : ∀ j, j < 3 → σ6.1 (t + 28 + 1 + i) j = σ.1 (a + 28 + 1 + i) j := fun j hj => by
      rw [w3 i (by omega) (by omega) j hj, uI_c (by omega), r2.at (by omega), s3 _ (by omega), s1 _ (by omega) (by omega)]
    rw [row 0 (by decide), row 1 (by decide), row 2 (by decide)]
    exact p3 i hi
/-! the reference's copies -/
theorem m_puts_l : ∀ (d k f : Nat) (σ : SG), k + d = 340 → d < f → ∃ τ, f_M_puts_2 f (nI k) σ = some ((), τ) ∧ fr (fun c => c = 151) σ τ ∧ (∀ i, k ≤ i → i < 340 → τ.1 151 i = σ.1 149 i) ∧ ∀ i, i < k ∨ 340 ≤ i → τ.1 151 i = σ.1 151 i := by
  intro d
  induction d with
  | zero =>
    intro k f σ hk hf
    obtain ⟨f, rfl⟩ : ∃ g, f = g + 1 := ⟨f - 1, by omega⟩
    have e : k = 340 := by omega
    subst e
    rw [f_M_puts_2, if_pos (by decide)]
    exact ⟨σ, rfl, fr.rf, fun i h1 h2 => by omega, fun i _ => rfl⟩
  | succ d ih =>
    intro k f σ hk hf
    obtain ⟨f, rfl⟩ : ∃ g, f = g + 1 := ⟨f - 1, by omega⟩
    have hlt : k < 340 := by omega
    rw [f_M_puts_2, if_neg (show ¬ (340 : Int32) ≤ nI k from nI_ge hlt (by decide)), gd_pos (ix_nI hlt (by decide)), gd_pos (ix_nI hlt (by decide)), sx_eq, lx_eq, nI_1, nx_nI (by omega)]
    obtain ⟨τ, q1, q2, q3, q4⟩ := ih (k + 1) f (uI σ 151 k (σ.1 149 k)) (by omega) (by omega)
    refine ⟨τ, q1, fr_u1.tr q2, fun i h1 h2 => ?_, fun i hi => ?_⟩
    · by_cases e : i = k
      · subst e
        rw [q4 i (by omega), uI_same]
      · rw [q3 i (by omega) h2, uI_c (by omega)]
    · rw [q4 i (by omega), uI_i (by omega)]
theorem m_puts (σ : SG) : ∃ τ, f_M_puts σ = some ((), τ) ∧ fr (fun c => c = 151) σ τ ∧ ∀ i, i < 340 → τ.1 151 i = σ.1 149 i := by
  obtain ⟨τ, q1, q2, q3, -⟩ := m_puts_l 340 0 FU σ rfl (by rw [FU_eq]; omega)
  exact ⟨τ, q1, q2, fun i hi => q3 i (Nat.zero_le _) hi⟩
theorem m_back_l : ∀ (d k f : Nat) (σ : SG), k + d = 340 → d < f → ∃ τ, f_M_putsBack_2 f (nI k) σ = some ((), τ) ∧ fr (fun c => c = 149) σ τ ∧ (∀ i, k ≤ i → i < 340 → τ.1 149 i = σ.1 151 i) ∧ ∀ i, i < k ∨ 340 ≤ i → τ.1 149 i = σ.1 149 i := by
  intro d
  induction d with
  | zero =>
    intro k f σ hk hf
    obtain ⟨f, rfl⟩ : ∃ g, f = g + 1 := ⟨f - 1, by omega⟩
    have e : k = 340 := by omega
    subst e
    rw [f_M_putsBack_2, if_pos (by decide)]
    exact ⟨σ, rfl, fr.rf, fun i h1 h2 => by omega, fun i _ => rfl⟩
  | succ d ih =>
    intro k f σ hk hf
    obtain ⟨f, rfl⟩ : ∃ g, f = g + 1 := ⟨f - 1, by omega⟩
    have hlt : k < 340 := by omega
    rw [f_M_putsBack_2, if_neg (show ¬ (340 : Int32) ≤ nI k from nI_ge hlt (by decide)), gd_pos (ix_nI hlt (by decide)), gd_pos (ix_nI hlt (by decide)), sx_eq, lx_eq, nI_1, nx_nI (by omega)]
    obtain ⟨τ, q1, q2, q3, q4⟩ := ih (k + 1) f (uI σ 149 k (σ.1 151 k)) (by omega) (by omega)
    refine ⟨τ, q1, fr_u1.tr q2, fun i h1 h2 => ?_, fun i hi => ?_⟩
    · by_cases e : i = k
      · subst e
        rw [q4 i (by omega), uI_same]
      · rw [q3 i (by omega) h2, uI_c (by omega)]
    · rw [q4 i (by omega), uI_i (by omega)]
/-- all is as it was put aside -/
theorem m_putsBack {σ : SG} {S : Nat → Int32} (h1 : ∀ i, i < 340 → σ.1 151 i = S i) (h2 : ∀ i, 340 ≤ i → σ.1 149 i = S i) : ∃ τ, f_M_putsBack σ = some ((), τ) ∧ fr (fun c => c = 149) σ τ ∧ τ.1 149 = S := by
  obtain ⟨τ, q1, q2, q3, q4⟩ := m_back_l 340 0 FU σ rfl (by rw [FU_eq]; omega)
  refine ⟨τ, q1, q2, funext fun i => ?_⟩
  by_cases hi : i < 340
  · rw [q3 i (Nat.zero_le _) hi, h1 i hi]
  · rw [q4 i (by omega), h2 i (by omega)]
theorem m_keep_l : ∀ (d k f : Nat) (σ : SG), k + d = 340 → d < f → ∃ τ, f_M_keep_2 f (nI k) σ = some (1, uI τ 148 3 1) ∧ fr (fun c => c = 150) σ τ ∧ (∀ i, k ≤ i → i < 340 → τ.1 150 i = σ.1 149 i) ∧ ∀ i, i < k ∨ 340 ≤ i → τ.1 150 i = σ.1 150 i := by
  intro d
  induction d with
  | zero =>
    intro k f σ hk hf
    obtain ⟨f, rfl⟩ : ∃ g, f = g + 1 := ⟨f - 1, by omega⟩
    have e : k = 340 := by omega
    subst e
    rw [f_M_keep_2, if_pos (by decide), sx_eq]
    exact ⟨σ, rfl, fr.rf, fun i h1 h2 => by omega, fun i _ => rfl⟩
  | succ d ih =>
    intro k f σ hk hf
    obtain ⟨f, rfl⟩ : ∃ g, f = g + 1 := ⟨f - 1, by omega⟩
    have hlt : k < 340 := by omega
    rw [f_M_keep_2, if_neg (show ¬ (340 : Int32) ≤ nI k from nI_ge hlt (by decide)), gd_pos (ix_nI hlt (by decide)), gd_pos (ix_nI hlt (by decide)), sx_eq, lx_eq, nI_1, nx_nI (by omega)]
    obtain ⟨τ, q1, q2, q3, q4⟩ := ih (k + 1) f (uI σ 150 k (σ.1 149 k)) (by omega) (by omega)
    refine ⟨τ, q1, fr_u1.tr q2, fun i h1 h2 => ?_, fun i hi => ?_⟩
    · by_cases e : i = k
      · subst e
        rw [q4 i (by omega), uI_same]
      · rw [q3 i (by omega) h2, uI_c (by omega)]
    · rw [q4 i (by omega), uI_i (by omega)]
theorem m_again_l : ∀ (d k f : Nat) (σ : SG), k + d = 340 → d < f → ∃ τ, f_M_again_12 f (nI k) σ = some (τ.1 149 0, τ) ∧ fr (fun c => c = 149) σ τ ∧ (∀ i, k ≤ i → i < 340 → τ.1 149 i = σ.1 150 i) ∧ ∀ i, i < k ∨ 340 ≤ i → τ.1 149 i = σ.1 149 i := by
  intro d
  induction d with
  | zero =>
    intro k f σ hk hf
    obtain ⟨f, rfl⟩ : ∃ g, f = g + 1 := ⟨f - 1, by omega⟩
    have e : k = 340 := by omega
    subst e
    rw [f_M_again_12, if_pos (by decide)]
    exact ⟨σ, rfl, fr.rf, fun i h1 h2 => by omega, fun i _ => rfl⟩
  | succ d ih =>
    intro k f σ hk hf
    obtain ⟨f, rfl⟩ : ∃ g, f = g + 1 := ⟨f - 1, by omega⟩
    have hlt : k < 340 := by omega
    rw [f_M_again_12, if_neg (show ¬ (340 : Int32) ≤ nI k from nI_ge hlt (by decide)), gd_pos (ix_nI hlt (by decide)), gd_pos (ix_nI hlt (by decide)), sx_eq, lx_eq, nI_1, nx_nI (by omega)]
    obtain ⟨τ, q1, q2, q3, q4⟩ := ih (k + 1) f (uI σ 149 k (σ.1 150 k)) (by omega) (by omega)
    refine ⟨τ, q1, fr_u1.tr q2, fun i h1 h2 => ?_, fun i hi => ?_⟩
    · by_cases e : i = k
      · subst e
        rw [q4 i (by omega), uI_same]
      · rw [q3 i (by omega) h2, uI_c (by omega)]
    · rw [q4 i (by omega), uI_i (by omega)]
/-! keep, again -/
/-- a row of 340, nothing behind it -/
def R340 (S : Nat → Int32) : Prop := ∀ i, 340 ≤ i → S i = 0
theorem cq_keep {σ : SG} {S : Nat → Int32} {R : List RU} (h : TN 20 σ S R) : ∃ σ', f_H_keep σ = some (1, σ') ∧ TN 55 σ' S R ∧ σ'.1 0 3 = 1 ∧ fr (fun c => c = 0 ∨ (55 ≤ c ∧ c ≤ 89)) σ σ' ∧ ∀ i, i ≠ 3 → σ'.1 0 i = σ.1 0 i := by
  obtain ⟨σ', q1, q2, ⟨T, R1, ⟨L1, L2, L3, L4⟩, ⟨P1, P2, P3⟩⟩⟩ := b_copyFrom (t := 55) (a := 20) (by omega) h
  have l12 := L1.1
  have p6 := P1.1
  unfold f_H_keep
  rw [q1, bnd_some, sx_eq]
  refine ⟨_, rfl, ⟨T.cong (fun c c1 c2 _ => uIc (by omega)), R1.cong (fun c c1 c2 => uIc (by omega)), ⟨L1, by rw [uI_c (by decide)]; exact L2, by rw [uI_c (by decide)]; exact L3, fun i hi => by rw [uIc (by omega)]; exact L4 i hi⟩, ⟨P1, by rw [uI_c (by decide)]; exact P2, fun i hi => by rw [uIc (by omega)]; exact P3 i hi⟩⟩, uI_same, (q2.mono (fun c hc => Or.inr hc)).tr (fr.uI (Or.inl rfl)), fun i hi => by rw [uI_i hi, q2.at (by omega)]⟩
theorem mq_keep {σ : SG} {S : Nat → Int32} (hs : σ.1 149 = S) (h1 : R340 S) (h2 : R340 (σ.1 150)) : ∃ σ', f_M_keep σ = some (1, σ') ∧ σ'.1 150 = S ∧ σ'.1 148 3 = 1 ∧ fr (fun c => c = 148 ∨ c = 150) σ σ' ∧ ∀ i, i ≠ 3 → σ'.1 148 i = σ.1 148 i := by
  unfold f_M_keep
  obtain ⟨τ, q1, q2, q3, q4⟩ := m_keep_l 340 0 FU σ rfl (by rw [FU_eq]; omega)
  have q1 : f_M_keep_2 FU (0 : Int32) σ = _ := q1
  rw [q1]
  refine ⟨_, rfl, ?_, uI_same, (q2.mono (fun c hc => Or.inr hc)).tr (fr.uI (Or.inl rfl)), fun i hi => by rw [uI_i hi, q2.at (by decide)]⟩
  rw [uIc (by decide)]
  funext i
  by_cases hi : i < 340
  · rw [q3 i (Nat.zero_le _) hi, hs]
  · rw [q4 i (by omega), h1 i (by omega), h2 i (by omega)]
theorem cq_again {σ : SG} {K : Nat → Int32} {R : List RU} (hk : ¬ σ.1 0 3 = 0) (h : TN 55 σ K R) : ∃ σ', f_H_again σ = some (K 0, σ') ∧ TN 20 σ' K R ∧ fr (fun c => 20 ≤ c ∧ c ≤ 54) σ σ' := by
  obtain ⟨σ', q1, q2, q3⟩ := b_copyFrom (t := 20) (a := 55) (by omega) h
  unfold f_H_again
  rw [if_pos hk, q1, bnd_some, q3.1.1]
  exact ⟨σ', rfl, q3, q2⟩
theorem mq_again {σ : SG} {K : Nat → Int32} (hk : ¬ σ.1 148 3 = 0) (hs : σ.1 150 = K) (h1 : R340 K) (h2 : R340 (σ.1 149)) : ∃ σ', f_M_again σ = some (K 0, σ') ∧ σ'.1 149 = K ∧ fr (fun c => c = 149) σ σ' := by
  unfold f_M_again
  obtain ⟨τ, q1, q2, q3, q4⟩ := m_again_l 340 0 FU σ rfl (by rw [FU_eq]; omega)
  have q1 : f_M_again_12 FU (0 : Int32) σ = _ := q1
  have e : τ.1 149 = K := by
    funext i
    by_cases hi : i < 340
    · rw [q3 i (Nat.zero_le _) hi, hs]
    · rw [q4 i (by omega), h1 i (by omega), h2 i (by omega)]
  rw [if_pos hk, q1, e]
  exact ⟨τ, rfl, e, q2⟩
