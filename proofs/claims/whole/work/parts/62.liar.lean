/-! WHICH REPORT IS WRONG, both sides -/
def liF (S : Nat → Int32) : Nat → Nat → Int32
  | 0, _ => -3
  | d + 1, i => match fsL S (nI i) 4 0 with
    | none => liF S d (i + 1)
    | some _ => nI i
def liarA (S : Nat → Int32) : Int32 := match fsL S (-1) 4 0 with
  | none => liF S (nx (S 3)) 0
  | some _ => -3
theorem lw_neg {S : Nat → Int32} {sk : Int32} : (fsL S sk 4 0 = none → lwI (fsL S sk 4 0) < 0) ∧ (∀ z, fsL S sk 4 0 = some z → ¬ lwI (fsL S sk 4 0) < 0) := by
  refine ⟨fun h => by rw [h]; decide, fun z h => ?_⟩
  obtain ⟨z1, z2⟩ := fsL_lt 4 0 h
  rw [h]
  exact nI_pos (show z.1 * 51 + z.2 < 2147483648 by omega)
theorem c_liar_l {σ : SG} {S : Nat → Int32} (h : RPT 20 σ S) : ∀ (d i f : Nat), i + d = nx (S 3) → d < f → f_H_liar_17 f (nI i) σ = some (liF S d i, σ) := by
  have h6 := h.1.1
  intro d
  induction d with
  | zero =>
    intro i f hk hf
    obtain ⟨f, rfl⟩ : ∃ g, f = g + 1 := ⟨f - 1, by omega⟩
    have e : i = nx (S 3) := hk
    rw [f_H_liar_17, h.2.1, h.1.2, if_pos (by rw [e]; exact Int32.le_refl _)]
    rfl
  | succ d ih =>
    intro i f hk hf
    obtain ⟨f, rfl⟩ : ∃ g, f = g + 1 := ⟨f - 1, by omega⟩
    rw [f_H_liar_17, h.2.1, h.1.2, if_neg (nI_ge (show i < nx (S 3) by omega) (by omega)), b_firstLaw h, bnd_some, liF]
    cases hf : fsL S (nI i) 4 0 with
    | none =>
      rw [if_pos (show lwI none < 0 by decide), lx_eq, nI_1]
      exact ih (i + 1) f (by omega) (by omega)
    | some z =>
      have q := lw_neg.2 z hf
      rw [hf] at q
      rw [if_neg q]
theorem cq_liar {σ : SG} {S : Nat → Int32} (h : RPT 20 σ S) : f_H_liar σ = some (liarA S, σ) := by
  have h6 := h.1.1
  unfold f_H_liar liarA
  rw [b_firstLaw h, bnd_some, (fsL_31 h.1 4 0).1]
  cases hf : fsL S (-1) 4 0 with
  | none =>
    rw [if_pos (show lwI none < 0 by decide)]
    exact c_liar_l h (nx (S 3)) 0 FU (by omega) (by rw [FU_eq]; omega)
  | some z =>
    have q := lw_neg.2 z hf
    rw [hf] at q
    rw [if_neg q]
theorem m_liar_l {S : Nat → Int32} (h3 : rg (S 3) 6) : ∀ (d i f : Nat) (σ : SG), i + d = nx (S 3) → d < f → σ.1 149 = S → ∃ σ', f_M_liar_20 f (1 : Int32) (nI i) σ = some (liF S d i, σ') ∧ FMO σ σ' := by
  have h6 := h3.1
  intro d
  induction d with
  | zero =>
    intro i f σ hk hf hs
    obtain ⟨f, rfl⟩ : ∃ g, f = g + 1 := ⟨f - 1, by omega⟩
    have e : i = nx (S 3) := hk
    rw [f_M_liar_20, hs, h3.2, if_pos (by rw [e]; exact Int32.le_refl _)]
    exact ⟨σ, rfl, fr.rf, fun _ _ => rfl⟩
  | succ d ih =>
    intro i f σ hk hf hs
    obtain ⟨f, rfl⟩ : ∃ g, f = g + 1 := ⟨f - 1, by omega⟩
    rw [f_M_liar_20, hs, h3.2, if_neg (nI_ge (show i < nx (S 3) by omega) (by omega)), if_neg (by decide)]
    obtain ⟨σ1, q1, ⟨q2, q6⟩, q3, q4, q5⟩ := m_findFits (σ := σ) (by rw [hs]; exact h3) (nI i)
    rw [hs] at q3 q4 q5
    rw [q1, bnd_some, q3, liF]
    cases hf : fsL S (nI i) 4 0 with
    | none =>
      rw [hf] at q5
      have q5 : cnL S (nI i) 4 0 = 0 := q5
      rw [q5, if_pos (by decide), lx_eq, nI_1]
      obtain ⟨σ', t1, t2, t3⟩ := ih (i + 1) f σ1 (by omega) (by omega) (by rw [q2.1 _ (by decide)]; exact hs)
      exact ⟨σ', t1, q2.tr t2, fun i hi => by rw [t3 i hi, q6 i hi]⟩
    | some z =>
      rw [hf] at q5
      have hpos : 0 < cnL S (nI i) 4 0 := q5.1
      rw [if_neg (show ¬ nI (cnL S (nI i) 4 0) ≤ 0 from nI_ge (a := 0) hpos (by omega))]
      exact ⟨σ1, rfl, q2, q6⟩
theorem mq_liar {σ : SG} (h3 : rg (σ.1 149 3) 6) : ∃ σ', f_M_liar σ = some (liarA (σ.1 149), σ') ∧ FMO σ σ' := by
  have h6 := h3.1
  unfold f_M_liar liarA
  obtain ⟨σ1, q1, ⟨q2, q6⟩, q3, q4, q5⟩ := m_findFits h3 (-1)
  rw [q1, bnd_some, q3]
  cases hf : fsL (σ.1 149) (-1) 4 0 with
  | none =>
    rw [hf] at q5
    have q5 : cnL (σ.1 149) (-1) 4 0 = 0 := q5
    rw [q5, if_neg (fun z => z rfl)]
    obtain ⟨σ', t1, t2, t3⟩ := m_liar_l h3 (nx (σ.1 149 3)) 0 FU σ1 (by omega) (by rw [FU_eq]; omega) (q2.1 _ (by decide))
    exact ⟨σ', t1, q2.tr t2, fun i hi => by rw [t3 i hi, q6 i hi]⟩
  | some z =>
    rw [hf] at q5
    have hpos : 0 < cnL (σ.1 149) (-1) 4 0 := q5.1
    rw [if_pos (fun q => by have := (n_inj (b := 0) (by omega) (by decide)).mp q; omega)]
    refine ⟨σ1, ?_, q2, q6⟩
    rw [show FU = 1999 + 1 from rfl, f_M_liar_20]
    by_cases hz : σ1.1 149 3 ≤ 0
    · rw [if_pos hz]
    · rw [if_neg hz, if_pos rfl]
