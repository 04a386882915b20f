/-! the questions about her LAW, both sides -/
theorem fitF_no {S : Nat → Int32} {a b s s' : Int32} (h : ∀ i, i < 6 → ¬ nI i = s) (h' : ∀ i, i < 6 → ¬ nI i = s') : ∀ d i, i + d ≤ 6 → fitF S a b s d i = fitF S a b s' d i := by
  intro d
  induction d with
  | zero => intro i _; rfl
  | succ d ih =>
    intro i hi
    rw [fitF, fitF, if_neg (h i (by omega)), if_neg (h' i (by omega)), ih (i + 1) (by omega)]
theorem fit_31 {S : Nat → Int32} (h3 : rg (S 3) 6) (a b : Int32) : fitA S a b (-3) = fitA S a b (-1) := by
  have h6 := h3.1
  exact fitF_no (by decide) (by decide) _ 0 (by omega)
theorem fsB_31 {S : Nat → Int32} (h3 : rg (S 3) 6) (a : Nat) : ∀ d b, fsB S (-3) a d b = fsB S (-1) a d b ∧ cnB S (-3) a d b = cnB S (-1) a d b := by
  intro d
  induction d with
  | zero => intro b; exact ⟨rfl, rfl⟩
  | succ d ih =>
    intro b
    rw [fsB, fsB, cnB, cnB, fit_31 h3, (ih (b + 1)).1, (ih (b + 1)).2]
    exact ⟨rfl, rfl⟩
theorem fsL_31 {S : Nat → Int32} (h3 : rg (S 3) 6) : ∀ e a, fsL S (-3) e a = fsL S (-1) e a ∧ cnL S (-3) e a = cnL S (-1) e a := by
  intro e
  induction e with
  | zero => intro a; exact ⟨rfl, rfl⟩
  | succ e ih =>
    intro a
    rw [fsL, fsL, cnL, cnL, (fsB_31 h3 a 51 0).1, (fsB_31 h3 a 51 0).2, (ih (a + 1)).1, (ih (a + 1)).2]
    exact ⟨rfl, rfl⟩
theorem fsB_lt {S : Nat → Int32} {sk : Int32} {a q : Nat} : ∀ d b, fsB S sk a d b = some q → q < b + d := by
  intro d
  induction d with
  | zero => intro b h; cases h
  | succ d ih =>
    intro b h
    rw [fsB] at h
    by_cases e : fitA S (nI a) (nI b) sk = 0
    · rw [if_pos e] at h
      have := ih (b + 1) h
      omega
    · rw [if_neg e] at h
      have := Option.some.inj h
      omega
theorem fsL_lt {S : Nat → Int32} {sk : Int32} {z : Nat × Nat} : ∀ e a, fsL S sk e a = some z → z.1 < a + e ∧ z.2 < 51 := by
  intro e
  induction e with
  | zero => intro a h; cases h
  | succ e ih =>
    intro a h
    rw [fsL] at h
    cases hb : fsB S sk a 51 0 with
    | none =>
      rw [hb] at h
      have := ih (a + 1) h
      omega
    | some b =>
      rw [hb] at h
      have h2 := fsB_lt 51 0 hb
      rw [← Option.some.inj h]
      exact ⟨by show a < _; omega, by show b < 51; omega⟩
def spI (x : Int32) : Option (Nat × Nat) → Int32
  | none => -3
  | some z => if x = 1 then nI z.1 else nI z.2
def spanA (S : Nat → Int32) (x : Int32) : Int32 := if 0 ≤ x ∧ x ≤ 2 then (if x = 0 then nI (cnL S (-1) 4 0) else spI x (fsL S (-1) 4 0)) else -1
theorem cq_span {σ : SG} {S : Nat → Int32} (h : RPT 20 σ S) (x : Int32) : f_H_span x σ = some (spanA S x, σ) := by
  unfold f_H_span spanA
  rw [b_isIn, bnd_some]
  by_cases hx : 0 ≤ x ∧ x ≤ 2
  · rw [if_pos (bI_n0.mpr hx), if_pos hx]
    by_cases h0 : x = 0
    · rw [if_neg (fun z => z h0), if_pos h0, b_lawsThatFit h, bnd_some, (fsL_31 h.1 4 0).2]
    · rw [if_pos h0, if_neg h0, b_firstLaw h, bnd_some, (fsL_31 h.1 4 0).1]
      cases hf : fsL S (-1) 4 0 with
      | none => rw [if_neg (show ¬ (0 : Int32) ≤ lwI none by decide)]; rfl
      | some z =>
        obtain ⟨z1, z2⟩ := fsL_lt 4 0 hf
        have e : lwI (some z) = nI (z.1 * 51 + z.2) := rfl
        have ed : nI (z.1 * 51 + z.2) / (51 : Int32) = nI z.1 := by
          rw [show (51 : Int32) = nI 51 from rfl, n_div (by omega) (by decide)]
          congr 1
          omega
        have em : nI (z.1 * 51 + z.2) - nI z.1 * (51 : Int32) = nI z.2 := by
          rw [show nI z.1 * (51 : Int32) = nI (z.1 * 51) from n_mul _ 51, n_sub (by omega)]
          congr 1
          omega
        rw [e, if_pos (nI_pos' (by omega)), ed, em]
        by_cases h1 : x = 1
        · rw [if_neg (fun z => z h1)]
          show _ = some (if x = 1 then nI z.1 else nI z.2, σ)
          rw [if_pos h1]
        · rw [if_pos h1]
          show _ = some (if x = 1 then nI z.1 else nI z.2, σ)
          rw [if_neg h1]
  · rw [if_neg (fun z => z (bI_0.mpr hx)), if_neg hx]
theorem mq_span {σ : SG} (h3 : rg (σ.1 149 3) 6) (x : Int32) : ∃ σ', f_M_span x σ = some (spanA (σ.1 149) x, σ') ∧ FMO σ σ' := by
  unfold f_M_span spanA
  rw [m_in32 (a := 0) (b := 2) (by decide) (by decide), bnd_some]
  by_cases hx : 0 ≤ x ∧ x ≤ 2
  · rw [if_pos (bI_n0.mpr hx), if_pos hx]
    obtain ⟨σ', q1, q2, q3, q4, q5⟩ := m_findFits h3 (-1)
    rw [q1, bnd_some, q3]
    refine ⟨σ', ?_, q2⟩
    by_cases h0 : x = 0
    · rw [if_neg (fun z => z h0), if_pos h0]
    · rw [if_pos h0, if_neg h0]
      cases hf : fsL (σ.1 149) (-1) 4 0 with
      | none =>
        rw [hf] at q5
        have q5 : cnL (σ.1 149) (-1) 4 0 = 0 := q5
        rw [q5, if_neg (fun z => z rfl)]
        rfl
      | some z =>
        rw [hf] at q5
        obtain ⟨p1, p2, p3⟩ := q5
        rw [if_pos (fun q => by have := (n_inj (b := 0) (by omega) (by decide)).mp q; omega), p2, p3]
        by_cases h1 : x = 1
        · rw [if_neg (fun z => z h1)]
          show _ = some (if x = 1 then nI z.1 else nI z.2, σ')
          rw [if_pos h1]
        · rw [if_pos h1]
          show _ = some (if x = 1 then nI z.1 else nI z.2, σ')
          rw [if_neg h1]
  · rw [if_neg (fun z => z (bI_0.mpr hx)), if_neg hx]
    exact ⟨σ, rfl, fr.rf, fun _ _ => rfl⟩
