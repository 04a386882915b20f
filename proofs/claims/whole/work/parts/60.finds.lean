/-! the LAWS that fit, the reference's side -/
def upo (x y : Option (Nat × Nat)) : Option (Nat × Nat) := match x with
  | some z => some z
  | none => y
def FTf (σ : SG) (c : Nat) : Option (Nat × Nat) → Prop
  | none => c = 0
  | some z => 0 < c ∧ σ.1 148 21 = nI z.1 ∧ σ.1 148 22 = nI z.2
def FT (σ : SG) (c : Nat) (x : Option (Nat × Nat)) : Prop := σ.1 148 20 = nI c ∧ c < 100000 ∧ FTf σ c x
abbrev FMO (σ σ' : SG) : Prop := fr (fun c => c = 148) σ σ' ∧ ∀ i, ¬ (20 ≤ i ∧ i ≤ 22) → σ'.1 148 i = σ.1 148 i
theorem cnB_le (S : Nat → Int32) (sk : Int32) (a : Nat) : ∀ d b, cnB S sk a d b ≤ d := by
  intro d
  induction d with
  | zero => intro b; exact Nat.le_refl _
  | succ d ih =>
    intro b
    have := ih (b + 1)
    rw [cnB]
    by_cases e : fitA S (nI a) (nI b) sk = 0
    · rw [if_pos e]; omega
    · rw [if_neg e]; omega
theorem m_ff_14 {S : Nat → Int32} (h3 : rg (S 3) 6) (sk : Int32) {K : Int32 → Int32 → SG → Option (Unit × SG)} {a : Nat} : ∀ (d b f c : Nat) (x : Option (Nat × Nat)) (σ : SG), b + d = 51 → d < f → σ.1 149 = S → FT σ c x → c + d < 1000 → ∃ σ', f_M_findFits_14 K f sk (nI a) (nI b) σ = K sk (nI (a + 1)) σ' ∧ FMO σ σ' ∧ FT σ' (c + cnB S sk a d b) (upo x ((fsB S sk a d b).map fun b => (a, b))) := by
  intro d
  induction d with
  | zero =>
    intro b f c x σ hk hf hs hF hc
    obtain ⟨f, rfl⟩ : ∃ g, f = g + 1 := ⟨f - 1, by omega⟩
    rw [f_M_findFits_14, if_pos ((n_50 (by omega)).mpr (by omega)), lx_eq, nI_1]
    refine ⟨σ, rfl, ⟨fr.rf, fun _ _ => rfl⟩, ?_⟩
    have e : upo x ((fsB S sk a 0 b).map fun b => (a, b)) = x := by cases x <;> rfl
    rw [e]
    exact hF
  | succ d ih =>
    intro b f c x σ hk hf hs hF hc
    obtain ⟨f, rfl⟩ : ∃ g, f = g + 1 := ⟨f - 1, by omega⟩
    rw [f_M_findFits_14, if_neg (fun z => by have := (n_50 (by omega)).mp z; omega), m_isFit (by rw [hs]; exact h3), bnd_some, hs, cnB, fsB]
    by_cases e : fitA S (nI a) (nI b) sk = 0
    · rw [if_pos e, if_pos e, if_pos e, lx_eq, nI_1, Nat.zero_add]
      exact ih (b + 1) f c x σ (by omega) (by omega) hs hF (by omega)
    · rw [if_neg e, if_neg e, if_neg e]
      obtain ⟨e20, hc2, hx⟩ := hF
      have go : ∀ (σ3 : SG) (z : Nat × Nat), σ3 = uI (uI (uI σ 148 21 (nI z.1)) 148 22 (nI z.2)) 148 20 (nI (c + 1)) → upo x (some (a, b)) = some z → ∃ σ', f_M_findFits_14 K f sk (nI a) (nI (b + 1)) σ3 = K sk (nI (a + 1)) σ' ∧ FMO σ σ' ∧ FT σ' (c + (1 + cnB S sk a d (b + 1))) (upo x (some (a, b))) := fun σ3 z e3 ez => by
        have f3 : fr (fun c => c = 148) σ σ3 := by rw [e3]; exact (fr.tr fr_u1 fr_u1).tr fr_u1
        have hF3 : FT σ3 (c + 1) (some z) := ⟨by rw [e3, uI_same], by omega, by omega, by rw [e3, uI_i (by decide), uI_i (by decide), uI_same], by rw [e3, uI_i (by decide), uI_same]⟩
        obtain ⟨σ', t1, ⟨t2, t3⟩, t4⟩ := ih (b + 1) f (c + 1) (some z) σ3 (by omega) (by omega) (by rw [f3.1 _ (by decide)]; exact hs) hF3 (by omega)
        refine ⟨σ', t1, ⟨f3.tr t2, fun i hi => ?_⟩, ?_⟩
        · rw [t3 i hi, e3, uI_i (by omega), uI_i (by omega), uI_i (by omega)]
        · rw [ez, show c + (1 + cnB S sk a d (b + 1)) = c + 1 + cnB S sk a d (b + 1) by omega]
          exact t4
      show ∃ σ', _ = K sk (nI (a + 1)) σ' ∧ FMO σ σ' ∧ FT σ' _ (upo x (some (a, b)))
      cases x with
      | none =>
        have hc0 : c = 0 := hx
        have e0 : σ.1 148 20 = 0 := by rw [e20, hc0]; rfl
        rw [if_neg (fun z => z e0)]
        unfold f_M_findFits_46
        rw [sx_eq, uI_i (by decide), if_neg (fun z => z e0), sx_eq, sx_eq, lx_eq, nI_1, uI_i (by decide), uI_i (by decide), e20, nI_1]
        exact go _ (a, b) rfl rfl
      | some z =>
        obtain ⟨hpos, e21, e22⟩ := hx
        have e0 : ¬ σ.1 148 20 = 0 := fun q => by
          rw [e20] at q
          have := (n_inj (a := c) (b := 0) (by omega) (by decide)).mp q
          omega
        rw [if_pos e0]
        unfold f_M_findFits_46
        rw [sx_eq, uI_i (by decide), if_pos e0, sx_eq, sx_eq, lx_eq, nI_1, uI_i (by decide), uI_i (by decide), uI_i (by decide), e20, e21, e22, nI_1]
        exact go _ z rfl rfl
theorem m_ff_7 {S : Nat → Int32} (h3 : rg (S 3) 6) (sk : Int32) : ∀ (e a f c : Nat) (x : Option (Nat × Nat)) (σ : SG), a + e = 4 → e < f → σ.1 149 = S → FT σ c x → c ≤ 51 * a → ∃ σ', f_M_findFits_7 f sk (nI a) σ = some ((), σ') ∧ FMO σ σ' ∧ FT σ' (c + cnL S sk e a) (upo x (fsL S sk e a)) := by
  intro e
  induction e with
  | zero =>
    intro a f c x σ hk hf hs hF hc
    obtain ⟨f, rfl⟩ : ∃ g, f = g + 1 := ⟨f - 1, by omega⟩
    have ea : a = 4 := hk
    subst ea
    rw [f_M_findFits_7, if_pos (by decide)]
    refine ⟨σ, rfl, ⟨fr.rf, fun _ _ => rfl⟩, ?_⟩
    have e : upo x (fsL S sk 0 4) = x := by cases x <;> rfl
    rw [e]
    exact hF
  | succ e ih =>
    intro a f c x σ hk hf hs hF hc
    obtain ⟨f, rfl⟩ : ∃ g, f = g + 1 := ⟨f - 1, by omega⟩
    obtain ⟨σ1, q1, ⟨q2, q3⟩, q4⟩ := m_ff_14 h3 sk (K := f_M_findFits_7 f) (a := a) 51 0 FU c x σ rfl (by rw [FU_eq]; omega) hs hF (by omega)
    have q1 : f_M_findFits_14 (f_M_findFits_7 f) FU sk (nI a) (0 : Int32) σ = _ := q1
    have hb := cnB_le S sk a 51 0
    rw [f_M_findFits_7, if_neg (show ¬ (4 : Int32) ≤ nI a from nI_ge (show a < 4 by omega) (by decide)), q1]
    obtain ⟨σ', t1, ⟨t2, t3⟩, t4⟩ := ih (a + 1) f _ _ σ1 (by omega) (by omega) (by rw [q2.1 _ (by decide)]; exact hs) q4 (by omega)
    refine ⟨σ', t1, ⟨q2.tr t2, fun i hi => by rw [t3 i hi, q3 i hi]⟩, ?_⟩
    have ex : upo (upo x ((fsB S sk a 51 0).map fun b => (a, b))) (fsL S sk e (a + 1)) = upo x (fsL S sk (e + 1) a) := by
      rw [fsL]
      cases x <;> cases fsB S sk a 51 0 <;> rfl
    rw [ex] at t4
    rw [cnL, ← Nat.add_assoc]
    exact t4
theorem m_findFits {σ : SG} (h3 : rg (σ.1 149 3) 6) (sk : Int32) : ∃ σ', f_M_findFits sk σ = some ((), σ') ∧ FMO σ σ' ∧ FT σ' (cnL (σ.1 149) sk 4 0) (fsL (σ.1 149) sk 4 0) := by
  unfold f_M_findFits
  rw [sx_eq]
  have f1 : fr (fun c => c = 148) σ (uI σ 148 20 (0 : Int32)) := fr_u1
  obtain ⟨σ', t1, ⟨t2, t3⟩, t4⟩ := m_ff_7 h3 sk 4 0 FU 0 none (uI σ 148 20 (0 : Int32)) rfl (by rw [FU_eq]; omega) (uIc (by decide)) ⟨uI_same, by decide, rfl⟩ (by decide)
  have t1 : f_M_findFits_7 FU sk (0 : Int32) (uI σ 148 20 (0 : Int32)) = _ := t1
  rw [Nat.zero_add] at t4
  exact ⟨σ', t1, ⟨f1.tr t2, fun i hi => by rw [t3 i hi, uI_i (by omega)]⟩, t4⟩
