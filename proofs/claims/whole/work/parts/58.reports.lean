/-! REPORTS, both sides: does a law fit them, all but one -/
def mx0 (x : Int32) : Int32 := if 0 ≤ x then x else 0
abbrev fiI (S : Nat → Int32) (a b : Int32) (i : Nat) : Prop := a * mx0 (S (52 + 3 * i + 1) - S (52 + 3 * i)) + b = S (52 + 3 * i + 2)
/-- a town of the class holds the reports of S -/
def RPT (t : Nat) (σ : SG) (S : Nat → Int32) : Prop := rg (S 3) 6 ∧ σ.1 t 16 = S 3 ∧ ∀ i, i < nx (S 3) → σ.1 (t + 28 + 1 + i) 0 = S (52 + 3 * i) ∧ σ.1 (t + 28 + 1 + i) 1 = S (52 + 3 * i + 1) ∧ σ.1 (t + 28 + 1 + i) 2 = S (52 + 3 * i + 2)
def fitF (S : Nat → Int32) (a b sk : Int32) : Nat → Nat → Int32
  | 0, _ => 1
  | d + 1, i => if nI i = sk then fitF S a b sk d (i + 1) else if fiI S a b i then fitF S a b sk d (i + 1) else 0
def fitA (S : Nat → Int32) (a b sk : Int32) : Int32 := fitF S a b sk (nx (S 3)) 0
theorem mx0_c (x : Int32) : (if (0 : Int32) < x then x else 0) = mx0 x := by
  unfold mx0
  by_cases h : (0 : Int32) ≤ x
  · rw [if_pos h]
    by_cases h2 : (0 : Int32) < x
    · rw [if_pos h2]
    · rw [if_neg h2]
      rw [i_le] at h
      rw [i_lt] at h2
      exact Int32.toInt_inj.mp (by omega)
  · rw [if_neg h, if_neg (fun z => h (by rw [i_lt] at z; rw [i_le]; omega))]
theorem b_fits_l {t : Nat} {σ : SG} {S : Nat → Int32} {a b sk : Int32} (h : RPT t σ S) : ∀ (d i f : Nat), i + d = nx (S 3) → d < f → f_To_fits_3 t f a b sk (nI i) σ = some (fitF S a b sk d i, σ) := by
  obtain ⟨h1, h2, h3⟩ := h
  have h6 := h1.1
  intro d
  induction d with
  | zero =>
    intro i f hk hf
    obtain ⟨f, rfl⟩ : ∃ g, f = g + 1 := ⟨f - 1, by omega⟩
    have e : i = nx (S 3) := hk
    rw [f_To_fits_3, h2, h1.2, if_pos (by rw [e]; exact Int32.le_refl _)]
    rfl
  | succ d ih =>
    intro i f hk hf
    obtain ⟨f, rfl⟩ : ∃ g, f = g + 1 := ⟨f - 1, by omega⟩
    obtain ⟨c0, c1, c2⟩ := h3 i (by omega)
    have ii : ix (nI i) 6 := ix_nI (by omega) (by decide)
    rw [f_To_fits_3, h2, h1.2, if_neg (nI_ge (show i < nx (S 3) by omega) (by omega)), gd_pos ii, gd_pos ii, nx_nI (by omega), c0, c1, c2, lx_eq, lx_eq, nI_1, mx0_c, ih (i + 1) f (by omega) (by omega), fitF]
    by_cases e1 : nI i = sk
    · rw [if_pos e1, if_pos e1]
    · rw [if_neg e1, if_neg e1, gd_pos ii]
      by_cases e2 : fiI S a b i
      · rw [if_pos e2, if_pos e2]
      · rw [if_neg e2, if_neg e2]
theorem b_fits {t : Nat} {σ : SG} {S : Nat → Int32} (h : RPT t σ S) (a b sk : Int32) : f_To_fits t a b sk σ = some (fitA S a b sk, σ) := by
  have h6 := h.1.1
  exact b_fits_l h (nx (S 3)) 0 FU (by omega) (by rw [FU_eq]; omega)
theorem m_isFit_l {σ : SG} {a b sk : Int32} (h1 : rg (σ.1 149 3) 6) : ∀ (d i f : Nat), i + d = nx (σ.1 149 3) → d < f → f_M_isFit_3 f a b sk (nI i) σ = some (fitF (σ.1 149) a b sk d i, σ) := by
  have h6 := h1.1
  intro d
  induction d with
  | zero =>
    intro i f hk hf
    obtain ⟨f, rfl⟩ : ∃ g, f = g + 1 := ⟨f - 1, by omega⟩
    have e : i = nx (σ.1 149 3) := hk
    rw [f_M_isFit_3, if_pos (by rw [e, ← h1.2]; exact Int32.le_refl _)]
    rfl
  | succ d ih =>
    intro i f hk hf
    obtain ⟨f, rfl⟩ : ∃ g, f = g + 1 := ⟨f - 1, by omega⟩
    have hlt : ¬ σ.1 149 3 ≤ nI i := by
      rw [h1.2]
      exact nI_ge (show i < nx (σ.1 149 3) by omega) (by omega)
    have e52 : (52 : Int32) + (3 : Int32) * nI i = nI (52 + 3 * i) := by
      rw [show (3 : Int32) * nI i = nI (3 * i) from n_mul 3 i]
      exact n_add 52 (3 * i)
    have e2' : nI (52 + 3 * i) + (2 : Int32) = nI (52 + 3 * i + 2) := n_add _ 2
    rw [f_M_isFit_3, if_neg hlt, lx_eq, lx_eq, e52, nI_1, nI_1, e2', ih (i + 1) f (by omega) (by omega), fitF]
    by_cases e1 : nI i = sk
    · rw [if_pos e1, if_pos e1]
    · rw [if_neg e1, if_neg e1, gd_pos (ix_nI (by omega) (by decide)), gd_pos (ix_nI (by omega) (by decide)), nx_nI (by omega), nx_nI (by omega), m_atLeast, bnd_some, gd_pos (ix_nI (by omega) (by decide)), nx_nI (by omega)]
      show (if fiI (σ.1 149) a b i then f_M_isFit_3 f a b sk (nI (i + 1)) σ else some ((0 : Int32), σ)) = some (if fiI (σ.1 149) a b i then fitF (σ.1 149) a b sk d (i + 1) else 0, σ)
      by_cases e2 : fiI (σ.1 149) a b i
      · rw [if_pos e2, if_pos e2]
        exact ih (i + 1) f (by omega) (by omega)
      · rw [if_neg e2, if_neg e2]
theorem m_isFit {σ : SG} (h1 : rg (σ.1 149 3) 6) (a b sk : Int32) : f_M_isFit a b sk σ = some (fitA (σ.1 149) a b sk, σ) := by
  have h6 := h1.1
  exact m_isFit_l h1 (nx (σ.1 149 3)) 0 FU (by omega) (by rw [FU_eq]; omega)
