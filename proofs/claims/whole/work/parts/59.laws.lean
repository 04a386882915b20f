/-! the LAWS that fit, the class's side: the first in their order, how many -/
def fsB (S : Nat → Int32) (sk : Int32) (a : Nat) : Nat → Nat → Option Nat
  | 0, _ => none
  | d + 1, b => if fitA S (nI a) (nI b) sk = 0 then fsB S sk a d (b + 1) else some b
def fsL (S : Nat → Int32) (sk : Int32) : Nat → Nat → Option (Nat × Nat)
  | 0, _ => none
  | e + 1, a => match fsB S sk a 51 0 with
    | some b => some (a, b)
    | none => fsL S sk e (a + 1)
def cnB (S : Nat → Int32) (sk : Int32) (a : Nat) : Nat → Nat → Nat
  | 0, _ => 0
  | d + 1, b => (if fitA S (nI a) (nI b) sk = 0 then 0 else 1) + cnB S sk a d (b + 1)
def cnL (S : Nat → Int32) (sk : Int32) : Nat → Nat → Nat
  | 0, _ => 0
  | e + 1, a => cnB S sk a 51 0 + cnL S sk e (a + 1)
def lwI : Option (Nat × Nat) → Int32
  | none => -3
  | some (a, b) => nI (a * 51 + b)
section LAWS
variable {t : Nat} {σ : SG} {S : Nat → Int32}
theorem n_50 {b : Nat} (h : b < 1000) : (50 : Int32) < nI b ↔ 50 < b := n_lt (by decide) (by omega)
theorem b_first_9 (h : RPT t σ S) (sk : Int32) {K : Int32 → Int32 → SG → Option (Int32 × SG)} {a : Nat} : ∀ (d b f : Nat), b + d = 51 → d < f → f_To_firstLaw_9 t K f sk (nI a) (nI b) σ = match fsB S sk a d b with
    | some b => some (nI (a * 51 + b), σ)
    | none => K sk (nI (a + 1)) σ := by
  intro d
  induction d with
  | zero =>
    intro b f hk hf
    obtain ⟨f, rfl⟩ : ∃ g, f = g + 1 := ⟨f - 1, by omega⟩
    rw [f_To_firstLaw_9, if_pos ((n_50 (by omega)).mpr (by omega)), lx_eq, nI_1]
    rfl
  | succ d ih =>
    intro b f hk hf
    obtain ⟨f, rfl⟩ : ∃ g, f = g + 1 := ⟨f - 1, by omega⟩
    rw [f_To_firstLaw_9, if_neg (fun z => by have := (n_50 (by omega)).mp z; omega), b_fits h, bnd_some, lx_eq, nI_1, fsB]
    by_cases e : fitA S (nI a) (nI b) sk = 0
    · rw [if_pos e, if_pos e]
      exact ih (b + 1) f (by omega) (by omega)
    · rw [if_neg e, if_neg e, show nI a * (51 : Int32) = nI (a * 51) from n_mul a 51, n_add]
theorem b_first_2 (h : RPT t σ S) (sk : Int32) : ∀ (e a f : Nat), a + e = 4 → e < f → f_To_firstLaw_2 t f sk (nI a) σ = some (lwI (fsL S sk e a), σ) := by
  intro e
  induction e with
  | zero =>
    intro a f hk hf
    obtain ⟨f, rfl⟩ : ∃ g, f = g + 1 := ⟨f - 1, by omega⟩
    have ea : a = 4 := hk
    subst ea
    rw [f_To_firstLaw_2, if_pos (by decide)]
    rfl
  | succ e ih =>
    intro a f hk hf
    obtain ⟨f, rfl⟩ : ∃ g, f = g + 1 := ⟨f - 1, by omega⟩
    have z := b_first_9 h sk (K := f_To_firstLaw_2 t f) (a := a) 51 0 FU rfl (by rw [FU_eq]; omega)
    have z : f_To_firstLaw_9 t (f_To_firstLaw_2 t f) FU sk (nI a) (0 : Int32) σ = _ := z
    rw [f_To_firstLaw_2, if_neg (fun q => by have := (n_lt (a := 3) (b := a) (by decide) (by omega)).mp q; omega), z, fsL]
    cases fsB S sk a 51 0 with
    | some b => rfl
    | none => exact ih (a + 1) f (by omega) (by omega)
theorem b_firstLaw (h : RPT t σ S) (sk : Int32) : f_To_firstLaw t sk σ = some (lwI (fsL S sk 4 0), σ) := b_first_2 h sk 4 0 FU rfl (by rw [FU_eq]; omega)
theorem b_laws_11 (h : RPT t σ S) {K : Int32 → Int32 → SG → Option (Int32 × SG)} {a : Nat} : ∀ (d b f c : Nat), b + d = 51 → d < f → f_To_lawsThatFit_11 t K f (nI c) (nI a) (nI b) σ = K (nI (c + cnB S (-3) a d b)) (nI (a + 1)) σ := by
  intro d
  induction d with
  | zero =>
    intro b f c hk hf
    obtain ⟨f, rfl⟩ : ∃ g, f = g + 1 := ⟨f - 1, by omega⟩
    rw [f_To_lawsThatFit_11, if_pos ((n_50 (by omega)).mpr (by omega)), lx_eq, nI_1]
    rfl
  | succ d ih =>
    intro b f c hk hf
    obtain ⟨f, rfl⟩ : ∃ g, f = g + 1 := ⟨f - 1, by omega⟩
    rw [f_To_lawsThatFit_11, if_neg (fun z => by have := (n_50 (by omega)).mp z; omega), b_fits h, bnd_some, cnB]
    by_cases e : fitA S (nI a) (nI b) (-3) = 0
    · rw [if_pos e, if_pos e, lx_eq, nI_1, ih (b + 1) f c (by omega) (by omega), Nat.zero_add]
    · rw [if_neg e, if_neg e, lx_eq, lx_eq, nI_1, nI_1, ih (b + 1) f (c + 1) (by omega) (by omega), Nat.add_assoc]
theorem b_laws_4 (h : RPT t σ S) : ∀ (e a f c : Nat), a + e = 4 → e < f → f_To_lawsThatFit_4 t f (nI c) (nI a) σ = some (nI (c + cnL S (-3) e a), σ) := by
  intro e
  induction e with
  | zero =>
    intro a f c hk hf
    obtain ⟨f, rfl⟩ : ∃ g, f = g + 1 := ⟨f - 1, by omega⟩
    have ea : a = 4 := hk
    subst ea
    rw [f_To_lawsThatFit_4, if_pos (by decide)]
    rfl
  | succ e ih =>
    intro a f c hk hf
    obtain ⟨f, rfl⟩ : ∃ g, f = g + 1 := ⟨f - 1, by omega⟩
    have z := b_laws_11 h (K := f_To_lawsThatFit_4 t f) (a := a) 51 0 FU c rfl (by rw [FU_eq]; omega)
    have z : f_To_lawsThatFit_11 t (f_To_lawsThatFit_4 t f) FU (nI c) (nI a) (0 : Int32) σ = _ := z
    rw [f_To_lawsThatFit_4, if_neg (fun q => by have := (n_lt (a := 3) (b := a) (by decide) (by omega)).mp q; omega), z, ih (a + 1) f _ (by omega) (by omega), cnL, Nat.add_assoc]
theorem b_lawsThatFit (h : RPT t σ S) : f_To_lawsThatFit t σ = some (nI (cnL S (-3) 4 0), σ) := by
  have z := b_laws_4 h 4 0 FU 0 rfl (by rw [FU_eq]; omega)
  rw [Nat.zero_add] at z
  exact z
end LAWS
