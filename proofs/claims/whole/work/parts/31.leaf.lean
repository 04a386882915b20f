/-! truth as an int -/
def bI (c : Prop) [Decidable c] : Int32 := if c then 1 else 0
theorem bI_pos {c : Prop} [Decidable c] (h : c) : bI c = 1 := if_pos h
theorem bI_neg {c : Prop} [Decidable c] (h : ¬ c) : bI c = 0 := if_neg h
theorem bI_01 {c : Prop} [Decidable c] : bI c = 0 ∨ bI c = 1 := by
  by_cases h : c
  · exact Or.inr (bI_pos h)
  · exact Or.inl (bI_neg h)
theorem bI_0 {c : Prop} [Decidable c] : bI c = 0 ↔ ¬ c := by
  by_cases h : c
  · rw [bI_pos h]
    exact ⟨fun z => absurd z (by decide), fun z => absurd h z⟩
  · rw [bI_neg h]
    exact ⟨fun _ => h, fun _ => rfl⟩
theorem bI_n0 {c : Prop} [Decidable c] : (¬ bI c = 0) ↔ c := by
  rw [bI_0]
  exact Decidable.not_not
theorem bI_1 {c : Prop} [Decidable c] : bI c = 1 ↔ c := by
  by_cases h : c
  · rw [bI_pos h]
    exact ⟨fun _ => h, fun _ => rfl⟩
  · rw [bI_neg h]
    exact ⟨fun z => absurd z (by decide), fun z => absurd z h⟩
theorem bI_iff {c d : Prop} [Decidable c] [Decidable d] (h : c ↔ d) : bI c = bI d := by
  by_cases hc : c
  · rw [bI_pos hc, bI_pos (h.mp hc)]
  · rw [bI_neg hc, bI_neg (fun z => hc (h.mpr z))]
theorem bI_ite {c : Prop} [Decidable c] : bI c = if c then 1 else 0 := rfl
theorem gd01 {c : Prop} [Decidable c] {σ : SG} : gd (bI c = 0 ∨ bI c = 1) (some (bI c, σ)) = some (bI c, σ) := gd_pos bI_01
/-! leaves of the class -/
theorem b_isIn (v a b : Int32) (σ : SG) : f_H_isIn v a b σ = some (bI (a ≤ v ∧ v ≤ b), σ) := by
  unfold f_H_isIn
  by_cases h1 : v < a
  · rw [if_pos h1, bI_neg (fun z => absurd h1 (Int32.not_lt.mpr z.1))]
  · rw [if_neg h1]
    by_cases h2 : b < v
    · rw [if_pos h2, bI_neg (fun z => absurd h2 (Int32.not_lt.mpr z.2))]
    · rw [if_neg h2, bI_pos ⟨Int32.not_lt.mp h1, Int32.not_lt.mp h2⟩]
theorem b_isThing (v : Int32) (σ : SG) : f_H_isThing v σ = some (bI (0 ≤ v ∧ v ≤ 7), σ) := by
  unfold f_H_isThing
  rw [b_isIn, bnd_some, gd01]
theorem b_isSheet (v : Int32) (σ : SG) : f_H_isSheet v σ = some (bI (0 ≤ v ∧ v ≤ 3), σ) := by
  unfold f_H_isSheet
  rw [b_isIn, bnd_some, gd01]
theorem b_isPerson (t : Nat) (x : Int32) (σ : SG) : f_To_isPerson t x σ = some (bI (0 ≤ x ∧ x < σ.1 t 2), σ) := by
  unfold f_To_isPerson
  by_cases h1 : x < 0
  · rw [if_pos h1, bI_neg (fun z => absurd h1 (Int32.not_lt.mpr z.1))]
  · rw [if_neg h1]
    by_cases h2 : σ.1 t 2 ≤ x
    · rw [if_pos h2, bI_neg (fun z => absurd h2 (Int32.not_le.mpr z.2))]
    · rw [if_neg h2, bI_pos ⟨Int32.not_lt.mp h1, Int32.not_le.mp h2⟩]
/-! leaves of the reference -/
theorem lg_lt0 (x y : Int64) : lg_cmp x y < 0 ↔ x < y := by
  unfold lg_cmp
  by_cases h : x > y
  · rw [if_pos h]
    exact ⟨fun z => absurd z (by decide), fun z => by rw [gt_iff_lt, Int64.lt_iff_toInt_lt] at h; rw [Int64.lt_iff_toInt_lt] at z; omega⟩
  · rw [if_neg h]
    by_cases h2 : x = y
    · rw [if_pos h2, h2]
      exact ⟨fun z => absurd z (by decide), fun z => by rw [Int64.lt_iff_toInt_lt] at z; omega⟩
    · rw [if_neg h2]
      refine ⟨fun _ => ?_, fun _ => by decide⟩
      rw [gt_iff_lt, Int64.lt_iff_toInt_lt] at h
      rw [Int64.lt_iff_toInt_lt]
      have : x.toInt ≠ y.toInt := fun z => h2 (Int64.toInt_inj.mp z)
      omega
theorem lg_gt0 (x y : Int64) : 0 < lg_cmp x y ↔ y < x := by
  unfold lg_cmp
  by_cases h : x > y
  · rw [if_pos h]
    exact ⟨fun _ => h, fun _ => by decide⟩
  · rw [if_neg h]
    by_cases h2 : x = y
    · rw [if_pos h2, h2]
      exact ⟨fun z => absurd z (by decide), fun z => by rw [Int64.lt_iff_toInt_lt] at z; omega⟩
    · rw [if_neg h2]
      exact ⟨fun z => absurd z (by decide), fun z => absurd z h⟩
theorem m_in (x y z : Int64) (σ : SG) : f_M_in x y z σ = some (bI (y ≤ x ∧ x ≤ z), σ) := by
  unfold f_M_in
  by_cases h1 : x < y
  · rw [if_pos ((lg_lt0 x y).mpr h1), bI_neg (fun q => absurd h1 (Int64.not_lt.mpr q.1))]
  · rw [if_neg (fun q => h1 ((lg_lt0 x y).mp q))]
    by_cases h2 : z < x
    · rw [if_pos ((lg_gt0 x z).mpr h2), bI_neg (fun q => absurd h2 (Int64.not_lt.mpr q.2))]
    · rw [if_neg (fun q => h2 ((lg_gt0 x z).mp q)), bI_pos ⟨Int64.not_lt.mp h1, Int64.not_lt.mp h2⟩]
theorem l_le {x : Int32} {a : Int32} {A : Int64} (h : A.toInt = a.toInt) : (x.toInt64 ≤ A ↔ x ≤ a) := by
  rw [Int64.le_iff_toInt_le, Int32.toInt_toInt64, h, i_le]
theorem l_ge {x : Int32} {a : Int32} {A : Int64} (h : A.toInt = a.toInt) : (A ≤ x.toInt64 ↔ a ≤ x) := by
  rw [Int64.le_iff_toInt_le, Int32.toInt_toInt64, h, i_le]
theorem m_in32 {x a b : Int32} {A B : Int64} (hA : A.toInt = a.toInt) (hB : B.toInt = b.toInt) (σ : SG) : f_M_in x.toInt64 A B σ = some (bI (a ≤ x ∧ x ≤ b), σ) := by
  rw [m_in]
  exact congrArg (fun q => some (q, σ)) (bI_iff (and_congr (l_ge hA) (l_le hB)))
theorem m_isThing (v : Int32) (σ : SG) : f_M_isThing v σ = some (bI (0 ≤ v ∧ v ≤ 7), σ) := by
  unfold f_M_isThing
  rw [m_in32 (a := 0) (b := 7) (by decide) (by decide), bnd_some, gd01]
theorem m_isKind (v : Int32) (σ : SG) : f_M_isKind v σ = some (bI (1 ≤ v ∧ v ≤ 5), σ) := by
  unfold f_M_isKind
  rw [m_in32 (a := 1) (b := 5) (by decide) (by decide), bnd_some, gd01]
theorem m_isOne (v : Int32) (σ : SG) : f_M_isOne v σ = some (bI (0 ≤ v ∧ v ≤ 3), σ) := by
  unfold f_M_isOne
  rw [m_in32 (a := 0) (b := 3) (by decide) (by decide), bnd_some, gd01]
/-- an int of the span 0..b, as its natural number -/
def rg (x : Int32) (b : Nat) : Prop := nx x ≤ b ∧ x = nI (nx x)
theorem rg_nI {k b : Nat} (h : k ≤ b) (hb : b < 2147483648) : rg (nI k) b := by
  have e := nx_nI (show k < 2147483648 by omega)
  exact ⟨by rw [e]; exact h, by rw [e]⟩
theorem rg.ex {x : Int32} {b : Nat} (h : rg x b) : ∃ k, k ≤ b ∧ x = nI k := ⟨_, h.1, h.2⟩
theorem rg_of {x : Int32} {b : Nat} (hb : b < 2147483648) (h0 : 0 ≤ x) (h1 : x ≤ nI b) : rg x b := by
  rw [i_le, nI_toInt hb] at h1
  rw [i_le] at h0
  have h0 : 0 ≤ x.toInt := h0
  obtain ⟨k, hk, rfl⟩ := n_of h0 (show x.toInt < ((b + 1 : Nat) : Int) by omega)
  exact rg_nI (by omega) hb
theorem rg.mono {x : Int32} {b c : Nat} (h : rg x b) (hc : b ≤ c) : rg x c := ⟨Nat.le_trans h.1 hc, h.2⟩
theorem rg.toInt {x : Int32} {b : Nat} (h : rg x b) (hb : b < 2147483648) : x.toInt = (nx x : Int) := by
  rw [h.2, nx_nI (by have := h.1; omega), nI_toInt (by have := h.1; omega)]
theorem m_isPerson {x : Int32} {σ : SG} (h : rg (σ.1 149 0) 6) : f_M_isPerson x σ = some (bI (0 ≤ x ∧ x < σ.1 149 0), σ) := by
  unfold f_M_isPerson
  obtain ⟨n, hn, e⟩ := h.ex
  have hs : (σ.1 149 0 - (1 : Int32)).toInt = (n : Int) - 1 := by
    rw [e]
    match n, hn with
    | 0, _ => decide
    | n + 1, hn =>
      rw [nI_pred, nI_toInt (by omega)]
      omega
  rw [m_in32 (a := 0) (b := σ.1 149 0 - 1) (by decide) (Int32.toInt_toInt64 _), bnd_some, gd01]
  refine congrArg (fun q => some (q, σ)) (bI_iff (and_congr Iff.rfl ?_))
  rw [i_le, i_lt, hs, e, nI_toInt (by omega)]
  omega
theorem m_at {p w : Nat} (σ : SG) : f_M_at (nI p) (nI w) σ = some (nI (22 + 5 * p + w), σ) := by
  unfold f_M_at
  rw [show (22 : Int32) = nI 22 from rfl, show (5 : Int32) = nI 5 from rfl, n_mul, n_add, n_add]
theorem m_its {p w : Nat} {σ : SG} (hp : p < 6) (hw : w < 5) : f_M_its (nI p) (nI w) σ = some (σ.1 149 (22 + 5 * p + w), σ) := by
  unfold f_M_its
  rw [m_at, bnd_some, gd_pos (ix_nI (by omega) (by omega)), nx_nI (by omega)]
theorem m_its0 {p : Nat} {σ : SG} (hp : p < 6) : f_M_its (nI p) (0 : Int32) σ = some (σ.1 149 (22 + 5 * p), σ) := m_its (w := 0) hp (by decide)
theorem m_its1 {p : Nat} {σ : SG} (hp : p < 6) : f_M_its (nI p) (1 : Int32) σ = some (σ.1 149 (22 + 5 * p + 1), σ) := m_its (w := 1) hp (by decide)
theorem m_its2 {p : Nat} {σ : SG} (hp : p < 6) : f_M_its (nI p) (2 : Int32) σ = some (σ.1 149 (22 + 5 * p + 2), σ) := m_its (w := 2) hp (by decide)
theorem m_its3 {p : Nat} {σ : SG} (hp : p < 6) : f_M_its (nI p) (3 : Int32) σ = some (σ.1 149 (22 + 5 * p + 3), σ) := m_its (w := 3) hp (by decide)
theorem m_its4 {p : Nat} {σ : SG} (hp : p < 6) : f_M_its (nI p) (4 : Int32) σ = some (σ.1 149 (22 + 5 * p + 4), σ) := m_its (w := 4) hp (by decide)
theorem m_isWhole {p : Nat} {σ : SG} (hp : p < 6) : f_M_isWhole (nI p) σ = some (bI (σ.1 149 (22 + 5 * p + 1) = σ.1 149 (22 + 5 * p + 2)), σ) := by
  unfold f_M_isWhole
  rw [m_its1 hp, bnd_some, m_its2 hp, bnd_some]
  by_cases h : σ.1 149 (22 + 5 * p + 1) = σ.1 149 (22 + 5 * p + 2)
  · rw [if_neg (fun z => z h), bI_pos h]
  · rw [if_pos h, bI_neg h]
theorem m_atLeast (x : Int32) (σ : SG) : f_M_atLeast x σ = some (if 0 ≤ x then x else 0, σ) := by
  unfold f_M_atLeast
  by_cases h : 0 ≤ x
  · rw [if_pos h, if_pos h]
  · rw [if_neg h, if_neg h]
/-- of the KINDS a and b: whether a stands under b -/
abbrev und (a b : Int32) : Prop := b = 0 ∨ a = b ∨ (b = 2 ∧ a = 3) ∨ (b = 4 ∧ a = 5)
theorem m_isUnder (a b : Int32) (σ : SG) : f_M_isUnder a b σ = some (bI (und a b), σ) := by
  unfold f_M_isUnder
  by_cases h0 : b = 0
  · rw [if_pos h0, bI_pos (Or.inl h0)]
  · rw [if_neg h0]
    by_cases h1 : a = b
    · rw [if_pos h1, bI_pos (Or.inr (Or.inl h1))]
    · rw [if_neg h1]
      by_cases h2 : b = 2
      · rw [if_neg (fun z => z h2)]
        by_cases h3 : a = 3
        · rw [if_pos h3, bI_pos (Or.inr (Or.inr (Or.inl ⟨h2, h3⟩)))]
        · have h4 : ¬ b = 4 := by rw [h2]; decide
          rw [if_neg h3, if_pos h4, bI_neg]
          rintro (z | z | z | z)
          · exact h0 z
          · exact h1 z
          · exact h3 z.2
          · exact h4 z.1
      · rw [if_pos h2]
        by_cases h4 : b = 4
        · rw [if_neg (fun z => z h4)]
          by_cases h5 : a = 5
          · rw [if_neg (fun z => z h5), bI_pos (Or.inr (Or.inr (Or.inr ⟨h4, h5⟩)))]
          · rw [if_pos h5, bI_neg]
            rintro (z | z | z | z)
            · exact h0 z
            · exact h1 z
            · exact h2 z.1
            · exact h5 z.2
        · rw [if_pos h4, bI_neg]
          rintro (z | z | z | z)
          · exact h0 z
          · exact h1 z
          · exact h2 z.1
          · exact h4 z.1
theorem und_above {a : Nat} (ha : a ≤ 5) (b : Int32) : und (nI a) b ↔ (b = 0 ∨ nI a = b ∨ tABOVE a = b) := by
  match a, ha with
  | 0, _ =>
    rw [show tABOVE 0 = 0 from rfl]
    exact ⟨fun h => by rcases h with h | h | ⟨_, h⟩ | ⟨_, h⟩; exact Or.inl h; exact Or.inr (Or.inl h); exact absurd h (by decide); exact absurd h (by decide), fun h => by rcases h with h | h | h; exact Or.inl h; exact Or.inr (Or.inl h); exact Or.inl h.symm⟩
  | 1, _ =>
    rw [show tABOVE 1 = 0 from rfl]
    exact ⟨fun h => by rcases h with h | h | ⟨_, h⟩ | ⟨_, h⟩; exact Or.inl h; exact Or.inr (Or.inl h); exact absurd h (by decide); exact absurd h (by decide), fun h => by rcases h with h | h | h; exact Or.inl h; exact Or.inr (Or.inl h); exact Or.inl h.symm⟩
  | 2, _ =>
    rw [show tABOVE 2 = 0 from rfl]
    exact ⟨fun h => by rcases h with h | h | ⟨_, h⟩ | ⟨_, h⟩; exact Or.inl h; exact Or.inr (Or.inl h); exact absurd h (by decide); exact absurd h (by decide), fun h => by rcases h with h | h | h; exact Or.inl h; exact Or.inr (Or.inl h); exact Or.inl h.symm⟩
  | 3, _ =>
    rw [show tABOVE 3 = 2 from rfl]
    exact ⟨fun h => by rcases h with h | h | ⟨h, _⟩ | ⟨_, h⟩; exact Or.inl h; exact Or.inr (Or.inl h); exact Or.inr (Or.inr h.symm); exact absurd h (by decide), fun h => by rcases h with h | h | h; exact Or.inl h; exact Or.inr (Or.inl h); exact Or.inr (Or.inr (Or.inl ⟨h.symm, rfl⟩))⟩
  | 4, _ =>
    rw [show tABOVE 4 = 0 from rfl]
    exact ⟨fun h => by rcases h with h | h | ⟨_, h⟩ | ⟨_, h⟩; exact Or.inl h; exact Or.inr (Or.inl h); exact absurd h (by decide); exact absurd h (by decide), fun h => by rcases h with h | h | h; exact Or.inl h; exact Or.inr (Or.inl h); exact Or.inl h.symm⟩
  | 5, _ =>
    rw [show tABOVE 5 = 4 from rfl]
    exact ⟨fun h => by rcases h with h | h | ⟨_, h⟩ | ⟨h, _⟩; exact Or.inl h; exact Or.inr (Or.inl h); exact absurd h (by decide); exact Or.inr (Or.inr h.symm), fun h => by rcases h with h | h | h; exact Or.inl h; exact Or.inr (Or.inl h); exact Or.inr (Or.inr (Or.inr ⟨h.symm, rfl⟩))⟩
theorem b_isUnder {a : Nat} (ha : a ≤ 5) (b : Int32) (σ : SG) : f_H_isUnder (nI a) b σ = some (bI (und (nI a) b), σ) := by
  rw [bI_iff (und_above ha b)]
  unfold f_H_isUnder
  by_cases h0 : b = 0
  · rw [if_pos h0, bI_pos (Or.inl h0)]
  · rw [if_neg h0]
    by_cases h1 : nI a = b
    · rw [if_pos h1, bI_pos (Or.inr (Or.inl h1))]
    · rw [if_neg h1, gd_pos (ix_nI (by omega) (by omega)), nx_nI (by omega)]
      by_cases h2 : tABOVE a = b
      · rw [if_neg (fun z => z h2), bI_pos (Or.inr (Or.inr h2))]
      · rw [if_pos h2, bI_neg]
        rintro (z | z | z)
        · exact h0 z
        · exact h1 z
        · exact h2 z
/-! lots as loops over people make them; how many of a lot -/
def cN (f : Nat → Bool) : Nat := (f 0).toNat + (f 1).toNat + (f 2).toNat + (f 3).toNat + (f 4).toNat + (f 5).toNat
def onesN : Nat → Int32 → Int32 → Option Int32
  | 0, _, _ => none
  | n + 1, a, x => if x = 0 then some a else onesN n (a + 1) (x &&& (x - 1))
theorem m_ones_N (σ : SG) : ∀ (n : Nat) (a x : Int32), f_M_ones_4 n a x σ = (onesN n a x).map fun r => (r, σ) := by
  intro n
  induction n with
  | zero => intro a x; rfl
  | succ n ih =>
    intro a x
    rw [f_M_ones_4, onesN]
    by_cases h : x = 0
    · rw [if_pos h, if_pos h]
      rfl
    · rw [if_neg h, if_neg h]
      exact ih _ _
theorem onesN_all : ∀ b0 b1 b2 b3 b4 b5 : Bool, onesN FU 0 (nI (wB b0 b1 b2 b3 b4 b5)) = some (nI (b0.toNat + b1.toNat + b2.toNat + b3.toNat + b4.toNat + b5.toNat)) ∧ bcn (nI (wB b0 b1 b2 b3 b4 b5)) = nI (b0.toNat + b1.toNat + b2.toNat + b3.toNat + b4.toNat + b5.toNat) := by decide +kernel
theorem m_ones (f : Nat → Bool) (σ : SG) : f_M_ones (nI (wN f)) σ = some (nI (cN f), σ) := by
  unfold f_M_ones
  rw [m_ones_N]
  have h := (onesN_all (f 0) (f 1) (f 2) (f 3) (f 4) (f 5)).1
  have e : onesN FU 0 (nI (wN f)) = some (nI (cN f)) := h
  rw [e]
  rfl
theorem bcn_wN (f : Nat → Bool) : bcn (nI (wN f)) = nI (cN f) := (onesN_all (f 0) (f 1) (f 2) (f 3) (f 4) (f 5)).2
/-- the lot of those below j -/
def bel (j : Nat) (f : Nat → Bool) : Nat → Bool := fun p => decide (p < j) && f p
theorem bel_S {j : Nat} {f : Nat → Bool} (hj : j < 6) (h : f j = true) : nI (wN (bel j f)) ||| ((1 : Int32) <<< (nI j &&& 31)) = nI (wN (bel (j + 1) f)) := by
  rw [wN_or hj]
  refine congrArg nI (wN_ext fun p _ => ?_)
  unfold bS bel
  by_cases e : p = j
  · subst e
    rw [if_pos rfl, h]
    simp
  · rw [if_neg e]
    have : decide (p < j) = decide (p < j + 1) := by
      by_cases q : p < j
      · rw [decide_eq_true q, decide_eq_true (by omega)]
      · rw [decide_eq_false q, decide_eq_false (by omega)]
    rw [this]
theorem bel_N {j : Nat} {f : Nat → Bool} (h : f j = false) : wN (bel j f) = wN (bel (j + 1) f) := by
  refine wN_ext fun p _ => ?_
  unfold bel
  by_cases e : p = j
  · subst e
    rw [h]
    simp
  · have : decide (p < j) = decide (p < j + 1) := by
      by_cases q : p < j
      · rw [decide_eq_true q, decide_eq_true (by omega)]
      · rw [decide_eq_false q, decide_eq_false (by omega)]
    rw [this]
theorem bel_0 (f : Nat → Bool) : wN (bel 0 f) = 0 := by
  unfold wN bel
  simp
theorem bel_bel {n : Nat} {f : Nat → Bool} : bel n (bel n f) = bel n f := by
  funext p
  unfold bel
  cases decide (p < n) <;> rfl
theorem or_0 (x : Int32) : x ||| 0 = x := by simp
/-! the reference's lots -/
abbrev hsS (S : Nat → Int32) (p : Nat) : Int32 := S (22 + 5 * p + 1)
abbrev ndS (S : Nat → Int32) (p : Nat) : Int32 := S (22 + 5 * p + 2)
abbrev cnS (S : Nat → Int32) (p : Nat) : Int32 := S (22 + 5 * p + 3)
/-- those who are whole and not left out -/
def whS (S : Nat → Int32) (o : Nat → Bool) : Nat → Bool := bel (nx (S 0)) fun p => decide (hsS S p = ndS S p) && !o p
/-- the one that is left out, as the reference keeps it -/
def abs1 (a : Int32) (o : Nat → Bool) : Prop := ∀ p, p < 6 → (o p = true ↔ a = nI p)
theorem m_wholeSet_l {σ : SG} {n : Nat} {o : Nat → Bool} (hn : n ≤ 6) (h0 : σ.1 149 0 = nI n) (ho : abs1 (σ.1 148 4) o) : ∀ (k f j : Nat), j + k = n → k < f → f_M_wholeSet_4 f (nI (wN (bel j fun p => decide (hsS (σ.1 149) p = ndS (σ.1 149) p) && !o p))) (nI j) σ = some (nI (wN (bel n fun p => decide (hsS (σ.1 149) p = ndS (σ.1 149) p) && !o p)), σ) := by
  intro k
  induction k with
  | zero =>
    intro f j hj hf
    obtain ⟨f, rfl⟩ : ∃ g, f = g + 1 := ⟨f - 1, by omega⟩
    have e : j = n := by omega
    subst e
    rw [f_M_wholeSet_4, h0, if_pos (Int32.le_refl _)]
  | succ k ih =>
    intro f j hj hf
    obtain ⟨f, rfl⟩ : ∃ g, f = g + 1 := ⟨f - 1, by omega⟩
    have hj6 : j < 6 := by omega
    rw [f_M_wholeSet_4, h0, if_neg (nI_ge (by omega) (by omega))]
    have e1 : nI j + (1 : Int32) = nI (j + 1) := nI_1 j
    by_cases ha : nI j = σ.1 148 4
    · rw [if_pos ha]
      have hoj : o j = true := (ho j hj6).mpr ha.symm
      show f_M_wholeSet_4 f (nI _ ||| 0) (nI j + 1) σ = _
      rw [or_0, e1, bel_N (by rw [hoj]; simp)]
      exact ih f (j + 1) (by omega) (by omega)
    · rw [if_neg ha, m_isWhole hj6, bnd_some]
      have hoj : o j = false := by
        cases h : o j
        · rfl
        · exact absurd ((ho j hj6).mp h).symm ha
      by_cases hw : hsS (σ.1 149) j = ndS (σ.1 149) j
      · rw [if_neg (bI_n0.mpr hw)]
        show f_M_wholeSet_4 f (nI _ ||| _) (nI j + 1) σ = _
        rw [bel_S hj6 (by rw [hoj, decide_eq_true hw]; rfl), e1]
        exact ih f (j + 1) (by omega) (by omega)
      · rw [if_pos (bI_0.mpr hw)]
        show f_M_wholeSet_4 f (nI _ ||| 0) (nI j + 1) σ = _
        rw [or_0, e1, bel_N (by rw [decide_eq_false hw]; rfl)]
        exact ih f (j + 1) (by omega) (by omega)
theorem FU_eq : FU = 2000 := rfl
theorem m_wholeSet {σ : SG} {o : Nat → Bool} (h : rg (σ.1 149 0) 6) (ho : abs1 (σ.1 148 4) o) : f_M_wholeSet σ = some (nI (wN (whS (σ.1 149) o)), σ) := by
  unfold f_M_wholeSet
  have q := m_wholeSet_l h.1 h.2 ho (nx (σ.1 149 0)) FU 0 (by omega) (by rw [FU_eq]; have := h.1; omega)
  rw [bel_0] at q
  exact q
