/-! the CHANGES that can be, in their order -/
def CHl : List Nat := [1, 2, 3, 4, 5, 9, 12, 13, 14, 15, 19, 23, 24, 25, 29, 34, 35, 39, 45, 49, 59]
theorem CHl_t : ∀ j, j < 21 → tCHANGES j = nI (CHl.getD j 0) := by decide +kernel
theorem CHl_in : ∀ c, c < 60 → (c ∈ CHl ↔ c / 10 < 6 ∧ (c % 10 = 9 ∨ (c / 10 < c % 10 ∧ c % 10 < 6))) := by decide +kernel
theorem CHl_lt : ∀ c ∈ CHl, c < 60 := by decide +kernel
theorem CHl_s : CHl.Pairwise (· < ·) := by decide +kernel
abbrev canC (S : Nat → Int32) (R : List RU) (o : Nat → Bool) (c : Nat) : Prop := canP S R o (c / 10) (c % 10)
theorem canC_num {S : Nat → Int32} {R : List RU} {o : Nat → Bool} {c : Nat} (h : canC S R o c) : numP S (c / 10) (c % 10) := by
  refine ⟨h.1.1, ?_⟩
  rcases h.2 with z | z
  · exact Or.inl z.1
  · exact Or.inr ⟨z.2.1, z.2.2.1.1⟩
theorem num_in {S : Nat → Int32} {c : Nat} (h6 : ppN S ≤ 6) (h : numP S (c / 10) (c % 10)) : c ∈ CHl ∧ c < 10 * ppN S ∧ c < 60 := by
  have h1 := h.1
  have hc : c < 10 * ppN S := by omega
  refine ⟨(CHl_in c (by omega)).mpr ⟨by omega, ?_⟩, hc, by omega⟩
  rcases h.2 with z | z
  · exact Or.inl z
  · exact Or.inr ⟨z.1, by omega⟩
/-- the least at c or above that can be -/
def nxtA (S : Nat → Int32) (R : List RU) (o : Nat → Bool) (c : Nat) : Option Nat := CHl.find? fun x => decide (c ≤ x) && decide (canC S R o x)
theorem find_hit {q : Nat → Bool} {c : Nat} : ∀ {l : List Nat}, l.Pairwise (· < ·) → c ∈ l → q c = true → l.find? (fun x => decide (c ≤ x) && q x) = some c := by
  intro l
  induction l with
  | nil => intro _ h; cases h
  | cons a l ih =>
    intro hs hm hq
    rw [List.pairwise_cons] at hs
    rw [List.find?_cons]
    rcases List.mem_cons.mp hm with h | h
    · subst h
      simp [hq]
    · have : a < c := hs.1 c h
      have e : decide (c ≤ a) = false := decide_eq_false (by omega)
      rw [e, Bool.false_and]
      exact ih hs.2 h hq
theorem nxtA_hit {S : Nat → Int32} {R : List RU} {o : Nat → Bool} {c : Nat} (h6 : ppN S ≤ 6) (h : canC S R o c) : nxtA S R o c = some c := find_hit CHl_s (num_in h6 (canC_num h)).1 (decide_eq_true h)
theorem nxtA_miss {S : Nat → Int32} {R : List RU} {o : Nat → Bool} {c : Nat} (h : ¬ canC S R o c) : nxtA S R o c = nxtA S R o (c + 1) := by
  unfold nxtA
  congr 1
  funext x
  by_cases e : x = c
  · subst e
    rw [decide_eq_false h, Bool.and_false, Bool.and_false]
  · by_cases q : c ≤ x
    · rw [decide_eq_true q, decide_eq_true (show c + 1 ≤ x by omega)]
    · rw [decide_eq_false q, decide_eq_false (show ¬ c + 1 ≤ x by omega)]
theorem nxtA_end {S : Nat → Int32} {R : List RU} {o : Nat → Bool} {c : Nat} (h6 : ppN S ≤ 6) (h : 10 * ppN S ≤ c) : nxtA S R o c = none := by
  unfold nxtA
  rw [List.find?_eq_none]
  intro x _ hx
  rw [Bool.and_eq_true, decide_eq_true_eq, decide_eq_true_eq] at hx
  have := (num_in h6 (canC_num hx.2)).2.1
  omega
theorem nxtA_some {S : Nat → Int32} {R : List RU} {o : Nat → Bool} {c x : Nat} (h : nxtA S R o c = some x) : c ≤ x ∧ canC S R o x ∧ x ∈ CHl := by
  have h1 := List.find?_some h
  have h2 := List.mem_of_find?_eq_some h
  rw [Bool.and_eq_true, decide_eq_true_eq, decide_eq_true_eq] at h1
  exact ⟨h1.1, h1.2, h2⟩
def nxI : Option Nat → Int32
  | none => -1
  | some c => nI c
theorem m_next_l {S : Nat → Int32} {o : Nat → Bool} {R : List RU} (hg : GD S) (hR : RMt S R) : ∀ (d c f : Nat) (x1 : Int32) (σ : SG), σ.1 149 = S → abs1 (σ.1 148 4) o → c + d = 60 → d < f → x1 < nI c → c < 1000 → ∃ σ', f_M_nextChange_14 f x1 (nI (10 * ppN S)) (nI c) σ = some (nxI (nxtA S R o c), σ') ∧ fr (fun q => q = 152) σ σ' := by
  have h6 : ppN S ≤ 6 := hg.1.1
  intro d
  induction d with
  | zero =>
    intro c f x1 σ hS ho hc hf hx _
    obtain ⟨f, rfl⟩ : ∃ g, f = g + 1 := ⟨f - 1, by omega⟩
    refine ⟨σ, ?_, fr.rf⟩
    rw [f_M_nextChange_14, nxtA_end h6 (by omega)]
    by_cases h : nI (10 * ppN S) ≤ x1
    · rw [if_pos h]; rfl
    · rw [if_neg h, if_pos ((n_le (by omega) (by omega)).mpr (by omega))]; rfl
  | succ d ih =>
    intro c f x1 σ hS ho hc hf hx hc1
    obtain ⟨f, rfl⟩ : ∃ g, f = g + 1 := ⟨f - 1, by omega⟩
    rw [f_M_nextChange_14]
    by_cases hend : 10 * ppN S ≤ c
    · refine ⟨σ, ?_, fr.rf⟩
      rw [nxtA_end h6 hend]
      by_cases h : nI (10 * ppN S) ≤ x1
      · rw [if_pos h]; rfl
      · rw [if_neg h, if_pos ((n_le (by omega) (by omega)).mpr hend)]; rfl
    · have h1 : ¬ nI (10 * ppN S) ≤ x1 := fun z => by
        have q : nI c < nI (10 * ppN S) := (n_lt (by omega) (by omega)).mpr (by omega)
        rw [i_lt] at q hx
        rw [i_le] at z
        omega
      have h2 : ¬ nI (10 * ppN S) ≤ nI c := fun z => hend ((n_le (by omega) (by omega)).mp z)
      have hn : NUM (σ.1 149) (nI c) ↔ numP S (c / 10) (c % 10) := by
        unfold NUM
        rw [nx_nI (by omega), hS]
        exact ⟨fun z => z.2, fun z => ⟨nI_pos' (by omega), z⟩⟩
      have go : ∀ τ : SG, fr (fun q => q = 152) σ τ → ¬ canC S R o c → ∃ σ', f_M_nextChange_14 f x1 (nI (10 * ppN S)) (nI c + 1) τ = some (nxI (nxtA S R o c), σ') ∧ fr (fun q => q = 152) σ σ' := by
        intro τ hτ hno
        rw [nI_1, nxtA_miss hno]
        have hx2 : x1 < nI (c + 1) := by
          have q : nI c < nI (c + 1) := (n_lt (by omega) (by omega)).mpr (by omega)
          rw [i_lt] at q hx ⊢
          omega
        obtain ⟨σ', z1, z2⟩ := ih (c + 1) f x1 τ (by rw [hτ.1 _ (by decide)]; exact hS) (by rw [hτ.at (by decide)]; exact ho) (by omega) (by omega) hx2 (by omega)
        exact ⟨σ', z1, hτ.tr z2⟩
      rw [if_neg h1, if_neg h2, m_isNumber (by rw [hS]; exact hg.1), bnd_some, bI_iff hn]
      by_cases hnum : numP S (c / 10) (c % 10)
      · rw [if_neg (bI_n0.mpr hnum)]
        obtain ⟨τ, q1, q2⟩ := m_canBe (σ := σ) (o := o) (R := R) (k := c) (by omega) (by rw [hS]; exact hg) ho (by rw [hS]; exact hR) (by rw [hS]; exact hnum)
        rw [hS] at q1
        rw [q1, bnd_some]
        by_cases hcan : canC S R o c
        · rw [if_neg (bI_n0.mpr hcan), nxtA_hit h6 hcan]
          exact ⟨τ, rfl, q2⟩
        · rw [if_pos (bI_0.mpr hcan), lx_eq]
          exact go τ q2 hcan
      · rw [if_pos (bI_0.mpr hnum), lx_eq]
        exact go σ fr.rf (fun z => hnum (canC_num z))
/-- the next above: a is the one that it is above, and 1 -/
theorem m_next {a : Nat} {x : Int32} {σ : SG} {o : Nat → Bool} {R : List RU} (hg : GD (σ.1 149)) (ho : abs1 (σ.1 148 4) o) (hR : RMt (σ.1 149) R) (ha : a ≤ 60) (hx : x + 1 = nI a) (hxa : x < nI a) : ∃ σ', f_M_nextChange x σ = some (nxI (nxtA (σ.1 149) R o a), σ') ∧ fr (fun q => q = 152) σ σ' := by
  unfold f_M_nextChange
  have h6 : ppN (σ.1 149) ≤ 6 := hg.1.1
  rw [lx_eq, lx_eq, show σ.1 149 0 = nI (ppN (σ.1 149)) from hg.1.2, show (10 : Int32) = nI 10 from rfl, n_mul, hx]
  exact m_next_l hg hR (60 - a) a FU x σ rfl ho (by omega) (by rw [FU_eq]; omega) hxa (by omega)
theorem m_next0 {σ : SG} {o : Nat → Bool} {R : List RU} (hg : GD (σ.1 149)) (ho : abs1 (σ.1 148 4) o) (hR : RMt (σ.1 149) R) : ∃ σ', f_M_nextChange (-1 : Int32) σ = some (nxI (nxtA (σ.1 149) R o 0), σ') ∧ fr (fun q => q = 152) σ σ' := m_next hg ho hR (by decide) (by decide) (by decide)
theorem m_nextS {c : Nat} {σ : SG} {o : Nat → Bool} {R : List RU} (hg : GD (σ.1 149)) (ho : abs1 (σ.1 148 4) o) (hR : RMt (σ.1 149) R) (hc : c < 60) : ∃ σ', f_M_nextChange (nI c) σ = some (nxI (nxtA (σ.1 149) R o (c + 1)), σ') ∧ fr (fun q => q = 152) σ σ' := m_next hg ho hR (by omega) (nI_1 c) ((n_lt (by omega) (by omega)).mpr (by omega))
/-- all of them from c on -/
def canL (S : Nat → Int32) (R : List RU) (o : Nat → Bool) (c : Nat) : List Nat := CHl.filter fun x => decide (c ≤ x) && decide (canC S R o x)
theorem filt_hit {q : Nat → Bool} {c : Nat} : ∀ {l : List Nat}, l.Pairwise (· < ·) → c ∈ l → q c = true → l.filter (fun x => decide (c ≤ x) && q x) = c :: l.filter (fun x => decide (c + 1 ≤ x) && q x) := by
  intro l
  induction l with
  | nil => intro _ h; cases h
  | cons a l ih =>
    intro hs hm hq
    rw [List.pairwise_cons] at hs
    rw [List.filter_cons, List.filter_cons]
    rcases List.mem_cons.mp hm with h | h
    · subst h
      have e1 : (decide (c ≤ c) && q c) = true := by simp [hq]
      have e2 : ¬ (decide (c + 1 ≤ c) && q c) = true := by simp; omega
      rw [if_pos e1, if_neg e2]
      congr 1
      refine List.filter_congr (fun x hx => ?_)
      have := hs.1 x hx
      rw [decide_eq_true (show c ≤ x by omega), decide_eq_true (show c + 1 ≤ x by omega)]
    · have : a < c := hs.1 c h
      have e1 : ¬ (decide (c ≤ a) && q a) = true := by simp; omega
      have e2 : ¬ (decide (c + 1 ≤ a) && q a) = true := by simp; omega
      rw [if_neg e1, if_neg e2]
      exact ih hs.2 h hq
theorem filt_find {q : Nat → Bool} : ∀ {l : List Nat} {c : Nat}, l.Pairwise (· < ·) → (l.filter (fun x => decide (c ≤ x) && q x)) = match l.find? (fun x => decide (c ≤ x) && q x) with | none => [] | some x => x :: l.filter (fun y => decide (x + 1 ≤ y) && q y) := by
  intro l c hs
  cases h : l.find? (fun x => decide (c ≤ x) && q x) with
  | none =>
    rw [List.find?_eq_none] at h
    show _ = []
    rw [List.filter_eq_nil_iff]
    exact h
  | some x =>
    show _ = x :: _
    have h1 := List.find?_some h
    have h2 := List.mem_of_find?_eq_some h
    rw [Bool.and_eq_true, decide_eq_true_eq] at h1
    rw [← filt_hit hs h2 h1.2]
    refine List.filter_congr (fun y hy => ?_)
    by_cases e : x ≤ y
    · rw [decide_eq_true e, decide_eq_true (show c ≤ y by omega)]
    · rw [decide_eq_false e, Bool.false_and]
      by_cases z : (decide (c ≤ y) && q y) = true
      · exfalso
        have : ∀ {l : List Nat}, l.Pairwise (· < ·) → y ∈ l → l.find? (fun x => decide (c ≤ x) && q x) = some x → x ≤ y := by
          intro l
          induction l with
          | nil => intro _ h; cases h
          | cons a l ih =>
            intro hs hm hf
            rw [List.pairwise_cons] at hs
            rw [List.find?_cons] at hf
            by_cases w : (decide (c ≤ a) && q a) = true
            · rw [w] at hf
              cases hf
              rcases List.mem_cons.mp hm with h | h
              · omega
              · have := hs.1 y h; omega
            · have w : (decide (c ≤ a) && q a) = false := by cases h : (decide (c ≤ a) && q a) <;> first | rfl | exact absurd h w
              rw [w] at hf
              rcases List.mem_cons.mp hm with h | h
              · subst h; rw [w] at z; cases z
              · exact ih hs.2 h hf
        exact e (this hs hy h)
      · cases h : (decide (c ≤ y) && q y) <;> first | rfl | exact absurd h z
theorem canL_eq (S : Nat → Int32) (R : List RU) (o : Nat → Bool) (c : Nat) : canL S R o c = match nxtA S R o c with | none => [] | some x => x :: canL S R o (x + 1) := filt_find CHl_s
