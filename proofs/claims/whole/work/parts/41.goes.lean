/-! SEARCH, told once for both: the complete ROWS of n or fewer, in their order, each with its COINS; how many at most are whole -/
def thrS (S : Nat → Int32) (o : Nat → Bool) : Nat → Bool := bel (ppN S) fun p => !o p
abbrev doneP (S : Nat → Int32) (o : Nat → Bool) : Prop := wN (whS S o) = wN (thrS S o)
abbrev doC (S : Nat → Int32) (R : List RU) (o : Nat → Bool) (c : Nat) : Nat → Int32 := doA S R o (c / 10) (c % 10)
abbrev paC (S : Nat → Int32) (R : List RU) (o : Nat → Bool) (c : Nat) : Nat := paA S R o (c / 10) (c % 10)
def rowsA (R : List RU) (o : Nat → Bool) : Nat → (Nat → Int32) → List (List Nat × Nat)
  | 0, S => if doneP S o then [([], 0)] else []
  | n + 1, S => if doneP S o then [([], 0)] else (canL S R o 0).flatMap fun c => (rowsA R o n (doC S R o c)).map fun r => (c :: r.1, paC S R o c + r.2)
def mostA (R : List RU) (o : Nat → Bool) : Nat → (Nat → Int32) → Nat
  | 0, S => cN (whS S o)
  | n + 1, S => (canL S R o 0).foldl (fun m c => max m (mostA R o n (doC S R o c))) (cN (whS S o))
theorem done_can {S : Nat → Int32} {R : List RU} {o : Nat → Bool} (h6 : ppN S ≤ 6) (h : doneP S o) (c : Nat) : ¬ canC S R o c := by
  intro hc
  have hp : c / 10 < 6 := by have := hc.1.1; omega
  have e := wN_inj h (c / 10) hp
  unfold whS thrS bel at e
  dsimp only at e
  rw [decide_eq_true hc.1.1, hc.1.2.2, decide_eq_false hc.1.2.1] at e
  cases e
theorem canL_done {S : Nat → Int32} {R : List RU} {o : Nat → Bool} (h6 : ppN S ≤ 6) (h : doneP S o) (a : Nat) : canL S R o a = [] := by
  unfold canL
  rw [List.filter_eq_nil_iff]
  intro x _ hx
  rw [Bool.and_eq_true, decide_eq_true_eq, decide_eq_true_eq] at hx
  exact done_can h6 h x hx.2
theorem canL_mem {S : Nat → Int32} {R : List RU} {o : Nat → Bool} {a c : Nat} (h : c ∈ canL S R o a) : c < 60 ∧ canC S R o c := by
  unfold canL at h
  rw [List.mem_filter, Bool.and_eq_true, decide_eq_true_eq, decide_eq_true_eq] at h
  exact ⟨CHl_lt c h.1, h.2.2⟩
theorem rowsA_done {S : Nat → Int32} {R : List RU} {o : Nat → Bool} {n : Nat} (h : doneP S o) : rowsA R o n S = [([], 0)] := by
  cases n with
  | zero => unfold rowsA; exact if_pos h
  | succ n => unfold rowsA; exact if_pos h
theorem mostA_done {S : Nat → Int32} {R : List RU} {o : Nat → Bool} {n : Nat} (h6 : ppN S ≤ 6) (h : doneP S o) : mostA R o n S = cN (whS S o) := by
  cases n with
  | zero => rfl
  | succ n =>
    rw [mostA, canL_done h6 h 0]
    rfl
/-- the best so far: the shortest, the cheapest; the first of those -/
def bsS (b : Option (List Nat)) (r : List Nat) : Option (List Nat) := match b with
  | none => some r
  | some x => if r.length < x.length then some r else some x
def bsC (b : Option (List Nat × Nat)) (r : List Nat × Nat) : Option (List Nat × Nat) := match b with
  | none => some r
  | some x => if r.2 < x.2 then some r else some x
def bestS (L : List (List Nat × Nat)) : Option (List Nat) := L.foldl (fun b r => bsS b r.1) none
def bestC (L : List (List Nat × Nat)) : Option (List Nat × Nat) := L.foldl bsC none
theorem bestS_app (L : List (List Nat × Nat)) (r : List Nat × Nat) : bestS (L ++ [r]) = bsS (bestS L) r.1 := by unfold bestS; rw [List.foldl_append]; rfl
theorem bestC_app (L : List (List Nat × Nat)) (r : List Nat × Nat) : bestC (L ++ [r]) = bsC (bestC L) r := by unfold bestC; rw [List.foldl_append]; rfl
def ACs (σ : SG) : Option (List Nat) → Prop
  | none => σ.1 148 13 = -1
  | some r => r.length ≤ 6 ∧ σ.1 148 13 = nI r.length ∧ ∀ j x, r[j]? = some x → σ.1 154 j = nI x
def ACc (σ : SG) : Option (List Nat × Nat) → Prop
  | none => σ.1 148 14 = -1
  | some r => r.1.length ≤ 6 ∧ r.2 < 100000 ∧ σ.1 148 14 = nI r.2 ∧ σ.1 148 15 = nI r.1.length ∧ ∀ j x, r.1[j]? = some x → σ.1 155 j = nI x
/-- what the reference has gathered -/
def ACC (σ : SG) (L : List (List Nat × Nat)) (m : Nat) : Prop := σ.1 148 11 = nI L.length ∧ σ.1 148 12 = nI m ∧ m ≤ 6 ∧ ACs σ (bestS L) ∧ ACc σ (bestC L)
/-- its row so far -/
def RWP (σ : SG) (pre : List Nat) : Prop := ∀ j x, pre[j]? = some x → σ.1 153 j = nI x
theorem ACC.keep {σ σ' : SG} {L : List (List Nat × Nat)} {m : Nat} (h : ACC σ L m) (h1 : ∀ i, 11 ≤ i → i ≤ 15 → σ'.1 148 i = σ.1 148 i) (h2 : σ'.1 154 = σ.1 154) (h3 : σ'.1 155 = σ.1 155) : ACC σ' L m := by
  obtain ⟨a, b, c, d, e⟩ := h
  refine ⟨by rw [h1 11 (by decide) (by decide)]; exact a, by rw [h1 12 (by decide) (by decide)]; exact b, c, ?_, ?_⟩
  · generalize bestS L = z at d ⊢
    cases z with
    | none => show σ'.1 148 13 = -1; rw [h1 13 (by decide) (by decide)]; exact d
    | some r => exact ⟨d.1, by rw [h1 13 (by decide) (by decide)]; exact d.2.1, fun j x hx => by rw [h2]; exact d.2.2 j x hx⟩
  · generalize bestC L = z at e ⊢
    cases z with
    | none => show σ'.1 148 14 = -1; rw [h1 14 (by decide) (by decide)]; exact e
    | some r => exact ⟨e.1, e.2.1, by rw [h1 14 (by decide) (by decide)]; exact e.2.2.1, by rw [h1 15 (by decide) (by decide)]; exact e.2.2.2.1, fun j x hx => by rw [h3]; exact e.2.2.2.2 j x hx⟩
theorem m_cp154 {n : Nat} (hn : n ≤ 6) (K : Int32 → Int32 → SG → Option (Unit × SG)) (y : Int32) : ∀ (d k f : Nat) (σ : SG), k + d = n → d < f → ∃ τ, f_M_keeps_32 K f (nI n) y (nI k) σ = K (nI n) y τ ∧ fr (fun c => c = 154) σ τ ∧ (∀ j, k ≤ j → j < n → τ.1 154 j = σ.1 153 j) ∧ (∀ j, j < k → τ.1 154 j = σ.1 154 j) := by
  intro d
  induction d with
  | zero =>
    intro k f σ hk hf
    obtain ⟨f, rfl⟩ : ∃ g, f = g + 1 := ⟨f - 1, by omega⟩
    have e : k = n := hk
    subst e
    rw [f_M_keeps_32, if_pos (Int32.le_refl _)]
    exact ⟨σ, rfl, fr.rf, fun j h1 h2 => by omega, fun _ _ => rfl⟩
  | succ d ih =>
    intro k f σ hk hf
    obtain ⟨f, rfl⟩ : ∃ g, f = g + 1 := ⟨f - 1, by omega⟩
    rw [f_M_keeps_32, if_neg (nI_ge (by omega) (by omega)), gd_pos (ix_nI (by omega) (by decide)), gd_pos (ix_nI (by omega) (by decide)), nx_nI (by omega), sx_eq, lx_eq, nI_1]
    obtain ⟨τ, q1, q2, q3, q4⟩ := ih (k + 1) f (uI σ 154 k (σ.1 153 k)) (by omega) (by omega)
    have u : fr (fun c => c = 154) σ (uI σ 154 k (σ.1 153 k)) := fr.uI rfl
    refine ⟨τ, q1, u.tr q2, fun j h1 h2 => ?_, fun j h1 => ?_⟩
    · by_cases e : j = k
      · subst e
        rw [q4 _ (by omega), uI_same]
      · rw [q3 j (by omega) h2, uI_c (by decide)]
    · rw [q4 j (by omega), uI_i (by omega)]
theorem m_cp155 {n : Nat} (hn : n ≤ 6) : ∀ (d k f : Nat) (σ : SG), k + d = n → d < f → ∃ τ, f_M_keeps_82 f (nI n) (nI k) σ = some ((), τ) ∧ fr (fun c => c = 155) σ τ ∧ (∀ j, k ≤ j → j < n → τ.1 155 j = σ.1 153 j) ∧ (∀ j, j < k → τ.1 155 j = σ.1 155 j) := by
  intro d
  induction d with
  | zero =>
    intro k f σ hk hf
    obtain ⟨f, rfl⟩ : ∃ g, f = g + 1 := ⟨f - 1, by omega⟩
    have e : k = n := hk
    subst e
    rw [f_M_keeps_82, if_pos (Int32.le_refl _)]
    exact ⟨σ, rfl, fr.rf, fun j h1 h2 => by omega, fun _ _ => rfl⟩
  | succ d ih =>
    intro k f σ hk hf
    obtain ⟨f, rfl⟩ : ∃ g, f = g + 1 := ⟨f - 1, by omega⟩
    rw [f_M_keeps_82, if_neg (nI_ge (by omega) (by omega)), gd_pos (ix_nI (by omega) (by decide)), gd_pos (ix_nI (by omega) (by decide)), nx_nI (by omega), sx_eq, lx_eq, nI_1]
    obtain ⟨τ, q1, q2, q3, q4⟩ := ih (k + 1) f (uI σ 155 k (σ.1 153 k)) (by omega) (by omega)
    have u : fr (fun c => c = 155) σ (uI σ 155 k (σ.1 153 k)) := fr.uI rfl
    refine ⟨τ, q1, u.tr q2, fun j h1 h2 => ?_, fun j h1 => ?_⟩
    · by_cases e : j = k
      · subst e
        rw [q4 _ (by omega), uI_same]
      · rw [q3 j (by omega) h2, uI_c (by decide)]
    · rw [q4 j (by omega), uI_i (by omega)]
/-- what the search of the reference may write -/
abbrev Lgo (c : Nat) : Prop := c = 148 ∨ c = 149 ∨ c = 152 ∨ c = 153 ∨ c = 154 ∨ c = 155
theorem m_keeps_c {σ : SG} {row : List Nat} {cost : Nat} {b : Option (List Nat × Nat)} (hl : row.length ≤ 6) (hc : cost < 100000) (hr : RWP σ row) (h : ACc σ b) : ∃ τ, f_M_keeps_55 (nI row.length) (nI cost) σ = some ((), τ) ∧ fr Lgo σ τ ∧ ACc τ (bsC b (row, cost)) ∧ τ.1 153 = σ.1 153 ∧ τ.1 154 = σ.1 154 ∧ τ.1 149 = σ.1 149 ∧ ∀ i, i ≠ 14 → i ≠ 15 → τ.1 148 i = σ.1 148 i := by
  have put : ∃ τ, f_M_keeps_82 FU (nI row.length) (0 : Int32) (uI (uI σ 148 14 (nI cost)) 148 15 (nI row.length)) = some ((), τ) ∧ fr Lgo σ τ ∧ ACc τ (some (row, cost)) ∧ τ.1 153 = σ.1 153 ∧ τ.1 154 = σ.1 154 ∧ τ.1 149 = σ.1 149 ∧ ∀ i, i ≠ 14 → i ≠ 15 → τ.1 148 i = σ.1 148 i := by
    obtain ⟨τ, q1, q2, q3, q4⟩ := m_cp155 hl row.length 0 FU (uI (uI σ 148 14 (nI cost)) 148 15 (nI row.length)) (by omega) (by rw [FU_eq]; omega)
    have u : fr Lgo σ (uI (uI σ 148 14 (nI cost)) 148 15 (nI row.length)) := fr.tr (fr.uI (Or.inl rfl)) (fr.uI (Or.inl rfl))
    refine ⟨τ, q1, u.tr (q2.mono (fun c hc => by rw [hc]; decide)), ⟨hl, hc, ?_, ?_, fun j x hx => ?_⟩, ?_, ?_, ?_, fun i h1 h2 => ?_⟩
    · rw [q2.at (by decide), uI_i (by decide), uI_same]
    · rw [q2.at (by decide), uI_same]
    · rw [q3 j (Nat.zero_le _) (List.getElem?_eq_some_iff.mp hx).1, uI_c (by decide), uI_c (by decide)]
      exact hr j x hx
    · rw [q2.1 _ (by decide), uIc (by decide), uIc (by decide)]
    · rw [q2.1 _ (by decide), uIc (by decide), uIc (by decide)]
    · rw [q2.1 _ (by decide), uIc (by decide), uIc (by decide)]
    · rw [q2.at (by decide), uI_i h2, uI_i h1]
  unfold f_M_keeps_55
  cases b with
  | none =>
    rw [show σ.1 148 14 = -1 from h, if_pos (by decide), sx_eq, sx_eq]
    exact put
  | some x =>
    obtain ⟨x1, x2⟩ := x
    obtain ⟨a1, a2, a3, a4, a5⟩ := h
    have a2 : x2 < 100000 := a2
    rw [show σ.1 148 14 = nI x2 from a3, if_neg (nI_pos (by omega))]
    by_cases hlt : cost < x2
    · rw [if_neg (fun z => by have := (n_le (by omega) (by omega)).mp z; omega), sx_eq, sx_eq]
      have e : bsC (some (x1, x2)) (row, cost) = some (row, cost) := if_pos hlt
      rw [e]
      exact put
    · rw [if_pos ((n_le (by omega) (by omega)).mpr (by omega))]
      have e : bsC (some (x1, x2)) (row, cost) = some (x1, x2) := if_neg hlt
      rw [e]
      exact ⟨σ, rfl, fr.rf, ⟨a1, a2, a3, a4, a5⟩, rfl, rfl, rfl, fun _ _ _ => rfl⟩
theorem ACc.keep {σ σ' : SG} {b : Option (List Nat × Nat)} (h : ACc σ b) (h1 : ∀ i, 14 ≤ i → i ≤ 15 → σ'.1 148 i = σ.1 148 i) (h3 : σ'.1 155 = σ.1 155) : ACc σ' b := by
  cases b with
  | none => show σ'.1 148 14 = -1; rw [h1 14 (by decide) (by decide)]; exact h
  | some r => exact ⟨h.1, h.2.1, by rw [h1 14 (by decide) (by decide)]; exact h.2.2.1, by rw [h1 15 (by decide) (by decide)]; exact h.2.2.2.1, fun j x hx => by rw [h3]; exact h.2.2.2.2 j x hx⟩
theorem ACs.keep {σ σ' : SG} {b : Option (List Nat)} (h : ACs σ b) (h1 : σ'.1 148 13 = σ.1 148 13) (h3 : σ'.1 154 = σ.1 154) : ACs σ' b := by
  cases b with
  | none => show σ'.1 148 13 = -1; rw [h1]; exact h
  | some r => exact ⟨h.1, by rw [h1]; exact h.2.1, fun j x hx => by rw [h3]; exact h.2.2 j x hx⟩
theorem m_keeps {σ : SG} {row : List Nat} {cost m : Nat} {L : List (List Nat × Nat)} (hl : row.length ≤ 6) (hc : cost < 100000) (hr : RWP σ row) (h : ACC σ L m) : ∃ τ, f_M_keeps (nI row.length) (nI cost) σ = some ((), τ) ∧ fr Lgo σ τ ∧ ACC τ (L ++ [(row, cost)]) m ∧ τ.1 153 = σ.1 153 ∧ τ.1 149 = σ.1 149 ∧ ∀ i, ¬ (11 ≤ i ∧ i ≤ 15) → τ.1 148 i = σ.1 148 i := by
  obtain ⟨h1, h2, h3, h4, h5⟩ := h
  unfold f_M_keeps
  rw [sx_eq, h1, nI_1]
  generalize hσ : uI σ 148 11 (nI (L.length + 1)) = σ1
  have u1 : fr Lgo σ σ1 := by rw [← hσ]; exact fr.uI (Or.inl rfl)
  have n1 : ∀ i, i ≠ 11 → σ1.1 148 i = σ.1 148 i := fun i hi => by rw [← hσ, uI_i hi]
  have n2 : ∀ c, c ≠ 148 → σ1.1 c = σ.1 c := fun c hc => by rw [← hσ, uIc hc]
  have e11 : σ1.1 148 11 = nI (L.length + 1) := by rw [← hσ, uI_same]
  have fin : ∀ σ2 : SG, fr Lgo σ σ2 → RWP σ2 row → ACs σ2 (bsS (bestS L) row) → ACc σ2 (bestC L) → σ2.1 148 11 = nI (L.length + 1) → σ2.1 148 12 = nI m → σ2.1 153 = σ.1 153 → σ2.1 149 = σ.1 149 → (∀ i, ¬ (11 ≤ i ∧ i ≤ 15) → σ2.1 148 i = σ.1 148 i) → ∃ τ, f_M_keeps_55 (nI row.length) (nI cost) σ2 = some ((), τ) ∧ fr Lgo σ τ ∧ ACC τ (L ++ [(row, cost)]) m ∧ τ.1 153 = σ.1 153 ∧ τ.1 149 = σ.1 149 ∧ ∀ i, ¬ (11 ≤ i ∧ i ≤ 15) → τ.1 148 i = σ.1 148 i := by
    intro σ2 f1 f2 f3 f4 f5 f6 f7 f8 f9
    obtain ⟨τ, q1, q2, q3, q4, q5, q6, q7⟩ := m_keeps_c hl hc f2 f4
    refine ⟨τ, q1, f1.tr q2, ⟨?_, ?_, h3, ?_, ?_⟩, by rw [q4, f7], by rw [q6, f8], fun i hi => by rw [q7 i (by omega) (by omega), f9 i hi]⟩
    · rw [q7 11 (by decide) (by decide), f5, List.length_append]
      rfl
    · rw [q7 12 (by decide) (by decide), f6]
    · rw [bestS_app]
      exact f3.keep (q7 13 (by decide) (by decide)) q5
    · rw [bestC_app]
      exact q3
  have put : ∃ τ, f_M_keeps_32 f_M_keeps_55 FU (nI row.length) (nI cost) (0 : Int32) (uI σ1 148 13 (nI row.length)) = f_M_keeps_55 (nI row.length) (nI cost) τ ∧ fr Lgo σ τ ∧ RWP τ row ∧ ACs τ (some row) ∧ ACc τ (bestC L) ∧ τ.1 148 11 = nI (L.length + 1) ∧ τ.1 148 12 = nI m ∧ τ.1 153 = σ.1 153 ∧ τ.1 149 = σ.1 149 ∧ (∀ i, ¬ (11 ≤ i ∧ i ≤ 15) → τ.1 148 i = σ.1 148 i) := by
    obtain ⟨τ, q1, q2, q3, q4⟩ := m_cp154 hl f_M_keeps_55 (nI cost) row.length 0 FU (uI σ1 148 13 (nI row.length)) (by omega) (by rw [FU_eq]; omega)
    have u2 : fr Lgo σ (uI σ1 148 13 (nI row.length)) := u1.tr (fr.uI (Or.inl rfl))
    have w153 : τ.1 153 = σ.1 153 := by rw [q2.1 _ (by decide), uIc (by decide), n2 _ (by decide)]
    refine ⟨τ, q1, u2.tr (q2.mono (fun c hc => by rw [hc]; decide)), fun j x hx => by rw [w153]; exact hr j x hx, ⟨hl, ?_, fun j x hx => ?_⟩, h5.keep (fun i i1 i2 => ?_) ?_, ?_, ?_, w153, ?_, fun i hi => ?_⟩
    · rw [q2.at (by decide), uI_same]
    · rw [q3 j (Nat.zero_le _) (List.getElem?_eq_some_iff.mp hx).1, uI_c (by decide), n2 _ (by decide)]
      exact hr j x hx
    · rw [q2.at (by decide), uI_i (by omega), n1 i (by omega)]
    · rw [q2.1 _ (by decide), uIc (by decide), n2 _ (by decide)]
    · rw [q2.at (by decide), uI_i (by decide), e11]
    · rw [q2.at (by decide), uI_i (by decide), n1 12 (by decide)]
      exact h2
    · rw [q2.1 _ (by decide), uIc (by decide), n2 _ (by decide)]
    · rw [q2.at (by decide), uI_i (by omega), n1 i (by omega)]
  generalize hb : bestS L = b at h4 fin
  cases b with
  | none =>
    rw [n1 13 (by decide), show σ.1 148 13 = -1 from h4, if_pos (by decide), sx_eq]
    obtain ⟨τ, q1, q2, q3, q4, q5, q6, q7, q8, q9, q10⟩ := put
    rw [q1]
    exact fin τ q2 q3 q4 q5 q6 q7 q8 q9 q10
  | some x =>
    obtain ⟨a1, a2, a3⟩ := h4
    rw [n1 13 (by decide), a2, if_neg (nI_pos (by omega))]
    by_cases hlt : row.length < x.length
    · rw [if_neg (fun z => by have := (n_le (by omega) (by omega)).mp z; omega), sx_eq]
      have e : bsS (some x) row = some row := if_pos hlt
      rw [e] at fin
      obtain ⟨τ, q1, q2, q3, q4, q5, q6, q7, q8, q9, q10⟩ := put
      rw [q1]
      exact fin τ q2 q3 q4 q5 q6 q7 q8 q9 q10
    · rw [if_pos ((n_le (by omega) (by omega)).mpr (by omega))]
      have e : bsS (some x) row = some x := if_neg hlt
      rw [e] at fin
      exact fin σ1 u1 (fun j x hx => by rw [n2 _ (by decide)]; exact hr j x hx) ⟨a1, by rw [n1 13 (by decide)]; exact a2, fun j y hy => by rw [n2 _ (by decide)]; exact a3 j y hy⟩ (h5.keep (fun i i1 i2 => n1 i (by omega)) (n2 _ (by decide))) e11 (by rw [n1 12 (by decide)]; exact h2) (n2 _ (by decide)) (n2 _ (by decide)) (fun i hi => n1 i (by omega))
