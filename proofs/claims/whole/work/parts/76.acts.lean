/-! acts of things of KINDS, both sides -/
abbrev AS : Type := List Nat × Bool
def bg (x : Nat) (s : AS) : AS := if s.2 = true then s else (s.1 ++ [x], false)
def gvP (a x : Int32) (s : AS) : Int32 × AS := (x + a, bg 10 s)
def gvA (k : Nat) (a x : Int32) (s : AS) : Int32 × AS := if k = 1 then ((gvP a x (bg 20 s)).1 * 2, (gvP a x (bg 20 s)).2) else if k = 3 then ((gvP a x (bg 50 s)).1 - 1, (gvP a x (bg 50 s)).2) else gvP a x s
def tkP (k : Nat) (n a x : Int32) (s : AS) : Int32 × AS := ((gvA k a x (bg 11 s)).1 - n, (gvA k a x (bg 11 s)).2)
def tkA (k : Nat) (n a x : Int32) (s : AS) : Int32 × AS := if k = 2 ∨ k = 3 then ((tkP k n a x (bg 30 s)).1 ^^^ n, (tkP k n a x (bg 30 s)).2) else if k = 5 then (0 - (tkP k n a x (bg 60 s)).1, (tkP k n a x (bg 60 s)).2) else tkP k n a x s
def hvP (n a x : Int32) (s : AS) : Int32 × AS := if a = n then (0, ((bg 12 s).1, true)) else (x / (a - n), bg 12 s)
def hvB (n a x : Int32) (s : AS) : Int32 × AS := hvP n a (x - 3) (bg 40 s)
def hvA (k : Nat) (n a x : Int32) (s : AS) : Int32 × AS := if k = 4 then hvB n a x s else if k = 5 then ((hvB n a x (bg 61 s)).1 - (gvA k a n (hvB n a x (bg 61 s)).2).1, (gvA k a n (hvB n a x (bg 61 s)).2).2) else hvP n a x s
def owP (k : Nat) (n a x : Int32) (s : AS) : Int32 × AS := ((tkA k n a x (bg 13 s)).1 ^^^ a, (tkA k n a x (bg 13 s)).2)
def owA (k : Nat) (n a x : Int32) (s : AS) : Int32 × AS := if k = 3 then ((owP k n a x (bg 51 s)).1 + (hvA k n a a (owP k n a x (bg 51 s)).2).1, (hvA k n a a (owP k n a x (bg 51 s)).2).2) else owP k n a x s
theorem bg_len (x : Nat) (s : AS) : (bg x s).1.length ≤ s.1.length + 1 := by
  unfold bg
  by_cases h : s.2 = true
  · rw [if_pos h]; omega
  · rw [if_neg h, List.length_append]
    exact Nat.le_refl _
theorem bg_p {x : Nat} {s : AS} (h : s.2 = true) : bg x s = s := if_pos h
theorem sub_0 {a n : Int32} (h : ¬ a = n) : ¬ a - n = 0 := fun z => h (by
  have q := Int32.sub_add_cancel a n
  rw [z] at q
  simp at q
  exact q.symm)
/-- the class's trace -/
def TAc (σ : SG) (s : AS) (m : Nat) : Prop := s.1.length ≤ m ∧ σ.1 1 6 = nI s.1.length ∧ σ.1 1 8 = bI (s.2 = true) ∧ ∀ i x, s.1[i]? = some x → σ.1 12 i = nI x
theorem c_began {σ : SG} {s : AS} {m : Nat} (x : Nat) (h : TAc σ s m) (hm : m < 30) : ∃ σ', f_Ho_began (nI x) σ = some ((), σ') ∧ TAc σ' (bg x s) (m + 1) ∧ fr (fun c => c = 1 ∨ c = 12) σ σ' := by
  obtain ⟨h1, h2, h3, h4⟩ := h
  unfold f_Ho_began
  rw [h3]
  by_cases hp : s.2 = true
  · rw [if_pos (bI_n0.mpr hp), bg_p hp]
    exact ⟨σ, rfl, ⟨by omega, h2, h3, h4⟩, fr.rf⟩
  · rw [if_neg (fun z => z (bI_0.mpr hp)), h2, if_neg (show ¬ (30 : Int32) ≤ nI s.1.length from nI_ge (show s.1.length < 30 by omega) (by decide)), gd_pos (ix_nI (by omega) (by decide)), nx_nI (by omega), sx_eq, uI_c (c' := 1) (by decide), h2, nI_1, sx_eq]
    have e : bg x s = (s.1 ++ [x], false) := if_neg hp
    rw [e]
    refine ⟨_, rfl, ⟨by rw [List.length_append, List.length_singleton]; omega, by rw [uI_same, List.length_append, List.length_singleton], ?_, fun i y hy => ?_⟩, fr.tr (fr.uI (Or.inr rfl)) (fr.uI (Or.inl rfl))⟩
    · rw [uI_i (by decide), uI_c (by decide), h3, bI_neg hp, bI_neg (fun z : (false = true) => by cases z)]
    · rw [uI_c (by decide)]
      by_cases hi : i < s.1.length
      · rw [List.getElem?_append_left hi] at hy
        rw [uI_i (by omega)]
        exact h4 i y hy
      · rw [List.getElem?_append_right (by omega)] at hy
        have hi2 : i = s.1.length := by
          cases hk : i - s.1.length with
          | zero => omega
          | succ k => rw [hk] at hy; cases hy
        rw [hi2, uI_same]
        rw [hi2, Nat.sub_self] at hy
        rw [← Option.some.inj hy]
theorem TAc.le {σ : SG} {s : AS} {m m' : Nat} (h : TAc σ s m) (hm : m ≤ m') : TAc σ s m' := ⟨Nat.le_trans h.1 hm, h.2⟩
abbrev La (c : Nat) : Prop := c = 1 ∨ c = 12
theorem a_Pe_gives {σ : SG} {s : AS} {m : Nat} {n a x : Int32} (h : TAc σ s m) (hm : m + 1 ≤ 30) (hn : σ.1 14 1 = n) (ha : σ.1 14 2 = a) : ∃ σ', f_Pe_gives x σ = some ((gvP a x s).1, σ') ∧ TAc σ' (gvP a x s).2 (m + 1) ∧ fr La σ σ' := by
  unfold f_Pe_gives
  obtain ⟨σ1, p1, t1, g1⟩ := c_began 10 h (by omega)
  have p1 : f_Ho_began (10 : Int32) σ = _ := p1
  rw [p1, bnd_some]
  rw [g1.at (by decide), ha]
  exact ⟨σ1, rfl, t1, g1⟩
theorem a_Pe_gives_15 {σ : SG} {s : AS} {m : Nat} {n a x : Int32} (h : TAc σ s m) (hm : m + 1 ≤ 30) (hn : σ.1 15 1 = n) (ha : σ.1 15 2 = a) : ∃ σ', f_Pe_gives_15 x σ = some ((gvP a x s).1, σ') ∧ TAc σ' (gvP a x s).2 (m + 1) ∧ fr La σ σ' := by
  unfold f_Pe_gives_15
  obtain ⟨σ1, p1, t1, g1⟩ := c_began 10 h (by omega)
  have p1 : f_Ho_began (10 : Int32) σ = _ := p1
  rw [p1, bnd_some]
  rw [g1.at (by decide), ha]
  exact ⟨σ1, rfl, t1, g1⟩
theorem a_Pe_gives_16 {σ : SG} {s : AS} {m : Nat} {n a x : Int32} (h : TAc σ s m) (hm : m + 1 ≤ 30) (hn : σ.1 16 1 = n) (ha : σ.1 16 2 = a) : ∃ σ', f_Pe_gives_16 x σ = some ((gvP a x s).1, σ') ∧ TAc σ' (gvP a x s).2 (m + 1) ∧ fr La σ σ' := by
  unfold f_Pe_gives_16
  obtain ⟨σ1, p1, t1, g1⟩ := c_began 10 h (by omega)
  have p1 : f_Ho_began (10 : Int32) σ = _ := p1
  rw [p1, bnd_some]
  rw [g1.at (by decide), ha]
  exact ⟨σ1, rfl, t1, g1⟩
theorem a_Pe_gives_17 {σ : SG} {s : AS} {m : Nat} {n a x : Int32} (h : TAc σ s m) (hm : m + 1 ≤ 30) (hn : σ.1 17 1 = n) (ha : σ.1 17 2 = a) : ∃ σ', f_Pe_gives_17 x σ = some ((gvP a x s).1, σ') ∧ TAc σ' (gvP a x s).2 (m + 1) ∧ fr La σ σ' := by
  unfold f_Pe_gives_17
  obtain ⟨σ1, p1, t1, g1⟩ := c_began 10 h (by omega)
  have p1 : f_Ho_began (10 : Int32) σ = _ := p1
  rw [p1, bnd_some]
  rw [g1.at (by decide), ha]
  exact ⟨σ1, rfl, t1, g1⟩
theorem a_Pe_gives_18 {σ : SG} {s : AS} {m : Nat} {n a x : Int32} (h : TAc σ s m) (hm : m + 1 ≤ 30) (hn : σ.1 18 1 = n) (ha : σ.1 18 2 = a) : ∃ σ', f_Pe_gives_18 x σ = some ((gvP a x s).1, σ') ∧ TAc σ' (gvP a x s).2 (m + 1) ∧ fr La σ σ' := by
  unfold f_Pe_gives_18
  obtain ⟨σ1, p1, t1, g1⟩ := c_began 10 h (by omega)
  have p1 : f_Ho_began (10 : Int32) σ = _ := p1
  rw [p1, bnd_some]
  rw [g1.at (by decide), ha]
  exact ⟨σ1, rfl, t1, g1⟩
theorem a_Pe_gives_19 {σ : SG} {s : AS} {m : Nat} {n a x : Int32} (h : TAc σ s m) (hm : m + 1 ≤ 30) (hn : σ.1 19 1 = n) (ha : σ.1 19 2 = a) : ∃ σ', f_Pe_gives_19 x σ = some ((gvP a x s).1, σ') ∧ TAc σ' (gvP a x s).2 (m + 1) ∧ fr La σ σ' := by
  unfold f_Pe_gives_19
  obtain ⟨σ1, p1, t1, g1⟩ := c_began 10 h (by omega)
  have p1 : f_Ho_began (10 : Int32) σ = _ := p1
  rw [p1, bnd_some]
  rw [g1.at (by decide), ha]
  exact ⟨σ1, rfl, t1, g1⟩
theorem a_Ma_gives {σ : SG} {s : AS} {m : Nat} {n a x : Int32} (h : TAc σ s m) (hm : m + 2 ≤ 30) (hn : σ.1 15 1 = n) (ha : σ.1 15 2 = a) : ∃ σ', f_Ma_gives x σ = some ((gvA 1 a x s).1, σ') ∧ TAc σ' (gvA 1 a x s).2 (m + 2) ∧ fr La σ σ' := by
  unfold f_Ma_gives
  obtain ⟨σ1, p1, t1, g1⟩ := c_began 20 h (by omega)
  have p1 : f_Ho_began (20 : Int32) σ = _ := p1
  rw [p1, bnd_some]
  obtain ⟨σ2, q1, q2, q3⟩ := a_Pe_gives_15 (x := x) (n := n) (a := a) t1 (by omega) (by rw [g1.at (by decide)]; exact hn) (by rw [g1.at (by decide)]; exact ha)
  rw [q1, bnd_some]
  exact ⟨σ2, rfl, q2, g1.tr q3⟩
theorem a_Wi_gives {σ : SG} {s : AS} {m : Nat} {n a x : Int32} (h : TAc σ s m) (hm : m + 2 ≤ 30) (hn : σ.1 17 1 = n) (ha : σ.1 17 2 = a) : ∃ σ', f_Wi_gives x σ = some ((gvA 3 a x s).1, σ') ∧ TAc σ' (gvA 3 a x s).2 (m + 2) ∧ fr La σ σ' := by
  unfold f_Wi_gives
  obtain ⟨σ1, p1, t1, g1⟩ := c_began 50 h (by omega)
  have p1 : f_Ho_began (50 : Int32) σ = _ := p1
  rw [p1, bnd_some]
  obtain ⟨σ2, q1, q2, q3⟩ := a_Pe_gives_17 (x := x) (n := n) (a := a) t1 (by omega) (by rw [g1.at (by decide)]; exact hn) (by rw [g1.at (by decide)]; exact ha)
  rw [q1, bnd_some]
  exact ⟨σ2, rfl, q2, g1.tr q3⟩
theorem a_gives_14 {σ : SG} {s : AS} {m : Nat} {n a x : Int32} (h : TAc σ s m) (hm : m + 2 ≤ 30) (hn : σ.1 14 1 = n) (ha : σ.1 14 2 = a) : ∃ σ', f_Pe_gives x σ = some ((gvA 0 a x s).1, σ') ∧ TAc σ' (gvA 0 a x s).2 (m + 2) ∧ fr La σ σ' := by
  obtain ⟨σ1, q1, q2, q3⟩ := a_Pe_gives (x := x) h (by omega) hn ha
  exact ⟨σ1, q1, q2.le (by omega), q3⟩
theorem a_gives_16 {σ : SG} {s : AS} {m : Nat} {n a x : Int32} (h : TAc σ s m) (hm : m + 2 ≤ 30) (hn : σ.1 16 1 = n) (ha : σ.1 16 2 = a) : ∃ σ', f_Pe_gives_16 x σ = some ((gvA 2 a x s).1, σ') ∧ TAc σ' (gvA 2 a x s).2 (m + 2) ∧ fr La σ σ' := by
  obtain ⟨σ1, q1, q2, q3⟩ := a_Pe_gives_16 (x := x) h (by omega) hn ha
  exact ⟨σ1, q1, q2.le (by omega), q3⟩
theorem a_gives_18 {σ : SG} {s : AS} {m : Nat} {n a x : Int32} (h : TAc σ s m) (hm : m + 2 ≤ 30) (hn : σ.1 18 1 = n) (ha : σ.1 18 2 = a) : ∃ σ', f_Pe_gives_18 x σ = some ((gvA 4 a x s).1, σ') ∧ TAc σ' (gvA 4 a x s).2 (m + 2) ∧ fr La σ σ' := by
  obtain ⟨σ1, q1, q2, q3⟩ := a_Pe_gives_18 (x := x) h (by omega) hn ha
  exact ⟨σ1, q1, q2.le (by omega), q3⟩
theorem a_gives_19 {σ : SG} {s : AS} {m : Nat} {n a x : Int32} (h : TAc σ s m) (hm : m + 2 ≤ 30) (hn : σ.1 19 1 = n) (ha : σ.1 19 2 = a) : ∃ σ', f_Pe_gives_19 x σ = some ((gvA 5 a x s).1, σ') ∧ TAc σ' (gvA 5 a x s).2 (m + 2) ∧ fr La σ σ' := by
  obtain ⟨σ1, q1, q2, q3⟩ := a_Pe_gives_19 (x := x) h (by omega) hn ha
  exact ⟨σ1, q1, q2.le (by omega), q3⟩
theorem a_Pe_takes {σ : SG} {s : AS} {m : Nat} {n a x : Int32} (h : TAc σ s m) (hm : m + 3 ≤ 30) (hn : σ.1 14 1 = n) (ha : σ.1 14 2 = a) : ∃ σ', f_Pe_takes x σ = some ((tkP 0 n a x s).1, σ') ∧ TAc σ' (tkP 0 n a x s).2 (m + 3) ∧ fr La σ σ' := by
  unfold f_Pe_takes
  obtain ⟨σ1, p1, t1, g1⟩ := c_began 11 h (by omega)
  have p1 : f_Ho_began (11 : Int32) σ = _ := p1
  rw [p1, bnd_some]
  obtain ⟨σ2, q1, q2, q3⟩ := a_gives_14 (x := x) (n := n) (a := a) t1 (by omega) (by rw [g1.at (by decide)]; exact hn) (by rw [g1.at (by decide)]; exact ha)
  rw [q1, bnd_some, q3.at (by decide), g1.at (by decide), hn]
  exact ⟨σ2, rfl, q2, g1.tr q3⟩
theorem a_Pe_takes_15 {σ : SG} {s : AS} {m : Nat} {n a x : Int32} (h : TAc σ s m) (hm : m + 3 ≤ 30) (hn : σ.1 15 1 = n) (ha : σ.1 15 2 = a) : ∃ σ', f_Pe_takes_15 x σ = some ((tkP 1 n a x s).1, σ') ∧ TAc σ' (tkP 1 n a x s).2 (m + 3) ∧ fr La σ σ' := by
  unfold f_Pe_takes_15
  obtain ⟨σ1, p1, t1, g1⟩ := c_began 11 h (by omega)
  have p1 : f_Ho_began (11 : Int32) σ = _ := p1
  rw [p1, bnd_some]
  obtain ⟨σ2, q1, q2, q3⟩ := a_Ma_gives (x := x) (n := n) (a := a) t1 (by omega) (by rw [g1.at (by decide)]; exact hn) (by rw [g1.at (by decide)]; exact ha)
  rw [q1, bnd_some, q3.at (by decide), g1.at (by decide), hn]
  exact ⟨σ2, rfl, q2, g1.tr q3⟩
theorem a_Pe_takes_16 {σ : SG} {s : AS} {m : Nat} {n a x : Int32} (h : TAc σ s m) (hm : m + 3 ≤ 30) (hn : σ.1 16 1 = n) (ha : σ.1 16 2 = a) : ∃ σ', f_Pe_takes_16 x σ = some ((tkP 2 n a x s).1, σ') ∧ TAc σ' (tkP 2 n a x s).2 (m + 3) ∧ fr La σ σ' := by
  unfold f_Pe_takes_16
  obtain ⟨σ1, p1, t1, g1⟩ := c_began 11 h (by omega)
  have p1 : f_Ho_began (11 : Int32) σ = _ := p1
  rw [p1, bnd_some]
  obtain ⟨σ2, q1, q2, q3⟩ := a_gives_16 (x := x) (n := n) (a := a) t1 (by omega) (by rw [g1.at (by decide)]; exact hn) (by rw [g1.at (by decide)]; exact ha)
  rw [q1, bnd_some, q3.at (by decide), g1.at (by decide), hn]
  exact ⟨σ2, rfl, q2, g1.tr q3⟩
theorem a_Pe_takes_17 {σ : SG} {s : AS} {m : Nat} {n a x : Int32} (h : TAc σ s m) (hm : m + 3 ≤ 30) (hn : σ.1 17 1 = n) (ha : σ.1 17 2 = a) : ∃ σ', f_Pe_takes_17 x σ = some ((tkP 3 n a x s).1, σ') ∧ TAc σ' (tkP 3 n a x s).2 (m + 3) ∧ fr La σ σ' := by
  unfold f_Pe_takes_17
  obtain ⟨σ1, p1, t1, g1⟩ := c_began 11 h (by omega)
  have p1 : f_Ho_began (11 : Int32) σ = _ := p1
  rw [p1, bnd_some]
  obtain ⟨σ2, q1, q2, q3⟩ := a_Wi_gives (x := x) (n := n) (a := a) t1 (by omega) (by rw [g1.at (by decide)]; exact hn) (by rw [g1.at (by decide)]; exact ha)
  rw [q1, bnd_some, q3.at (by decide), g1.at (by decide), hn]
  exact ⟨σ2, rfl, q2, g1.tr q3⟩
theorem a_Pe_takes_18 {σ : SG} {s : AS} {m : Nat} {n a x : Int32} (h : TAc σ s m) (hm : m + 3 ≤ 30) (hn : σ.1 18 1 = n) (ha : σ.1 18 2 = a) : ∃ σ', f_Pe_takes_18 x σ = some ((tkP 4 n a x s).1, σ') ∧ TAc σ' (tkP 4 n a x s).2 (m + 3) ∧ fr La σ σ' := by
  unfold f_Pe_takes_18
  obtain ⟨σ1, p1, t1, g1⟩ := c_began 11 h (by omega)
  have p1 : f_Ho_began (11 : Int32) σ = _ := p1
  rw [p1, bnd_some]
  obtain ⟨σ2, q1, q2, q3⟩ := a_gives_18 (x := x) (n := n) (a := a) t1 (by omega) (by rw [g1.at (by decide)]; exact hn) (by rw [g1.at (by decide)]; exact ha)
  rw [q1, bnd_some, q3.at (by decide), g1.at (by decide), hn]
  exact ⟨σ2, rfl, q2, g1.tr q3⟩
theorem a_Pe_takes_19 {σ : SG} {s : AS} {m : Nat} {n a x : Int32} (h : TAc σ s m) (hm : m + 3 ≤ 30) (hn : σ.1 19 1 = n) (ha : σ.1 19 2 = a) : ∃ σ', f_Pe_takes_19 x σ = some ((tkP 5 n a x s).1, σ') ∧ TAc σ' (tkP 5 n a x s).2 (m + 3) ∧ fr La σ σ' := by
  unfold f_Pe_takes_19
  obtain ⟨σ1, p1, t1, g1⟩ := c_began 11 h (by omega)
  have p1 : f_Ho_began (11 : Int32) σ = _ := p1
  rw [p1, bnd_some]
  obtain ⟨σ2, q1, q2, q3⟩ := a_gives_19 (x := x) (n := n) (a := a) t1 (by omega) (by rw [g1.at (by decide)]; exact hn) (by rw [g1.at (by decide)]; exact ha)
  rw [q1, bnd_some, q3.at (by decide), g1.at (by decide), hn]
  exact ⟨σ2, rfl, q2, g1.tr q3⟩
theorem a_Mi_takes {σ : SG} {s : AS} {m : Nat} {n a x : Int32} (h : TAc σ s m) (hm : m + 4 ≤ 30) (hn : σ.1 16 1 = n) (ha : σ.1 16 2 = a) : ∃ σ', f_Mi_takes x σ = some ((tkA 2 n a x s).1, σ') ∧ TAc σ' (tkA 2 n a x s).2 (m + 4) ∧ fr La σ σ' := by
  unfold f_Mi_takes
  obtain ⟨σ1, p1, t1, g1⟩ := c_began 30 h (by omega)
  have p1 : f_Ho_began (30 : Int32) σ = _ := p1
  rw [p1, bnd_some]
  obtain ⟨σ2, q1, q2, q3⟩ := a_Pe_takes_16 (x := x) (n := n) (a := a) t1 (by omega) (by rw [g1.at (by decide)]; exact hn) (by rw [g1.at (by decide)]; exact ha)
  rw [q1, bnd_some, q3.at (by decide), g1.at (by decide), hn]
  exact ⟨σ2, rfl, q2, g1.tr q3⟩
theorem a_Mi_takes_17 {σ : SG} {s : AS} {m : Nat} {n a x : Int32} (h : TAc σ s m) (hm : m + 4 ≤ 30) (hn : σ.1 17 1 = n) (ha : σ.1 17 2 = a) : ∃ σ', f_Mi_takes_17 x σ = some ((tkA 3 n a x s).1, σ') ∧ TAc σ' (tkA 3 n a x s).2 (m + 4) ∧ fr La σ σ' := by
  unfold f_Mi_takes_17
  obtain ⟨σ1, p1, t1, g1⟩ := c_began 30 h (by omega)
  have p1 : f_Ho_began (30 : Int32) σ = _ := p1
  rw [p1, bnd_some]
  obtain ⟨σ2, q1, q2, q3⟩ := a_Pe_takes_17 (x := x) (n := n) (a := a) t1 (by omega) (by rw [g1.at (by decide)]; exact hn) (by rw [g1.at (by decide)]; exact ha)
  rw [q1, bnd_some, q3.at (by decide), g1.at (by decide), hn]
  exact ⟨σ2, rfl, q2, g1.tr q3⟩
theorem a_Be_takes {σ : SG} {s : AS} {m : Nat} {n a x : Int32} (h : TAc σ s m) (hm : m + 4 ≤ 30) (hn : σ.1 19 1 = n) (ha : σ.1 19 2 = a) : ∃ σ', f_Be_takes x σ = some ((tkA 5 n a x s).1, σ') ∧ TAc σ' (tkA 5 n a x s).2 (m + 4) ∧ fr La σ σ' := by
  unfold f_Be_takes
  obtain ⟨σ1, p1, t1, g1⟩ := c_began 60 h (by omega)
  have p1 : f_Ho_began (60 : Int32) σ = _ := p1
  rw [p1, bnd_some]
  obtain ⟨σ2, q1, q2, q3⟩ := a_Pe_takes_19 (x := x) (n := n) (a := a) t1 (by omega) (by rw [g1.at (by decide)]; exact hn) (by rw [g1.at (by decide)]; exact ha)
  rw [q1, bnd_some]
  exact ⟨σ2, rfl, q2, g1.tr q3⟩
theorem a_takes_14 {σ : SG} {s : AS} {m : Nat} {n a x : Int32} (h : TAc σ s m) (hm : m + 4 ≤ 30) (hn : σ.1 14 1 = n) (ha : σ.1 14 2 = a) : ∃ σ', f_Pe_takes x σ = some ((tkA 0 n a x s).1, σ') ∧ TAc σ' (tkA 0 n a x s).2 (m + 4) ∧ fr La σ σ' := by
  obtain ⟨σ1, q1, q2, q3⟩ := a_Pe_takes (x := x) h (by omega) hn ha
  exact ⟨σ1, q1, q2.le (by omega), q3⟩
theorem a_takes_15 {σ : SG} {s : AS} {m : Nat} {n a x : Int32} (h : TAc σ s m) (hm : m + 4 ≤ 30) (hn : σ.1 15 1 = n) (ha : σ.1 15 2 = a) : ∃ σ', f_Pe_takes_15 x σ = some ((tkA 1 n a x s).1, σ') ∧ TAc σ' (tkA 1 n a x s).2 (m + 4) ∧ fr La σ σ' := by
  obtain ⟨σ1, q1, q2, q3⟩ := a_Pe_takes_15 (x := x) h (by omega) hn ha
  exact ⟨σ1, q1, q2.le (by omega), q3⟩
theorem a_takes_18 {σ : SG} {s : AS} {m : Nat} {n a x : Int32} (h : TAc σ s m) (hm : m + 4 ≤ 30) (hn : σ.1 18 1 = n) (ha : σ.1 18 2 = a) : ∃ σ', f_Pe_takes_18 x σ = some ((tkA 4 n a x s).1, σ') ∧ TAc σ' (tkA 4 n a x s).2 (m + 4) ∧ fr La σ σ' := by
  obtain ⟨σ1, q1, q2, q3⟩ := a_Pe_takes_18 (x := x) h (by omega) hn ha
  exact ⟨σ1, q1, q2.le (by omega), q3⟩
theorem a_Pe_halves {σ : SG} {s : AS} {m : Nat} {n a x : Int32} (h : TAc σ s m) (hm : m + 1 ≤ 30) (hn : σ.1 14 1 = n) (ha : σ.1 14 2 = a) : ∃ σ', f_Pe_halves x σ = some ((hvP n a x s).1, σ') ∧ TAc σ' (hvP n a x s).2 (m + 1) ∧ fr La σ σ' := by
  unfold f_Pe_halves
  obtain ⟨σ1, p1, t1, g1⟩ := c_began 12 h (by omega)
  have p1 : f_Ho_began (12 : Int32) σ = _ := p1
  rw [p1, bnd_some]
  rw [g1.at (by decide), ha, g1.at (by decide), hn]
  unfold hvP
  by_cases e : a = n
  · rw [if_neg (fun z => z e), sx_eq, if_pos e]
    exact ⟨_, rfl, ⟨t1.1, by rw [uI_i (by decide)]; exact t1.2.1, by rw [uI_same, bI_pos rfl], fun i y hy => by rw [uI_c (by decide)]; exact t1.2.2.2 i y hy⟩, g1.tr (fr.uI (Or.inl rfl))⟩
  · rw [if_pos e, gd_pos (sub_0 e), if_neg e]
    exact ⟨σ1, rfl, t1, g1⟩
theorem a_Pe_halves_15 {σ : SG} {s : AS} {m : Nat} {n a x : Int32} (h : TAc σ s m) (hm : m + 1 ≤ 30) (hn : σ.1 15 1 = n) (ha : σ.1 15 2 = a) : ∃ σ', f_Pe_halves_15 x σ = some ((hvP n a x s).1, σ') ∧ TAc σ' (hvP n a x s).2 (m + 1) ∧ fr La σ σ' := by
  unfold f_Pe_halves_15
  obtain ⟨σ1, p1, t1, g1⟩ := c_began 12 h (by omega)
  have p1 : f_Ho_began (12 : Int32) σ = _ := p1
  rw [p1, bnd_some]
  rw [g1.at (by decide), ha, g1.at (by decide), hn]
  unfold hvP
  by_cases e : a = n
  · rw [if_neg (fun z => z e), sx_eq, if_pos e]
    exact ⟨_, rfl, ⟨t1.1, by rw [uI_i (by decide)]; exact t1.2.1, by rw [uI_same, bI_pos rfl], fun i y hy => by rw [uI_c (by decide)]; exact t1.2.2.2 i y hy⟩, g1.tr (fr.uI (Or.inl rfl))⟩
  · rw [if_pos e, gd_pos (sub_0 e), if_neg e]
    exact ⟨σ1, rfl, t1, g1⟩
theorem a_Pe_halves_16 {σ : SG} {s : AS} {m : Nat} {n a x : Int32} (h : TAc σ s m) (hm : m + 1 ≤ 30) (hn : σ.1 16 1 = n) (ha : σ.1 16 2 = a) : ∃ σ', f_Pe_halves_16 x σ = some ((hvP n a x s).1, σ') ∧ TAc σ' (hvP n a x s).2 (m + 1) ∧ fr La σ σ' := by
  unfold f_Pe_halves_16
  obtain ⟨σ1, p1, t1, g1⟩ := c_began 12 h (by omega)
  have p1 : f_Ho_began (12 : Int32) σ = _ := p1
  rw [p1, bnd_some]
  rw [g1.at (by decide), ha, g1.at (by decide), hn]
  unfold hvP
  by_cases e : a = n
  · rw [if_neg (fun z => z e), sx_eq, if_pos e]
    exact ⟨_, rfl, ⟨t1.1, by rw [uI_i (by decide)]; exact t1.2.1, by rw [uI_same, bI_pos rfl], fun i y hy => by rw [uI_c (by decide)]; exact t1.2.2.2 i y hy⟩, g1.tr (fr.uI (Or.inl rfl))⟩
  · rw [if_pos e, gd_pos (sub_0 e), if_neg e]
    exact ⟨σ1, rfl, t1, g1⟩
theorem a_Pe_halves_17 {σ : SG} {s : AS} {m : Nat} {n a x : Int32} (h : TAc σ s m) (hm : m + 1 ≤ 30) (hn : σ.1 17 1 = n) (ha : σ.1 17 2 = a) : ∃ σ', f_Pe_halves_17 x σ = some ((hvP n a x s).1, σ') ∧ TAc σ' (hvP n a x s).2 (m + 1) ∧ fr La σ σ' := by
  unfold f_Pe_halves_17
  obtain ⟨σ1, p1, t1, g1⟩ := c_began 12 h (by omega)
  have p1 : f_Ho_began (12 : Int32) σ = _ := p1
  rw [p1, bnd_some]
  rw [g1.at (by decide), ha, g1.at (by decide), hn]
  unfold hvP
  by_cases e : a = n
  · rw [if_neg (fun z => z e), sx_eq, if_pos e]
    exact ⟨_, rfl, ⟨t1.1, by rw [uI_i (by decide)]; exact t1.2.1, by rw [uI_same, bI_pos rfl], fun i y hy => by rw [uI_c (by decide)]; exact t1.2.2.2 i y hy⟩, g1.tr (fr.uI (Or.inl rfl))⟩
  · rw [if_pos e, gd_pos (sub_0 e), if_neg e]
    exact ⟨σ1, rfl, t1, g1⟩
theorem a_Pe_halves_18 {σ : SG} {s : AS} {m : Nat} {n a x : Int32} (h : TAc σ s m) (hm : m + 1 ≤ 30) (hn : σ.1 18 1 = n) (ha : σ.1 18 2 = a) : ∃ σ', f_Pe_halves_18 x σ = some ((hvP n a x s).1, σ') ∧ TAc σ' (hvP n a x s).2 (m + 1) ∧ fr La σ σ' := by
  unfold f_Pe_halves_18
  obtain ⟨σ1, p1, t1, g1⟩ := c_began 12 h (by omega)
  have p1 : f_Ho_began (12 : Int32) σ = _ := p1
  rw [p1, bnd_some]
  rw [g1.at (by decide), ha, g1.at (by decide), hn]
  unfold hvP
  by_cases e : a = n
  · rw [if_neg (fun z => z e), sx_eq, if_pos e]
    exact ⟨_, rfl, ⟨t1.1, by rw [uI_i (by decide)]; exact t1.2.1, by rw [uI_same, bI_pos rfl], fun i y hy => by rw [uI_c (by decide)]; exact t1.2.2.2 i y hy⟩, g1.tr (fr.uI (Or.inl rfl))⟩
  · rw [if_pos e, gd_pos (sub_0 e), if_neg e]
    exact ⟨σ1, rfl, t1, g1⟩
theorem a_Pe_halves_19 {σ : SG} {s : AS} {m : Nat} {n a x : Int32} (h : TAc σ s m) (hm : m + 1 ≤ 30) (hn : σ.1 19 1 = n) (ha : σ.1 19 2 = a) : ∃ σ', f_Pe_halves_19 x σ = some ((hvP n a x s).1, σ') ∧ TAc σ' (hvP n a x s).2 (m + 1) ∧ fr La σ σ' := by
  unfold f_Pe_halves_19
  obtain ⟨σ1, p1, t1, g1⟩ := c_began 12 h (by omega)
  have p1 : f_Ho_began (12 : Int32) σ = _ := p1
  rw [p1, bnd_some]
  rw [g1.at (by decide), ha, g1.at (by decide), hn]
  unfold hvP
  by_cases e : a = n
  · rw [if_neg (fun z => z e), sx_eq, if_pos e]
    exact ⟨_, rfl, ⟨t1.1, by rw [uI_i (by decide)]; exact t1.2.1, by rw [uI_same, bI_pos rfl], fun i y hy => by rw [uI_c (by decide)]; exact t1.2.2.2 i y hy⟩, g1.tr (fr.uI (Or.inl rfl))⟩
  · rw [if_pos e, gd_pos (sub_0 e), if_neg e]
    exact ⟨σ1, rfl, t1, g1⟩
theorem a_Pr_halves {σ : SG} {s : AS} {m : Nat} {n a x : Int32} (h : TAc σ s m) (hm : m + 2 ≤ 30) (hn : σ.1 18 1 = n) (ha : σ.1 18 2 = a) : ∃ σ', f_Pr_halves x σ = some ((hvB n a x s).1, σ') ∧ TAc σ' (hvB n a x s).2 (m + 2) ∧ fr La σ σ' := by
  unfold f_Pr_halves
  obtain ⟨σ1, p1, t1, g1⟩ := c_began 40 h (by omega)
  have p1 : f_Ho_began (40 : Int32) σ = _ := p1
  rw [p1, bnd_some]
  obtain ⟨σ2, q1, q2, q3⟩ := a_Pe_halves_18 (x := x - 3) (n := n) (a := a) t1 (by omega) (by rw [g1.at (by decide)]; exact hn) (by rw [g1.at (by decide)]; exact ha)
  rw [q1, bnd_some]
  exact ⟨σ2, rfl, q2, g1.tr q3⟩
theorem a_Pr_halves_19 {σ : SG} {s : AS} {m : Nat} {n a x : Int32} (h : TAc σ s m) (hm : m + 2 ≤ 30) (hn : σ.1 19 1 = n) (ha : σ.1 19 2 = a) : ∃ σ', f_Pr_halves_19 x σ = some ((hvB n a x s).1, σ') ∧ TAc σ' (hvB n a x s).2 (m + 2) ∧ fr La σ σ' := by
  unfold f_Pr_halves_19
  obtain ⟨σ1, p1, t1, g1⟩ := c_began 40 h (by omega)
  have p1 : f_Ho_began (40 : Int32) σ = _ := p1
  rw [p1, bnd_some]
  obtain ⟨σ2, q1, q2, q3⟩ := a_Pe_halves_19 (x := x - 3) (n := n) (a := a) t1 (by omega) (by rw [g1.at (by decide)]; exact hn) (by rw [g1.at (by decide)]; exact ha)
  rw [q1, bnd_some]
  exact ⟨σ2, rfl, q2, g1.tr q3⟩
theorem a_Be_halves {σ : SG} {s : AS} {m : Nat} {n a x : Int32} (h : TAc σ s m) (hm : m + 5 ≤ 30) (hn : σ.1 19 1 = n) (ha : σ.1 19 2 = a) : ∃ σ', f_Be_halves x σ = some ((hvA 5 n a x s).1, σ') ∧ TAc σ' (hvA 5 n a x s).2 (m + 5) ∧ fr La σ σ' := by
  unfold f_Be_halves
  obtain ⟨σ1, p1, t1, g1⟩ := c_began 61 h (by omega)
  have p1 : f_Ho_began (61 : Int32) σ = _ := p1
  rw [p1, bnd_some]
  obtain ⟨σ2, q1, q2, q3⟩ := a_Pr_halves_19 (x := x) (n := n) (a := a) t1 (by omega) (by rw [g1.at (by decide)]; exact hn) (by rw [g1.at (by decide)]; exact ha)
  have e1 : σ2.1 19 1 = n := by rw [q3.at (by decide), g1.at (by decide)]; exact hn
  obtain ⟨σ3, r1, r2, r3⟩ := a_gives_19 (x := n) (n := n) (a := a) q2 (by omega) e1 (by rw [q3.at (by decide), g1.at (by decide)]; exact ha)
  rw [q1, bnd_some, e1, r1, bnd_some]
  exact ⟨σ3, rfl, r2, (g1.tr q3).tr r3⟩
theorem a_halves_14 {σ : SG} {s : AS} {m : Nat} {n a x : Int32} (h : TAc σ s m) (hm : m + 5 ≤ 30) (hn : σ.1 14 1 = n) (ha : σ.1 14 2 = a) : ∃ σ', f_Pe_halves x σ = some ((hvA 0 n a x s).1, σ') ∧ TAc σ' (hvA 0 n a x s).2 (m + 5) ∧ fr La σ σ' := by
  obtain ⟨σ1, q1, q2, q3⟩ := a_Pe_halves (x := x) h (by omega) hn ha
  exact ⟨σ1, q1, q2.le (by omega), q3⟩
theorem a_halves_15 {σ : SG} {s : AS} {m : Nat} {n a x : Int32} (h : TAc σ s m) (hm : m + 5 ≤ 30) (hn : σ.1 15 1 = n) (ha : σ.1 15 2 = a) : ∃ σ', f_Pe_halves_15 x σ = some ((hvA 1 n a x s).1, σ') ∧ TAc σ' (hvA 1 n a x s).2 (m + 5) ∧ fr La σ σ' := by
  obtain ⟨σ1, q1, q2, q3⟩ := a_Pe_halves_15 (x := x) h (by omega) hn ha
  exact ⟨σ1, q1, q2.le (by omega), q3⟩
theorem a_halves_16 {σ : SG} {s : AS} {m : Nat} {n a x : Int32} (h : TAc σ s m) (hm : m + 5 ≤ 30) (hn : σ.1 16 1 = n) (ha : σ.1 16 2 = a) : ∃ σ', f_Pe_halves_16 x σ = some ((hvA 2 n a x s).1, σ') ∧ TAc σ' (hvA 2 n a x s).2 (m + 5) ∧ fr La σ σ' := by
  obtain ⟨σ1, q1, q2, q3⟩ := a_Pe_halves_16 (x := x) h (by omega) hn ha
  exact ⟨σ1, q1, q2.le (by omega), q3⟩
theorem a_halves_17 {σ : SG} {s : AS} {m : Nat} {n a x : Int32} (h : TAc σ s m) (hm : m + 5 ≤ 30) (hn : σ.1 17 1 = n) (ha : σ.1 17 2 = a) : ∃ σ', f_Pe_halves_17 x σ = some ((hvA 3 n a x s).1, σ') ∧ TAc σ' (hvA 3 n a x s).2 (m + 5) ∧ fr La σ σ' := by
  obtain ⟨σ1, q1, q2, q3⟩ := a_Pe_halves_17 (x := x) h (by omega) hn ha
  exact ⟨σ1, q1, q2.le (by omega), q3⟩
theorem a_halves_18 {σ : SG} {s : AS} {m : Nat} {n a x : Int32} (h : TAc σ s m) (hm : m + 5 ≤ 30) (hn : σ.1 18 1 = n) (ha : σ.1 18 2 = a) : ∃ σ', f_Pr_halves x σ = some ((hvA 4 n a x s).1, σ') ∧ TAc σ' (hvA 4 n a x s).2 (m + 5) ∧ fr La σ σ' := by
  obtain ⟨σ1, q1, q2, q3⟩ := a_Pr_halves (x := x) h (by omega) hn ha
  exact ⟨σ1, q1, q2.le (by omega), q3⟩
theorem a_halves_19 {σ : SG} {s : AS} {m : Nat} {n a x : Int32} (h : TAc σ s m) (hm : m + 5 ≤ 30) (hn : σ.1 19 1 = n) (ha : σ.1 19 2 = a) : ∃ σ', f_Be_halves x σ = some ((hvA 5 n a x s).1, σ') ∧ TAc σ' (hvA 5 n a x s).2 (m + 5) ∧ fr La σ σ' := by
  obtain ⟨σ1, q1, q2, q3⟩ := a_Be_halves (x := x) h (by omega) hn ha
  exact ⟨σ1, q1, q2.le (by omega), q3⟩
theorem a_Pe_owes {σ : SG} {s : AS} {m : Nat} {n a x : Int32} (h : TAc σ s m) (hm : m + 5 ≤ 30) (hn : σ.1 14 1 = n) (ha : σ.1 14 2 = a) : ∃ σ', f_Pe_owes x σ = some ((owP 0 n a x s).1, σ') ∧ TAc σ' (owP 0 n a x s).2 (m + 5) ∧ fr La σ σ' := by
  unfold f_Pe_owes
  obtain ⟨σ1, p1, t1, g1⟩ := c_began 13 h (by omega)
  have p1 : f_Ho_began (13 : Int32) σ = _ := p1
  rw [p1, bnd_some]
  obtain ⟨σ2, q1, q2, q3⟩ := a_takes_14 (x := x) (n := n) (a := a) t1 (by omega) (by rw [g1.at (by decide)]; exact hn) (by rw [g1.at (by decide)]; exact ha)
  rw [q1, bnd_some, q3.at (by decide), g1.at (by decide), ha]
  exact ⟨σ2, rfl, q2, g1.tr q3⟩
theorem a_Pe_owes_15 {σ : SG} {s : AS} {m : Nat} {n a x : Int32} (h : TAc σ s m) (hm : m + 5 ≤ 30) (hn : σ.1 15 1 = n) (ha : σ.1 15 2 = a) : ∃ σ', f_Pe_owes_15 x σ = some ((owP 1 n a x s).1, σ') ∧ TAc σ' (owP 1 n a x s).2 (m + 5) ∧ fr La σ σ' := by
  unfold f_Pe_owes_15
  obtain ⟨σ1, p1, t1, g1⟩ := c_began 13 h (by omega)
  have p1 : f_Ho_began (13 : Int32) σ = _ := p1
  rw [p1, bnd_some]
  obtain ⟨σ2, q1, q2, q3⟩ := a_takes_15 (x := x) (n := n) (a := a) t1 (by omega) (by rw [g1.at (by decide)]; exact hn) (by rw [g1.at (by decide)]; exact ha)
  rw [q1, bnd_some, q3.at (by decide), g1.at (by decide), ha]
  exact ⟨σ2, rfl, q2, g1.tr q3⟩
theorem a_Pe_owes_16 {σ : SG} {s : AS} {m : Nat} {n a x : Int32} (h : TAc σ s m) (hm : m + 5 ≤ 30) (hn : σ.1 16 1 = n) (ha : σ.1 16 2 = a) : ∃ σ', f_Pe_owes_16 x σ = some ((owP 2 n a x s).1, σ') ∧ TAc σ' (owP 2 n a x s).2 (m + 5) ∧ fr La σ σ' := by
  unfold f_Pe_owes_16
  obtain ⟨σ1, p1, t1, g1⟩ := c_began 13 h (by omega)
  have p1 : f_Ho_began (13 : Int32) σ = _ := p1
  rw [p1, bnd_some]
  obtain ⟨σ2, q1, q2, q3⟩ := a_Mi_takes (x := x) (n := n) (a := a) t1 (by omega) (by rw [g1.at (by decide)]; exact hn) (by rw [g1.at (by decide)]; exact ha)
  rw [q1, bnd_some, q3.at (by decide), g1.at (by decide), ha]
  exact ⟨σ2, rfl, q2, g1.tr q3⟩
theorem a_Pe_owes_17 {σ : SG} {s : AS} {m : Nat} {n a x : Int32} (h : TAc σ s m) (hm : m + 5 ≤ 30) (hn : σ.1 17 1 = n) (ha : σ.1 17 2 = a) : ∃ σ', f_Pe_owes_17 x σ = some ((owP 3 n a x s).1, σ') ∧ TAc σ' (owP 3 n a x s).2 (m + 5) ∧ fr La σ σ' := by
  unfold f_Pe_owes_17
  obtain ⟨σ1, p1, t1, g1⟩ := c_began 13 h (by omega)
  have p1 : f_Ho_began (13 : Int32) σ = _ := p1
  rw [p1, bnd_some]
  obtain ⟨σ2, q1, q2, q3⟩ := a_Mi_takes_17 (x := x) (n := n) (a := a) t1 (by omega) (by rw [g1.at (by decide)]; exact hn) (by rw [g1.at (by decide)]; exact ha)
  rw [q1, bnd_some, q3.at (by decide), g1.at (by decide), ha]
  exact ⟨σ2, rfl, q2, g1.tr q3⟩
theorem a_Pe_owes_18 {σ : SG} {s : AS} {m : Nat} {n a x : Int32} (h : TAc σ s m) (hm : m + 5 ≤ 30) (hn : σ.1 18 1 = n) (ha : σ.1 18 2 = a) : ∃ σ', f_Pe_owes_18 x σ = some ((owP 4 n a x s).1, σ') ∧ TAc σ' (owP 4 n a x s).2 (m + 5) ∧ fr La σ σ' := by
  unfold f_Pe_owes_18
  obtain ⟨σ1, p1, t1, g1⟩ := c_began 13 h (by omega)
  have p1 : f_Ho_began (13 : Int32) σ = _ := p1
  rw [p1, bnd_some]
  obtain ⟨σ2, q1, q2, q3⟩ := a_takes_18 (x := x) (n := n) (a := a) t1 (by omega) (by rw [g1.at (by decide)]; exact hn) (by rw [g1.at (by decide)]; exact ha)
  rw [q1, bnd_some, q3.at (by decide), g1.at (by decide), ha]
  exact ⟨σ2, rfl, q2, g1.tr q3⟩
theorem a_Pe_owes_19 {σ : SG} {s : AS} {m : Nat} {n a x : Int32} (h : TAc σ s m) (hm : m + 5 ≤ 30) (hn : σ.1 19 1 = n) (ha : σ.1 19 2 = a) : ∃ σ', f_Pe_owes_19 x σ = some ((owP 5 n a x s).1, σ') ∧ TAc σ' (owP 5 n a x s).2 (m + 5) ∧ fr La σ σ' := by
  unfold f_Pe_owes_19
  obtain ⟨σ1, p1, t1, g1⟩ := c_began 13 h (by omega)
  have p1 : f_Ho_began (13 : Int32) σ = _ := p1
  rw [p1, bnd_some]
  obtain ⟨σ2, q1, q2, q3⟩ := a_Be_takes (x := x) (n := n) (a := a) t1 (by omega) (by rw [g1.at (by decide)]; exact hn) (by rw [g1.at (by decide)]; exact ha)
  rw [q1, bnd_some, q3.at (by decide), g1.at (by decide), ha]
  exact ⟨σ2, rfl, q2, g1.tr q3⟩
theorem a_Wi_owes {σ : SG} {s : AS} {m : Nat} {n a x : Int32} (h : TAc σ s m) (hm : m + 11 ≤ 30) (hn : σ.1 17 1 = n) (ha : σ.1 17 2 = a) : ∃ σ', f_Wi_owes x σ = some ((owA 3 n a x s).1, σ') ∧ TAc σ' (owA 3 n a x s).2 (m + 11) ∧ fr La σ σ' := by
  unfold f_Wi_owes
  obtain ⟨σ1, p1, t1, g1⟩ := c_began 51 h (by omega)
  have p1 : f_Ho_began (51 : Int32) σ = _ := p1
  rw [p1, bnd_some]
  obtain ⟨σ2, q1, q2, q3⟩ := a_Pe_owes_17 (x := x) (n := n) (a := a) t1 (by omega) (by rw [g1.at (by decide)]; exact hn) (by rw [g1.at (by decide)]; exact ha)
  have e2 : σ2.1 17 2 = a := by rw [q3.at (by decide), g1.at (by decide)]; exact ha
  obtain ⟨σ3, r1, r2, r3⟩ := a_halves_17 (x := a) (n := n) (a := a) q2 (by omega) (by rw [q3.at (by decide), g1.at (by decide)]; exact hn) e2
  rw [q1, bnd_some, e2, r1, bnd_some]
  exact ⟨σ3, rfl, r2, (g1.tr q3).tr r3⟩
theorem a_owes_14 {σ : SG} {s : AS} {m : Nat} {n a x : Int32} (h : TAc σ s m) (hm : m + 11 ≤ 30) (hn : σ.1 14 1 = n) (ha : σ.1 14 2 = a) : ∃ σ', f_Pe_owes x σ = some ((owA 0 n a x s).1, σ') ∧ TAc σ' (owA 0 n a x s).2 (m + 11) ∧ fr La σ σ' := by
  obtain ⟨σ1, q1, q2, q3⟩ := a_Pe_owes (x := x) h (by omega) hn ha
  exact ⟨σ1, q1, q2.le (by omega), q3⟩
theorem a_owes_15 {σ : SG} {s : AS} {m : Nat} {n a x : Int32} (h : TAc σ s m) (hm : m + 11 ≤ 30) (hn : σ.1 15 1 = n) (ha : σ.1 15 2 = a) : ∃ σ', f_Pe_owes_15 x σ = some ((owA 1 n a x s).1, σ') ∧ TAc σ' (owA 1 n a x s).2 (m + 11) ∧ fr La σ σ' := by
  obtain ⟨σ1, q1, q2, q3⟩ := a_Pe_owes_15 (x := x) h (by omega) hn ha
  exact ⟨σ1, q1, q2.le (by omega), q3⟩
theorem a_owes_16 {σ : SG} {s : AS} {m : Nat} {n a x : Int32} (h : TAc σ s m) (hm : m + 11 ≤ 30) (hn : σ.1 16 1 = n) (ha : σ.1 16 2 = a) : ∃ σ', f_Pe_owes_16 x σ = some ((owA 2 n a x s).1, σ') ∧ TAc σ' (owA 2 n a x s).2 (m + 11) ∧ fr La σ σ' := by
  obtain ⟨σ1, q1, q2, q3⟩ := a_Pe_owes_16 (x := x) h (by omega) hn ha
  exact ⟨σ1, q1, q2.le (by omega), q3⟩
theorem a_owes_17 {σ : SG} {s : AS} {m : Nat} {n a x : Int32} (h : TAc σ s m) (hm : m + 11 ≤ 30) (hn : σ.1 17 1 = n) (ha : σ.1 17 2 = a) : ∃ σ', f_Wi_owes x σ = some ((owA 3 n a x s).1, σ') ∧ TAc σ' (owA 3 n a x s).2 (m + 11) ∧ fr La σ σ' := by
  obtain ⟨σ1, q1, q2, q3⟩ := a_Wi_owes (x := x) h (by omega) hn ha
  exact ⟨σ1, q1, q2.le (by omega), q3⟩
theorem a_owes_18 {σ : SG} {s : AS} {m : Nat} {n a x : Int32} (h : TAc σ s m) (hm : m + 11 ≤ 30) (hn : σ.1 18 1 = n) (ha : σ.1 18 2 = a) : ∃ σ', f_Pe_owes_18 x σ = some ((owA 4 n a x s).1, σ') ∧ TAc σ' (owA 4 n a x s).2 (m + 11) ∧ fr La σ σ' := by
  obtain ⟨σ1, q1, q2, q3⟩ := a_Pe_owes_18 (x := x) h (by omega) hn ha
  exact ⟨σ1, q1, q2.le (by omega), q3⟩
theorem a_owes_19 {σ : SG} {s : AS} {m : Nat} {n a x : Int32} (h : TAc σ s m) (hm : m + 11 ≤ 30) (hn : σ.1 19 1 = n) (ha : σ.1 19 2 = a) : ∃ σ', f_Pe_owes_19 x σ = some ((owA 5 n a x s).1, σ') ∧ TAc σ' (owA 5 n a x s).2 (m + 11) ∧ fr La σ σ' := by
  obtain ⟨σ1, q1, q2, q3⟩ := a_Pe_owes_19 (x := x) h (by omega) hn ha
  exact ⟨σ1, q1, q2.le (by omega), q3⟩
def acA (k : Nat) (n a t x : Int32) : Int32 × AS := if t = 0 then gvA k a x ([], false) else if t = 1 then tkA k n a x ([], false) else if t = 2 then hvA k n a x ([], false) else owA k n a x ([], false)
def acV (p : Int32 × AS) : Int32 := if p.2.2 = true then -15 else p.1
theorem ac_end {σ : SG} {p : Int32 × AS} {m : Nat} (h : TAc σ p.2 m) : (if σ.1 1 8 = 0 then some (p.1, σ) else some ((-15 : Int32), σ)) = some (acV p, σ) := by
  unfold acV
  rw [h.2.2.1]
  by_cases hp : p.2.2 = true
  · rw [if_neg (bI_n0.mpr hp), if_pos hp]
  · rw [if_pos (bI_0.mpr hp), if_neg hp]
theorem a_act_14 {σ : SG} {n a t x : Int32} (h : TAc σ ([], false) 0) (hn : σ.1 14 1 = n) (ha : σ.1 14 2 = a) : ∃ σ', (if t = (0 : Int32) then (
          bnd (f_Pe_gives x σ) (fun r9 σ8 =>
          if (σ8.1 1 8) = 0 then (
            some (r9, σ8))
          else (
            some ((-15 : Int32), σ8))))
        else if t = (1 : Int32) then (
          bnd (f_Pe_takes x σ) (fun r11 σ10 =>
          if (σ10.1 1 8) = 0 then (
            some (r11, σ10))
          else (
            some ((-15 : Int32), σ10))))
        else if t = (2 : Int32) then (
          bnd (f_Pe_halves x σ) (fun r13 σ12 =>
          if (σ12.1 1 8) = 0 then (
            some (r13, σ12))
          else (
            some ((-15 : Int32), σ12))))
        else (
          bnd (f_Pe_owes x σ) (fun r15 σ14 =>
          if (σ14.1 1 8) = 0 then (
            some (r15, σ14))
          else (
            some ((-15 : Int32), σ14))))) = some (acV (acA 0 n a t x), σ') ∧ TAc σ' (acA 0 n a t x).2 29 ∧ fr La σ σ' := by
  unfold acA
  by_cases t0 : t = 0
  · obtain ⟨σ1, q1, q2, q3⟩ := a_gives_14 (x := x) h (by decide) hn ha
    rw [if_pos t0, if_pos t0, q1, bnd_some, ac_end q2]
    exact ⟨σ1, rfl, q2.le (by decide), q3⟩
  · rw [if_neg t0, if_neg t0]
    by_cases t1 : t = 1
    · obtain ⟨σ1, q1, q2, q3⟩ := a_takes_14 (x := x) h (by decide) hn ha
      rw [if_pos t1, if_pos t1, q1, bnd_some, ac_end q2]
      exact ⟨σ1, rfl, q2.le (by decide), q3⟩
    · rw [if_neg t1, if_neg t1]
      by_cases t2 : t = 2
      · obtain ⟨σ1, q1, q2, q3⟩ := a_halves_14 (x := x) h (by decide) hn ha
        rw [if_pos t2, if_pos t2, q1, bnd_some, ac_end q2]
        exact ⟨σ1, rfl, q2.le (by decide), q3⟩
      · obtain ⟨σ1, q1, q2, q3⟩ := a_owes_14 (x := x) h (by decide) hn ha
        rw [if_neg t2, if_neg t2, q1, bnd_some, ac_end q2]
        exact ⟨σ1, rfl, q2.le (by decide), q3⟩
theorem a_act_15 {σ : SG} {n a t x : Int32} (h : TAc σ ([], false) 0) (hn : σ.1 15 1 = n) (ha : σ.1 15 2 = a) : ∃ σ', (if t = (0 : Int32) then (
          bnd (f_Ma_gives x σ) (fun r9 σ8 =>
          if (σ8.1 1 8) = 0 then (
            some (r9, σ8))
          else (
            some ((-15 : Int32), σ8))))
        else if t = (1 : Int32) then (
          bnd (f_Pe_takes_15 x σ) (fun r11 σ10 =>
          if (σ10.1 1 8) = 0 then (
            some (r11, σ10))
          else (
            some ((-15 : Int32), σ10))))
        else if t = (2 : Int32) then (
          bnd (f_Pe_halves_15 x σ) (fun r13 σ12 =>
          if (σ12.1 1 8) = 0 then (
            some (r13, σ12))
          else (
            some ((-15 : Int32), σ12))))
        else (
          bnd (f_Pe_owes_15 x σ) (fun r15 σ14 =>
          if (σ14.1 1 8) = 0 then (
            some (r15, σ14))
          else (
            some ((-15 : Int32), σ14))))) = some (acV (acA 1 n a t x), σ') ∧ TAc σ' (acA 1 n a t x).2 29 ∧ fr La σ σ' := by
  unfold acA
  by_cases t0 : t = 0
  · obtain ⟨σ1, q1, q2, q3⟩ := a_Ma_gives (x := x) h (by decide) hn ha
    rw [if_pos t0, if_pos t0, q1, bnd_some, ac_end q2]
    exact ⟨σ1, rfl, q2.le (by decide), q3⟩
  · rw [if_neg t0, if_neg t0]
    by_cases t1 : t = 1
    · obtain ⟨σ1, q1, q2, q3⟩ := a_takes_15 (x := x) h (by decide) hn ha
      rw [if_pos t1, if_pos t1, q1, bnd_some, ac_end q2]
      exact ⟨σ1, rfl, q2.le (by decide), q3⟩
    · rw [if_neg t1, if_neg t1]
      by_cases t2 : t = 2
      · obtain ⟨σ1, q1, q2, q3⟩ := a_halves_15 (x := x) h (by decide) hn ha
        rw [if_pos t2, if_pos t2, q1, bnd_some, ac_end q2]
        exact ⟨σ1, rfl, q2.le (by decide), q3⟩
      · obtain ⟨σ1, q1, q2, q3⟩ := a_owes_15 (x := x) h (by decide) hn ha
        rw [if_neg t2, if_neg t2, q1, bnd_some, ac_end q2]
        exact ⟨σ1, rfl, q2.le (by decide), q3⟩
theorem a_act_16 {σ : SG} {n a t x : Int32} (h : TAc σ ([], false) 0) (hn : σ.1 16 1 = n) (ha : σ.1 16 2 = a) : ∃ σ', (if t = (0 : Int32) then (
          bnd (f_Pe_gives_16 x σ) (fun r9 σ8 =>
          if (σ8.1 1 8) = 0 then (
            some (r9, σ8))
          else (
            some ((-15 : Int32), σ8))))
        else if t = (1 : Int32) then (
          bnd (f_Mi_takes x σ) (fun r11 σ10 =>
          if (σ10.1 1 8) = 0 then (
            some (r11, σ10))
          else (
            some ((-15 : Int32), σ10))))
        else if t = (2 : Int32) then (
          bnd (f_Pe_halves_16 x σ) (fun r13 σ12 =>
          if (σ12.1 1 8) = 0 then (
            some (r13, σ12))
          else (
            some ((-15 : Int32), σ12))))
        else (
          bnd (f_Pe_owes_16 x σ) (fun r15 σ14 =>
          if (σ14.1 1 8) = 0 then (
            some (r15, σ14))
          else (
            some ((-15 : Int32), σ14))))) = some (acV (acA 2 n a t x), σ') ∧ TAc σ' (acA 2 n a t x).2 29 ∧ fr La σ σ' := by
  unfold acA
  by_cases t0 : t = 0
  · obtain ⟨σ1, q1, q2, q3⟩ := a_gives_16 (x := x) h (by decide) hn ha
    rw [if_pos t0, if_pos t0, q1, bnd_some, ac_end q2]
    exact ⟨σ1, rfl, q2.le (by decide), q3⟩
  · rw [if_neg t0, if_neg t0]
    by_cases t1 : t = 1
    · obtain ⟨σ1, q1, q2, q3⟩ := a_Mi_takes (x := x) h (by decide) hn ha
      rw [if_pos t1, if_pos t1, q1, bnd_some, ac_end q2]
      exact ⟨σ1, rfl, q2.le (by decide), q3⟩
    · rw [if_neg t1, if_neg t1]
      by_cases t2 : t = 2
      · obtain ⟨σ1, q1, q2, q3⟩ := a_halves_16 (x := x) h (by decide) hn ha
        rw [if_pos t2, if_pos t2, q1, bnd_some, ac_end q2]
        exact ⟨σ1, rfl, q2.le (by decide), q3⟩
      · obtain ⟨σ1, q1, q2, q3⟩ := a_owes_16 (x := x) h (by decide) hn ha
        rw [if_neg t2, if_neg t2, q1, bnd_some, ac_end q2]
        exact ⟨σ1, rfl, q2.le (by decide), q3⟩
theorem a_act_17 {σ : SG} {n a t x : Int32} (h : TAc σ ([], false) 0) (hn : σ.1 17 1 = n) (ha : σ.1 17 2 = a) : ∃ σ', (if t = (0 : Int32) then (
          bnd (f_Wi_gives x σ) (fun r9 σ8 =>
          if (σ8.1 1 8) = 0 then (
            some (r9, σ8))
          else (
            some ((-15 : Int32), σ8))))
        else if t = (1 : Int32) then (
          bnd (f_Mi_takes_17 x σ) (fun r11 σ10 =>
          if (σ10.1 1 8) = 0 then (
            some (r11, σ10))
          else (
            some ((-15 : Int32), σ10))))
        else if t = (2 : Int32) then (
          bnd (f_Pe_halves_17 x σ) (fun r13 σ12 =>
          if (σ12.1 1 8) = 0 then (
            some (r13, σ12))
          else (
            some ((-15 : Int32), σ12))))
        else (
          bnd (f_Wi_owes x σ) (fun r15 σ14 =>
          if (σ14.1 1 8) = 0 then (
            some (r15, σ14))
          else (
            some ((-15 : Int32), σ14))))) = some (acV (acA 3 n a t x), σ') ∧ TAc σ' (acA 3 n a t x).2 29 ∧ fr La σ σ' := by
  unfold acA
  by_cases t0 : t = 0
  · obtain ⟨σ1, q1, q2, q3⟩ := a_Wi_gives (x := x) h (by decide) hn ha
    rw [if_pos t0, if_pos t0, q1, bnd_some, ac_end q2]
    exact ⟨σ1, rfl, q2.le (by decide), q3⟩
  · rw [if_neg t0, if_neg t0]
    by_cases t1 : t = 1
    · obtain ⟨σ1, q1, q2, q3⟩ := a_Mi_takes_17 (x := x) h (by decide) hn ha
      rw [if_pos t1, if_pos t1, q1, bnd_some, ac_end q2]
      exact ⟨σ1, rfl, q2.le (by decide), q3⟩
    · rw [if_neg t1, if_neg t1]
      by_cases t2 : t = 2
      · obtain ⟨σ1, q1, q2, q3⟩ := a_halves_17 (x := x) h (by decide) hn ha
        rw [if_pos t2, if_pos t2, q1, bnd_some, ac_end q2]
        exact ⟨σ1, rfl, q2.le (by decide), q3⟩
      · obtain ⟨σ1, q1, q2, q3⟩ := a_owes_17 (x := x) h (by decide) hn ha
        rw [if_neg t2, if_neg t2, q1, bnd_some, ac_end q2]
        exact ⟨σ1, rfl, q2.le (by decide), q3⟩
theorem a_act_18 {σ : SG} {n a t x : Int32} (h : TAc σ ([], false) 0) (hn : σ.1 18 1 = n) (ha : σ.1 18 2 = a) : ∃ σ', (if t = (0 : Int32) then (
          bnd (f_Pe_gives_18 x σ) (fun r9 σ8 =>
          if (σ8.1 1 8) = 0 then (
            some (r9, σ8))
          else (
            some ((-15 : Int32), σ8))))
        else if t = (1 : Int32) then (
          bnd (f_Pe_takes_18 x σ) (fun r11 σ10 =>
          if (σ10.1 1 8) = 0 then (
            some (r11, σ10))
          else (
            some ((-15 : Int32), σ10))))
        else if t = (2 : Int32) then (
          bnd (f_Pr_halves x σ) (fun r13 σ12 =>
          if (σ12.1 1 8) = 0 then (
            some (r13, σ12))
          else (
            some ((-15 : Int32), σ12))))
        else (
          bnd (f_Pe_owes_18 x σ) (fun r15 σ14 =>
          if (σ14.1 1 8) = 0 then (
            some (r15, σ14))
          else (
            some ((-15 : Int32), σ14))))) = some (acV (acA 4 n a t x), σ') ∧ TAc σ' (acA 4 n a t x).2 29 ∧ fr La σ σ' := by
  unfold acA
  by_cases t0 : t = 0
  · obtain ⟨σ1, q1, q2, q3⟩ := a_gives_18 (x := x) h (by decide) hn ha
    rw [if_pos t0, if_pos t0, q1, bnd_some, ac_end q2]
    exact ⟨σ1, rfl, q2.le (by decide), q3⟩
  · rw [if_neg t0, if_neg t0]
    by_cases t1 : t = 1
    · obtain ⟨σ1, q1, q2, q3⟩ := a_takes_18 (x := x) h (by decide) hn ha
      rw [if_pos t1, if_pos t1, q1, bnd_some, ac_end q2]
      exact ⟨σ1, rfl, q2.le (by decide), q3⟩
    · rw [if_neg t1, if_neg t1]
      by_cases t2 : t = 2
      · obtain ⟨σ1, q1, q2, q3⟩ := a_halves_18 (x := x) h (by decide) hn ha
        rw [if_pos t2, if_pos t2, q1, bnd_some, ac_end q2]
        exact ⟨σ1, rfl, q2.le (by decide), q3⟩
      · obtain ⟨σ1, q1, q2, q3⟩ := a_owes_18 (x := x) h (by decide) hn ha
        rw [if_neg t2, if_neg t2, q1, bnd_some, ac_end q2]
        exact ⟨σ1, rfl, q2.le (by decide), q3⟩
theorem a_act_19 {σ : SG} {n a t x : Int32} (h : TAc σ ([], false) 0) (hn : σ.1 19 1 = n) (ha : σ.1 19 2 = a) : ∃ σ', (if t = (0 : Int32) then (
          bnd (f_Pe_gives_19 x σ) (fun r9 σ8 =>
          if (σ8.1 1 8) = 0 then (
            some (r9, σ8))
          else (
            some ((-15 : Int32), σ8))))
        else if t = (1 : Int32) then (
          bnd (f_Be_takes x σ) (fun r11 σ10 =>
          if (σ10.1 1 8) = 0 then (
            some (r11, σ10))
          else (
            some ((-15 : Int32), σ10))))
        else if t = (2 : Int32) then (
          bnd (f_Be_halves x σ) (fun r13 σ12 =>
          if (σ12.1 1 8) = 0 then (
            some (r13, σ12))
          else (
            some ((-15 : Int32), σ12))))
        else (
          bnd (f_Pe_owes_19 x σ) (fun r15 σ14 =>
          if (σ14.1 1 8) = 0 then (
            some (r15, σ14))
          else (
            some ((-15 : Int32), σ14))))) = some (acV (acA 5 n a t x), σ') ∧ TAc σ' (acA 5 n a t x).2 29 ∧ fr La σ σ' := by
  unfold acA
  by_cases t0 : t = 0
  · obtain ⟨σ1, q1, q2, q3⟩ := a_gives_19 (x := x) h (by decide) hn ha
    rw [if_pos t0, if_pos t0, q1, bnd_some, ac_end q2]
    exact ⟨σ1, rfl, q2.le (by decide), q3⟩
  · rw [if_neg t0, if_neg t0]
    by_cases t1 : t = 1
    · obtain ⟨σ1, q1, q2, q3⟩ := a_Be_takes (x := x) h (by decide) hn ha
      rw [if_pos t1, if_pos t1, q1, bnd_some, ac_end q2]
      exact ⟨σ1, rfl, q2.le (by decide), q3⟩
    · rw [if_neg t1, if_neg t1]
      by_cases t2 : t = 2
      · obtain ⟨σ1, q1, q2, q3⟩ := a_halves_19 (x := x) h (by decide) hn ha
        rw [if_pos t2, if_pos t2, q1, bnd_some, ac_end q2]
        exact ⟨σ1, rfl, q2.le (by decide), q3⟩
      · obtain ⟨σ1, q1, q2, q3⟩ := a_owes_19 (x := x) h (by decide) hn ha
        rw [if_neg t2, if_neg t2, q1, bnd_some, ac_end q2]
        exact ⟨σ1, rfl, q2.le (by decide), q3⟩
