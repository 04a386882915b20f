/-! THE MEMORY AT THE START -/
def σ0 : SG := (fun c i => if (c = 2 ∨ c = 160) ∧ i < 4 then -1 else if (c = 20 ∨ c = 55 ∨ c = 90) ∧ i = 13 then 1 else if c = 148 ∧ i = 4 then -1 else if c = 149 ∧ i = 5 then 1 else 0, fun _ _ => 0)
def S0 : Nat → Int32 := fun i => if i = 5 then 1 else 0
def H0 : HO := fun k i => if k = 0 ∧ i < 4 then -1 else 0
def w0 : WD := mkW S0 [] (fun _ => 0) [] 0 0 (fun _ _ => 0) 0 (fun _ => 0) H0 []
theorem z0_i (c i : Nat) : σ0.1 c i = if (c = 2 ∨ c = 160) ∧ i < 4 then (-1 : Int32) else if (c = 20 ∨ c = 55 ∨ c = 90) ∧ i = 13 then 1 else if c = 148 ∧ i = 4 then -1 else if c = 149 ∧ i = 5 then 1 else 0 := rfl
theorem z0_c {c i : Nat} (h : c ≠ 2 ∧ c ≠ 160 ∧ c ≠ 20 ∧ c ≠ 55 ∧ c ≠ 90 ∧ c ≠ 148 ∧ c ≠ 149) : σ0.1 c i = 0 := by
  rw [z0_i, if_neg (by omega), if_neg (by omega), if_neg (by omega), if_neg (by omega)]
theorem z0_20 {i : Nat} (h : i ≠ 13) : σ0.1 20 i = 0 := by
  rw [z0_i, if_neg (by omega), if_neg (by omega), if_neg (by omega), if_neg (by omega)]
theorem z0_148 {i : Nat} (h : i ≠ 4) : σ0.1 148 i = 0 := by
  rw [z0_i, if_neg (by omega), if_neg (by omega), if_neg (by omega), if_neg (by omega)]
theorem S0_0 {i : Nat} (h : i ≠ 5) : S0 i = 0 := if_neg h
theorem S0_r {i b : Nat} (h : i ≠ 5) : rg (S0 i) b := by
  rw [S0_0 h]
  exact ⟨Nat.zero_le _, rfl⟩
theorem S0_gd : GD S0 := ⟨S0_r (by decide), S0_r (by decide), fun j hj => ⟨S0_r (by omega), S0_r (by omega)⟩, fun p hp => ⟨S0_r (by omega), S0_r (by omega), S0_r (by omega), S0_r (by omega), S0_r (by omega)⟩⟩
theorem S0_ok : SOK S0 := by
  refine ⟨S0_gd, fun j hj => ?_, fun i hi => ?_, S0_r (by decide), S0_r (by decide)⟩
  · show nx (S0 (14 + j)) ≤ 99
    rw [S0_0 (by omega)]
    decide
  · rw [S0_0 (by decide)] at hi
    exact absurd hi (Nat.not_lt_zero _)
theorem S0_wh : wN (whS S0 nob) = 0 := by
  rw [wN_ext (g := nob) (fun p hp => by
    unfold whS
    rw [S0_0 (by decide)]
    rfl)]
  rfl
theorem R0 : RMt S0 [] := ⟨⟨S0_0 (by decide), by decide, by decide⟩, fun q hq => by cases hq⟩
theorem w0_S {i : Nat} (h : i ≠ 5) : w0.S i = 0 := S0_0 h
theorem IC_0 : IC 0 σ0 w0 := by
  refine ⟨⟨⟨?_, ?_, ?_, ?_, fun p hp => ?_, fun j hj => ?_⟩, ⟨⟨?_, by decide, ?_, by decide⟩, fun q hq => by cases hq⟩, ⟨S0_r (by decide), rfl, ?_, fun i hi => ?_⟩, ⟨S0_r (by decide), ?_, fun i hi => ?_⟩⟩, fun z => absurd rfl z, z0_c (by decide), ⟨z0_c (by decide), by decide, fun k hk => absurd hk (Nat.not_lt_zero _)⟩, fun s hs => ?_, ⟨by decide, z0_c (by decide), fun i x hx => by cases hx⟩, ⟨z0_c (by decide), by decide, fun i hi => absurd hi (Nat.not_lt_zero _)⟩, rfl, fun y hy => ⟨0, 0, fun _ => 0, Nat.le_refl _, by decide, fun p _ => by show (0 : Nat) < 8; decide, rfl⟩⟩
  · exact (z0_20 (by decide)).trans (w0_S (by decide)).symm
  · exact (z0_20 (by decide)).trans (w0_S (by decide)).symm
  · exact z0_20 (by decide)
  · have e : nI (wN (whS S0 nob)) = 0 := by rw [S0_wh]; rfl
    exact (z0_20 (by decide)).trans e.symm
  · have e : ∀ i, i ≠ 5 → (w0.S i : Int32) = 0 := fun i h => w0_S h
    rw [z0_c (by omega), z0_c (by omega), z0_c (by omega), z0_c (by omega), z0_c (by omega), e _ (by omega), e _ (by omega), e _ (by omega), e _ (by omega), e _ (by omega)]
    exact ⟨rfl, rfl, rfl, rfl, rfl⟩
  · have e : ∀ i, i ≠ 5 → (w0.S i : Int32) = 0 := fun i h => w0_S h
    rw [z0_c (by omega), z0_c (by omega), e _ (by omega), e _ (by omega)]
    exact ⟨rfl, rfl⟩
  · exact z0_c (by decide)
  · exact z0_c (by decide)
  · exact (z0_20 (by decide)).trans (w0_S (by decide)).symm
  · have e : w0.S 4 = 0 := w0_S (by decide)
    rw [e] at hi
    exact absurd hi (Nat.not_lt_zero _)
  · exact (z0_20 (by decide)).trans (w0_S (by decide)).symm
  · have e : w0.S 3 = 0 := w0_S (by decide)
    rw [e] at hi
    exact absurd hi (Nat.not_lt_zero _)
  · have e0 : w0.H 0 s = -1 := if_pos ⟨rfl, hs⟩
    have e : ∀ k i, k ≠ 0 → w0.H k i = 0 := fun k i h => if_neg (fun z => h z.1)
    refine ⟨?_, Or.inl e0, (z0_c (by decide)).trans (e 1 s (by decide)).symm, by rw [e 1 s (by decide)]; exact ⟨Nat.zero_le _, rfl⟩, fun i hi => (z0_c (by omega)).trans (e 2 _ (by decide)).symm, (z0_c (by decide)).trans (e 3 s (by decide)).symm, Or.inl (e 3 s (by decide))⟩
    rw [e0, z0_i, if_pos ⟨Or.inl rfl, hs⟩]
theorem IM_0 : IM σ0 w0 := by
  refine ⟨?_, rfl, R0, S0_ok, fun i hi => S0_0 (by omega), ?_, fun _ _ => rfl, fun z => absurd rfl z, z0_148 (by decide), ⟨z0_148 (by decide), by decide, fun k hk => absurd hk (Nat.not_lt_zero _)⟩, fun k hk => ?_, ⟨by decide, z0_148 (by decide), fun i x hx => by cases hx⟩, z0_148 (by decide), by decide, fun i hi => absurd hi (Nat.not_lt_zero _)⟩
  · funext i
    show σ0.1 149 i = if i = 5 then 1 else 0
    rw [z0_i, if_neg (by omega), if_neg (by omega), if_neg (by omega)]
    by_cases h : i = 5
    · rw [if_pos ⟨rfl, h⟩, if_pos h]
    · rw [if_neg (by omega), if_neg h]
  · funext i
    exact z0_c (by decide)
  · funext i
    by_cases h : k = 0
    · rw [h, z0_i]
      show _ = if 0 = 0 ∧ i < 4 then (-1 : Int32) else 0
      by_cases h4 : i < 4
      · rw [if_pos ⟨Or.inr rfl, h4⟩, if_pos ⟨rfl, h4⟩]
      · rw [if_neg (by omega), if_neg (by omega), if_neg (by omega), if_neg (by omega), if_neg (by omega)]
    · have e : w0.H k i = 0 := if_neg (fun z => h z.1)
      rw [e]
      exact z0_c (by omega)
theorem law_one {N : Nat} {xs : Nat → Int32} (hN : N ≤ 2560) : ∃ σ', f_L_law_18 N xs FU (0 : Int32) σ0 = some (1, σ') := law_all (N := N) (xs := xs) (by omega) 512 0 FU 0 σ0 w0 (by omega) (by omega) (by rw [FU_eq]; omega) IC_0 IM_0 (by decide)
