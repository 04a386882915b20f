/-! SEED, both sides -/
theorem cq_seed {σ : SG} {S : Nat → Int32} (h : σ.1 20 13 = S 5) (x : Int32) : ∃ σ', f_H_seed x σ = some (S 5, σ') ∧ σ'.1 20 13 = us S 5 x 5 ∧ fr (fun c => c = 20) σ σ' ∧ ∀ i, i ≠ 13 → σ'.1 20 i = σ.1 20 i := by
  unfold f_H_seed
  rw [lx_eq, sx_eq, h]
  exact ⟨_, rfl, by rw [uI_same, us_same], fr_u1, fun i hi => uI_i hi⟩
theorem mq_seed (σ : SG) (x : Int32) : ∃ σ', f_M_seed x σ = some (σ.1 149 5, σ') ∧ σ'.1 149 = us (σ.1 149) 5 x ∧ fr (fun c => c = 149) σ σ' := by
  unfold f_M_seed
  rw [lx_eq, sx_eq]
  exact ⟨_, rfl, uI149, fr_u1⟩
/-- a place of the reference's row that the search does not read -/
theorem GD.oth {S : Nat → Int32} {i : Nat} {v : Int32} (g : GD S) (h0 : i ≠ 0) (h2 : i ≠ 2) (h : i < 6 ∨ 52 ≤ i) : GD (us S i v) := by
  obtain ⟨a, b, c, d⟩ := g
  refine ⟨by rw [us_ne (fun z => h0 z.symm)]; exact a, by rw [us_ne (fun z => h2 z.symm)]; exact b, fun j hj => ?_, fun p hp => ?_⟩
  · rw [us_ne (by omega), us_ne (by omega)]
    exact c j hj
  · rw [us_ne (by omega), us_ne (by omega), us_ne (by omega), us_ne (by omega), us_ne (by omega)]
    exact d p hp
theorem whS_oth {S : Nat → Int32} {i : Nat} {v : Int32} (h0 : i ≠ 0) (h : i < 6 ∨ 52 ≤ i) (o : Nat → Bool) (hp : ∀ p, 6 ≤ p → p < nx (S 0) → False) : wN (whS (us S i v) o) = wN (whS S o) := by
  refine wN_ext fun p hp6 => ?_
  show (decide (p < nx (us S i v 0)) && (decide (us S i v (22 + 5 * p + 1) = us S i v (22 + 5 * p + 2)) && !o p)) = (decide (p < nx (S 0)) && (decide (S (22 + 5 * p + 1) = S (22 + 5 * p + 2)) && !o p))
  rw [us_ne (fun z => h0 z.symm), us_ne (by omega), us_ne (by omega)]
theorem TWR.oth {t : Nat} {σ : SG} {S : Nat → Int32} {o : Nat → Bool} {i : Nat} {v : Int32} (hT : TWR t σ S o) (h6 : ppN S ≤ 6) (h0 : i ≠ 0) (h2 : i ≠ 2) (h : i < 6 ∨ 52 ≤ i) : TWR t σ (us S i v) o := by
  obtain ⟨a, b, c, d, e, f⟩ := hT
  refine ⟨by rw [us_ne (fun z => h0 z.symm)]; exact a, by rw [us_ne (fun z => h2 z.symm)]; exact b, c, by rw [whS_oth h0 h _ (fun p q1 q2 => by have : nx (S 0) ≤ 6 := h6; omega)]; exact d, fun p hp => ?_, fun j hj => ?_⟩
  · rw [us_ne (by omega), us_ne (by omega), us_ne (by omega), us_ne (by omega), us_ne (by omega)]
    exact e p hp
  · rw [us_ne (by omega), us_ne (by omega)]
    exact f j hj
