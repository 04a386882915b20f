/-! the reference's acts -/
def TAm (σ : SG) (s : AS) (m k : Nat) (n a : Int32) : Prop := s.1.length ≤ m ∧ σ.1 148 40 = nI s.1.length ∧ σ.1 148 44 = bI (s.2 = true) ∧ (∀ i x, s.1[i]? = some x → σ.1 166 i = nI x) ∧ σ.1 148 41 = n ∧ σ.1 148 42 = a ∧ σ.1 148 43 = nI k
abbrev frA (σ σ' : SG) : Prop := fr (fun c => c = 148 ∨ c = 166) σ σ' ∧ ∀ i, i ≠ 40 → i ≠ 44 → σ'.1 148 i = σ.1 148 i
theorem frA.rf {σ : SG} : frA σ σ := ⟨fr.rf, fun _ _ _ => rfl⟩
theorem frA.tr {a b c : SG} (h1 : frA a b) (h2 : frA b c) : frA a c := ⟨h1.1.tr h2.1, fun i i1 i2 => (h2.2 i i1 i2).trans (h1.2 i i1 i2)⟩
section TAMS
variable {σ : SG} {s : AS} {m k : Nat} {n a x : Int32}
theorem TAm.le {m' : Nat} (h : TAm σ s m k n a) (hm : m ≤ m') : TAm σ s m' k n a := ⟨Nat.le_trans h.1 hm, h.2⟩
theorem TAm.eN (h : TAm σ s m k n a) : σ.1 148 41 = n := h.2.2.2.2.1
theorem TAm.eA (h : TAm σ s m k n a) : σ.1 148 42 = a := h.2.2.2.2.2.1
theorem TAm.eK (h : TAm σ s m k n a) : σ.1 148 43 = nI k := h.2.2.2.2.2.2
theorem m_runs (x : Nat) (h : TAm σ s m k n a) (hm : m < 30) : ∃ σ', f_M_runs (nI x) σ = some ((), σ') ∧ TAm σ' (bg x s) (m + 1) k n a ∧ frA σ σ' := by
  obtain ⟨h1, h2, h3, h4, h5, h6, h7⟩ := h
  unfold f_M_runs
  rw [h3]
  by_cases hp : s.2 = true
  · rw [if_pos (bI_n0.mpr hp), bg_p hp]
    exact ⟨σ, rfl, ⟨by omega, h2, h3, h4, h5, h6, h7⟩, frA.rf⟩
  · rw [if_neg (fun z => z (bI_0.mpr hp)), h2, if_neg (show ¬ (30 : Int32) ≤ nI s.1.length from nI_ge (show s.1.length < 30 by omega) (by decide)), gd_pos (ix_nI (by omega) (by decide)), nx_nI (by omega), sx_eq, uI_c (c' := 148) (by decide), h2, nI_1, sx_eq]
    have e : bg x s = (s.1 ++ [x], false) := if_neg hp
    rw [e]
    refine ⟨_, rfl, ⟨by rw [List.length_append, List.length_singleton]; omega, by rw [uI_same, List.length_append, List.length_singleton], ?_, fun i y hy => ?_, by rw [uI_i (by decide), uI_c (by decide)]; exact h5, by rw [uI_i (by decide), uI_c (by decide)]; exact h6, by rw [uI_i (by decide), uI_c (by decide)]; exact h7⟩, fr.tr (fr.uI (Or.inr rfl)) (fr.uI (Or.inl rfl)), fun i i1 i2 => by rw [uI_i i1, uI_c (by decide)]⟩
    · rw [uI_i (by decide), uI_c (by decide), h3, bI_neg hp, bI_neg (fun z : (false = true) => by cases z)]
    · rw [uI_c (by decide)]
      by_cases hi : i < s.1.length
      · rw [List.getElem?_append_left hi] at hy
        rw [uI_i (by omega)]
        exact h4 i y hy
      · rw [List.getElem?_append_right (by omega)] at hy
        have hi2 : i = s.1.length := by
          cases hk : i - s.1.length with
          | zero => omega
          | succ k => rw [hk] at hy; cases hy
        rw [hi2, uI_same]
        rw [hi2, Nat.sub_self] at hy
        rw [← Option.some.inj hy]
theorem k_eq {j : Nat} (hk : k ≤ 5) (hj : j ≤ 5) : nI k = nI j ↔ k = j := n_inj (by omega) (by omega)
theorem m_gives_28 (h : TAm σ s m k n a) (hm : m < 30) (hk : k ≤ 5) : ∃ σ', f_M_gives_28 x σ = some ((if k = 1 then (gvP a x s).1 * 2 else if k = 3 then (gvP a x s).1 - 1 else (gvP a x s).1), σ') ∧ TAm σ' (bg 10 s) (m + 1) k n a ∧ frA σ σ' := by
  unfold f_M_gives_28
  obtain ⟨σ1, q1, q2, q3⟩ := m_runs 10 h hm
  have q1 : f_M_runs (10 : Int32) σ = _ := q1
  rw [q1, bnd_some, q2.eA, q2.eK, lx_eq]
  by_cases k1 : k = 1
  · rw [if_neg (show ¬ ¬ nI k = (1 : Int32) from fun z => z (by rw [k1]; rfl)), if_pos k1]
    exact ⟨σ1, rfl, q2, q3⟩
  · rw [if_pos (show ¬ nI k = (1 : Int32) from fun z => k1 ((k_eq (j := 1) hk (by decide)).mp z)), if_neg k1]
    by_cases k3 : k = 3
    · rw [if_neg (show ¬ ¬ nI k = (3 : Int32) from fun z => z (by rw [k3]; rfl)), if_pos k3]
      exact ⟨σ1, rfl, q2, q3⟩
    · rw [if_pos (show ¬ nI k = (3 : Int32) from fun z => k3 ((k_eq (j := 3) hk (by decide)).mp z)), if_neg k3]
      exact ⟨σ1, rfl, q2, q3⟩
theorem m_gives (h : TAm σ s m k n a) (hm : m + 2 ≤ 30) (hk : k ≤ 5) : ∃ σ', f_M_gives x σ = some ((gvA k a x s).1, σ') ∧ TAm σ' (gvA k a x s).2 (m + 2) k n a ∧ frA σ σ' := by
  unfold f_M_gives gvA
  rw [h.eK]
  by_cases k1 : k = 1
  · have k3 : ¬ k = 3 := by omega
    obtain ⟨σ1, q1, q2, q3⟩ := m_runs 20 h (by omega)
    have q1 : f_M_runs (20 : Int32) σ = _ := q1
    obtain ⟨σ2, r1, r2, r3⟩ := m_gives_28 (x := x) q2 (by omega) hk
    rw [if_pos k1] at r1
    rw [if_neg (show ¬ ¬ nI k = (1 : Int32) from fun z => z (by rw [k1]; rfl)), if_pos k1, q1, bnd_some, q2.eK, if_pos (show ¬ nI k = (3 : Int32) from fun z => k3 ((k_eq (j := 3) hk (by decide)).mp z)), r1]
    exact ⟨σ2, rfl, r2, q3.tr r3⟩
  · rw [if_pos (show ¬ nI k = (1 : Int32) from fun z => k1 ((k_eq (j := 1) hk (by decide)).mp z)), if_neg k1]
    by_cases k3 : k = 3
    · obtain ⟨σ1, q1, q2, q3⟩ := m_runs 50 h (by omega)
      have q1 : f_M_runs (50 : Int32) σ = _ := q1
      obtain ⟨σ2, r1, r2, r3⟩ := m_gives_28 (x := x) q2 (by omega) hk
      rw [if_neg k1, if_pos k3] at r1
      rw [if_neg (show ¬ ¬ nI k = (3 : Int32) from fun z => z (by rw [k3]; rfl)), if_pos k3, q1, bnd_some, r1]
      exact ⟨σ2, rfl, r2, q3.tr r3⟩
    · obtain ⟨σ2, r1, r2, r3⟩ := m_gives_28 (x := x) h (by omega) hk
      rw [if_neg k1, if_neg k3] at r1
      rw [if_pos (show ¬ nI k = (3 : Int32) from fun z => k3 ((k_eq (j := 3) hk (by decide)).mp z)), if_neg k3, r1]
      exact ⟨σ2, rfl, r2.le (by omega), r3⟩
theorem m_takes_46 (b : Bool) (h : TAm σ s m k n a) (hm : m + 3 ≤ 30) (hk : k ≤ 5) : ∃ σ', f_M_takes_46 x (nI b.toNat) σ = some ((if b = true then (tkP k n a x s).1 ^^^ n else if k = 5 then 0 - (tkP k n a x s).1 else (tkP k n a x s).1), σ') ∧ TAm σ' (tkP k n a x s).2 (m + 3) k n a ∧ frA σ σ' := by
  unfold f_M_takes_46
  obtain ⟨σ1, q1, q2, q3⟩ := m_runs 11 h (by omega)
  have q1 : f_M_runs (11 : Int32) σ = _ := q1
  obtain ⟨σ2, r1, r2, r3⟩ := m_gives (x := x) q2 (by omega) hk
  rw [q1, bnd_some, r1, bnd_some, r2.eN, lx_eq, r2.eK]
  cases b with
  | true =>
    rw [if_neg (show ¬ nI (true).toNat = 0 by decide), if_pos rfl]
    exact ⟨σ2, rfl, r2, q3.tr r3⟩
  | false =>
    rw [if_pos (show nI (false).toNat = 0 by decide), if_neg (show ¬ (false = true) by decide)]
    by_cases k5 : k = 5
    · rw [if_neg (show ¬ ¬ nI k = (5 : Int32) from fun z => z (by rw [k5]; rfl)), if_pos k5]
      exact ⟨σ2, rfl, r2, q3.tr r3⟩
    · rw [if_pos (show ¬ nI k = (5 : Int32) from fun z => k5 ((k_eq (j := 5) hk (by decide)).mp z)), if_neg k5]
      exact ⟨σ2, rfl, r2, q3.tr r3⟩
theorem m_takes (h : TAm σ s m k n a) (hm : m + 4 ≤ 30) (hk : k ≤ 5) : ∃ σ', f_M_takes x σ = some ((tkA k n a x s).1, σ') ∧ TAm σ' (tkA k n a x s).2 (m + 4) k n a ∧ frA σ σ' := by
  have mis : k = 2 ∨ k = 3 → ∃ σ', f_M_takes_21 x (1 : Int32) σ = some ((tkA k n a x s).1, σ') ∧ TAm σ' (tkA k n a x s).2 (m + 4) k n a ∧ frA σ σ' := fun hk2 => by
    unfold f_M_takes_21 tkA
    obtain ⟨σ1, q1, q2, q3⟩ := m_runs 30 h (by omega)
    have q1 : f_M_runs (30 : Int32) σ = _ := q1
    obtain ⟨σ2, r1, r2, r3⟩ := m_takes_46 (x := x) true q2 (by omega) hk
    have r1 : f_M_takes_46 x (1 : Int32) σ1 = _ := r1
    rw [if_pos rfl] at r1
    rw [if_neg (by decide), if_pos hk2, q1, bnd_some, q2.eK, if_pos (show ¬ nI k = (5 : Int32) from fun z => by have := (k_eq (j := 5) hk (by decide)).mp z; omega), r1]
    exact ⟨σ2, rfl, r2, q3.tr r3⟩
  unfold f_M_takes
  rw [h.eK]
  by_cases k2 : k = 2
  · rw [if_pos (show nI k = (2 : Int32) by rw [k2]; rfl)]
    exact mis (Or.inl k2)
  · rw [if_neg (show ¬ nI k = (2 : Int32) from fun z => k2 ((k_eq (j := 2) hk (by decide)).mp z))]
    by_cases k3 : k = 3
    · rw [if_neg (show ¬ ¬ nI k = (3 : Int32) from fun z => z (by rw [k3]; rfl))]
      exact mis (Or.inr k3)
    · have k23 : ¬ (k = 2 ∨ k = 3) := fun z => by omega
      rw [if_pos (show ¬ nI k = (3 : Int32) from fun z => k3 ((k_eq (j := 3) hk (by decide)).mp z))]
      unfold f_M_takes_21 tkA
      rw [if_pos rfl, h.eK, if_neg k23]
      by_cases k5 : k = 5
      · obtain ⟨σ1, q1, q2, q3⟩ := m_runs 60 h (by omega)
        have q1 : f_M_runs (60 : Int32) σ = _ := q1
        obtain ⟨σ2, r1, r2, r3⟩ := m_takes_46 (x := x) false q2 (by omega) hk
        have r1 : f_M_takes_46 x (0 : Int32) σ1 = _ := r1
        rw [if_neg (by decide), if_pos k5] at r1
        rw [if_neg (show ¬ ¬ nI k = (5 : Int32) from fun z => z (by rw [k5]; rfl)), if_pos k5, q1, bnd_some, r1]
        exact ⟨σ2, rfl, r2, q3.tr r3⟩
      · obtain ⟨σ2, r1, r2, r3⟩ := m_takes_46 (x := x) false h (by omega) hk
        have r1 : f_M_takes_46 x (0 : Int32) σ = _ := r1
        rw [if_neg (by decide), if_neg k5] at r1
        rw [if_pos (show ¬ nI k = (5 : Int32) from fun z => k5 ((k_eq (j := 5) hk (by decide)).mp z)), if_neg k5, r1]
        exact ⟨σ2, rfl, r2.le (by omega), r3⟩
theorem m_plainHalves (h : TAm σ s m k n a) (hm : m + 1 ≤ 30) : ∃ σ', f_M_plainHalves x σ = some ((hvP n a x s).1, σ') ∧ TAm σ' (hvP n a x s).2 (m + 1) k n a ∧ frA σ σ' := by
  unfold f_M_plainHalves hvP
  obtain ⟨σ1, q1, q2, q3⟩ := m_runs 12 h (by omega)
  have q1 : f_M_runs (12 : Int32) σ = _ := q1
  rw [q1, bnd_some, q2.eN, q2.eA]
  by_cases e : a = n
  · rw [if_neg (fun z => z e), sx_eq, if_pos e]
    obtain ⟨t1, t2, t3, t4, t5, t6, t7⟩ := q2
    exact ⟨_, rfl, ⟨t1, by rw [uI_i (by decide)]; exact t2, by rw [uI_same, bI_pos rfl], fun i y hy => by rw [uI_c (by decide)]; exact t4 i y hy, by rw [uI_i (by decide)]; exact t5, by rw [uI_i (by decide)]; exact t6, by rw [uI_i (by decide)]; exact t7⟩, q3.1.tr (fr.uI (Or.inl rfl)), fun i i1 i2 => by rw [uI_i i2, q3.2 i i1 i2]⟩
  · rw [if_pos e, gd_pos (sub_0 e), if_neg e]
    exact ⟨σ1, rfl, q2, q3⟩
theorem gvA_p (hs : s.2 = true) : (gvA k a x s).2 = s := by
  unfold gvA gvP
  by_cases k1 : k = 1
  · rw [if_pos k1, bg_p hs, bg_p hs]
  · rw [if_neg k1]
    by_cases k3 : k = 3
    · rw [if_pos k3, bg_p hs, bg_p hs]
    · rw [if_neg k3, bg_p hs]
/-- its value where something was parted by 0 is no matter -/
theorem m_halves (h : TAm σ s m k n a) (hm : m + 5 ≤ 30) (hk : k ≤ 5) : ∃ σ' v, f_M_halves x σ = some (v, σ') ∧ (v = (hvA k n a x s).1 ∨ (hvA k n a x s).2.2 = true) ∧ TAm σ' (hvA k n a x s).2 (m + 5) k n a ∧ frA σ σ' := by
  unfold f_M_halves hvA hvB
  rw [h.eK]
  by_cases k4 : k = 4
  · obtain ⟨σ1, q1, q2, q3⟩ := m_runs 40 h (by omega)
    have q1 : f_M_runs (40 : Int32) σ = _ := q1
    obtain ⟨σ2, r1, r2, r3⟩ := m_plainHalves (x := x - 3) q2 (by omega)
    rw [if_neg (show ¬ ¬ nI k = (4 : Int32) from fun z => z (by rw [k4]; rfl)), if_pos k4, q1, bnd_some, r1, bnd_some]
    exact ⟨σ2, _, rfl, Or.inl rfl, r2.le (by omega), q3.tr r3⟩
  · rw [if_pos (show ¬ nI k = (4 : Int32) from fun z => k4 ((k_eq (j := 4) hk (by decide)).mp z)), if_neg k4]
    by_cases k5 : k = 5
    · obtain ⟨σ1, q1, q2, q3⟩ := m_runs 61 h (by omega)
      have q1 : f_M_runs (61 : Int32) σ = _ := q1
      obtain ⟨σ2, w1, w2, w3⟩ := m_runs 40 q2 (by omega)
      have w1 : f_M_runs (40 : Int32) σ1 = _ := w1
      obtain ⟨σ3, r1, r2, r3⟩ := m_plainHalves (x := x - 3) w2 (by omega)
      rw [if_neg (show ¬ ¬ nI k = (5 : Int32) from fun z => z (by rw [k5]; rfl)), if_pos k5, q1, bnd_some, w1, bnd_some, r1, bnd_some, r2.2.2.1]
      by_cases hp : (hvP n a (x - 3) (bg 40 (bg 61 s))).2.2 = true
      · rw [if_neg (bI_n0.mpr hp), gvA_p hp]
        exact ⟨σ3, _, rfl, Or.inr hp, r2.le (by omega), (q3.tr w3).tr r3⟩
      · obtain ⟨σ4, t1, t2, t3⟩ := m_gives (x := n) r2 (by omega) hk
        rw [if_pos (bI_0.mpr hp), r2.eN, t1, bnd_some]
        exact ⟨σ4, _, rfl, Or.inl rfl, t2.le (by omega), ((q3.tr w3).tr r3).tr t3⟩
    · obtain ⟨σ2, r1, r2, r3⟩ := m_plainHalves (x := x) h (by omega)
      rw [if_pos (show ¬ nI k = (5 : Int32) from fun z => k5 ((k_eq (j := 5) hk (by decide)).mp z)), if_neg k5, r1, bnd_some]
      exact ⟨σ2, _, rfl, Or.inl rfl, r2.le (by omega), r3⟩
theorem m_owes_14 (h : TAm σ s m k n a) (hm : m + 10 ≤ 30) (hk : k ≤ 5) : ∃ σ' v, f_M_owes_14 x σ = some (v, σ') ∧ ((v = if k = 3 then (owP k n a x s).1 + (hvA k n a a (owP k n a x s).2).1 else (owP k n a x s).1) ∨ (k = 3 ∧ (hvA k n a a (owP k n a x s).2).2.2 = true)) ∧ TAm σ' (if k = 3 then (hvA k n a a (owP k n a x s).2).2 else (owP k n a x s).2) (m + 10) k n a ∧ frA σ σ' := by
  unfold f_M_owes_14
  obtain ⟨σ1, q1, q2, q3⟩ := m_runs 13 h (by omega)
  have q1 : f_M_runs (13 : Int32) σ = _ := q1
  obtain ⟨σ2, r1, r2, r3⟩ := m_takes (x := x) q2 (by omega) hk
  rw [q1, bnd_some, r1, bnd_some, r2.eA, lx_eq, r2.eK]
  by_cases k3 : k = 3
  · obtain ⟨σ3, v, t1, t2, t3, t4⟩ := m_halves (x := a) r2 (by omega) hk
    rw [if_neg (show ¬ ¬ nI k = (3 : Int32) from fun z => z (by rw [k3]; rfl)), if_pos k3, if_pos k3, t1, bnd_some]
    refine ⟨σ3, _, rfl, ?_, t3.le (by omega), (q3.tr r3).tr t4⟩
    rcases t2 with e | e
    · rw [e]
      exact Or.inl rfl
    · exact Or.inr ⟨k3, e⟩
  · rw [if_pos (show ¬ nI k = (3 : Int32) from fun z => k3 ((k_eq (j := 3) hk (by decide)).mp z)), if_neg k3, if_neg k3]
    exact ⟨σ2, _, rfl, Or.inl rfl, r2.le (by omega), q3.tr r3⟩
theorem m_owes (h : TAm σ s m k n a) (hm : m + 11 ≤ 30) (hk : k ≤ 5) : ∃ σ' v, f_M_owes x σ = some (v, σ') ∧ (v = (owA k n a x s).1 ∨ (owA k n a x s).2.2 = true) ∧ TAm σ' (owA k n a x s).2 (m + 11) k n a ∧ frA σ σ' := by
  unfold f_M_owes owA
  rw [h.eK]
  by_cases k3 : k = 3
  · obtain ⟨σ1, q1, q2, q3⟩ := m_runs 51 h (by omega)
    have q1 : f_M_runs (51 : Int32) σ = _ := q1
    obtain ⟨σ2, v, r1, r2, r3, r4⟩ := m_owes_14 (x := x) q2 (by omega) hk
    rw [if_pos k3] at r2 r3
    rw [if_neg (show ¬ ¬ nI k = (3 : Int32) from fun z => z (by rw [k3]; rfl)), if_pos k3, q1, bnd_some, r1]
    refine ⟨σ2, v, rfl, ?_, r3, q3.tr r4⟩
    rcases r2 with e | e
    · exact Or.inl e
    · exact Or.inr e.2
  · obtain ⟨σ2, v, r1, r2, r3, r4⟩ := m_owes_14 (x := x) h (by omega) hk
    rw [if_neg k3] at r2 r3
    rw [if_pos (show ¬ nI k = (3 : Int32) from fun z => k3 ((k_eq (j := 3) hk (by decide)).mp z)), if_neg k3, r1]
    refine ⟨σ2, v, rfl, ?_, r3.le (by omega), r4⟩
    rcases r2 with e | e
    · exact Or.inl e
    · exact absurd e.1 k3
theorem am_end {p : Int32 × AS} {v : Int32} (h : TAm σ p.2 m k n a) (hv : v = p.1 ∨ p.2.2 = true) : (if σ.1 148 44 = 0 then some (v, σ) else some ((-15 : Int32), σ)) = some (acV p, σ) := by
  unfold acV
  rw [h.2.2.1]
  by_cases hp : p.2.2 = true
  · rw [if_neg (bI_n0.mpr hp), if_pos hp]
  · rw [if_pos (bI_0.mpr hp), if_neg hp]
    rcases hv with e | e
    · rw [e]
    · exact absurd e hp
theorem m_act_t {t : Int32} (h : TAm σ ([], false) 0 k n a) (hk : k ≤ 5) : ∃ σ', (if ¬ t = 0 then (
        if ¬ t = (1 : Int32) then (
          if ¬ t = (2 : Int32) then (
            bnd (f_M_owes x σ) (fun r15 σ14 =>
            if (σ14.1 148 44) = 0 then (
              some (r15, σ14))
            else (
              some ((-15 : Int32), σ14))))
          else (
            bnd (f_M_halves x σ) (fun r17 σ16 =>
            if (σ16.1 148 44) = 0 then (
              some (r17, σ16))
            else (
              some ((-15 : Int32), σ16)))))
        else (
          bnd (f_M_takes x σ) (fun r19 σ18 =>
          if (σ18.1 148 44) = 0 then (
            some (r19, σ18))
          else (
            some ((-15 : Int32), σ18)))))
      else (
        bnd (f_M_gives x σ) (fun r21 σ20 =>
        if (σ20.1 148 44) = 0 then (
          some (r21, σ20))
        else (
          some ((-15 : Int32), σ20))))) = some (acV (acA k n a t x), σ') ∧ TAm σ' (acA k n a t x).2 29 k n a ∧ frA σ σ' := by
  unfold acA
  by_cases t0 : t = 0
  · obtain ⟨σ1, q1, q2, q3⟩ := m_gives (x := x) h (by decide) hk
    rw [if_neg (fun z => z t0), if_pos t0, q1, bnd_some, am_end q2 (Or.inl rfl)]
    exact ⟨σ1, rfl, q2.le (by decide), q3⟩
  · rw [if_pos t0, if_neg t0]
    by_cases t1 : t = 1
    · obtain ⟨σ1, q1, q2, q3⟩ := m_takes (x := x) h (by decide) hk
      rw [if_neg (fun z => z t1), if_pos t1, q1, bnd_some, am_end q2 (Or.inl rfl)]
      exact ⟨σ1, rfl, q2.le (by decide), q3⟩
    · rw [if_pos t1, if_neg t1]
      by_cases t2 : t = 2
      · obtain ⟨σ1, v, q1, q2, q3, q4⟩ := m_halves (x := x) h (by decide) hk
        rw [if_neg (fun z => z t2), if_pos t2, q1, bnd_some, am_end q3 q2]
        exact ⟨σ1, rfl, q3.le (by decide), q4⟩
      · obtain ⟨σ1, v, q1, q2, q3, q4⟩ := m_owes (x := x) h (by decide) hk
        rw [if_pos t2, if_neg t2, q1, bnd_some, am_end q3 q2]
        exact ⟨σ1, rfl, q3.le (by decide), q4⟩
end TAMS
