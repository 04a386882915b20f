/-! the next CHANGE above; a CHANGE made, both sides -/
def cansN (x : Int32) : Nat := if x < 60 then nx (x + 1) else 60
def cansA (S : Nat → Int32) (R : List RU) (x : Int32) : Int32 := if -1 ≤ x then (match nxtA S R nob (cansN x) with
  | none => -3
  | some c => nI c) else -1
theorem ii_1 {x : Int32} (h0 : -1 ≤ x.toInt) (h1 : x.toInt < 1000) : (x + 1).toInt = x.toInt + 1 := by
  have e : (1 : Int32).toInt = 1 := rfl
  rw [Int32.toInt_add, e, Int.bmod_eq_of_le (by omega) (by omega)]
theorem cans_le {x : Int32} (h : -1 ≤ x) : cansN x ≤ 60 ∧ ∀ c, c < 60 → (nI c ≤ x ↔ c < cansN x) := by
  rw [i_le] at h
  have e1 : (-1 : Int32).toInt = -1 := rfl
  have e60 : (60 : Int32).toInt = 60 := rfl
  rw [e1] at h
  unfold cansN
  by_cases h60 : x < 60
  · rw [if_pos h60]
    rw [i_lt, e60] at h60
    have e11 := ii_1 h (by omega)
    obtain ⟨k, hk, ek⟩ := n_of (x := x + 1) (n := 61) (by omega) (by omega)
    have ex : x.toInt = (k : Int) - 1 := by
      rw [ek, nI_toInt (by omega)] at e11
      omega
    rw [ek, nx_nI (by omega)]
    refine ⟨by omega, fun c hc => ?_⟩
    rw [i_le, nI_toInt (by omega), ex]
    omega
  · rw [if_neg h60]
    rw [i_lt, e60] at h60
    refine ⟨Nat.le_refl _, fun c hc => ?_⟩
    rw [i_le, nI_toInt (by omega)]
    omega
theorem fnd_d {q : Nat → Bool} {j : Nat} (hj : j < 21) : (CHl.drop j).find? q = if q (CHl.getD j 0) then some (CHl.getD j 0) else (CHl.drop (j + 1)).find? q := by
  rw [CHl_d j hj, List.find?_cons]
  cases q (CHl.getD j 0) <;> rfl
theorem c_cans_l {σ0 : SG} {S : Nat → Int32} {R : List RU} {x : Int32} (hx : -1 ≤ x) (hg : GD S) : ∀ (d j f : Nat) (σ : SG), j + d = 21 → d < f → TWR 20 σ S nob → RLt 20 σ R → fr (fun q => q = 27) σ0 σ → ∃ σ', f_H_cans_17 f x (21 : Int32) (nI j) σ = some ((match (CHl.drop j).find? (fun c => decide (cansN x ≤ c) && decide (canC S R nob c)) with
  | none => -3
  | some c => nI c), σ') ∧ fr (fun q => q = 27) σ0 σ' := by
  obtain ⟨h60, hcmp⟩ := cans_le hx
  intro d
  induction d with
  | zero =>
    intro j f σ hk hf hT hR h0
    obtain ⟨f, rfl⟩ : ∃ g, f = g + 1 := ⟨f - 1, by omega⟩
    have e : j = 21 := by omega
    subst e
    rw [f_H_cans_17, if_pos (by decide)]
    exact ⟨σ, rfl, h0⟩
  | succ d ih =>
    intro j f σ hk hf hT hR h0
    obtain ⟨f, rfl⟩ : ∃ g, f = g + 1 := ⟨f - 1, by omega⟩
    have hj : j < 21 := by omega
    have hc := CHl_60 j hj
    rw [f_H_cans_17, if_neg (show ¬ (21 : Int32) ≤ nI j from nI_ge hj (by decide)), gd_pos (ix_nI hj (by decide)), lx_eq, nx_nI (by omega), CHl_t j hj, fnd_d hj]
    by_cases hle : CHl.getD j 0 < cansN x
    · rw [if_pos ((hcmp _ hc).mpr hle), lx_eq, nI_1, decide_eq_false (by omega), Bool.false_and, if_neg (by decide)]
      exact ih (j + 1) f σ (by omega) (by omega) hT hR h0
    · rw [if_neg (fun z => hle ((hcmp _ hc).mp z)), decide_eq_true (show cansN x ≤ CHl.getD j 0 by omega), Bool.true_and]
      obtain ⟨σ1, q1, q2⟩ := b_canBe (t := 20) (c := nI (CHl.getD j 0)) hT hg hR
      have T1 := hT.cong (fun c c1 c2 c3 => q2.1 c c3)
      have R1 := hR.cong (fun c c1 c2 => q2.1 c (by omega))
      rw [q1, bnd_some, bI_iff (can_60 hc)]
      by_cases hcan : canC S R nob (CHl.getD j 0)
      · rw [if_neg (bI_n0.mpr hcan), if_pos (decide_eq_true hcan)]
        exact ⟨σ1, rfl, h0.tr q2⟩
      · rw [if_pos (bI_0.mpr hcan), lx_eq, nI_1, if_neg (by rw [decide_eq_false hcan]; decide)]
        exact ih (j + 1) f σ1 (by omega) (by omega) T1 R1 (h0.tr q2)
theorem cq_cans {σ : SG} {S : Nat → Int32} {R : List RU} (hg : GD S) (hT : TWR 20 σ S nob) (hR : RLt 20 σ R) (x : Int32) : ∃ σ', f_H_cans x σ = some (cansA S R x, σ') ∧ fr (fun q => q = 27) σ σ' := by
  unfold f_H_cans cansA
  by_cases hx : -1 ≤ x
  · rw [if_pos hx, if_pos hx]
    exact c_cans_l hx hg 21 0 FU σ rfl (by rw [FU_eq]; omega) hT hR fr.rf
  · rw [if_neg hx, if_neg hx]
    exact ⟨σ, rfl, fr.rf⟩
theorem mq_cans {σ : SG} {R : List RU} (hg : GD (σ.1 149)) (hR : RMt (σ.1 149) R) (h4 : σ.1 148 4 = -1) (x : Int32) : ∃ σ', f_M_cans x σ = some (cansA (σ.1 149) R x, σ') ∧ fr (fun q => q = 152) σ σ' := by
  unfold f_M_cans cansA
  have h6 : ppN (σ.1 149) ≤ 6 := hg.1.1
  by_cases hx : -1 ≤ x
  · rw [if_pos hx, if_pos hx]
    have go : ∃ σ', f_M_nextChange x σ = some (nxI (nxtA (σ.1 149) R nob (cansN x)), σ') ∧ fr (fun q => q = 152) σ σ' := by
      unfold cansN
      by_cases h60 : x < 60
      · rw [if_pos h60]
        rw [i_le] at hx
        rw [i_lt] at h60
        have e1 : (-1 : Int32).toInt = -1 := rfl
        have e60 : (60 : Int32).toInt = 60 := rfl
        rw [e1] at hx
        rw [e60] at h60
        have ex := ii_1 hx (by omega)
        obtain ⟨k, hk, ek⟩ := n_of (x := x + 1) (n := 61) (by omega) (by omega)
        have ex2 : x.toInt = (k : Int) - 1 := by
          rw [ek, nI_toInt (by omega)] at ex
          omega
        rw [ek, nx_nI (by omega)]
        exact m_next hg (abs_nob h4).1 hR (by omega) ek (by rw [i_lt, ex2, nI_toInt (by omega)]; omega)
      · rw [if_neg h60, nxtA_end h6 (by omega)]
        unfold f_M_nextChange
        rw [lx_eq, lx_eq, show σ.1 149 0 = nI (ppN (σ.1 149)) from hg.1.2, show (10 : Int32) = nI 10 from rfl, n_mul, show FU = 1999 + 1 from rfl, f_M_nextChange_14, if_pos (by
          rw [i_lt] at h60
          rw [i_le, nI_toInt (by omega)]
          have e60 : (60 : Int32).toInt = 60 := rfl
          omega)]
        exact ⟨σ, rfl, fr.rf⟩
    obtain ⟨σ', q1, q2⟩ := go
    rw [q1, bnd_some]
    refine ⟨σ', ?_, q2⟩
    cases hn : nxtA (σ.1 149) R nob (cansN x) with
    | none => rw [if_neg (show ¬ (0 : Int32) ≤ nxI none by decide)]
    | some c =>
      have h := CHl_lt _ (nxtA_some hn).2.2
      rw [if_pos (show (0 : Int32) ≤ nxI (some c) from nI_pos' (by omega))]
      rfl
  · rw [if_neg hx, if_neg hx]
    exact ⟨σ, rfl, fr.rf⟩
/-! make -/
abbrev mkI (S : Nat → Int32) (x y : Int32) : Prop := (0 ≤ x ∧ x < S 0) ∧ (y = 9 ∨ (x < y ∧ y < S 0))
abbrev mkC (x y : Int32) : Nat := 10 * nx x + nx y
def mkA (S : Nat → Int32) (R : List RU) (x y : Int32) : Int32 := if mkI S x y then (if canC S R nob (mkC x y) then nI (paC S R nob (mkC x y)) else -4) else -1
def mkN (S : Nat → Int32) (R : List RU) (x y : Int32) : Nat → Int32 := if mkI S x y then (if canC S R nob (mkC x y) then enA S R (mkC x y) else S) else S
theorem mk_in {S : Nat → Int32} {x y : Int32} (g : GD S) (h : mkI S x y) : mkC x y < 60 ∧ (10 : Int32) * x + y = nI (mkC x y) ∧ numP S (mkC x y / 10) (mkC x y % 10) := by
  have h6 : ppN S ≤ 6 := g.1.1
  obtain ⟨⟨h0, h1⟩, h2⟩ := h
  obtain ⟨p, hp, rfl⟩ := n_of0 h0
  rw [g.1.2] at h1
  have hp2 : p < ppN S := (n_lt hp (by omega)).mp h1
  have key : ∀ q, q < 10 → y = nI q → (q = 9 ∨ (p < q ∧ q < ppN S)) → mkC (nI p) y < 60 ∧ (10 : Int32) * nI p + y = nI (mkC (nI p) y) ∧ numP S (mkC (nI p) y / 10) (mkC (nI p) y % 10) := fun q hq e hn => by
    subst e
    have ec : mkC (nI p) (nI q) = 10 * p + q := by
      show 10 * nx (nI p) + nx (nI q) = _
      rw [nx_nI hp, nx_nI (by omega)]
    rw [ec, show (10 * p + q) / 10 = p by omega, show (10 * p + q) % 10 = q by omega]
    exact ⟨by omega, by rw [show (10 : Int32) = nI 10 from rfl, n_mul, n_add], hp2, hn⟩
  rcases h2 with e | ⟨h2, h3⟩
  · exact key 9 (by decide) e (Or.inl rfl)
  · have hy0 : 0 ≤ y := by
      rw [i_lt, nI_toInt hp] at h2
      rw [i_le]
      show (0 : Int) ≤ _
      omega
    obtain ⟨q, hq, rfl⟩ := n_of0 hy0
    rw [g.1.2] at h3
    have h3 : q < ppN S := (n_lt (b := ppN S) hq (by omega)).mp h3
    exact key q (by omega) rfl (Or.inr ⟨(n_lt hp hq).mp h2, h3⟩)
theorem cq_make {σ : SG} {S : Nat → Int32} {R : List RU} (hg : GD S) (hT : TWR 20 σ S nob) (hR : RLt 20 σ R) (hL : LGt 20 σ S) (x y : Int32) : ∃ σ', f_H_make x y σ = some (mkA S R x y, σ') ∧ TWR 20 σ' (mkN S R x y) nob ∧ LGt 20 σ' (mkN S R x y) ∧ fr (Len 20) σ σ' ∧ ∀ i, i ≠ 8 → i ≠ 14 → σ'.1 20 i = σ.1 20 i := by
  have no : ¬ mkI S x y → ∃ σ', some ((-1 : Int32), σ) = some (mkA S R x y, σ') ∧ TWR 20 σ' (mkN S R x y) nob ∧ LGt 20 σ' (mkN S R x y) ∧ fr (Len 20) σ σ' ∧ ∀ i, i ≠ 8 → i ≠ 14 → σ'.1 20 i = σ.1 20 i := fun hn => by
    unfold mkA mkN
    rw [if_neg hn, if_neg hn]
    exact ⟨σ, rfl, hT, hL, fr.rf, fun _ _ _ => rfl⟩
  have yes : mkI S x y → ∃ σ', f_H_make_35 x y σ = some (mkA S R x y, σ') ∧ TWR 20 σ' (mkN S R x y) nob ∧ LGt 20 σ' (mkN S R x y) ∧ fr (Len 20) σ σ' ∧ ∀ i, i ≠ 8 → i ≠ 14 → σ'.1 20 i = σ.1 20 i := fun hy => by
    obtain ⟨h60, ec, hnum⟩ := mk_in hg hy
    unfold f_H_make_35 mkA mkN
    rw [if_pos hy, if_pos hy, ec, lx_eq]
    obtain ⟨σ1, q1, q2⟩ := b_canBe (t := 20) (c := nI (mkC x y)) hT hg hR
    have T1 := hT.cong (fun c c1 c2 c3 => q2.1 c c3)
    have R1 := hR.cong (fun c c1 c2 => q2.1 c (by omega))
    obtain ⟨l1, l2, l3, l4⟩ := hL
    have L1 : LGt 20 σ1 S := ⟨l1, by rw [q2.at (by decide)]; exact l2, by rw [q2.at (by decide)]; exact l3, fun i hi => by rw [q2.1 _ (by have := l1.1; omega)]; exact l4 i hi⟩
    rw [q1, bnd_some, bI_iff (can_60 h60)]
    by_cases hcan : canC S R nob (mkC x y)
    · rw [if_neg (bI_n0.mpr hcan), if_pos hcan, if_pos hcan]
      obtain ⟨σ2, r1, r2, r3, r4, r5⟩ := b_enter T1 hg R1 L1 hcan h60
      rw [r1, bnd_some]
      exact ⟨σ2, rfl, r3, r4, (q2.mono (fun q hq => by omega)).tr r2, fun i h8 h14 => by rw [r5 i h8 h14, q2.at (by decide)]⟩
    · rw [if_pos (bI_0.mpr hcan), if_neg hcan, if_neg hcan]
      exact ⟨σ1, rfl, T1, L1, q2.mono (fun q hq => by omega), fun i _ _ => q2.at (by decide) i⟩
  unfold f_H_make
  rw [b_isPerson, hT.1, bnd_some]
  by_cases hx : 0 ≤ x ∧ x < S 0
  · rw [if_neg (bI_n0.mpr hx)]
    by_cases h9 : y = 9
    · rw [if_pos h9]
      exact yes ⟨hx, Or.inl h9⟩
    · rw [if_neg h9]
      by_cases hle : y ≤ x
      · rw [if_pos hle]
        exact no (fun z => by rcases z.2 with w | w; exact h9 w; exact absurd hle (Int32.not_le.mpr w.1))
      · rw [if_neg hle, b_isPerson, hT.1, bnd_some]
        have hlt : x < y := Int32.not_le.mp hle
        by_cases hy : 0 ≤ y ∧ y < S 0
        · rw [if_pos (bI_n0.mpr hy)]
          exact yes ⟨hx, Or.inr ⟨hlt, hy.2⟩⟩
        · rw [if_neg (fun z => z (bI_0.mpr hy))]
          refine no (fun z => ?_)
          rcases z.2 with w | w
          · exact h9 w
          · refine hy ⟨?_, w.2⟩
            have a := hx.1
            rw [i_le] at a ⊢
            rw [i_lt] at hlt
            omega
  · rw [if_pos (bI_0.mpr hx)]
    exact no (fun z => hx z.1)
theorem m_isChg {σ : SG} (h : rg (σ.1 149 0) 6) (x y : Int32) : f_M_isChange x y σ = some (bI (mkI (σ.1 149) x y), σ) := by
  unfold f_M_isChange
  rw [m_isPerson h, bnd_some]
  by_cases hx : 0 ≤ x ∧ x < σ.1 149 0
  · rw [if_neg (bI_n0.mpr hx)]
    by_cases h9 : y = 9
    · rw [if_pos h9, bI_pos ⟨hx, Or.inl h9⟩]
    · rw [if_neg h9]
      by_cases hle : y ≤ x
      · rw [if_pos hle, bI_neg (fun z => by rcases z.2 with w | w; exact h9 w; exact absurd hle (Int32.not_le.mpr w.1))]
      · have hlt : x < y := Int32.not_le.mp hle
        rw [if_neg hle, m_isPerson h, bnd_some]
        by_cases hy : 0 ≤ y ∧ y < σ.1 149 0
        · rw [if_neg (bI_n0.mpr hy), bI_pos ⟨hx, Or.inr ⟨hlt, hy.2⟩⟩]
        · rw [if_pos (bI_0.mpr hy), bI_neg]
          intro z
          rcases z.2 with w | w
          · exact h9 w
          · refine hy ⟨?_, w.2⟩
            have a := hx.1
            rw [i_le] at a ⊢
            rw [i_lt] at hlt
            omega
  · rw [if_pos (bI_0.mpr hx), bI_neg (fun z => hx z.1)]
theorem mq_make {σ : SG} {R : List RU} (hg : GD (σ.1 149)) (hR : RMt (σ.1 149) R) (h4 : σ.1 148 4 = -1) (hl : rg (σ.1 149 4) 12) (x y : Int32) : ∃ σ', f_M_make x y σ = some (mkA (σ.1 149) R x y, σ') ∧ σ'.1 149 = mkN (σ.1 149) R x y ∧ fr (fun c => c = 148 ∨ c = 149 ∨ c = 152) σ σ' ∧ ∀ i, i ≠ 6 → i ≠ 7 → σ'.1 148 i = σ.1 148 i := by
  unfold f_M_make mkA mkN
  rw [m_isChg hg.1, bnd_some]
  by_cases hy : mkI (σ.1 149) x y
  · obtain ⟨h60, ec, hnum⟩ := mk_in hg hy
    rw [if_pos (bI_n0.mpr hy), if_pos hy, if_pos hy, ec]
    obtain ⟨σ1, q1, q2⟩ := m_canBe (k := mkC x y) (by omega) hg (abs_nob h4).1 hR hnum
    have s1 : σ1.1 149 = σ.1 149 := q2.1 _ (by decide)
    rw [q1, bnd_some]
    by_cases hcan : canC (σ.1 149) R nob (mkC x y)
    · rw [if_pos (bI_n0.mpr hcan), if_pos hcan, if_pos hcan]
      obtain ⟨σ2, r1, r2, r3, r4, r5⟩ := m_makes (σ := σ1) (R := R) h60 (by rw [s1]; exact hg) (by rw [q2.at (by decide)]; exact h4) (by rw [s1]; exact hR) (by rw [s1]; exact hl) (by rw [s1]; exact hcan)
      rw [r1, bnd_some, r3, s1]
      exact ⟨σ2, rfl, by rw [r2, s1], (q2.mono (fun c hc => Or.inr (Or.inr hc))).tr r4, fun i h6 h7 => by rw [r5 i h6 h7, q2.at (by decide)]⟩
    · rw [if_neg (fun z => z (bI_0.mpr hcan)), if_neg hcan, if_neg hcan]
      exact ⟨σ1, rfl, s1, q2.mono (fun c hc => Or.inr (Or.inr hc)), fun i _ _ => q2.at (by decide) i⟩
  · rw [if_neg (fun z => z (bI_0.mpr hy)), if_neg hy, if_neg hy]
    exact ⟨σ, rfl, rfl, fr.rf, fun _ _ _ => rfl⟩
theorem SOK.mk {S : Nat → Int32} {R : List RU} {x y : Int32} (h : SOK S) : SOK (mkN S R x y) := by
  unfold mkN
  by_cases hy : mkI S x y
  · rw [if_pos hy]
    by_cases hcan : canC S R nob (mkC x y)
    · rw [if_pos hcan]
      exact h.en hcan (mk_in h.1 hy).1
    · rw [if_neg hcan]; exact h
  · rw [if_neg hy]; exact h
theorem RMt.mk {S : Nat → Int32} {R : List RU} {x y : Int32} (hR : RMt S R) (h : GD S) : RMt (mkN S R x y) R := by
  unfold mkN
  by_cases hy : mkI S x y
  · rw [if_pos hy]
    by_cases hcan : canC S R nob (mkC x y)
    · rw [if_pos hcan]
      exact enA_rm hR h hcan
    · rw [if_neg hcan]; exact hR
  · rw [if_neg hy]; exact hR
