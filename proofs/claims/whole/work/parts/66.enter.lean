/-! a CHANGE made and written into THE LEDGER, both sides -/
theorem TWR.own {t i : Nat} {σ : SG} {S : Nat → Int32} {o : Nat → Bool} {v : Int32} (h : TWR t σ S o) (h2 : i ≠ 2) (h12 : i ≠ 12) (h8 : i ≠ 8) (h9 : i ≠ 9) : TWR t (uI σ t i v) S o := TV.tw (h.tv.own h2 h12) (by rw [uI_i (by omega)]; exact h.2.2.1) (by rw [uI_i (by omega)]; exact h.2.2.2.1)
abbrev Len (t q : Nat) : Prop := q = t ∨ q = t + 7 ∨ q = t + 9 ∨ q = t + 11 ∨ q = t + 14 ∨ (t + 16 ≤ q ∧ q ≤ t + 27)
theorem b_ent_l {t : Nat} {K : Int32 → SG → Option (Int32 × SG)} {x : Int32} : ∀ (d k f : Nat) (σ : SG), k + 1 + d = 12 → d < f → ∃ τ, f_To_enter_11 t K f x (nI (k + 1)) σ = K x (uI τ t 14 11) ∧ fr (fun c => t + 16 ≤ c ∧ c ≤ t + 27) σ τ ∧ (∀ i, k ≤ i → i < 11 → ∀ j, j < 3 → τ.1 (t + 15 + 1 + i) j = σ.1 (t + 15 + 1 + (i + 1)) j) ∧ ∀ i, i < k → τ.1 (t + 15 + 1 + i) = σ.1 (t + 15 + 1 + i) := by
  intro d
  induction d with
  | zero =>
    intro k f σ hk hf
    obtain ⟨f, rfl⟩ : ∃ g, f = g + 1 := ⟨f - 1, by omega⟩
    have e : k = 11 := by omega
    subst e
    rw [f_To_enter_11, if_pos (by decide), sx_eq]
    exact ⟨σ, rfl, fr.rf, fun i h1 h2 => by omega, fun i _ => rfl⟩
  | succ d ih =>
    intro k f σ hk hf
    obtain ⟨f, rfl⟩ : ∃ g, f = g + 1 := ⟨f - 1, by omega⟩
    have hlt : k + 1 < 12 := by omega
    rw [f_To_enter_11, if_neg (show ¬ (12 : Int32) ≤ nI (k + 1) from nI_ge hlt (by decide)), gd_pos (ix_nI hlt (by decide)), nI_pred, gd_pos (ix_nI (by omega) (by decide)), gd_pos (by decide), sx_eq, lx_eq, nI_1, nx_nI (by omega), nx_nI (by omega)]
    obtain ⟨τ, q1, q2, q3, q4⟩ := ih (k + 1) f (cpI σ (t + 15 + 1 + (k + 1)) (t + 15 + 1 + k) (0 : Int32) (0 : Int32) (3 : Int32)) (by omega) (by omega)
    refine ⟨τ, q1, (fr_cp ⟨by omega, by omega⟩).tr q2, fun i h1 h2 j hj => ?_, fun i hi => ?_⟩
    · by_cases e : i = k
      · subst e
        rw [q4 i (by omega), cph (show j < nx (3 : Int32) from hj)]
      · rw [q3 i (by omega) h2 j hj, cpc (by omega)]
    · rw [q4 i (by omega)]
      funext j
      exact cpc (by omega)
theorem b_ent_49 {t c m : Nat} {σ : SG} {S : Nat → Int32} {R : List RU} (hT : TWR t σ S nob) (hg : GD S) (hR : RLt t σ R) (hcan : canC S R nob c) (hc : c < 60) (hm : σ.1 t 14 = nI m) (h12 : m < 12) : ∃ σ', f_To_enter_49 t (nI c) σ = some (nI (paC S R nob c), σ') ∧ fr (Len t) σ σ' ∧ TWR t σ' (doC S R nob c) nob ∧ (∀ i, i ≠ 8 → i ≠ 14 → σ'.1 t i = σ.1 t i) ∧ σ'.1 t 14 = nI (m + 1) ∧ (∀ i, i ≠ m → i < 12 → σ'.1 (t + 15 + 1 + i) = σ.1 (t + 15 + 1 + i)) ∧ σ'.1 (t + 15 + 1 + m) 0 = nI c ∧ σ'.1 (t + 15 + 1 + m) 1 = hsS S (c / 10) ∧ σ'.1 (t + 15 + 1 + m) 2 = hsS (doC S R nob c) (c / 10) := by
  have hp : c / 10 < 6 := by omega
  unfold f_To_enter_49
  rw [lx_eq, hm, gd_pos (ix_nI h12 (by decide)), sx_eq, nx_nI (by omega), nI_1, sx_eq, n_d10 (by omega), gd_pos (ix_nI hp (by decide)), sx_eq, nx_nI (by omega)]
  generalize h2 : uI (uI σ t 14 (nI (m + 1))) (t + 15 + 1 + m) 0 (nI c) = σ2
  have e9 : σ2.1 (t + 9) (c / 10) = hsS S (c / 10) := by
    rw [← h2, uI_c (by omega), uI_c (by omega)]
    exact (hT.2.2.2.2.1 _ hp).2.1
  rw [e9]
  generalize h3 : uI σ2 (t + 15 + 1 + m) 1 (hsS S (c / 10)) = σ3
  have T1 : TWR t (uI σ t 14 (nI (m + 1))) S nob := hT.own (by decide) (by decide) (by decide) (by decide)
  have T3 : TWR t σ3 S nob := T1.cong (fun q c1 c2 _ => by rw [← h3, ← h2, uIc (by omega), uIc (by omega)])
  have R3 : RLt t σ3 R := hR.cong (fun q c1 c2 => by rw [← h3, ← h2, uIc (by omega), uIc (by omega), uIc (by omega)])
  have f3 : fr (Len t) σ σ3 := by
    rw [← h3, ← h2]
    exact ((fr.tr (fr.uI (Or.inl rfl)) (fr.uI (by omega))).tr (fr.uI (by omega)))
  obtain ⟨σ5, q1, q2, q3, q4⟩ := b_step (t := t) (k := c) (by omega) T3 hg R3 hcan
  have e5 : σ5.1 (t + 9) (c / 10) = hsS (doC S R nob c) (c / 10) := (q3.2.2.2.2.1 _ hp).2.1
  rw [q1, bnd_some, gd_pos (ix_nI hp (by decide)), sx_eq, e5]
  have row5 : ∀ i, i < 12 → σ5.1 (t + 15 + 1 + i) = σ3.1 (t + 15 + 1 + i) := fun i hi => q2.1 _ (by omega)
  refine ⟨_, rfl, (f3.tr (q2.mono (fun q hq => by omega))).tr (fr.uI (by omega)), q3.cong (fun q c1 c2 _ => uIc (by omega)), fun i h8 h14 => ?_, ?_, fun i hi hi2 => ?_, ?_, ?_, ?_⟩
  · rw [uI_c (by omega), q4 i h8, ← h3, ← h2, uI_c (by omega), uI_c (by omega), uI_i h14]
  · rw [uI_c (by omega), q4 14 (by decide), ← h3, ← h2, uI_c (by omega), uI_c (by omega), uI_same]
  · rw [uIc (by omega), row5 i hi2, ← h3, ← h2, uIc (by omega), uIc (by omega), uIc (by omega)]
  · rw [uI_i (by decide), row5 m h12, ← h3, uI_i (by decide), ← h2, uI_same]
  · rw [uI_i (by decide), row5 m h12, ← h3, uI_same]
  · rw [uI_same]
theorem b_enter0 {t c m : Nat} {σ : SG} {S : Nat → Int32} {R : List RU} (hT : TWR t σ S nob) (hg : GD S) (hR : RLt t σ R) (hcan : canC S R nob c) (hc : c < 60) (hm : σ.1 t 14 = nI m) (h12 : m ≤ 12) : ∃ σ', f_To_enter t (nI c) σ = some (nI (paC S R nob c), σ') ∧ fr (Len t) σ σ' ∧ TWR t σ' (doC S R nob c) nob ∧ (∀ i, i ≠ 8 → i ≠ 14 → σ'.1 t i = σ.1 t i) ∧ ∃ m1, m1 = (if m < 12 then m else 11) ∧ m1 < 12 ∧ σ'.1 t 14 = nI (m1 + 1) ∧ (∀ i, i < m1 → ∀ j, j < 3 → σ'.1 (t + 15 + 1 + i) j = σ.1 (t + 15 + 1 + (if m < 12 then i else i + 1)) j) ∧ σ'.1 (t + 15 + 1 + m1) 0 = nI c ∧ σ'.1 (t + 15 + 1 + m1) 1 = hsS S (c / 10) ∧ σ'.1 (t + 15 + 1 + m1) 2 = hsS (doC S R nob c) (c / 10) := by
  unfold f_To_enter
  rw [hm]
  by_cases hlt : m < 12
  · rw [if_pos (show nI m < (12 : Int32) from (n_lt (b := 12) (by omega) (by decide)).mpr hlt)]
    obtain ⟨σ', q1, q2, q3, q4, q5, q6, q7, q8, q9⟩ := b_ent_49 hT hg hR hcan hc hm hlt
    refine ⟨σ', q1, q2, q3, q4, m, by rw [if_pos hlt], hlt, q5, fun i hi j hj => by rw [q6 i (by omega) (by omega), if_pos hlt], q7, q8, q9⟩
  · rw [if_neg (show ¬ nI m < (12 : Int32) from fun z => hlt ((n_lt (b := 12) (by omega) (by decide)).mp z))]
    obtain ⟨τ, q1, q2, q3, -⟩ := b_ent_l (t := t) (K := f_To_enter_49 t) (x := nI c) 11 0 FU σ rfl (by rw [FU_eq]; omega)
    have q1 : f_To_enter_11 t (f_To_enter_49 t) FU (nI c) (1 : Int32) σ = _ := q1
    rw [q1]
    have T1 : TWR t (uI τ t 14 11) S nob := (hT.cong (fun q c1 c2 _ => q2.1 q (by omega))).own (by decide) (by decide) (by decide) (by decide)
    have R1 : RLt t (uI τ t 14 11) R := hR.cong (fun q c1 c2 => by rw [uIc (by omega), q2.1 q (by omega)])
    obtain ⟨σ', r1, r2, r3, r4, r5, r6, r7, r8, r9⟩ := b_ent_49 (m := 11) T1 hg R1 hcan hc uI_same (by decide)
    refine ⟨σ', r1, ((q2.mono (fun q hq => by omega)).tr (fr.uI (Or.inl rfl))).tr r2, r3, fun i h8 h14 => by rw [r4 i h8 h14, uI_i h14, q2.at (by omega)], 11, by rw [if_neg hlt], by decide, r5, fun i hi j hj => ?_, r7, r8, r9⟩
    rw [r6 i (by omega) (by omega), uI_c (by omega), q3 i (by omega) hi j hj, if_neg hlt]
theorem b_enter {t c : Nat} {σ : SG} {S : Nat → Int32} {R : List RU} (hT : TWR t σ S nob) (hg : GD S) (hR : RLt t σ R) (hL : LGt t σ S) (hcan : canC S R nob c) (hc : c < 60) : ∃ σ', f_To_enter t (nI c) σ = some (nI (paC S R nob c), σ') ∧ fr (Len t) σ σ' ∧ TWR t σ' (enA S R c) nob ∧ LGt t σ' (enA S R c) ∧ (∀ i, i ≠ 8 → i ≠ 14 → σ'.1 t i = σ.1 t i) := by
  obtain ⟨l1, l2, l3, l4⟩ := hL
  have hm1 := m1n_le (S := S)
  obtain ⟨σ', q1, q2, q3, q4, m1, em, h12, q5, q6, q7, q8, q9⟩ := b_enter0 hT hg hR hcan hc (l3.trans l1.2) l1.1
  have em : m1 = m1n S := em
  subst em
  refine ⟨σ', q1, q2, enA_pl.tw (hg.do hcan).1.1 q3, ⟨?_, ?_, ?_, fun i hi => ?_⟩, q4⟩
  · rw [enA_4]
    exact rg_nI (by omega) (by decide)
  · rw [q4 13 (by decide) (by decide), l2, enA_o (by decide) (by decide), doC_off hg hcan (by decide)]
  · rw [q5, enA_4]
  · rw [enA_4, nx_nI (by omega)] at hi
    by_cases e : i = m1n S
    · subst e
      rw [q7, q8, q9, enA_n.1, enA_n.2.1, enA_n.2.2]
      exact ⟨rfl, rfl, rfl⟩
    · have hi : i < m1n S := by omega
      have hj : (if nx (S 4) < 12 then i else i + 1) < nx (S 4) := by
        unfold m1n at hi
        have := l1.1
        by_cases q : nx (S 4) < 12
        · rw [if_pos q] at hi ⊢; exact hi
        · rw [if_neg q] at hi ⊢; omega
      obtain ⟨a, b, d⟩ := l4 _ hj
      rw [q6 i hi 0 (by decide), q6 i hi 1 (by decide), q6 i hi 2 (by decide), a, b, d, show 70 + 3 * i = 70 + 3 * i + 0 from rfl, enA_r hg hcan hi (by decide), enA_r hg hcan hi (w := 1) (by decide), enA_r hg hcan hi (w := 2) (by decide)]
      exact ⟨rfl, rfl, rfl⟩
/-! the reference -/
theorem m_mk_l {K : Int32 → SG → Option (Unit × SG)} {x : Int32} : ∀ (d k f : Nat) (σ : SG), k + d = 103 → d < f → 70 ≤ k → ∃ τ, f_M_makes_19 K f x (nI k) σ = K x (uI τ 149 4 (τ.1 149 4 - 1)) ∧ fr (fun c => c = 149) σ τ ∧ (∀ i, k ≤ i → i < 103 → τ.1 149 i = σ.1 149 (i + 3)) ∧ ∀ i, i < k ∨ 103 ≤ i → τ.1 149 i = σ.1 149 i := by
  intro d
  induction d with
  | zero =>
    intro k f σ hk hf h70
    obtain ⟨f, rfl⟩ : ∃ g, f = g + 1 := ⟨f - 1, by omega⟩
    have e : k = 103 := by omega
    subst e
    rw [f_M_makes_19, if_pos (by decide), sx_eq]
    exact ⟨σ, rfl, fr.rf, fun i h1 h2 => by omega, fun i _ => rfl⟩
  | succ d ih =>
    intro k f σ hk hf h70
    obtain ⟨f, rfl⟩ : ∃ g, f = g + 1 := ⟨f - 1, by omega⟩
    have hlt : k < 103 := by omega
    rw [f_M_makes_19, if_neg (show ¬ (103 : Int32) ≤ nI k from nI_ge hlt (by decide)), show (3 : Int32) = nI 3 from rfl, n_add, gd_pos (ix_nI (by omega) (by decide)), gd_pos (ix_nI (by omega) (by decide)), sx_eq, lx_eq, nI_1, nx_nI (by omega), nx_nI (by omega)]
    obtain ⟨τ, q1, q2, q3, q4⟩ := ih (k + 1) f (uI σ 149 k (σ.1 149 (k + 3))) (by omega) (by omega) (by omega)
    refine ⟨τ, q1, fr149.tr q2, fun i h1 h2 => ?_, fun i hi => ?_⟩
    · by_cases e : i = k
      · subst e
        rw [q4 i (by omega), uI_same]
      · rw [q3 i (by omega) h2, uI_i (by omega)]
    · rw [q4 i (by omega), uI_i (by omega)]
theorem m_mk_55 {c m : Nat} {σ : SG} {T : Nat → Int32} {x : Int32} (hc : c < 60) (hs : σ.1 149 = T) (h4 : T 4 = nI m) (hm : m ≤ 11) (h6 : σ.1 148 6 = x) (hq : c % 10 = 9 ∨ (c % 10 < 6 ∧ hsS T (c % 10) = x)) : f_M_makes_55 (nI c) σ = some ((), uI (uI (uI (uI σ 149 (70 + 3 * m) (nI c)) 149 (70 + 3 * m + 1) (hsS T (c / 10))) 149 (70 + 3 * m + 2) x) 149 4 (nI (m + 1))) := by
  have hp : c / 10 < 6 := by omega
  unfold f_M_makes_55
  rw [hs, h4, show (70 : Int32) = nI 70 from rfl, show (3 : Int32) = nI 3 from rfl, n_mul, n_add, lx_eq, n_rem (by omega), lx_eq, gd_pos (ix_nI (by omega) (by decide)), nx_nI (by omega), sx_eq, n_d10 (by omega), m_its1 hp, bnd_some, show (1 : Int32) = nI 1 from rfl, n_add, gd_pos (ix_nI (by omega) (by decide)), nx_nI (by omega), sx_eq, show (2 : Int32) = nI 2 from rfl, n_add, gd_pos (ix_nI (by omega) (by decide)), nx_nI (by omega)]
  have e1 : (uI σ 149 (70 + 3 * m) (nI c)).1 149 (22 + 5 * (c / 10) + 1) = hsS T (c / 10) := by rw [uI_i (by omega), hs]
  rw [e1]
  rcases hq with w | ⟨w, w2⟩
  · rw [w, if_neg (show ¬ ¬ nI 9 = (9 : Int32) from fun z => z rfl), sx_eq, sx_eq, uI_c (c' := 148) (by decide), uI_c (c' := 148) (by decide), h6, uI_i (j := 4) (by omega), uI_i (j := 4) (by omega), uI_i (j := 4) (by omega), hs, h4, n_add]
  · rw [if_pos (show ¬ nI (c % 10) = (9 : Int32) from fun z => by have := (n_inj (b := 9) (by omega) (by decide)).mp z; omega), show nI 1 = (1 : Int32) from rfl, m_its1 w, bnd_some, gd_pos (ix_nI (by omega) (by decide)), sx_eq, sx_eq, uI_i (j := 22 + 5 * (c % 10) + 1) (by omega), uI_i (j := 22 + 5 * (c % 10) + 1) (by omega), hs, show T (22 + 5 * (c % 10) + 1) = x from w2, uI_i (j := 4) (by omega), uI_i (j := 4) (by omega), uI_i (j := 4) (by omega), hs, h4, nI_1]
theorem mk_hs {S : Nat → Int32} {R : List RU} {c : Nat} (g : GD S) (hcan : canC S R nob c) (hc : c < 60) : c % 10 = 9 ∨ (c % 10 < 6 ∧ hsS (doC S R nob c) (c % 10) = hsS S (c / 10)) := by
  have h6 : ppN S ≤ 6 := g.1.1
  by_cases h9 : c % 10 = 9
  · exact Or.inl h9
  · rcases hcan.2 with w | w
    · exact absurd w.1 h9
    · have hq : c % 10 < 6 := by have := w.2.2.1.1; omega
      refine Or.inr ⟨hq, ?_⟩
      unfold doC doA
      rw [if_neg h9]
      exact us_same
theorem m_makes {c : Nat} {σ : SG} {R : List RU} (hc : c < 60) (hg : GD (σ.1 149)) (h4 : σ.1 148 4 = -1) (hR : RMt (σ.1 149) R) (hl : rg (σ.1 149 4) 12) (hcan : canC (σ.1 149) R nob c) : ∃ σ', f_M_makes (nI c) σ = some ((), σ') ∧ σ'.1 149 = enA (σ.1 149) R c ∧ σ'.1 148 7 = nI (paC (σ.1 149) R nob c) ∧ fr (fun c => c = 148 ∨ c = 149 ∨ c = 152) σ σ' ∧ ∀ i, i ≠ 6 → i ≠ 7 → σ'.1 148 i = σ.1 148 i := by
  unfold f_M_makes
  obtain ⟨σ1, q1, q2, q3, q4, q5, q6⟩ := m_does (k := c) (by omega) hg (abs_nob h4).1 hR (canC_num hcan)
  have e4 : σ1.1 149 4 = σ.1 149 4 := by rw [q2]; exact doC_off hg hcan (by decide)
  have hmk := mk_hs hg hcan hc
  rw [q1, bnd_some, e4]
  have hm := hl.1
  by_cases hlt : nx (σ.1 149 4) < 12
  · have em : m1n (σ.1 149) = nx (σ.1 149 4) := by unfold m1n; rw [if_pos hlt]
    have em2 : shL (doC (σ.1 149) R nob c) = doC (σ.1 149) R nob c := by
      funext i
      unfold shL
      rw [if_pos (by rw [doC_off hg hcan (by decide)]; exact hlt)]
    rw [if_pos (show ¬ σ.1 149 4 = (12 : Int32) from fun z => by rw [z] at hlt; exact absurd hlt (by decide)), m_mk_55 hc q2 (show doA _ _ _ _ _ 4 = nI (nx (σ.1 149 4)) by rw [← q2, e4]; exact hl.2) (by omega) q3 hmk]
    refine ⟨_, rfl, ?_, ?_, (q5.tr (((fr149.tr fr149).tr fr149).tr fr149 |>.mono (fun z hz => Or.inr (Or.inl hz)))), fun i h1 h2 => ?_⟩
    · rw [uI149, uI149, uI149, uI149, q2]
      unfold enA
      rw [em2, em]
    · rw [uI_c (by decide), uI_c (by decide), uI_c (by decide), uI_c (by decide), q4]
    · rw [uI_c (by decide), uI_c (by decide), uI_c (by decide), uI_c (by decide), q6 i h1 h2]
  · have em : m1n (σ.1 149) = 11 := by unfold m1n; rw [if_neg hlt]
    have e12 : σ.1 149 4 = 12 := by rw [hl.2, show nx (σ.1 149 4) = 12 by omega]; rfl
    rw [if_neg (show ¬ ¬ σ.1 149 4 = (12 : Int32) from fun z => z e12)]
    obtain ⟨τ, t1, t2, t3, t4⟩ := m_mk_l (K := f_M_makes_55) (x := nI c) 33 70 FU σ1 rfl (by rw [FU_eq]; omega) (by decide)
    have t1 : f_M_makes_19 f_M_makes_55 FU (nI c) (70 : Int32) σ1 = _ := t1
    have et : (uI τ 149 4 (τ.1 149 4 - 1)).1 149 = shL (doC (σ.1 149) R nob c) := by
      rw [uI149]
      funext i
      unfold shL
      rw [doC_off (i := 4) hg hcan (by decide), if_neg hlt]
      by_cases i4 : i = 4
      · rw [if_pos i4, i4, us_same, t4 4 (by decide), e4, e12]
        rfl
      · rw [if_neg i4, us_ne i4]
        by_cases hi : 70 ≤ i ∧ i < 103
        · rw [if_pos hi, t3 i hi.1 hi.2, q2]
        · rw [if_neg hi, t4 i (by omega), q2]
    have hmk2 : c % 10 = 9 ∨ (c % 10 < 6 ∧ hsS (shL (doC (σ.1 149) R nob c)) (c % 10) = hsS (σ.1 149) (c / 10)) := by
      rcases hmk with w | w
      · exact Or.inl w
      · exact Or.inr ⟨w.1, by show shL _ (22 + 5 * (c % 10) + 1) = _; rw [shL_o (by omega) (by omega)]; exact w.2⟩
    rw [t1, m_mk_55 (m := 11) hc et (by rw [shL_4 (by rw [doC_off hg hcan (by decide)]; exact hl), m1n_do hg hcan, em]) (by decide) (by rw [uI_c (by decide), t2.at (by decide)]; exact q3) hmk2]
    refine ⟨_, rfl, ?_, ?_, q5.tr (((((t2.tr fr149).tr fr149).tr fr149).tr fr149).tr fr149 |>.mono (fun z hz => Or.inr (Or.inl hz))), fun i h1 h2 => ?_⟩
    · rw [uI149, uI149, uI149, uI149, et]
      unfold enA
      rw [em, show hsS (shL (doC (σ.1 149) R nob c)) (c / 10) = hsS (doC (σ.1 149) R nob c) (c / 10) from shL_o (by omega) (by omega)]
    · rw [uI_c (by decide), uI_c (by decide), uI_c (by decide), uI_c (by decide), uI_c (by decide), t2.at (by decide), q4]
    · rw [uI_c (by decide), uI_c (by decide), uI_c (by decide), uI_c (by decide), uI_c (by decide), t2.at (by decide), q6 i h1 h2]
