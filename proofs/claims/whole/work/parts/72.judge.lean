/-! THE READER takes ROWS, both sides -/
abbrev jdT (R : List RU) (W : Nat → Nat → Int32) (k : Nat) (T : Nat → Int32) : Nat → Int32 := doC T R nob (nx (W k 0))
abbrev jdOK (R : List RU) (m : Nat) (W : Nat → Nat → Int32) (k : Nat) (T : Nat → Int32) : Prop := CAN T R nob (W k 0) ∧ W k 1 = coS (jdT R W k T) (ppN (jdT R W k T)) ∧ W k 2 = nI (wN (whS (jdT R W k T) nob)) ∧ (k + 1 = m → doneP (jdT R W k T) nob)
def jdF (R : List RU) (m : Nat) (W : Nat → Nat → Int32) : Nat → Nat → (Nat → Int32) → Int32
  | 0, _, _ => 0
  | d + 1, k, T => if jdOK R m W k T then jdF R m W d (k + 1) (jdT R W k T) else nI (k + 1)
def jdA (S : Nat → Int32) (R : List RU) (m : Nat) (W : Nat → Nat → Int32) : Int32 := jdF R m W m 0 S
theorem c_jd {R : List RU} {m : Nat} {W : Nat → Nat → Int32} : ∀ (d k f : Nat) (T : Nat → Int32) (σ : SG), k + d = m → d < f → GD T → TWR 90 σ T nob → RLt 90 σ R → RWc σ m W → ∃ σ', f_H_judge_13 f (nI k) σ = some (jdF R m W d k T, σ') ∧ fr (fun c => 90 ≤ c ∧ c ≤ 104) σ σ' := by
  intro d
  induction d with
  | zero =>
    intro k f T σ hk hf g hT hR hW
    obtain ⟨f, rfl⟩ : ∃ g, f = g + 1 := ⟨f - 1, by omega⟩
    have e : k = m := hk
    rw [f_H_judge_13, hW.1, e, if_pos (Int32.le_refl _)]
    exact ⟨σ, rfl, fr.rf⟩
  | succ d ih =>
    intro k f T σ hk hf g hT hR hW
    obtain ⟨f, rfl⟩ : ∃ g, f = g + 1 := ⟨f - 1, by omega⟩
    have hm := hW.2.1
    have hk6 : k < 6 := by omega
    have row : ∀ (τ : SG), fr (fun c => 90 ≤ c ∧ c ≤ 104) σ τ → ∀ w, w < 3 → τ.1 (141 + 1 + k) w = W k w := fun τ hτ w hw => by
      rw [hτ.1 _ (by omega)]
      exact hW.2.2 k (by omega) w hw
    obtain ⟨σ1, q1, q2⟩ := b_canBe (t := 90) (c := W k 0) hT g hR
    have f1 : fr (fun c => 90 ≤ c ∧ c ≤ 104) σ σ1 := q2.mono (fun c hc => by omega)
    have T1 := hT.cong (fun c c1 c2 c3 => q2.1 c c3)
    have R1 := hR.cong (fun c c1 c2 => q2.1 c (by omega))
    rw [f_H_judge_13, hW.1, if_neg (nI_ge (show k < m by omega) (by omega)), gd_pos (ix_nI hk6 (by decide)), nx_nI (by omega), row σ fr.rf 0 (by decide), q1, bnd_some, jdF]
    by_cases hcan : CAN T R nob (W k 0)
    · rw [if_pos (bI_n0.mpr hcan)]
      obtain ⟨n, hn, en⟩ := n_of0 hcan.1
      have hcan2 : canC T R nob n := by
        have := hcan.2
        rw [en, nx_nI hn] at this
        exact this
      have eT : jdT R W k T = doC T R nob n := by
        show doC T R nob (nx (W k 0)) = _
        rw [en, nx_nI hn]
      obtain ⟨σ3, r1, r2, r3, -⟩ := b_step (t := 90) (k := n) hn T1 g R1 hcan2
      have f3 : fr (fun c => 90 ≤ c ∧ c ≤ 104) σ σ3 := f1.tr (r2.mono (fun c hc => by omega))
      have g3 : GD (doC T R nob n) := g.do hcan2
      have W3 : RWc σ3 m W := ⟨by rw [f3.1 _ (by decide)]; exact hW.1, hm, fun i hi w hw => by rw [f3.1 _ (by omega)]; exact hW.2.2 i hi w hw⟩
      rw [← en] at r1
      have e8 : σ3.1 90 8 = nI (wN (whS (doC T R nob n) nob)) := r3.2.2.2.1
      rw [gd_pos (ix_nI hk6 (by decide)), row σ1 f1 0 (by decide), r1, bnd_some, gd_pos (ix_nI hk6 (by decide)), b_coins r3 g3, bnd_some, row σ3 f3 1 (by decide), gd_pos (ix_nI hk6 (by decide)), row σ3 f3 2 (by decide), e8]
      have fin : ∀ (b : Int32), f_H_judge_100 (f_H_judge_13 f) (nI k) 0 σ3 = some (nI (k + 1), σ3) := fun b => by
        unfold f_H_judge_100
        rw [if_pos rfl, nI_1]
      by_cases h1 : W k 1 = coS (doC T R nob n) (ppN (doC T R nob n))
      · rw [if_neg (fun z => z h1)]
        by_cases h2 : W k 2 = nI (wN (whS (doC T R nob n) nob))
        · rw [if_neg (fun z => z h2)]
          unfold f_H_judge_100
          rw [if_neg (by decide), W3.1]
          have em : nI m - 1 = nI (m - 1) := n_sub (b := 1) (by omega)
          rw [em]
          by_cases h3 : k + 1 = m
          · rw [if_neg (show ¬ ¬ nI k = nI (m - 1) from fun z => z (by rw [show m - 1 = k by omega])), b_isDone r3 g3 (oin_nob _), bnd_some]
            by_cases h4 : doneP (doC T R nob n) nob
            · rw [if_pos (bI_n0.mpr h4), if_pos ⟨hcan, by rw [eT]; exact h1, by rw [eT]; exact h2, fun _ => by rw [eT]; exact h4⟩, lx_eq, nI_1, eT]
              obtain ⟨σ4, w1, w2⟩ := ih (k + 1) f (doC T R nob n) σ3 (by omega) (by omega) g3 r3 (R1.cong (fun c c1 c2 => r2.1 c (by omega))) W3
              exact ⟨σ4, w1, f3.tr w2⟩
            · rw [if_neg (fun z => z (bI_0.mpr h4)), if_neg (fun z => h4 (by have := z.2.2.2 h3; rw [eT] at this; exact this)), nI_1]
              exact ⟨σ3, rfl, f3⟩
          · rw [if_pos (show ¬ nI k = nI (m - 1) from fun z => by have := (n_inj (by omega) (by omega)).mp z; omega), if_pos ⟨hcan, by rw [eT]; exact h1, by rw [eT]; exact h2, fun z => absurd z h3⟩, lx_eq, nI_1, eT]
            obtain ⟨σ4, w1, w2⟩ := ih (k + 1) f (doC T R nob n) σ3 (by omega) (by omega) g3 r3 (R1.cong (fun c c1 c2 => r2.1 c (by omega))) W3
            exact ⟨σ4, w1, f3.tr w2⟩
        · rw [if_pos h2, fin 0, if_neg (fun z => h2 (by have := z.2.2.1; rw [eT] at this; exact this))]
          exact ⟨σ3, rfl, f3⟩
      · rw [if_pos h1, fin 0, if_neg (fun z => h1 (by have := z.2.1; rw [eT] at this; exact this))]
        exact ⟨σ3, rfl, f3⟩
    · rw [if_neg (fun z => z (bI_0.mpr hcan)), if_neg (fun z => hcan z.1), nI_1]
      exact ⟨σ1, rfl, f1⟩
theorem cq_judge {σ : SG} {S : Nat → Int32} {R : List RU} {m : Nat} {W : Nat → Nat → Int32} (g : GD S) (hT : TWR 20 σ S nob) (hR : RLt 20 σ R) (hW : RWc σ m W) : ∃ σ', f_H_judge σ = some (jdA S R m W, σ') ∧ fr (fun c => 90 ≤ c ∧ c ≤ 104) σ σ' := by
  unfold f_H_judge jdA
  have hm := hW.2.1
  obtain ⟨σ1, q1, q2, q3, q4, -⟩ := b_copyPlay2 (t := 90) (a := 20) (by omega) hT hR
  rw [q1, bnd_some]
  obtain ⟨σ2, r1, r2⟩ := c_jd (m := m) (W := W) m 0 FU S σ1 (by omega) (by rw [FU_eq]; omega) g q3 q4 ⟨by rw [q2.1 _ (by decide)]; exact hW.1, hm, fun i hi w hw => by rw [q2.1 _ (by omega)]; exact hW.2.2 i hi w hw⟩
  have r1 : f_H_judge_13 FU (0 : Int32) σ1 = _ := r1
  exact ⟨σ2, r1, (q2.mono (fun c hc => by omega)).tr r2⟩
/-- it ends with what it has found -/
theorem m_jd_end {S0 T : Nat → Int32} {m b k f : Nat} {σ : SG} (hf : 0 < f) (hs : σ.1 149 = T) (h24 : σ.1 148 24 = nI m) (hm : m ≤ 6) (h151 : ∀ i, i < 340 → σ.1 151 i = S0 i) (h340 : ∀ i, 340 ≤ i → T i = S0 i) (he : m ≤ k ∨ (0 < b ∧ b < 100)) (hk : k < 100) : ∃ σ', f_M_judge_8 f (nI b) (nI k) σ = some (nI b, σ') ∧ fr (fun c => c = 149) σ σ' ∧ σ'.1 149 = S0 := by
  obtain ⟨f, rfl⟩ : ∃ g, f = g + 1 := ⟨f - 1, by omega⟩
  obtain ⟨τ, q1, q2, q3⟩ := m_putsBack (σ := σ) (S := S0) h151 (fun i hi => by rw [hs]; exact h340 i hi)
  rw [f_M_judge_8, h24]
  by_cases h : nI m ≤ nI k
  · rw [if_pos h, q1, bnd_some]
    exact ⟨τ, rfl, q2, q3⟩
  · have hb : 0 < b ∧ b < 100 := by
      rcases he with z | z
      · exact absurd ((n_le (by omega) (by omega)).mpr z) h
      · exact z
    rw [if_neg h, if_pos (show ¬ nI b = 0 from fun z => by have := (n_inj (b := 0) (by omega) (by decide)).mp z; omega), q1, bnd_some]
    exact ⟨τ, rfl, q2, q3⟩
theorem m_jd {R : List RU} {m : Nat} {W : Nat → Nat → Int32} {S0 : Nat → Int32} : ∀ (d k f : Nat) (T : Nat → Int32) (σ : SG), k + d = m → d < f → GD T → RMt T R → σ.1 149 = T → σ.1 148 4 = -1 → RWm σ m W → (∀ i, i < 340 → σ.1 151 i = S0 i) → (∀ i, 340 ≤ i → T i = S0 i) → ∃ σ', f_M_judge_8 f (0 : Int32) (nI k) σ = some (jdF R m W d k T, σ') ∧ fr L3 σ σ' ∧ σ'.1 149 = S0 ∧ ∀ i, i ≠ 6 → i ≠ 7 → σ'.1 148 i = σ.1 148 i := by
  intro d
  induction d with
  | zero =>
    intro k f T σ hk hf g hR hs h4 hW h151 h340
    have hm := hW.2.1
    obtain ⟨σ', q1, q2, q3⟩ := m_jd_end (b := 0) (k := k) (f := f) (by omega) hs hW.1 hm h151 h340 (Or.inl (by omega)) (by omega)
    exact ⟨σ', q1, q2.mono (fun c hc => Or.inr (Or.inl hc)), q3, fun i _ _ => q2.at (by decide) i⟩
  | succ d ih =>
    intro k f T σ hk hf g hR hs h4 hW h151 h340
    obtain ⟨f, rfl⟩ : ∃ g, f = g + 1 := ⟨f - 1, by omega⟩
    have hm := hW.2.1
    have hk6 : k < 6 := by omega
    have e3 : (3 : Int32) * nI k = nI (3 * k) := n_mul 3 k
    have e31 : nI (3 * k) + (1 : Int32) = nI (3 * k + 1) := nI_1 _
    have e32 : nI (3 * k) + (2 : Int32) = nI (3 * k + 2) := n_add _ 2
    have row : ∀ (τ : SG), fr L3 σ τ → ∀ w, w < 3 → τ.1 158 (3 * k + w) = W k w := fun τ hτ w hw => by
      rw [hτ.at (by decide)]
      exact hW.2.2 k (by omega) w hw
    have row0 : ∀ (τ : SG), fr L3 σ τ → τ.1 158 (3 * k) = W k 0 := fun τ hτ => row τ hτ 0 (by decide)
    -- it ends here
    have bad : ∀ (T' : Nat → Int32) (τ : SG), fr L3 σ τ → τ.1 149 = T' → (∀ i, 340 ≤ i → T' i = S0 i) → (∀ i, i ≠ 6 → i ≠ 7 → τ.1 148 i = σ.1 148 i) → ∃ σ', f_M_judge_8 f (nI k + 1) (nI k + 1) τ = some (nI (k + 1), σ') ∧ fr L3 σ σ' ∧ σ'.1 149 = S0 ∧ ∀ i, i ≠ 6 → i ≠ 7 → σ'.1 148 i = σ.1 148 i := fun T' τ hτ hs' h340' hsl => by
      obtain ⟨σ', q1, q2, q3⟩ := m_jd_end (S0 := S0) (T := T') (m := m) (b := k + 1) (k := k + 1) (f := f) (σ := τ) (by omega) hs' (by rw [hsl 24 (by decide) (by decide)]; exact hW.1) hm (fun i hi => by rw [hτ.at (by decide)]; exact h151 i hi) h340' (Or.inr ⟨by omega, by omega⟩) (by omega)
      rw [nI_1]
      exact ⟨σ', q1, hτ.tr (q2.mono (fun c hc => Or.inr (Or.inl hc))), q3, fun i h6 h7 => by rw [q2.at (by decide), hsl i h6 h7]⟩
    have bad55 : ∀ (τ : SG), fr L3 σ τ → τ.1 149 = T → (∀ i, i ≠ 6 → i ≠ 7 → τ.1 148 i = σ.1 148 i) → ∃ σ', f_M_judge_55 (f_M_judge_8 f) (nI k) 0 τ = some (nI (k + 1), σ') ∧ fr L3 σ σ' ∧ σ'.1 149 = S0 ∧ ∀ i, i ≠ 6 → i ≠ 7 → σ'.1 148 i = σ.1 148 i := fun τ hτ hs' hsl => by
      unfold f_M_judge_55
      rw [if_pos rfl, if_pos rfl, lx_eq, lx_eq]
      exact bad T τ hτ hs' h340 hsl
    rw [f_M_judge_8, hW.1, if_neg (nI_ge (show k < m by omega) (by omega)), if_neg (by decide), e3, gd_pos (ix_nI (by omega) (by decide)), nx_nI (by omega), row0 σ fr.rf, m_isNumber (by rw [hs]; exact g.1), bnd_some, hs, jdF]
    by_cases hnum : NUM T (W k 0)
    · obtain ⟨n, hn, en⟩ := n_of0 hnum.1
      have hnum2 : numP T (n / 10) (n % 10) := by
        have := hnum.2
        rw [en, nx_nI hn] at this
        exact this
      obtain ⟨σ1, q1, q2⟩ := m_canBe (k := n) (σ := σ) (o := nob) (R := R) hn (by rw [hs]; exact g) (abs_nob h4).1 (by rw [hs]; exact hR) (by rw [hs]; exact hnum2)
      have f1 : fr L3 σ σ1 := q2.mono (fun c hc => Or.inr (Or.inr hc))
      have s1 : σ1.1 149 = T := (q2.1 _ (by decide)).trans hs
      have l1 : ∀ i, i ≠ 6 → i ≠ 7 → σ1.1 148 i = σ.1 148 i := fun i _ _ => q2.at (by decide) i
      have a1 : σ1.1 148 4 = -1 := by rw [l1 4 (by decide) (by decide)]; exact h4
      have hcc : CAN T R nob (W k 0) ↔ canP T R nob (n / 10) (n % 10) := by
        rw [en]
        show (0 ≤ nI n ∧ canP T R nob (nx (nI n) / 10) (nx (nI n) % 10)) ↔ _
        rw [nx_nI hn]
        exact ⟨fun z => z.2, fun z => ⟨nI_pos' hn, z⟩⟩
      have eT : jdT R W k T = doC T R nob n := by
        show doC T R nob (nx (W k 0)) = _
        rw [en, nx_nI hn]
      rw [← en] at q1
      rw [if_neg (bI_n0.mpr hnum), gd_pos (ix_nI (by omega) (by decide)), row0 σ fr.rf, q1, bnd_some, hs]
      by_cases hcan : canP T R nob (n / 10) (n % 10)
      · rw [if_neg (bI_n0.mpr hcan)]
        unfold f_M_judge_55
        obtain ⟨σ4, r1, r2, -, -, r5, r6⟩ := m_does (k := n) (σ := σ1) (o := nob) (R := R) hn (by rw [s1]; exact g) (abs_nob a1).1 (by rw [s1]; exact hR) (by rw [s1]; exact hnum2)
        rw [s1] at r2
        have f4 : fr L3 σ σ4 := f1.tr r5
        have l4 : ∀ i, i ≠ 6 → i ≠ 7 → σ4.1 148 i = σ.1 148 i := fun i h6 h7 => by rw [r6 i h6 h7, l1 i h6 h7]
        have a4 : σ4.1 148 4 = -1 := by rw [l4 4 (by decide) (by decide)]; exact h4
        have g4 : GD (doC T R nob n) := g.do hcan
        have h340' : ∀ i, 340 ≤ i → doC T R nob n i = S0 i := fun i hi => by rw [doC_off g hcan (by omega)]; exact h340 i hi
        have W4 : RWm σ4 m W := ⟨by rw [l4 24 (by decide) (by decide)]; exact hW.1, hm, fun i hi w hw => by rw [f4.at (by decide)]; exact hW.2.2 i hi w hw⟩
        have c4 : f_M_coinsAll σ4 = some (coS (doC T R nob n) (ppN (doC T R nob n)), σ4) := by
          have := m_coins (σ := σ4) (by rw [r2]; exact g4.1)
          rw [r2] at this
          exact this
        have w4 : f_M_wholeSet σ4 = some (nI (wN (whS (doC T R nob n) nob)), σ4) := by
          have := m_wholeSet (σ := σ4) (o := nob) (by rw [r2]; exact g4.1) (abs_nob a4).1
          rw [r2] at this
          exact this
        have t4 : f_M_thereSet σ4 = some (nI (wN (thrS (doC T R nob n) nob)), σ4) := by
          have := m_thereSet (σ := σ4) (o := nob) (by rw [r2]; exact g4.1) (abs_nob a4)
          rw [r2] at this
          exact this
        have bad131 : ∃ σ', f_M_judge_131 (f_M_judge_8 f) (nI k) σ4 = some (nI (k + 1), σ') ∧ fr L3 σ σ' ∧ σ'.1 149 = S0 ∧ ∀ i, i ≠ 6 → i ≠ 7 → σ'.1 148 i = σ.1 148 i := by
          unfold f_M_judge_131
          rw [if_pos rfl, lx_eq, lx_eq]
          exact bad _ σ4 f4 r2 h340' l4
        have good : ∃ σ', f_M_judge_127 (f_M_judge_8 f) (nI k) σ4 = some (jdF R m W d (k + 1) (doC T R nob n), σ') ∧ fr L3 σ σ' ∧ σ'.1 149 = S0 ∧ ∀ i, i ≠ 6 → i ≠ 7 → σ'.1 148 i = σ.1 148 i := by
          unfold f_M_judge_127
          rw [if_neg (by decide), lx_eq, nI_1]
          obtain ⟨σ5, w1, w2, w3, w5⟩ := ih (k + 1) f (doC T R nob n) σ4 (by omega) (by omega) g4 (RMt.do hR g hcan) r2 a4 W4 (fun i hi => by rw [f4.at (by decide)]; exact h151 i hi) h340'
          exact ⟨σ5, w1, f4.tr w2, w3, fun i h6 h7 => by rw [w5 i h6 h7, l4 i h6 h7]⟩
        rw [← en] at r1
        rw [if_neg (by decide), e3, e31, e32, gd_pos (ix_nI (by omega) (by decide)), nx_nI (by omega), row0 σ1 f1, r1, bnd_some, gd_pos (ix_nI (by omega) (by decide)), nx_nI (by omega), c4, bnd_some, row σ4 f4 1 (by decide)]
        by_cases h1 : W k 1 = coS (doC T R nob n) (ppN (doC T R nob n))
        · rw [if_neg (fun z => z h1), gd_pos (ix_nI (by omega) (by decide)), nx_nI (by omega), w4, bnd_some, row σ4 f4 2 (by decide)]
          by_cases h2 : W k 2 = nI (wN (whS (doC T R nob n) nob))
          · have em : nI m - 1 = nI (m - 1) := n_sub (b := 1) (by omega)
            rw [if_neg (fun z => z h2), W4.1, em]
            by_cases h3 : k + 1 = m
            · rw [if_neg (show ¬ nI k < nI (m - 1) from fun z => by have := (n_lt (by omega) (by omega)).mp z; omega), w4, bnd_some, t4, bnd_some]
              have hdec : nI (wN (whS (doC T R nob n) nob)) = nI (wN (thrS (doC T R nob n) nob)) ↔ doneP (doC T R nob n) nob := n_inj (by have := wN_lt (whS (doC T R nob n) nob); omega) (by have := wN_lt (thrS (doC T R nob n) nob); omega)
              by_cases h5 : doneP (doC T R nob n) nob
              · rw [if_neg (fun z => z (hdec.mpr h5)), if_pos ⟨hcc.mpr hcan, by rw [eT]; exact h1, by rw [eT]; exact h2, fun _ => by rw [eT]; exact h5⟩, eT]
                exact good
              · rw [if_pos (fun z => h5 (hdec.mp z)), if_neg (fun z => h5 (by have := z.2.2.2 h3; rw [eT] at this; exact this))]
                exact bad131
            · rw [if_pos ((n_lt (by omega) (by omega)).mpr (by omega)), if_pos ⟨hcc.mpr hcan, by rw [eT]; exact h1, by rw [eT]; exact h2, fun z => absurd z h3⟩, eT]
              exact good
          · rw [if_pos h2, if_neg (fun z => h2 (by have := z.2.2.1; rw [eT] at this; exact this))]
            exact bad131
        · rw [if_pos h1, if_neg (fun z => h1 (by have := z.2.1; rw [eT] at this; exact this))]
          exact bad131
      · rw [if_pos (bI_0.mpr hcan), if_neg (fun z => hcan (hcc.mp z.1))]
        exact bad55 σ1 f1 s1 l1
    · rw [if_pos (bI_0.mpr hnum), if_neg (fun z => hnum ⟨z.1.1, canC_num (c := nx (W k 0)) z.1.2⟩)]
      exact bad55 σ fr.rf hs (fun _ _ _ => rfl)
theorem mq_judge {σ : SG} {R : List RU} {m : Nat} {W : Nat → Nat → Int32} (g : GD (σ.1 149)) (hR : RMt (σ.1 149) R) (h4 : σ.1 148 4 = -1) (hW : RWm σ m W) : ∃ σ', f_M_judge σ = some (jdA (σ.1 149) R m W, σ') ∧ fr (fun c => c = 148 ∨ c = 149 ∨ c = 151 ∨ c = 152) σ σ' ∧ σ'.1 149 = σ.1 149 ∧ ∀ i, i ≠ 6 → i ≠ 7 → σ'.1 148 i = σ.1 148 i := by
  unfold f_M_judge jdA
  have hm := hW.2.1
  obtain ⟨σ1, q1, q2, q3⟩ := m_puts σ
  rw [q1, bnd_some]
  obtain ⟨σ2, r1, r2, r3, r4⟩ := m_jd (R := R) (m := m) (W := W) (S0 := σ.1 149) m 0 FU (σ.1 149) σ1 (by omega) (by rw [FU_eq]; omega) g hR (q2.1 _ (by decide)) (by rw [q2.at (by decide)]; exact h4) ⟨by rw [q2.at (by decide)]; exact hW.1, hm, fun i hi w hw => by rw [q2.at (by decide)]; exact hW.2.2 i hi w hw⟩ q3 (fun _ _ => rfl)
  have r1 : f_M_judge_8 FU (0 : Int32) (0 : Int32) σ1 = _ := r1
  exact ⟨σ2, r1, (q2.mono (fun c hc => by omega)).tr (r2.mono (fun c hc => by omega)), r3, fun i h6 h7 => by rw [r4 i h6 h7, q2.at (by decide)]⟩
