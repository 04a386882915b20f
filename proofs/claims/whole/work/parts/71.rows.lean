/-! ROWS: prove, row, alterRow, both sides -/
theorem bestS_mem : ∀ (L : List ROW) (r : List Nat), bestS L = some r → ∃ x ∈ L, x.1 = r := by
  refine snoc_ind (fun r h => by cases h) fun l a ih r h => ?_
  rw [bestS_app] at h
  cases hb : bestS l with
  | none =>
    rw [hb] at h
    exact ⟨a, List.mem_append_right _ List.mem_cons_self, Option.some.inj h⟩
  | some x =>
    rw [hb] at h
    unfold bsS at h
    dsimp only at h
    by_cases hlt : a.1.length < x.length
    · rw [if_pos hlt] at h
      exact ⟨a, List.mem_append_right _ List.mem_cons_self, Option.some.inj h⟩
    · rw [if_neg hlt] at h
      obtain ⟨y, y1, y2⟩ := ih r (by rw [hb]; exact h)
      exact ⟨y, List.mem_append_left _ y1, y2⟩
/-- each of these can be, as it is then -/
def okRow (R : List RU) : List Nat → (Nat → Int32) → Prop
  | [], _ => True
  | c :: r, T => c < 60 ∧ canC T R nob c ∧ okRow R r (doC T R nob c)
theorem rows_ok {R : List RU} : ∀ (n : Nat) (S : Nat → Int32), ∀ r ∈ rowsA R nob n S, okRow R r.1 S := by
  intro n
  induction n with
  | zero =>
    intro S r hr
    rw [rowsA] at hr
    by_cases h : doneP S nob
    · rw [if_pos h] at hr
      rw [List.mem_singleton.mp hr]
      exact True.intro
    · rw [if_neg h] at hr
      cases hr
  | succ n ih =>
    intro S r hr
    rw [rowsA] at hr
    by_cases h : doneP S nob
    · rw [if_pos h] at hr
      rw [List.mem_singleton.mp hr]
      exact True.intro
    · rw [if_neg h] at hr
      obtain ⟨c, hc, hr⟩ := List.mem_flatMap.mp hr
      obtain ⟨x, hx, rfl⟩ := List.mem_map.mp hr
      obtain ⟨h1, h2⟩ := canL_mem hc
      exact ⟨h1, h2, ih _ x hx⟩
/-- what ROW k says behind these CHANGES -/
def prW (R : List RU) : List Nat → (Nat → Int32) → Nat → Nat → Int32
  | [], _, _, _ => 0
  | c :: _, T, 0, w => if w = 0 then nI c else if w = 1 then coS (doC T R nob c) (ppN (doC T R nob c)) else nI (wN (whS (doC T R nob c) nob))
  | c :: r, T, k + 1, w => prW R r (doC T R nob c) k w
abbrev Lpr (c : Nat) : Prop := (90 ≤ c ∧ c ≤ 104) ∨ (142 ≤ c ∧ c ≤ 147)
theorem c_pr_l {R : List RU} {n : Nat} (hn : n ≤ 6) : ∀ (suf : List Nat) (k f : Nat) (T : Nat → Int32) (σ : SG), k + suf.length = n → suf.length < f → GD T → okRow R suf T → TWR 90 σ T nob → RLt 90 σ R → (∀ j x, suf[j]? = some x → σ.1 126 (k + j) = nI x) → ∃ σ', f_H_prove_40 f (nI n) (nI k) σ = some (nI n, σ') ∧ fr Lpr σ σ' ∧ (∀ i, i < suf.length → ∀ w, w < 3 → σ'.1 (141 + 1 + (k + i)) w = prW R suf T i w) ∧ ∀ i, i < k → σ'.1 (141 + 1 + i) = σ.1 (141 + 1 + i) := by
  intro suf
  induction suf with
  | nil =>
    intro k f T σ hk hf g hok hT hR hr
    obtain ⟨f, rfl⟩ : ∃ g, f = g + 1 := ⟨f - 1, by omega⟩
    have e : k = n := hk
    rw [f_H_prove_40, e, if_pos (Int32.le_refl _)]
    exact ⟨σ, rfl, fr.rf, fun i hi => absurd hi (Nat.not_lt_zero _), fun i _ => rfl⟩
  | cons c r ih =>
    intro k f T σ hk hf g hok hT hR hr
    obtain ⟨f, rfl⟩ : ∃ g, f = g + 1 := ⟨f - 1, by omega⟩
    rw [List.length_cons] at hk hf
    have hk6 : k < 6 := by omega
    obtain ⟨h60, hc, hok2⟩ := hok
    have e126 : σ.1 126 k = nI c := hr 0 c rfl
    obtain ⟨σ1, q1, q2, q3, q4⟩ := b_step (t := 90) (k := c) (by omega) hT g hR hc
    have g2 : GD (doC T R nob c) := g.do hc
    have e126b : σ1.1 126 k = nI c := by rw [q2.at (by decide)]; exact e126
    rw [f_H_prove_40, if_neg (nI_ge (show k < n by omega) (by omega)), gd_pos (ix_nI hk6 (by decide)), nx_nI (by omega), e126, q1, bnd_some, gd_pos (ix_nI hk6 (by decide)), gd_pos (ix_nI hk6 (by decide)), e126b, sx_eq, gd_pos (ix_nI hk6 (by decide))]
    have T2 : TWR 90 (uI σ1 (141 + 1 + k) 0 (nI c)) (doC T R nob c) nob := q3.cong (fun z c1 c2 _ => uIc (by omega))
    rw [b_coins T2 g2, bnd_some, sx_eq, gd_pos (ix_nI hk6 (by decide)), uI_c (c' := 90) (by omega), uI_c (c' := 90) (by omega), q3.2.2.2.1, sx_eq, lx_eq, nI_1]
    generalize hτ : uI (uI (uI σ1 (141 + 1 + k) 0 (nI c)) (141 + 1 + k) 1 (coS (doC T R nob c) (ppN (doC T R nob c)))) (141 + 1 + k) 2 (nI (wN (whS (doC T R nob c) fun _ => false))) = τ
    have cτ : ∀ z, z ≠ 141 + 1 + k → τ.1 z = σ1.1 z := fun z hz => by rw [← hτ, uIc hz, uIc hz, uIc hz]
    have fτ : fr Lpr σ τ := by
      rw [← hτ]
      exact (((q2.mono (fun z hz => by omega)).tr (fr.uI (by omega))).tr (fr.uI (by omega))).tr (fr.uI (by omega))
    obtain ⟨σ2, r1, r2, r3, r4⟩ := ih (k + 1) f (doC T R nob c) τ (by omega) (by omega) g2 hok2 (q3.cong (fun z c1 c2 _ => cτ z (by omega))) (hR.cong (fun z c1 c2 => by rw [cτ z (by omega)]; exact q2.1 z (by omega))) (fun j x hx => by
      rw [cτ _ (by omega), q2.at (by decide), show k + 1 + j = k + (j + 1) by omega]
      exact hr (j + 1) x hx)
    refine ⟨σ2, r1, fτ.tr r2, fun i hi w hw => ?_, fun i hi => ?_⟩
    · cases i with
      | zero =>
        show σ2.1 (141 + 1 + k) w = _
        rw [r4 k (by omega), ← hτ, prW]
        rcases w with _ | _ | _ | w
        · rw [uI_i (by decide), uI_i (by decide), uI_same]
          rfl
        · rw [uI_i (by decide), uI_same]
          rfl
        · rw [uI_same]
          rfl
        · omega
      | succ i =>
        rw [List.length_cons] at hi
        rw [prW, show k + (i + 1) = k + 1 + i by omega]
        exact r3 i (by omega) w hw
    · rw [r4 i (by omega), cτ _ (by omega), q2.1 _ (by omega)]
/-- ROWS as the class keeps them; as the reference does -/
def RWc (σ : SG) (m : Nat) (W : Nat → Nat → Int32) : Prop := σ.1 0 8 = nI m ∧ m ≤ 6 ∧ ∀ k, k < m → ∀ w, w < 3 → σ.1 (141 + 1 + k) w = W k w
def RWm (σ : SG) (m : Nat) (W : Nat → Nat → Int32) : Prop := σ.1 148 24 = nI m ∧ m ≤ 6 ∧ ∀ k, k < m → ∀ w, w < 3 → σ.1 158 (3 * k + w) = W k w
def prvM (S : Nat → Int32) (R : List RU) (m : Nat) : Nat := match bestS (rowsA R nob 6 S) with
  | none => m
  | some r => r.length
def prvW (S : Nat → Int32) (R : List RU) (W : Nat → Nat → Int32) : Nat → Nat → Int32 := match bestS (rowsA R nob 6 S) with
  | none => W
  | some r => prW R r S
theorem cq_prove {σ : SG} {R : List RU} {ρ m : Nat} {W : Nat → Nat → Int32} (h : PS σ R ρ) (hr : ρ + 1 < 1099511627776) (hW : RWc σ m W) : ∃ σ', f_H_prove σ = some (fewA (σ.1 149) R, σ') ∧ RWc σ' (prvM (σ.1 149) R m) (prvW (σ.1 149) R W) ∧ (∀ c, ¬ (Lcq c ∨ c = 0 ∨ (142 ≤ c ∧ c ≤ 147)) → σ'.1 c = σ.1 c) ∧ (∀ c, c ≠ 128 → c ≠ 125 → σ'.2 c = σ.2 c) ∧ (∀ i, i ≠ 8 → σ'.1 0 i = σ.1 0 i) ∧ ∃ ρ', ρ ≤ ρ' ∧ ρ' ≤ ρ + 1 ∧ SV ρ' σ' := by
  unfold f_H_prove fewA prvM prvW
  obtain ⟨σ1, q1, ⟨q2, ρ', v1, v2, v3⟩, q3⟩ := cq_bestS h hr (n := 6) (by decide)
  have q1 : f_Se_first 20 (0 : Int32) (6 : Int32) σ = _ := q1
  have e149 : σ1.1 149 = σ.1 149 := q2.1 _ (by decide)
  rw [q1, bnd_some]
  cases hb : bestS (rowsA R nob 6 (σ.1 149)) with
  | none =>
    rw [if_neg (show ¬ (0 : Int32) ≤ bsA none by decide)]
    refine ⟨σ1, rfl, ⟨by rw [q2.1 _ (by decide)]; exact hW.1, hW.2.1, fun k hk w hw => ?_⟩, fun c hc => q2.1 c (fun z => hc (Or.inl z)), q2.2, fun i _ => by rw [q2.1 _ (by decide)], ρ', v1, v2, v3.2.2.2.2.2⟩
    have := hW.2.1
    rw [q2.1 _ (by omega)]
    exact hW.2.2 k hk w hw
  | some r =>
    obtain ⟨x, x1, x2⟩ := bestS_mem _ _ hb
    have hok := rows_ok 6 _ x x1
    rw [x2] at hok
    obtain ⟨hl, hc⟩ := q3 r hb
    have T1 := v3.2.1
    have R1 := v3.2.2.1
    rw [e149] at T1
    obtain ⟨σ2, r1, r2, r3, r4, -⟩ := b_copyPlay2 (t := 90) (a := 20) (by omega) T1 R1
    rw [if_pos (show (0 : Int32) ≤ bsA (some r) from nI_pos' (by omega)), r1, bnd_some, sx_eq]
    obtain ⟨σ3, w1, w2, w3, -⟩ := c_pr_l hl r 0 FU (σ.1 149) (uI σ2 0 8 (nI r.length)) (Nat.zero_add _) (by rw [FU_eq]; omega) h.1 hok (r3.cong (fun z c1 c2 _ => uIc (by omega))) (r4.cong (fun z c1 c2 => uIc (by omega))) (fun j x hx => by
      rw [uI_c (by decide), r2.at (by decide), Nat.zero_add]
      exact hc j x hx)
    have w1 : f_H_prove_40 FU (bsA (some r)) (0 : Int32) (uI σ2 0 8 (bsA (some r))) = _ := w1
    rw [w1]
    refine ⟨σ3, rfl, ⟨by rw [w2.at (by decide), uI_same], hl, fun k hk w hw => ?_⟩, fun c hc => ?_, fun c c1 c2 => ?_, fun i hi => ?_, ρ', v1, v2, ?_⟩
    · have := w3 k hk w hw
      rw [Nat.zero_add] at this
      exact this
    · rw [w2.1 _ (by omega), uIc (by omega), r2.1 _ (by omega), q2.1 c (fun z => hc (Or.inl z))]
    · rw [w2.2, show (uI σ2 0 8 (nI r.length)).2 = σ2.2 from rfl, r2.2, q2.2 c c1 c2]
    · rw [w2.at (by decide), uI_i hi, r2.at (by decide), q2.1 _ (by decide)]
    · unfold SV
      rw [w2.2, show (uI σ2 0 8 (nI r.length)).2 = σ2.2 from rfl, r2.2]
      exact v3.2.2.2.2.2
abbrev Lmp (c : Nat) : Prop := (148 ≤ c ∧ c ≤ 149) ∨ (151 ≤ c ∧ c ≤ 155) ∨ c = 158
theorem m_pr_l {R : List RU} {S0 : Nat → Int32} {n : Nat} (hn : n ≤ 6) : ∀ (suf : List Nat) (k f : Nat) (T : Nat → Int32) (σ : SG), k + suf.length = n → suf.length < f → GD T → RMt T R → okRow R suf T → σ.1 149 = T → σ.1 148 4 = -1 → σ.1 148 24 = nI n → (∀ i, i < 340 → σ.1 151 i = S0 i) → (∀ i, 340 ≤ i → T i = S0 i) → (∀ j x, suf[j]? = some x → σ.1 154 (k + j) = nI x) → ∃ σ', f_M_prove_30 f (nI k) σ = some (nI n, σ') ∧ fr (fun c => c = 148 ∨ c = 149 ∨ c = 152 ∨ c = 158) σ σ' ∧ σ'.1 149 = S0 ∧ (∀ i, i ≠ 6 → i ≠ 7 → σ'.1 148 i = σ.1 148 i) ∧ (∀ i, i < suf.length → ∀ w, w < 3 → σ'.1 158 (3 * (k + i) + w) = prW R suf T i w) ∧ ∀ i, i < 3 * k → σ'.1 158 i = σ.1 158 i := by
  intro suf
  induction suf with
  | nil =>
    intro k f T σ hk hf g hR hok hs h4 h24 h151 h340 hr
    obtain ⟨f, rfl⟩ : ∃ g, f = g + 1 := ⟨f - 1, by omega⟩
    have e : k = n := hk
    obtain ⟨τ, q1, q2, q3⟩ := m_putsBack (σ := σ) (S := S0) h151 (fun i hi => by rw [hs]; exact h340 i hi)
    rw [f_M_prove_30, h24, e, if_pos (Int32.le_refl _), q1, bnd_some, q2.at (by decide), h24]
    exact ⟨τ, rfl, q2.mono (fun c hc => Or.inr (Or.inl hc)), q3, fun i _ _ => q2.at (by decide) i, fun i hi => absurd hi (Nat.not_lt_zero _), fun i _ => q2.at (by decide) i⟩
  | cons c r ih =>
    intro k f T σ hk hf g hR hok hs h4 h24 h151 h340 hr
    obtain ⟨f, rfl⟩ : ∃ g, f = g + 1 := ⟨f - 1, by omega⟩
    rw [List.length_cons] at hk hf
    have hk6 : k < 6 := by omega
    obtain ⟨h60, hc, hok2⟩ := hok
    have e154 : σ.1 154 k = nI c := hr 0 c rfl
    obtain ⟨σ1, q1, q2, -, -, q5, q6⟩ := m_does (k := c) (σ := σ) (o := nob) (R := R) (by omega) (by rw [hs]; exact g) (abs_nob h4).1 (by rw [hs]; exact hR) (by rw [hs]; exact canC_num hc)
    rw [hs] at q2
    have g2 : GD (doC T R nob c) := g.do hc
    have e154b : σ1.1 154 k = nI c := by rw [q5.at (by decide)]; exact e154
    have e3 : (3 : Int32) * nI k = nI (3 * k) := n_mul 3 k
    have e31 : nI (3 * k) + (1 : Int32) = nI (3 * k + 1) := nI_1 _
    have e32 : nI (3 * k) + (2 : Int32) = nI (3 * k + 2) := n_add _ 2
    have a1 : σ1.1 148 4 = -1 := by rw [q6 4 (by decide) (by decide)]; exact h4
    rw [f_M_prove_30, h24, if_neg (nI_ge (show k < n by omega) (by omega)), gd_pos (ix_nI hk6 (by decide)), nx_nI (by omega), e154, q1, bnd_some, gd_pos (ix_nI hk6 (by decide)), e3, e31, e32, gd_pos (ix_nI (by omega) (by decide)), nx_nI (by omega), e154b, sx_eq, m_coins (by rw [uIc (by decide), q2]; exact g2.1), bnd_some, uIc (c' := 149) (by decide), q2, gd_pos (ix_nI (by omega) (by decide)), nx_nI (by omega), sx_eq, m_wholeSet (o := nob) (by rw [uIc (by decide), uIc (by decide), q2]; exact g2.1) (by rw [uI_c (by decide), uI_c (by decide)]; exact (abs_nob a1).1), bnd_some, uIc (c' := 149) (by decide), uIc (c' := 149) (by decide), q2, gd_pos (ix_nI (by omega) (by decide)), nx_nI (by omega), sx_eq, lx_eq, nI_1]
    generalize hτ : uI (uI (uI σ1 158 (3 * k) (nI c)) 158 (3 * k + 1) (coS (doA T R nob (c / 10) (c % 10)) (ppN (doA T R nob (c / 10) (c % 10))))) 158 (3 * k + 2) (nI (wN (whS (doA T R nob (c / 10) (c % 10)) nob))) = τ
    have cτ : ∀ z, z ≠ 158 → τ.1 z = σ1.1 z := fun z hz => by rw [← hτ, uIc hz, uIc hz, uIc hz]
    have fτ : fr (fun c => c = 148 ∨ c = 149 ∨ c = 152 ∨ c = 158) σ τ := by
      rw [← hτ]
      exact (((q5.mono (fun z hz => by omega)).tr (fr.uI (by omega))).tr (fr.uI (by omega))).tr (fr.uI (by omega))
    obtain ⟨σ2, r1, r2, r3, r4, r5, r6⟩ := ih (k + 1) f (doC T R nob c) τ (by omega) (by omega) g2 (RMt.do hR g hc) hok2 (by rw [cτ _ (by decide)]; exact q2) (by rw [cτ _ (by decide)]; exact a1) (by rw [cτ _ (by decide), q6 24 (by decide) (by decide)]; exact h24) (fun i hi => by rw [cτ _ (by decide), q5.at (by decide)]; exact h151 i hi) (fun i hi => by rw [doC_off g hc (by omega)]; exact h340 i hi) (fun j x hx => by
      rw [cτ _ (by decide), q5.at (by decide), show k + 1 + j = k + (j + 1) by omega]
      exact hr (j + 1) x hx)
    refine ⟨σ2, r1, fτ.tr r2, r3, fun i h6 h7 => by rw [r4 i h6 h7, cτ _ (by decide), q6 i h6 h7], fun i hi w hw => ?_, fun i hi => ?_⟩
    · cases i with
      | zero =>
        rw [Nat.add_zero, r6 _ (by omega), ← hτ, prW]
        rcases w with _ | _ | _ | w
        · rw [uI_i (by omega), uI_i (by omega), Nat.add_zero, uI_same]
          rfl
        · rw [uI_i (by omega), uI_same]
          rfl
        · rw [uI_same]
          rfl
        · omega
      | succ i =>
        rw [List.length_cons] at hi
        rw [prW, show k + (i + 1) = k + 1 + i by omega]
        exact r5 i (by omega) w hw
    · rw [r6 i (by omega), ← hτ, uI_i (by omega), uI_i (by omega), uI_i (by omega), q5.at (by decide)]
theorem mq_prove {σ : SG} {R : List RU} {ρ m : Nat} {W : Nat → Nat → Int32} (h : PS σ R ρ) (hW : RWm σ m W) : ∃ σ', f_M_prove σ = some (fewA (σ.1 149) R, σ') ∧ RWm σ' (prvM (σ.1 149) R m) (prvW (σ.1 149) R W) ∧ fr Lmp σ σ' ∧ σ'.1 149 = σ.1 149 ∧ ∀ i, ¬ (11 ≤ i ∧ i ≤ 15) → i ≠ 6 → i ≠ 7 → i ≠ 24 → σ'.1 148 i = σ.1 148 i := by
  unfold f_M_prove fewA prvM prvW
  obtain ⟨σ1, q1, ⟨q2, q3, q4, q5⟩, q6⟩ := mq_go h (n := 6) (by decide)
  have q1 : f_M_goesAll (6 : Int32) σ = _ := q1
  rw [q1, bnd_some]
  have b := q6.2.2.2.1
  cases hb : bestS (rowsA R nob 6 (σ.1 149)) with
  | none =>
    rw [hb] at b
    have b : σ1.1 148 13 = -1 := b
    rw [b, if_neg (by decide)]
    refine ⟨σ1, rfl, ⟨by rw [q5 24 (by decide) (by decide) (by decide)]; exact hW.1, hW.2.1, fun k hk w hw => ?_⟩, q2.mono (fun c hc => by omega), q4, fun i h1 h2 h3 _ => q5 i h1 h2 h3⟩
    rw [q2.at (by decide)]
    exact hW.2.2 k hk w hw
  | some r =>
    rw [hb] at b
    obtain ⟨hl, b2, hc⟩ := b
    obtain ⟨x, x1, x2⟩ := bestS_mem _ _ hb
    have hok := rows_ok 6 _ x x1
    rw [x2] at hok
    rw [b2, if_pos (nI_pos' (by omega))]
    obtain ⟨σ2, r1, r2, r3⟩ := m_puts σ1
    rw [r1, bnd_some, r2.at (by decide), b2, sx_eq]
    obtain ⟨σ3, w1, w2, w3, w4, w5, -⟩ := m_pr_l (S0 := σ.1 149) hl r 0 FU (σ.1 149) (uI σ2 148 24 (nI r.length)) (Nat.zero_add _) (by rw [FU_eq]; omega) h.1 h.2.2.2.1 hok (by rw [uIc (by decide), r2.1 _ (by decide)]; exact q4) (by rw [uI_i (by decide), r2.at (by decide), q5 4 (by decide) (by decide) (by decide)]; exact h.2.2.2.2.1) uI_same (fun i hi => by rw [uI_c (by decide), r3 i hi, q4]) (fun _ _ => rfl) (fun j x hx => by
      rw [uI_c (by decide), r2.at (by decide), Nat.zero_add]
      exact hc j x hx)
    have w1 : f_M_prove_30 FU (0 : Int32) (uI σ2 148 24 (nI r.length)) = _ := w1
    rw [w1]
    refine ⟨σ3, rfl, ⟨by rw [w4 24 (by decide) (by decide), uI_same], hl, fun k hk w hw => ?_⟩, ?_, w3, fun i h1 h2 h3 h24 => ?_⟩
    · have := w5 k hk w hw
      rw [Nat.zero_add] at this
      exact this
    · exact (((q2.mono (fun c hc => by omega)).tr (r2.mono (fun c hc => by omega))).tr (fr.uI (by omega))).tr (w2.mono (fun c hc => by omega))
    · rw [w4 i h2 h3, uI_i h24, r2.at (by decide), q5 i h1 h2 h3]
/-! row, alterRow -/
theorem rw_ix {m : Nat} (hm : m ≤ 6) {x : Int32} : (0 ≤ x ∧ x ≤ nI m - 1) → ∃ k, k < m ∧ x = nI k := by
  intro ⟨h0, h1⟩
  cases m with
  | zero =>
    rw [i_le] at h0 h1
    have e : (nI 0 - 1 : Int32).toInt = -1 := by decide
    have e0 : (0 : Int32).toInt = 0 := rfl
    rw [e] at h1
    rw [e0] at h0
    omega
  | succ m =>
    rw [nI_pred] at h1
    obtain ⟨k, hk, e⟩ := n_sp (b := m) (by omega) h0 h1
    exact ⟨k, by omega, e⟩
abbrev okRx (m : Nat) (x y : Int32) : Prop := (0 ≤ x ∧ x ≤ nI m - 1) ∧ 0 ≤ y ∧ y ≤ 2
def rowA (m : Nat) (W : Nat → Nat → Int32) (x y : Int32) : Int32 := if okRx m x y then W (nx x) (nx y) else -9
def altW (m : Nat) (W : Nat → Nat → Int32) (x y v : Int32) : Nat → Nat → Int32 := if okRx m x y then fun k w => if k = nx x ∧ w = nx y then v else W k w else W
theorem cq_row {σ : SG} {m : Nat} {W : Nat → Nat → Int32} (h : RWc σ m W) (x y : Int32) : f_H_row x y σ = some (rowA m W x y, σ) := by
  obtain ⟨h1, h2, h3⟩ := h
  unfold f_H_row rowA
  rw [h1, b_isIn, bnd_some]
  by_cases hx : 0 ≤ x ∧ x ≤ nI m - 1
  · rw [if_neg (bI_n0.mpr hx), b_isIn, bnd_some]
    by_cases hy : 0 ≤ y ∧ y ≤ 2
    · obtain ⟨k, hk, rfl⟩ := rw_ix h2 hx
      obtain ⟨w, hw, rfl⟩ := n_sp (b := 2) (by decide) hy.1 hy.2
      rw [if_neg (bI_n0.mpr hy), if_pos ⟨hx, hy⟩, gd_pos (ix_nI (by omega) (by decide)), gd_pos (ix_nI (by omega) (by decide)), nx_nI (by omega), nx_nI (by omega), h3 k hk w (by omega)]
    · rw [if_pos (bI_0.mpr hy), if_neg (fun z => hy z.2)]
  · rw [if_pos (bI_0.mpr hx), if_neg (fun z => hx z.1)]
theorem m_isRow {σ : SG} {m : Nat} (h : σ.1 148 24 = nI m) (x y : Int32) : f_M_isRow x y σ = some (bI (okRx m x y), σ) := by
  unfold f_M_isRow
  rw [h, m_in32 (a := 0) (b := nI m - 1) (by decide) (Int32.toInt_toInt64 _), bnd_some]
  by_cases hx : 0 ≤ x ∧ x ≤ nI m - 1
  · rw [if_neg (bI_n0.mpr hx), m_in32 (a := 0) (b := 2) (by decide) (by decide), bnd_some]
    by_cases hy : 0 ≤ y ∧ y ≤ 2
    · rw [if_neg (bI_n0.mpr hy), bI_pos ⟨hx, hy⟩]
    · rw [if_pos (bI_0.mpr hy), bI_neg (fun z => hy z.2)]
  · rw [if_pos (bI_0.mpr hx), bI_neg (fun z => hx z.1)]
theorem mq_row {σ : SG} {m : Nat} {W : Nat → Nat → Int32} (h : RWm σ m W) (x y : Int32) : f_M_row x y σ = some (rowA m W x y, σ) := by
  obtain ⟨h1, h2, h3⟩ := h
  unfold f_M_row rowA
  rw [m_isRow h1, bnd_some]
  by_cases hx : okRx m x y
  · have hx0 := hx
    obtain ⟨k, hk, rfl⟩ := rw_ix h2 hx.1
    obtain ⟨w, hw, rfl⟩ := n_sp (b := 2) (by decide) hx.2.1 hx.2.2
    rw [if_neg (bI_n0.mpr hx), if_pos hx0, show (3 : Int32) = nI 3 from rfl, n_mul, n_add, gd_pos (ix_nI (by omega) (by decide)), nx_nI (by omega), nx_nI (by omega), nx_nI (by omega), h3 k hk w (by omega)]
  · rw [if_pos (bI_0.mpr hx), if_neg hx]
theorem cq_alter {σ : SG} {m : Nat} {W : Nat → Nat → Int32} (h : RWc σ m W) (x y v : Int32) : ∃ σ', f_H_alterRow x y v σ = some (rowA m W x y, σ') ∧ RWc σ' m (altW m W x y v) ∧ fr (fun c => 142 ≤ c ∧ c ≤ 147) σ σ' := by
  have h0 := h
  obtain ⟨h1, h2, h3⟩ := h
  unfold f_H_alterRow rowA altW
  rw [h1, b_isIn, bnd_some]
  by_cases hx : 0 ≤ x ∧ x ≤ nI m - 1
  · rw [if_neg (bI_n0.mpr hx), b_isIn, bnd_some]
    by_cases hy : 0 ≤ y ∧ y ≤ 2
    · obtain ⟨k, hk, rfl⟩ := rw_ix h2 hx
      obtain ⟨w, hw, rfl⟩ := n_sp (b := 2) (by decide) hy.1 hy.2
      rw [if_pos (bI_n0.mpr hy), if_pos ⟨hx, hy⟩, if_pos ⟨hx, hy⟩, gd_pos (ix_nI (by omega) (by decide)), gd_pos (ix_nI (by omega) (by decide)), lx_eq, gd_pos (ix_nI (by omega) (by decide)), gd_pos (ix_nI (by omega) (by decide)), nx_nI (by omega), nx_nI (by omega), h3 k hk w (by omega), sx_eq]
      refine ⟨_, rfl, ⟨by rw [uI_c (by omega)]; exact h1, h2, fun k' hk' w' hw' => ?_⟩, fr.uI ⟨by omega, by omega⟩⟩
      rw [uI_at]
      show _ = if k' = k ∧ w' = w then v else W k' w'
      by_cases e : k' = k ∧ w' = w
      · rw [if_pos ⟨by omega, e.2⟩, if_pos e]
      · rw [if_neg (fun z => e ⟨by omega, z.2⟩), if_neg e]
        exact h3 k' hk' w' hw'
    · rw [if_neg (fun z => z (bI_0.mpr hy)), if_neg (fun z => hy z.2), if_neg (fun z => hy z.2)]
      exact ⟨σ, rfl, h0, fr.rf⟩
  · rw [if_pos (bI_0.mpr hx), if_neg (fun z => hx z.1), if_neg (fun z => hx z.1)]
    exact ⟨σ, rfl, h0, fr.rf⟩
theorem mq_alter {σ : SG} {m : Nat} {W : Nat → Nat → Int32} (h : RWm σ m W) (x y v : Int32) : ∃ σ', f_M_alterRow x y v σ = some (rowA m W x y, σ') ∧ RWm σ' m (altW m W x y v) ∧ fr (fun c => c = 158) σ σ' := by
  have h0 := h
  obtain ⟨h1, h2, h3⟩ := h
  unfold f_M_alterRow rowA altW
  rw [m_isRow h1, bnd_some]
  by_cases hx : okRx m x y
  · have hx0 := hx
    obtain ⟨k, hk, rfl⟩ := rw_ix h2 hx.1
    obtain ⟨w, hw, rfl⟩ := n_sp (b := 2) (by decide) hx.2.1 hx.2.2
    rw [if_pos (bI_n0.mpr hx), if_pos hx0, if_pos hx0, show (3 : Int32) = nI 3 from rfl, n_mul, n_add, gd_pos (ix_nI (by omega) (by decide)), lx_eq, gd_pos (ix_nI (by omega) (by decide)), nx_nI (by omega), nx_nI (by omega), nx_nI (by omega), h3 k hk w (by omega), sx_eq]
    refine ⟨_, rfl, ⟨by rw [uI_c (by omega)]; exact h1, h2, fun k' hk' w' hw' => ?_⟩, fr_u1⟩
    rw [uI_at]
    show _ = if k' = k ∧ w' = w then v else W k' w'
    by_cases e : k' = k ∧ w' = w
    · rw [if_pos ⟨rfl, by omega⟩, if_pos e]
    · rw [if_neg (fun z => e (by have := z.2; constructor <;> omega)), if_neg e]
      exact h3 k' hk' w' hw'
  · rw [if_neg (fun z => z (bI_0.mpr hx)), if_neg hx, if_neg hx]
    exact ⟨σ, rfl, h0, fr.rf⟩
