/-! personOf, thing, state, both sides -/
def psoA (S : Nat → Int32) (R : List RU) (x y : Int32) : Int32 := if isP S x then (if y = 0 then S (22 + 5 * nx x) else if y = 1 then S (22 + 5 * nx x + 1) else if y = 2 then S (22 + 5 * nx x + 2) else if y = 3 then S (22 + 5 * nx x + 3) else if y = 4 then nI (askA S R nob (nx x)) else if y = 5 then bI (hsS S (nx x) = ndS S (nx x)) else if y = 6 then S (22 + 5 * nx x + 4) else -1) else -1
theorem cq_personOf {σ : SG} {S : Nat → Int32} {R : List RU} (g : GD S) (hT : TWR 20 σ S nob) (hR : RLt 20 σ R) (x y : Int32) : ∃ σ', f_H_personOf x y σ = some (psoA S R x y, σ') ∧ fr (fun c => c = 27) σ σ' := by
  unfold f_H_personOf psoA
  rw [b_isPerson, hT.1, bnd_some]
  by_cases hx : isP S x
  · obtain ⟨p, hp, hpn, rfl⟩ := isP_in g.1 hx
    obtain ⟨e0, e1, e2, e3, e4⟩ := hT.2.2.2.2.1 p hp
    have ip := ix_nI hp (show (6 : Nat) < 2147483648 by decide)
    have f0 : σ.1 28 p = S (22 + 5 * p) := e0
    have f1 : σ.1 29 p = S (22 + 5 * p + 1) := e1
    have f2 : σ.1 30 p = S (22 + 5 * p + 2) := e2
    have f3 : σ.1 31 p = S (22 + 5 * p + 3) := e3
    have f4 : σ.1 32 p = S (22 + 5 * p + 4) := e4
    rw [if_pos (bI_n0.mpr hx), if_pos hx, nx_nI (by omega)]
    by_cases y0 : y = 0
    · rw [if_pos y0, if_pos y0, gd_pos ip, f0]
      exact ⟨σ, rfl, fr.rf⟩
    · rw [if_neg y0, if_neg y0]
      by_cases y1 : y = 1
      · rw [if_pos y1, if_pos y1, gd_pos ip, f1]
        exact ⟨σ, rfl, fr.rf⟩
      · rw [if_neg y1, if_neg y1]
        by_cases y2 : y = 2
        · rw [if_pos y2, if_pos y2, gd_pos ip, f2]
          exact ⟨σ, rfl, fr.rf⟩
        · rw [if_neg y2, if_neg y2]
          by_cases y3 : y = 3
          · rw [if_pos y3, if_pos y3, gd_pos ip, f3]
            exact ⟨σ, rfl, fr.rf⟩
          · rw [if_neg y3, if_neg y3]
            by_cases y4 : y = 4
            · obtain ⟨τ, q1, q2⟩ := b_asks hp hT g hR
              rw [if_pos y4, if_pos y4, q1, bnd_some]
              exact ⟨τ, rfl, q2⟩
            · rw [if_neg y4, if_neg y4]
              by_cases y5 : y = 5
              · have e : nI (whS S nob p).toNat = bI (hsS S p = ndS S p) := by
                  by_cases hw : hsS S p = ndS S p
                  · rw [whS_t.mpr ⟨hpn, hw⟩, bI_pos hw]
                    rfl
                  · rw [whS_f hw, bI_neg hw]
                    rfl
                rw [if_pos y5, if_pos y5, show σ.1 20 8 = nI (wN (whS S nob)) from hT.2.2.2.1, wN_bit hp, e]
                exact ⟨σ, rfl, fr.rf⟩
              · rw [if_neg y5, if_neg y5]
                by_cases y6 : y = 6
                · rw [if_pos y6, if_pos y6, gd_pos ip, f4]
                  exact ⟨σ, rfl, fr.rf⟩
                · rw [if_neg y6, if_neg y6]
                  exact ⟨σ, rfl, fr.rf⟩
  · rw [if_neg (fun w => w (bI_0.mpr hx)), if_neg hx]
    exact ⟨σ, rfl, fr.rf⟩
theorem mq_personOf {σ : SG} {R : List RU} (g : GD (σ.1 149)) (hR : RMt (σ.1 149) R) (h4 : σ.1 148 4 = -1) (x y : Int32) : ∃ σ', f_M_personOf x y σ = some (psoA (σ.1 149) R x y, σ') ∧ fr (fun c => c = 152) σ σ' := by
  unfold f_M_personOf psoA
  rw [m_isPerson g.1, bnd_some]
  by_cases hx : isP (σ.1 149) x
  · obtain ⟨p, hp, hpn, rfl⟩ := isP_in g.1 hx
    rw [if_neg (bI_n0.mpr hx), if_pos hx, m_in32 (a := 0) (b := 6) (by decide) (by decide), bnd_some, nx_nI (by omega)]
    by_cases hy : 0 ≤ y ∧ y ≤ 6
    · rw [if_pos (bI_n0.mpr hy)]
      obtain ⟨w, hw, rfl⟩ := n_sp (b := 6) (by decide) hy.1 hy.2
      have low : w < 4 → f_M_its (nI p) (nI w) σ = some (σ.1 149 (22 + 5 * p + w), σ) := fun h => m_its hp (by omega)
      match w, hw with
      | 0, _ =>
        rw [if_pos (by decide), if_pos (by decide), if_pos (by decide), low (by decide), bnd_some, if_pos (show nI 0 = (0 : Int32) from rfl)]
        exact ⟨σ, rfl, fr.rf⟩
      | 1, _ =>
        rw [if_pos (by decide), if_pos (by decide), if_pos (by decide), low (by decide), bnd_some, if_neg (show ¬ nI 1 = (0 : Int32) by decide), if_pos (show nI 1 = (1 : Int32) from rfl)]
        exact ⟨σ, rfl, fr.rf⟩
      | 2, _ =>
        rw [if_pos (by decide), if_pos (by decide), if_pos (by decide), low (by decide), bnd_some, if_neg (show ¬ nI 2 = (0 : Int32) by decide), if_neg (show ¬ nI 2 = (1 : Int32) by decide), if_pos (show nI 2 = (2 : Int32) from rfl)]
        exact ⟨σ, rfl, fr.rf⟩
      | 3, _ =>
        rw [if_pos (by decide), if_pos (by decide), if_pos (by decide), low (by decide), bnd_some, if_neg (show ¬ nI 3 = (0 : Int32) by decide), if_neg (show ¬ nI 3 = (1 : Int32) by decide), if_neg (show ¬ nI 3 = (2 : Int32) by decide), if_pos (show nI 3 = (3 : Int32) from rfl)]
        exact ⟨σ, rfl, fr.rf⟩
      | 4, _ =>
        obtain ⟨τ, q1, q2⟩ := m_asked hp g (abs_nob h4).1 hR
        rw [if_neg (show ¬ ¬ nI 4 = (4 : Int32) from fun z => z rfl), q1, bnd_some, if_neg (show ¬ nI 4 = (0 : Int32) by decide), if_neg (show ¬ nI 4 = (1 : Int32) by decide), if_neg (show ¬ nI 4 = (2 : Int32) by decide), if_neg (show ¬ nI 4 = (3 : Int32) by decide), if_pos (show nI 4 = (4 : Int32) from rfl)]
        exact ⟨τ, rfl, q2⟩
      | 5, _ =>
        rw [if_pos (by decide), if_neg (show ¬ ¬ nI 5 = (5 : Int32) from fun z => z rfl), m_isWhole hp, bnd_some, if_neg (show ¬ nI 5 = (0 : Int32) by decide), if_neg (show ¬ nI 5 = (1 : Int32) by decide), if_neg (show ¬ nI 5 = (2 : Int32) by decide), if_neg (show ¬ nI 5 = (3 : Int32) by decide), if_neg (show ¬ nI 5 = (4 : Int32) by decide), if_pos (show nI 5 = (5 : Int32) from rfl)]
        by_cases hw : hsS (σ.1 149) p = ndS (σ.1 149) p
        · rw [if_neg (bI_n0.mpr hw), bI_pos hw]
          exact ⟨σ, rfl, fr.rf⟩
        · rw [if_pos (bI_0.mpr hw), bI_neg hw]
          exact ⟨σ, rfl, fr.rf⟩
      | 6, _ =>
        rw [if_pos (by decide), if_pos (by decide), if_neg (show ¬ ¬ nI 6 = (6 : Int32) from fun z => z rfl), m_its4 hp, bnd_some, if_neg (show ¬ nI 6 = (0 : Int32) by decide), if_neg (show ¬ nI 6 = (1 : Int32) by decide), if_neg (show ¬ nI 6 = (2 : Int32) by decide), if_neg (show ¬ nI 6 = (3 : Int32) by decide), if_neg (show ¬ nI 6 = (4 : Int32) by decide), if_neg (show ¬ nI 6 = (5 : Int32) by decide), if_pos (show nI 6 = (6 : Int32) from rfl)]
        exact ⟨σ, rfl, fr.rf⟩
    · have no : ∀ k : Nat, k ≤ 6 → ¬ y = nI k := fun k hk e => hy (by
        rw [e]
        exact ⟨nI_pos' (by omega), (n_le (b := 6) (by omega) (by decide)).mpr hk⟩)
      rw [if_neg (fun w => w (bI_0.mpr hy)), if_neg (show ¬ y = (0 : Int32) from no 0 (by decide)), if_neg (show ¬ y = (1 : Int32) from no 1 (by decide)), if_neg (show ¬ y = (2 : Int32) from no 2 (by decide)), if_neg (show ¬ y = (3 : Int32) from no 3 (by decide)), if_neg (show ¬ y = (4 : Int32) from no 4 (by decide)), if_neg (show ¬ y = (5 : Int32) from no 5 (by decide)), if_neg (show ¬ y = (6 : Int32) from no 6 (by decide))]
      exact ⟨σ, rfl, fr.rf⟩
  · rw [if_pos (bI_0.mpr hx), if_neg hx]
    exact ⟨σ, rfl, fr.rf⟩
/-! thing -/
abbrev whoF (S : Nat → Int32) (w : Nat) (x : Int32) : Nat → Bool := fun p => decide (S (22 + 5 * p + w) = x)
theorem b_those_l {w a : Nat} {σ : SG} {S : Nat → Int32} {x : Int32} (h2 : σ.1 20 2 = nI (ppN S)) (h6 : ppN S ≤ 6) (ha : ∀ p, p < 6 → σ.1 a p = S (22 + 5 * p + w)) : ∀ (d j f : Nat), j + d = ppN S → d < f → f_To_thoseWith_5 20 a f x (nI (wN (bel j (whoF S w x)))) (nI j) σ = some (nI (wN (bel (ppN S) (whoF S w x))), σ) := by
  intro d
  induction d with
  | zero =>
    intro j f hk hf
    obtain ⟨f, rfl⟩ : ∃ g, f = g + 1 := ⟨f - 1, by omega⟩
    have e : j = ppN S := by omega
    rw [f_To_thoseWith_5, h2, e, if_pos (Int32.le_refl _)]
  | succ d ih =>
    intro j f hk hf
    obtain ⟨f, rfl⟩ : ∃ g, f = g + 1 := ⟨f - 1, by omega⟩
    have hj : j < 6 := by omega
    rw [f_To_thoseWith_5, h2, if_neg (nI_ge (show j < ppN S by omega) (by omega)), gd_pos (ix_nI hj (by decide)), nx_nI (by omega), ha j hj]
    by_cases e : S (22 + 5 * j + w) = x
    · rw [if_neg (fun z => z e), lx_eq, lx_eq, bel_S hj (decide_eq_true e), nI_1]
      exact ih (j + 1) f (by omega) (by omega)
    · rw [if_pos e, lx_eq, bel_N (decide_eq_false e), nI_1]
      exact ih (j + 1) f (by omega) (by omega)
theorem m_who_l {w : Nat} {σ : SG} {x : Int32} (hw : w < 5) (g : rg (σ.1 149 0) 6) : ∀ (d j f : Nat), j + d = ppN (σ.1 149) → d < f → f_M_whoWith_5 f (nI w) x (nI (wN (bel j (whoF (σ.1 149) w x)))) (nI j) σ = some (nI (wN (bel (ppN (σ.1 149)) (whoF (σ.1 149) w x))), σ) := by
  have h6 : ppN (σ.1 149) ≤ 6 := g.1
  have e0 : σ.1 149 0 = nI (ppN (σ.1 149)) := g.2
  intro d
  induction d with
  | zero =>
    intro j f hk hf
    obtain ⟨f, rfl⟩ : ∃ g, f = g + 1 := ⟨f - 1, by omega⟩
    have e : j = ppN (σ.1 149) := by omega
    rw [f_M_whoWith_5, e, if_pos (by rw [e0]; exact Int32.le_refl _)]
  | succ d ih =>
    intro j f hk hf
    obtain ⟨f, rfl⟩ : ∃ g, f = g + 1 := ⟨f - 1, by omega⟩
    have hj : j < 6 := by omega
    rw [f_M_whoWith_5, if_neg (by rw [e0]; exact nI_ge (show j < ppN (σ.1 149) by omega) (by omega)), m_its hj hw, bnd_some]
    by_cases e : σ.1 149 (22 + 5 * j + w) = x
    · rw [if_neg (fun z => z e), lx_eq, lx_eq, bel_S hj (decide_eq_true e), nI_1]
      exact ih (j + 1) f (by omega) (by omega)
    · rw [if_pos e, lx_eq, lx_eq, or_0, bel_N (decide_eq_false e), nI_1]
      exact ih (j + 1) f (by omega) (by omega)
def thgA (S : Nat → Int32) (x y : Int32) : Int32 := if th8 x then (if y = 0 then S (6 + nx x) else if y = 1 then S (14 + nx x) else if y = 2 then nI (wN (bel (ppN S) (whoF S 1 x))) else if y = 3 then nI (wN (bel (ppN S) (whoF S 2 x))) else -1) else -1
theorem cq_thing {σ : SG} {S : Nat → Int32} (g : GD S) (hT : TWR 20 σ S nob) (x y : Int32) : f_H_thing x y σ = some (thgA S x y, σ) := by
  have h6 : ppN S ≤ 6 := g.1.1
  have e2 : σ.1 20 2 = nI (ppN S) := hT.1.trans g.1.2
  unfold f_H_thing thgA
  rw [b_isThing, bnd_some]
  by_cases hx : th8 x
  · rw [if_pos (bI_n0.mpr hx), if_pos hx]
    obtain ⟨s, hs, e⟩ := th_in hx
    by_cases y0 : y = 0
    · rw [if_pos y0, if_pos y0, e, gd_pos (ix_nI hs (by decide)), nx_nI (by omega), show σ.1 33 s = S (6 + s) from (hT.2.2.2.2.2 s hs).1]
    · rw [if_neg y0, if_neg y0]
      by_cases y1 : y = 1
      · rw [if_pos y1, if_pos y1, e, gd_pos (ix_nI hs (by decide)), nx_nI (by omega), show σ.1 34 s = S (14 + s) from (hT.2.2.2.2.2 s hs).2]
      · rw [if_neg y1, if_neg y1]
        by_cases y2 : y = 2
        · have q := b_those_l (x := x) (w := 1) (a := 29) e2 h6 (fun p hp => (hT.2.2.2.2.1 p hp).2.1) (ppN S) 0 FU (Nat.zero_add _) (by rw [FU_eq]; omega)
          rw [bel_0] at q
          have q : f_To_thoseWith_5 20 29 FU x (0 : Int32) (0 : Int32) σ = _ := q
          unfold f_To_thoseWith
          rw [if_pos y2, if_pos y2, q, bnd_some]
        · rw [if_neg y2, if_neg y2]
          by_cases y3 : y = 3
          · have q := b_those_l (x := x) (w := 2) (a := 30) e2 h6 (fun p hp => (hT.2.2.2.2.1 p hp).2.2.1) (ppN S) 0 FU (Nat.zero_add _) (by rw [FU_eq]; omega)
            rw [bel_0] at q
            have q : f_To_thoseWith_5 20 30 FU x (0 : Int32) (0 : Int32) σ = _ := q
            unfold f_To_thoseWith
            rw [if_pos y3, if_pos y3, q, bnd_some]
          · rw [if_neg y3, if_neg y3]
  · rw [if_neg (fun w => w (bI_0.mpr hx)), if_neg hx]
theorem mq_thing {σ : SG} (g : GD (σ.1 149)) (x y : Int32) : f_M_thing x y σ = some (thgA (σ.1 149) x y, σ) := by
  have h6 : ppN (σ.1 149) ≤ 6 := g.1.1
  unfold f_M_thing thgA
  rw [m_isThing, bnd_some]
  by_cases hx : th8 x
  · rw [if_pos (bI_n0.mpr hx), if_pos hx]
    obtain ⟨s, hs, e⟩ := th_in hx
    by_cases y0 : y = 0
    · rw [if_pos y0, if_pos y0, e, show (6 : Int32) = nI 6 from rfl, n_add, gd_pos (ix_nI (by omega) (by decide)), nx_nI (by omega), nx_nI (by omega)]
    · rw [if_neg y0, if_neg y0]
      by_cases y1 : y = 1
      · rw [if_pos y1, if_pos y1, e, show (14 : Int32) = nI 14 from rfl, n_add, gd_pos (ix_nI (by omega) (by decide)), nx_nI (by omega), nx_nI (by omega)]
      · rw [if_neg y1, if_neg y1]
        by_cases y2 : y = 2
        · have q := m_who_l (σ := σ) (x := x) (w := 1) (by decide) g.1 (ppN (σ.1 149)) 0 FU (Nat.zero_add _) (by rw [FU_eq]; omega)
          rw [bel_0] at q
          have q : f_M_whoWith_5 FU (1 : Int32) x (0 : Int32) (0 : Int32) σ = _ := q
          unfold f_M_whoWith
          rw [if_pos y2, if_pos y2, q, bnd_some]
        · rw [if_neg y2, if_neg y2]
          by_cases y3 : y = 3
          · have q := m_who_l (σ := σ) (x := x) (w := 2) (by decide) g.1 (ppN (σ.1 149)) 0 FU (Nat.zero_add _) (by rw [FU_eq]; omega)
            rw [bel_0] at q
            have q : f_M_whoWith_5 FU (2 : Int32) x (0 : Int32) (0 : Int32) σ = _ := q
            unfold f_M_whoWith
            rw [if_pos y3, if_pos y3, q, bnd_some]
          · rw [if_neg y3, if_neg y3]
  · rw [if_neg (fun w => w (bI_0.mpr hx)), if_neg hx]
/-! state -/
def sttA (S : Nat → Int32) (y : Int32) : Int32 := if y = 0 then nI (wN (whS S nob)) else if y = 1 then coS S (ppN S) else if y = 2 then S 2 else if y = 3 then S 4 else -1
theorem cq_state {σ : SG} {S : Nat → Int32} (g : GD S) (hT : TWR 20 σ S nob) (hL : LGt 20 σ S) (y : Int32) : f_H_state y σ = some (sttA S y, σ) := by
  unfold f_H_state sttA
  by_cases y0 : y = 0
  · rw [if_pos y0, if_pos y0, show σ.1 20 8 = nI (wN (whS S nob)) from hT.2.2.2.1]
  · rw [if_neg y0, if_neg y0]
    by_cases y1 : y = 1
    · rw [if_pos y1, if_pos y1, b_coins hT g, bnd_some]
    · rw [if_neg y1, if_neg y1]
      by_cases y2 : y = 2
      · rw [if_pos y2, if_pos y2, hT.2.1]
      · rw [if_neg y2, if_neg y2]
        by_cases y3 : y = 3
        · rw [if_pos y3, if_pos y3, hL.2.2.1]
        · rw [if_neg y3, if_neg y3]
theorem mq_state {σ : SG} (g : GD (σ.1 149)) (h4 : σ.1 148 4 = -1) (y : Int32) : f_M_state y σ = some (sttA (σ.1 149) y, σ) := by
  unfold f_M_state sttA
  by_cases y0 : y = 0
  · rw [if_pos y0, if_pos y0, m_wholeSet g.1 (abs_nob h4).1, bnd_some]
  · rw [if_neg y0, if_neg y0]
    by_cases y1 : y = 1
    · rw [if_pos y1, if_pos y1, m_coins g.1, bnd_some]
    · rw [if_neg y1, if_neg y1]
      by_cases y2 : y = 2
      · rw [if_pos y2, if_pos y2]
      · rw [if_neg y2, if_neg y2]
        by_cases y3 : y = 3
        · rw [if_pos y3, if_pos y3]
        · rw [if_neg y3, if_neg y3]
