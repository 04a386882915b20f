/-! COINS of all; a RUN; how OFTEN all are whole, both sides -/
def coS (S : Nat → Int32) : Nat → Int32
  | 0 => 0
  | n + 1 => coS S n + S (22 + 5 * n + 3)
theorem b_coins_l {t : Nat} {σ : SG} {S : Nat → Int32} {o : Nat → Bool} (hT : TWR t σ S o) (hg : GD S) : ∀ (d j f : Nat), j + d = ppN S → d < f → f_To_coinsOfAll_4 t f (coS S j) (nI j) σ = some (coS S (ppN S), σ) := by
  have h6 : ppN S ≤ 6 := hg.1.1
  have e2 : σ.1 t 2 = nI (ppN S) := hT.1.trans hg.1.2
  intro d
  induction d with
  | zero =>
    intro j f hk hf
    obtain ⟨f, rfl⟩ : ∃ g, f = g + 1 := ⟨f - 1, by omega⟩
    have e : j = ppN S := by omega
    rw [f_To_coinsOfAll_4, e2, e, if_pos (Int32.le_refl _)]
  | succ d ih =>
    intro j f hk hf
    obtain ⟨f, rfl⟩ : ∃ g, f = g + 1 := ⟨f - 1, by omega⟩
    have hj : j < 6 := by omega
    rw [f_To_coinsOfAll_4, e2, if_neg (nI_ge (show j < ppN S by omega) (by omega)), gd_pos (ix_nI hj (by decide)), lx_eq, lx_eq, nx_nI (by omega), (hT.2.2.2.2.1 j hj).2.2.2.1, nI_1]
    exact ih (j + 1) f (by omega) (by omega)
theorem b_coins {t : Nat} {σ : SG} {S : Nat → Int32} {o : Nat → Bool} (hT : TWR t σ S o) (hg : GD S) : f_To_coinsOfAll t σ = some (coS S (ppN S), σ) := by
  have h6 : ppN S ≤ 6 := hg.1.1
  exact b_coins_l hT hg (ppN S) 0 FU (Nat.zero_add _) (by rw [FU_eq]; omega)
theorem m_coins_l {σ : SG} (hg : rg (σ.1 149 0) 6) : ∀ (d j f : Nat), j + d = ppN (σ.1 149) → d < f → f_M_coinsAll_4 f (coS (σ.1 149) j) (nI j) σ = some (coS (σ.1 149) (ppN (σ.1 149)), σ) := by
  have h6 : ppN (σ.1 149) ≤ 6 := hg.1
  have e2 : σ.1 149 0 = nI (ppN (σ.1 149)) := hg.2
  intro d
  induction d with
  | zero =>
    intro j f hk hf
    obtain ⟨f, rfl⟩ : ∃ g, f = g + 1 := ⟨f - 1, by omega⟩
    have e : j = ppN (σ.1 149) := by omega
    rw [f_M_coinsAll_4, e, if_pos (by rw [e2]; exact Int32.le_refl _)]
  | succ d ih =>
    intro j f hk hf
    obtain ⟨f, rfl⟩ : ∃ g, f = g + 1 := ⟨f - 1, by omega⟩
    have hj : j < 6 := by omega
    rw [f_M_coinsAll_4, if_neg (by rw [e2]; exact nI_ge (show j < ppN (σ.1 149) by omega) (by omega)), m_its3 hj, bnd_some, lx_eq, lx_eq, nI_1]
    exact ih (j + 1) f (by omega) (by omega)
theorem m_coins {σ : SG} (hg : rg (σ.1 149 0) 6) : f_M_coinsAll σ = some (coS (σ.1 149) (ppN (σ.1 149)), σ) := by
  have h6 : ppN (σ.1 149) ≤ 6 := hg.1
  exact m_coins_l hg (ppN (σ.1 149)) 0 FU (Nat.zero_add _) (by rw [FU_eq]; omega)
/-! every CHANGE makes one more whole -/
theorem cN_lt {f g : Nat → Bool} {p : Nat} (hp : p < 6) (h1 : f p = false) (h2 : g p = true) (h : ∀ q, q < 6 → f q = true → g q = true) : cN f < cN g := by
  have le : ∀ q, q < 6 → (f q).toNat ≤ (g q).toNat := fun q hq => by
    cases e : f q with
    | false => exact Nat.zero_le _
    | true => rw [h q hq e]; exact Nat.le_refl _
  have a0 := le 0 (by decide)
  have a1 := le 1 (by decide)
  have a2 := le 2 (by decide)
  have a3 := le 3 (by decide)
  have a4 := le 4 (by decide)
  have a5 := le 5 (by decide)
  have e1 : (f p).toNat = 0 := by rw [h1]; rfl
  have e2 : (g p).toNat = 1 := by rw [h2]; rfl
  unfold cN
  exact six (q := fun p => (f p).toNat = 0 → (g p).toNat = 1 → (f 0).toNat + (f 1).toNat + (f 2).toNat + (f 3).toNat + (f 4).toNat + (f 5).toNat < (g 0).toNat + (g 1).toNat + (g 2).toNat + (g 3).toNat + (g 4).toNat + (g 5).toNat) hp (fun x y => by omega) (fun x y => by omega) (fun x y => by omega) (fun x y => by omega) (fun x y => by omega) (fun x y => by omega) e1 e2
theorem whS_t {S : Nat → Int32} {p : Nat} : whS S nob p = true ↔ p < ppN S ∧ hsS S p = ndS S p := by
  show (decide (p < ppN S) && (decide (hsS S p = ndS S p) && !nob p)) = true ↔ _
  rw [Bool.and_eq_true, Bool.and_eq_true, decide_eq_true_iff, decide_eq_true_iff]
  exact ⟨fun z => ⟨z.1, z.2.1⟩, fun z => ⟨z.1, z.2, rfl⟩⟩
theorem whS_f {S : Nat → Int32} {p : Nat} (h : ¬ hsS S p = ndS S p) : whS S nob p = false := by
  cases e : whS S nob p with
  | false => rfl
  | true => exact absurd (whS_t.mp e).2 h
theorem whole_up {S : Nat → Int32} {R : List RU} {c : Nat} (g : GD S) (hc : canC S R nob c) : cN (whS S nob) < cN (whS (doC S R nob c) nob) := by
  have h6 : ppN S ≤ 6 := g.1.1
  have hp : c / 10 < 6 := by have := hc.1.1; omega
  have a1 : hsN S (c / 10) ≤ 7 := (rgP g hp).2.1.1
  have a2 : ndN S (c / 10) ≤ 7 := (rgP g hp).2.2.1.1
  have e0 : ppN (doC S R nob c) = ppN S := doC_pp g hc
  have hc : canP S R nob (c / 10) (c % 10) := hc
  unfold doC at e0 ⊢
  generalize c / 10 = p at *
  generalize c % 10 = q at *
  by_cases h9 : q = 9
  · have hs : hsS (doA S R nob p q) p = ndS S p := by
      unfold doA
      rw [if_pos h9]
      exact wiA_p.1
    have nd : ∀ z, z < 6 → ndS (doA S R nob p q) z = ndS S z := fun z hz => by
      unfold doA
      rw [if_pos h9]
      show wiA _ _ _ (22 + 5 * z + 2) = _
      unfold wiA
      rw [us_ne (by omega), us_ne (by omega), jrA_0 (by omega) (by omega)]
    have hz : ∀ z, z < 6 → z ≠ p → hsS (doA S R nob p q) z = hsS S z := fun z hz hzp => by
      unfold doA
      rw [if_pos h9]
      show wiA _ _ _ (22 + 5 * z + 1) = _
      unfold wiA
      rw [us_ne (by omega), us_ne (by omega), jrA_0 (by omega) (by omega)]
    refine cN_lt hp (whS_f hc.1.2.1) (whS_t.mpr ⟨by rw [e0]; exact hc.1.1, by rw [hs, nd p hp]⟩) fun z z6 hw => ?_
    obtain ⟨w1, w2⟩ := whS_t.mp hw
    have hzp : z ≠ p := fun e => hc.1.2.1 (e ▸ w2)
    exact whS_t.mpr ⟨by rw [e0]; exact w1, by rw [hz z z6 hzp, nd z z6]; exact w2⟩
  · rcases hc.2 with w | w
    · exact absurd w.1 h9
    · have hq : q < 6 := by have := w.2.2.1.1; omega
      have hsp : hsS (doA S R nob p q) p = hsS S q := by
        unfold doA
        rw [if_neg h9]
        show swA _ _ _ _ = _
        unfold swA
        rw [us_ne (by have := w.2.1; omega), us_same]
      have hsq : hsS (doA S R nob p q) q = hsS S p := by
        unfold doA
        rw [if_neg h9]
        show swA _ _ _ _ = _
        unfold swA
        rw [us_same]
      have nd : ∀ z, ndS (doA S R nob p q) z = ndS S z := fun z => by
        unfold doA
        rw [if_neg h9]
        show swA _ _ _ _ = _
        unfold swA
        rw [us_ne (by omega), us_ne (by omega)]
      have hz : ∀ z, z ≠ p → z ≠ q → hsS (doA S R nob p q) z = hsS S z := fun z h1 h2 => by
        unfold doA
        rw [if_neg h9]
        show swA _ _ _ _ = _
        unfold swA
        rw [us_ne (by omega), us_ne (by omega)]
      have up : ∀ z, z < 6 → whS S nob z = true → whS (doA S R nob p q) nob z = true := fun z z6 hw => by
        obtain ⟨w1, w2⟩ := whS_t.mp hw
        have h1 : z ≠ p := fun e => hc.1.2.1 (e ▸ w2)
        have h2 : z ≠ q := fun e => w.2.2.1.2.1 (e ▸ w2)
        exact whS_t.mpr ⟨by rw [e0]; exact w1, by rw [hz z h1 h2, nd z]; exact w2⟩
      rcases w.2.2.2.2 with v | v
      · exact cN_lt hp (whS_f hc.1.2.1) (whS_t.mpr ⟨by rw [e0]; exact hc.1.1, by rw [hsp, nd p]; exact v.symm⟩) up
      · exact cN_lt hq (whS_f w.2.2.1.2.1) (whS_t.mpr ⟨by rw [e0]; exact w.2.2.1.1, by rw [hsq, nd q]; exact v.symm⟩) up
/-! a RUN -/
def runA (R : List RU) : Nat → (Nat → Int32) → (Nat → Int32)
  | 0, S => S
  | d + 1, S => match drawP (canL S R nob 0) (S 5) with
    | none => S
    | some c => runA R d (doC (us S 5 (zN (S 5))) R nob c)
theorem runA_none {R : List RU} {S : Nat → Int32} (h : drawP (canL S R nob 0) (S 5) = none) : ∀ d, runA R d S = S := by
  intro d
  cases d with
  | zero => rfl
  | succ d => rw [runA, h]
theorem runA_some {R : List RU} {S : Nat → Int32} {c d : Nat} (h : drawP (canL S R nob 0) (S 5) = some c) : runA R (d + 1) S = runA R d (doC (us S 5 (zN (S 5))) R nob c) := by
  rw [runA, h]
abbrev uz (S : Nat → Int32) (z : Int32) : Nat → Int32 := us S 5 z
theorem uz_pl {S : Nat → Int32} {z : Int32} : pl S (uz S z) := pl.rf.us (Or.inr (Or.inr (Or.inr rfl)))
theorem run_gd {R : List RU} : ∀ (d : Nat) (S : Nat → Int32), GD S → GD (runA R d S) ∧ (∀ i, (i < 14 ∧ i ≠ 5) ∨ 52 ≤ i → runA R d S i = S i) := by
  intro d
  induction d with
  | zero => intro S g; exact ⟨g, fun _ _ => rfl⟩
  | succ d ih =>
    intro S g
    cases hd : drawP (canL S R nob 0) (S 5) with
    | none => rw [runA_none hd]; exact ⟨g, fun _ _ => rfl⟩
    | some c =>
      obtain ⟨h60, -, hc⟩ := dw_can (v := zN (S 5)) g hd
      have g1 := (uz_pl (z := zN (S 5))).gd g
      obtain ⟨a, b⟩ := ih _ (g1.do hc)
      rw [runA_some hd]
      exact ⟨a, fun i hi => by rw [b i hi]; exact (doC_off g1 hc (by omega)).trans (us_ne (by omega))⟩
theorem c_run {R : List RU} : ∀ (d f m : Nat) (S : Nat → Int32) (σ : SG), d < f → d < 100 → GD S → TWR 90 σ S nob → RLt 90 σ R → σ.1 90 13 = S 5 → σ.1 90 14 = nI m → m ≤ 12 → ∃ σ' m', f_To_runOut_3 90 f (nI d) σ = some ((), σ') ∧ fr (fun c => 90 ≤ c ∧ c ≤ 124) σ σ' ∧ TWR 90 σ' (runA R d S) nob ∧ RLt 90 σ' R ∧ σ'.1 90 13 = runA R d S 5 ∧ σ'.1 90 14 = nI m' ∧ m' ≤ 12 := by
  intro d
  induction d with
  | zero =>
    intro f m S σ hf h100 g hT hR h13 h14 hm
    obtain ⟨f, rfl⟩ : ∃ g, f = g + 1 := ⟨f - 1, by omega⟩
    rw [f_To_runOut_3, if_pos (by decide)]
    exact ⟨σ, m, rfl, fr.rf, hT, hR, h13, h14, hm⟩
  | succ d ih =>
    intro f m S σ hf h100 g hT hR h13 h14 hm
    obtain ⟨f, rfl⟩ : ∃ g, f = g + 1 := ⟨f - 1, by omega⟩
    obtain ⟨d1, d2⟩ := b_drawn g hT hR h13
    rw [f_To_runOut_3, if_neg (show ¬ nI (d + 1) ≤ 0 from nI_ge (a := 0) (by omega) (by omega))]
    cases hd : drawP (canL S R nob 0) (S 5) with
    | none =>
      obtain ⟨σ1, q1, q2⟩ := d1 hd
      rw [q1, bnd_some, if_pos (by decide), runA_none hd]
      exact ⟨σ1, m, rfl, q2.mono (fun c hc => by omega), hT.cong (fun c c1 c2 c3 => q2.1 c c3), hR.cong (fun c c1 c2 => q2.1 c (by omega)), by rw [q2.at (by decide)]; exact h13, by rw [q2.at (by decide)]; exact h14, hm⟩
    | some c =>
      obtain ⟨h60, -, hc⟩ := dw_can (v := zN (S 5)) g hd
      have g1 := (uz_pl (z := zN (S 5))).gd g
      obtain ⟨σ1, q1, q2, q3, q4, q5, q6⟩ := d2 c hd
      obtain ⟨σ2, r1, r2, r3, r4, m1, -, r5, r6, -⟩ := b_enter0 (m := m) (uz_pl.tw g.1.1 q5) g1 q6 hc h60 (by rw [q3 14 (by decide)]; exact h14) hm
      rw [q1, r1, bnd_some, bnd_some, if_neg (nI_pos (by omega)), lx_eq, n_m1, runA_some hd]
      obtain ⟨σ3, m3, w1, w2, w3⟩ := ih f (m1 + 1) _ σ2 (by omega) (by omega) (g1.do hc) r3 (q6.cong (fun z z1 z2 => r2.1 z (by omega))) (by rw [r4 13 (by decide) (by decide), q4]; exact ((doC_off g1 hc (by decide)).trans us_same).symm) r6 (by omega)
      exact ⟨σ3, m3, w1, ((q2.mono (fun z hz => by omega)).tr (r2.mono (fun z hz => by omega))).tr w2, w3⟩
theorem canL_6 {R : List RU} {S : Nat → Int32} (g : GD S) (h : 6 ≤ cN (whS S nob)) : drawP (canL S R nob 0) (S 5) = none := by
  cases hd : drawP (canL S R nob 0) (S 5) with
  | none => rfl
  | some c =>
    obtain ⟨-, h1, -⟩ := dw_can (v := 0) g hd
    have a := whole_up g h1
    have b := cN_le (whS (doC S R nob c) nob)
    omega
abbrev L3 (c : Nat) : Prop := c = 148 ∨ c = 149 ∨ c = 152
theorem m_run {R : List RU} {K : Int32 → Int32 → Int32 → SG → Option (Int32 × SG)} {x1 x2 x3 : Int32} : ∀ (d f : Nat) (S : Nat → Int32) (σ : SG), d < f → 6 - cN (whS S nob) ≤ d → GD S → RMt S R → σ.1 149 = S → σ.1 148 4 = -1 → ∃ σ', bnd (f_M_drawn σ) (fun r τ => f_M_often_33 K f x1 x2 x3 r τ) = f_M_often_33 K 1 x1 x2 x3 (-1) σ' ∧ fr L3 σ σ' ∧ σ'.1 149 = runA R d S ∧ ∀ i, i ≠ 6 → i ≠ 7 → σ'.1 148 i = σ.1 148 i := by
  intro d
  have fin : ∀ (f : Nat) (S : Nat → Int32) (σ : SG), GD S → RMt S R → σ.1 149 = S → σ.1 148 4 = -1 → drawP (canL S R nob 0) (S 5) = none → ∃ σ', bnd (f_M_drawn σ) (fun r τ => f_M_often_33 K (f + 1) x1 x2 x3 r τ) = f_M_often_33 K 1 x1 x2 x3 (-1) σ' ∧ fr L3 σ σ' ∧ σ'.1 149 = S ∧ ∀ i, i ≠ 6 → i ≠ 7 → σ'.1 148 i = σ.1 148 i := fun f S σ g hR hs h4 hd => by
    obtain ⟨d1, -⟩ := m_drawn (σ := σ) (R := R) (by rw [hs]; exact g) (by rw [hs]; exact hR) h4
    obtain ⟨σ', q1, q2⟩ := d1 (by rw [hs]; exact hd)
    rw [q1, bnd_some]
    refine ⟨σ', ?_, q2.mono (fun c hc => Or.inr (Or.inr hc)), by rw [q2.1 _ (by decide)]; exact hs, fun i _ _ => q2.at (by decide) i⟩
    show f_M_often_33 K (f + 1) x1 x2 x3 (-1) σ' = f_M_often_33 K (0 + 1) x1 x2 x3 (-1) σ'
    rw [f_M_often_33, f_M_often_33, if_pos (show (-1 : Int32) < 0 by decide), if_pos (show (-1 : Int32) < 0 by decide)]
  induction d with
  | zero =>
    intro f S σ hf hd g hR hs h4
    obtain ⟨f, rfl⟩ : ∃ g, f = g + 1 := ⟨f - 1, by omega⟩
    exact fin f S σ g hR hs h4 (canL_6 g (by omega))
  | succ d ih =>
    intro f S σ hf hdd g hR hs h4
    obtain ⟨f, rfl⟩ : ∃ g, f = g + 1 := ⟨f - 1, by omega⟩
    cases hd : drawP (canL S R nob 0) (S 5) with
    | none =>
      rw [runA_none hd]
      exact fin f S σ g hR hs h4 hd
    | some c =>
      obtain ⟨h60, hc0, hc⟩ := dw_can (v := zN (S 5)) g hd
      have g1 := (uz_pl (z := zN (S 5))).gd g
      obtain ⟨-, d2⟩ := m_drawn (σ := σ) (R := R) (by rw [hs]; exact g) (by rw [hs]; exact hR) h4
      obtain ⟨σ1, q1, q2, q3⟩ := d2 c (by rw [hs]; exact hd)
      rw [hs] at q2
      have m1 : RMt (us S 5 (zN (S 5))) R := hR.u1 (by decide) (by decide)
      have a1 : σ1.1 148 4 = -1 := by rw [q3.at (by decide)]; exact h4
      obtain ⟨σ2, r1, r2, r3, r4, r5, r6⟩ := m_does (k := c) (σ := σ1) (o := nob) (R := R) (by omega) (by rw [q2]; exact g1) (abs_nob a1).1 (by rw [q2]; exact m1) (by rw [q2]; exact canC_num hc)
      rw [q2] at r2
      have hw : cN (whS (us S 5 (zN (S 5))) nob) < cN (whS (doC (us S 5 (zN (S 5))) R nob c) nob) := whole_up g1 hc
      rw [show whS (us S 5 (zN (S 5))) nob = whS S nob from uz_pl.wh g.1.1 nob] at hw
      obtain ⟨σ3, w1, w2, w3, w4⟩ := ih f (doC (us S 5 (zN (S 5))) R nob c) σ2 (by omega) (by omega) (g1.do hc) (RMt.do m1 g1 hc) r2 (by rw [r6 4 (by decide) (by decide)]; exact a1)
      rw [q1, bnd_some, f_M_often_33, if_neg (nI_pos (by omega)), r1, bnd_some, runA_some hd, w1]
      exact ⟨σ3, rfl, ((q3.mono (fun z hz => Or.inr hz)).tr r5).tr w2, w3, fun i h6 h7 => by rw [w4 i h6 h7, r6 i h6 h7, q3.at (by decide)]⟩
/-- of d RUNS, behind how many all are whole -/
def ofL (R : List RU) (S : Nat → Int32) : Nat → Int32 → Nat → Nat
  | 0, _, k => k
  | d + 1, z, k => ofL R S d (runA R 6 (uz S z) 5) (if doneP (runA R 6 (uz S z)) nob then k + 1 else k)
def oftA (S : Nat → Int32) (R : List RU) (x : Int32) : Int32 := if 1 ≤ x ∧ x ≤ 60 then nI (ofL R S (nx x) (S 5) 0) else -1
theorem c_of {R : List RU} {S : Nat → Int32} {n : Nat} (hn : n ≤ 60) (g : GD S) : ∀ (d j f k m : Nat) (z : Int32) (σ : SG), j + d = n → d < f → TWR 20 σ S nob → RLt 20 σ R → σ.1 90 13 = z → σ.1 90 14 = nI m → m ≤ 12 → ∃ σ', f_H_often_27 f (nI n) (nI k) (nI j) σ = some (nI (ofL R S d z k), σ') ∧ fr (fun c => 90 ≤ c ∧ c ≤ 124) σ σ' := by
  intro d
  induction d with
  | zero =>
    intro j f k m z σ hk hf hT hR h13 h14 hm
    obtain ⟨f, rfl⟩ : ∃ g, f = g + 1 := ⟨f - 1, by omega⟩
    have e : j = n := by omega
    rw [f_H_often_27, e, if_pos (Int32.le_refl _)]
    exact ⟨σ, rfl, fr.rf⟩
  | succ d ih =>
    intro j f k m z σ hk hf hT hR h13 h14 hm
    obtain ⟨f, rfl⟩ : ∃ g, f = g + 1 := ⟨f - 1, by omega⟩
    rw [f_H_often_27, if_neg (nI_ge (show j < n by omega) (by omega))]
    obtain ⟨σ1, q1, q2, q3, q4, q5⟩ := b_copyPlay2 (t := 90) (a := 20) (by omega) hT hR
    have g1 : GD (uz S z) := uz_pl.gd g
    obtain ⟨σ2, m2, r1, r2, r3, r4, r5, r6, r7⟩ := c_run 6 FU m (uz S z) σ1 (by rw [FU_eq]; omega) (by decide) g1 (uz_pl.tw g.1.1 q3) q4 (by rw [q5 13 (by decide) (by decide) (by decide) (by decide), h13]; exact us_same.symm) (by rw [q5 14 (by decide) (by decide) (by decide) (by decide)]; exact h14) hm
    have r1 : f_To_runOut_3 90 FU (6 : Int32) σ1 = _ := r1
    rw [q1, bnd_some]
    unfold f_To_runOut
    have fr2 : fr (fun c => 90 ≤ c ∧ c ≤ 124) σ σ2 := (q2.mono (fun c hc => by omega)).tr r2
    rw [r1, bnd_some, b_isDone r3 (run_gd 6 _ g1).1 (oin_nob _), bnd_some, ofL]
    have T2 : TWR 20 σ2 S nob := hT.cong (fun c c1 c2 _ => fr2.1 c (by omega))
    have R2 : RLt 20 σ2 R := hR.cong (fun c c1 c2 => fr2.1 c (by omega))
    by_cases hd : doneP (runA R 6 (uz S z)) nob
    · rw [if_neg (bI_n0.mpr hd), if_pos hd, lx_eq, lx_eq, nI_1, nI_1]
      obtain ⟨σ3, w1, w2⟩ := ih (j + 1) f (k + 1) m2 _ σ2 (by omega) (by omega) T2 R2 r5 r6 r7
      exact ⟨σ3, w1, fr2.tr w2⟩
    · rw [if_pos (bI_0.mpr hd), if_neg hd, lx_eq, nI_1]
      obtain ⟨σ3, w1, w2⟩ := ih (j + 1) f k m2 _ σ2 (by omega) (by omega) T2 R2 r5 r6 r7
      exact ⟨σ3, w1, fr2.tr w2⟩
theorem n_160 {x : Int32} (hx : 1 ≤ x ∧ x ≤ 60) : ∃ n, n ≤ 60 ∧ x = nI n := n_sp (b := 60) (by decide) (by have := hx.1; rw [i_le] at this ⊢; exact Int.le_trans (by decide) this) hx.2
theorem cq_often {σ : SG} {S : Nat → Int32} {R : List RU} (g : GD S) (h : TN 20 σ S R) (x : Int32) : ∃ σ', f_H_often x σ = some (oftA S R x, σ') ∧ fr (fun c => 90 ≤ c ∧ c ≤ 124) σ σ' := by
  unfold f_H_often oftA
  rw [b_isIn, bnd_some]
  by_cases hx : 1 ≤ x ∧ x ≤ 60
  · obtain ⟨n, hn, rfl⟩ := n_160 hx
    rw [if_pos (bI_n0.mpr hx), if_pos hx]
    obtain ⟨σ1, q1, q2, q3, q4, q5, q6⟩ := b_copyFrom (t := 90) (a := 20) (by omega) h
    have l12 := q5.1.1
    rw [q1, bnd_some, nx_nI (by omega)]
    obtain ⟨σ2, r1, r2⟩ := c_of hn g n 0 FU 0 (nx (S 4)) (S 5) σ1 (by omega) (by rw [FU_eq]; omega) (h.1.cong (fun c c1 c2 _ => q2.1 c (by omega))) (h.2.1.cong (fun c c1 c2 => q2.1 c (by omega))) q5.2.1 (q5.2.2.1.trans q5.1.2) l12
    have r1 : f_H_often_27 FU (nI n) (0 : Int32) (0 : Int32) σ1 = _ := r1
    exact ⟨σ2, r1, (q2.mono (fun c hc => by omega)).tr r2⟩
  · rw [if_neg (fun z => z (bI_0.mpr hx)), if_neg hx]
    exact ⟨σ, rfl, fr.rf⟩
theorem m_of {R : List RU} {S : Nat → Int32} {n : Nat} (hn : n ≤ 60) (g : GD S) (hR : RMt S R) : ∀ (d j f k : Nat) (z : Int32) (σ : SG), j + d = n → d < f → σ.1 149 = uz S z → σ.1 148 4 = -1 → (∀ i, i < 340 → σ.1 151 i = S i) → ∃ σ', f_M_often_22 f (nI n) (nI k) (nI j) σ = some (nI (ofL R S d z k), σ') ∧ fr L3 σ σ' ∧ σ'.1 149 = S ∧ ∀ i, i ≠ 6 → i ≠ 7 → σ'.1 148 i = σ.1 148 i := by
  intro d
  induction d with
  | zero =>
    intro j f k z σ hk hf hs h4 h151
    obtain ⟨f, rfl⟩ : ∃ g, f = g + 1 := ⟨f - 1, by omega⟩
    have e : j = n := by omega
    obtain ⟨τ, q1, q2, q3⟩ := m_putsBack (σ := σ) (S := S) h151 (fun i hi => by rw [hs]; exact us_ne (by omega))
    rw [f_M_often_22, e, if_pos (Int32.le_refl _), q1, bnd_some]
    exact ⟨τ, rfl, q2.mono (fun c hc => Or.inr (Or.inl hc)), q3, fun i _ _ => q2.at (by decide) i⟩
  | succ d ih =>
    intro j f k z σ hk hf hs h4 h151
    obtain ⟨f, rfl⟩ : ∃ g, f = g + 1 := ⟨f - 1, by omega⟩
    rw [f_M_often_22, if_neg (nI_ge (show j < n by omega) (by omega))]
    have g1 : GD (uz S z) := uz_pl.gd g
    have m1 : RMt (uz S z) R := hR.u1 (by decide) (by decide)
    obtain ⟨σ1, q1, q2, q3, q4⟩ := m_run (R := R) (K := f_M_often_22 f) (x1 := nI n) (x2 := nI k) (x3 := nI j) 6 FU (uz S z) σ (by rw [FU_eq]; omega) (Nat.sub_le _ _) g1 m1 hs h4
    obtain ⟨G1, G2⟩ := run_gd (R := R) 6 (uz S z) g1
    have a1 : σ1.1 148 4 = -1 := by rw [q4 4 (by decide) (by decide)]; exact h4
    rw [q1, show (1 : Nat) = 0 + 1 from rfl, f_M_often_33, if_pos (show (-1 : Int32) < 0 by decide), m_wholeSet (o := nob) (by rw [q3]; exact G1.1) (abs_nob a1).1, bnd_some, m_thereSet (o := nob) (by rw [q3]; exact G1.1) (abs_nob a1), bnd_some, q3, ofL]
    have hdec : nI (wN (whS (runA R 6 (uz S z)) nob)) = nI (wN (thrS (runA R 6 (uz S z)) nob)) ↔ doneP (runA R 6 (uz S z)) nob := n_inj (by have := wN_lt (whS (runA R 6 (uz S z)) nob); omega) (by have := wN_lt (thrS (runA R 6 (uz S z)) nob); omega)
    have tail : ∀ (k' : Nat) (b : Int32), nI k + b = nI k' → ∃ σ', f_M_often_70 (f_M_often_22 f) (nI n) (nI j) b (nI k) σ1 = some (nI (ofL R S d (runA R 6 (uz S z) 5) k'), σ') ∧ fr L3 σ σ' ∧ σ'.1 149 = S ∧ ∀ i, i ≠ 6 → i ≠ 7 → σ'.1 148 i = σ.1 148 i := fun k' b hb => by
      unfold f_M_often_70
      obtain ⟨τ, t1, t2, t3⟩ := m_putsBack (σ := σ1) (S := S) (fun i hi => by rw [q2.at (by decide)]; exact h151 i hi) (fun i hi => by rw [q3, G2 i (Or.inr (by omega))]; exact us_ne (by omega))
      rw [hb, lx_eq, lx_eq, t1, bnd_some, sx_eq, lx_eq, nI_1, q3]
      obtain ⟨σ3, w1, w2, w3, w4⟩ := ih (j + 1) f k' (runA R 6 (uz S z) 5) (uI τ 149 5 (runA R 6 (uz S z) 5)) (by omega) (by omega) (by rw [uI149, t3]) (by rw [uI_c (by decide), t2.at (by decide)]; exact a1) (fun i hi => by rw [uI_c (by decide), t2.at (by decide), q2.at (by decide)]; exact h151 i hi)
      exact ⟨σ3, w1, ((q2.tr (t2.mono (fun c hc => Or.inr (Or.inl hc)))).tr (fr.uI (Or.inr (Or.inl rfl)))).tr w2, w3, fun i h6 h7 => by rw [w4 i h6 h7, uI_c (by decide), t2.at (by decide), q4 i h6 h7]⟩
    by_cases hd : doneP (runA R 6 (uz S z)) nob
    · rw [if_neg (fun w => w (hdec.mpr hd)), if_pos hd]
      exact tail (k + 1) 1 (nI_1 k)
    · rw [if_pos (fun w => hd (hdec.mp w)), if_neg hd]
      exact tail k 0 (n_add k 0)
theorem mq_often {σ : SG} {R : List RU} (g : GD (σ.1 149)) (hR : RMt (σ.1 149) R) (h4 : σ.1 148 4 = -1) (x : Int32) : ∃ σ', f_M_often x σ = some (oftA (σ.1 149) R x, σ') ∧ fr (fun c => c = 148 ∨ c = 149 ∨ c = 151 ∨ c = 152) σ σ' ∧ σ'.1 149 = σ.1 149 ∧ ∀ i, i ≠ 6 → i ≠ 7 → σ'.1 148 i = σ.1 148 i := by
  unfold f_M_often oftA
  rw [m_in32 (a := 1) (b := 60) (by decide) (by decide), bnd_some]
  by_cases hx : 1 ≤ x ∧ x ≤ 60
  · obtain ⟨n, hn, rfl⟩ := n_160 hx
    rw [if_pos (bI_n0.mpr hx), if_pos hx]
    obtain ⟨σ1, q1, q2, q3⟩ := m_puts σ
    rw [q1, bnd_some, nx_nI (by omega)]
    obtain ⟨σ2, r1, r2, r3, r4⟩ := m_of hn g hR n 0 FU 0 (σ.1 149 5) σ1 (by omega) (by rw [FU_eq]; omega) (by rw [q2.1 _ (by decide)]; exact us_self.symm) (by rw [q2.at (by decide)]; exact h4) q3
    have r1 : f_M_often_22 FU (nI n) (0 : Int32) (0 : Int32) σ1 = _ := r1
    exact ⟨σ2, r1, (q2.mono (fun c hc => by omega)).tr (r2.mono (fun c hc => by omega)), r3, fun i h6 h7 => by rw [r4 i h6 h7, q2.at (by decide)]⟩
  · rw [if_neg (fun z => z (bI_0.mpr hx)), if_neg hx]
    exact ⟨σ, rfl, fr.rf, rfl, fun _ _ _ => rfl⟩
