/-! WHICH FEE, both sides -/
abbrev atF (S : Nat → Int32) (v : Nat) : Nat → Int32 := us S 2 (nI v)
theorem GD.atF {S : Nat → Int32} {v : Nat} (g : GD S) (hv : v ≤ 50) : GD (atF S v) := g.fee (rg_nI hv (by decide))
theorem RMt.fe {S : Nat → Int32} {R : List RU} {y : Int32} (h : RMt S R) : RMt (us S 2 y) R := ⟨h.1.cong (us_ne (by omega)) (fun i hi => us_ne (by omega)), h.2⟩
abbrev feR (S : Nat → Int32) (R : List RU) (n v : Nat) : Prop := rowsA R nob n (atF S v) ≠ []
theorem feR_le {S : Nat → Int32} {R : List RU} {n v w : Nat} (g : GD S) (hvw : v ≤ w) (hw : w ≤ 50) (h : feR S R n w) : feR S R n v := by
  refine low_rows n (atF S w) (atF S v) (g.atF hw) (g.atF (by omega)) ⟨?_, ?_⟩ h
  · rw [show us (atF S v) 2 (atF S w 2) = atF S w by show us (us S 2 (nI v)) 2 (us S 2 (nI w) 2) = us S 2 (nI w); rw [us_us, us_same]]
    exact sim.rf
  · show nx (us S 2 (nI v) 2) ≤ nx (us S 2 (nI w) 2)
    rw [us_same, us_same, nx_nI (by omega), nx_nI (by omega)]
    exact hvw
def gfA (S : Nat → Int32) (R : List RU) (n : Nat) : Nat → Int32
  | 0 => -3
  | v + 1 => if feR S R n v then nI v else gfA S R n v
def feeA (S : Nat → Int32) (R : List RU) (x : Int32) : Int32 := if 1 ≤ x ∧ x ≤ 6 then gfA S R (nx x) 51 else -1
theorem mf_l {R : List RU} {S : Nat → Int32} {n : Nat} (hn : n ≤ 6) (g : GD S) (hR : RMt S R) : ∀ (v f : Nat) (y : Int32) (σ : SG), v ≤ 51 → v + 1 < f → σ.1 149 = us S 2 y → σ.1 148 4 = -1 → ∃ σ', f_M_feeFor_28 f (nI n) (S 2) (-3 : Int32) (nI v + (-1 : Int32)) σ = some (gfA S R n v, σ') ∧ fr Lgo σ σ' ∧ σ'.1 149 = S ∧ ∀ i, ¬ (11 ≤ i ∧ i ≤ 15) → i ≠ 6 → i ≠ 7 → σ'.1 148 i = σ.1 148 i := by
  intro v
  induction v with
  | zero =>
    intro f y σ hv hf hs h4
    obtain ⟨f, rfl⟩ : ∃ g, f = g + 1 := ⟨f - 1, by omega⟩
    rw [f_M_feeFor_28, if_pos (by decide), sx_eq]
    refine ⟨_, rfl, fr.uI (by decide), ?_, fun i _ _ _ => uI_c (by decide)⟩
    rw [uI149, hs, us_us, us_self]
  | succ v ih =>
    intro f y σ hv hf hs h4
    obtain ⟨f, rfl⟩ : ∃ g, f = g + 1 := ⟨f - 1, by omega⟩
    rw [n_m1, f_M_feeFor_28, if_neg (nI_pos (by omega)), if_neg (by decide), sx_eq]
    have hv50 : v ≤ 50 := by omega
    have f1 : fr (fun c => c = 149) σ (uI σ 149 2 (nI v)) := fr.uI rfl
    obtain ⟨σ2, q1, q2, q3, q4, q5⟩ := m_goesAll (S := atF S v) (R := R) (o := nob) (N := n) (σ := uI σ 149 2 (nI v)) hn (by rw [uI149, hs, us_us]) (g.atF hv50) hR.fe (abs_nob (by rw [uI_c (by decide)]; exact h4))
    rw [q1, bnd_some, q4.1]
    have ff : fr Lgo σ σ2 := (f1.mono (fun z hz => by rw [hz]; decide)).tr q2
    have w2 : ∀ i, ¬ (11 ≤ i ∧ i ≤ 15) → i ≠ 6 → i ≠ 7 → σ2.1 148 i = σ.1 148 i := fun i i1 i2 i3 => by rw [q5 i i1 i2 i3, uI_c (by decide)]
    have hlen := rows_31 (R := R) (o := nob) hn (atF S v)
    rw [gfA]
    by_cases hb : rowsA R nob n (atF S v) = []
    · rw [if_pos (show nI (rowsA R nob n (atF S v)).length ≤ 0 by rw [hb]; decide), lx_eq, if_neg (fun z => z hb)]
      obtain ⟨σ', t1, t2, t3, t4⟩ := ih f (nI v) σ2 (by omega) (by omega) q3 (by rw [w2 4 (by decide) (by decide) (by decide)]; exact h4)
      exact ⟨σ', t1, ff.tr t2, t3, fun i i1 i2 i3 => by rw [t4 i i1 i2 i3, w2 i i1 i2 i3]⟩
    · have hpos : 0 < (rowsA R nob n (atF S v)).length := List.length_pos_iff.mpr hb
      rw [if_neg (show ¬ nI (rowsA R nob n (atF S v)).length ≤ 0 from nI_ge (a := 0) hpos hlen), lx_eq, if_pos hb]
      obtain ⟨f, rfl⟩ : ∃ g, f = g + 1 := ⟨f - 1, by omega⟩
      have f3 : fr Lgo σ2 (uI σ2 149 2 (S 2)) := fr.uI (by decide)
      refine ⟨uI σ2 149 2 (S 2), ?_, ff.tr f3, by rw [uI149, q3, us_us, us_self], fun i i1 i2 i3 => by rw [uI_c (by decide), w2 i i1 i2 i3]⟩
      rw [f_M_feeFor_28]
      by_cases hz : nI v + (-1 : Int32) < 0
      · rw [if_pos hz, sx_eq]
      · rw [if_neg hz, if_pos (nI_pos' (by omega)), sx_eq]
theorem mq_feeFor {σ : SG} {R : List RU} {ρ : Nat} (h : PS σ R ρ) (x : Int32) : ∃ σ', f_M_feeFor x σ = some (feeA (σ.1 149) R x, σ') ∧ MO σ σ' R ρ := by
  unfold f_M_feeFor feeA
  rw [m_in32 (a := 1) (b := 6) (by decide) (by decide), bnd_some]
  by_cases hx : 1 ≤ x ∧ x ≤ 6
  · have h0 : (0 : Int32) ≤ x := by
      have := hx.1
      rw [i_le] at this ⊢
      exact Int.le_trans (by decide) this
    obtain ⟨n, hn, rfl⟩ := n_sp (b := 6) (by decide) h0 hx.2
    rw [if_pos (bI_n0.mpr hx), if_pos hx, lx_eq, nx_nI (by omega)]
    obtain ⟨σ', t1, t2, t3, t4⟩ := mf_l hn h.1 h.2.2.2.1 51 FU (σ.1 149 2) σ (by decide) (by rw [FU_eq]; omega) us_self.symm h.2.2.2.2.1
    have t1 : f_M_feeFor_28 FU (nI n) (σ.1 149 2) (-3 : Int32) (50 : Int32) σ = _ := t1
    exact ⟨σ', t1, t2, h.m t2 t3 (t4 4 (by decide) (by decide) (by decide)), t3, t4⟩
  · rw [if_neg (fun z => z (bI_0.mpr hx)), if_neg hx]
    exact ⟨σ, rfl, MO.rf h⟩
/-! the class halves -/
def loI : Nat → Int32
  | 0 => -1
  | l + 1 => nI l
def reI : Nat → Int32
  | 0 => -3
  | l + 1 => nI l
theorem lo_d : ∀ l, l < 52 → ∀ h, h < 52 → l ≤ h → nI h - loI l = nI (h + 1 - l) ∧ (l < h → (loI l + nI h) / (2 : Int32) = nI ((l + h - 1) / 2)) := by decide +kernel
theorem lo_r {l : Nat} (hl : l < 52) : (if 0 ≤ loI l then loI l else -3) = reI l := by
  cases l with
  | zero => rfl
  | succ l => exact if_pos (nI_pos' (by omega))
theorem gf_at {S : Nat → Int32} {R : List RU} {n : Nat} {l : Nat} (h1 : ∀ v, l ≤ v → v < 51 → ¬ feR S R n v) (h2 : ∀ k, l = k + 1 → feR S R n k) : ∀ k, l + k ≤ 51 → gfA S R n (l + k) = reI l := by
  intro k
  induction k with
  | zero =>
    intro _
    rw [Nat.add_zero]
    cases l with
    | zero => rfl
    | succ l => exact if_pos (h2 l rfl)
  | succ k ih =>
    intro hk
    show (if feR S R n (l + k) then nI (l + k) else gfA S R n (l + k)) = _
    rw [if_neg (h1 (l + k) (by omega) (by omega))]
    exact ih (by omega)
theorem va_ltn {R : List RU} {o : Nat → Bool} {S : Nat → Int32} {n : Nat} (hn : n ≤ 6) : (1000000 : Int32) ≤ vaA 0 R o n S ↔ rowsA R o n S = [] := by
  have h1 := mn_le (fun r => r.1.length) (rowsA R o n S)
  have h2 := mn_nil (rowl_lt' (R := R) (o := o) (S := S) hn)
  rw [va_len]
  generalize mn (fun r => r.1.length) (rowsA R o n S) = z at h1 h2
  have h3 : (1000000 : Int32) ≤ nI z ↔ 1000000 ≤ z := n_le (by decide) (by omega)
  rw [h3]
  constructor
  · intro h
    by_cases e : rowsA R o n S = []
    · exact e
    · have := h2.mpr e
      omega
  · intro e
    have : ¬ z < 1000000 := fun q => h2.mp q e
    omega
theorem cf_l {a n : Nat} {R : List RU} {S : Nat → Int32} (hn : n ≤ 6) (g : GD S) : ∀ (d l h k f ρ : Nat) (y : Int32) (σ : SG), h - l ≤ d → l ≤ h → h ≤ 51 → k + (h - l) ≤ 51 → d < f → TWR 90 σ (us S 2 y) nob → RLt 90 σ R → SV ρ σ → ρ + d < 1099511627776 → (∀ v, h ≤ v → v < 51 → ¬ feR S R n v) → (∀ j, l = j + 1 → feR S R n j) → ∃ σ' ρ', f_Se_greatestFee_17 a f (nI n) (loI l) (nI h) (nI k) σ = some (gfA S R n 51, σ') ∧ frT σ σ' ∧ SV ρ' σ' ∧ ρ ≤ ρ' ∧ ρ' ≤ ρ + d := by
  have fin : ∀ (l : Nat) (σ : SG), l ≤ 51 → (∀ v, l ≤ v → v < 51 → ¬ feR S R n v) → (∀ j, l = j + 1 → feR S R n j) → (if 0 ≤ loI l then some (loI l, σ) else some ((-3 : Int32), σ)) = some (gfA S R n 51, σ) := fun l σ hl h1 h2 => by
    have e := gf_at h1 h2 (51 - l) (by omega)
    rw [show l + (51 - l) = 51 by omega] at e
    rw [e, ← lo_r (show l < 52 by omega)]
    by_cases q : 0 ≤ loI l
    · rw [if_pos q, if_pos q]
    · rw [if_neg q, if_neg q]
  intro d
  induction d with
  | zero =>
    intro l h k f ρ y σ hd hlh h51 hk hf hT hR hv hr h1 h2
    obtain ⟨f, rfl⟩ : ∃ g, f = g + 1 := ⟨f - 1, by omega⟩
    have e : h = l := by omega
    subst e
    rw [f_Se_greatestFee_17, (lo_d h (by omega) h (by omega) (Nat.le_refl _)).1]
    refine ⟨σ, ρ, ?_, frT.rf, hv, Nat.le_refl _, Nat.le_refl _⟩
    by_cases hz : (50 : Int32) < nI k
    · rw [if_pos hz]
      exact fin h σ h51 h1 h2
    · rw [if_neg hz, if_pos (show nI (h + 1 - h) ≤ 1 by rw [show h + 1 - h = 1 by omega]; decide)]
      exact fin h σ h51 h1 h2
  | succ d ih =>
    intro l h k f ρ y σ hd hlh h51 hk hf hT hR hv hr h1 h2
    obtain ⟨f, rfl⟩ : ∃ g, f = g + 1 := ⟨f - 1, by omega⟩
    obtain ⟨e1, e2⟩ := lo_d l (by omega) h (by omega) hlh
    by_cases heq : h = l
    · subst heq
      rw [f_Se_greatestFee_17, e1]
      refine ⟨σ, ρ, ?_, frT.rf, hv, Nat.le_refl _, by omega⟩
      by_cases hz : (50 : Int32) < nI k
      · rw [if_pos hz]
        exact fin h σ h51 h1 h2
      · rw [if_neg hz, if_pos (show nI (h + 1 - h) ≤ 1 by rw [show h + 1 - h = 1 by omega]; decide)]
        exact fin h σ h51 h1 h2
    · have hlt : l < h := by omega
      have hk50 : ¬ (50 : Int32) < nI k := fun z => by
        have := (n_lt (a := 50) (b := k) (by decide) (by omega)).mp z
        omega
      have hd1 : ¬ nI (h + 1 - l) ≤ 1 := fun z => by
        have := (n_le (a := h + 1 - l) (b := 1) (by omega) (by decide)).mp z
        omega
      rw [f_Se_greatestFee_17, if_neg hk50, e1, if_neg hd1, sx_eq, e2 hlt]
      have hm1 : l ≤ (l + h - 1) / 2 := by omega
      have hm2 : (l + h - 1) / 2 < h := by omega
      generalize (l + h - 1) / 2 = m at hm1 hm2
      have f1 : fr (fun c => 90 ≤ c ∧ c ≤ 104) σ (uI σ 90 12 (nI m)) := fr.uI (by decide)
      have T1 : TWR 90 (uI σ 90 12 (nI m)) (atF S m) nob := by
        have z := TV.tw (o := nob) (TV.fee (v := nI m) hT.tv) (by rw [uI_i (by decide)]; exact hT.2.2.1) (by rw [uI_i (by decide), fee_wh]; exact hT.2.2.2.1)
        rw [us_us] at z
        exact z
      obtain ⟨σ2, q1, q2, q3⟩ := b_ask (σ := uI σ 90 12 (nI m)) (md := 0) (ρ := ρ) (o := nob) hv (by omega) T1 (g.atF (by omega)) (hR.cong (fun c c1 c2 => uIc (by omega))) (oin_nob _)
      rw [q1, bnd_some]
      obtain ⟨σ3, r1, r2, r3⟩ := b_solve n DP (atF S m) σ2 (by omega) (by show n < 12; omega) q3
      have e12 : σ3.1 90 12 = nI m := r3.1.2.1.trans us_same
      rw [r1, bnd_some, e12]
      have ff : frT σ σ3 := ((frT.of f1).tr q2).tr (frT.so r2)
      by_cases hb : rowsA R nob n (atF S m) = []
      · rw [if_pos ((va_ltn hn).mpr hb), lx_eq, lx_eq, nI_1]
        obtain ⟨σ', ρ', t1, t2, t3, t4, t5⟩ := ih l m (k + 1) f (ρ + 1) (nI m) σ3 (by omega) (by omega) (by omega) (by omega) (by omega) r3.1 r3.2.2.1 r3.sv (by omega) (fun v v1 v2 z => feR_le g v1 (by omega) z hb) h2
        exact ⟨σ', ρ', t1, ff.tr t2, t3, by omega, by omega⟩
      · rw [if_neg (fun z => hb ((va_ltn hn).mp z)), lx_eq, lx_eq, nI_1]
        have hj : ∀ j, m + 1 = j + 1 → feR S R n j := fun j ej => by
          have e : m = j := by omega
          rw [← e]
          exact hb
        obtain ⟨σ', ρ', t1, t2, t3, t4, t5⟩ := ih (m + 1) h (k + 1) f (ρ + 1) (nI m) σ3 (by omega) (by omega) (by omega) (by omega) (by omega) r3.1 r3.2.2.1 r3.sv (by omega) h1 hj
        exact ⟨σ', ρ', t1, ff.tr t2, t3, by omega, by omega⟩
theorem cq_feeFor {σ : SG} {R : List RU} {ρ : Nat} (h : PS σ R ρ) (hr : ρ + 100 < 1099511627776) (x : Int32) : ∃ σ', f_H_feeFor x σ = some (feeA (σ.1 149) R x, σ') ∧ CM σ σ' R ρ := by
  unfold f_H_feeFor feeA
  rw [b_isIn, bnd_some]
  by_cases hx : 1 ≤ x ∧ x ≤ 6
  · have h0 : (0 : Int32) ≤ x := by
      have := hx.1
      rw [i_le] at this ⊢
      exact Int.le_trans (by decide) this
    obtain ⟨n, hn, rfl⟩ := n_sp (b := 6) (by decide) h0 hx.2
    rw [if_neg (bI_n0.mpr hx), if_pos hx, nx_nI (by omega)]
    unfold f_Se_greatestFee
    obtain ⟨σ1, q1, q2, q3, q4⟩ := b_copyPlay (t := 90) (by decide) h.2.1 h.2.2.1
    rw [q1, bnd_some]
    have v1 : SV ρ σ1 := by unfold SV; rw [q2.2]; exact h.2.2.2.2.2
    obtain ⟨σ4, ρ', t1, t2, t3, t4, t5⟩ := cf_l (a := 20) hn h.1 51 0 51 0 FU ρ (σ.1 149 2) σ1 (by decide) (by decide) (by decide) (by decide) (by rw [FU_eq]; omega) (by rw [us_self]; exact q3) q4 v1 (by omega) (fun v v1 v2 => by omega) (fun j ej => by omega)
    have t1 : f_Se_greatestFee_17 20 FU (nI n) (-1 : Int32) (51 : Int32) (0 : Int32) σ1 = _ := t1
    rw [t1, bnd_some]
    exact ⟨σ4, rfl, frC.of ((frT.of q2).tr t2), ρ', by omega, by omega, h.c (frC.of ((frT.of q2).tr t2)) t3⟩
  · rw [if_pos (bI_0.mpr hx), if_neg hx]
    exact ⟨σ, rfl, frC.rf, ρ, Nat.le_refl _, by omega, h⟩
