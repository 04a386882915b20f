theorem b_asks {t p : Nat} {σ : SG} {S : Nat → Int32} {o : Nat → Bool} {R : List RU} (hp : p < 6) (hT : TWR t σ S o) (hg : GD S) (hR : RLt t σ R) : ∃ σ', f_To_asks t (nI p) σ = some (nI (askA S R o p), σ') ∧ fr (fun c => c = t + 7) σ σ' := by
  obtain ⟨T0, T1, T2, T3, T4, T5⟩ := hT
  obtain ⟨k1, k2, k3, k4, k5⟩ := T4 p hp
  obtain ⟨g0, g1, g2, g3, -⟩ := rgP hg hp
  have i6 : ix (nI p) 6 := ix_nI hp (by decide)
  have np : nx (nI p) = p := nx_nI (by omega)
  have hh : hsN S p < 8 := by have := g1.1; show nx _ < 8; omega
  have hd : ndN S p < 8 := by have := g2.1; show nx _ < 8; omega
  have wh := (hg.2.2.1 _ hh).1
  have wd := (hg.2.2.1 _ hd).1
  have e1 : σ.1 (t + 9) p = nI (hsN S p) := by rw [k2]; exact g1.2
  have e2 : σ.1 (t + 10) p = nI (ndN S p) := by rw [k3]; exact g2.2
  have e3 : σ.1 (t + 13) (hsN S p) = nI (wrN S (hsN S p)) := by rw [(T5 _ hh).1]; exact wh.2
  have e4 : σ.1 (t + 13) (ndN S p) = nI (wrN S (ndN S p)) := by rw [(T5 _ hd).1]; exact wd.2
  have e5 : σ.1 t 12 = nI (feN S) := by rw [T1]; exact hg.2.1.2
  have e6 : σ.1 (t + 11) p = nI (cnN S p) := by rw [k4]; exact g3.2
  have e7 : σ.1 (t + 8) p = nI (kdN S p) := by rw [k1]; exact g0.2
  have bh : wrN S (hsN S p) ≤ 99 := wh.1
  have bd : wrN S (ndN S p) ≤ 99 := wd.1
  have bf : feN S ≤ 50 := hg.2.1.1
  have bc : cnN S p ≤ 999 := g3.1
  have bk : kdN S p ≤ 5 := g0.1
  generalize hv : (wrN S (ndN S p) - wrN S (hsN S p)) + feN S = v
  have hvb : v ≤ 149 := by omega
  have key : ∃ σ', f_To_asks_44 t (nI p) (nI (wrN S (hsN S p))) (nI (wrN S (ndN S p))) (nI v) σ = some (nI (askA S R o p), σ') ∧ fr (fun c => c = t + 7) σ σ' := by
    unfold f_To_asks_44
    have hc := hR.1.count
    rw [Nat.zero_add] at hc
    rw [lx_eq, T2, T3, wN_andn, whS_o, hc.1]
    have hw := wN_lt (whS S o)
    unfold askA
    rw [hv]
    by_cases h0 : R.length ≤ 0
    · have hn : R = [] := List.length_eq_zero_iff.mp (by omega)
      subst hn
      refine ⟨σ, ?_, fr.rf⟩
      rw [if_pos (show nI ([] : List RU).length ≤ 0 by decide)]
      exact b_asks_kind hp (by omega) (by omega) bk e7 e6 hw
    · rw [if_neg (show ¬ nI R.length ≤ (0 : Int32) from fun z => h0 ((n_le (b := 0) (by omega) (by decide)).mp z)), gd_pos i6, np, e6, bcn_wN]
      obtain ⟨τ, q1, q2, q3, q4, q5, q6, q7⟩ := b_look (t + 1) (nI (wrN S (hsN S p))) (nI (wrN S (ndN S p))) (nI (cnN S p)) (nI (cN (whS S o))) (nI p) σ
      refine ⟨τ, ?_, q2⟩
      have kp : ∀ c, c ≠ t + 7 → τ.1 c = σ.1 c := fun c hc => q2.1 c (fun z => hc (by rw [z]))
      rw [q1, bnd_some, gd_pos i6, kp _ (by omega), e7]
      have hfx : ∀ i, i < 5 → τ.1 (t + 1 + 6) i = fxA S o p i := fun i hi => by
        match i, hi with
        | 0, _ => exact q3
        | 1, _ => exact q4
        | 2, _ => exact q5
        | 3, _ => exact q6
        | 4, _ => exact q7
      have hch : f_Ru_changed (t + 1) (nI v) (nI (kdN S p)) τ = some (nI (priceN v (findA (kdN S p) (fxA S o p) R)), τ) :=
        b_changed_l (t + 1) hfx (by omega) bk R 0 0 FU hR.2 (hR.1.keep (kp _ (by omega)) (kp _ (by omega)) (kp _ (by omega)) (kp _ (by omega)) (kp _ (by omega)) (kp _ (by omega))) (by rw [FU_eq]; omega)
      rw [hch, bnd_some]
      refine b_asks_kind hp ?_ (by omega) bk (by rw [kp _ (by omega)]; exact e7) (by rw [kp _ (by omega)]; exact e6) hw
      have hfa : ∀ (Q : List RU), (∀ q ∈ Q, okR q) → ∀ z, findA (kdN S p) (fxA S o p) Q = some z → z.2 ≤ 99 := by
        intro Q
        induction Q with
        | nil => intro _ z hz; cases hz
        | cons q r ih =>
          intro hq z hz
          rw [findA] at hz
          by_cases hcn : und (nI (kdN S p)) (nI q.1) ∧ topA (evalA (fxA S o p) q.2.2.2 []) = true
          · rw [if_pos hcn] at hz
            cases hz
            exact (hq q List.mem_cons_self).2.2.1
          · rw [if_neg hcn] at hz
            exact ih (fun z hz => hq z (List.mem_cons_of_mem _ hz)) z hz
      cases hfd : findA (kdN S p) (fxA S o p) R with
      | none => show v < 10000; omega
      | some z =>
        have := hfa R hR.2 z hfd
        obtain ⟨z1, z2⟩ := z
        match z1 with
        | 0 => show v + z2 < 10000; have : z2 ≤ 99 := this; omega
        | 1 => show v - z2 < 10000; omega
        | _ + 2 => show 0 < 10000; decide
  unfold f_To_asks
  rw [gd_pos i6, np, e1, gd_pos (ix_nI hh (by decide)), lx_eq, nx_nI (by omega), e3, gd_pos i6, e2, gd_pos (ix_nI hd (by decide)), lx_eq, nx_nI (by omega), e4, e5]
  by_cases h : wrN S (ndN S p) ≤ wrN S (hsN S p)
  · rw [if_pos ((n_le (by omega) (by omega)).mpr h), show feN S = v by omega]
    exact key
  · rw [if_neg (fun z => h ((n_le (by omega) (by omega)).mp z)), show nI (wrN S (ndN S p)) - nI (wrN S (hsN S p)) = nI (wrN S (ndN S p) - wrN S (hsN S p)) from n_sub (by omega), n_add, hv]
    exact key
/-! the same of the reference -/
theorem m_fact {p : Nat} {σ : SG} {o : Nat → Bool} (hp : p < 6) (hg : GD (σ.1 149)) (ho : abs1 (σ.1 148 4) o) {v : Nat} (hv : v ≤ 10004) : f_M_fact (vM v) (nI p) σ = some (valA (fxA (σ.1 149) o p) v, σ) := by
  obtain ⟨g0, g1, g2, g3, -⟩ := rgP hg hp
  have hh : hsN (σ.1 149) p < 8 := by have := g1.1; show nx _ < 8; omega
  have hd : ndN (σ.1 149) p < 8 := by have := g2.1; show nx _ < 8; omega
  unfold f_M_fact vM valA
  by_cases h : v < 10000
  · rw [if_pos h, if_pos h, if_neg (n_neg (by omega) (by decide)), if_neg (n_neg (by omega) (by decide)), if_neg (n_neg (by omega) (by decide)), if_neg (n_neg (by omega) (by decide)), if_neg (n_neg (by omega) (by decide))]
  · rw [if_neg h, if_neg h]
    obtain ⟨k, rfl⟩ : ∃ k, v = 10000 + k := ⟨v - 10000, by omega⟩
    rw [show 10000 + k - 9999 = k + 1 by omega, show 10000 + k - 10000 = k by omega]
    have hk : k ≤ 4 := by omega
    match k, hk with
    | 0, _ =>
      rw [if_neg (by decide), if_neg (by decide), if_neg (by decide), if_neg (by decide), if_pos (by decide), m_its1 hp, bnd_some, show (6 : Int32) = nI 6 from rfl, g1.2, n_add, gd_pos (ix_nI (show 6 + nx (σ.1 149 (22 + 5 * p + 1)) < 340 by have := g1.1; omega) (by decide)), nx_nI (show 6 + nx (σ.1 149 (22 + 5 * p + 1)) < 2147483648 by have := g1.1; omega)]
      exact congrArg (fun q => some (q, σ)) (hg.2.2.1 _ hh).1.2
    | 1, _ =>
      rw [if_neg (by decide), if_neg (by decide), if_neg (by decide), if_pos (by decide), m_its2 hp, bnd_some, show (6 : Int32) = nI 6 from rfl, g2.2, n_add, gd_pos (ix_nI (show 6 + nx (σ.1 149 (22 + 5 * p + 2)) < 340 by have := g2.1; omega) (by decide)), nx_nI (show 6 + nx (σ.1 149 (22 + 5 * p + 2)) < 2147483648 by have := g2.1; omega)]
      exact congrArg (fun q => some (q, σ)) (hg.2.2.1 _ hd).1.2
    | 2, _ =>
      rw [if_neg (by decide), if_neg (by decide), if_pos (by decide), m_its3 hp, bnd_some]
      exact congrArg (fun q => some (q, σ)) g3.2
    | 3, _ =>
      rw [if_neg (by decide), if_pos (by decide), m_wholeSet hg.1 ho, bnd_some, m_ones, bnd_some]
      rfl
    | 4, _ =>
      rw [if_pos (by decide)]
      rfl
theorem m_isSo {fx : Nat → Int32} {p : Int32} {σ : SG} {L : List IT} (h : okL L) {off : Nat} (ho : off + (L.flatMap expM).length ≤ 202) (hc : ∀ j x, (L.flatMap expM)[j]? = some x → σ.1 149 (138 + (off + j)) = x) (hf : fctM fx p σ) : ∃ σ', f_M_isSo (nI off) (nI (off + (L.flatMap expM).length)) p σ = some (bI (topA (evalA fx L []) = true), σ') ∧ fr (fun c => c = 152) σ σ' := by
  obtain ⟨d, hd, hd1⟩ := h.dpt
  exact m_isSo_l L [] off (off + (L.flatMap expM).length) FU d σ h.1 hd hd1 (by decide) rfl ho (by rw [FU_eq]; omega) hc (fun j b hb => by simp at hb) hf
theorem m_asked_kind {p : Nat} {σ : SG} {o : Nat → Bool} {v kd : Nat} (hp : p < 6) (hg : GD (σ.1 149)) (ho : abs1 (σ.1 148 4) o) (hv : v < 10000) (hk : kd ≤ 5) : f_M_asked_217 (nI p) (nI kd) (nI v) σ = some (nI (kindN kd v (cnN (σ.1 149) p) (decide (wN (whS (σ.1 149) o) = 0))), σ) := by
  obtain ⟨g0, g1, g2, g3, -⟩ := rgP hg hp
  have bc : cnN (σ.1 149) p ≤ 999 := g3.1
  have hc2 : cnN (σ.1 149) p / 10 ≤ cnN (σ.1 149) p := Nat.div_le_self _ _
  unfold f_M_asked_217
  rw [m_its3 hp, bnd_some, show σ.1 149 (22 + 5 * p + 3) = nI (cnN (σ.1 149) p) from g3.2, show (10 : Int32) = nI 10 from rfl, n_div (by omega) (by decide), m_at_sub (by omega) (by omega), bnd_some]
  match kd, hk with
  | 0, _ =>
    rw [if_neg (by decide), if_neg (by decide), if_neg (by decide), if_neg (by decide)]
    rfl
  | 1, _ =>
    rw [if_neg (by decide), if_neg (by decide), if_neg (by decide), if_neg (by decide)]
    rfl
  | 2, _ =>
    rw [if_pos (by decide)]
    rfl
  | 3, _ =>
    rw [if_neg (by decide), if_pos (by decide), m_wholeSet hg.1 ho, bnd_some]
    have hw := wN_lt (whS (σ.1 149) o)
    have w0 : nI (wN (whS (σ.1 149) o)) = 0 ↔ wN (whS (σ.1 149) o) = 0 := n_inj (b := 0) (by omega) (by decide)
    by_cases z : wN (whS (σ.1 149) o) = 0
    · rw [if_neg (fun y => y (w0.mpr z)), show (2 : Int32) = nI 2 from rfl, n_div (by omega) (by decide)]
      simp [kindN, z]
    · rw [if_pos (fun y => z (w0.mp y))]
      simp [kindN, z]
  | 4, _ =>
    rw [if_neg (by decide), if_neg (by decide), if_pos (by decide), show (2 : Int32) = nI 2 from rfl, n_mul]
    rfl
  | 5, _ =>
    rw [if_neg (by decide), if_neg (by decide), if_neg (by decide), if_pos (by decide), show (2 : Int32) = nI 2 from rfl, n_mul, show (7 : Int32) = nI 7 from rfl, m_at_sub (by omega) (by omega), bnd_some]
    rfl
theorem m_asked_132 {p : Nat} {σ : SG} {o : Nat → Bool} {kd : Nat} (hp : p < 6) (hg : GD (σ.1 149)) (ho : abs1 (σ.1 148 4) o) (hk : kd ≤ 5) {z : Option (Nat × Nat)} {x5 xs : Int32} (hz : (z = none ∧ x5 = -1) ∨ ∃ d a, z = some (d, a) ∧ d ≤ 2 ∧ a ≤ 99 ∧ x5 = nI d ∧ xs = nI a) : f_M_asked_132 (nI p) (nI kd) x5 xs σ = some (nI (kindN kd (priceN ((wrN (σ.1 149) (ndN (σ.1 149) p) - wrN (σ.1 149) (hsN (σ.1 149) p)) + feN (σ.1 149)) z) (cnN (σ.1 149) p) (decide (wN (whS (σ.1 149) o) = 0))), σ) := by
  obtain ⟨g0, g1, g2, g3, -⟩ := rgP hg hp
  have hh : hsN (σ.1 149) p < 8 := by have := g1.1; show nx _ < 8; omega
  have hd : ndN (σ.1 149) p < 8 := by have := g2.1; show nx _ < 8; omega
  have wh := (hg.2.2.1 _ hh).1
  have wd := (hg.2.2.1 _ hd).1
  have bh : wrN (σ.1 149) (hsN (σ.1 149) p) ≤ 99 := wh.1
  have bd : wrN (σ.1 149) (ndN (σ.1 149) p) ≤ 99 := wd.1
  have bf : feN (σ.1 149) ≤ 50 := hg.2.1.1
  unfold f_M_asked_132
  rw [m_its2 hp, bnd_some, show σ.1 149 (22 + 5 * p + 2) = nI (ndN (σ.1 149) p) from g2.2, show (6 : Int32) = nI 6 from rfl, n_add, gd_pos (ix_nI (by omega) (by decide)), m_its1 hp, bnd_some, show σ.1 149 (22 + 5 * p + 1) = nI (hsN (σ.1 149) p) from g1.2, n_add, gd_pos (ix_nI (by omega) (by decide)), nx_nI (by omega), nx_nI (by omega), show σ.1 149 (6 + ndN (σ.1 149) p) = nI (wrN (σ.1 149) (ndN (σ.1 149) p)) from wd.2, show σ.1 149 (6 + hsN (σ.1 149) p) = nI (wrN (σ.1 149) (hsN (σ.1 149) p)) from wh.2, m_at_sub (by omega) (by omega), bnd_some, lx_eq, show σ.1 149 2 = nI (feN (σ.1 149)) from hg.2.1.2, n_add]
  have hv : (wrN (σ.1 149) (ndN (σ.1 149) p) - wrN (σ.1 149) (hsN (σ.1 149) p)) + feN (σ.1 149) ≤ 149 := by omega
  generalize (wrN (σ.1 149) (ndN (σ.1 149) p) - wrN (σ.1 149) (hsN (σ.1 149) p)) + feN (σ.1 149) = v at hv ⊢
  rcases hz with ⟨rfl, rfl⟩ | ⟨d, a, rfl, h2, h3, rfl, rfl⟩
  · rw [if_pos (by decide), if_pos (by decide), if_pos (by decide)]
    exact m_asked_kind hp hg ho (by omega) hk
  · match d, h2 with
    | 0, _ =>
      rw [if_neg (show ¬ ¬ nI 0 = 0 from fun y => y rfl), n_add]
      exact m_asked_kind hp hg ho (by omega) hk
    | 1, _ =>
      rw [if_pos (show ¬ nI 1 = 0 by decide), if_neg (show ¬ ¬ nI 1 = (1 : Int32) from fun y => y rfl), m_at_sub (by omega) (by omega), bnd_some]
      exact m_asked_kind hp hg ho (by omega) hk
    | 2, _ =>
      rw [if_pos (show ¬ nI 2 = 0 by decide), if_pos (show ¬ nI 2 = (1 : Int32) by decide), if_neg (show ¬ ¬ nI 2 = (2 : Int32) from fun y => y rfl)]
      exact m_asked_kind (v := 0) hp hg ho (by omega) hk
theorem m_asked_l {p : Nat} {o : Nat → Bool} {kd : Nat} (hp : p < 6) (hk : kd ≤ 5) : ∀ (Q : List RU) (k off f : Nat) (σ : SG), GD (σ.1 149) → abs1 (σ.1 148 4) o → (∀ q ∈ Q, okR q) → RLM (σ.1 149) Q k off → Q.length + 1 < f → ∃ σ', f_M_asked_15 f (nI p) (nI kd) (-1 : Int32) (nI off) (nI k) σ = some (nI (kindN kd (priceN ((wrN (σ.1 149) (ndN (σ.1 149) p) - wrN (σ.1 149) (hsN (σ.1 149) p)) + feN (σ.1 149)) (findA kd (fxA (σ.1 149) o p) Q)) (cnN (σ.1 149) p) (decide (wN (whS (σ.1 149) o) = 0))), σ') ∧ fr (fun c => c = 152) σ σ' := by
  intro Q
  induction Q with
  | nil =>
    intro k off f σ hg ho _ h hf
    obtain ⟨f, rfl⟩ : ∃ g, f = g + 1 := ⟨f - 1, by omega⟩
    refine ⟨σ, ?_, fr.rf⟩
    rw [f_M_asked_15, h.1, if_pos (Int32.le_refl _)]
    unfold f_M_asked_98
    rw [if_neg (by decide), if_neg (by decide)]
    exact m_asked_132 hp hg ho hk (Or.inl ⟨rfl, rfl⟩)
  | cons q r ih =>
    intro k off f σ hg ho hok h hf
    rw [List.length_cons] at hf
    obtain ⟨f, rfl⟩ : ∃ g, f = g + 1 := ⟨f - 1, by omega⟩
    have hq := hok q List.mem_cons_self
    have hc := h.count
    rw [List.length_cons] at hc
    obtain ⟨a1, a2, a3, a4, a5, a6⟩ := h
    have hc6 := a6.count
    have hix : ∀ w, w < 4 → ix (nI (106 + 4 * k) + nI w) 340 ∧ nx (nI (106 + 4 * k) + nI w) = 106 + 4 * k + w := fun w hw => by
      rw [n_add]
      exact ⟨ix_nI (by omega) (by decide), nx_nI (by omega)⟩
    have i0 : ix (nI (106 + 4 * k) + (0 : Int32)) 340 ∧ nx (nI (106 + 4 * k) + (0 : Int32)) = 106 + 4 * k + 0 := hix 0 (by decide)
    have i3 : ix (nI (106 + 4 * k) + (3 : Int32)) 340 ∧ nx (nI (106 + 4 * k) + (3 : Int32)) = 106 + 4 * k + 3 := hix 3 (by decide)
    rw [f_M_asked_15, hc.1, if_neg (nI_ge (by omega) (by omega)), if_neg (by decide), show (4 : Int32) = nI 4 from rfl, n_mul, show (106 : Int32) = nI 106 from rfl, n_add, lx_eq, gd_pos i0.1, i0.2, Nat.add_zero, a1, m_isUnder, bnd_some]
    have g9 : ∀ τ : SG, fr (fun c => c = 152) σ τ → τ.1 149 = σ.1 149 ∧ τ.1 148 = σ.1 148 := fun τ ht => ⟨ht.1 _ (by decide), ht.1 _ (by decide)⟩
    have nxt : ∀ τ : SG, fr (fun c => c = 152) σ τ → ∃ σ', f_M_asked_15 f (nI p) (nI kd) (-1 : Int32) (nI (off + (q.2.2.2.flatMap expM).length)) (nI (k + 1)) τ = some (nI (kindN kd (priceN ((wrN (σ.1 149) (ndN (σ.1 149) p) - wrN (σ.1 149) (hsN (σ.1 149) p)) + feN (σ.1 149)) (findA kd (fxA (σ.1 149) o p) r)) (cnN (σ.1 149) p) (decide (wN (whS (σ.1 149) o) = 0))), σ') ∧ fr (fun c => c = 152) σ σ' := by
      intro τ ht
      have e := g9 τ ht
      obtain ⟨σ', z1, z2⟩ := ih (k + 1) (off + (q.2.2.2.flatMap expM).length) f τ (by rw [e.1]; exact hg) (by rw [e.2]; exact ho) (fun z hz => hok z (List.mem_cons_of_mem _ hz)) (by rw [e.1]; exact a6) (by omega)
      rw [e.1] at z1
      exact ⟨σ', z1, ht.tr z2⟩
    rw [findA]
    by_cases hu : und (nI kd) (nI q.1)
    · have hfc : fctM (fxA (σ.1 149) o p) (nI p) σ := fun τ ht v hv => by
        have e := g9 τ ht
        have := m_fact (σ := τ) hp (by rw [e.1]; exact hg) (by rw [e.2]; exact ho) hv
        rw [e.1] at this
        exact this
      obtain ⟨τ, y1, y2⟩ := m_isSo (off := off) hq.2.2.2 (by omega) a5 hfc
      have e := g9 τ y2
      rw [if_neg (bI_n0.mpr hu), gd_pos i3.1, i3.2, a4, y1, bnd_some]
      by_cases ht : topA (evalA (fxA (σ.1 149) o p) q.2.2.2 []) = true
      · rw [if_neg (bI_n0.mpr ht), gd_pos i3.1, e.1, a4, lx_eq, lx_eq, nI_1, if_pos (show und (nI kd) (nI q.1) ∧ topA (evalA (fxA (σ.1 149) o p) q.2.2.2 []) = true from ⟨hu, ht⟩)]
        refine ⟨τ, ?_, y2⟩
        obtain ⟨f, rfl⟩ : ∃ g, f = g + 1 := ⟨f - 1, by omega⟩
        have i1 : ix (nI (106 + 4 * k) + (1 : Int32)) 340 ∧ nx (nI (106 + 4 * k) + (1 : Int32)) = 106 + 4 * k + 1 := hix 1 (by decide)
        have i2 : ix (nI (106 + 4 * k) + (2 : Int32)) 340 ∧ nx (nI (106 + 4 * k) + (2 : Int32)) = 106 + 4 * k + 2 := hix 2 (by decide)
        have key : f_M_asked_98 (nI p) (nI kd) (nI (106 + 4 * k)) τ = some (nI (kindN kd (priceN ((wrN (σ.1 149) (ndN (σ.1 149) p) - wrN (σ.1 149) (hsN (σ.1 149) p)) + feN (σ.1 149)) (some (q.2.1, q.2.2.1))) (cnN (σ.1 149) p) (decide (wN (whS (σ.1 149) o) = 0))), τ) := by
          unfold f_M_asked_98
          have hp0 : (0 : Int32) ≤ nI (106 + 4 * k) := nI_pos' (by omega)
          rw [if_pos hp0, gd_pos i1.1, i1.2, lx_eq, if_pos hp0, gd_pos i2.1, i2.2, e.1, a2, a3]
          have m := m_asked_132 (σ := τ) (z := some (q.2.1, q.2.2.1)) (x5 := nI q.2.1) (xs := nI q.2.2.1) hp (by rw [e.1]; exact hg) (by rw [e.2]; exact ho) hk (Or.inr ⟨_, _, rfl, hq.2.1, hq.2.2.1, rfl, rfl⟩)
          rw [e.1] at m
          exact m
        rw [f_M_asked_15]
        by_cases hend : τ.1 149 1 ≤ nI (k + 1)
        · rw [if_pos hend]
          exact key
        · rw [if_neg hend, if_pos (nI_pos' (by omega))]
          exact key
      · rw [if_pos (bI_0.mpr ht), gd_pos i3.1, e.1, a4, lx_eq, lx_eq, nI_1, if_neg (fun z => ht z.2)]
        exact nxt τ y2
    · rw [if_pos (bI_0.mpr hu), gd_pos i3.1, i3.2, a4, lx_eq, lx_eq, nI_1, if_neg (fun z => hu z.1)]
      exact nxt σ fr.rf
def RMt (S : Nat → Int32) (R : List RU) : Prop := RLM S R 0 0 ∧ ∀ q ∈ R, okR q
theorem m_asked {p : Nat} {σ : SG} {o : Nat → Bool} {R : List RU} (hp : p < 6) (hg : GD (σ.1 149)) (ho : abs1 (σ.1 148 4) o) (hR : RMt (σ.1 149) R) : ∃ σ', f_M_asked (nI p) σ = some (nI (askA (σ.1 149) R o p), σ') ∧ fr (fun c => c = 152) σ σ' := by
  unfold f_M_asked
  have g0 := (rgP hg hp).1
  rw [m_its0 hp, bnd_some, show σ.1 149 (22 + 5 * p) = nI (kdN (σ.1 149) p) from g0.2]
  have hc := hR.1.count
  exact m_asked_l hp g0.1 R 0 0 FU σ hg ho hR.2 hR.1 (by rw [FU_eq]; omega)
