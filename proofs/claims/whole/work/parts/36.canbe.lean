theorem findA_le {kd : Nat} {fx : Nat → Int32} : ∀ {Q : List RU}, (∀ q ∈ Q, okR q) → ∀ z, findA kd fx Q = some z → z.2 ≤ 99 := by
  intro Q
  induction Q with
  | nil => intro _ z hz; cases hz
  | cons q r ih =>
    intro hq z hz
    rw [findA] at hz
    by_cases hcn : und (nI kd) (nI q.1) ∧ topA (evalA fx q.2.2.2 []) = true
    · rw [if_pos hcn] at hz
      cases hz
      exact (hq q List.mem_cons_self).2.2.1
    · rw [if_neg hcn] at hz
      exact ih (fun z hz => hq z (List.mem_cons_of_mem _ hz)) z hz
theorem priceN_le {v : Nat} {z : Option (Nat × Nat)} (h : ∀ y, z = some y → y.2 ≤ 99) : priceN v z ≤ v + 99 := by
  match z with
  | none => show v ≤ _; omega
  | some (0, a) => have := h _ rfl; show v + a ≤ _; have : a ≤ 99 := this; omega
  | some (1, a) => show v - a ≤ _; omega
  | some (_ + 2, a) => show 0 ≤ _; omega
theorem kindN_le (kd v c : Nat) (b : Bool) : kindN kd v c b ≤ 2 * v := by
  unfold kindN
  by_cases h2 : kd = 2
  · rw [if_pos h2]; omega
  · rw [if_neg h2]
    by_cases h3 : kd = 3
    · rw [if_pos h3]; cases b <;> simp <;> omega
    · rw [if_neg h3]
      by_cases h4 : kd = 4
      · rw [if_pos h4]; omega
      · rw [if_neg h4]
        by_cases h5 : kd = 5
        · rw [if_pos h5]; omega
        · rw [if_neg h5]; omega
theorem askA_le {S : Nat → Int32} {R : List RU} {o : Nat → Bool} {p : Nat} (hp : p < 6) (hg : GD S) (hR : ∀ q ∈ R, okR q) : askA S R o p ≤ 496 := by
  obtain ⟨g0, g1, g2, g3, -⟩ := rgP hg hp
  have hd : ndN S p < 8 := by have := g2.1; show nx _ < 8; omega
  have bd : wrN S (ndN S p) ≤ 99 := (hg.2.2.1 _ hd).1.1
  have bf : feN S ≤ 50 := hg.2.1.1
  unfold askA
  have h1 := kindN_le (kdN S p) (priceN ((wrN S (ndN S p) - wrN S (hsN S p)) + feN S) (findA (kdN S p) (fxA S o p) R)) (cnN S p) (decide (wN (whS S o) = 0))
  have h2 := priceN_le (v := (wrN S (ndN S p) - wrN S (hsN S p)) + feN S) (z := findA (kdN S p) (fxA S o p) R) (fun y hy => findA_le hR y hy)
  omega
theorem askA_lt {S : Nat → Int32} {R : List RU} {o : Nat → Bool} {p : Nat} (hp : p < 6) (hg : GD S) (hR : ∀ q ∈ R, okR q) : askA S R o p < 2147483648 := Nat.lt_of_le_of_lt (askA_le hp hg hR) (by decide)
theorem n_rem {a : Nat} (ha : a < 2147483648) : nI a - nI a / (10 : Int32) * (10 : Int32) = nI (a % 10) := by
  rw [show (10 : Int32) = nI 10 from rfl, n_div ha (by decide), n_mul, n_sub (Nat.div_mul_le_self _ _)]
  congr 1
  omega
theorem n_d10 {a : Nat} (ha : a < 2147483648) : nI a / (10 : Int32) = nI (a / 10) := by rw [show (10 : Int32) = nI 10 from rfl, n_div ha (by decide)]
abbrev fre (S : Nat → Int32) (o : Nat → Bool) (p : Nat) : Prop := p < ppN S ∧ (¬ hsS S p = ndS S p) ∧ o p = false
abbrev mtP (S : Nat → Int32) (p q : Nat) : Prop := (mtN S p).testBit q = true
/-- a CHANGE of p with q (9: the witch) CAN BE -/
abbrev canP (S : Nat → Int32) (R : List RU) (o : Nat → Bool) (p q : Nat) : Prop := fre S o p ∧ ((q = 9 ∧ 0 < jrN S (ndN S p) ∧ jrN S (hsN S p) < 99 ∧ askA S R o p ≤ cnN S p) ∨ (¬ q = 9 ∧ p < q ∧ fre S o q ∧ mtP S p q ∧ (ndS S p = hsS S q ∨ ndS S q = hsS S p)))
/-- that is the number of a CHANGE that CAN BE -/
abbrev CAN (S : Nat → Int32) (R : List RU) (o : Nat → Bool) (c : Int32) : Prop := 0 ≤ c ∧ canP S R o (nx c / 10) (nx c % 10)
theorem m64 : ∀ m, m < 64 → m = wN (fun p => m.testBit p) := by decide +kernel
theorem bit64 {m q : Nat} (hm : m < 64) (hq : q < 6) : (nI m >>> (nI q &&& 31)) &&& 1 = nI (m.testBit q).toNat := by
  have e := m64 m hm
  have h := wN_bit (f := fun p => m.testBit p) hq
  rw [← e] at h
  exact h
theorem bit64_1 {m q : Nat} (hm : m < 64) (hq : q < 6) : ((nI m >>> (nI q &&& 31)) &&& 1 = 1) ↔ m.testBit q = true := by
  rw [bit64 hm hq]
  cases m.testBit q <;> decide
theorem b_isFree {t p : Nat} {σ : SG} {S : Nat → Int32} {o : Nat → Bool} (hp : p < 2147483648) (hT : TWR t σ S o) (hg : GD S) : f_To_isFree t (nI p) σ = some (bI (fre S o p), σ) := by
  obtain ⟨T0, T1, T2, T3, T4, T5⟩ := hT
  have g0 := hg.1
  have h6 : ppN S ≤ 6 := g0.1
  have hn0 : nx (S 0) < 2147483648 := by have := g0.1; omega
  unfold f_To_isFree
  rw [b_isPerson, bnd_some, T0]
  by_cases h : p < ppN S
  · have hp6 : p < 6 := by omega
    have c1 : (0 : Int32) ≤ nI p ∧ nI p < S 0 := ⟨nI_pos' (by omega), by rw [g0.2]; exact (n_lt (by omega) hn0).mpr h⟩
    have e : whS S (fun _ => false) p = decide (hsS S p = ndS S p) := by
      unfold whS bel
      dsimp only
      rw [decide_eq_true h]
      simp
    rw [if_neg (bI_n0.mpr c1), T3, T2, wN_orN, wN_bit hp6, e]
    by_cases hw : hsS S p = ndS S p
    · rw [bI_neg (fun z => z.2.1 hw), decide_eq_true hw]
      exact if_pos (show ¬ nI (true || o p).toNat = 0 by simp; decide)
    · rw [decide_eq_false hw]
      by_cases ho : o p = true
      · rw [bI_neg (fun z => by have z2 := z.2.2; rw [ho] at z2; cases z2), ho]
        rfl
      · have ho : o p = false := by cases h : o p <;> first | rfl | exact absurd h ho
        rw [bI_pos ⟨h, hw, ho⟩, ho]
        rfl
  · have c1 : ¬ ((0 : Int32) ≤ nI p ∧ nI p < S 0) := fun z => by
      rw [g0.2] at z
      exact h ((n_lt (by omega) hn0).mp z.2)
    rw [if_pos (bI_0.mpr c1), bI_neg (fun z => h z.1)]
theorem b_canBe {t : Nat} {c : Int32} {σ : SG} {S : Nat → Int32} {o : Nat → Bool} {R : List RU} (hT : TWR t σ S o) (hg : GD S) (hR : RLt t σ R) : ∃ σ', f_To_canBe t c σ = some (bI (CAN S R o c), σ') ∧ fr (fun q => q = t + 7) σ σ' := by
  unfold f_To_canBe
  by_cases hc : 0 ≤ c
  · obtain ⟨k, hk, rfl⟩ : ∃ k, k < 2147483648 ∧ c = nI k := by
      obtain ⟨j, h1, h2⟩ := nI_of (Int32.not_lt.mpr hc)
      exact ⟨j, h1, h2⟩
    have hk10 : k / 10 < 2147483648 := by omega
    have hkr : k % 10 < 10 := Nat.mod_lt _ (by decide)
    have ec : CAN S R o (nI k) ↔ canP S R o (k / 10) (k % 10) := by
      unfold CAN
      rw [nx_nI hk]
      exact ⟨fun z => z.2, fun z => ⟨hc, z⟩⟩
    rw [bI_iff ec, if_pos hc, lx_eq, lx_eq, n_rem hk, n_d10 hk, b_isFree hk10 hT hg, bnd_some]
    generalize k / 10 = p at *
    generalize k % 10 = q at *
    by_cases hf : fre S o p
    · have h6 : ppN S ≤ 6 := hg.1.1
      have hp : p < 6 := by have := hf.1; omega
      obtain ⟨T0, T1, T2, T3, T4, T5⟩ := id hT
      obtain ⟨k1, k2, k3, k4, k5⟩ := T4 p hp
      obtain ⟨g0, g1, g2, g3, g4⟩ := rgP hg hp
      have i6 : ix (nI p) 6 := ix_nI hp (by decide)
      have np : nx (nI p) = p := nx_nI (by omega)
      rw [if_pos (bI_n0.mpr hf)]
      by_cases h9 : q = 9
      · subst h9
        have hh : hsN S p < 8 := by have := g1.1; show nx _ < 8; omega
        have hd : ndN S p < 8 := by have := g2.1; show nx _ < 8; omega
        have jh := (hg.2.2.1 _ hh).2
        have jd := (hg.2.2.1 _ hd).2
        have bjh : jrN S (hsN S p) ≤ 100 := jh.1
        have bjd : jrN S (ndN S p) ≤ 100 := jd.1
        have bc : cnN S p ≤ 999 := g3.1
        have e1 : σ.1 (t + 9) p = nI (hsN S p) := by rw [k2]; exact g1.2
        have e2 : σ.1 (t + 10) p = nI (ndN S p) := by rw [k3]; exact g2.2
        have e3 : σ.1 (t + 14) (hsN S p) = nI (jrN S (hsN S p)) := by rw [(T5 _ hh).2]; exact jh.2
        have e4 : σ.1 (t + 14) (ndN S p) = nI (jrN S (ndN S p)) := by rw [(T5 _ hd).2]; exact jd.2
        have e5 : σ.1 (t + 11) p = nI (cnN S p) := by rw [k4]; exact g3.2
        rw [if_neg (show ¬ ¬ nI 9 = (9 : Int32) from fun z => z rfl), gd_pos i6, np, e2, gd_pos (ix_nI hd (by decide)), nx_nI (by omega), e4]
        by_cases j1 : 0 < jrN S (ndN S p)
        · rw [if_neg (show ¬ nI (jrN S (ndN S p)) ≤ (0 : Int32) from fun z => by have := (n_le (b := 0) (by omega) (by decide)).mp z; omega), gd_pos i6, e1, gd_pos (ix_nI hh (by decide)), nx_nI (by omega), e3]
          by_cases j2 : jrN S (hsN S p) < 99
          · rw [if_neg (show ¬ (99 : Int32) ≤ nI (jrN S (hsN S p)) from fun z => by have := (n_le (a := 99) (by decide) (by omega)).mp z; omega), gd_pos i6, e5]
            obtain ⟨σ', q1, q2⟩ := b_asks hp hT hg hR
            rw [q1, bnd_some]
            refine ⟨σ', ?_, q2⟩
            have ha : askA S R o p < 2147483648 := askA_lt hp hg hR.2
            by_cases hcn : askA S R o p ≤ cnN S p
            · rw [if_neg (fun z => by have := (n_lt (by omega) ha).mp z; omega), bI_pos ⟨hf, Or.inl ⟨rfl, j1, j2, hcn⟩⟩]
            · rw [if_pos ((n_lt (by omega) ha).mpr (by omega)), bI_neg]
              rintro ⟨-, ⟨-, -, -, z⟩ | ⟨z, -⟩⟩
              · exact hcn z
              · exact z rfl
          · refine ⟨σ, ?_, fr.rf⟩
            rw [if_pos (show (99 : Int32) ≤ nI (jrN S (hsN S p)) from (n_le (a := 99) (by decide) (by omega)).mpr (by omega)), bI_neg]
            rintro ⟨-, ⟨-, -, z, -⟩ | ⟨z, -⟩⟩
            · exact j2 z
            · exact z rfl
        · refine ⟨σ, ?_, fr.rf⟩
          rw [if_pos (show nI (jrN S (ndN S p)) ≤ (0 : Int32) from (n_le (b := 0) (by omega) (by decide)).mpr (by omega)), bI_neg]
          rintro ⟨-, ⟨-, z, -⟩ | ⟨z, -⟩⟩
          · exact j1 z
          · exact z rfl
      · refine ⟨σ, ?_, fr.rf⟩
        have n9 : ¬ nI q = (9 : Int32) := fun z => h9 ((n_inj (b := 9) (by omega) (by decide)).mp z)
        have no : ∀ z : canP S R o p q, p < q ∧ fre S o q ∧ mtP S p q ∧ (ndS S p = hsS S q ∨ ndS S q = hsS S p) := fun z => by
          rcases z.2 with w | w
          · exact absurd w.1 h9
          · exact w.2
        rw [if_pos n9]
        by_cases hpq : p < q
        · rw [if_neg (fun z => by have := (n_le (by omega) (by omega)).mp z; omega), b_isFree (by omega) hT hg, bnd_some]
          by_cases hfq : fre S o q
          · have hq : q < 6 := by have := hfq.1; omega
            obtain ⟨l1, l2, l3, l4, l5⟩ := T4 q hq
            have iq : ix (nI q) 6 := ix_nI hq (by decide)
            have nq : nx (nI q) = q := nx_nI (by omega)
            have em : σ.1 (t + 12) p = nI (mtN S p) := by rw [k5]; exact g4.2
            have bm : mtN S p < 64 := by have := g4.1; show nx _ < 64; omega
            rw [if_neg (bI_n0.mpr hfq), gd_pos i6, np, em]
            by_cases hm : mtP S p q
            · rw [if_neg (fun z => z ((bit64_1 bm hq).mpr hm)), gd_pos i6, gd_pos iq, nq, k3, l2, k2, l3]
              by_cases h1 : ndS S p = hsS S q
              · rw [if_pos h1, bI_pos ⟨hf, Or.inr ⟨h9, hpq, hfq, hm, Or.inl h1⟩⟩]
              · rw [if_neg h1, gd_pos iq, gd_pos i6]
                by_cases h2 : ndS S q = hsS S p
                · rw [if_neg (fun z => z h2), bI_pos ⟨hf, Or.inr ⟨h9, hpq, hfq, hm, Or.inr h2⟩⟩]
                · rw [if_pos h2, bI_neg (fun z => (no z).2.2.2.elim h1 h2)]
            · rw [if_pos (fun z => hm ((bit64_1 bm hq).mp z)), bI_neg (fun z => hm (no z).2.2.1)]
          · rw [if_pos (bI_0.mpr hfq), bI_neg (fun z => hfq (no z).2.1)]
        · rw [if_pos ((n_le (by omega) (by omega)).mpr (by omega)), bI_neg (fun z => hpq (no z).1)]
    · refine ⟨σ, ?_, fr.rf⟩
      rw [if_neg (fun z => z (bI_0.mpr hf)), bI_neg (fun z => hf z.1)]
  · refine ⟨σ, ?_, fr.rf⟩
    rw [if_neg hc, bI_neg (fun z => hc z.1)]

/-! the same of the reference -/
abbrev numP (S : Nat → Int32) (p q : Nat) : Prop := p < ppN S ∧ (q = 9 ∨ (p < q ∧ q < ppN S))
abbrev NUM (S : Nat → Int32) (c : Int32) : Prop := 0 ≤ c ∧ numP S (nx c / 10) (nx c % 10)
theorem n_isP {x : Nat} {S : Nat → Int32} (h : rg (S 0) 6) (hx : x < 2147483648) : ((0 : Int32) ≤ nI x ∧ nI x < S 0) ↔ x < ppN S := by
  have hn0 : nx (S 0) < 2147483648 := by have := h.1; omega
  constructor
  · intro z
    rw [h.2] at z
    exact (n_lt hx hn0).mp z.2
  · intro z
    exact ⟨nI_pos' hx, by rw [h.2]; exact (n_lt hx hn0).mpr z⟩
theorem m_isChange {p q : Nat} {σ : SG} (h : rg (σ.1 149 0) 6) (hp : p < 2147483648) (hq : q < 2147483648) : f_M_isChange (nI p) (nI q) σ = some (bI (numP (σ.1 149) p q), σ) := by
  unfold f_M_isChange
  rw [m_isPerson h, bnd_some, bI_iff (n_isP h hp)]
  by_cases h1 : p < ppN (σ.1 149)
  · rw [if_neg (bI_n0.mpr h1)]
    by_cases h9 : q = 9
    · subst h9
      rw [if_pos (show nI 9 = (9 : Int32) from rfl), bI_pos ⟨h1, Or.inl rfl⟩]
    · rw [if_neg (show ¬ nI q = (9 : Int32) from fun z => h9 ((n_inj (b := 9) hq (by decide)).mp z))]
      by_cases h2 : q ≤ p
      · rw [if_pos ((n_le hq hp).mpr h2), bI_neg]
        rintro ⟨-, z | z⟩
        · exact h9 z
        · omega
      · rw [if_neg (fun z => h2 ((n_le hq hp).mp z)), m_isPerson h, bnd_some, bI_iff (n_isP h hq)]
        by_cases h3 : q < ppN (σ.1 149)
        · rw [if_neg (bI_n0.mpr h3), bI_pos ⟨h1, Or.inr ⟨by omega, h3⟩⟩]
        · rw [if_pos (bI_0.mpr h3), bI_neg]
          rintro ⟨-, z | z⟩
          · exact h9 z
          · exact h3 z.2
  · rw [if_pos (bI_0.mpr h1), bI_neg (fun z => h1 z.1)]
theorem n_of0 {c : Int32} (hc : 0 ≤ c) : ∃ k, k < 2147483648 ∧ c = nI k := by
  obtain ⟨j, h1, h2⟩ := nI_of (Int32.not_lt.mpr hc)
  exact ⟨j, h1, h2⟩
theorem m_isNumber {c : Int32} {σ : SG} (h : rg (σ.1 149 0) 6) : f_M_isNumber c σ = some (bI (NUM (σ.1 149) c), σ) := by
  unfold f_M_isNumber
  by_cases hc : 0 ≤ c
  · obtain ⟨k, hk, rfl⟩ := n_of0 hc
    rw [if_neg (Int32.not_lt.mpr hc), n_rem hk, n_d10 hk, m_isChange h (by omega) (by omega), bnd_some]
    have e : NUM (σ.1 149) (nI k) ↔ numP (σ.1 149) (k / 10) (k % 10) := by
      unfold NUM
      rw [nx_nI hk]
      exact ⟨fun z => z.2, fun z => ⟨hc, z⟩⟩
    rw [bI_iff e]
    by_cases hn : numP (σ.1 149) (k / 10) (k % 10)
    · rw [if_neg (bI_n0.mpr hn), bI_pos hn]
    · rw [if_pos (bI_0.mpr hn), bI_neg hn]
  · rw [if_pos (Int32.not_le.mp hc), bI_neg (fun z => hc z.1)]
theorem m_isThere {p : Nat} {σ : SG} {o : Nat → Bool} (hp : p < 6) (ho : abs1 (σ.1 148 4) o) : f_M_isThere (nI p) σ = some (bI (o p = false ∧ ¬ hsS (σ.1 149) p = ndS (σ.1 149) p), σ) := by
  unfold f_M_isThere
  by_cases h : nI p = σ.1 148 4
  · have := (ho p hp).mpr h.symm
    rw [if_pos h, bI_neg (fun z => by rw [this] at z; cases z.1)]
  · have h2 : o p = false := by
      cases q : o p
      · rfl
      · exact absurd ((ho p hp).mp q).symm h
    rw [if_neg h, m_isWhole hp, bnd_some]
    by_cases hw : hsS (σ.1 149) p = ndS (σ.1 149) p
    · rw [if_pos (bI_n0.mpr hw), bI_neg (fun z => z.2 hw)]
    · rw [if_neg (fun z => z (bI_0.mpr hw)), bI_pos ⟨h2, hw⟩]
theorem m_doMeet {p q : Nat} {σ : SG} (hp : p < 6) (hq : q < 6) (hg : GD (σ.1 149)) : f_M_doMeet (nI p) (nI q) σ = some (bI (mtP (σ.1 149) p q), σ) := by
  unfold f_M_doMeet
  have g4 := (rgP hg hp).2.2.2.2
  have bm : mtN (σ.1 149) p < 64 := by have := g4.1; show nx _ < 64; omega
  rw [m_its4 hp, bnd_some, show σ.1 149 (22 + 5 * p + 4) = nI (mtN (σ.1 149) p) from g4.2]
  by_cases hm : mtP (σ.1 149) p q
  · rw [if_neg (fun z => z ((bit64_1 bm hq).mpr hm)), bI_pos hm]
  · rw [if_pos (fun z => hm ((bit64_1 bm hq).mp z)), bI_neg hm]
theorem m_canBe {k : Nat} {σ : SG} {o : Nat → Bool} {R : List RU} (hk : k < 2147483648) (hg : GD (σ.1 149)) (ho : abs1 (σ.1 148 4) o) (hR : RMt (σ.1 149) R) (hn : numP (σ.1 149) (k / 10) (k % 10)) : ∃ σ', f_M_canBe (nI k) σ = some (bI (canP (σ.1 149) R o (k / 10) (k % 10)), σ') ∧ fr (fun c => c = 152) σ σ' := by
  unfold f_M_canBe
  rw [lx_eq, lx_eq, n_rem hk, n_d10 hk]
  generalize k / 10 = p at *
  have hq10 : k % 10 < 10 := Nat.mod_lt _ (by decide)
  generalize k % 10 = q at *
  have h6 : ppN (σ.1 149) ≤ 6 := hg.1.1
  have hp : p < 6 := by have := hn.1; omega
  rw [m_isThere hp ho, bnd_some]
  by_cases hf : o p = false ∧ ¬ hsS (σ.1 149) p = ndS (σ.1 149) p
  · have hfre : fre (σ.1 149) o p := ⟨hn.1, hf.2, hf.1⟩
    obtain ⟨g0, g1, g2, g3, g4⟩ := rgP hg hp
    rw [if_pos (bI_n0.mpr hf)]
    by_cases h9 : q = 9
    · subst h9
      have hh : hsN (σ.1 149) p < 8 := by have := g1.1; show nx _ < 8; omega
      have hd : ndN (σ.1 149) p < 8 := by have := g2.1; show nx _ < 8; omega
      have jh := (hg.2.2.1 _ hh).2
      have jd := (hg.2.2.1 _ hd).2
      have bjh : jrN (σ.1 149) (hsN (σ.1 149) p) ≤ 100 := jh.1
      have bjd : jrN (σ.1 149) (ndN (σ.1 149) p) ≤ 100 := jd.1
      have bc : cnN (σ.1 149) p ≤ 999 := g3.1
      rw [if_neg (show ¬ ¬ nI 9 = (9 : Int32) from fun z => z rfl), m_its2 hp, bnd_some, show σ.1 149 (22 + 5 * p + 2) = nI (ndN (σ.1 149) p) from g2.2, show (14 : Int32) = nI 14 from rfl, n_add, gd_pos (ix_nI (by omega) (by decide)), nx_nI (by omega), show σ.1 149 (14 + ndN (σ.1 149) p) = nI (jrN (σ.1 149) (ndN (σ.1 149) p)) from jd.2]
      by_cases j1 : 0 < jrN (σ.1 149) (ndN (σ.1 149) p)
      · rw [if_neg (show ¬ nI (jrN (σ.1 149) (ndN (σ.1 149) p)) ≤ (0 : Int32) from fun z => by have := (n_le (b := 0) (by omega) (by decide)).mp z; omega), m_its1 hp, bnd_some, show σ.1 149 (22 + 5 * p + 1) = nI (hsN (σ.1 149) p) from g1.2, n_add, gd_pos (ix_nI (by omega) (by decide)), nx_nI (by omega), show σ.1 149 (14 + hsN (σ.1 149) p) = nI (jrN (σ.1 149) (hsN (σ.1 149) p)) from jh.2]
        by_cases j2 : jrN (σ.1 149) (hsN (σ.1 149) p) < 99
        · rw [if_neg (show ¬ (99 : Int32) ≤ nI (jrN (σ.1 149) (hsN (σ.1 149) p)) from fun z => by have := (n_le (a := 99) (by decide) (by omega)).mp z; omega), m_its3 hp, bnd_some, show σ.1 149 (22 + 5 * p + 3) = nI (cnN (σ.1 149) p) from g3.2]
          obtain ⟨σ', q1, q2⟩ := m_asked hp hg ho hR
          rw [q1, bnd_some]
          refine ⟨σ', ?_, q2⟩
          have ha : askA (σ.1 149) R o p < 2147483648 := askA_lt hp hg hR.2
          by_cases hcn : askA (σ.1 149) R o p ≤ cnN (σ.1 149) p
          · rw [if_neg (fun z => by have := (n_lt (by omega) ha).mp z; omega), bI_pos ⟨hfre, Or.inl ⟨rfl, j1, j2, hcn⟩⟩]
          · rw [if_pos ((n_lt (by omega) ha).mpr (by omega)), bI_neg]
            rintro ⟨-, ⟨-, -, -, z⟩ | ⟨z, -⟩⟩
            · exact hcn z
            · exact z rfl
        · refine ⟨σ, ?_, fr.rf⟩
          rw [if_pos (show (99 : Int32) ≤ nI (jrN (σ.1 149) (hsN (σ.1 149) p)) from (n_le (a := 99) (by decide) (by omega)).mpr (by omega)), bI_neg]
          rintro ⟨-, ⟨-, -, z, -⟩ | ⟨z, -⟩⟩
          · exact j2 z
          · exact z rfl
      · refine ⟨σ, ?_, fr.rf⟩
        rw [if_pos (show nI (jrN (σ.1 149) (ndN (σ.1 149) p)) ≤ (0 : Int32) from (n_le (b := 0) (by omega) (by decide)).mpr (by omega)), bI_neg]
        rintro ⟨-, ⟨-, z, -⟩ | ⟨z, -⟩⟩
        · exact j1 z
        · exact z rfl
    · refine ⟨σ, ?_, fr.rf⟩
      obtain ⟨hpq, hqn⟩ : p < q ∧ q < ppN (σ.1 149) := by
        rcases hn.2 with z | z
        · exact absurd z h9
        · exact z
      have hq : q < 6 := by omega
      have n9 : ¬ nI q = (9 : Int32) := fun z => h9 ((n_inj (b := 9) (by omega) (by decide)).mp z)
      have no : ∀ z : canP (σ.1 149) R o p q, fre (σ.1 149) o q ∧ mtP (σ.1 149) p q ∧ (ndS (σ.1 149) p = hsS (σ.1 149) q ∨ ndS (σ.1 149) q = hsS (σ.1 149) p) := fun z => by
        rcases z.2 with w | w
        · exact absurd w.1 h9
        · exact w.2.2
      rw [if_pos n9, m_isThere hq ho, bnd_some]
      by_cases hfq : o q = false ∧ ¬ hsS (σ.1 149) q = ndS (σ.1 149) q
      · rw [if_neg (bI_n0.mpr hfq), m_doMeet hp hq hg, bnd_some]
        by_cases hm : mtP (σ.1 149) p q
        · rw [if_neg (bI_n0.mpr hm), m_its1 hp, bnd_some, m_its2 hq, bnd_some]
          by_cases h1 : σ.1 149 (22 + 5 * p + 1) = σ.1 149 (22 + 5 * q + 2)
          · rw [if_pos h1, bI_pos ⟨hfre, Or.inr ⟨h9, hpq, ⟨hqn, hfq.2, hfq.1⟩, hm, Or.inr h1.symm⟩⟩]
          · rw [if_neg h1, m_its1 hq, bnd_some, m_its2 hp, bnd_some]
            by_cases h2 : σ.1 149 (22 + 5 * q + 1) = σ.1 149 (22 + 5 * p + 2)
            · rw [if_neg (fun z => z h2), bI_pos ⟨hfre, Or.inr ⟨h9, hpq, ⟨hqn, hfq.2, hfq.1⟩, hm, Or.inl h2.symm⟩⟩]
            · rw [if_pos h2, bI_neg (fun z => (no z).2.2.elim (fun y => h2 y.symm) (fun y => h1 y.symm))]
        · rw [if_pos (bI_0.mpr hm), bI_neg (fun z => hm (no z).2.1)]
      · rw [if_pos (bI_0.mpr hfq), bI_neg (fun z => hfq ⟨(no z).1.2.2, (no z).1.2.1⟩)]
  · refine ⟨σ, ?_, fr.rf⟩
    rw [if_neg (fun z => z (bI_0.mpr hf)), bI_neg (fun z => hf ⟨z.1.2.2, z.1.2.1⟩)]
