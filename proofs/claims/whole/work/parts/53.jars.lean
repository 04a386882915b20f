/-! WHICH JAR, both sides -/
theorem cN_bel {n : Nat} (hn : n ≤ 6) (f : Nat → Bool) : cN (bel n f) ≤ n := by
  have h1 : ∀ a b : Bool, (a && b).toNat ≤ a.toNat := by decide
  have h2 : ∀ n, n ≤ 6 → (decide (0 < n)).toNat + (decide (1 < n)).toNat + (decide (2 < n)).toNat + (decide (3 < n)).toNat + (decide (4 < n)).toNat + (decide (5 < n)).toNat = n := by decide
  have h3 := h2 n hn
  have a0 := h1 (decide (0 < n)) (f 0)
  have a1 := h1 (decide (1 < n)) (f 1)
  have a2 := h1 (decide (2 < n)) (f 2)
  have a3 := h1 (decide (3 < n)) (f 3)
  have a4 := h1 (decide (4 < n)) (f 4)
  have a5 := h1 (decide (5 < n)) (f 5)
  show (decide (0 < n) && f 0).toNat + (decide (1 < n) && f 1).toNat + (decide (2 < n) && f 2).toNat + (decide (3 < n) && f 3).toNat + (decide (4 < n) && f 4).toNat + (decide (5 < n) && f 5).toNat ≤ n
  omega
theorem mostA_pp {R : List RU} {o : Nat → Bool} : ∀ (n : Nat) (S : Nat → Int32), GD S → mostA R o n S ≤ ppN S := by
  intro n
  induction n with
  | zero => intro S g; exact cN_bel g.1.1 _
  | succ n ih =>
    intro S g
    rw [mostA]
    refine fmax_le _ _ _ (cN_bel g.1.1 _) fun c hc => ?_
    have hcan := (canL_mem hc).2
    have h1 := ih (doC S R o c) (g.do hcan)
    have e : ppN (doC S R o c) = ppN S := congrArg nx (doA_off g hcan (Or.inl (by decide)))
    rw [e] at h1
    exact h1
/-- one more in jar j -/
abbrev upJ (S : Nat → Int32) (j : Nat) : Nat → Int32 := us S (14 + j) (S (14 + j) + 1)
def J99 (S : Nat → Int32) : Prop := ∀ j, j < 8 → jrN S j ≤ 99
theorem GD.upJ {S : Nat → Int32} {j : Nat} (g : GD S) (hJ : J99 S) (hj : j < 8) : GD (upJ S j) := by
  refine g.jr hj ?_
  have r := (g.2.2.1 j hj).2
  have h := hJ j hj
  rw [r.2, nI_1]
  exact rg_nI (by have : nx (S (14 + j)) ≤ 99 := h; omega) (by decide)
theorem RMt.upJ {S : Nat → Int32} {R : List RU} {j : Nat} (h : RMt S R) (hj : j < 8) : RMt (upJ S j) R := ⟨h.1.cong (us_ne (by omega)) (fun i hi => us_ne (by omega)), h.2⟩
theorem us_back {S : Nat → Int32} {i : Nat} : us (us S i (S i + 1)) i (us S i (S i + 1) i - 1) = S := by
  rw [us_us, us_same]
  have e : S i + 1 - 1 = S i := by simp
  rw [e, us_self]
def jrSt (R : List RU) (S : Nat → Int32) (b : Nat × Int32) (j : Nat) : Nat × Int32 := if mostA R nob 6 (upJ S j) ≤ b.1 then b else (mostA R nob 6 (upJ S j), nI j)
def jrF (R : List RU) (S : Nat → Int32) : Nat → Nat → Nat × Int32 → Int32
  | 0, _, b => b.2
  | d + 1, j, b => jrF R S d (j + 1) (jrSt R S b j)
def jarA (S : Nat → Int32) (R : List RU) : Int32 := jrF R S 8 0 (mostA R nob 6 S, -3)
theorem jrF_end {R : List RU} {S : Nat → Int32} (g : GD S) (hJ : J99 S) : ∀ (d j : Nat) (b : Nat × Int32), j + d = 8 → ppN S ≤ b.1 → jrF R S d j b = b.2 := by
  intro d
  induction d with
  | zero => intro j b _ _; rfl
  | succ d ih =>
    intro j b hj hb
    rw [jrF]
    have h1 := mostA_pp (R := R) (o := nob) 6 (upJ S j) (g.upJ hJ (by omega))
    have e : ppN (upJ S j) = ppN S := congrArg nx (us_ne (by omega))
    rw [e] at h1
    have e2 : jrSt R S b j = b := if_pos (by omega)
    rw [e2]
    exact ih (j + 1) b (by omega) hb
theorem mj_l {R : List RU} {S : Nat → Int32} (g : GD S) (hJ : J99 S) (hR : RMt S R) : ∀ (d j f b : Nat) (v : Int32) (σ : SG), j + d = 8 → d < f → b ≤ 6 → σ.1 149 = S → σ.1 148 4 = -1 → ∃ σ', f_M_jars_16 f (nI b) v (nI j) σ = some (jrF R S d j (b, v), σ') ∧ fr Lgo σ σ' ∧ σ'.1 149 = S ∧ ∀ i, ¬ (11 ≤ i ∧ i ≤ 15) → i ≠ 6 → i ≠ 7 → σ'.1 148 i = σ.1 148 i := by
  intro d
  induction d with
  | zero =>
    intro j f b v σ hk hf hb hs h4
    obtain ⟨f, rfl⟩ : ∃ g, f = g + 1 := ⟨f - 1, by omega⟩
    have ej : j = 8 := hk
    subst ej
    rw [f_M_jars_16, if_pos (by decide)]
    exact ⟨σ, rfl, fr.rf, hs, fun _ _ _ _ => rfl⟩
  | succ d ih =>
    intro j f b v σ hk hf hb hs h4
    obtain ⟨f, rfl⟩ : ∃ g, f = g + 1 := ⟨f - 1, by omega⟩
    have hj : j < 8 := by omega
    have e14 : (14 : Int32) + nI j = nI (14 + j) := n_add 14 j
    have i14 : ix (nI (14 + j)) 340 := ix_nI (by omega) (by decide)
    rw [f_M_jars_16, if_neg (show ¬ (8 : Int32) ≤ nI j from nI_ge hj (by decide)), e14, gd_pos i14, gd_pos i14, sx_eq, nx_nI (by omega), hs]
    have f1 : fr (fun c => c = 149) σ (uI σ 149 (14 + j) (S (14 + j) + 1)) := fr.uI rfl
    obtain ⟨σ2, q1, q2, q3, q4, q5⟩ := m_goesAll (S := upJ S j) (R := R) (o := nob) (N := 6) (σ := uI σ 149 (14 + j) (S (14 + j) + 1)) (by decide) (by rw [uI149, hs]) (g.upJ hJ hj) (hR.upJ hj) (abs_nob (by rw [uI_c (by decide)]; exact h4))
    have q1 : f_M_goesAll (6 : Int32) (uI σ 149 (14 + j) (S (14 + j) + 1)) = _ := q1
    rw [q1, bnd_some, gd_pos i14, gd_pos i14, sx_eq, q3]
    generalize hσ3 : uI σ2 149 (14 + j) (upJ S j (14 + j) - 1) = σ3
    have s3 : σ3.1 149 = S := by rw [← hσ3, uI149, q3]; exact us_back
    have f3 : fr (fun c => c = 149) σ2 σ3 := by rw [← hσ3]; exact fr.uI rfl
    have ff : fr Lgo σ σ3 := ((f1.mono (fun z hz => by rw [hz]; decide)).tr q2).tr (f3.mono (fun z hz => by rw [hz]; decide))
    have w3 : ∀ i, ¬ (11 ≤ i ∧ i ≤ 15) → i ≠ 6 → i ≠ 7 → σ3.1 148 i = σ.1 148 i := fun i i1 i2 i3 => by rw [f3.at (by decide), q5 i i1 i2 i3, uI_c (by decide)]
    have e12 : σ3.1 148 12 = nI (mostA R nob 6 (upJ S j)) := by rw [f3.at (by decide)]; exact q4.2.1
    have hm := mostA_le (R := R) (o := nob) 6 (upJ S j)
    rw [jrF]
    unfold f_M_jars_67
    rw [e12]
    by_cases hle : mostA R nob 6 (upJ S j) ≤ b
    · have e2 : jrSt R S (b, v) j = (b, v) := if_pos hle
      have hle' := (n_le (a := mostA R nob 6 (upJ S j)) (b := b) (by omega) (by omega)).mpr hle
      rw [if_pos hle', if_pos hle', lx_eq, nI_1, e2]
      obtain ⟨σ', t1, t2, t3, t4⟩ := ih (j + 1) f b v σ3 (by omega) (by omega) hb s3 (by rw [w3 4 (by decide) (by decide) (by decide)]; exact h4)
      exact ⟨σ', t1, ff.tr t2, t3, fun i i1 i2 i3 => by rw [t4 i i1 i2 i3, w3 i i1 i2 i3]⟩
    · have e2 : jrSt R S (b, v) j = (mostA R nob 6 (upJ S j), nI j) := if_neg hle
      have hle' : ¬ nI (mostA R nob 6 (upJ S j)) ≤ nI b := fun z => hle ((n_le (by omega) (by omega)).mp z)
      rw [if_neg hle', if_neg hle', lx_eq, lx_eq, nI_1, e2]
      obtain ⟨σ', t1, t2, t3, t4⟩ := ih (j + 1) f (mostA R nob 6 (upJ S j)) (nI j) σ3 (by omega) (by omega) hm s3 (by rw [w3 4 (by decide) (by decide) (by decide)]; exact h4)
      exact ⟨σ', t1, ff.tr t2, t3, fun i i1 i2 i3 => by rw [t4 i i1 i2 i3, w3 i i1 i2 i3]⟩
theorem mq_jars {σ : SG} {R : List RU} {ρ : Nat} (h : PS σ R ρ) (hJ : J99 (σ.1 149)) : ∃ σ', f_M_jars σ = some (jarA (σ.1 149) R, σ') ∧ MO σ σ' R ρ := by
  unfold f_M_jars jarA
  obtain ⟨σ1, q1, ⟨q2, q3, q4, q5⟩, q6⟩ := mq_go h (n := 6) (by decide)
  have q1 : f_M_goesAll (6 : Int32) σ = _ := q1
  rw [q1, bnd_some, lx_eq, q6.2.1]
  obtain ⟨σ', t1, t2, t3, t4⟩ := mj_l h.1 hJ h.2.2.2.1 8 0 FU (mostA R nob 6 (σ.1 149)) (-3) σ1 rfl (by rw [FU_eq]; omega) (mostA_le _ _) q4 q3.2.2.2.2.1
  have t1 : f_M_jars_16 FU (nI (mostA R nob 6 (σ.1 149))) (-3 : Int32) (0 : Int32) σ1 = _ := t1
  rw [t1]
  have w : ∀ i, ¬ (11 ≤ i ∧ i ≤ 15) → i ≠ 6 → i ≠ 7 → σ'.1 148 i = σ.1 148 i := fun i i1 i2 i3 => by rw [t4 i i1 i2 i3, q5 i i1 i2 i3]
  exact ⟨σ', rfl, q2.tr t2, h.m (q2.tr t2) t3 (w 4 (by decide) (by decide) (by decide)), t3, w⟩
theorem whS_jar {S : Nat → Int32} {j : Nat} {v : Int32} (hj : j < 8) (o : Nat → Bool) : whS (us S (14 + j) v) o = whS S o := by
  funext p
  show (decide (p < nx (us S (14 + j) v 0)) && (decide (us S (14 + j) v (22 + 5 * p + 1) = us S (14 + j) v (22 + 5 * p + 2)) && !o p)) = (decide (p < nx (S 0)) && (decide (S (22 + 5 * p + 1) = S (22 + 5 * p + 2)) && !o p))
  rw [us_ne (by omega), us_ne (by omega), us_ne (by omega)]
theorem cj_l {a : Nat} {R : List RU} {S : Nat → Int32} (g : GD S) (hJ : J99 S) : ∀ (d j f b ρ : Nat) (v : Int32) (σ : SG), j + d = 8 → d < f → b ≤ 6 → TWR 90 σ S nob → RLt 90 σ R → SV ρ σ → ρ + d < 1099511627776 → ∃ σ' ρ', f_Se_whichJar_26 a f (nI b) v (nI j) σ = some (jrF R S d j (b, v), σ') ∧ frT σ σ' ∧ SV ρ' σ' ∧ ρ ≤ ρ' ∧ ρ' ≤ ρ + d := by
  have h6 : ppN S ≤ 6 := g.1.1
  have e0 : S 0 = nI (ppN S) := g.1.2
  intro d
  induction d with
  | zero =>
    intro j f b ρ v σ hk hf hb hT hR hv hr
    obtain ⟨f, rfl⟩ : ∃ g, f = g + 1 := ⟨f - 1, by omega⟩
    have ej : j = 8 := hk
    subst ej
    rw [f_Se_whichJar_26, if_pos (by decide)]
    exact ⟨σ, ρ, rfl, frT.rf, hv, Nat.le_refl _, Nat.le_refl _⟩
  | succ d ih =>
    intro j f b ρ v σ hk hf hb hT hR hv hr
    obtain ⟨f, rfl⟩ : ∃ g, f = g + 1 := ⟨f - 1, by omega⟩
    have hj : j < 8 := by omega
    have ij : ix (nI j) 8 := ix_nI hj (by decide)
    rw [f_Se_whichJar_26, if_neg (show ¬ (8 : Int32) ≤ nI j from nI_ge hj (by decide)), hT.1, e0]
    by_cases hpp : ppN S ≤ b
    · rw [if_pos ((n_le (by omega) (by omega)).mpr hpp), jrF_end g hJ (d + 1) j (b, v) hk hpp]
      exact ⟨σ, ρ, rfl, frT.rf, hv, Nat.le_refl _, by omega⟩
    · have e104 : σ.1 104 j = S (14 + j) := (hT.2.2.2.2.2 j hj).2
      rw [if_neg (fun z => hpp ((n_le (by omega) (by omega)).mp z)), gd_pos ij, gd_pos ij, sx_eq, nx_nI (by omega), e104]
      have f1 : fr (fun c => 90 ≤ c ∧ c ≤ 104) σ (uI σ 104 j (S (14 + j) + 1)) := fr.uI (by decide)
      have T1 : TWR 90 (uI σ 104 j (S (14 + j) + 1)) (upJ S j) nob := TV.tw (TV.jr hT.tv hj) (by rw [uI_c (by decide)]; exact hT.2.2.1) (by rw [uI_c (by decide), whS_jar hj]; exact hT.2.2.2.1)
      obtain ⟨σ2, q1, q2, q3⟩ := b_ask (σ := uI σ 104 j (S (14 + j) + 1)) (md := 2) (ρ := ρ) (o := nob) hv (by omega) T1 (g.upJ hJ hj) (hR.cong (fun c c1 c2 => uIc (by omega))) (oin_nob _)
      rw [q1, bnd_some]
      obtain ⟨σ3, r1, r2, r3⟩ := b_solve 6 DP (upJ S j) σ2 (by decide) (by decide) q3
      have r1 : f_Se_solve DP (6 : Int32) σ2 = _ := r1
      have e3 : σ3.1 104 j = upJ S j (14 + j) := (r3.1.2.2.2.2.2 j hj).2
      rw [r1, bnd_some, gd_pos ij, gd_pos ij, sx_eq, e3, va_most (o := nob) rfl 6 _ (g.upJ hJ hj)]
      generalize hσ5 : uI σ3 104 j (upJ S j (14 + j) - 1) = σ5
      have f5 : fr (fun c => 90 ≤ c ∧ c ≤ 104) σ3 σ5 := by rw [← hσ5]; exact fr.uI (by decide)
      have T5 : TWR 90 σ5 S nob := by
        have z := TV.tw (S := us (upJ S j) (14 + j) (upJ S j (14 + j) - 1)) (o := nob) (σ := σ5) (t := 90) (by rw [← hσ5]; exact TV.jr r3.1.tv hj) (by rw [← hσ5, uI_c (by decide)]; exact r3.1.2.2.1) (by rw [← hσ5, uI_c (by decide), whS_jar hj]; exact r3.1.2.2.2.1)
        rw [us_back] at z
        exact z
      have v5 : SV (ρ + 1) σ5 := by
        unfold SV
        rw [f5.2]
        exact r3.sv
      have R5 : RLt 90 σ5 R := r3.2.2.1.cong (fun c c1 c2 => by rw [← hσ5]; exact uIc (by omega))
      have ff : frT σ σ5 := (((frT.of f1).tr q2).tr (frT.so r2)).tr (frT.of f5)
      have hm := mostA_le (R := R) (o := nob) 6 (upJ S j)
      rw [jrF]
      by_cases hle : mostA R nob 6 (upJ S j) ≤ b
      · have e2 : jrSt R S (b, v) j = (b, v) := if_pos hle
        rw [if_pos ((n_le (a := mostA R nob 6 (upJ S j)) (b := b) (by omega) (by omega)).mpr hle), lx_eq, nI_1, e2]
        obtain ⟨σ', ρ', t1, t2, t3, t4, t5⟩ := ih (j + 1) f b (ρ + 1) v σ5 (by omega) (by omega) hb T5 R5 v5 (by omega)
        exact ⟨σ', ρ', t1, ff.tr t2, t3, by omega, by omega⟩
      · have e2 : jrSt R S (b, v) j = (mostA R nob 6 (upJ S j), nI j) := if_neg hle
        rw [if_neg (fun z => hle ((n_le (by omega) (by omega)).mp z)), lx_eq, nI_1, e2]
        obtain ⟨σ', ρ', t1, t2, t3, t4, t5⟩ := ih (j + 1) f (mostA R nob 6 (upJ S j)) (ρ + 1) (nI j) σ5 (by omega) (by omega) hm T5 R5 v5 (by omega)
        exact ⟨σ', ρ', t1, ff.tr t2, t3, by omega, by omega⟩
theorem cq_jars {σ : SG} {R : List RU} {ρ : Nat} (h : PS σ R ρ) (hJ : J99 (σ.1 149)) (hr : ρ + 100 < 1099511627776) : ∃ σ', f_H_jars σ = some (jarA (σ.1 149) R, σ') ∧ CM σ σ' R ρ := by
  unfold f_H_jars f_Se_whichJar jarA
  obtain ⟨σ1, q1, q2, q3, q4⟩ := b_copyPlay (t := 90) (by decide) h.2.1 h.2.2.1
  rw [q1, bnd_some]
  have v1 : SV ρ σ1 := by unfold SV; rw [q2.2]; exact h.2.2.2.2.2
  obtain ⟨σ2, r1, r2, r3⟩ := b_ask (md := 2) v1 (by omega) q3 h.1 q4 (oin_nob _)
  rw [r1, bnd_some]
  obtain ⟨σ3, s1, s2, s3⟩ := b_solve 6 DP (σ.1 149) σ2 (by decide) (by decide) r3
  have s1 : f_Se_solve DP (6 : Int32) σ2 = _ := s1
  rw [s1, bnd_some, va_most (o := nob) rfl 6 _ h.1]
  have f3 : frT σ σ3 := ((frT.of q2).tr r2).tr (frT.so s2)
  obtain ⟨σ4, ρ', t1, t2, t3, t4, t5⟩ := cj_l (a := 20) h.1 hJ 8 0 FU (mostA R nob 6 (σ.1 149)) (ρ + 1) (-3) σ3 rfl (by rw [FU_eq]; omega) (mostA_le _ _) s3.1 s3.2.2.1 s3.sv (by omega)
  have t1 : f_Se_whichJar_26 20 FU (nI (mostA R nob 6 (σ.1 149))) (-3 : Int32) (0 : Int32) σ3 = _ := t1
  rw [t1, bnd_some]
  exact ⟨σ4, rfl, frC.of (f3.tr t2), ρ', by omega, by omega, h.c (frC.of (f3.tr t2)) t3⟩
