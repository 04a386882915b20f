theorem b_mark2 {t p : Nat} {σ : SG} {S S' : Nat → Int32} (hp : p < 6) (hpn : p < ppN S) (k2 : σ.1 (t + 9) p = hsS S' p) (k3 : σ.1 (t + 10) p = ndS S' p) (h8 : σ.1 t 8 = nI (wN (whS S fun _ => false))) (h0 : S' 0 = S 0) (hq : ∀ q, q ≠ p → hsS S' q = hsS S q ∧ ndS S' q = ndS S q) : ∃ v, f_To_mark t (nI p) σ = some ((), uI σ t 8 v) ∧ v = nI (wN (whS S' fun _ => false)) := by
  have i6 : ix (nI p) 6 := ix_nI hp (by decide)
  have np : nx (nI p) = p := nx_nI (by omega)
  unfold f_To_mark
  rw [gd_pos i6, gd_pos i6, np, k2, k3, h8, whS_set h0 hq, decide_eq_true hpn, Bool.true_and]
  by_cases hw : hsS S' p = ndS S' p
  · rw [if_neg (fun z => z hw), sx_eq, wN_or hp, decide_eq_true hw]
    exact ⟨_, rfl, rfl⟩
  · rw [if_pos hw, sx_eq, wN_and hp, decide_eq_false hw]
    exact ⟨_, rfl, rfl⟩
/-- two give each other what they HAVE -/
def swA (S : Nat → Int32) (p q : Nat) : Nat → Int32 := us (us S (22 + 5 * p + 1) (S (22 + 5 * q + 1))) (22 + 5 * q + 1) (S (22 + 5 * p + 1))
/-- the witch changes what p HAS into what it NEEDS, for so much -/
def jrA (S : Nat → Int32) (h d : Nat) : Nat → Int32 := us (us S (14 + h) (S (14 + h) + 1)) (14 + d) (us S (14 + h) (S (14 + h) + 1) (14 + d) - 1)
def wiA (S : Nat → Int32) (p : Nat) (c : Int32) : Nat → Int32 := us (us (jrA S (hsN S p) (ndN S p)) (22 + 5 * p + 1) (S (22 + 5 * p + 2))) (22 + 5 * p + 3) (S (22 + 5 * p + 3) - c)
/-- and back -/
def unA (S : Nat → Int32) (p th : Nat) (c : Int32) : Nat → Int32 := us (us (jrA S (hsN S p) th) (22 + 5 * p + 1) (nI th)) (22 + 5 * p + 3) (S (22 + 5 * p + 3) + c)
def doA (S : Nat → Int32) (R : List RU) (o : Nat → Bool) (p q : Nat) : Nat → Int32 := if q = 9 then wiA S p (nI (askA S R o p)) else swA S p q
def paA (S : Nat → Int32) (R : List RU) (o : Nat → Bool) (p q : Nat) : Nat := if q = 9 then askA S R o p else 0
def baA (S : Nat → Int32) (p q th : Nat) (c : Int32) : Nat → Int32 := if q = 9 then unA S p th c else swA S p q
theorem swA_0 {S : Nat → Int32} {p q : Nat} : swA S p q 0 = S 0 := by
  unfold swA
  rw [us_ne (by omega), us_ne (by omega)]
theorem b_swap {t p q : Nat} {σ : SG} {S : Nat → Int32} {o : Nat → Bool} (hp : p < ppN S) (hq : q < ppN S) (hpq : p ≠ q) (hT : TWR t σ S o) (hg : GD S) : ∃ σ', f_To_swap t (nI p) (nI q) σ = some ((), σ') ∧ fr (fun c => c = t ∨ c = t + 9) σ σ' ∧ TWR t σ' (swA S p q) o ∧ ∀ i, i ≠ 8 → σ'.1 t i = σ.1 t i := by
  have h6 : ppN S ≤ 6 := hg.1.1
  have hp6 : p < 6 := by omega
  have hq6 : q < 6 := by omega
  have ip : ix (nI p) 6 := ix_nI hp6 (by decide)
  have np : nx (nI p) = p := nx_nI (by omega)
  have iq : ix (nI q) 6 := ix_nI hq6 (by decide)
  have nq : nx (nI q) = q := nx_nI (by omega)
  obtain ⟨-, k2, k3, -⟩ := hT.2.2.2.2.1 p hp6
  obtain ⟨-, l2, l3, -⟩ := hT.2.2.2.2.1 q hq6
  have h8 := hT.2.2.2.1
  unfold f_To_swap
  rw [gd_pos ip, np, k2, lx_eq, gd_pos iq, gd_pos ip, nq, l2, sx_eq, gd_pos iq, sx_eq]
  have t1 := (hT.tv.p1 hp6 (v := S (22 + 5 * q + 1))).p1 hq6 (v := S (22 + 5 * p + 1))
  generalize hτ : uI (uI σ (t + 9) p (S (22 + 5 * q + 1))) (t + 9) q (S (22 + 5 * p + 1)) = τ at t1 ⊢
  have f1 : fr (fun c => c = t ∨ c = t + 9) σ τ := by
    rw [← hτ]
    exact fr.tr (fr.uI (Or.inr rfl)) (fr.uI (Or.inr rfl))
  have s1 : ∀ i, τ.1 t i = σ.1 t i := fun i => by rw [← hτ, uI_c (by omega), uI_c (by omega)]
  have m1 : τ.1 (t + 9) p = S (22 + 5 * q + 1) := by rw [← hτ, uI_i hpq, uI_same]
  have m2 : τ.1 (t + 9) q = S (22 + 5 * p + 1) := by rw [← hτ, uI_same]
  have m3 : τ.1 (t + 10) p = S (22 + 5 * p + 2) := by rw [← hτ, uI_c (by omega), uI_c (by omega), k3]
  have m4 : τ.1 (t + 10) q = S (22 + 5 * q + 2) := by rw [← hτ, uI_c (by omega), uI_c (by omega), l3]
  obtain ⟨v, e1, hv⟩ := b_mark2 (σ := τ) (S := S) (S' := us S (22 + 5 * p + 1) (S (22 + 5 * q + 1))) hp6 hp (by rw [m1]; exact us_same.symm) (by rw [m3]; exact (us_ne (by omega)).symm) (by rw [s1]; exact h8) (us_ne (by omega)) (fun z hz => ⟨us_ne (by omega), us_ne (by omega)⟩)
  rw [e1, bnd_some]
  obtain ⟨w, e2, hw⟩ := b_mark2 (t := t) (σ := uI τ t 8 v) (S := us S (22 + 5 * p + 1) (S (22 + 5 * q + 1))) (S' := swA S p q) hq6 (by show q < nx (us _ _ _ 0); rw [us_ne (by omega)]; exact hq) (by rw [uI_c (by omega), m2]; exact us_same.symm) (by rw [uI_c (by omega), m4]; show _ = swA S p q (22 + 5 * q + 2); unfold swA; rw [us_ne (by omega), us_ne (by omega)]) (by rw [uI_same]; exact hv) (by unfold swA; exact us_ne (by omega)) (fun z hz => by unfold swA; exact ⟨us_ne (by omega), us_ne (by omega)⟩)
  rw [e2, bnd_some]
  refine ⟨_, rfl, (f1.tr (fr.uI (Or.inl rfl))).tr (fr.uI (Or.inl rfl)), ?_, fun i hi => by rw [uI_i hi, uI_i hi, s1]⟩
  refine TV.tw ((t1.own (by decide) (by decide)).own (by decide) (by decide)) ?_ ?_
  · rw [uI_i (by decide), uI_i (by decide), s1]
    exact hT.2.2.1
  · rw [uI_same]
    exact hw
theorem jrA_0 {S : Nat → Int32} {h d i : Nat} (h1 : i ≠ 14 + h) (h2 : i ≠ 14 + d) : jrA S h d i = S i := by
  unfold jrA
  rw [us_ne h2, us_ne h1]
theorem b_step {t k : Nat} {σ : SG} {S : Nat → Int32} {o : Nat → Bool} {R : List RU} (hk : k < 2147483648) (hT : TWR t σ S o) (hg : GD S) (hR : RLt t σ R) (hc : canP S R o (k / 10) (k % 10)) : ∃ σ', f_To_step t (nI k) σ = some (nI (paA S R o (k / 10) (k % 10)), σ') ∧ fr (fun c => c = t ∨ c = t + 7 ∨ c = t + 9 ∨ c = t + 11 ∨ c = t + 14) σ σ' ∧ TWR t σ' (doA S R o (k / 10) (k % 10)) o ∧ ∀ i, i ≠ 8 → σ'.1 t i = σ.1 t i := by
  unfold f_To_step
  rw [lx_eq, lx_eq, n_rem hk, n_d10 hk]
  generalize k / 10 = p at *
  have hq10 : k % 10 < 10 := Nat.mod_lt _ (by decide)
  generalize k % 10 = q at *
  have h6 : ppN S ≤ 6 := hg.1.1
  have hpn : p < ppN S := hc.1.1
  have hp : p < 6 := by omega
  have ip : ix (nI p) 6 := ix_nI hp (by decide)
  have np : nx (nI p) = p := nx_nI (by omega)
  by_cases h9 : q = 9
  · subst h9
    obtain ⟨g0, g1, g2, g3, g4⟩ := rgP hg hp
    have hh : hsN S p < 8 := by have := g1.1; show nx _ < 8; omega
    have hd : ndN S p < 8 := by have := g2.1; show nx _ < 8; omega
    obtain ⟨τ, q1, q2⟩ := b_asks hp hT hg hR
    have tk : TWR t τ S o := by
      refine TV.tw (hT.tv.fr q2 (by omega) (fun i h1 h2 => by omega)) ?_ ?_
      · rw [q2.at (by omega)]; exact hT.2.2.1
      · rw [q2.at (by omega)]; exact hT.2.2.2.1
    obtain ⟨k1, k2, k3, k4, k5⟩ := tk.2.2.2.2.1 p hp
    rw [if_pos (show nI 9 = (9 : Int32) from rfl), q1, bnd_some, gd_pos ip, gd_pos ip, np, k4, sx_eq]
    have t1 := tk.tv.p3 hp (v := S (22 + 5 * p + 3) - nI (askA S R o p))
    generalize hτ1 : uI τ (t + 11) p (S (22 + 5 * p + 3) - nI (askA S R o p)) = τ1 at t1 ⊢
    have f1 : fr (fun c => c = t ∨ c = t + 7 ∨ c = t + 9 ∨ c = t + 11 ∨ c = t + 14) σ τ1 := (q2.mono (fun c hc => Or.inr (Or.inl hc))).tr (by rw [← hτ1]; exact fr.uI (by omega))
    have s1 : ∀ i, τ1.1 t i = σ.1 t i := fun i => by rw [← hτ1, uI_c (by omega), q2.at (by omega)]
    have x1 : τ1.1 (t + 9) p = nI (hsN S p) := by rw [← hτ1, uI_c (by omega), k2]; exact g1.2
    have y1 : τ1.1 (t + 14) (hsN S p) = S (14 + hsN S p) := by rw [← hτ1, uI_c (by omega)]; exact (tk.2.2.2.2.2 _ hh).2
    rw [gd_pos ip, x1, gd_pos (ix_nI hh (by decide)), gd_pos (ix_nI hh (by decide)), nx_nI (by omega), y1, sx_eq]
    have t2 := t1.jr hh (v := S (14 + hsN S p) + 1)
    generalize hτ2 : uI τ1 (t + 14) (hsN S p) (S (14 + hsN S p) + 1) = τ2 at t2 ⊢
    have f2 := f1.tr (show fr (fun c => c = t ∨ c = t + 7 ∨ c = t + 9 ∨ c = t + 11 ∨ c = t + 14) τ1 τ2 by rw [← hτ2]; exact fr.uI (by omega))
    have s2 : ∀ i, τ2.1 t i = σ.1 t i := fun i => by rw [← hτ2, uI_c (by omega), s1]
    have x2 : τ2.1 (t + 10) p = nI (ndN S p) := by rw [← hτ2, uI_c (by omega), ← hτ1, uI_c (by omega), k3]; exact g2.2
    have y2 : τ2.1 (t + 14) (ndN S p) = us S (14 + hsN S p) (S (14 + hsN S p) + 1) (14 + ndN S p) := by
      rw [(t2.2.2.2 _ hd).2]
      by_cases e : ndN S p = hsN S p
      · rw [e, us_same, us_same]
      · rw [us_ne (by omega), us_ne (by omega), us_ne (by omega)]
    rw [gd_pos ip, x2, gd_pos (ix_nI hd (by decide)), gd_pos (ix_nI hd (by decide)), nx_nI (by omega), y2, sx_eq]
    have t3 := t2.jr hd (v := us S (14 + hsN S p) (S (14 + hsN S p) + 1) (14 + ndN S p) - 1)
    generalize hτ3 : uI τ2 (t + 14) (ndN S p) (us S (14 + hsN S p) (S (14 + hsN S p) + 1) (14 + ndN S p) - 1) = τ3 at t3 ⊢
    have f3 := f2.tr (show fr (fun c => c = t ∨ c = t + 7 ∨ c = t + 9 ∨ c = t + 11 ∨ c = t + 14) τ2 τ3 by rw [← hτ3]; exact fr.uI (by omega))
    have s3 : ∀ i, τ3.1 t i = σ.1 t i := fun i => by rw [← hτ3, uI_c (by omega), s2]
    have x3 : τ3.1 (t + 10) p = S (22 + 5 * p + 2) := by rw [← hτ3, uI_c (by omega), x2]; exact g2.2.symm
    rw [gd_pos ip, gd_pos ip, x3, sx_eq]
    have t4 := t3.p1 hp (v := S (22 + 5 * p + 2))
    generalize hτ4 : uI τ3 (t + 9) p (S (22 + 5 * p + 2)) = τ4 at t4 ⊢
    have f4 := f3.tr (show fr (fun c => c = t ∨ c = t + 7 ∨ c = t + 9 ∨ c = t + 11 ∨ c = t + 14) τ3 τ4 by rw [← hτ4]; exact fr.uI (by omega))
    have s4 : ∀ i, τ4.1 t i = σ.1 t i := fun i => by rw [← hτ4, uI_c (by omega), s3]
    have es : us (us (us (us S (22 + 5 * p + 3) (S (22 + 5 * p + 3) - nI (askA S R o p))) (14 + hsN S p) (S (14 + hsN S p) + 1)) (14 + ndN S p) (us S (14 + hsN S p) (S (14 + hsN S p) + 1) (14 + ndN S p) - 1)) (22 + 5 * p + 1) (S (22 + 5 * p + 2)) = wiA S p (nI (askA S R o p)) := by
      unfold wiA jrA
      rw [us_comm (S := S) (i := 22 + 5 * p + 3) (by omega), us_comm (i := 22 + 5 * p + 3) (by omega), us_comm (i := 22 + 5 * p + 3) (by omega)]
    rw [es] at t4
    have w0 : wiA S p (nI (askA S R o p)) 0 = S 0 := by unfold wiA; rw [us_ne (by omega), us_ne (by omega), jrA_0 (by omega) (by omega)]
    have wq : ∀ z, z ≠ p → hsS (wiA S p (nI (askA S R o p))) z = hsS S z ∧ ndS (wiA S p (nI (askA S R o p))) z = ndS S z := fun z hz => by
      unfold wiA
      exact ⟨by show us _ _ _ _ = _; rw [us_ne (by omega), us_ne (by omega), jrA_0 (by omega) (by omega)], by show us _ _ _ _ = _; rw [us_ne (by omega), us_ne (by omega), jrA_0 (by omega) (by omega)]⟩
    obtain ⟨v, e1, hv⟩ := b_mark2 (t := t) (σ := τ4) (S := S) (S' := wiA S p (nI (askA S R o p))) hp hpn (t4.2.2.1 p hp).2.1 (t4.2.2.1 p hp).2.2.1 (by rw [s4]; exact hT.2.2.2.1) w0 wq
    rw [e1, bnd_some]
    refine ⟨_, rfl, f4.tr (fr.uI (Or.inl rfl)), ?_, fun i hi => by rw [uI_i hi, s4]⟩
    refine TV.tw (t4.own (by decide) (by decide)) ?_ ?_
    · rw [uI_i (by decide), s4]
      exact hT.2.2.1
    · rw [uI_same]
      exact hv
  · have n9 : ¬ nI q = (9 : Int32) := fun z => h9 ((n_inj (b := 9) (by omega) (by decide)).mp z)
    obtain ⟨hpq, hfq, -⟩ : p < q ∧ fre S o q ∧ _ := by
      rcases hc.2 with w | w
      · exact absurd w.1 h9
      · exact w.2
    obtain ⟨σ', q1, q2, q3, q4⟩ := b_swap hpn hfq.1 (by omega) hT hg
    rw [if_neg n9, q1, bnd_some]
    refine ⟨σ', ?_, q2.mono (fun c hc => by rcases hc with z | z; exact Or.inl z; exact Or.inr (Or.inr (Or.inl z))), ?_, q4⟩
    · unfold paA
      rw [if_neg h9]
      rfl
    · unfold doA
      rw [if_neg h9]
      exact q3
