section GDS
variable {S : Nat → Int32} {p : Nat} {v : Int32}
theorem GD.p0 (h : GD S) (hp : p < 6) (hv : rg v 5) : GD (us S (22 + 5 * p) v) := by
  obtain ⟨a, b, c, d⟩ := h
  refine ⟨by rw [us_ne (by omega)]; exact a, by rw [us_ne (by omega)]; exact b, fun j hj => ⟨by rw [us_ne (by omega)]; exact (c j hj).1, by rw [us_ne (by omega)]; exact (c j hj).2⟩, fun q hq => ⟨?_, ?_, ?_, ?_, ?_⟩⟩
  · by_cases e : q = p
    · subst e; rw [us_same]; exact hv
    · rw [us_ne (by omega)]; exact (d q hq).1
  · rw [us_ne (by omega)]; exact (d q hq).2.1
  · rw [us_ne (by omega)]; exact (d q hq).2.2.1
  · rw [us_ne (by omega)]; exact (d q hq).2.2.2.1
  · rw [us_ne (by omega)]; exact (d q hq).2.2.2.2
theorem GD.p1 (h : GD S) (hp : p < 6) (hv : rg v 7) : GD (us S (22 + 5 * p + 1) v) := by
  obtain ⟨a, b, c, d⟩ := h
  refine ⟨by rw [us_ne (by omega)]; exact a, by rw [us_ne (by omega)]; exact b, fun j hj => ⟨by rw [us_ne (by omega)]; exact (c j hj).1, by rw [us_ne (by omega)]; exact (c j hj).2⟩, fun q hq => ⟨?_, ?_, ?_, ?_, ?_⟩⟩
  · rw [us_ne (by omega)]; exact (d q hq).1
  · by_cases e : q = p
    · subst e; rw [us_same]; exact hv
    · rw [us_ne (by omega)]; exact (d q hq).2.1
  · rw [us_ne (by omega)]; exact (d q hq).2.2.1
  · rw [us_ne (by omega)]; exact (d q hq).2.2.2.1
  · rw [us_ne (by omega)]; exact (d q hq).2.2.2.2
theorem GD.p2 (h : GD S) (hp : p < 6) (hv : rg v 7) : GD (us S (22 + 5 * p + 2) v) := by
  obtain ⟨a, b, c, d⟩ := h
  refine ⟨by rw [us_ne (by omega)]; exact a, by rw [us_ne (by omega)]; exact b, fun j hj => ⟨by rw [us_ne (by omega)]; exact (c j hj).1, by rw [us_ne (by omega)]; exact (c j hj).2⟩, fun q hq => ⟨?_, ?_, ?_, ?_, ?_⟩⟩
  · rw [us_ne (by omega)]; exact (d q hq).1
  · rw [us_ne (by omega)]; exact (d q hq).2.1
  · by_cases e : q = p
    · subst e; rw [us_same]; exact hv
    · rw [us_ne (by omega)]; exact (d q hq).2.2.1
  · rw [us_ne (by omega)]; exact (d q hq).2.2.2.1
  · rw [us_ne (by omega)]; exact (d q hq).2.2.2.2
theorem GD.p3 (h : GD S) (hp : p < 6) (hv : rg v 999) : GD (us S (22 + 5 * p + 3) v) := by
  obtain ⟨a, b, c, d⟩ := h
  refine ⟨by rw [us_ne (by omega)]; exact a, by rw [us_ne (by omega)]; exact b, fun j hj => ⟨by rw [us_ne (by omega)]; exact (c j hj).1, by rw [us_ne (by omega)]; exact (c j hj).2⟩, fun q hq => ⟨?_, ?_, ?_, ?_, ?_⟩⟩
  · rw [us_ne (by omega)]; exact (d q hq).1
  · rw [us_ne (by omega)]; exact (d q hq).2.1
  · rw [us_ne (by omega)]; exact (d q hq).2.2.1
  · by_cases e : q = p
    · subst e; rw [us_same]; exact hv
    · rw [us_ne (by omega)]; exact (d q hq).2.2.2.1
  · rw [us_ne (by omega)]; exact (d q hq).2.2.2.2
theorem GD.p4 (h : GD S) (hp : p < 6) (hv : rg v 63) : GD (us S (22 + 5 * p + 4) v) := by
  obtain ⟨a, b, c, d⟩ := h
  refine ⟨by rw [us_ne (by omega)]; exact a, by rw [us_ne (by omega)]; exact b, fun j hj => ⟨by rw [us_ne (by omega)]; exact (c j hj).1, by rw [us_ne (by omega)]; exact (c j hj).2⟩, fun q hq => ⟨?_, ?_, ?_, ?_, ?_⟩⟩
  · rw [us_ne (by omega)]; exact (d q hq).1
  · rw [us_ne (by omega)]; exact (d q hq).2.1
  · rw [us_ne (by omega)]; exact (d q hq).2.2.1
  · rw [us_ne (by omega)]; exact (d q hq).2.2.2.1
  · by_cases e : q = p
    · subst e; rw [us_same]; exact hv
    · rw [us_ne (by omega)]; exact (d q hq).2.2.2.2
theorem GD.wr (h : GD S) (hp : p < 8) (hv : rg v 99) : GD (us S (6 + p) v) := by
  obtain ⟨a, b, c, d⟩ := h
  refine ⟨by rw [us_ne (by omega)]; exact a, by rw [us_ne (by omega)]; exact b, fun j hj => ⟨?_, ?_⟩, fun q hq => ⟨?_, ?_, ?_, ?_, ?_⟩⟩
  · by_cases e : j = p
    · subst e; rw [us_same]; exact hv
    · rw [us_ne (by omega)]; exact (c j hj).1
  · rw [us_ne (by omega)]; exact (c j hj).2
  · rw [us_ne (by omega)]; exact (d q hq).1
  · rw [us_ne (by omega)]; exact (d q hq).2.1
  · rw [us_ne (by omega)]; exact (d q hq).2.2.1
  · rw [us_ne (by omega)]; exact (d q hq).2.2.2.1
  · rw [us_ne (by omega)]; exact (d q hq).2.2.2.2
theorem GD.jr (h : GD S) (hp : p < 8) (hv : rg v 100) : GD (us S (14 + p) v) := by
  obtain ⟨a, b, c, d⟩ := h
  refine ⟨by rw [us_ne (by omega)]; exact a, by rw [us_ne (by omega)]; exact b, fun j hj => ⟨?_, ?_⟩, fun q hq => ⟨?_, ?_, ?_, ?_, ?_⟩⟩
  · rw [us_ne (by omega)]; exact (c j hj).1
  · by_cases e : j = p
    · subst e; rw [us_same]; exact hv
    · rw [us_ne (by omega)]; exact (c j hj).2
  · rw [us_ne (by omega)]; exact (d q hq).1
  · rw [us_ne (by omega)]; exact (d q hq).2.1
  · rw [us_ne (by omega)]; exact (d q hq).2.2.1
  · rw [us_ne (by omega)]; exact (d q hq).2.2.2.1
  · rw [us_ne (by omega)]; exact (d q hq).2.2.2.2
theorem GD.ppl (h : GD S) (hv : rg v 6) : GD (us S 0 v) := by
  obtain ⟨a, b, c, d⟩ := h
  refine ⟨?_, ?_, fun j hj => ⟨?_, ?_⟩, fun q hq => ⟨?_, ?_, ?_, ?_, ?_⟩⟩
  · rw [us_same]; exact hv
  · rw [us_ne (by omega)]; exact b
  · rw [us_ne (by omega)]; exact (c j hj).1
  · rw [us_ne (by omega)]; exact (c j hj).2
  · rw [us_ne (by omega)]; exact (d q hq).1
  · rw [us_ne (by omega)]; exact (d q hq).2.1
  · rw [us_ne (by omega)]; exact (d q hq).2.2.1
  · rw [us_ne (by omega)]; exact (d q hq).2.2.2.1
  · rw [us_ne (by omega)]; exact (d q hq).2.2.2.2
theorem GD.fee (h : GD S) (hv : rg v 50) : GD (us S 2 v) := by
  obtain ⟨a, b, c, d⟩ := h
  refine ⟨?_, ?_, fun j hj => ⟨?_, ?_⟩, fun q hq => ⟨?_, ?_, ?_, ?_, ?_⟩⟩
  · rw [us_ne (by omega)]; exact a
  · rw [us_same]; exact hv
  · rw [us_ne (by omega)]; exact (c j hj).1
  · rw [us_ne (by omega)]; exact (c j hj).2
  · rw [us_ne (by omega)]; exact (d q hq).1
  · rw [us_ne (by omega)]; exact (d q hq).2.1
  · rw [us_ne (by omega)]; exact (d q hq).2.2.1
  · rw [us_ne (by omega)]; exact (d q hq).2.2.2.1
  · rw [us_ne (by omega)]; exact (d q hq).2.2.2.2
end GDS
theorem rg_inj {x y : Int32} {b c : Nat} (hx : rg x b) (hy : rg y c) (h : nx x = nx y) : x = y := by rw [hx.2, hy.2, h]
theorem GD.sw {S : Nat → Int32} {p q : Nat} (h : GD S) (hp : p < 6) (hq : q < 6) : GD (swA S p q) := (h.p1 hp (rgP h hq).2.1).p1 hq (rgP h hp).2.1
theorem rg_add1 {x : Int32} {b : Nat} (h : rg x b) (hb : b < 1000000) : rg (x + 1) (b + 1) := by
  obtain ⟨k, hk, rfl⟩ := h.ex
  rw [nI_1]
  exact rg_nI (by omega) (by omega)
theorem rg_sub1 {x : Int32} {b : Nat} (h : rg x b) (hb : b < 1000000) (h0 : 0 < nx x) : rg (x - 1) b := by
  obtain ⟨k, hk, rfl⟩ := h.ex
  rw [nx_nI (by omega)] at h0
  obtain ⟨k, rfl⟩ : ∃ j, k = j + 1 := ⟨k - 1, by omega⟩
  rw [nI_pred]
  exact rg_nI (by omega) (by omega)
theorem GD.jrA {S : Nat → Int32} {a d : Nat} (h : GD S) (ha : a < 8) (hd : d < 8) (hne : a ≠ d) (h1 : jrN S a < 100) (h2 : 0 < jrN S d) : GD (jrA S a d) := by
  unfold Jvm.Pilot.CHadForVoiceLaw_law_r4508_fecd35.jrA
  rw [us_ne (show 14 + d ≠ 14 + a by omega)]
  refine (h.jr ha ?_).jr hd ?_
  · have q : rg (S (14 + a)) 99 := ⟨by have : nx (S (14 + a)) < 100 := h1; omega, (h.2.2.1 a ha).2.2⟩
    exact rg_add1 q (by decide)
  · exact rg_sub1 (h.2.2.1 d hd).2 (by decide) h2
theorem hN_ne {S : Nat → Int32} {p : Nat} (h : GD S) (hp : p < 6) (hw : ¬ hsS S p = ndS S p) : hsN S p ≠ ndN S p := fun z => hw (rg_inj (rgP h hp).2.1 (rgP h hp).2.2.1 z)
theorem GD.wi {S : Nat → Int32} {p c : Nat} (h : GD S) (hp : p < 6) (hw : ¬ hsS S p = ndS S p) (h1 : jrN S (hsN S p) < 100) (h2 : 0 < jrN S (ndN S p)) (hc : c ≤ cnN S p) : GD (wiA S p (nI c)) := by
  obtain ⟨g0, g1, g2, g3, g4⟩ := rgP h hp
  have hh : hsN S p < 8 := by have := g1.1; show nx _ < 8; omega
  have hd : ndN S p < 8 := by have := g2.1; show nx _ < 8; omega
  have bc : cnN S p ≤ 999 := g3.1
  unfold wiA
  refine ((h.jrA hh hd (hN_ne h hp hw) h1 h2).p1 hp g2).p3 hp ?_
  rw [show S (22 + 5 * p + 3) = nI (cnN S p) from g3.2, n_sub hc]
  exact rg_nI (by omega) (by decide)
theorem GD.do {S : Nat → Int32} {R : List RU} {o : Nat → Bool} {p q : Nat} (h : GD S) (hc : canP S R o p q) : GD (doA S R o p q) := by
  have h6 : ppN S ≤ 6 := h.1.1
  have hp : p < 6 := by have := hc.1.1; omega
  unfold doA
  rcases hc.2 with ⟨h9, h1, h2, h3⟩ | ⟨h9, h1, h2, -⟩
  · rw [if_pos h9]
    exact h.wi hp hc.1.2.1 (by omega) h1 h3
  · rw [if_neg h9]
    exact h.sw hp (by have := h2.1; omega)
theorem sw_sw {S : Nat → Int32} {p q : Nat} (hpq : p ≠ q) : swA (swA S p q) p q = S := by
  funext i
  unfold swA
  by_cases h1 : i = 22 + 5 * q + 1
  · subst h1
    rw [us_same, us_ne (by omega), us_same]
  · by_cases h2 : i = 22 + 5 * p + 1
    · subst h2
      rw [us_ne (by omega), us_same, us_same]
    · rw [us_ne h1, us_ne h2, us_ne h1, us_ne h2]
theorem wiA_p {S : Nat → Int32} {p : Nat} {c : Int32} : wiA S p c (22 + 5 * p + 1) = S (22 + 5 * p + 2) ∧ wiA S p c (22 + 5 * p + 3) = S (22 + 5 * p + 3) - c := by
  unfold wiA
  exact ⟨by rw [us_ne (by omega), us_same], us_same⟩
theorem un_wi {S : Nat → Int32} {p : Nat} {c : Int32} (h : GD S) (hp : p < 6) (hw : ¬ hsS S p = ndS S p) : unA (wiA S p c) p (hsN S p) c = S := by
  obtain ⟨g0, g1, g2, g3, g4⟩ := rgP h hp
  have hh : hsN S p < 8 := by have := g1.1; show nx _ < 8; omega
  have hd : ndN S p < 8 := by have := g2.1; show nx _ < 8; omega
  have hne := hN_ne h hp hw
  have e1 : hsN (wiA S p c) p = ndN S p := by show nx (wiA S p c (22 + 5 * p + 1)) = _; rw [wiA_p.1]
  have wj : ∀ j, j < 8 → wiA S p c (14 + j) = jrA S (hsN S p) (ndN S p) (14 + j) := fun j hj => by unfold wiA; rw [us_ne (by omega), us_ne (by omega)]
  have jh : jrA S (hsN S p) (ndN S p) (14 + hsN S p) = S (14 + hsN S p) + 1 := by unfold jrA; rw [us_ne (by omega), us_same]
  have jd : jrA S (hsN S p) (ndN S p) (14 + ndN S p) = S (14 + ndN S p) - 1 := by unfold jrA; rw [us_same, us_ne (by omega)]
  funext i
  unfold unA
  rw [e1]
  by_cases h3 : i = 22 + 5 * p + 3
  · subst h3
    rw [us_same, wiA_p.2]
    simp
  · rw [us_ne h3]
    by_cases h1 : i = 22 + 5 * p + 1
    · subst h1
      rw [us_same]
      exact g1.2.symm
    · rw [us_ne h1]
      have ws : ∀ z, z ≠ 22 + 5 * p + 3 → z ≠ 22 + 5 * p + 1 → wiA S p c z = jrA S (hsN S p) (ndN S p) z := fun z y1 y2 => by unfold wiA; rw [us_ne y1, us_ne y2]
      show us (us (wiA S p c) (14 + ndN S p) _) (14 + hsN S p) _ i = S i
      by_cases z1 : i = 14 + hsN S p
      · subst z1
        rw [us_same, us_ne (by omega), wj _ hh, jh]
        simp
      · rw [us_ne z1]
        by_cases z2 : i = 14 + ndN S p
        · subst z2
          rw [us_same, wj _ hd, jd]
          simp
        · rw [us_ne z2, ws i h3 h1, jrA_0 z1 z2]
/-- a CHANGE that was tried, taken back -/
theorem ba_do {S : Nat → Int32} {R : List RU} {o : Nat → Bool} {p q : Nat} (h : GD S) (hc : canP S R o p q) : baA (doA S R o p q) p q (hsN S p) (nI (paA S R o p q)) = S := by
  have h6 : ppN S ≤ 6 := h.1.1
  have hp : p < 6 := by have := hc.1.1; omega
  unfold baA doA paA
  by_cases h9 : q = 9
  · rw [if_pos h9, if_pos h9, if_pos h9]
    exact un_wi h hp hc.1.2.1
  · rw [if_neg h9, if_neg h9]
    refine sw_sw ?_
    rcases hc.2 with ⟨z, -⟩ | ⟨-, z, -⟩
    · exact absurd z h9
    · omega
theorem b_stepBack {t k th : Nat} {x : Int32} {σ : SG} {S : Nat → Int32} {o : Nat → Bool} (hk : k < 2147483648) (hT : TWR t σ S o) (hg : GD S) (hn : numP S (k / 10) (k % 10)) (ht : th < 8) : ∃ σ', f_To_stepBack t (nI k) (nI th) x σ = some ((), σ') ∧ fr (fun c => c = t ∨ c = t + 7 ∨ c = t + 9 ∨ c = t + 11 ∨ c = t + 14) σ σ' ∧ TWR t σ' (baA S (k / 10) (k % 10) th x) o ∧ ∀ i, i ≠ 8 → σ'.1 t i = σ.1 t i := by
  unfold f_To_stepBack
  rw [lx_eq, lx_eq, n_rem hk, n_d10 hk]
  generalize k / 10 = p at *
  have hq10 : k % 10 < 10 := Nat.mod_lt _ (by decide)
  generalize k % 10 = q at *
  have h6 : ppN S ≤ 6 := hg.1.1
  have hpn : p < ppN S := hn.1
  have hp : p < 6 := by omega
  have ip : ix (nI p) 6 := ix_nI hp (by decide)
  have np : nx (nI p) = p := nx_nI (by omega)
  by_cases h9 : q = 9
  · subst h9
    obtain ⟨g0, g1, g2, g3, g4⟩ := rgP hg hp
    have hh : hsN S p < 8 := by have := g1.1; show nx _ < 8; omega
    obtain ⟨k1, k2, k3, k4, k5⟩ := hT.2.2.2.2.1 p hp
    rw [if_pos (show nI 9 = (9 : Int32) from rfl), gd_pos ip, gd_pos ip, np, k4, sx_eq]
    have t1 := hT.tv.p3 hp (v := S (22 + 5 * p + 3) + x)
    generalize hτ1 : uI σ (t + 11) p (S (22 + 5 * p + 3) + x) = τ1 at t1 ⊢
    have f1 : fr (fun c => c = t ∨ c = t + 7 ∨ c = t + 9 ∨ c = t + 11 ∨ c = t + 14) σ τ1 := by rw [← hτ1]; exact fr.uI (by omega)
    have s1 : ∀ i, τ1.1 t i = σ.1 t i := fun i => by rw [← hτ1, uI_c (by omega)]
    have x1 : τ1.1 (t + 9) p = nI (hsN S p) := by rw [← hτ1, uI_c (by omega), k2]; exact g1.2
    have y1 : τ1.1 (t + 14) (hsN S p) = S (14 + hsN S p) := by rw [← hτ1, uI_c (by omega)]; exact (hT.2.2.2.2.2 _ hh).2
    rw [gd_pos ip, x1, gd_pos (ix_nI hh (by decide)), gd_pos (ix_nI hh (by decide)), nx_nI (show hsN S p < 2147483648 by omega), y1, sx_eq]
    have t2 := t1.jr hh (v := S (14 + hsN S p) + 1)
    generalize hτ2 : uI τ1 (t + 14) (hsN S p) (S (14 + hsN S p) + 1) = τ2 at t2 ⊢
    have f2 := f1.tr (show fr (fun c => c = t ∨ c = t + 7 ∨ c = t + 9 ∨ c = t + 11 ∨ c = t + 14) τ1 τ2 by rw [← hτ2]; exact fr.uI (by omega))
    have s2 : ∀ i, τ2.1 t i = σ.1 t i := fun i => by rw [← hτ2, uI_c (by omega), s1]
    have y2 : τ2.1 (t + 14) th = us S (14 + hsN S p) (S (14 + hsN S p) + 1) (14 + th) := by
      rw [(t2.2.2.2 _ ht).2]
      by_cases e : th = hsN S p
      · rw [e, us_same, us_same]
      · rw [us_ne (by omega), us_ne (by omega), us_ne (by omega)]
    rw [gd_pos (ix_nI ht (by decide)), gd_pos (ix_nI ht (by decide)), nx_nI (show th < 2147483648 by omega), y2, sx_eq]
    have t3 := t2.jr ht (v := us S (14 + hsN S p) (S (14 + hsN S p) + 1) (14 + th) - 1)
    generalize hτ3 : uI τ2 (t + 14) th (us S (14 + hsN S p) (S (14 + hsN S p) + 1) (14 + th) - 1) = τ3 at t3 ⊢
    have f3 := f2.tr (show fr (fun c => c = t ∨ c = t + 7 ∨ c = t + 9 ∨ c = t + 11 ∨ c = t + 14) τ2 τ3 by rw [← hτ3]; exact fr.uI (by omega))
    have s3 : ∀ i, τ3.1 t i = σ.1 t i := fun i => by rw [← hτ3, uI_c (by omega), s2]
    rw [gd_pos ip, sx_eq]
    have t4 := t3.p1 hp (v := nI th)
    generalize hτ4 : uI τ3 (t + 9) p (nI th) = τ4 at t4 ⊢
    have f4 := f3.tr (show fr (fun c => c = t ∨ c = t + 7 ∨ c = t + 9 ∨ c = t + 11 ∨ c = t + 14) τ3 τ4 by rw [← hτ4]; exact fr.uI (by omega))
    have s4 : ∀ i, τ4.1 t i = σ.1 t i := fun i => by rw [← hτ4, uI_c (by omega), s3]
    have es : us (us (us (us S (22 + 5 * p + 3) (S (22 + 5 * p + 3) + x)) (14 + hsN S p) (S (14 + hsN S p) + 1)) (14 + th) (us S (14 + hsN S p) (S (14 + hsN S p) + 1) (14 + th) - 1)) (22 + 5 * p + 1) (nI th) = unA S p th x := by
      unfold unA jrA
      rw [us_comm (S := S) (i := 22 + 5 * p + 3) (by omega), us_comm (i := 22 + 5 * p + 3) (by omega), us_comm (i := 22 + 5 * p + 3) (by omega)]
    rw [es] at t4
    have w0 : unA S p th x 0 = S 0 := by unfold unA; rw [us_ne (by omega), us_ne (by omega), jrA_0 (by omega) (by omega)]
    have wq : ∀ z, z ≠ p → hsS (unA S p th x) z = hsS S z ∧ ndS (unA S p th x) z = ndS S z := fun z hz => by
      unfold unA
      exact ⟨by show us _ _ _ _ = _; rw [us_ne (by omega), us_ne (by omega), jrA_0 (by omega) (by omega)], by show us _ _ _ _ = _; rw [us_ne (by omega), us_ne (by omega), jrA_0 (by omega) (by omega)]⟩
    obtain ⟨v, e1, hv⟩ := b_mark2 (t := t) (σ := τ4) (S := S) (S' := unA S p th x) hp hpn (t4.2.2.1 p hp).2.1 (t4.2.2.1 p hp).2.2.1 (by rw [s4]; exact hT.2.2.2.1) w0 wq
    rw [e1, bnd_some]
    refine ⟨_, rfl, f4.tr (fr.uI (Or.inl rfl)), ?_, fun i hi => by rw [uI_i hi, s4]⟩
    unfold baA
    rw [if_pos rfl]
    refine TV.tw (t4.own (by decide) (by decide)) ?_ ?_
    · rw [uI_i (by decide), s4]
      exact hT.2.2.1
    · rw [uI_same]
      exact hv
  · have n9 : ¬ nI q = (9 : Int32) := fun z => h9 ((n_inj (b := 9) (by omega) (by decide)).mp z)
    obtain ⟨hpq, hfq⟩ : p < q ∧ q < ppN S := by
      rcases hn.2 with w | w
      · exact absurd w h9
      · exact w
    obtain ⟨σ', q1, q2, q3, q4⟩ := b_swap hpn hfq (by omega) hT hg
    rw [if_neg n9, q1, bnd_some]
    refine ⟨σ', rfl, q2.mono (fun c hc => by rcases hc with z | z; exact Or.inl z; exact Or.inr (Or.inr (Or.inl z))), ?_, q4⟩
    unfold baA
    rw [if_neg h9]
    exact q3
/-! the same of the reference -/
theorem fr149 {σ : SG} {i : Nat} {v : Int32} : fr (fun c => c = 149) σ (uI σ 149 i v) := fr.uI rfl
theorem m_swaps {p q : Nat} {σ : SG} (hp : p < 6) (hq : q < 6) : ∃ σ', f_M_swaps (nI p) (nI q) σ = some ((), σ') ∧ σ'.1 149 = swA (σ.1 149) p q ∧ fr (fun c => c = 149) σ σ' := by
  unfold f_M_swaps
  rw [m_its1 hp, bnd_some, show (1 : Int32) = nI 1 from rfl, m_at, bnd_some, m_its (w := 1) hq (by decide), bnd_some, gd_pos (ix_nI (by omega) (by decide)), nx_nI (by omega), sx_eq, m_at, bnd_some, gd_pos (ix_nI (by omega) (by decide)), nx_nI (by omega), sx_eq]
  refine ⟨_, rfl, ?_, fr149.tr fr149⟩
  rw [uI149, uI149]
  rfl
theorem m_jr {a d : Nat} {σ : SG} (ha : a < 8) (hd : d < 8) : (uI (uI σ 149 (14 + a) (σ.1 149 (14 + a) + 1)) 149 (14 + d) ((uI σ 149 (14 + a) (σ.1 149 (14 + a) + 1)).1 149 (14 + d) - 1)).1 149 = jrA (σ.1 149) a d := by
  rw [uI149, uI149]
  rfl
theorem m_does {k : Nat} {σ : SG} {o : Nat → Bool} {R : List RU} (hk : k < 2147483648) (hg : GD (σ.1 149)) (ho : abs1 (σ.1 148 4) o) (hR : RMt (σ.1 149) R) (hn : numP (σ.1 149) (k / 10) (k % 10)) : ∃ σ', f_M_does (nI k) σ = some ((), σ') ∧ σ'.1 149 = doA (σ.1 149) R o (k / 10) (k % 10) ∧ σ'.1 148 6 = hsS (σ.1 149) (k / 10) ∧ σ'.1 148 7 = nI (paA (σ.1 149) R o (k / 10) (k % 10)) ∧ fr (fun c => c = 148 ∨ c = 149 ∨ c = 152) σ σ' ∧ ∀ i, i ≠ 6 → i ≠ 7 → σ'.1 148 i = σ.1 148 i := by
  unfold f_M_does
  rw [lx_eq, lx_eq, n_rem hk, n_d10 hk]
  generalize k / 10 = p at *
  have hq10 : k % 10 < 10 := Nat.mod_lt _ (by decide)
  generalize k % 10 = q at *
  have h6 : ppN (σ.1 149) ≤ 6 := hg.1.1
  have hp : p < 6 := by have := hn.1; omega
  rw [m_its1 hp, bnd_some, sx_eq, sx_eq]
  generalize hτ : uI (uI σ 148 6 (σ.1 149 (22 + 5 * p + 1))) 148 7 (0 : Int32) = τ
  have c149 : τ.1 149 = σ.1 149 := by rw [← hτ, uIc (by decide), uIc (by decide)]
  have f0 : fr (fun c => c = 148 ∨ c = 149 ∨ c = 152) σ τ := by rw [← hτ]; exact fr.tr (fr.uI (Or.inl rfl)) (fr.uI (Or.inl rfl))
  have g6 : τ.1 148 6 = σ.1 149 (22 + 5 * p + 1) := by rw [← hτ, uI_i (by decide), uI_same]
  have g7 : τ.1 148 7 = 0 := by rw [← hτ, uI_same]
  have gx : ∀ i, i ≠ 6 → i ≠ 7 → τ.1 148 i = σ.1 148 i := fun i h1 h2 => by rw [← hτ, uI_i h2, uI_i h1]
  by_cases h9 : q = 9
  · subst h9
    obtain ⟨u0, u1, u2, u3, u4⟩ := rgP hg hp
    have hh : hsN (σ.1 149) p < 8 := by have := u1.1; show nx _ < 8; omega
    have hd : ndN (σ.1 149) p < 8 := by have := u2.1; show nx _ < 8; omega
    obtain ⟨τ1, q1, q2⟩ := m_asked (σ := τ) (o := o) hp (by rw [c149]; exact hg) (by rw [gx 4 (by decide) (by decide)]; exact ho) (by rw [c149]; exact hR)
    rw [c149] at q1
    rw [if_neg (show ¬ ¬ nI 9 = (9 : Int32) from fun z => z rfl), q1, bnd_some, sx_eq]
    generalize hτ2 : uI τ1 148 7 (nI (askA (σ.1 149) R o p)) = τ2
    have d149 : τ2.1 149 = σ.1 149 := by rw [← hτ2, uIc (by decide), q2.1 _ (by decide), c149]
    have d6 : τ2.1 148 6 = nI (hsN (σ.1 149) p) := by rw [← hτ2, uI_i (by decide), q2.at (by decide), g6]; exact u1.2
    have d7 : τ2.1 148 7 = nI (askA (σ.1 149) R o p) := by rw [← hτ2, uI_same]
    have dx : ∀ i, i ≠ 6 → i ≠ 7 → τ2.1 148 i = σ.1 148 i := fun i h1 h2 => by rw [← hτ2, uI_i h2, q2.at (by decide), gx i h1 h2]
    have f2 : fr (fun c => c = 148 ∨ c = 149 ∨ c = 152) σ τ2 := (f0.tr (q2.mono (fun c hc => Or.inr (Or.inr hc)))).tr (by rw [← hτ2]; exact fr.uI (Or.inl rfl))
    have e14 : (14 : Int32) = nI 14 := rfl
    rw [d6, e14, n_add, gd_pos (ix_nI (by omega) (by decide)), gd_pos (ix_nI (by omega) (by decide)), nx_nI (by omega), sx_eq]
    generalize hτ3 : uI τ2 149 (14 + hsN (σ.1 149) p) (τ2.1 149 (14 + hsN (σ.1 149) p) + 1) = τ3
    have e3 : τ3.1 149 = us (σ.1 149) (14 + hsN (σ.1 149) p) (σ.1 149 (14 + hsN (σ.1 149) p) + 1) := by rw [← hτ3, uI149, d149]
    have f3 : fr (fun c => c = 148 ∨ c = 149 ∨ c = 152) σ τ3 := f2.tr (by rw [← hτ3]; exact fr.uI (Or.inr (Or.inl rfl)))
    have s3 : ∀ i, τ3.1 148 i = τ2.1 148 i := fun i => by rw [← hτ3, uI_c (by decide)]
    rw [m_its2 hp, bnd_some, show τ3.1 149 (22 + 5 * p + 2) = nI (ndN (σ.1 149) p) by rw [e3, us_ne (by omega)]; exact u2.2, n_add, gd_pos (ix_nI (by omega) (by decide)), gd_pos (ix_nI (by omega) (by decide)), nx_nI (by omega), sx_eq]
    generalize hτ4 : uI τ3 149 (14 + ndN (σ.1 149) p) (τ3.1 149 (14 + ndN (σ.1 149) p) - 1) = τ4
    have e4 : τ4.1 149 = jrA (σ.1 149) (hsN (σ.1 149) p) (ndN (σ.1 149) p) := by rw [← hτ4, uI149, e3]; rfl
    have f4 : fr (fun c => c = 148 ∨ c = 149 ∨ c = 152) σ τ4 := f3.tr (by rw [← hτ4]; exact fr.uI (Or.inr (Or.inl rfl)))
    have s4 : ∀ i, τ4.1 148 i = τ2.1 148 i := fun i => by rw [← hτ4, uI_c (by decide), s3]
    rw [show (1 : Int32) = nI 1 from rfl, m_at, bnd_some, m_its2 hp, bnd_some, gd_pos (ix_nI (by omega) (by decide)), nx_nI (by omega), show τ4.1 149 (22 + 5 * p + 2) = σ.1 149 (22 + 5 * p + 2) by rw [e4, jrA_0 (by omega) (by omega)], sx_eq]
    generalize hτ5 : uI τ4 149 (22 + 5 * p + 1) (σ.1 149 (22 + 5 * p + 2)) = τ5
    have e5 : τ5.1 149 = us (jrA (σ.1 149) (hsN (σ.1 149) p) (ndN (σ.1 149) p)) (22 + 5 * p + 1) (σ.1 149 (22 + 5 * p + 2)) := by rw [← hτ5, uI149, e4]
    have f5 : fr (fun c => c = 148 ∨ c = 149 ∨ c = 152) σ τ5 := f4.tr (by rw [← hτ5]; exact fr.uI (Or.inr (Or.inl rfl)))
    have s5 : ∀ i, τ5.1 148 i = τ2.1 148 i := fun i => by rw [← hτ5, uI_c (by decide), s4]
    rw [show (3 : Int32) = nI 3 from rfl, m_at, bnd_some, gd_pos (ix_nI (by omega) (by decide)), gd_pos (ix_nI (by omega) (by decide)), nx_nI (by omega), s5, d7, show τ5.1 149 (22 + 5 * p + 3) = σ.1 149 (22 + 5 * p + 3) by rw [e5, us_ne (by omega), jrA_0 (by omega) (by omega)], sx_eq]
    refine ⟨_, rfl, ?_, ?_, ?_, f5.tr (fr.uI (Or.inr (Or.inl rfl))), fun i h1 h2 => by rw [uI_c (by decide), s5, dx i h1 h2]⟩
    · rw [uI149, e5]
      unfold doA wiA
      rw [if_pos rfl]
    · rw [uI_c (by decide), s5, d6]
      exact u1.2.symm
    · rw [uI_c (by decide), s5, d7]
      unfold paA
      rw [if_pos rfl]
  · have n9 : ¬ nI q = (9 : Int32) := fun z => h9 ((n_inj (b := 9) (by omega) (by decide)).mp z)
    have hq : q < 6 := by
      rcases hn.2 with w | w
      · exact absurd w h9
      · omega
    obtain ⟨σ', q1, q2, q3⟩ := m_swaps (σ := τ) hp hq
    rw [if_pos n9, q1, bnd_some]
    refine ⟨σ', rfl, ?_, ?_, ?_, f0.tr (q3.mono (fun c hc => Or.inr (Or.inl hc))), fun i h1 h2 => by rw [q3.at (by decide), gx i h1 h2]⟩
    · rw [q2, c149]
      unfold doA
      rw [if_neg h9]
    · rw [q3.at (by decide), g6]
    · rw [q3.at (by decide), g7]
      unfold paA
      rw [if_neg h9]
      rfl
theorem m_undoes {k th : Nat} {x : Int32} {σ : SG} (hk : k < 2147483648) (hg : GD (σ.1 149)) (hn : numP (σ.1 149) (k / 10) (k % 10)) (ht : th < 8) : ∃ σ', f_M_undoes (nI k) (nI th) x σ = some ((), σ') ∧ σ'.1 149 = baA (σ.1 149) (k / 10) (k % 10) th x ∧ fr (fun c => c = 149) σ σ' := by
  unfold f_M_undoes
  rw [lx_eq, lx_eq, n_rem hk, n_d10 hk]
  generalize k / 10 = p at *
  have hq10 : k % 10 < 10 := Nat.mod_lt _ (by decide)
  generalize k % 10 = q at *
  have h6 : ppN (σ.1 149) ≤ 6 := hg.1.1
  have hp : p < 6 := by have := hn.1; omega
  by_cases h9 : q = 9
  · subst h9
    obtain ⟨u0, u1, u2, u3, u4⟩ := rgP hg hp
    have hh : hsN (σ.1 149) p < 8 := by have := u1.1; show nx _ < 8; omega
    have e14 : (14 : Int32) = nI 14 := rfl
    rw [if_neg (show ¬ ¬ nI 9 = (9 : Int32) from fun z => z rfl), m_its1 hp, bnd_some, show σ.1 149 (22 + 5 * p + 1) = nI (hsN (σ.1 149) p) from u1.2, e14, n_add, gd_pos (ix_nI (by omega) (by decide)), gd_pos (ix_nI (by omega) (by decide)), nx_nI (by omega), sx_eq, n_add, gd_pos (ix_nI (by omega) (by decide)), gd_pos (ix_nI (by omega) (by decide)), nx_nI (by omega), sx_eq]
    generalize hτ : uI (uI σ 149 (14 + hsN (σ.1 149) p) (σ.1 149 (14 + hsN (σ.1 149) p) + 1)) 149 (14 + th) ((uI σ 149 (14 + hsN (σ.1 149) p) (σ.1 149 (14 + hsN (σ.1 149) p) + 1)).1 149 (14 + th) - 1) = τ
    have e4 : τ.1 149 = jrA (σ.1 149) (hsN (σ.1 149) p) th := by rw [← hτ]; exact m_jr hh ht
    have f4 : fr (fun c => c = 149) σ τ := by rw [← hτ]; exact fr149.tr fr149
    rw [show (1 : Int32) = nI 1 from rfl, m_at, bnd_some, gd_pos (ix_nI (by omega) (by decide)), nx_nI (by omega), sx_eq, show (3 : Int32) = nI 3 from rfl, m_at, bnd_some, gd_pos (ix_nI (by omega) (by decide)), gd_pos (ix_nI (by omega) (by decide)), nx_nI (by omega), sx_eq]
    refine ⟨_, rfl, ?_, (f4.tr fr149).tr fr149⟩
    rw [uI149, uI149, e4, us_ne (by omega), jrA_0 (by omega) (by omega)]
    unfold baA unA
    rw [if_pos rfl]
  · have n9 : ¬ nI q = (9 : Int32) := fun z => h9 ((n_inj (b := 9) (by omega) (by decide)).mp z)
    have hq : q < 6 := by
      rcases hn.2 with w | w
      · exact absurd w h9
      · omega
    obtain ⟨σ', q1, q2, q3⟩ := m_swaps (σ := σ) hp hq
    rw [if_pos n9, q1, bnd_some]
    refine ⟨σ', rfl, ?_, q3⟩
    rw [q2]
    unfold baA
    rw [if_neg h9]
