/-! what is kept from the beginning of a question on: JARS and things together, the COINS of who is not whole -/
def ct (f : Nat → Nat) (j : Nat) : Nat := (decide (f 0 = j)).toNat + (decide (f 1 = j)).toNat + (decide (f 2 = j)).toNat + (decide (f 3 = j)).toNat + (decide (f 4 = j)).toNat + (decide (f 5 = j)).toNat
theorem ct_up {f g : Nat → Nat} {p : Nat} (hp : p < 6) (hg : ∀ q, q < 6 → q ≠ p → g q = f q) (j : Nat) : ct g j + (decide (f p = j)).toNat = ct f j + (decide (g p = j)).toNat := by
  have h : p = 0 ∨ p = 1 ∨ p = 2 ∨ p = 3 ∨ p = 4 ∨ p = 5 := by omega
  unfold ct
  rcases h with e | e | e | e | e | e <;> subst e
  · rw [hg 1 (by omega) (by omega), hg 2 (by omega) (by omega), hg 3 (by omega) (by omega), hg 4 (by omega) (by omega), hg 5 (by omega) (by omega)]; omega
  · rw [hg 0 (by omega) (by omega), hg 2 (by omega) (by omega), hg 3 (by omega) (by omega), hg 4 (by omega) (by omega), hg 5 (by omega) (by omega)]; omega
  · rw [hg 0 (by omega) (by omega), hg 1 (by omega) (by omega), hg 3 (by omega) (by omega), hg 4 (by omega) (by omega), hg 5 (by omega) (by omega)]; omega
  · rw [hg 0 (by omega) (by omega), hg 1 (by omega) (by omega), hg 2 (by omega) (by omega), hg 4 (by omega) (by omega), hg 5 (by omega) (by omega)]; omega
  · rw [hg 0 (by omega) (by omega), hg 1 (by omega) (by omega), hg 2 (by omega) (by omega), hg 3 (by omega) (by omega), hg 5 (by omega) (by omega)]; omega
  · rw [hg 0 (by omega) (by omega), hg 1 (by omega) (by omega), hg 2 (by omega) (by omega), hg 3 (by omega) (by omega), hg 4 (by omega) (by omega)]; omega
theorem ct_sw {f g : Nat → Nat} {p q : Nat} (hp : p < 6) (hq : q < 6) (hpq : p ≠ q) (h1 : g p = f q) (h2 : g q = f p) (hg : ∀ z, z < 6 → z ≠ p → z ≠ q → g z = f z) (j : Nat) : ct g j = ct f j := by
  have a := ct_up (f := f) (g := fun z => if z = p then f q else f z) hp (fun z _ hz => if_neg hz) j
  have b := ct_up (f := fun z => if z = p then f q else f z) (g := g) hq (fun z hz h => by
    by_cases e : z = p
    · rw [if_pos e, e, h1]
    · rw [if_neg e, hg z hz e h]) j
  rw [if_pos rfl] at a
  rw [if_neg (fun z => hpq z.symm), h2] at b
  omega
abbrev pln (i : Nat) : Prop := i < 14 ∨ (22 ≤ i ∧ i % 5 ≠ 3 ∧ i % 5 ≠ 0) ∨ 52 ≤ i
def RCH (S0 S : Nat → Int32) : Prop := GD S ∧ (∀ i, pln i → S i = S0 i) ∧ (∀ p, p < 6 → ¬ hsS S p = ndS S p → S (22 + 5 * p + 3) = S0 (22 + 5 * p + 3)) ∧ ∀ j, j < 8 → jrN S j + ct (hsN S) j = jrN S0 j + ct (hsN S0) j
theorem RCH.rf {S : Nat → Int32} (h : GD S) : RCH S S := ⟨h, fun _ _ => rfl, fun _ _ _ => rfl, fun _ _ => rfl⟩
theorem RCH.sim {S0 S T : Nat → Int32} (h1 : RCH S0 S) (h2 : RCH S0 T) (hh : ∀ p, p < 6 → hsN T p = hsN S p) : sim S T := by
  obtain ⟨g1, a1, b1, c1⟩ := h1
  obtain ⟨g2, a2, b2, c2⟩ := h2
  intro i hi
  by_cases hp : pln i
  · rw [a1 i hp, a2 i hp]
  · have hs : ∀ p, p < 6 → T (22 + 5 * p + 1) = S (22 + 5 * p + 1) := fun p hp => by
      rw [(rgP g1 hp).2.1.2, (rgP g2 hp).2.1.2]
      exact congrArg nI (hh p hp)
    by_cases hj : i < 22
    · have hj8 : i - 14 < 8 := by omega
      have ec : ct (hsN T) (i - 14) = ct (hsN S) (i - 14) := by
        unfold ct
        rw [hh 0 (by decide), hh 1 (by decide), hh 2 (by decide), hh 3 (by decide), hh 4 (by decide), hh 5 (by decide)]
      have e1 := c1 _ hj8
      have e2 := c2 _ hj8
      have ej : jrN T (i - 14) = jrN S (i - 14) := by omega
      have ei : i = 14 + (i - 14) := by omega
      rw [ei, (g1.2.2.1 _ hj8).2.2, (g2.2.2.1 _ hj8).2.2]
      exact congrArg nI ej
    · by_cases h3 : i % 5 = 3
      · have ei : i = 22 + 5 * ((i - 23) / 5) + 1 := by omega
        rw [ei]
        exact hs _ (by omega)
      · have ei : i = 22 + 5 * ((i - 25) / 5) + 3 := by omega
        have hq : (i - 25) / 5 < 6 := by omega
        have hw := hi _ hq ei
        have hn : T (22 + 5 * ((i - 25) / 5) + 2) = S (22 + 5 * ((i - 25) / 5) + 2) := by rw [a1 _ (by omega), a2 _ (by omega)]
        rw [ei, b1 _ hq hw, b2 _ hq (by show ¬ T _ = T _; rw [hs _ hq, hn]; exact hw)]
theorem jr_nx {x : Int32} {b : Nat} (h : rg x b) (hb : b < 1000) : nx (x + 1) = nx x + 1 ∧ (0 < nx x → nx (x - 1) = nx x - 1) := by
  have h1 := h.1
  refine ⟨?_, fun h0 => ?_⟩
  · rw [h.2, nI_1, nx_nI (by omega), nx_nI (by omega)]
  · rw [h.2, show (1 : Int32) = nI 1 from rfl, n_sub (show 1 ≤ nx x from h0), nx_nI (by omega), nx_nI (by omega)]
theorem RCH.do {S0 S : Nat → Int32} {R : List RU} {o : Nat → Bool} {p q : Nat} (h : RCH S0 S) (hc : canP S R o p q) : RCH S0 (doA S R o p q) := by
  obtain ⟨g, a, b, c⟩ := h
  have h6 : ppN S ≤ 6 := g.1.1
  have hp : p < 6 := by have := hc.1.1; omega
  obtain ⟨-, r1, r2, r3, -⟩ := rgP g hp
  have a1 : hsN S p ≤ 7 := r1.1
  have a2 : ndN S p ≤ 7 := r2.1
  have hne := hN_ne g hp hc.1.2.1
  refine ⟨g.do hc, ?_⟩
  unfold doA
  by_cases h9 : q = 9
  · rw [if_pos h9]
    have wz : ∀ i, i ≠ 22 + 5 * p + 1 → i ≠ 22 + 5 * p + 3 → ¬ (14 ≤ i ∧ i < 22) → wiA S p (nI (askA S R o p)) i = S i := fun i i1 i2 i3 => by
      unfold wiA
      rw [us_ne i2, us_ne i1, jrA_0 (by omega) (by omega)]
    have wj : ∀ j, j < 8 → wiA S p (nI (askA S R o p)) (14 + j) = jrA S (hsN S p) (ndN S p) (14 + j) := fun j hj => by unfold wiA; rw [us_ne (by omega), us_ne (by omega)]
    refine ⟨fun i hi => by rw [wz i (by omega) (by omega) (by omega)]; exact a i hi, fun z hz hw => ?_, fun j hj => ?_⟩
    · have hzp : z ≠ p := fun e => hw (by
        show wiA S p _ (22 + 5 * z + 1) = wiA S p _ (22 + 5 * z + 2)
        rw [e, wiA_p.1, wz _ (by omega) (by omega) (by omega)])
      have hw : ¬ wiA S p (nI (askA S R o p)) (22 + 5 * z + 1) = wiA S p (nI (askA S R o p)) (22 + 5 * z + 2) := hw
      rw [wz _ (by omega) (by omega) (by omega), wz _ (by omega) (by omega) (by omega)] at hw
      rw [wz _ (by omega) (by omega) (by omega)]
      exact b z hz hw
    · have hcz := c j hj
      have up := ct_up (f := hsN S) (g := hsN (wiA S p (nI (askA S R o p)))) hp (fun z hz e => by show nx (wiA S p _ (22 + 5 * z + 1)) = _; rw [wz _ (by omega) (by omega) (by omega)]) j
      have ep : hsN (wiA S p (nI (askA S R o p))) p = ndN S p := by show nx (wiA S p _ (22 + 5 * p + 1)) = _; rw [wiA_p.1]
      rw [ep] at up
      have hjar : jrN (wiA S p (nI (askA S R o p))) j + (decide (ndN S p = j)).toNat = jrN S j + (decide (hsN S p = j)).toNat := by
        show nx (wiA S p _ (14 + j)) + _ = nx (S (14 + j)) + _
        rw [wj j hj]
        have rj := (g.2.2.1 j hj).2
        have j0 : 0 < jrN S (ndN S p) := by
          rcases hc.2 with w | w
          · exact w.2.1
          · exact absurd h9 w.1
        unfold jrA
        by_cases e1 : ndN S p = j
        · have e2 : ¬ hsN S p = j := fun e => hne (by rw [e, e1])
          rw [e1] at j0
          rw [e1, us_same, us_ne (by omega), decide_eq_true rfl, decide_eq_false e2, (jr_nx rj (by decide)).2 j0]
          show nx (S (14 + j)) - 1 + 1 = nx (S (14 + j)) + 0
          have : 0 < nx (S (14 + j)) := j0
          omega
        · rw [us_ne (by omega), decide_eq_false e1]
          by_cases e2 : hsN S p = j
          · rw [e2, us_same, decide_eq_true rfl, (jr_nx rj (by decide)).1]
            rfl
          · rw [us_ne (by omega), decide_eq_false e2]
      omega
  · rw [if_neg h9]
    rcases hc.2 with w | w
    · exact absurd w.1 h9
    · have hq : q < 6 := by have := w.2.2.1.1; omega
      have hpq : p ≠ q := by have := w.2.1; omega
      have wz : ∀ i, i ≠ 22 + 5 * p + 1 → i ≠ 22 + 5 * q + 1 → swA S p q i = S i := fun i i1 i2 => by
        unfold swA
        rw [us_ne i2, us_ne i1]
      have wp : swA S p q (22 + 5 * p + 1) = S (22 + 5 * q + 1) := by
        unfold swA
        rw [us_ne (by omega), us_same]
      have wq : swA S p q (22 + 5 * q + 1) = S (22 + 5 * p + 1) := by
        unfold swA
        rw [us_same]
      refine ⟨fun i hi => by rw [wz i (by omega) (by omega)]; exact a i hi, fun z hz hw => ?_, fun j hj => ?_⟩
      · rw [wz _ (by omega) (by omega)]
        by_cases z1 : z = p
        · rw [z1]; exact b p hp hc.1.2.1
        · by_cases z2 : z = q
          · rw [z2]; exact b q hq w.2.2.1.2.1
          · have hw : ¬ swA S p q (22 + 5 * z + 1) = swA S p q (22 + 5 * z + 2) := hw
            rw [wz _ (by omega) (by omega), wz _ (by omega) (by omega)] at hw
            exact b z hz hw
      · have e := ct_sw (f := hsN S) (g := hsN (swA S p q)) hp hq hpq (congrArg nx wp) (congrArg nx wq) (fun z _ z1 z2 => congrArg nx (wz _ (by omega) (by omega))) j
        have e2 : jrN (swA S p q) j = jrN S j := congrArg nx (wz _ (by omega) (by omega))
        rw [e, e2]
        exact c j hj
