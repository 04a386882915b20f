/-! the class's SEARCH, with what it has WRITTEN DOWN -/
def keyN (ρ n : Nat) (h : Nat → Nat) : Nat := ((((((ρ * 8 + n) * 8 + h 0) * 8 + h 1) * 8 + h 2) * 8 + h 3) * 8 + h 4) * 8 + h 5
theorem keyN_inj {ρ n ρ' n' : Nat} {h h' : Nat → Nat} (hn : n < 8) (hn' : n' < 8) (hh : ∀ p, p < 6 → h p < 8) (hh' : ∀ p, p < 6 → h' p < 8) (e : keyN ρ n h = keyN ρ' n' h') : ρ = ρ' ∧ n = n' ∧ ∀ p, p < 6 → h p = h' p := by
  unfold keyN at e
  have a0 := hh 0 (by decide); have a1 := hh 1 (by decide); have a2 := hh 2 (by decide); have a3 := hh 3 (by decide); have a4 := hh 4 (by decide); have a5 := hh 5 (by decide)
  have b0 := hh' 0 (by decide); have b1 := hh' 1 (by decide); have b2 := hh' 2 (by decide); have b3 := hh' 3 (by decide); have b4 := hh' 4 (by decide); have b5 := hh' 5 (by decide)
  refine ⟨by omega, by omega, fun p hp => ?_⟩
  have hc : p = 0 ∨ p = 1 ∨ p = 2 ∨ p = 3 ∨ p = 4 ∨ p = 5 := by omega
  rcases hc with z | z | z | z | z | z <;> subst z <;> omega
theorem l8 : ∀ b, b < 8 → (nI b).toInt64 = lN b := by decide +kernel
theorem key_or {a b : Nat} (hb : b < 8) (h : a * 8 + b < 2 ^ 64) : lsl (lN a) 3 ||| (nI b).toInt64 = lN (a * 8 + b) := by
  rw [l8 b hb]
  have e : lsl (lN a) 3 = lN (a * 8) := wb_shl a (k := 3) (by decide)
  rw [e]
  exact g_or (k := 3) (p := 8) rfl hb h
theorem key_st {f j a b : Nat} {σ : SG} (hj : j < 6) (hb : b < 8) (ha : a * 8 + b < 2 ^ 64) (hx : σ.1 99 j = nI b) : f_Se_key_13 (f + 1) (lN a) (nI j) σ = f_Se_key_13 f (lN (a * 8 + b)) (nI (j + 1)) σ := by
  rw [f_Se_key_13, if_neg (show ¬ (6 : Int32) ≤ nI j from nI_ge hj (by decide)), gd_pos (ix_nI hj (by decide)), lx_eq, lx_eq, nx_nI (by omega), hx, key_or hb ha, nI_1]
theorem b_key {σ : SG} {S : Nat → Int32} {o : Nat → Bool} {ρ n : Nat} (hT : TWR 90 σ S o) (hg : GD S) (hρ : σ.2 125 5 = lN ρ) (hr : ρ < 1099511627776) (hn : n < 8) : f_Se_key (nI n) σ = some (lN (keyN ρ n (hsN S)), σ) := by
  have hs : ∀ p, p < 6 → σ.1 99 p = nI (hsN S p) ∧ hsN S p < 8 := fun p hp => by
    have e : σ.1 99 p = S (22 + 5 * p + 1) := (hT.2.2.2.2.1 p hp).2.1
    have r := (rgP hg hp).2.1
    have : hsN S p ≤ 7 := r.1
    exact ⟨e.trans r.2, by omega⟩
  obtain ⟨x0, y0⟩ := hs 0 (by decide)
  obtain ⟨x1, y1⟩ := hs 1 (by decide)
  obtain ⟨x2, y2⟩ := hs 2 (by decide)
  obtain ⟨x3, y3⟩ := hs 3 (by decide)
  obtain ⟨x4, y4⟩ := hs 4 (by decide)
  obtain ⟨x5, y5⟩ := hs 5 (by decide)
  unfold f_Se_key
  rw [lx_eq, hρ, key_or hn (by omega), show FU = 1993 + 1 + 1 + 1 + 1 + 1 + 1 + 1 from rfl, show (0 : Int32) = nI 0 from rfl, key_st (by decide) y0 (by omega) x0, key_st (by decide) y1 (by omega) x1, key_st (by decide) y2 (by omega) x2, key_st (by decide) y3 (by omega) x3, key_st (by decide) y4 (by omega) x4, key_st (by decide) y5 (by omega) x5, f_Se_key_13, if_pos (by decide)]
  rfl
theorem s32 : ∀ m, m < 2048 → (lN m).toInt32 = nI m := by decide +kernel
theorem slot_ix (x : Int64) : ∃ s, s < 2048 ∧ (lus x 53).toInt32 = nI s := by
  obtain ⟨n, hn, rfl⟩ := wb_of x
  have e : lus (lN n) 53 = lN (n / 2 ^ 53) := wb_shr hn (k := 53) (by decide)
  refine ⟨n / 2 ^ 53, by omega, ?_⟩
  rw [e]
  exact s32 _ (by omega)
theorem lgc_0 (x y : Int64) : lg_cmp x y = 0 ↔ x = y := by
  unfold lg_cmp
  by_cases h : x > y
  · rw [if_pos h]
    exact ⟨fun z => absurd z (by decide), fun z => by rw [z, gt_iff_lt] at h; exact absurd h (by rw [Int64.lt_iff_toInt_lt]; omega)⟩
  · rw [if_neg h]
    by_cases h2 : x = y
    · rw [if_pos h2]
      exact ⟨fun _ => h2, fun _ => rfl⟩
    · rw [if_neg h2]
      exact ⟨fun z => absurd z (by decide), fun z => absurd z h2⟩
theorem lN_inj {a b : Nat} (ha : a < 2 ^ 64) (hb : b < 2 ^ 64) (h : lN a = lN b) : a = b := by
  have e : (lN a).toBitVec.toNat = (lN b).toBitVec.toNat := congrArg (fun z => z.toBitVec.toNat) h
  rw [wb_tn ha, wb_tn hb] at e
  exact e
theorem keyN_lt {ρ n : Nat} {h : Nat → Nat} (hr : ρ < 1099511627776) (hn : n < 8) (hh : ∀ p, p < 6 → h p < 8) : keyN ρ n h < 2 ^ 64 := by
  unfold keyN
  have a0 := hh 0 (by decide); have a1 := hh 1 (by decide); have a2 := hh 2 (by decide); have a3 := hh 3 (by decide); have a4 := hh 4 (by decide); have a5 := hh 5 (by decide)
  omega
/-- what it has written down: of this question, the answer for whatever town with the same things; or of one before -/
def MEMO (S0 : Nat → Int32) (md : Int32) (R : List RU) (o : Nat → Bool) (ρ : Nat) (σ : SG) : Prop := ∀ y, y < 2048 → ∃ r n, ∃ h : Nat → Nat, r ≤ ρ ∧ n < 8 ∧ (∀ p, p < 6 → h p < 8) ∧ σ.2 128 y = lN (keyN r n h) ∧ (r = ρ → ∀ S, RCH S0 S → (∀ p, p < 6 → hsN S p = h p) → σ.1 129 y = vaA md R o n S)
theorem MEMO.keep {S0 : Nat → Int32} {md : Int32} {R : List RU} {o : Nat → Bool} {ρ : Nat} {σ σ' : SG} (h : MEMO S0 md R o ρ σ) (h1 : σ'.2 128 = σ.2 128) (h2 : σ'.1 129 = σ.1 129) : MEMO S0 md R o ρ σ' := by
  intro y hy
  rw [h1, h2]
  exact h y hy
theorem MEMO.hit {S0 : Nat → Int32} {md : Int32} {R : List RU} {o : Nat → Bool} {ρ n : Nat} {σ : SG} {S : Nat → Int32} {y : Nat} (h : MEMO S0 md R o ρ σ) (hr : ρ < 1099511627776) (hn : n < 8) (hS : RCH S0 S) (hy : y < 2048) (e : σ.2 128 y = lN (keyN ρ n (hsN S))) : σ.1 129 y = vaA md R o n S := by
  obtain ⟨r, m, g, h1, h2, h3, h4, h5⟩ := h y hy
  have hh : ∀ p, p < 6 → hsN S p < 8 := fun p hp => by have : hsN S p ≤ 7 := (rgP hS.1 hp).2.1.1; omega
  rw [h4] at e
  obtain ⟨e1, e2, e3⟩ := keyN_inj h2 hn h3 hh (lN_inj (keyN_lt (by omega) h2 h3) (keyN_lt hr hn hh) e)
  subst e2
  exact h5 e1 S hS (fun p hp => (e3 p hp).symm)
theorem uL_same {σ : SG} {c i : Nat} {v : Int64} : (uL σ c i v).2 c i = v := if_pos ⟨rfl, rfl⟩
theorem uL_i {σ : SG} {c i c' j : Nat} {v : Int64} (h : j ≠ i) : (uL σ c i v).2 c' j = σ.2 c' j := if_neg (fun z => h z.2)
theorem uL_c {σ : SG} {c i c' j : Nat} {v : Int64} (h : c' ≠ c) : (uL σ c i v).2 c' j = σ.2 c' j := if_neg (fun z => h z.1)
theorem MEMO.put {S0 : Nat → Int32} {md : Int32} {R : List RU} {o : Nat → Bool} {ρ n : Nat} {σ : SG} {S : Nat → Int32} {y : Nat} (h : MEMO S0 md R o ρ σ) (hn : n < 8) (hS : RCH S0 S) : MEMO S0 md R o ρ (uI (uL σ 128 y (lN (keyN ρ n (hsN S)))) 129 y (vaA md R o n S)) := by
  intro z hz
  by_cases e : z = y
  · subst e
    refine ⟨ρ, n, hsN S, Nat.le_refl _, hn, fun p hp => by have : hsN S p ≤ 7 := (rgP hS.1 hp).2.1.1; omega, uL_same, fun _ T hT hh => ?_⟩
    rw [uI_same]
    exact (vaA_sim n S T hS.1 (hS.sim hT hh)).symm
  · obtain ⟨r, m, g, h1, h2, h3, h4, h5⟩ := h z hz
    refine ⟨r, m, g, h1, h2, h3, (uL_i e).trans h4, fun er T hT hh => ?_⟩
    rw [uI_i e]
    exact h5 er T hT hh
/-! its leaves -/
def oin (S : Nat → Int32) (o : Nat → Bool) : Prop := ∀ p, p < 6 → o p = true → p < ppN S
theorem b_isDone {t : Nat} {σ : SG} {S : Nat → Int32} {o : Nat → Bool} (hT : TWR t σ S o) (hg : GD S) (ho : oin S o) : f_To_isDone t σ = some (bI (doneP S o), σ) := by
  unfold f_To_isDone
  have e2 : σ.1 t 2 = nI (ppN S) := hT.1.trans hg.1.2
  rw [hT.2.2.1, hT.2.2.2.1, wN_orN, e2, wN_all _ hg.1.1]
  have h1 := wN_lt (fun p => whS S (fun _ => false) p || o p)
  have h2 := wN_lt (fun p => decide (p < ppN S))
  have iff : (nI (wN fun p => whS S (fun _ => false) p || o p) = nI (wN fun p => decide (p < ppN S))) ↔ doneP S o := by
    rw [n_inj (by omega) (by omega)]
    constructor
    · intro h
      refine wN_ext fun p hp => ?_
      have this : (whS S (fun _ => false) p || o p) = decide (p < ppN S) := wN_inj h p hp
      rw [← whS_o]
      unfold thrS bel
      dsimp only
      rw [← this]
      have hz : o p = true → whS S (fun _ => false) p = whS S (fun _ => false) p := fun _ => rfl
      cases whS S (fun _ => false) p <;> cases o p <;> rfl
    · intro h
      refine wN_ext fun p hp => ?_
      have := wN_inj h p hp
      rw [← whS_o] at this
      unfold thrS bel at this
      dsimp only at this ⊢
      cases hop : o p with
      | true => rw [Bool.or_true, decide_eq_true (ho p hp hop)]
      | false =>
        rw [hop] at this
        simpa using this
  by_cases h : doneP S o
  · rw [if_neg (fun z => z (iff.mpr h)), bI_pos h]
  · rw [if_pos (fun z => h (iff.mp z)), bI_neg h]
theorem b_atEnd {σ : SG} {S : Nat → Int32} {o : Nat → Bool} {md : Int32} {n : Nat} (hT : TWR 90 σ S o) (hg : GD S) (ho : oin S o) (hm : σ.1 125 4 = md) (hn : n < 100) : f_Se_atEnd (nI n) σ = some (edA md S o n, σ) := by
  unfold f_Se_atEnd edA
  rw [hm, b_isDone hT hg ho, bnd_some, hT.2.2.2.1, bcn_wN]
  by_cases m1 : md = 1
  · rw [if_pos m1, if_pos m1]
    by_cases h : doneP S o
    · rw [bI_pos h, if_neg (by decide), if_pos h]
    · rw [bI_neg h, if_pos rfl, if_neg h]
  · rw [if_neg m1, if_neg m1]
    by_cases m2 : md = 2
    · rw [if_pos m2, if_pos m2]
    · rw [if_neg m2, if_neg m2]
      have fin : (if bI (doneP S o) = 0 then some ((1000000 : Int32), σ) else some ((0 : Int32), σ)) = some (if doneP S o then (0 : Int32) else 1000000, σ) := by
        by_cases h : doneP S o
        · rw [bI_pos h, if_neg (by decide), if_pos h]
        · rw [bI_neg h, if_pos rfl, if_neg h]
      by_cases m3 : md = 3
      · rw [if_pos m3, if_pos m3]
        exact fin
      · rw [if_neg m3, if_neg m3]
        by_cases m4 : md = 4
        · rw [if_pos m4, if_pos m4]
          have z : (0 : Int32) < nI n ↔ 0 < n := n_lt (a := 0) (by decide) (by omega)
          by_cases h : 0 < n
          · rw [if_pos (z.mpr h), if_pos h]
          · rw [if_neg (fun q => h (z.mp q)), if_neg h]
        · rw [if_neg m4, if_neg m4]
          exact fin
theorem b_atFirst {σ : SG} {S : Nat → Int32} {o : Nat → Bool} {md : Int32} (hT : TWR 90 σ S o) (hm : σ.1 125 4 = md) : f_Se_atFirst σ = some (fiA md S, σ) := by
  unfold f_Se_atFirst fiA
  rw [hm, hT.2.2.2.1, bcn_wN]
  by_cases m1 : md = 1
  · rw [if_pos m1, if_pos m1]
  · rw [if_neg m1, if_neg m1]
    by_cases m2 : md = 2
    · rw [if_pos m2, if_pos m2]
    · rw [if_neg m2, if_neg m2]
      by_cases m3 : md = 3
      · rw [if_pos m3, if_pos m3]
      · rw [if_neg m3, if_neg m3]
        by_cases m4 : md = 4
        · rw [if_pos m4, if_pos m4]
        · rw [if_neg m4, if_neg m4]
