/-! THE LAW'S LOOP answers 1 -/
theorem ex_ite {c : Prop} [Decidable c] {A B : Option (Int32 × SG)} (h1 : c → ∃ σ', A = some ((1 : Int32), σ')) (h2 : ¬ c → ∃ σ', B = some ((1 : Int32), σ')) : ∃ σ', (if c then A else B) = some ((1 : Int32), σ') := by
  by_cases h : c
  · rw [if_pos h]; exact h1 h
  · rw [if_neg h]; exact h2 h
theorem law_st0 {F G : SG → Option (Int32 × SG)} {k : Int32 → SG → Option (Int32 × SG)} {y : Int32} {σ : SG} {ρ : Nat} {w : WD}  (hC : CALL F G) (hc : IC ρ σ w) (hm : IM σ w) (hr : ρ + 100 < 1099511627776) (K : ∀ σ2 ρ' w', IC ρ' σ2 w' → IM σ2 w' → ρ' ≤ ρ + 100 → ∃ σ', k y σ2 = some (1, σ')) : ∃ σ', bnd (F σ) (fun r2 σ1 => bnd (G σ1) (fun r4 σ3 => if r2 = r4 then lx y (fun y5 => k y5 σ3) else some ((0 : Int32), σ3))) = some (1, σ') := by
  obtain ⟨v, σ1, σ2, w', ρ', q1, q2, q3, q4, q5⟩ := hC ρ σ w hc hm hr
  obtain ⟨σ', e⟩ := K σ2 ρ' w' q3 q4 q5
  refine ⟨σ', ?_⟩
  rw [q1, bnd_some, q2, bnd_some, if_pos rfl, lx_eq, e]
theorem law_st1 {F G : SG → Option (Int32 × SG)} {k : Int32 → SG → Option (Int32 × SG)} {y : Int32} {σ : SG} {ρ : Nat} {w : WD} {c1 : Prop} [Decidable c1] (h1 : c1) (hC : CALL F G) (hc : IC ρ σ w) (hm : IM σ w) (hr : ρ + 100 < 1099511627776) (K : ∀ σ2 ρ' w', IC ρ' σ2 w' → IM σ2 w' → ρ' ≤ ρ + 100 → ∃ σ', k y σ2 = some (1, σ')) : ∃ σ', gd c1 (bnd (F σ) (fun r2 σ1 => gd c1 (bnd (G σ1) (fun r4 σ3 => if r2 = r4 then lx y (fun y5 => k y5 σ3) else some ((0 : Int32), σ3))))) = some (1, σ') := by
  obtain ⟨v, σ1, σ2, w', ρ', q1, q2, q3, q4, q5⟩ := hC ρ σ w hc hm hr
  obtain ⟨σ', e⟩ := K σ2 ρ' w' q3 q4 q5
  refine ⟨σ', ?_⟩
  rw [gd_pos h1, q1, bnd_some, gd_pos h1, q2, bnd_some, if_pos rfl, lx_eq, e]
theorem law_st2 {F G : SG → Option (Int32 × SG)} {k : Int32 → SG → Option (Int32 × SG)} {y : Int32} {σ : SG} {ρ : Nat} {w : WD} {c1 c2 : Prop} [Decidable c1] [Decidable c2] (h1 : c1) (h2 : c2) (hC : CALL F G) (hc : IC ρ σ w) (hm : IM σ w) (hr : ρ + 100 < 1099511627776) (K : ∀ σ2 ρ' w', IC ρ' σ2 w' → IM σ2 w' → ρ' ≤ ρ + 100 → ∃ σ', k y σ2 = some (1, σ')) : ∃ σ', gd c1 (gd c2 (bnd (F σ) (fun r2 σ1 => gd c1 (gd c2 (bnd (G σ1) (fun r4 σ3 => if r2 = r4 then lx y (fun y5 => k y5 σ3) else some ((0 : Int32), σ3))))))) = some (1, σ') := by
  obtain ⟨v, σ1, σ2, w', ρ', q1, q2, q3, q4, q5⟩ := hC ρ σ w hc hm hr
  obtain ⟨σ', e⟩ := K σ2 ρ' w' q3 q4 q5
  refine ⟨σ', ?_⟩
  rw [gd_pos h1, gd_pos h2, q1, bnd_some, gd_pos h1, gd_pos h2, q2, bnd_some, if_pos rfl, lx_eq, e]
theorem law_st3 {F G : SG → Option (Int32 × SG)} {k : Int32 → SG → Option (Int32 × SG)} {y : Int32} {σ : SG} {ρ : Nat} {w : WD} {c1 c2 c3 : Prop} [Decidable c1] [Decidable c2] [Decidable c3] (h1 : c1) (h2 : c2) (h3 : c3) (hC : CALL F G) (hc : IC ρ σ w) (hm : IM σ w) (hr : ρ + 100 < 1099511627776) (K : ∀ σ2 ρ' w', IC ρ' σ2 w' → IM σ2 w' → ρ' ≤ ρ + 100 → ∃ σ', k y σ2 = some (1, σ')) : ∃ σ', gd c1 (gd c2 (gd c3 (bnd (F σ) (fun r2 σ1 => gd c1 (gd c2 (gd c3 (bnd (G σ1) (fun r4 σ3 => if r2 = r4 then lx y (fun y5 => k y5 σ3) else some ((0 : Int32), σ3))))))))) = some (1, σ') := by
  obtain ⟨v, σ1, σ2, w', ρ', q1, q2, q3, q4, q5⟩ := hC ρ σ w hc hm hr
  obtain ⟨σ', e⟩ := K σ2 ρ' w' q3 q4 q5
  refine ⟨σ', ?_⟩
  rw [gd_pos h1, gd_pos h2, gd_pos h3, q1, bnd_some, gd_pos h1, gd_pos h2, gd_pos h3, q2, bnd_some, if_pos rfl, lx_eq, e]
theorem law_st4 {F G : SG → Option (Int32 × SG)} {k : Int32 → SG → Option (Int32 × SG)} {y : Int32} {σ : SG} {ρ : Nat} {w : WD} {c1 c2 c3 c4 : Prop} [Decidable c1] [Decidable c2] [Decidable c3] [Decidable c4] (h1 : c1) (h2 : c2) (h3 : c3) (h4 : c4) (hC : CALL F G) (hc : IC ρ σ w) (hm : IM σ w) (hr : ρ + 100 < 1099511627776) (K : ∀ σ2 ρ' w', IC ρ' σ2 w' → IM σ2 w' → ρ' ≤ ρ + 100 → ∃ σ', k y σ2 = some (1, σ')) : ∃ σ', gd c1 (gd c2 (gd c3 (gd c4 (bnd (F σ) (fun r2 σ1 => gd c1 (gd c2 (gd c3 (gd c4 (bnd (G σ1) (fun r4 σ3 => if r2 = r4 then lx y (fun y5 => k y5 σ3) else some ((0 : Int32), σ3))))))))))) = some (1, σ') := by
  obtain ⟨v, σ1, σ2, w', ρ', q1, q2, q3, q4, q5⟩ := hC ρ σ w hc hm hr
  obtain ⟨σ', e⟩ := K σ2 ρ' w' q3 q4 q5
  refine ⟨σ', ?_⟩
  rw [gd_pos h1, gd_pos h2, gd_pos h3, gd_pos h4, q1, bnd_some, gd_pos h1, gd_pos h2, gd_pos h3, gd_pos h4, q2, bnd_some, if_pos rfl, lx_eq, e]
theorem law_meets {N : Nat} {xs : Nat → Int32} {k : Int32 → SG → Option (Int32 × SG)} {x : Int32} {σ : SG} {ρ : Nat} {w : WD} (h1 : ix (x + (1 : Int32)) N) (h2 : ix (x + (2 : Int32)) N) (h3 : ix (x + (3 : Int32)) N) (hc : IC ρ σ w) (hm : IM σ w) (hr : ρ + 100 < 1099511627776) (K : ∀ σ2 ρ' w', IC ρ' σ2 w' → IM σ2 w' → ρ' ≤ ρ + 100 → ∃ σ', k (x + (5 : Int32)) σ2 = some (1, σ')) : ∃ σ', gd (ix (x + (1 : Int32)) N) (gd (ix (x + (2 : Int32)) N) (gd (ix (x + (3 : Int32)) N) (if (xs (nx (x + (3 : Int32)))) = 0 then f_L_law_446 N xs k x (0 : Int32) (xs (nx (x + (2 : Int32)))) (xs (nx (x + (1 : Int32)))) σ else f_L_law_446 N xs k x (1 : Int32) (xs (nx (x + (2 : Int32)))) (xs (nx (x + (1 : Int32)))) σ))) = some (1, σ') := by
  rw [gd_pos h1, gd_pos h2, gd_pos h3]
  by_cases c : xs (nx (x + (3 : Int32))) = 0
  · rw [if_pos c]
    obtain ⟨v, σ1, σ2, w', ρ', q1, q2, q3, q4, q5⟩ := call_meets (xs (nx (x + (1 : Int32)))) (xs (nx (x + (2 : Int32)))) false ρ σ w hc hm hr
    obtain ⟨σ', e⟩ := K σ2 ρ' w' q3 q4 q5
    have q1' : f_H_meets (xs (nx (x + (1 : Int32)))) (xs (nx (x + (2 : Int32)))) (0 : Int32) σ = some (v, σ1) := q1
    have q2' : f_M_meets (xs (nx (x + (1 : Int32)))) (xs (nx (x + (2 : Int32)))) (0 : Int32) σ1 = some (v, σ2) := q2
    refine ⟨σ', ?_⟩
    unfold f_L_law_446
    rw [q1', bnd_some, gd_pos h1, gd_pos h2, gd_pos h3, if_pos c, q2', bnd_some, if_pos rfl, lx_eq, e]
  · rw [if_neg c]
    obtain ⟨v, σ1, σ2, w', ρ', q1, q2, q3, q4, q5⟩ := call_meets (xs (nx (x + (1 : Int32)))) (xs (nx (x + (2 : Int32)))) true ρ σ w hc hm hr
    obtain ⟨σ', e⟩ := K σ2 ρ' w' q3 q4 q5
    have q1' : f_H_meets (xs (nx (x + (1 : Int32)))) (xs (nx (x + (2 : Int32)))) (1 : Int32) σ = some (v, σ1) := q1
    have q2' : f_M_meets (xs (nx (x + (1 : Int32)))) (xs (nx (x + (2 : Int32)))) (1 : Int32) σ1 = some (v, σ2) := q2
    refine ⟨σ', ?_⟩
    unfold f_L_law_446
    rw [q1', bnd_some, gd_pos h1, gd_pos h2, gd_pos h3, if_neg c, q2', bnd_some, if_pos rfl, lx_eq, e]
theorem law_all {N : Nat} {xs : Nat → Int32} (hN : N < 2147483648) : ∀ (d k m ρ : Nat) (σ : SG) (w : WD), N ≤ 5 * (k + d) → 5 * k ≤ N → d < m → IC ρ σ w → IM σ w → ρ + 100 * d + 100 < 1099511627776 → ∃ σ', f_L_law_18 N xs m (nI (5 * k)) σ = some (1, σ') := by
  have fin : ∀ (k m : Nat) (σ : SG), 5 * k ≤ N → N < 5 * k + 5 → ∃ σ', f_L_law_18 N xs (m + 1) (nI (5 * k)) σ = some (1, σ') := by
    intro k m σ hk h
    refine ⟨σ, ?_⟩
    rw [f_L_law_18, if_pos]
    show nI N - nI 5 < nI (5 * k)
    by_cases h5 : 5 ≤ N
    · rw [n_sub h5]
      exact (n_lt (by omega) (by omega)).mpr (by omega)
    · have := n_subneg (t := N) (lo := 5) (by omega) (by decide)
      exact Int32.lt_of_lt_of_le this (n_0le (by omega))
  intro d
  induction d with
  | zero =>
    intro k m ρ σ w hk hk2 hd hc hm hr
    obtain ⟨m, rfl⟩ : ∃ g, m = g + 1 := ⟨m - 1, by omega⟩
    exact fin k m σ hk2 (by omega)
  | succ d ih =>
    intro k m ρ σ w hk hk2 hd hc hm hr
    obtain ⟨m, rfl⟩ : ∃ g, m = g + 1 := ⟨m - 1, by omega⟩
    by_cases hend : N < 5 * k + 5
    · exact fin k m σ hk2 hend
    have h0 : ix (nI (5 * k)) N := ix_nI (by omega) hN
    have h1 : ix (nI (5 * k) + (1 : Int32)) N := by rw [show nI (5 * k) + (1 : Int32) = nI (5 * k + 1) from n_add _ 1]; exact ix_nI (by omega) hN
    have h2 : ix (nI (5 * k) + (2 : Int32)) N := by rw [show nI (5 * k) + (2 : Int32) = nI (5 * k + 2) from n_add _ 2]; exact ix_nI (by omega) hN
    have h3 : ix (nI (5 * k) + (3 : Int32)) N := by rw [show nI (5 * k) + (3 : Int32) = nI (5 * k + 3) from n_add _ 3]; exact ix_nI (by omega) hN
    have h4 : ix (nI (5 * k) + (4 : Int32)) N := by rw [show nI (5 * k) + (4 : Int32) = nI (5 * k + 4) from n_add _ 4]; exact ix_nI (by omega) hN
    have K : ∀ (σ2 : SG) (ρ' : Nat) (w' : WD), IC ρ' σ2 w' → IM σ2 w' → ρ' ≤ ρ + 100 → ∃ σ', f_L_law_18 N xs m (nI (5 * k) + (5 : Int32)) σ2 = some (1, σ') := by
      intro σ2 ρ' w' a b c
      rw [show nI (5 * k) + (5 : Int32) = nI (5 * (k + 1)) from n_add _ 5]
      exact ih (k + 1) m ρ' σ2 w' (by omega) (by omega) (by omega) a b (by omega)
    have hr : ρ + 100 < 1099511627776 := by omega
    have hne : ¬ Int32.ofNat N - (5 : Int32) < nI (5 * k) := by
      show ¬ nI N - nI 5 < nI (5 * k)
      rw [n_sub (by omega)]
      exact fun z => by have := (n_lt (by omega) (by omega)).mp z; omega
    rw [f_L_law_18, if_neg hne, gd_pos h0]
    refine ex_ite (fun _ => law_st4 h1 h2 h3 h4 (call_person _ _ _ _) hc hm hr K) (fun _ => ?_)
    refine ex_ite (fun _ => law_st2 h1 h2 (call_personOf _ _) hc hm hr K) (fun _ => ?_)
    refine ex_ite (fun _ => law_st3 h1 h2 h3 (call_change _ _ _) hc hm hr K) (fun _ => ?_)
    refine ex_ite (fun _ => law_st2 h1 h2 (call_remake _ _) hc hm hr K) (fun _ => ?_)
    refine ex_ite (fun _ => law_meets h1 h2 h3 hc hm hr K) (fun _ => ?_)
    refine ex_ite (fun _ => law_st2 h1 h2 (call_worth _ _) hc hm hr K) (fun _ => ?_)
    refine ex_ite (fun _ => law_st2 h1 h2 (call_jar _ _) hc hm hr K) (fun _ => ?_)
    refine ex_ite (fun _ => law_st1 h1 (call_fee _) hc hm hr K) (fun _ => ?_)
    refine ex_ite (fun _ => law_st2 h1 h2 (call_thing _ _) hc hm hr K) (fun _ => ?_)
    refine ex_ite (fun _ => law_st1 h1 (call_state _) hc hm hr K) (fun _ => ?_)
    refine ex_ite (fun _ => law_st3 h1 h2 h3 (call_feed _ _) hc hm hr K) (fun _ => ?_)
    refine ex_ite (fun _ => law_st0  (call_rules) hc hm hr K) (fun _ => ?_)
    refine ex_ite (fun _ => law_st1 h1 (call_cans _) hc hm hr K) (fun _ => ?_)
    refine ex_ite (fun _ => law_st2 h1 h2 (call_make _ _) hc hm hr K) (fun _ => ?_)
    refine ex_ite (fun _ => law_st0  (call_back) hc hm hr K) (fun _ => ?_)
    refine ex_ite (fun _ => law_st0  (call_fewest) hc hm hr K) (fun _ => ?_)
    refine ex_ite (fun _ => law_st1 h1 (call_ith _) hc hm hr K) (fun _ => ?_)
    refine ex_ite (fun _ => law_st1 h1 (call_ways _) hc hm hr K) (fun _ => ?_)
    refine ex_ite (fun _ => law_st1 h1 (call_most _) hc hm hr K) (fun _ => ?_)
    refine ex_ite (fun _ => law_st1 h1 (call_cheapest _) hc hm hr K) (fun _ => ?_)
    refine ex_ite (fun _ => law_st2 h1 h2 (call_cheaply _ _) hc hm hr K) (fun _ => ?_)
    refine ex_ite (fun _ => law_st0  (call_bars) hc hm hr K) (fun _ => ?_)
    refine ex_ite (fun _ => law_st0  (call_jars) hc hm hr K) (fun _ => ?_)
    refine ex_ite (fun _ => law_st1 h1 (call_feeFor _) hc hm hr K) (fun _ => ?_)
    refine ex_ite (fun _ => law_st1 h1 (call_rings _) hc hm hr K) (fun _ => ?_)
    refine ex_ite (fun _ => law_st2 h1 h2 (call_ring _ _) hc hm hr K) (fun _ => ?_)
    refine ex_ite (fun _ => law_st2 h1 h2 (call_comes _ _) hc hm hr K) (fun _ => ?_)
    refine ex_ite (fun _ => law_st2 h1 h2 (call_dearest _ _) hc hm hr K) (fun _ => ?_)
    refine ex_ite (fun _ => law_st1 h1 (call_game _) hc hm hr K) (fun _ => ?_)
    refine ex_ite (fun _ => law_st1 h1 (call_play _) hc hm hr K) (fun _ => ?_)
    refine ex_ite (fun _ => law_st3 h1 h2 h3 (call_report _ _ _) hc hm hr K) (fun _ => ?_)
    refine ex_ite (fun _ => law_st0  (call_forget) hc hm hr K) (fun _ => ?_)
    refine ex_ite (fun _ => law_st1 h1 (call_span _) hc hm hr K) (fun _ => ?_)
    refine ex_ite (fun _ => law_st0  (call_liar) hc hm hr K) (fun _ => ?_)
    refine ex_ite (fun _ => law_st1 h1 (call_seed _) hc hm hr K) (fun _ => ?_)
    refine ex_ite (fun _ => law_st0  (call_draw) hc hm hr K) (fun _ => ?_)
    refine ex_ite (fun _ => law_st1 h1 (call_often _) hc hm hr K) (fun _ => ?_)
    refine ex_ite (fun _ => law_st0  (call_prove) hc hm hr K) (fun _ => ?_)
    refine ex_ite (fun _ => law_st2 h1 h2 (call_row _ _) hc hm hr K) (fun _ => ?_)
    refine ex_ite (fun _ => law_st3 h1 h2 h3 (call_alter _ _ _) hc hm hr K) (fun _ => ?_)
    refine ex_ite (fun _ => law_st0  (call_judge) hc hm hr K) (fun _ => ?_)
    refine ex_ite (fun _ => law_st3 h1 h2 h3 (call_sheet _ _ _) hc hm hr K) (fun _ => ?_)
    refine ex_ite (fun _ => law_st3 h1 h2 h3 (call_write _ _ _) hc hm hr K) (fun _ => ?_)
    refine ex_ite (fun _ => law_st3 h1 h2 h3 (call_item _ _ _) hc hm hr K) (fun _ => ?_)
    refine ex_ite (fun _ => law_st3 h1 h2 h3 (call_makeAll _ _ _) hc hm hr K) (fun _ => ?_)
    refine ex_ite (fun _ => law_st3 h1 h2 h3 (call_wouldCost _ _ _) hc hm hr K) (fun _ => ?_)
    refine ex_ite (fun _ => law_st3 h1 h2 h3 (call_shelf _ _ _) hc hm hr K) (fun _ => ?_)
    refine ex_ite (fun _ => law_st2 h1 h2 (call_taken _ _) hc hm hr K) (fun _ => ?_)
    refine ex_ite (fun _ => law_st3 h1 h2 h3 (call_act _ _ _) hc hm hr K) (fun _ => ?_)
    refine ex_ite (fun _ => law_st1 h1 (call_trace _) hc hm hr K) (fun _ => ?_)
    refine ex_ite (fun _ => law_st1 h1 (call_many _) hc hm hr K) (fun _ => ?_)
    refine ex_ite (fun _ => law_st0  (call_keep) hc hm hr K) (fun _ => ?_)
    refine ex_ite (fun _ => law_st0  (call_again) hc hm hr K) (fun _ => ?_)
    obtain ⟨σ', e⟩ := K σ ρ w hc hm (by omega)
    exact ⟨σ', e⟩
