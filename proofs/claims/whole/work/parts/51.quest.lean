/-! the QUESTIONS of the search, both sides: how few, the ith, how many ways, how many whole at most, the cheapest, its ith -/
def nob : Nat → Bool := fun _ => false
theorem n_sp {x : Int32} {b : Nat} (hb : b < 1000) (h0 : 0 ≤ x) (h1 : x ≤ nI b) : ∃ k, k ≤ b ∧ x = nI k := by
  rw [i_le] at h0 h1
  rw [nI_toInt (by omega)] at h1
  obtain ⟨k, a, e⟩ := n_of (n := b + 1) h0 (by omega)
  exact ⟨k, by omega, e⟩
/-- both sides hold the same town, no one is left out -/
abbrev PS (σ : SG) (R : List RU) (ρ : Nat) : Prop := GD (σ.1 149) ∧ TWR 20 σ (σ.1 149) nob ∧ RLt 20 σ R ∧ RMt (σ.1 149) R ∧ σ.1 148 4 = -1 ∧ SV ρ σ
abbrev Lcq (c : Nat) : Prop := Lto c ∨ c = 126
def frC (σ σ' : SG) : Prop := (∀ c, ¬ Lcq c → σ'.1 c = σ.1 c) ∧ ∀ c, c ≠ 128 → c ≠ 125 → σ'.2 c = σ.2 c
theorem frC.rf {σ : SG} : frC σ σ := ⟨fun _ _ => rfl, fun _ _ _ => rfl⟩
theorem frC.of {a b : SG} (h : frT a b) : frC a b := ⟨fun c hc => h.1 c (fun z => hc (Or.inl z)), h.2.1⟩
abbrev CO (σ σ' : SG) (R : List RU) (ρ : Nat) : Prop := frC σ σ' ∧ ∃ ρ', ρ ≤ ρ' ∧ ρ' ≤ ρ + 1 ∧ PS σ' R ρ'
abbrev MO (σ σ' : SG) (R : List RU) (ρ : Nat) : Prop := fr Lgo σ σ' ∧ PS σ' R ρ ∧ σ'.1 149 = σ.1 149 ∧ ∀ i, ¬ (11 ≤ i ∧ i ≤ 15) → i ≠ 6 → i ≠ 7 → σ'.1 148 i = σ.1 148 i
theorem abs_nob {x : Int32} (h : x = -1) : absQ x nob := ⟨fun p hp => ⟨fun z => (by cases z), fun z => absurd (h.symm.trans z) ((by decide : ∀ p, p < 6 → ¬ ((-1 : Int32) = nI p)) p hp)⟩, Or.inl h⟩
theorem oin_nob (S : Nat → Int32) : oin S nob := fun p _ z => by cases z
section PSS
variable {σ σ' : SG} {R : List RU} {ρ ρ' : Nat}
theorem PS.c (h : PS σ R ρ) (hf : frC σ σ') (hv : SV ρ' σ') : PS σ' R ρ' := by
  obtain ⟨a1, a2, a3, a4, a5, -⟩ := h
  have e : σ'.1 149 = σ.1 149 := hf.1 _ (by decide)
  refine ⟨by rw [e]; exact a1, by rw [e]; exact a2.cong (fun c c1 c2 _ => hf.1 c (by omega)), a3.cong (fun c c1 c2 => hf.1 c (by omega)), by rw [e]; exact a4, by rw [hf.1 148 (by decide)]; exact a5, hv⟩
theorem PS.m (h : PS σ R ρ) (hf : fr Lgo σ σ') (e : σ'.1 149 = σ.1 149) (e4 : σ'.1 148 4 = σ.1 148 4) : PS σ' R ρ := by
  obtain ⟨a1, a2, a3, a4, a5, a6⟩ := h
  refine ⟨by rw [e]; exact a1, by rw [e]; exact a2.cong (fun c c1 c2 _ => hf.1 c (by omega)), a3.cong (fun c c1 c2 => hf.1 c (by omega)), by rw [e]; exact a4, by rw [e4]; exact a5, by unfold SV; rw [hf.2]; exact a6⟩
theorem MO.rf (h : PS σ R ρ) : MO σ σ R ρ := ⟨fr.rf, h, rfl, fun _ _ _ _ => rfl⟩
theorem CO.rf (h : PS σ R ρ) : CO σ σ R ρ := ⟨frC.rf, ρ, Nat.le_refl _, by omega, h⟩
theorem mq_go (h : PS σ R ρ) {n : Nat} (hn : n ≤ 6) : ∃ σ', f_M_goesAll (nI n) σ = some ((), σ') ∧ MO σ σ' R ρ ∧ ACC σ' (rowsA R nob n (σ.1 149)) (mostA R nob n (σ.1 149)) := by
  obtain ⟨σ', q1, q2, q3, q4, q5⟩ := m_goesAll hn rfl h.1 h.2.2.2.1 (abs_nob h.2.2.2.2.1)
  exact ⟨σ', q1, ⟨q2, h.m q2 q3 (q5 4 (by decide) (by decide) (by decide)), q3, q5⟩, q4⟩
theorem cq_told (h : PS σ R ρ) (hr : ρ + 1 < 1099511627776) (md : Int32) {n : Nat} (hn : n ≤ 6) : ∃ σ', f_Se_told 20 md (nI n) σ = some (vaA md R nob n (σ.1 149), σ') ∧ CO σ σ' R ρ := by
  obtain ⟨σ', q1, q2, q3⟩ := b_told (md := md) (n := n) (by decide) (by omega) h.2.2.2.2.2 hr h.2.1 h.1 h.2.2.1 (oin_nob _)
  exact ⟨σ', q1, frC.of q2, ρ + 1, by omega, by omega, h.c (frC.of q2) q3⟩
theorem cq_first (h : PS σ R ρ) (hr : ρ + 1 < 1099511627776) (md : Int32) {n : Nat} (hn : n ≤ 6) : ∃ σ', f_Se_first 20 md (nI n) σ = some (if vaA md R nob n (σ.1 149) < (1000000 : Int32) then nI (fsA md R nob n (σ.1 149)).length else -3, σ') ∧ CO σ σ' R ρ ∧ (vaA md R nob n (σ.1 149) < (1000000 : Int32) → ∀ j x, (fsA md R nob n (σ.1 149))[j]? = some x → σ'.1 126 j = nI x) := by
  obtain ⟨σ', q1, q2, q3, q4, q5⟩ := b_first (md := md) (n := n) (by decide) hn h.2.2.2.2.2 hr h.2.1 h.1 h.2.2.1 (oin_nob _)
  exact ⟨σ', q1, ⟨⟨q2, q3⟩, ρ + 1, by omega, by omega, h.c ⟨q2, q3⟩ q4⟩, q5⟩
end PSS
def wayA (S : Nat → Int32) (R : List RU) (x : Int32) : Int32 := if 0 ≤ x ∧ x ≤ 6 then nI (rowsA R nob (nx x) S).length else -1
def mosA (S : Nat → Int32) (R : List RU) (x : Int32) : Int32 := if 0 ≤ x ∧ x ≤ 6 then nI (mostA R nob (nx x) S) else -1
def bcA : Option ROW → Int32
  | none => -3
  | some r => nI r.2
def chpA (S : Nat → Int32) (R : List RU) (x : Int32) : Int32 := if 0 ≤ x ∧ x ≤ 6 then bcA (bestC (rowsA R nob (nx x) S)) else -1
def bsA : Option (List Nat) → Int32
  | none => -3
  | some r => nI r.length
def fewA (S : Nat → Int32) (R : List RU) : Int32 := bsA (bestS (rowsA R nob 6 S))
def atA : Option (List Nat) → Nat → Int32
  | none, _ => -3
  | some r, k => match r[k]? with
    | none => -3
    | some c => nI c
theorem atA_ge {r : List Nat} {k : Nat} (h : r.length ≤ k) : atA (some r) k = -3 := by
  show (match r[k]? with | none => -3 | some c => nI c) = -3
  rw [List.getElem?_eq_none h]
theorem atA_lt {r : List Nat} {k c : Nat} (h : r[k]? = some c) : atA (some r) k = nI c := by
  show (match r[k]? with | none => -3 | some c => nI c) = nI c
  rw [h]
def ithA (S : Nat → Int32) (R : List RU) (x : Int32) : Int32 := if 0 ≤ x ∧ x ≤ 5 then atA (bestS (rowsA R nob 6 S)) (nx x) else -1
def chyA (S : Nat → Int32) (R : List RU) (x y : Int32) : Int32 := if 0 ≤ x ∧ x ≤ 6 then (if 0 ≤ y ∧ y ≤ 5 then atA ((bestC (rowsA R nob (nx x) S)).map fun r => r.1) (nx y) else -1) else -1
theorem best_mem : ∀ (L : List ROW) (r : ROW), bestC L = some r → r ∈ L := by
  refine snoc_ind (fun r h => by cases h) fun l a ih r h => ?_
  rw [bestC_app] at h
  cases hb : bestC l with
  | none =>
    rw [hb] at h
    rw [← Option.some.inj h]
    exact List.mem_append_right _ List.mem_cons_self
  | some x =>
    rw [hb] at h
    unfold bsC at h
    dsimp only at h
    by_cases hlt : a.2 < x.2
    · rw [if_pos hlt] at h
      rw [← Option.some.inj h]
      exact List.mem_append_right _ List.mem_cons_self
    · rw [if_neg hlt] at h
      exact List.mem_append_left _ (ih r (by rw [hb]; exact h))
section QS
variable {σ : SG} {R : List RU} {ρ : Nat}
theorem cq_ways (h : PS σ R ρ) (hr : ρ + 1 < 1099511627776) (x : Int32) : ∃ σ', f_H_ways x σ = some (wayA (σ.1 149) R x, σ') ∧ CO σ σ' R ρ := by
  unfold f_H_ways wayA
  rw [b_isIn, bnd_some]
  by_cases hx : 0 ≤ x ∧ x ≤ 6
  · obtain ⟨n, hn, rfl⟩ := n_sp (b := 6) (by decide) hx.1 hx.2
    rw [if_neg (bI_n0.mpr hx), if_pos hx]
    obtain ⟨σ', q1, q2⟩ := cq_told h hr 1 hn
    rw [q1, bnd_some, va_ways, nx_nI (by omega)]
    exact ⟨σ', rfl, q2⟩
  · rw [if_pos (bI_0.mpr hx), if_neg hx]
    exact ⟨σ, rfl, CO.rf h⟩
theorem mq_isLong (x : Int32) (σ : SG) : f_M_isLong x σ = some (bI (0 ≤ x ∧ x ≤ 6), σ) := by
  unfold f_M_isLong
  rw [m_in32 (a := 0) (b := 6) (by decide) (by decide), bnd_some, gd01]
theorem mq_isPlace (x : Int32) (σ : SG) : f_M_isPlace x σ = some (bI (0 ≤ x ∧ x ≤ 5), σ) := by
  unfold f_M_isPlace
  rw [m_in32 (a := 0) (b := 5) (by decide) (by decide), bnd_some, gd01]
theorem mq_ways (h : PS σ R ρ) (x : Int32) : ∃ σ', f_M_ways x σ = some (wayA (σ.1 149) R x, σ') ∧ MO σ σ' R ρ := by
  unfold f_M_ways wayA
  rw [mq_isLong, bnd_some]
  by_cases hx : 0 ≤ x ∧ x ≤ 6
  · obtain ⟨n, hn, rfl⟩ := n_sp (b := 6) (by decide) hx.1 hx.2
    rw [if_pos (bI_n0.mpr hx), if_pos hx]
    obtain ⟨σ', q1, q2, q3⟩ := mq_go h hn
    rw [q1, bnd_some, q3.1, nx_nI (by omega)]
    exact ⟨σ', rfl, q2⟩
  · rw [if_neg (fun z => z (bI_0.mpr hx)), if_neg hx]
    exact ⟨σ, rfl, MO.rf h⟩
theorem cq_most (h : PS σ R ρ) (hr : ρ + 1 < 1099511627776) (x : Int32) : ∃ σ', f_H_most x σ = some (mosA (σ.1 149) R x, σ') ∧ CO σ σ' R ρ := by
  unfold f_H_most mosA
  rw [b_isIn, bnd_some]
  by_cases hx : 0 ≤ x ∧ x ≤ 6
  · obtain ⟨n, hn, rfl⟩ := n_sp (b := 6) (by decide) hx.1 hx.2
    rw [if_neg (bI_n0.mpr hx), if_pos hx]
    obtain ⟨σ', q1, q2⟩ := cq_told h hr 2 hn
    rw [q1, bnd_some, va_most (o := nob) rfl n _ h.1, nx_nI (by omega)]
    exact ⟨σ', rfl, q2⟩
  · rw [if_pos (bI_0.mpr hx), if_neg hx]
    exact ⟨σ, rfl, CO.rf h⟩
theorem mq_most (h : PS σ R ρ) (x : Int32) : ∃ σ', f_M_most x σ = some (mosA (σ.1 149) R x, σ') ∧ MO σ σ' R ρ := by
  unfold f_M_most mosA
  rw [mq_isLong, bnd_some]
  by_cases hx : 0 ≤ x ∧ x ≤ 6
  · obtain ⟨n, hn, rfl⟩ := n_sp (b := 6) (by decide) hx.1 hx.2
    rw [if_pos (bI_n0.mpr hx), if_pos hx]
    obtain ⟨σ', q1, q2, q3⟩ := mq_go h hn
    rw [q1, bnd_some, q3.2.1, nx_nI (by omega)]
    exact ⟨σ', rfl, q2⟩
  · rw [if_neg (fun z => z (bI_0.mpr hx)), if_neg hx]
    exact ⟨σ, rfl, MO.rf h⟩
theorem rowc_lt (h : PS σ R ρ) {n : Nat} (hn : n ≤ 6) : ∀ r ∈ rowsA R nob n (σ.1 149), r.2 < 1000000 := fun r hr => by
  have := rows_cost h.2.2.2.1.2 n _ h.1 r hr
  omega
theorem rowl_lt {S : Nat → Int32} {n : Nat} (hn : n ≤ 6) : ∀ r ∈ rowsA R nob n S, r.1.length < 1000000 := fun r hr => by
  have := rows_len n _ r hr
  omega
theorem cq_cheapest (h : PS σ R ρ) (hr : ρ + 1 < 1099511627776) (x : Int32) : ∃ σ', f_H_cheapest x σ = some (chpA (σ.1 149) R x, σ') ∧ CO σ σ' R ρ := by
  unfold f_H_cheapest chpA
  rw [b_isIn, bnd_some]
  by_cases hx : 0 ≤ x ∧ x ≤ 6
  · obtain ⟨n, hn, rfl⟩ := n_sp (b := 6) (by decide) hx.1 hx.2
    rw [if_pos (bI_n0.mpr hx), if_pos hx]
    obtain ⟨σ', q1, q2⟩ := cq_told h hr 3 hn
    rw [q1, bnd_some, va_cost h.2.2.2.1.2 n _ h.1, nx_nI (by omega)]
    refine ⟨σ', ?_, q2⟩
    have b := best_cost _ (rowc_lt h hn)
    cases hb : bestC (rowsA R nob n (σ.1 149)) with
    | none =>
      rw [hb] at b
      have b : mn (fun r => r.2) (rowsA R nob n (σ.1 149)) = 1000000 := b
      rw [b, if_pos (by decide)]
      rfl
    | some r =>
      rw [hb] at b
      obtain ⟨b1, b2⟩ := b
      rw [b1, if_neg (show ¬ (1000000 : Int32) ≤ nI r.2 from nI_ge b2 (by decide))]
      rfl
  · rw [if_neg (fun z => z (bI_0.mpr hx)), if_neg hx]
    exact ⟨σ, rfl, CO.rf h⟩
theorem mq_cheapest (h : PS σ R ρ) (x : Int32) : ∃ σ', f_M_cheapest x σ = some (chpA (σ.1 149) R x, σ') ∧ MO σ σ' R ρ := by
  unfold f_M_cheapest chpA
  rw [mq_isLong, bnd_some]
  by_cases hx : 0 ≤ x ∧ x ≤ 6
  · obtain ⟨n, hn, rfl⟩ := n_sp (b := 6) (by decide) hx.1 hx.2
    rw [if_pos (bI_n0.mpr hx), if_pos hx]
    obtain ⟨σ', q1, q2, q3⟩ := mq_go h hn
    rw [q1, bnd_some, nx_nI (by omega)]
    refine ⟨σ', ?_, q2⟩
    have b := q3.2.2.2.2
    cases hb : bestC (rowsA R nob n (σ.1 149)) with
    | none =>
      rw [hb] at b
      have b : σ'.1 148 14 = -1 := b
      rw [b, if_neg (by decide)]
      rfl
    | some r =>
      rw [hb] at b
      obtain ⟨b1, b2, b3, b4, b5⟩ := b
      rw [b3, if_pos (nI_pos' (by omega))]
      rfl
  · rw [if_neg (fun z => z (bI_0.mpr hx)), if_neg hx]
    exact ⟨σ, rfl, MO.rf h⟩
/-- the class's first row, told of the reference's best -/
theorem cq_bestS (h : PS σ R ρ) (hr : ρ + 1 < 1099511627776) {n : Nat} (hn : n ≤ 6) : ∃ σ', f_Se_first 20 0 (nI n) σ = some (bsA (bestS (rowsA R nob n (σ.1 149))), σ') ∧ CO σ σ' R ρ ∧ ∀ r, bestS (rowsA R nob n (σ.1 149)) = some r → r.length ≤ 6 ∧ ∀ j x, r[j]? = some x → σ'.1 126 j = nI x := by
  obtain ⟨σ', q1, q2, q3⟩ := cq_first h hr 0 hn
  rw [va_len] at q1 q3
  refine ⟨σ', ?_, q2, fun r hb => ?_⟩
  · rw [q1]
    have b := best_len _ (rowl_lt (R := R) (S := σ.1 149) hn)
    cases hb : bestS (rowsA R nob n (σ.1 149)) with
    | none =>
      rw [hb] at b
      have b : mn (fun r => r.1.length) (rowsA R nob n (σ.1 149)) = 1000000 := b
      rw [b, if_neg (by decide)]
      rfl
    | some r =>
      rw [hb] at b
      obtain ⟨b1, b2⟩ := b
      have e := fs_S h.1 (show mn (fun r => r.1.length) (rowsA R nob n (σ.1 149)) < 1000000 by omega)
      rw [hb] at e
      rw [b1, if_pos (show nI r.length < (1000000 : Int32) from (n_lt (b := 1000000) (by omega) (by decide)).mpr b2), ← Option.some.inj e]
      rfl
  · have b := best_len _ (rowl_lt (R := R) (S := σ.1 149) hn)
    rw [hb] at b
    obtain ⟨b1, b2⟩ := b
    have e := fs_S h.1 (show mn (fun r => r.1.length) (rowsA R nob n (σ.1 149)) < 1000000 by omega)
    rw [hb] at e
    have e := Option.some.inj e
    rw [← e, b1] at q3
    obtain ⟨x, hx, ex⟩ := mn_at (f := fun r => r.1.length) (rowsA R nob n (σ.1 149)) 1000000 (by show mn _ _ < _; omega)
    have hl := rows_len n _ x hx
    have ex : x.1.length = mn (fun r => r.1.length) (rowsA R nob n (σ.1 149)) := ex
    exact ⟨by omega, q3 ((n_lt (b := 1000000) (by omega) (by decide)).mpr b2)⟩
theorem cq_fewest (h : PS σ R ρ) (hr : ρ + 1 < 1099511627776) : ∃ σ', f_H_fewest σ = some (fewA (σ.1 149) R, σ') ∧ CO σ σ' R ρ := by
  unfold f_H_fewest fewA
  obtain ⟨σ', q1, q2, -⟩ := cq_bestS h hr (n := 6) (by decide)
  have q1 : f_Se_first 20 (0 : Int32) (6 : Int32) σ = _ := q1
  rw [q1, bnd_some]
  exact ⟨σ', rfl, q2⟩
theorem mq_fewest (h : PS σ R ρ) : ∃ σ', f_M_fewest σ = some (fewA (σ.1 149) R, σ') ∧ MO σ σ' R ρ := by
  unfold f_M_fewest fewA
  obtain ⟨σ', q1, q2, q3⟩ := mq_go h (n := 6) (by decide)
  have q1 : f_M_goesAll (6 : Int32) σ = _ := q1
  rw [q1, bnd_some]
  refine ⟨σ', ?_, q2⟩
  have b := q3.2.2.2.1
  cases hb : bestS (rowsA R nob 6 (σ.1 149)) with
  | none =>
    rw [hb] at b
    have b : σ'.1 148 13 = -1 := b
    rw [b, if_neg (by decide)]
    rfl
  | some r =>
    rw [hb] at b
    obtain ⟨b1, b2, b3⟩ := b
    rw [b2, if_pos (nI_pos' (by omega))]
    rfl
theorem cq_ith (h : PS σ R ρ) (hr : ρ + 1 < 1099511627776) (x : Int32) : ∃ σ', f_H_ith x σ = some (ithA (σ.1 149) R x, σ') ∧ CO σ σ' R ρ := by
  unfold f_H_ith ithA
  rw [b_isIn, bnd_some]
  by_cases hx : 0 ≤ x ∧ x ≤ 5
  · obtain ⟨k, hk, rfl⟩ := n_sp (b := 5) (by decide) hx.1 hx.2
    rw [if_pos (bI_n0.mpr hx), if_pos hx]
    obtain ⟨σ', q1, q2, q3⟩ := cq_bestS h hr (n := 6) (by decide)
    have q1 : f_Se_first 20 (0 : Int32) (6 : Int32) σ = _ := q1
    rw [q1, bnd_some, nx_nI (by omega)]
    refine ⟨σ', ?_, q2⟩
    cases hb : bestS (rowsA R nob 6 (σ.1 149)) with
    | none =>
      rw [if_pos (show bsA none ≤ nI k from by rw [i_le, nI_toInt (by omega)]; show (-3 : Int) ≤ k; omega)]
      rfl
    | some r =>
      obtain ⟨hl, hc⟩ := q3 r hb
      show (if nI r.length ≤ nI k then _ else _) = some (atA (some r) k, σ')
      by_cases hlk : r.length ≤ k
      · rw [if_pos ((n_le (by omega) (by omega)).mpr hlk)]
        rw [atA_ge hlk]
      · rw [if_neg (fun z => hlk ((n_le (by omega) (by omega)).mp z)), gd_pos (ix_nI (by omega) (by decide))]
        have e : r[k]? = some (r[k]'(by omega)) := List.getElem?_eq_getElem (by omega)
        rw [atA_lt e, hc k _ e]
  · rw [if_neg (fun z => z (bI_0.mpr hx)), if_neg hx]
    exact ⟨σ, rfl, CO.rf h⟩
theorem mq_ith (h : PS σ R ρ) (x : Int32) : ∃ σ', f_M_ith x σ = some (ithA (σ.1 149) R x, σ') ∧ MO σ σ' R ρ := by
  unfold f_M_ith ithA
  rw [mq_isPlace, bnd_some]
  by_cases hx : 0 ≤ x ∧ x ≤ 5
  · obtain ⟨k, hk, rfl⟩ := n_sp (b := 5) (by decide) hx.1 hx.2
    rw [if_pos (bI_n0.mpr hx), if_pos hx]
    obtain ⟨σ', q1, q2, q3⟩ := mq_go h (n := 6) (by decide)
    have q1 : f_M_goesAll (6 : Int32) σ = _ := q1
    rw [q1, bnd_some, nx_nI (by omega)]
    refine ⟨σ', ?_, q2⟩
    have b := q3.2.2.2.1
    cases hb : bestS (rowsA R nob 6 (σ.1 149)) with
    | none =>
      rw [hb] at b
      have b : σ'.1 148 13 = -1 := b
      rw [b, if_pos (show (-1 : Int32) ≤ nI k from by rw [i_le, nI_toInt (by omega)]; show (-1 : Int) ≤ k; omega)]
      rfl
    | some r =>
      rw [hb] at b
      obtain ⟨hl, b2, hc⟩ := b
      rw [b2]
      by_cases hlk : r.length ≤ k
      · rw [if_pos ((n_le (by omega) (by omega)).mpr hlk)]
        rw [atA_ge hlk]
      · rw [if_neg (fun z => hlk ((n_le (by omega) (by omega)).mp z)), gd_pos (ix_nI (by omega) (by decide))]
        have e : r[k]? = some (r[k]'(by omega)) := List.getElem?_eq_getElem (by omega)
        rw [atA_lt e, hc k _ e]
  · rw [if_neg (fun z => z (bI_0.mpr hx)), if_neg hx]
    exact ⟨σ, rfl, MO.rf h⟩
theorem cq_bestC (h : PS σ R ρ) (hr : ρ + 1 < 1099511627776) {n : Nat} (hn : n ≤ 6) : ∃ σ', f_Se_first 20 3 (nI n) σ = some (bsA ((bestC (rowsA R nob n (σ.1 149))).map fun r => r.1), σ') ∧ CO σ σ' R ρ ∧ ∀ r, bestC (rowsA R nob n (σ.1 149)) = some r → ∀ j x, r.1[j]? = some x → σ'.1 126 j = nI x := by
  obtain ⟨σ', q1, q2, q3⟩ := cq_first h hr 3 hn
  rw [va_cost h.2.2.2.1.2 n _ h.1] at q1 q3
  have b := best_cost _ (rowc_lt h hn)
  refine ⟨σ', ?_, q2, fun r hb => ?_⟩
  · rw [q1]
    cases hb : bestC (rowsA R nob n (σ.1 149)) with
    | none =>
      rw [hb] at b
      have b : mn (fun r => r.2) (rowsA R nob n (σ.1 149)) = 1000000 := b
      rw [b, if_neg (by decide)]
      rfl
    | some r =>
      rw [hb] at b
      obtain ⟨b1, b2⟩ := b
      obtain ⟨cost, e⟩ := fs_C h.2.2.2.1.2 h.1 (show mn (fun r => r.2) (rowsA R nob n (σ.1 149)) < 1000000 by omega)
      rw [hb] at e
      rw [b1, if_pos (show nI r.2 < (1000000 : Int32) from (n_lt (b := 1000000) (by omega) (by decide)).mpr b2), Option.some.inj e]
      rfl
  · rw [hb] at b
    obtain ⟨b1, b2⟩ := b
    obtain ⟨cost, e⟩ := fs_C h.2.2.2.1.2 h.1 (show mn (fun r => r.2) (rowsA R nob n (σ.1 149)) < 1000000 by omega)
    rw [hb] at e
    have e := Option.some.inj e
    rw [b1] at q3
    have q4 := q3 ((n_lt (b := 1000000) (by omega) (by decide)).mpr b2)
    rw [e]
    exact q4
theorem cq_cheaply (h : PS σ R ρ) (hr : ρ + 1 < 1099511627776) (x y : Int32) : ∃ σ', f_H_cheaply x y σ = some (chyA (σ.1 149) R x y, σ') ∧ CO σ σ' R ρ := by
  unfold f_H_cheaply chyA
  rw [b_isIn, bnd_some]
  by_cases hx : 0 ≤ x ∧ x ≤ 6
  · obtain ⟨n, hn, rfl⟩ := n_sp (b := 6) (by decide) hx.1 hx.2
    rw [if_neg (bI_n0.mpr hx), if_pos hx, b_isIn, bnd_some]
    by_cases hy : 0 ≤ y ∧ y ≤ 5
    · obtain ⟨k, hk, rfl⟩ := n_sp (b := 5) (by decide) hy.1 hy.2
      rw [if_pos (bI_n0.mpr hy), if_pos hy]
      obtain ⟨σ', q1, q2, q3⟩ := cq_bestC h hr hn
      rw [q1, bnd_some, nx_nI (k := k) (by omega), nx_nI (k := n) (by omega)]
      refine ⟨σ', ?_, q2⟩
      have hlen := rows_len (R := R) (o := nob) n (σ.1 149)
      cases hb : bestC (rowsA R nob n (σ.1 149)) with
      | none =>
        rw [if_pos (show bsA (Option.map (fun r : ROW => r.1) none) ≤ nI k from by rw [i_le, nI_toInt (by omega)]; show (-3 : Int) ≤ k; omega)]
        rfl
      | some r =>
        have hc := q3 r hb
        have hl : r.1.length ≤ 6 := by
          have z := best_mem _ _ hb
          have := hlen r z
          omega
        show (if nI r.1.length ≤ nI k then _ else _) = some (atA (some r.1) k, σ')
        by_cases hlk : r.1.length ≤ k
        · rw [if_pos ((n_le (by omega) (by omega)).mpr hlk)]
          rw [atA_ge hlk]
        · rw [if_neg (fun z => hlk ((n_le (by omega) (by omega)).mp z)), gd_pos (ix_nI (by omega) (by decide))]
          have e : r.1[k]? = some (r.1[k]'(by omega)) := List.getElem?_eq_getElem (by omega)
          rw [atA_lt e, hc k _ e]
    · rw [if_neg (fun z => z (bI_0.mpr hy)), if_neg hy]
      exact ⟨σ, rfl, CO.rf h⟩
  · rw [if_pos (bI_0.mpr hx), if_neg hx]
    exact ⟨σ, rfl, CO.rf h⟩
theorem mq_cheaply (h : PS σ R ρ) (x y : Int32) : ∃ σ', f_M_cheaply x y σ = some (chyA (σ.1 149) R x y, σ') ∧ MO σ σ' R ρ := by
  unfold f_M_cheaply chyA
  rw [mq_isLong, bnd_some]
  by_cases hx : 0 ≤ x ∧ x ≤ 6
  · obtain ⟨n, hn, rfl⟩ := n_sp (b := 6) (by decide) hx.1 hx.2
    rw [if_neg (bI_n0.mpr hx), if_pos hx, mq_isPlace, bnd_some]
    by_cases hy : 0 ≤ y ∧ y ≤ 5
    · obtain ⟨k, hk, rfl⟩ := n_sp (b := 5) (by decide) hy.1 hy.2
      rw [if_pos (bI_n0.mpr hy), if_pos hy]
      obtain ⟨σ', q1, q2, q3⟩ := mq_go h hn
      rw [q1, bnd_some, nx_nI (k := k) (by omega), nx_nI (k := n) (by omega)]
      refine ⟨σ', ?_, q2⟩
      have b := q3.2.2.2.2
      cases hb : bestC (rowsA R nob n (σ.1 149)) with
      | none =>
        rw [hb] at b
        have b : σ'.1 148 14 = -1 := b
        rw [b, if_pos (by decide)]
        rfl
      | some r =>
        rw [hb] at b
        obtain ⟨hl, b2, b3, b4, hc⟩ := b
        rw [b3, if_neg (nI_pos (by omega)), b4]
        show (if nI r.1.length ≤ nI k then _ else _) = some (atA (some r.1) k, σ')
        by_cases hlk : r.1.length ≤ k
        · rw [if_pos ((n_le (by omega) (by omega)).mpr hlk)]
          rw [atA_ge hlk]
        · rw [if_neg (fun z => hlk ((n_le (by omega) (by omega)).mp z)), gd_pos (ix_nI (by omega) (by decide))]
          have e : r.1[k]? = some (r.1[k]'(by omega)) := List.getElem?_eq_getElem (by omega)
          rw [atA_lt e, hc k _ e]
    · rw [if_neg (fun z => z (bI_0.mpr hy)), if_neg hy]
      exact ⟨σ, rfl, MO.rf h⟩
  · rw [if_pos (bI_0.mpr hx), if_neg hx]
    exact ⟨σ, rfl, MO.rf h⟩
end QS
