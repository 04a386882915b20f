/-! copies; a QUESTION put to the class's SEARCH -/
theorem cpc {σ : SG} {a b c i : Nat} {s d n : Int32} (h : c ≠ b) : (cpI σ a b s d n).1 c i = σ.1 c i := if_neg (fun z => h z.1)
theorem cph {σ : SG} {a b i : Nat} {n : Int32} (h : i < nx n) : (cpI σ a b 0 0 n).1 b i = σ.1 a i := by
  have e0 : nx (0 : Int32) = 0 := rfl
  have e : (cpI σ a b 0 0 n).1 b i = if b = b ∧ nx (0 : Int32) ≤ i ∧ i < nx (0 : Int32) + nx n then σ.1 a (nx (0 : Int32) + (i - nx (0 : Int32))) else σ.1 b i := rfl
  rw [e, e0, if_pos ⟨rfl, Nat.zero_le _, by omega⟩, Nat.zero_add, Nat.sub_zero]
theorem fr_cp {L : Nat → Prop} {σ : SG} {a b : Nat} {s d n : Int32} (h : L b) : fr L σ (cpI σ a b s d n) := ⟨fun q hq => funext fun j => cpc (fun z => hq (z ▸ h)), rfl⟩
theorem RLC.tot {t : Nat} {σ : SG} : ∀ {R : List RU} {k off : Nat}, RLC t σ R k off → ∃ z, σ.1 t 5 = nI z ∧ z ≤ 200 ∧ off ≤ z := by
  intro R
  induction R with
  | nil => intro k off h; exact ⟨off, h.2.2.1, h.2.2.2, Nat.le_refl _⟩
  | cons q r ih =>
    intro k off h
    obtain ⟨-, -, -, -, -, h⟩ := h
    obtain ⟨z, h1, h2, h3⟩ := ih h
    exact ⟨z, h1, h2, by omega⟩
theorem RLC.copy {t a : Nat} {σ σ' : SG} (h0 : σ'.1 t 0 = σ.1 a 0) (h5 : σ'.1 t 5 = σ.1 a 5) (hr : ∀ i, i < nx (σ.1 a 0) → σ'.1 (t + 1) i = σ.1 (a + 1) i ∧ σ'.1 (t + 2) i = σ.1 (a + 2) i ∧ σ'.1 (t + 3) i = σ.1 (a + 3) i ∧ σ'.1 (t + 4) i = σ.1 (a + 4) i) (hc : ∀ i, i < nx (σ.1 a 5) → σ'.1 (t + 5) i = σ.1 (a + 5) i) : ∀ {R : List RU} {k off : Nat}, RLC a σ R k off → RLC t σ' R k off := by
  intro R
  induction R with
  | nil => intro k off h; exact ⟨h0.trans h.1, h.2.1, h5.trans h.2.2.1, h.2.2.2⟩
  | cons q r ih =>
    intro k off h
    have hcnt := h.count
    rw [List.length_cons] at hcnt
    have hk : k < nx (σ.1 a 0) := by rw [hcnt.1, nx_nI (by omega)]; omega
    obtain ⟨a1, a2, a3, a4, a5, a6⟩ := h
    obtain ⟨z, z1, z2, z3⟩ := a6.tot
    obtain ⟨b1, b2, b3, b4⟩ := hr k hk
    refine ⟨b1.trans a1, b2.trans a2, b3.trans a3, b4.trans a4, fun j i hj => ?_, ih a6⟩
    have hlt : j < q.2.2.2.length := (List.getElem?_eq_some_iff.mp hj).1
    rw [hc (off + j) (by rw [z1, nx_nI (by omega)]; omega)]
    exact a5 j i hj
theorem b_copyRu {t a : Nat} {σ : SG} {R : List RU} (hd : a + 6 ≤ t) (h : RLC a σ R 0 0) : ∃ σ', f_Ru_copyFrom t a σ = some ((), σ') ∧ fr (fun c => t ≤ c ∧ c ≤ t + 5) σ σ' ∧ RLC t σ' R 0 0 := by
  have hcnt := h.count
  obtain ⟨z, z1, z2, -⟩ := h.tot
  have hn : nx (σ.1 a 0) ≤ 8 := by rw [hcnt.1, nx_nI (by omega)]; omega
  have hz : nx (σ.1 a 5) ≤ 200 := by rw [z1, nx_nI (by omega)]; exact z2
  have n0 : ¬ σ.1 a 0 < 0 := by rw [hcnt.1]; exact nI_pos (by omega)
  have z0 : ¬ σ.1 a 5 < 0 := by rw [z1]; exact nI_pos (by omega)
  generalize hN : σ.1 a 0 = N at hn n0
  generalize hZ : σ.1 a 5 = Z at hz z0
  have okN : cpOk (0 : Int32) (0 : Int32) N 8 8 := ⟨by decide, by decide, n0, by rw [show nx (0 : Int32) = 0 from rfl]; omega, by rw [show nx (0 : Int32) = 0 from rfl]; omega⟩
  have okZ : cpOk (0 : Int32) (0 : Int32) Z 200 200 := ⟨by decide, by decide, z0, by rw [show nx (0 : Int32) = 0 from rfl]; omega, by rw [show nx (0 : Int32) = 0 from rfl]; omega⟩
  unfold f_Ru_copyFrom
  rw [hN, sx_eq, sx_eq, uI_c (c := t) (c' := a) (by omega), hZ]
  generalize h2 : uI (uI σ t 0 N) t 5 Z = σ2
  have s2 : ∀ c, c ≠ t → σ2.1 c = σ.1 c := fun c hc => by rw [← h2, uIc hc, uIc hc]
  have e0 : σ2.1 t 0 = N := by rw [← h2, uI_i (by decide), uI_same]
  have e5 : σ2.1 t 5 = Z := by rw [← h2, uI_same]
  have f2 : fr (fun c => t ≤ c ∧ c ≤ t + 5) σ σ2 := by
    rw [← h2]
    exact fr.tr (fr.uI ⟨Nat.le_refl _, by omega⟩) (fr.uI ⟨Nat.le_refl _, by omega⟩)
  rw [e0, gd_pos okN, sx_eq, cpc (by omega), e0, gd_pos okN, sx_eq, cpc (by omega), cpc (by omega), e0, gd_pos okN, sx_eq, cpc (by omega), cpc (by omega), cpc (by omega), e0, gd_pos okN, sx_eq, cpc (by omega), cpc (by omega), cpc (by omega), cpc (by omega), e5, gd_pos okZ, sx_eq]
  refine ⟨_, rfl, ((((f2.tr (fr_cp ⟨by omega, by omega⟩)).tr (fr_cp ⟨by omega, by omega⟩)).tr (fr_cp ⟨by omega, by omega⟩)).tr (fr_cp ⟨by omega, by omega⟩)).tr (fr_cp ⟨by omega, by omega⟩), h.copy ?_ ?_ (fun i hi => ?_) (fun i hi => ?_)⟩
  · rw [cpc (by omega), cpc (by omega), cpc (by omega), cpc (by omega), cpc (by omega), e0, hN]
  · rw [cpc (by omega), cpc (by omega), cpc (by omega), cpc (by omega), cpc (by omega), e5, hZ]
  · rw [hN] at hi
    refine ⟨?_, ?_, ?_, ?_⟩
    · rw [cpc (by omega), cpc (by omega), cpc (by omega), cpc (by omega), cph hi, s2 _ (by omega)]
    · rw [cpc (by omega), cpc (by omega), cpc (by omega), cph hi, cpc (by omega), s2 _ (by omega)]
    · rw [cpc (by omega), cpc (by omega), cph hi, cpc (by omega), cpc (by omega), s2 _ (by omega)]
    · rw [cpc (by omega), cph hi, cpc (by omega), cpc (by omega), cpc (by omega), s2 _ (by omega)]
  · rw [hZ] at hi
    rw [cph hi, cpc (by omega), cpc (by omega), cpc (by omega), cpc (by omega), s2 _ (by omega)]
theorem nx6 {p : Nat} (h : p < 6) : p < nx (6 : Int32) := h
theorem nx8 {p : Nat} (h : p < 8) : p < nx (8 : Int32) := h
theorem b_copyPlay {t a : Nat} {σ : SG} {S : Nat → Int32} {o : Nat → Bool} {R : List RU} (hd : a + 15 ≤ t) (hT : TWR a σ S o) (hR : RLt a σ R) : ∃ σ', f_To_copyPlayFrom t a σ = some ((), σ') ∧ fr (fun c => t ≤ c ∧ c ≤ t + 14) σ σ' ∧ TWR t σ' S o ∧ RLt t σ' R := by
  unfold f_To_copyPlayFrom
  obtain ⟨σ1, q1, q2, q3⟩ := b_copyRu (t := t + 1) (a := a + 1) (by omega) hR.1
  rw [q1, bnd_some, sx_eq, gd_pos (by decide), sx_eq, gd_pos (by decide), sx_eq, gd_pos (by decide), sx_eq, gd_pos (by decide), sx_eq, gd_pos (by decide), sx_eq, sx_eq, sx_eq, gd_pos (by decide), sx_eq, gd_pos (by decide), sx_eq, sx_eq]
  have q2' : fr (fun c => t ≤ c ∧ c ≤ t + 14) σ σ1 := q2.mono (fun c hc => by omega)
  have s1 : ∀ c, a ≤ c → c ≤ a + 14 → σ1.1 c = σ.1 c := fun c c1 c2 => q2.1 c (by omega)
  obtain ⟨a1, a2, a3, a4, a5, a6⟩ := hT
  refine ⟨_, rfl, ((((((((((q2'.tr (fr.uI (by omega))).tr (fr_cp (by omega))).tr (fr_cp (by omega))).tr (fr_cp (by omega))).tr (fr_cp (by omega))).tr (fr_cp (by omega))).tr (fr.uI (by omega))).tr (fr.uI (by omega))).tr (fr_cp (by omega))).tr (fr_cp (by omega))).tr (fr.uI (by omega)), ⟨?_, ?_, ?_, ?_, fun p hp => ⟨?_, ?_, ?_, ?_, ?_⟩, fun j hj => ⟨?_, ?_⟩⟩, ?_⟩
  · rw [← a1, uI_i (by decide)]
    repeat (first | rw [uI_i (by decide)] | rw [cpc (by omega)])
    rw [uI_same, s1 _ (by omega) (by omega)]
  · rw [uI_same, ← a2]
    repeat (first | rw [uI_c (by omega)] | rw [cpc (by omega)])
    rw [s1 _ (by omega) (by omega)]
  · rw [← a3, uI_i (by decide), cpc (by omega), cpc (by omega), uI_same]
    repeat (first | rw [uI_c (by omega)] | rw [cpc (by omega)])
    rw [s1 _ (by omega) (by omega)]
  · rw [← a4, uI_i (by decide), cpc (by omega), cpc (by omega), uI_i (by decide), uI_same]
    repeat (first | rw [uI_c (by omega)] | rw [cpc (by omega)])
    rw [s1 _ (by omega) (by omega)]
  · rw [← (a5 p hp).1]
    repeat (first | rw [uI_c (by omega)] | rw [cpc (by omega)])
    rw [cph (nx6 hp), uI_c (by omega), s1 _ (by omega) (by omega)]
  · rw [← (a5 p hp).2.1]
    repeat (first | rw [uI_c (by omega)] | rw [cpc (by omega)])
    rw [cph (nx6 hp), cpc (by omega), uI_c (by omega), s1 _ (by omega) (by omega)]
  · rw [← (a5 p hp).2.2.1]
    repeat (first | rw [uI_c (by omega)] | rw [cpc (by omega)])
    rw [cph (nx6 hp), cpc (by omega), cpc (by omega), uI_c (by omega), s1 _ (by omega) (by omega)]
  · rw [← (a5 p hp).2.2.2.1]
    repeat (first | rw [uI_c (by omega)] | rw [cpc (by omega)])
    rw [cph (nx6 hp), cpc (by omega), cpc (by omega), cpc (by omega), uI_c (by omega), s1 _ (by omega) (by omega)]
  · rw [← (a5 p hp).2.2.2.2]
    repeat (first | rw [uI_c (by omega)] | rw [cpc (by omega)])
    rw [cph (nx6 hp), cpc (by omega), cpc (by omega), cpc (by omega), cpc (by omega), uI_c (by omega), s1 _ (by omega) (by omega)]
  · rw [← (a6 j hj).1, uI_c (by omega), cpc (by omega), cph (nx8 hj)]
    repeat (first | rw [uI_c (by omega)] | rw [cpc (by omega)])
    rw [s1 _ (by omega) (by omega)]
  · rw [← (a6 j hj).2, uI_c (by omega), cph (nx8 hj)]
    repeat (first | rw [uI_c (by omega)] | rw [cpc (by omega)])
    rw [s1 _ (by omega) (by omega)]
  · refine RLt.cong (σ := σ1) ⟨q3, hR.2⟩ fun c c1 c2 => funext fun i => ?_
    repeat (first | rw [uI_c (by omega)] | rw [cpc (by omega)])
/-- what stays written down from question to question -/
def SV (ρ : Nat) (σ : SG) : Prop := σ.2 125 5 = lN ρ ∧ ∀ y, y < 2048 → ∃ r n, ∃ h : Nat → Nat, r ≤ ρ ∧ n < 8 ∧ (∀ p, p < 6 → h p < 8) ∧ σ.2 128 y = lN (keyN r n h)
abbrev Lto (c : Nat) : Prop := (90 ≤ c ∧ c ≤ 104) ∨ c = 125 ∨ c = 129
def frT (σ σ' : SG) : Prop := (∀ c, ¬ Lto c → σ'.1 c = σ.1 c) ∧ (∀ c, c ≠ 128 → c ≠ 125 → σ'.2 c = σ.2 c) ∧ (∀ i, i ≠ 4 → σ'.1 125 i = σ.1 125 i) ∧ ∀ i, i ≠ 5 → σ'.2 125 i = σ.2 125 i
theorem frT.rf {σ : SG} : frT σ σ := ⟨fun _ _ => rfl, fun _ _ _ => rfl, fun _ _ => rfl, fun _ _ => rfl⟩
theorem frT.tr {a b c : SG} (h1 : frT a b) (h2 : frT b c) : frT a c := ⟨fun q hq => (h2.1 q hq).trans (h1.1 q hq), fun q hq hq2 => (h2.2.1 q hq hq2).trans (h1.2.1 q hq hq2), fun i hi => (h2.2.2.1 i hi).trans (h1.2.2.1 i hi), fun i hi => (h2.2.2.2 i hi).trans (h1.2.2.2 i hi)⟩
theorem frT.so {a b : SG} (h : frS a b) : frT a b := ⟨fun q hq => h.1 q (fun z => hq (by rcases z with e | e | e | e | e | e <;> rw [e] <;> decide)), fun q h1 _ => h.2.1 q h1, fun i _ => by rw [h.1 125 (by decide)], fun i _ => by rw [h.2.1 125 (by decide)]⟩
theorem frT.of {a b : SG} (h : fr (fun c => 90 ≤ c ∧ c ≤ 104) a b) : frT a b := ⟨fun q hq => h.1 q (fun z => hq (Or.inl z)), fun q _ _ => by rw [h.2], fun i _ => h.at (by decide) i, fun i _ => by rw [h.2]⟩
theorem SOI.sv {S0 S : Nat → Int32} {md : Int32} {R : List RU} {o : Nat → Bool} {ρ : Nat} {σ : SG} (h : SOI S0 md R o ρ σ S) : SV ρ σ := ⟨h.2.2.2.2.1, fun y hy => by
  obtain ⟨r, n, g, h1, h2, h3, h4, -⟩ := h.2.2.2.1 y hy
  exact ⟨r, n, g, h1, h2, h3, h4⟩⟩
theorem l_1 (n : Nat) : lN n + 1 = lN (n + 1) := (Int64.ofNat_add n 1).symm
/-- a question is put: a new round -/
theorem b_ask {σ : SG} {S : Nat → Int32} {md : Int32} {R : List RU} {o : Nat → Bool} {ρ : Nat} (hv : SV ρ σ) (hr : ρ + 1 < 1099511627776) (hT : TWR 90 σ S o) (hg : GD S) (hR : RLt 90 σ R) (ho : oin S o) : ∃ σ', f_Se_ask md σ = some ((), σ') ∧ frT σ σ' ∧ SOI S md R o (ρ + 1) σ' S := by
  unfold f_Se_ask
  rw [sx_eq, sx_eq]
  have e : (uI σ 125 4 md).2 125 5 = lN ρ := hv.1
  rw [e, l_1]
  refine ⟨_, rfl, ⟨fun c hc => uIc (fun z => hc (by rw [z]; decide)), fun c _ h2 => funext fun i => uL_c (σ := uI σ 125 4 md) h2, fun i hi => uI_i hi, fun i hi => uL_i (σ := uI σ 125 4 md) hi⟩, hT.cong (fun c c1 c2 _ => uIc (by omega)), RCH.rf hg, hR.cong (fun c c1 c2 => uIc (by omega)), fun y hy => ?_, uL_same, (show (uI σ 125 4 md).1 125 4 = md from uI_same), hr, ho⟩
  obtain ⟨r, n, h, h1, h2, h3, h4⟩ := hv.2 y hy
  exact ⟨r, n, h, by omega, h2, h3, (uL_c (σ := uI σ 125 4 md) (by decide)).trans h4, fun z => by omega⟩
theorem b_told {σ : SG} {S : Nat → Int32} {md : Int32} {R : List RU} {o : Nat → Bool} {ρ n a : Nat} (ha : a + 15 ≤ 90) (hn : n < 8) (hv : SV ρ σ) (hr : ρ + 1 < 1099511627776) (hT : TWR a σ S o) (hg : GD S) (hR : RLt a σ R) (ho : oin S o) : ∃ σ', f_Se_told a md (nI n) σ = some (vaA md R o n S, σ') ∧ frT σ σ' ∧ SV (ρ + 1) σ' := by
  unfold f_Se_told
  obtain ⟨σ1, q1, q2, q3, q4⟩ := b_copyPlay (t := 90) ha hT hR
  rw [q1, bnd_some]
  have v1 : SV ρ σ1 := by unfold SV; rw [q2.2]; exact hv
  obtain ⟨σ2, r1, r2, r3⟩ := b_ask (md := md) v1 hr q3 hg q4 ho
  rw [r1, bnd_some]
  obtain ⟨σ3, s1, s2, s3⟩ := b_solve n DP S σ2 hn (by show n < 12; omega) r3
  rw [s1, bnd_some]
  exact ⟨σ3, rfl, ((frT.of q2).tr r2).tr (frT.so s2), s3.sv⟩
