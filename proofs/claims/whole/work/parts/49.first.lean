/-! the class's FIRST row of the best -/
abbrev pkA (md : Int32) (R : List RU) (o : Nat → Bool) (n : Nat) (S : Nat → Int32) (c : Nat) : Bool := decide (jnF md R o n S (fiA md S) c = vaA md R o (n + 1) S)
def fsA (md : Int32) (R : List RU) (o : Nat → Bool) : Nat → (Nat → Int32) → List Nat
  | 0, _ => []
  | n + 1, S => match (canL S R o 0).find? (pkA md R o n S) with
    | none => []
    | some c => c :: fsA md R o n (doC S R o c)
abbrev Lfi (c : Nat) : Prop := c = 90 ∨ c = 97 ∨ c = 99 ∨ c = 101 ∨ c = 104 ∨ c = 129 ∨ c = 126
def frF (σ σ' : SG) : Prop := (∀ c, ¬ Lfi c → σ'.1 c = σ.1 c) ∧ ∀ c, c ≠ 128 → σ'.2 c = σ.2 c
theorem frF.rf {σ : SG} : frF σ σ := ⟨fun _ _ => rfl, fun _ _ => rfl⟩
theorem frF.tr {a b c : SG} (h1 : frF a b) (h2 : frF b c) : frF a c := ⟨fun q hq => (h2.1 q hq).trans (h1.1 q hq), fun q hq => (h2.2 q hq).trans (h1.2 q hq)⟩
theorem frF.so {a b : SG} (h : frS a b) : frF a b := ⟨fun q hq => h.1 q (fun z => hq (by rcases z with e | e | e | e | e | e <;> rw [e] <;> decide)), h.2.1⟩
theorem SOI.u126 {S0 S : Nat → Int32} {md v : Int32} {R : List RU} {o : Nat → Bool} {ρ i : Nat} {σ : SG} (h : SOI S0 md R o ρ σ S) : SOI S0 md R o ρ (uI σ 126 i v) S := by
  obtain ⟨a1, a2, a3, a4, a5, a6, a7, a8⟩ := h
  exact ⟨a1.cong (fun c c1 c2 _ => uIc (by omega)), a2, a3.cong (fun c c1 c2 => uIc (by omega)), a4.keep rfl (uIc (by decide)), a5, (uI_c (by decide)).trans a6, a7, a8⟩
def fnI : Option Nat → Int32
  | none => -3
  | some c => nI c
theorem b_first_i {S0 S : Nat → Int32} {md : Int32} {R : List RU} {o : Nat → Bool} {ρ a k n : Nat} {K : Int32 → Int32 → SG → Option (Int32 × SG)} (hn : n + 1 < 8) : ∀ (d j f : Nat) (σ : SG), j + d = 21 → d + 1 < f → SOI S0 md R o ρ σ S → ∃ σ', f_Se_first_62 a K f (nI k) (nI (n + 1)) (vaA md R o (n + 1) S) (-3 : Int32) (nI j) σ = f_Se_first_127 a K (nI k) (nI (n + 1)) (fnI ((cdL S R o j).find? (pkA md R o n S))) σ' ∧ frS σ σ' ∧ SOI S0 md R o ρ σ' S := by
  intro d
  induction d with
  | zero =>
    intro j f σ hk hf hI
    obtain ⟨f, rfl⟩ : ∃ g, f = g + 1 := ⟨f - 1, by omega⟩
    have ej : j = 21 := hk
    subst ej
    rw [f_Se_first_62, if_pos (by decide)]
    exact ⟨σ, rfl, frS.rf, hI⟩
  | succ d ih =>
    intro j f σ hk hf hI
    obtain ⟨f, rfl⟩ : ∃ g, f = g + 1 := ⟨f - 1, by omega⟩
    have hj : j < 21 := by omega
    have hc := CHl_60 j hj
    have ij : ix (nI j) 21 := ix_nI hj (by decide)
    rw [f_Se_first_62, if_neg (show ¬ (21 : Int32) ≤ nI j from nI_ge hj (by decide)), if_neg (by decide), gd_pos ij, nx_nI (by omega), CHl_t j hj]
    obtain ⟨σ1, q1, q2⟩ := b_canBe (t := 90) (c := nI (CHl.getD j 0)) hI.1 hI.g hI.2.2.1
    rw [q1, bnd_some, bI_iff (can_60 hc), lx_eq, nI_1]
    have q2' : fr Lst σ σ1 := q2.mono (fun z hz => Or.inr (Or.inl hz))
    have q8 : ∀ i, i ≠ 8 → σ1.1 90 i = σ.1 90 i := fun i _ => q2.at (by decide) i
    have I1 : SOI S0 md R o ρ σ1 S := hI.to q2' (hI.1.cong (fun c c1 c2 c3 => q2.1 c c3)) hI.2.1
    by_cases hcan : canC S R o (CHl.getD j 0)
    · rw [if_neg (bI_n0.mpr hcan), gd_pos ij, b_atFirst I1.1 I1.2.2.2.2.2.1, bnd_some]
      obtain ⟨σ2, r1, r2, r3⟩ := b_joined (d := DP) (n := n) (acc := fiA md S) hcan hc I1 (fun T τ hT => b_solve n DP T τ (by omega) (by show n < 12; omega) hT)
      rw [r1, bnd_some, cdL_y hj hcan, List.find?_cons]
      have fr2 : frS σ σ2 := (frS.of q2' q8).tr r2
      by_cases hv : jnF md R o n S (fiA md S) (CHl.getD j 0) = vaA md R o (n + 1) S
      · rw [if_neg (fun z => z hv), gd_pos ij, lx_eq, lx_eq]
        have ep : pkA md R o n S (CHl.getD j 0) = true := decide_eq_true hv
        rw [ep]
        obtain ⟨f, rfl⟩ : ∃ g, f = g + 1 := ⟨f - 1, by omega⟩
        refine ⟨σ2, ?_, fr2, r3⟩
        rw [f_Se_first_62]
        by_cases h21 : (21 : Int32) ≤ nI (j + 1)
        · rw [if_pos h21]
          rfl
        · rw [if_neg h21, if_pos (nI_pos' (by omega))]
          rfl
      · rw [if_pos hv, lx_eq]
        have ep : pkA md R o n S (CHl.getD j 0) = false := decide_eq_false hv
        rw [ep]
        obtain ⟨σ3, t1, t2, t3⟩ := ih (j + 1) f σ2 (by omega) (by omega) r3
        exact ⟨σ3, t1, fr2.tr t2, t3⟩
    · rw [if_pos (bI_0.mpr hcan), cdL_n hj hcan]
      obtain ⟨σ3, t1, t2, t3⟩ := ih (j + 1) f σ1 (by omega) (by omega) I1
      exact ⟨σ3, t1, (frS.of q2' q8).tr t2, t3⟩
theorem n_m1 (n : Nat) : nI (n + 1) + (-1 : Int32) = nI n := by
  have e := n_sub (a := n + 1) (b := 1) (by omega)
  rw [Nat.add_sub_cancel] at e
  rw [← e]
  rw [Int32.sub_eq_add_neg]
  rfl
theorem b_first_l {S0 : Nat → Int32} {md : Int32} {R : List RU} {o : Nat → Bool} {ρ a : Nat} : ∀ (n k f : Nat) (S : Nat → Int32) (σ : SG), k + n ≤ 6 → n < f → SOI S0 md R o ρ σ S → ∃ σ', f_Se_first_32 a f (nI k) (nI n) σ = some (nI (k + (fsA md R o n S).length), σ') ∧ frF σ σ' ∧ SV ρ σ' ∧ (∀ j x, (fsA md R o n S)[j]? = some x → σ'.1 126 (k + j) = nI x) ∧ ∀ j, j < k → σ'.1 126 j = σ.1 126 j := by
  intro n
  induction n with
  | zero =>
    intro k f S σ hk hf hI
    obtain ⟨f, rfl⟩ : ∃ g, f = g + 1 := ⟨f - 1, by omega⟩
    rw [f_Se_first_32, if_pos (by decide)]
    exact ⟨σ, rfl, frF.rf, hI.sv, fun j x hx => (by cases hx), fun _ _ => rfl⟩
  | succ n ih =>
    intro k f S σ hk hf hI
    obtain ⟨f, rfl⟩ : ∃ g, f = g + 1 := ⟨f - 1, by omega⟩
    rw [f_Se_first_32, if_neg (show ¬ nI (n + 1) ≤ 0 from nI_ge (a := 0) (by omega) (by omega)), if_neg (show ¬ (6 : Int32) ≤ nI k from nI_ge (show k < 6 by omega) (by decide))]
    obtain ⟨σ1, q1, q2, q3⟩ := b_solve (n + 1) DP S σ (by omega) (by show n + 1 < 12; omega) hI
    rw [q1, bnd_some]
    obtain ⟨σ2, r1, r2, r3⟩ := b_first_i (a := a) (k := k) (K := f_Se_first_32 a f) (show n + 1 < 8 by omega) 21 0 FU σ1 rfl (by rw [FU_eq]; omega) q3
    have r1 : f_Se_first_62 a (f_Se_first_32 a f) FU (nI k) (nI (n + 1)) (vaA md R o (n + 1) S) (-3 : Int32) (0 : Int32) σ1 = _ := r1
    rw [r1, cdL_0]
    have fr2 : frF σ σ2 := (frF.so q2).tr (frF.so r2)
    have w126 : ∀ j, σ2.1 126 j = σ.1 126 j := fun j => by rw [r2.1 126 (by decide), q2.1 126 (by decide)]
    rw [fsA]
    cases hfd : (canL S R o 0).find? (pkA md R o n S) with
    | none =>
      refine ⟨σ2, ?_, fr2, r3.sv, fun j x hx => (by cases hx), fun j _ => w126 j⟩
      unfold f_Se_first_127
      rw [if_neg (show ¬ (0 : Int32) ≤ fnI none by decide)]
      rfl
    | some c =>
      obtain ⟨hc60, hcan⟩ := canL_mem (List.mem_of_find?_eq_some hfd)
      unfold f_Se_first_127
      rw [show fnI (some c) = nI c from rfl, if_pos (nI_pos' (by omega))]
      obtain ⟨σ3, s1, s2, s3, s4⟩ := b_step (t := 90) (k := c) (by omega) r3.1 r3.g r3.2.2.1 hcan
      rw [s1, bnd_some, gd_pos (ix_nI (show k < 6 by omega) (by decide)), sx_eq, nx_nI (by omega), lx_eq, lx_eq, nI_1, n_m1]
      have I3 : SOI S0 md R o ρ σ3 (doC S R o c) := r3.to s2 s3 (r3.2.1.do hcan)
      obtain ⟨σ4, t1, t2, t3, t4, t5⟩ := ih (k + 1) f (doC S R o c) (uI σ3 126 k (nI c)) (by omega) (by omega) I3.u126
      rw [t1]
      have u3 : frF σ3 (uI σ3 126 k (nI c)) := ⟨fun z hz => uIc (fun e => hz (by rw [e]; decide)), fun _ _ => rfl⟩
      refine ⟨σ4, ?_, ((fr2.tr (frF.so (frS.of s2 s4))).tr u3).tr t2, t3, fun j x hx => ?_, fun j hj => ?_⟩
      · have e : k + 1 + (fsA md R o n (doC S R o c)).length = k + (c :: fsA md R o n (doC S R o c)).length := by rw [List.length_cons]; omega
        rw [e]
      · cases j with
        | zero =>
          rw [Nat.add_zero, t5 k (by omega), uI_same]
          exact congrArg nI (Option.some.inj hx)
        | succ j =>
          have e : k + (j + 1) = k + 1 + j := by omega
          rw [e]
          exact t4 j x hx
      · rw [t5 j (by omega), uI_i (by omega), s2.at (by decide), w126]
theorem b_first {σ : SG} {S : Nat → Int32} {md : Int32} {R : List RU} {o : Nat → Bool} {ρ n a : Nat} (ha : a + 15 ≤ 90) (hn : n ≤ 6) (hv : SV ρ σ) (hr : ρ + 1 < 1099511627776) (hT : TWR a σ S o) (hg : GD S) (hR : RLt a σ R) (ho : oin S o) : ∃ σ', f_Se_first a md (nI n) σ = some (if vaA md R o n S < (1000000 : Int32) then nI (fsA md R o n S).length else -3, σ') ∧ (∀ c, ¬ (Lto c ∨ c = 126) → σ'.1 c = σ.1 c) ∧ (∀ c, c ≠ 128 → c ≠ 125 → σ'.2 c = σ.2 c) ∧ SV (ρ + 1) σ' ∧ (vaA md R o n S < (1000000 : Int32) → ∀ j x, (fsA md R o n S)[j]? = some x → σ'.1 126 j = nI x) := by
  unfold f_Se_first
  obtain ⟨σ1, q1, q2, q3, q4⟩ := b_copyPlay (t := 90) ha hT hR
  rw [q1, bnd_some]
  have v1 : SV ρ σ1 := by unfold SV; rw [q2.2]; exact hv
  obtain ⟨σ2, r1, r2, r3⟩ := b_ask (md := md) v1 hr q3 hg q4 ho
  rw [r1, bnd_some]
  obtain ⟨σ3, s1, s2, s3⟩ := b_solve n DP S σ2 (by omega) (by show n < 12; omega) r3
  rw [s1, bnd_some]
  have f3 : frT σ σ3 := ((frT.of q2).tr r2).tr (frT.so s2)
  by_cases h : vaA md R o n S < (1000000 : Int32)
  · rw [if_pos h, if_pos h]
    obtain ⟨σ4, t1, t2, t3, t4, -⟩ := b_first_l (a := a) n 0 FU S σ3 (by omega) (by rw [FU_eq]; omega) s3
    have t1 : f_Se_first_32 a FU (0 : Int32) (nI n) σ3 = _ := t1
    rw [t1, Nat.zero_add]
    refine ⟨σ4, rfl, fun c hc => ?_, fun c h1 h2 => by rw [t2.2 c h1, f3.2.1 c h1 h2], t3, fun _ j x hx => ?_⟩
    · rw [t2.1 c (fun z => hc (by rcases z with e | e | e | e | e | e | e <;> rw [e] <;> decide)), f3.1 c (fun z => hc (Or.inl z))]
    · have e := t4 j x hx
      rw [Nat.zero_add] at e
      exact e
  · rw [if_neg h, if_neg h]
    exact ⟨σ3, rfl, fun c hc => f3.1 c (fun z => hc (Or.inl z)), f3.2.1, s3.sv, fun z => absurd z h⟩
