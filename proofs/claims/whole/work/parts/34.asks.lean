/-! numbers in natural numbers -/
theorem at_sub {a b : Nat} (ha : a < 100000) (hb : b < 100000) : (if (0 : Int32) ≤ nI a - nI b then nI a - nI b else 0) = nI (a - b) := by
  by_cases h : b ≤ a
  · rw [n_sub h, if_pos (nI_pos' (by omega))]
  · have e : ¬ (0 : Int32) ≤ nI a - nI b := by
      have e2 : nI a - nI b = -(nI (b - a)) := by
        rw [← n_sub (show a ≤ b by omega)]
        simp
      rw [e2, i_le, Int32.toInt_neg, nI_toInt (by omega)]
      have : (0 : Int32).toInt = 0 := rfl
      rw [this, show -((b - a : Nat) : Int) = -((b - a : Nat) : Int) from rfl]
      rw [Int.bmod_eq_of_le] <;> omega
    rw [if_neg e, show a - b = 0 by omega]
    rfl
theorem m_at_sub {a b : Nat} (ha : a < 100000) (hb : b < 100000) (σ : SG) : f_M_atLeast (nI a - nI b) σ = some (nI (a - b), σ) := by
  rw [m_atLeast, at_sub ha hb]
theorem n_div {a b : Nat} (ha : a < 2147483648) (hb : b < 2147483648) : nI a / nI b = nI (a / b) := by
  apply Int32.toInt_inj.mp
  rw [Int32.toInt_div, nI_toInt ha, nI_toInt hb, nI_toInt (Nat.lt_of_le_of_lt (Nat.div_le_self _ _) ha)]
  rw [show ((a : Int).tdiv (b : Int)) = ((a / b : Nat) : Int) from rfl]
  have : (a / b : Nat) ≤ a := Nat.div_le_self _ _
  generalize a / b = q at this ⊢
  rw [Int.bmod_eq_of_le] <;> omega
theorem wB_andn : ∀ a0 a1 a2 a3 a4 a5 b0 b1 b2 b3 b4 b5 : Bool, nI (wB a0 a1 a2 a3 a4 a5) &&& (nI (wB b0 b1 b2 b3 b4 b5) ^^^ (-1)) = nI (wB (a0 && !b0) (a1 && !b1) (a2 && !b2) (a3 && !b3) (a4 && !b4) (a5 && !b5)) ∧ nI (wB a0 a1 a2 a3 a4 a5) ||| nI (wB b0 b1 b2 b3 b4 b5) = nI (wB (a0 || b0) (a1 || b1) (a2 || b2) (a3 || b3) (a4 || b4) (a5 || b5)) := by decide +kernel
theorem wN_andn (f g : Nat → Bool) : nI (wN f) &&& (nI (wN g) ^^^ (-1)) = nI (wN fun p => f p && !g p) := (wB_andn (f 0) (f 1) (f 2) (f 3) (f 4) (f 5) (g 0) (g 1) (g 2) (g 3) (g 4) (g 5)).1
theorem wN_orN (f g : Nat → Bool) : nI (wN f) ||| nI (wN g) = nI (wN fun p => f p || g p) := (wB_andn (f 0) (f 1) (f 2) (f 3) (f 4) (f 5) (g 0) (g 1) (g 2) (g 3) (g 4) (g 5)).2
/-! a town in the reference's words -/
abbrev kdN (S : Nat → Int32) (p : Nat) : Nat := nx (S (22 + 5 * p))
abbrev hsN (S : Nat → Int32) (p : Nat) : Nat := nx (S (22 + 5 * p + 1))
abbrev ndN (S : Nat → Int32) (p : Nat) : Nat := nx (S (22 + 5 * p + 2))
abbrev cnN (S : Nat → Int32) (p : Nat) : Nat := nx (S (22 + 5 * p + 3))
abbrev mtN (S : Nat → Int32) (p : Nat) : Nat := nx (S (22 + 5 * p + 4))
abbrev wrN (S : Nat → Int32) (j : Nat) : Nat := nx (S (6 + j))
abbrev jrN (S : Nat → Int32) (j : Nat) : Nat := nx (S (14 + j))
abbrev feN (S : Nat → Int32) : Nat := nx (S 2)
abbrev ppN (S : Nat → Int32) : Nat := nx (S 0)
/-- what holds of it at all times -/
def GD (S : Nat → Int32) : Prop := rg (S 0) 6 ∧ rg (S 2) 50 ∧ (∀ j, j < 8 → rg (S (6 + j)) 99 ∧ rg (S (14 + j)) 100) ∧ ∀ p, p < 6 → rg (S (22 + 5 * p)) 5 ∧ rg (S (22 + 5 * p + 1)) 7 ∧ rg (S (22 + 5 * p + 2)) 7 ∧ rg (S (22 + 5 * p + 3)) 999 ∧ rg (S (22 + 5 * p + 4)) 63
/-! the rules: their KIND, what they do (0 more, 1 less, 2 free), the amount, the condition -/
abbrev RU : Type := Nat × Nat × Nat × List IT
def okR (q : RU) : Prop := q.1 ≤ 5 ∧ q.2.1 ≤ 2 ∧ q.2.2.1 ≤ 99 ∧ okL q.2.2.2
def findA (kind : Nat) (fx : Nat → Int32) : List RU → Option (Nat × Nat)
  | [] => none
  | q :: r => if und (nI kind) (nI q.1) ∧ topA (evalA fx q.2.2.2 []) = true then some (q.2.1, q.2.2.1) else findA kind fx r
def priceN (v : Nat) : Option (Nat × Nat) → Nat
  | none => v
  | some (0, a) => v + a
  | some (1, a) => v - a
  | some (_, _) => 0
def kindN (kind v c : Nat) (nobody : Bool) : Nat := if kind = 2 then v - c / 10 else if kind = 3 then (if nobody then (v - c / 10) / 2 else v - c / 10) else if kind = 4 then 2 * v else if kind = 5 then 2 * v - 7 else v
def fxA (S : Nat → Int32) (o : Nat → Bool) (p : Nat) : Nat → Int32
  | 0 => nI (wrN S (hsN S p))
  | 1 => nI (wrN S (ndN S p))
  | 2 => nI (cnN S p)
  | 3 => nI (cN (whS S o))
  | _ => nI p
/-- what the witch asks of p -/
def askA (S : Nat → Int32) (R : List RU) (o : Nat → Bool) (p : Nat) : Nat :=
  kindN (kdN S p) (priceN ((wrN S (ndN S p) - wrN S (hsN S p)) + feN S) (findA (kdN S p) (fxA S o p) R)) (cnN S p) (decide (wN (whS S o) = 0))
/-- the class's rules from the k-th on, whose conditions begin at off -/
def RLC (t : Nat) (σ : SG) : List RU → Nat → Nat → Prop
  | [], k, off => σ.1 t 0 = nI k ∧ k ≤ 8 ∧ σ.1 t 5 = nI off ∧ off ≤ 200
  | q :: r, k, off => σ.1 (t + 1) k = nI q.1 ∧ σ.1 (t + 2) k = nI (10012 + q.2.1) ∧ σ.1 (t + 3) k = nI q.2.2.1 ∧ σ.1 (t + 4) k = nI (off + q.2.2.2.length) ∧ (∀ j i, q.2.2.2[j]? = some i → σ.1 (t + 5) (off + j) = encC i) ∧ RLC t σ r (k + 1) (off + q.2.2.2.length)
def RLM (S : Nat → Int32) : List RU → Nat → Nat → Prop
  | [], k, off => S 1 = nI k ∧ k ≤ 8 ∧ off ≤ 202
  | q :: r, k, off => S (106 + 4 * k) = nI q.1 ∧ S (106 + 4 * k + 1) = nI q.2.1 ∧ S (106 + 4 * k + 2) = nI q.2.2.1 ∧ S (106 + 4 * k + 3) = nI (off + (q.2.2.2.flatMap expM).length) ∧ (∀ j x, (q.2.2.2.flatMap expM)[j]? = some x → S (138 + (off + j)) = x) ∧ RLM S r (k + 1) (off + (q.2.2.2.flatMap expM).length)
theorem RLC.count {t : Nat} {σ : SG} : ∀ {R : List RU} {k off : Nat}, RLC t σ R k off → σ.1 t 0 = nI (k + R.length) ∧ k + R.length ≤ 8 ∧ off ≤ 200 := by
  intro R
  induction R with
  | nil => intro k off h; exact ⟨h.1, h.2.1, h.2.2.2⟩
  | cons q r ih =>
    intro k off h
    obtain ⟨-, -, -, -, -, h⟩ := h
    have := ih h
    rw [List.length_cons]
    exact ⟨by rw [this.1]; congr 1; omega, by omega, by omega⟩
theorem RLM.count {S : Nat → Int32} : ∀ {R : List RU} {k off : Nat}, RLM S R k off → S 1 = nI (k + R.length) ∧ k + R.length ≤ 8 ∧ off ≤ 202 := by
  intro R
  induction R with
  | nil => intro k off h; exact ⟨h.1, h.2.1, h.2.2⟩
  | cons q r ih =>
    intro k off h
    obtain ⟨-, -, -, -, -, h⟩ := h
    have := ih h
    rw [List.length_cons]
    exact ⟨by rw [this.1]; congr 1; omega, by omega, by omega⟩
theorem okL.dpt {L : List IT} (h : okL L) : ∃ d, dptA L 0 = some d ∧ d ≤ 1 := by
  rcases h.2 with h | h
  · subst h
    exact ⟨0, rfl, by decide⟩
  · exact ⟨1, h, by decide⟩
theorem b_holds (t : Nat) {fx : Nat → Int32} {σ : SG} (hf : ∀ i, i < 5 → σ.1 (t + 6) i = fx i) {L : List IT} (h : okL L) {off : Nat} (ho : off + L.length ≤ 200) (hc : ∀ j i, L[j]? = some i → σ.1 (t + 5) (off + j) = encC i) : f_Ru_holds t (nI off) (nI (off + L.length)) σ = some (bI (topA (evalA fx L []) = true), σ) := by
  obtain ⟨d, hd, -⟩ := h.dpt
  exact b_holds_l t hf L [] off (off + L.length) FU d h.1 hd (by decide) rfl ho (by rw [FU_eq]; omega) hc
theorem b_changed_l (t : Nat) {fx : Nat → Int32} {σ : SG} (hf : ∀ i, i < 5 → σ.1 (t + 6) i = fx i) {v kd : Nat} (hv : v ≤ 1000) (hk : kd ≤ 5) : ∀ (R : List RU) (k off f : Nat), (∀ q ∈ R, okR q) → RLC t σ R k off → R.length < f → f_Ru_changed_5 t f (nI v) (nI kd) (nI off) (nI k) σ = some (nI (priceN v (findA kd fx R)), σ) := by
  intro R
  induction R with
  | nil =>
    intro k off f _ h hfu
    obtain ⟨f, rfl⟩ : ∃ g, f = g + 1 := ⟨f - 1, by omega⟩
    rw [f_Ru_changed_5, h.1, if_pos (Int32.le_refl _)]
    rfl
  | cons q r ih =>
    intro k off f hok h hfu
    obtain ⟨f, rfl⟩ : ∃ g, f = g + 1 := ⟨f - 1, by omega⟩
    have hq := hok q List.mem_cons_self
    have hc := h.count
    rw [List.length_cons] at hc hfu
    obtain ⟨a1, a2, a3, a4, a5, a6⟩ := h
    have hc6 := a6.count
    have hk8 : ix (nI k) 8 := ix_nI (by omega) (by decide)
    have hnk : nx (nI k) = k := nx_nI (by omega)
    rw [f_Ru_changed_5, hc.1, if_neg (nI_ge (by omega) (by omega)), gd_pos hk8, hnk, a1, b_isUnder hk, bnd_some]
    have nxt := ih (k + 1) (off + q.2.2.2.length) f (fun z hz => hok z (List.mem_cons_of_mem _ hz)) a6 (by omega)
    rw [findA]
    by_cases hu : und (nI kd) (nI q.1)
    · rw [if_neg (bI_n0.mpr hu), gd_pos hk8, a4, b_holds t hf hq.2.2.2 (by omega) a5, bnd_some]
      by_cases ht : topA (evalA fx q.2.2.2 []) = true
      · rw [if_neg (bI_n0.mpr ht), gd_pos hk8, a2, if_pos (show und (nI kd) (nI q.1) ∧ topA (evalA fx q.2.2.2 []) = true from ⟨hu, ht⟩)]
        obtain ⟨q1, q2, q3, q4⟩ := q
        have hq2 : q2 ≤ 2 := hq.2.1
        have hq3 : q3 ≤ 99 := hq.2.2.1
        have a3 : σ.1 (t + 3) k = nI q3 := a3
        match q2, hq2 with
        | 0, _ =>
          show (if nI (10012 + 0) = (10012 : Int32) then _ else _) = _
          rw [if_pos (show nI (10012 + 0) = (10012 : Int32) by decide), gd_pos hk8, a3, n_add]
          rfl
        | 1, _ =>
          show (if nI (10012 + 1) = (10012 : Int32) then _ else _) = _
          rw [if_neg (by decide), if_pos (show nI (10012 + 1) = (10013 : Int32) by decide), gd_pos hk8, a3]
          by_cases hle : v ≤ q3
          · rw [if_pos ((n_le (by omega) (by omega)).mpr hle)]
            show _ = some (nI (v - q3), σ)
            rw [show v - q3 = 0 by omega]
            rfl
          · rw [if_neg (fun z => hle ((n_le (by omega) (by omega)).mp z)), gd_pos hk8]
            show some (nI v - nI q3, σ) = _
            rw [show nI v - nI q3 = nI (v - q3) from n_sub (by omega)]
            rfl
        | 2, _ =>
          show (if nI (10012 + 2) = (10012 : Int32) then _ else _) = _
          rw [if_neg (by decide), if_neg (show ¬ nI (10012 + 2) = (10013 : Int32) by decide)]
          rfl
      · rw [if_pos (bI_0.mpr ht), gd_pos hk8, a4, lx_eq, lx_eq, nI_1, if_neg (fun z => ht z.2)]
        exact nxt
    · rw [if_pos (bI_0.mpr hu), gd_pos hk8, a4, lx_eq, lx_eq, nI_1, if_neg (fun z => hu z.1)]
      exact nxt
/-! a town of the class -/
def TWR (t : Nat) (σ : SG) (S : Nat → Int32) (o : Nat → Bool) : Prop :=
  σ.1 t 2 = S 0 ∧ σ.1 t 12 = S 2 ∧ σ.1 t 9 = nI (wN o) ∧ σ.1 t 8 = nI (wN (whS S fun _ => false)) ∧
  (∀ p, p < 6 → σ.1 (t + 8) p = S (22 + 5 * p) ∧ σ.1 (t + 9) p = S (22 + 5 * p + 1) ∧ σ.1 (t + 10) p = S (22 + 5 * p + 2) ∧ σ.1 (t + 11) p = S (22 + 5 * p + 3) ∧ σ.1 (t + 12) p = S (22 + 5 * p + 4)) ∧
  ∀ j, j < 8 → σ.1 (t + 13) j = S (6 + j) ∧ σ.1 (t + 14) j = S (14 + j)
def RLt (t : Nat) (σ : SG) (R : List RU) : Prop := RLC (t + 1) σ R 0 0 ∧ ∀ q ∈ R, okR q
theorem whS_o (S : Nat → Int32) (o : Nat → Bool) : (fun p => whS S (fun _ => false) p && !o p) = whS S o := by
  funext p
  unfold whS bel
  dsimp only
  cases decide (p < nx (S 0)) <;> cases decide (hsS S p = ndS S p) <;> cases o p <;> rfl
theorem RLC.keep {t : Nat} {σ σ' : SG} (h0 : σ'.1 t = σ.1 t) (h1 : σ'.1 (t + 1) = σ.1 (t + 1)) (h2 : σ'.1 (t + 2) = σ.1 (t + 2)) (h3 : σ'.1 (t + 3) = σ.1 (t + 3)) (h4 : σ'.1 (t + 4) = σ.1 (t + 4)) (h5 : σ'.1 (t + 5) = σ.1 (t + 5)) : ∀ {R : List RU} {k off : Nat}, RLC t σ R k off → RLC t σ' R k off := by
  intro R
  induction R with
  | nil => intro k off h; unfold RLC at h ⊢; rw [h0]; exact h
  | cons q r ih =>
    intro k off h
    obtain ⟨a1, a2, a3, a4, a5, a6⟩ := h
    exact ⟨by rw [h1]; exact a1, by rw [h2]; exact a2, by rw [h3]; exact a3, by rw [h4]; exact a4, fun j i hi => by rw [h5]; exact a5 j i hi, ih a6⟩
theorem b_look (t : Nat) (a b c d e : Int32) (σ : SG) : ∃ σ', f_Ru_look t a b c d e σ = some ((), σ') ∧ fr (fun q => q = t + 6) σ σ' ∧ σ'.1 (t + 6) 0 = a ∧ σ'.1 (t + 6) 1 = b ∧ σ'.1 (t + 6) 2 = c ∧ σ'.1 (t + 6) 3 = d ∧ σ'.1 (t + 6) 4 = e := by
  refine ⟨_, rfl, ?_, ?_⟩
  · have u : ∀ (τ : SG) (i : Nat) (v : Int32), fr (fun q => q = t + 6) τ (uI τ (t + 6) i v) := fun τ i v => fr.uI rfl
    exact ((((u _ _ _).tr (u _ _ _)).tr (u _ _ _)).tr (u _ _ _)).tr (u _ _ _)
  · simp [uI]

theorem rgP {S : Nat → Int32} (h : GD S) {p : Nat} (hp : p < 6) : rg (S (22 + 5 * p)) 5 ∧ rg (S (22 + 5 * p + 1)) 7 ∧ rg (S (22 + 5 * p + 2)) 7 ∧ rg (S (22 + 5 * p + 3)) 999 ∧ rg (S (22 + 5 * p + 4)) 63 := h.2.2.2 p hp
theorem mi_ask {v c : Nat} (hv : v < 100000) (hc : c < 100000) (x : Int32) (σ : SG) : f_Mi_isAsked (nI v) (nI c) x σ = some (nI (v - c / 10), σ) := by
  unfold f_Mi_isAsked
  rw [lx_eq, show (10 : Int32) = nI 10 from rfl, n_div (by omega) (by decide)]
  have hc2 : c / 10 ≤ c := Nat.div_le_self _ _
  by_cases h : v ≤ c / 10
  · rw [if_pos ((n_le (by omega) (by omega)).mpr h), show v - c / 10 = 0 by omega]
    rfl
  · rw [if_neg (fun z => h ((n_le (by omega) (by omega)).mp z)), n_sub (by omega)]
theorem b_asks_kind {t p : Nat} {σ : SG} {v c kd : Nat} (hp : p < 6) (hv : v < 10000) (hc : c < 10000) (hk : kd ≤ 5) (h8 : σ.1 (t + 8) p = nI kd) (h11 : σ.1 (t + 11) p = nI c) {w : Nat} (hw : w < 64) : f_To_asks_107 t (nI p) (nI v) (nI w) σ = some (nI (kindN kd v c (decide (w = 0))), σ) := by
  have i6 : ix (nI p) 6 := ix_nI hp (by decide)
  have np : nx (nI p) = p := nx_nI (by omega)
  have w0 : nI w = 0 ↔ w = 0 := n_inj (b := 0) (by omega) (by decide)
  unfold f_To_asks_107
  rw [gd_pos i6, np, h8, gd_pos (ix_nI (by omega) (by decide)), gd_pos i6, gd_pos i6, gd_pos i6, gd_pos i6, gd_pos i6, gd_pos i6, h11]
  match kd, hk with
  | 0, _ =>
    rw [if_pos (show nI 0 = (0 : Int32) by decide)]
    by_cases z : w = 0
    · rw [if_neg (fun y => y (w0.mpr z))]; rfl
    · rw [if_pos (fun y => z (w0.mp y))]; rfl
  | 1, _ =>
    rw [if_neg (show ¬ nI 1 = (0 : Int32) by decide), if_pos (show nI 1 = (1 : Int32) by decide)]
    by_cases z : w = 0
    · rw [if_neg (fun y => y (w0.mpr z))]; rfl
    · rw [if_pos (fun y => z (w0.mp y))]; rfl
  | 2, _ =>
    rw [if_neg (show ¬ nI 2 = (0 : Int32) by decide), if_neg (show ¬ nI 2 = (1 : Int32) by decide), if_pos (show nI 2 = (2 : Int32) by decide), mi_ask (by omega) (by omega), mi_ask (by omega) (by omega)]
    by_cases z : w = 0
    · rw [if_neg (fun y => y (w0.mpr z))]; rfl
    · rw [if_pos (fun y => z (w0.mp y))]; rfl
  | 3, _ =>
    rw [if_neg (show ¬ nI 3 = (0 : Int32) by decide), if_neg (show ¬ nI 3 = (1 : Int32) by decide), if_neg (show ¬ nI 3 = (2 : Int32) by decide), if_pos (show nI 3 = (3 : Int32) by decide)]
    have e : ∀ x : Int32, f_Mi_isAsked_17 (nI v) (nI c) x σ = some (nI (v - c / 10), σ) := fun x => mi_ask (by omega) (by omega) x σ
    unfold f_Wi_isAsked
    rw [e, e, bnd_some, bnd_some]
    by_cases z : w = 0
    · rw [if_neg (fun y => y (w0.mpr z)), if_neg (show ¬ (1 : Int32) = 0 by decide), show (2 : Int32) = nI 2 from rfl, n_div (by omega) (by decide), bnd_some]
      simp [kindN, z]
    · rw [if_pos (fun y => z (w0.mp y)), if_pos rfl, bnd_some]
      simp [kindN, z]
  | 4, _ =>
    rw [if_neg (show ¬ nI 4 = (0 : Int32) by decide), if_neg (show ¬ nI 4 = (1 : Int32) by decide), if_neg (show ¬ nI 4 = (2 : Int32) by decide), if_neg (show ¬ nI 4 = (3 : Int32) by decide), if_pos (show nI 4 = (4 : Int32) by decide)]
    unfold f_Pr_isAsked
    rw [show (2 : Int32) = nI 2 from rfl, n_mul]
    by_cases z : w = 0
    · rw [if_neg (fun y => y (w0.mpr z))]; rfl
    · rw [if_pos (fun y => z (w0.mp y))]; rfl
  | 5, _ =>
    rw [if_neg (show ¬ nI 5 = (0 : Int32) by decide), if_neg (show ¬ nI 5 = (1 : Int32) by decide), if_neg (show ¬ nI 5 = (2 : Int32) by decide), if_neg (show ¬ nI 5 = (3 : Int32) by decide), if_neg (show ¬ nI 5 = (4 : Int32) by decide)]
    have e : ∀ x : Int32, f_Be_isAsked (nI v) (nI c) x σ = some (nI (2 * v - 7), σ) := by
      intro x
      unfold f_Be_isAsked f_Pr_isAsked_19
      rw [show (2 : Int32) = nI 2 from rfl, n_mul, bnd_some, show (7 : Int32) = nI 7 from rfl]
      by_cases h : 2 * v ≤ 7
      · rw [if_pos ((n_le (by omega) (by omega)).mpr h), show 2 * v - 7 = 0 by omega]
        rfl
      · rw [if_neg (fun z => h ((n_le (by omega) (by omega)).mp z)), n_sub (by omega)]
    rw [e, e]
    by_cases z : w = 0
    · rw [if_neg (fun y => y (w0.mpr z))]; rfl
    · rw [if_pos (fun y => z (w0.mp y))]; rfl
