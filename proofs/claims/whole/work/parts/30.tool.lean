/-! ===== B: what the functions answer. The total way of speaking: X comes to an answer of which Q holds ===== -/
def TC {ρ : Type} (X : Option (ρ × SG)) (Q : ρ → SG → Prop) : Prop := ∃ r σ', X = some (r, σ') ∧ Q r σ'
section TCR
variable {ρ α : Type} {X Y : Option (ρ × SG)} {Q Q' : ρ → SG → Prop} {σ : SG} {r : ρ}
theorem tc_some (h : Q r σ) : TC (some (r, σ)) Q := ⟨r, σ, rfl, h⟩
theorem tc_gd {c : Prop} [Decidable c] (h : c) (n : TC X Q) : TC (gd c X) Q := by
  unfold gd
  rw [if_pos h]
  exact n
theorem tc_bnd {Z : Option (α × SG)} {K : α → SG → Option (ρ × SG)} (n : TC Z (fun a σ' => TC (K a σ') Q)) : TC (bnd Z K) Q := by
  obtain ⟨a, σ', e, h⟩ := n
  subst e
  exact h
theorem tc_bnd_eq {Z : Option (α × SG)} {a : α} {σ' : SG} {K : α → SG → Option (ρ × SG)} (e : Z = some (a, σ')) (n : TC (K a σ') Q) : TC (bnd Z K) Q := by
  subst e
  exact n
theorem tc_sx {a : SG} {K : SG → Option (ρ × SG)} (n : TC (K a) Q) : TC (sx a K) Q := n
theorem tc_lx {β : Type} {x : β} {K : β → Option (ρ × SG)} (n : TC (K x) Q) : TC (lx x K) Q := n
theorem tc_pos {c : Prop} [Decidable c] (h : c) (n : TC X Q) : TC (if c then X else Y) Q := by rw [if_pos h]; exact n
theorem tc_neg {c : Prop} [Decidable c] (h : ¬ c) (n : TC Y Q) : TC (if c then X else Y) Q := by rw [if_neg h]; exact n
theorem tc_ite {c : Prop} [Decidable c] (n1 : c → TC X Q) (n2 : ¬ c → TC Y Q) : TC (if c then X else Y) Q := by
  by_cases h : c
  · exact tc_pos h (n1 h)
  · exact tc_neg h (n2 h)
theorem tc_mono (h : TC X Q) (f : ∀ r σ', Q r σ' → Q' r σ') : TC X Q' := by
  obtain ⟨a, σ', e, q⟩ := h
  exact ⟨a, σ', e, f a σ' q⟩
theorem tc_eq (h : TC X Q) : ∃ r σ', X = some (r, σ') ∧ Q r σ' := h
end TCR
theorem gd_pos {α : Type} {c : Prop} [Decidable c] {x : Option α} (h : c) : gd c x = x := if_pos h
theorem lx_eq {α β : Type} {x : β} {K : β → Option α} : lx x K = K x := rfl
theorem sx_eq {α : Type} {σ : SG} {K : SG → Option α} : sx σ K = K σ := rfl
theorem bnd_some {ρ α : Type} {a : ρ} {σ : SG} {K : ρ → SG → Option α} : bnd (some (a, σ)) K = K a σ := rfl
/-! numbers: an int that is a small natural number -/
theorem nx_nI {k : Nat} (h : k < 2147483648) : nx (nI k) = k := nI_clamp h
theorem ix_nI {k n : Nat} (h : k < n) (hn : n < 2147483648) : ix (nI k) n := vp_in_nI h (by omega)
theorem n_add (a b : Nat) : nI a + nI b = nI (a + b) := (Int32.ofNat_add a b).symm
theorem n_mul (a b : Nat) : nI a * nI b = nI (a * b) := (Int32.ofNat_mul a b).symm
theorem n_sub {a b : Nat} (h : b ≤ a) : nI a - nI b = nI (a - b) := by
  have e := n_add (a - b) b
  rw [Nat.sub_add_cancel h] at e
  rw [← e]
  simp
theorem n_inj {a b : Nat} (ha : a < 2147483648) (hb : b < 2147483648) : nI a = nI b ↔ a = b := by
  constructor
  · intro h
    have := congrArg Int32.toInt h
    rw [nI_toInt ha, nI_toInt hb] at this
    omega
  · intro h
    rw [h]
theorem n_lt {a b : Nat} (ha : a < 2147483648) (hb : b < 2147483648) : nI a < nI b ↔ a < b := by
  rw [Int32.lt_iff_toInt_lt, nI_toInt ha, nI_toInt hb]
  omega
theorem n_le {a b : Nat} (ha : a < 2147483648) (hb : b < 2147483648) : nI a ≤ nI b ↔ a ≤ b := by
  rw [Int32.le_iff_toInt_le, nI_toInt ha, nI_toInt hb]
  omega
theorem n_nn {a : Nat} (ha : a < 2147483648) : ¬ nI a < 0 := nI_pos ha
theorem n_0le {a : Nat} (ha : a < 2147483648) : (0 : Int32) ≤ nI a := nI_pos' ha
/-- an int of a span is one of these numbers -/
theorem n_of {x : Int32} {n : Nat} (h0 : 0 ≤ x.toInt) (h1 : x.toInt < n) : ∃ k, k < n ∧ x = nI k := by
  refine ⟨x.toInt.toNat, by omega, ?_⟩
  have hx := Int32.toInt_lt x
  apply Int32.toInt_inj.mp
  rw [nI_toInt (by omega)]
  omega
theorem i_le {x y : Int32} : x ≤ y ↔ x.toInt ≤ y.toInt := Int32.le_iff_toInt_le
theorem i_lt {x y : Int32} : x < y ↔ x.toInt < y.toInt := Int32.lt_iff_toInt_lt
theorem i_eq {x y : Int32} : x = y ↔ x.toInt = y.toInt := Int32.toInt_inj.symm
/-- lots of six, as numbers -/
def wN (f : Nat → Bool) : Nat := (f 0).toNat + 2 * (f 1).toNat + 4 * (f 2).toNat + 8 * (f 3).toNat + 16 * (f 4).toNat + 32 * (f 5).toNat
theorem wN_lt (f : Nat → Bool) : wN f < 64 := by
  unfold wN
  have h : ∀ b : Bool, b.toNat ≤ 1 := fun b => by cases b <;> decide
  have := h (f 0)
  have := h (f 1)
  have := h (f 2)
  have := h (f 3)
  have := h (f 4)
  have := h (f 5)
  omega
def wB (b0 b1 b2 b3 b4 b5 : Bool) : Nat := b0.toNat + 2 * b1.toNat + 4 * b2.toNat + 8 * b3.toNat + 16 * b4.toNat + 32 * b5.toNat
theorem wB_or : ∀ b0 b1 b2 b3 b4 b5 : Bool, nI (wB b0 b1 b2 b3 b4 b5) ||| ((1 : Int32) <<< ((0 : Int32) &&& 31)) = nI (wB true b1 b2 b3 b4 b5) ∧ nI (wB b0 b1 b2 b3 b4 b5) ||| ((1 : Int32) <<< ((1 : Int32) &&& 31)) = nI (wB b0 true b2 b3 b4 b5) ∧ nI (wB b0 b1 b2 b3 b4 b5) ||| ((1 : Int32) <<< ((2 : Int32) &&& 31)) = nI (wB b0 b1 true b3 b4 b5) ∧ nI (wB b0 b1 b2 b3 b4 b5) ||| ((1 : Int32) <<< ((3 : Int32) &&& 31)) = nI (wB b0 b1 b2 true b4 b5) ∧ nI (wB b0 b1 b2 b3 b4 b5) ||| ((1 : Int32) <<< ((4 : Int32) &&& 31)) = nI (wB b0 b1 b2 b3 true b5) ∧ nI (wB b0 b1 b2 b3 b4 b5) ||| ((1 : Int32) <<< ((5 : Int32) &&& 31)) = nI (wB b0 b1 b2 b3 b4 true) := by decide +kernel
theorem wB_and : ∀ b0 b1 b2 b3 b4 b5 : Bool, nI (wB b0 b1 b2 b3 b4 b5) &&& (((1 : Int32) <<< ((0 : Int32) &&& 31)) ^^^ (-1)) = nI (wB false b1 b2 b3 b4 b5) ∧ nI (wB b0 b1 b2 b3 b4 b5) &&& (((1 : Int32) <<< ((1 : Int32) &&& 31)) ^^^ (-1)) = nI (wB b0 false b2 b3 b4 b5) ∧ nI (wB b0 b1 b2 b3 b4 b5) &&& (((1 : Int32) <<< ((2 : Int32) &&& 31)) ^^^ (-1)) = nI (wB b0 b1 false b3 b4 b5) ∧ nI (wB b0 b1 b2 b3 b4 b5) &&& (((1 : Int32) <<< ((3 : Int32) &&& 31)) ^^^ (-1)) = nI (wB b0 b1 b2 false b4 b5) ∧ nI (wB b0 b1 b2 b3 b4 b5) &&& (((1 : Int32) <<< ((4 : Int32) &&& 31)) ^^^ (-1)) = nI (wB b0 b1 b2 b3 false b5) ∧ nI (wB b0 b1 b2 b3 b4 b5) &&& (((1 : Int32) <<< ((5 : Int32) &&& 31)) ^^^ (-1)) = nI (wB b0 b1 b2 b3 b4 false) := by decide +kernel
theorem wB_bit : ∀ b0 b1 b2 b3 b4 b5 : Bool, (nI (wB b0 b1 b2 b3 b4 b5) >>> ((0 : Int32) &&& 31)) &&& 1 = nI b0.toNat ∧ (nI (wB b0 b1 b2 b3 b4 b5) >>> ((1 : Int32) &&& 31)) &&& 1 = nI b1.toNat ∧ (nI (wB b0 b1 b2 b3 b4 b5) >>> ((2 : Int32) &&& 31)) &&& 1 = nI b2.toNat ∧ (nI (wB b0 b1 b2 b3 b4 b5) >>> ((3 : Int32) &&& 31)) &&& 1 = nI b3.toNat ∧ (nI (wB b0 b1 b2 b3 b4 b5) >>> ((4 : Int32) &&& 31)) &&& 1 = nI b4.toNat ∧ (nI (wB b0 b1 b2 b3 b4 b5) >>> ((5 : Int32) &&& 31)) &&& 1 = nI b5.toNat := by decide +kernel
theorem six {q : Nat → Prop} {p : Nat} (hp : p < 6) (h0 : q 0) (h1 : q 1) (h2 : q 2) (h3 : q 3) (h4 : q 4) (h5 : q 5) : q p := by
  match p, hp with
  | 0, _ => exact h0
  | 1, _ => exact h1
  | 2, _ => exact h2
  | 3, _ => exact h3
  | 4, _ => exact h4
  | 5, _ => exact h5
/-- one bit of a lot set -/
def bS (f : Nat → Bool) (p : Nat) (b : Bool) : Nat → Bool := fun q => if q = p then b else f q
theorem wN_or {f : Nat → Bool} {p : Nat} (hp : p < 6) : nI (wN f) ||| ((1 : Int32) <<< (nI p &&& 31)) = nI (wN (bS f p true)) := by
  have h := wB_or (f 0) (f 1) (f 2) (f 3) (f 4) (f 5)
  exact six (q := fun p => nI (wN f) ||| ((1 : Int32) <<< (nI p &&& 31)) = nI (wN (bS f p true))) hp h.1 h.2.1 h.2.2.1 h.2.2.2.1 h.2.2.2.2.1 h.2.2.2.2.2
theorem wN_and {f : Nat → Bool} {p : Nat} (hp : p < 6) : nI (wN f) &&& (((1 : Int32) <<< (nI p &&& 31)) ^^^ (-1)) = nI (wN (bS f p false)) := by
  have h := wB_and (f 0) (f 1) (f 2) (f 3) (f 4) (f 5)
  exact six (q := fun p => nI (wN f) &&& (((1 : Int32) <<< (nI p &&& 31)) ^^^ (-1)) = nI (wN (bS f p false))) hp h.1 h.2.1 h.2.2.1 h.2.2.2.1 h.2.2.2.2.1 h.2.2.2.2.2
theorem wN_bit {f : Nat → Bool} {p : Nat} (hp : p < 6) : (nI (wN f) >>> (nI p &&& 31)) &&& 1 = nI (f p).toNat := by
  have h := wB_bit (f 0) (f 1) (f 2) (f 3) (f 4) (f 5)
  exact six (q := fun p => (nI (wN f) >>> (nI p &&& 31)) &&& 1 = nI (f p).toNat) hp h.1 h.2.1 h.2.2.1 h.2.2.2.1 h.2.2.2.2.1 h.2.2.2.2.2
theorem wN_ext {f g : Nat → Bool} (h : ∀ p, p < 6 → f p = g p) : wN f = wN g := by
  unfold wN
  rw [h 0 (by decide), h 1 (by decide), h 2 (by decide), h 3 (by decide), h 4 (by decide), h 5 (by decide)]
theorem wN_inj {f g : Nat → Bool} (h : wN f = wN g) : ∀ p, p < 6 → f p = g p := by
  have e : nI (wN f) = nI (wN g) := by rw [h]
  intro p hp
  have e2 := wN_bit (f := f) hp
  rw [e, wN_bit hp] at e2
  cases hf : f p <;> cases hg : g p <;> rw [hf, hg] at e2 <;> first | rfl | exact absurd e2 (by decide)
/-- the first n of six -/
theorem wN_all : ∀ n, n ≤ 6 → ((1 : Int32) <<< (nI n &&& 31)) - 1 = nI (wN fun p => decide (p < n)) := by decide +kernel
/-! stores and reads -/
theorem uI_same {σ : SG} {c i : Nat} {v : Int32} : (uI σ c i v).1 c i = v := if_pos ⟨rfl, rfl⟩
theorem uI_c {σ : SG} {c i c' j : Nat} {v : Int32} (h : c' ≠ c) : (uI σ c i v).1 c' j = σ.1 c' j := if_neg (fun z => h z.1)
theorem uI_i {σ : SG} {c i c' j : Nat} {v : Int32} (h : j ≠ i) : (uI σ c i v).1 c' j = σ.1 c' j := if_neg (fun z => h z.2)
theorem uI_at (σ : SG) (c i c' j : Nat) (v : Int32) : (uI σ c i v).1 c' j = if c' = c ∧ j = i then v else σ.1 c' j := rfl
theorem uI_2 {σ : SG} {c i : Nat} {v : Int32} : (uI σ c i v).2 = σ.2 := rfl
/-- nothing changed but in the cells that L names -/
def fr (L : Nat → Prop) (σ σ' : SG) : Prop := (∀ c, ¬ L c → σ'.1 c = σ.1 c) ∧ σ'.2 = σ.2
theorem fr.rf {L : Nat → Prop} {σ : SG} : fr L σ σ := ⟨fun _ _ => rfl, rfl⟩
theorem fr.tr {L : Nat → Prop} {a b c : SG} (h1 : fr L a b) (h2 : fr L b c) : fr L a c := ⟨fun q hq => (h2.1 q hq).trans (h1.1 q hq), h2.2.trans h1.2⟩
theorem fr.mono {L M : Nat → Prop} {a b : SG} (h : fr L a b) (hl : ∀ c, L c → M c) : fr M a b := ⟨fun q hq => h.1 q (fun z => hq (hl q z)), h.2⟩
theorem fr.uI {L : Nat → Prop} {σ : SG} {c i : Nat} {v : Int32} (h : L c) : fr L σ (uI σ c i v) := ⟨fun q hq => funext fun j => uI_c (fun z => hq (z ▸ h)), rfl⟩
theorem fr.at {L : Nat → Prop} {a b : SG} (h : fr L a b) {c : Nat} (hc : ¬ L c) (i : Nat) : b.1 c i = a.1 c i := congrFun (h.1 c hc) i
