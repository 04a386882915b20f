/-! RULES: conditions as rows of items, each sign behind what it joins: (0..2, left, right) a comparison, 3 and, 4 or, 5 not -/
abbrev IT : Type := Nat × Nat × Nat
def okI (i : IT) : Prop := i.1 ≤ 5 ∧ i.2.1 ≤ 10004 ∧ i.2.2 ≤ 10004
def itN (i : IT) : Nat := i.1 * 268435456 + i.2.1 * 16384 + i.2.2
/-- as the class keeps it -/
def encC (i : IT) : Int32 := if i.1 = 3 then -1 else if i.1 = 4 then -2 else if i.1 = 5 then -3 else nI (itN i)
/-- as the reference keeps it -/
def vM (v : Nat) : Int32 := if v < 10000 then nI v else -(nI (v - 9999))
def sgM : Nat → Int32
  | 0 => -11
  | 1 => -12
  | _ => -13
def expM (i : IT) : List Int32 := if i.1 = 3 then [-21] else if i.1 = 4 then [-22] else if i.1 = 5 then [-20] else [vM i.2.1, vM i.2.2, sgM i.1]
def valA (fx : Nat → Int32) (v : Nat) : Int32 := if v < 10000 then nI v else fx (v - 10000)
def cmpA (s : Nat) (x y : Int32) : Bool := if s = 0 then decide (x < y) else if s = 1 then decide (x = y) else decide (y < x)
def stepA (fx : Nat → Int32) (i : IT) (st : List Bool) : List Bool :=
  if i.1 = 3 then (match st with | a :: b :: r => (b && a) :: r | s => s)
  else if i.1 = 4 then (match st with | a :: b :: r => (b || a) :: r | s => s)
  else if i.1 = 5 then (match st with | a :: r => (!a) :: r | s => s)
  else cmpA i.1 (valA fx i.2.1) (valA fx i.2.2) :: st
def evalA (fx : Nat → Int32) : List IT → List Bool → List Bool
  | [], st => st
  | i :: r, st => evalA fx r (stepA fx i st)
def topA : List Bool → Bool
  | [] => true
  | b :: _ => b
/-- how many wait behind the items, from so many; none where one is wanting, or more than nine wait -/
def dptA : List IT → Nat → Option Nat
  | [], d => some d
  | i :: r, d => if i.1 = 3 ∨ i.1 = 4 then (if 2 ≤ d then dptA r (d - 1) else none) else if i.1 = 5 then (if 1 ≤ d then dptA r d else none) else (if d < 9 then dptA r (d + 1) else none)
/-- a condition is as it should be -/
def okL (L : List IT) : Prop := (∀ i ∈ L, okI i) ∧ (L = [] ∨ dptA L 0 = some 1)
/-- the class's bits: the latest lowest, a 1 above all -/
def encB : List Bool → Nat
  | [] => 1
  | b :: r => 2 * encB r + b.toNat
theorem encB_lt : ∀ st : List Bool, encB st < 2 ^ (st.length + 1) := by
  intro st
  induction st with
  | nil => decide
  | cons b r ih =>
    have hb : b.toNat ≤ 1 := by cases b <;> decide
    rw [encB, List.length_cons, Nat.pow_succ]
    omega
theorem encB_1024 {st : List Bool} (h : st.length ≤ 9) : encB st < 1024 := Nat.lt_of_lt_of_le (encB_lt st) (Nat.pow_le_pow_right (by decide) (by omega) : 2 ^ (st.length + 1) ≤ 2 ^ 10)
theorem bits_push : ∀ n, n < 1024 → (nI n <<< ((1 : Int32) &&& 31)) ||| 0 = nI (2 * n) ∧ (nI n <<< ((1 : Int32) &&& 31)) ||| 1 = nI (2 * n + 1) := by decide +kernel
theorem bits_not : ∀ n, n < 512 → nI (2 * n) ^^^ 1 = nI (2 * n + 1) ∧ nI (2 * n + 1) ^^^ 1 = nI (2 * n) := by decide +kernel
theorem bits_and : ∀ n, n < 256 → (nI (2 * (2 * n) ) >>> ((1 : Int32) &&& 31)) &&& (nI (2 * (2 * n)) ||| -2) = nI (2 * n) ∧ (nI (2 * (2 * n + 1)) >>> ((1 : Int32) &&& 31)) &&& (nI (2 * (2 * n + 1)) ||| -2) = nI (2 * n) ∧ (nI (2 * (2 * n) + 1) >>> ((1 : Int32) &&& 31)) &&& (nI (2 * (2 * n) + 1) ||| -2) = nI (2 * n) ∧ (nI (2 * (2 * n + 1) + 1) >>> ((1 : Int32) &&& 31)) &&& (nI (2 * (2 * n + 1) + 1) ||| -2) = nI (2 * n + 1) := by decide +kernel
theorem bits_or : ∀ n, n < 256 → (nI (2 * (2 * n) ) >>> ((1 : Int32) &&& 31)) ||| (nI (2 * (2 * n)) &&& 1) = nI (2 * n) ∧ (nI (2 * (2 * n + 1)) >>> ((1 : Int32) &&& 31)) ||| (nI (2 * (2 * n + 1)) &&& 1) = nI (2 * n + 1) ∧ (nI (2 * (2 * n) + 1) >>> ((1 : Int32) &&& 31)) ||| (nI (2 * (2 * n) + 1) &&& 1) = nI (2 * n + 1) ∧ (nI (2 * (2 * n + 1) + 1) >>> ((1 : Int32) &&& 31)) ||| (nI (2 * (2 * n + 1) + 1) &&& 1) = nI (2 * n + 1) := by decide +kernel
theorem bits_end : ∀ n, n < 1024 → nI n &&& 1 = nI (n % 2) := by decide +kernel
theorem n_shr {a k : Nat} (ha : a < 2147483648) (hk : k < 32) : nI a >>> (nI k &&& 31) = nI (a / 2 ^ k) := by
  apply b_ext
  intro i hi
  rw [b_sshr k hk _ hi]
  have t : ∀ n j, j < 32 → n < 2147483648 → bt (nI n) j = n.testBit j := by
    intro n j hj hn
    show (BitVec.ofNat 32 n).getLsbD j = _
    rw [BitVec.getLsbD_ofNat]
    simp [hj]
  have hq : a / 2 ^ k < 2147483648 := Nat.lt_of_le_of_lt (Nat.div_le_self _ _) ha
  rw [t _ i hi hq, Nat.testBit_div_two_pow]
  by_cases h : k + i < 32
  · rw [if_pos h, t _ _ h ha, Nat.add_comm]
  · rw [if_neg h, t _ 31 (by decide) ha]
    rw [Nat.testBit_lt_two_pow (show a < 2 ^ 31 from ha), Nat.testBit_lt_two_pow]
    exact Nat.lt_of_lt_of_le ha (show 2 ^ 31 ≤ 2 ^ (i + k) from Nat.pow_le_pow_right (by decide) (by omega))
theorem n_mask {a k : Nat} (m : Int32) (hm : m = nI (2 ^ k - 1)) : nI a &&& m = nI (a % 2 ^ k) := by
  rw [hm, nx_and, Nat.and_two_pow_sub_one_eq_mod]
theorem itN_lt {i : IT} (h : okI i) (h2 : i.1 ≤ 2) : itN i < 2147483648 := by
  obtain ⟨-, h3, h4⟩ := h
  unfold itN
  omega
theorem it_left {i : IT} (h : okI i) (h2 : i.1 ≤ 2) : (nI (itN i) >>> ((14 : Int32) &&& 31)) &&& 16383 = nI i.2.1 := by
  rw [show (14 : Int32) = nI 14 from rfl, n_shr (itN_lt h h2) (by decide), n_mask (k := 14) 16383 rfl]
  obtain ⟨-, h3, h4⟩ := h
  refine congrArg nI ?_
  unfold itN
  omega
theorem it_right {i : IT} (h : okI i) : nI (itN i) &&& 16383 = nI i.2.2 := by
  rw [n_mask (k := 14) 16383 rfl]
  obtain ⟨-, h3, h4⟩ := h
  refine congrArg nI ?_
  unfold itN
  omega
theorem it_sign {i : IT} (h : okI i) (h2 : i.1 ≤ 2) : nI (itN i) >>> ((28 : Int32) &&& 31) = nI i.1 := by
  rw [show (28 : Int32) = nI 28 from rfl, n_shr (itN_lt h h2) (by decide)]
  obtain ⟨-, h3, h4⟩ := h
  refine congrArg nI ?_
  unfold itN
  omega
theorem n_neg {a : Nat} {k : Int32} (ha : a < 2147483648) (hk : k < 0) : ¬ nI a = k := by
  intro h
  rw [i_lt, ← h, nI_toInt ha] at hk
  have : (0 : Int32).toInt = 0 := rfl
  omega
/-- the class's evaluation of one condition -/
theorem b_holds_cmp (t : Nat) (K5 : Int32 → Int32 → Int32 → SG → Option (Int32 × SG)) {s : Nat} (h2 : s ≤ 2) {w : Int32} (hw : w >>> ((28 : Int32) &&& 31) = nI s) (x2 x4 x y : Int32) {n : Nat} (hn : n < 1024) (σ : SG) : f_Ru_holds_139 t K5 x2 (nI n) x4 w x y σ = K5 x2 (nI (2 * n + (cmpA s x y).toNat)) (x4 + 1) σ := by
  have p0 : f_Ru_holds_201 t K5 x2 (nI n) x4 (0 : Int32) σ = K5 x2 (nI (2 * n)) (x4 + 1) σ := by
    unfold f_Ru_holds_201
    rw [if_pos rfl]
    show K5 x2 _ (x4 + 1) σ = _
    rw [(bits_push n hn).1]
  have p1 : f_Ru_holds_201 t K5 x2 (nI n) x4 (1 : Int32) σ = K5 x2 (nI (2 * n + 1)) (x4 + 1) σ := by
    unfold f_Ru_holds_201
    rw [if_neg (by decide)]
    show K5 x2 _ (x4 + 1) σ = _
    rw [(bits_push n hn).2]
  have c : ∀ b : Bool, K5 x2 (nI (2 * n + b.toNat)) (x4 + 1) σ = if b then K5 x2 (nI (2 * n + 1)) (x4 + 1) σ else K5 x2 (nI (2 * n)) (x4 + 1) σ := fun b => by cases b <;> rfl
  rw [c, ← p0, ← p1]
  unfold f_Ru_holds_139
  show (if ¬ w >>> ((28 : Int32) &&& 31) = 0 then _ else _) = _
  rw [hw]
  match s, h2 with
  | 0, _ =>
    rw [if_neg (fun z => z rfl)]
    by_cases q : x < y
    · rw [if_neg (Int32.not_le.mpr q), if_pos (by simp [cmpA, q])]
    · rw [if_pos (Int32.not_lt.mp q), if_neg (by simp [cmpA, q])]
  | 1, _ =>
    rw [if_pos (show ¬ nI 1 = 0 by decide), if_neg (show ¬ ¬ nI 1 = (1 : Int32) by decide)]
    by_cases q : x = y
    · rw [if_neg (fun z => z q), if_pos (by simp [cmpA, q])]
    · rw [if_pos q, if_neg (by simp [cmpA, q])]
  | 2, _ =>
    rw [if_pos (show ¬ nI 2 = 0 by decide), if_pos (show ¬ nI 2 = (1 : Int32) by decide)]
    by_cases q : y < x
    · rw [if_neg (Int32.not_le.mpr q), if_pos (by simp [cmpA, q])]
    · rw [if_pos (Int32.not_lt.mp q), if_neg (by simp [cmpA, q])]
theorem b_holds_l (t : Nat) {fx : Nat → Int32} {σ : SG} (hf : ∀ i, i < 5 → σ.1 (t + 6) i = fx i) : ∀ (R : List IT) (st : List Bool) (pos to f d : Nat), (∀ i ∈ R, okI i) → dptA R st.length = some d → st.length ≤ 9 → pos + R.length = to → to ≤ 200 → R.length < f → (∀ j i, R[j]? = some i → σ.1 (t + 5) (pos + j) = encC i) → f_Ru_holds_5 t f (nI to) (nI (encB st)) (nI pos) σ = some (bI (topA (evalA fx R st) = true), σ) := by
  intro R
  induction R with
  | nil =>
    intro st pos to f d _ _ hl hp ht hfu _
    obtain ⟨f, rfl⟩ : ∃ g, f = g + 1 := ⟨f - 1, by omega⟩
    have e : pos = to := hp
    subst e
    rw [f_Ru_holds_5, if_pos (Int32.le_refl _), bits_end _ (encB_1024 hl)]
    cases st with
    | nil => rfl
    | cons b r =>
      have e : encB (b :: r) % 2 = b.toNat := by
        rw [encB]
        cases b <;> simp <;> omega
      rw [e]
      cases b <;> rfl
  | cons i R ih =>
    intro st pos to f d hok hd hl hp ht hfu hc
    obtain ⟨f, rfl⟩ : ∃ g, f = g + 1 := ⟨f - 1, by omega⟩
    rw [List.length_cons] at hp hfu
    have hi := hok i List.mem_cons_self
    have hok2 : ∀ i ∈ R, okI i := fun q hq => hok q (List.mem_cons_of_mem _ hq)
    have hc2 : ∀ j q, R[j]? = some q → σ.1 (t + 5) (pos + 1 + j) = encC q := fun j q h => by
      have := hc (j + 1) q (by simpa using h)
      rw [show pos + 1 + j = pos + (j + 1) by omega]
      exact this
    have hc0 : σ.1 (t + 5) pos = encC i := hc 0 i rfl
    rw [f_Ru_holds_5, if_neg (nI_ge (by omega) (by omega)), gd_pos (ix_nI (by omega) (by omega)), nx_nI (by omega)]
    show (if ¬ σ.1 (t + 5) pos = (-3 : Int32) then _ else _) = _
    rw [hc0]
    have e1 : nI pos + (1 : Int32) = nI (pos + 1) := nI_1 pos
    rw [evalA]
    rw [dptA] at hd
    by_cases s3 : i.1 = 3
    · rw [if_pos (Or.inl s3)] at hd
      have hlen : 2 ≤ st.length := by
        by_cases h : 2 ≤ st.length
        · exact h
        · rw [if_neg h] at hd
          cases hd
      rw [if_pos hlen] at hd
      match st, hlen, hd, hl with
      | a :: b :: r, _, hd, hl =>
        have hb : encB r < 256 := Nat.lt_of_lt_of_le (encB_lt r) (Nat.pow_le_pow_right (by decide) (by simp at hl; omega) : 2 ^ (r.length + 1) ≤ 2 ^ 8)
        have hbit := bits_and _ hb
        have e2 : (nI (encB (a :: b :: r)) >>> ((1 : Int32) &&& 31)) &&& (nI (encB (a :: b :: r)) ||| (-2 : Int32)) = nI (encB ((b && a) :: r)) := by
          rw [encB, encB, encB]
          cases a <;> cases b
          · exact hbit.1
          · exact hbit.2.1
          · exact hbit.2.2.1
          · exact hbit.2.2.2
        have e3 : encC i = -1 := by unfold encC; rw [if_pos s3]
        rw [e3, if_pos (show ¬ (-1 : Int32) = -3 by decide), if_neg (show ¬ ¬ (-1 : Int32) = -1 by decide)]
        show f_Ru_holds_5 t f (nI to) ((nI (encB (a :: b :: r)) >>> ((1 : Int32) &&& 31)) &&& (nI (encB (a :: b :: r)) ||| (-2 : Int32))) (nI pos + 1) σ = _
        rw [e2, e1]
        have e4 : stepA fx i (a :: b :: r) = (b && a) :: r := by unfold stepA; rw [if_pos s3]
        rw [e4]
        exact ih ((b && a) :: r) (pos + 1) to f d hok2 (by simpa using hd) (by simp at hl ⊢; omega) (by omega) ht (by omega) hc2
    · by_cases s4 : i.1 = 4
      · rw [if_pos (Or.inr s4)] at hd
        have hlen : 2 ≤ st.length := by
          by_cases h : 2 ≤ st.length
          · exact h
          · rw [if_neg h] at hd
            cases hd
        rw [if_pos hlen] at hd
        match st, hlen, hd, hl with
        | a :: b :: r, _, hd, hl =>
          have hb : encB r < 256 := Nat.lt_of_lt_of_le (encB_lt r) (Nat.pow_le_pow_right (by decide) (by simp at hl; omega) : 2 ^ (r.length + 1) ≤ 2 ^ 8)
          have hbit := bits_or _ hb
          have e2 : (nI (encB (a :: b :: r)) >>> ((1 : Int32) &&& 31)) ||| (nI (encB (a :: b :: r)) &&& (1 : Int32)) = nI (encB ((b || a) :: r)) := by
            rw [encB, encB, encB]
            cases a <;> cases b
            · exact hbit.1
            · exact hbit.2.1
            · exact hbit.2.2.1
            · exact hbit.2.2.2
          have e3 : encC i = -2 := by unfold encC; rw [if_neg s3, if_pos s4]
          rw [e3, if_pos (show ¬ (-2 : Int32) = -3 by decide), if_pos (show ¬ (-2 : Int32) = -1 by decide), if_neg (show ¬ ¬ (-2 : Int32) = -2 by decide)]
          show f_Ru_holds_5 t f (nI to) ((nI (encB (a :: b :: r)) >>> ((1 : Int32) &&& 31)) ||| (nI (encB (a :: b :: r)) &&& (1 : Int32))) (nI pos + 1) σ = _
          rw [e2, e1]
          have e4 : stepA fx i (a :: b :: r) = (b || a) :: r := by unfold stepA; rw [if_neg s3, if_pos s4]
          rw [e4]
          exact ih ((b || a) :: r) (pos + 1) to f d hok2 (by simpa using hd) (by simp at hl ⊢; omega) (by omega) ht (by omega) hc2
      · rw [if_neg (fun z => z.elim s3 s4)] at hd
        by_cases s5 : i.1 = 5
        · rw [if_pos s5] at hd
          have hlen : 1 ≤ st.length := by
            by_cases h : 1 ≤ st.length
            · exact h
            · rw [if_neg h] at hd
              cases hd
          rw [if_pos hlen] at hd
          match st, hlen, hd, hl with
          | a :: r, _, hd, hl =>
            have hb : encB r < 512 := Nat.lt_of_lt_of_le (encB_lt r) (Nat.pow_le_pow_right (by decide) (by simp at hl; omega) : 2 ^ (r.length + 1) ≤ 2 ^ 9)
            have hbit := bits_not _ hb
            have e2 : nI (encB (a :: r)) ^^^ (1 : Int32) = nI (encB ((!a) :: r)) := by
              rw [encB, encB]
              cases a
              · exact hbit.1
              · exact hbit.2
            have e3 : encC i = -3 := by unfold encC; rw [if_neg s3, if_neg s4, if_pos s5]
            rw [e3, if_neg (show ¬ ¬ (-3 : Int32) = -3 by decide)]
            show f_Ru_holds_5 t f (nI to) (nI (encB (a :: r)) ^^^ (1 : Int32)) (nI pos + 1) σ = _
            rw [e2, e1]
            have e4 : stepA fx i (a :: r) = (!a) :: r := by unfold stepA; rw [if_neg s3, if_neg s4, if_pos s5]
            rw [e4]
            exact ih ((!a) :: r) (pos + 1) to f d hok2 (by simpa using hd) (by simp at hl ⊢; omega) (by omega) ht (by omega) hc2
        · rw [if_neg s5] at hd
          have hlen : st.length < 9 := by
            by_cases h : st.length < 9
            · exact h
            · rw [if_neg h] at hd
              cases hd
          rw [if_pos hlen] at hd
          have h2 : i.1 ≤ 2 := by have := hi.1; omega
          obtain ⟨w, e3, w1, w2, w3, w4, w5, w6⟩ : ∃ w, encC i = w ∧ ¬ w = (-3 : Int32) ∧ ¬ w = (-1 : Int32) ∧ ¬ w = (-2 : Int32) ∧ (w >>> ((14 : Int32) &&& 31)) &&& 16383 = nI i.2.1 ∧ w &&& 16383 = nI i.2.2 ∧ w >>> ((28 : Int32) &&& 31) = nI i.1 :=
            ⟨nI (itN i), by unfold encC; rw [if_neg s3, if_neg s4, if_neg s5], n_neg (itN_lt hi h2) (by decide), n_neg (itN_lt hi h2) (by decide), n_neg (itN_lt hi h2) (by decide), it_left hi h2, it_right hi, it_sign hi h2⟩
          rw [e3, if_pos w1, if_pos w2, if_pos w3]
          show lx ((w >>> ((14 : Int32) &&& 31)) &&& (16383 : Int32)) (fun y2 => lx (w &&& (16383 : Int32)) (fun y3 => _)) = _
          rw [w4, w5]
          have e4 : stepA fx i st = cmpA i.1 (valA fx i.2.1) (valA fx i.2.2) :: st := by unfold stepA; rw [if_neg s3, if_neg s4, if_neg s5]
          rw [e4]
          have key : f_Ru_holds_139 t (f_Ru_holds_5 t f) (nI to) (nI (encB st)) (nI pos) w (valA fx i.2.1) (valA fx i.2.2) σ = some (bI (topA (evalA fx R (cmpA i.1 (valA fx i.2.1) (valA fx i.2.2) :: st)) = true), σ) := by
            rw [b_holds_cmp t _ h2 w6 _ _ _ _ (encB_1024 hl), e1]
            exact ih (cmpA i.1 (valA fx i.2.1) (valA fx i.2.2) :: st) (pos + 1) to f d hok2 (by simpa using hd) (by simp; omega) (by omega) ht (by omega) hc2
          have fl : ∀ v, v ≤ 10004 → 10000 ≤ v → ix (nI v - (10000 : Int32)) 5 ∧ σ.1 (t + 6) (nx (nI v - (10000 : Int32))) = valA fx v := by
            intro v h5 h6
            have e : nI v - (10000 : Int32) = nI (v - 10000) := n_sub (b := 10000) h6
            rw [e]
            refine ⟨ix_nI (by omega) (by decide), ?_⟩
            rw [nx_nI (by omega), hf _ (by omega)]
            unfold valA
            rw [if_neg (by omega)]
          have fs : ∀ v, v < 10000 → valA fx v = nI v := fun v h => by unfold valA; rw [if_pos h]
          have cl : ∀ v, v ≤ 10004 → ((10000 : Int32) ≤ nI v ↔ 10000 ≤ v) := fun v h => n_le (a := 10000) (by decide) (by omega)
          show (if (10000 : Int32) ≤ nI i.2.1 then _ else _) = _
          by_cases hl1 : 10000 ≤ i.2.1
          · rw [if_pos ((cl _ hi.2.1).mpr hl1), gd_pos (fl _ hi.2.1 hl1).1]
            show (if (10000 : Int32) ≤ nI i.2.2 then _ else _) = _
            rw [(fl _ hi.2.1 hl1).2]
            by_cases hl2 : 10000 ≤ i.2.2
            · rw [if_pos ((cl _ hi.2.2).mpr hl2), gd_pos (fl _ hi.2.2 hl2).1, (fl _ hi.2.2 hl2).2]
              exact key
            · rw [if_neg (fun z => hl2 ((cl _ hi.2.2).mp z)), ← fs i.2.2 (by omega)]
              exact key
          · rw [if_neg (fun z => hl1 ((cl _ hi.2.1).mp z)), ← fs i.2.1 (by omega)]
            by_cases hl2 : 10000 ≤ i.2.2
            · rw [if_pos ((cl _ hi.2.2).mpr hl2), gd_pos (fl _ hi.2.2 hl2).1, (fl _ hi.2.2 hl2).2]
              exact key
            · rw [if_neg (fun z => hl2 ((cl _ hi.2.2).mp z)), ← fs i.2.2 (by omega)]
              exact key

/-! the reference's evaluation -/
theorem expM_len {i : IT} (h : okI i) : (expM i).length = if i.1 ≤ 2 then 3 else 1 := by
  unfold expM
  have h1 := h.1
  by_cases s3 : i.1 = 3
  · rw [if_pos s3, if_neg (by omega)]; rfl
  · rw [if_neg s3]
    by_cases s4 : i.1 = 4
    · rw [if_pos s4, if_neg (by omega)]; rfl
    · rw [if_neg s4]
      by_cases s5 : i.1 = 5
      · rw [if_pos s5, if_neg (by omega)]; rfl
      · rw [if_neg s5, if_pos (show i.1 ≤ 2 by omega)]; rfl
/-- the stack of the reference: what waits, the latest last -/
def stkM (σ : SG) (st : List Bool) : Prop := ∀ j b, st.reverse[j]? = some b → σ.1 152 j = nI b.toNat
/-- facts as the reference's fact answers them, whatever its stack holds -/
def fctM (fx : Nat → Int32) (p : Int32) (σ : SG) : Prop := ∀ σ', fr (fun c => c = 152) σ σ' → ∀ v, v ≤ 10004 → f_M_fact (vM v) p σ' = some (valA fx v, σ')
theorem vM_big {v : Nat} (h : v ≤ 10004) : ¬ vM v ≤ (-10 : Int32) := by
  unfold vM
  by_cases q : v < 10000
  · rw [if_pos q, i_le, nI_toInt (by omega)]
    have : (-10 : Int32).toInt = -10 := rfl
    omega
  · rw [if_neg q]
    have : ∀ a, a ≤ 5 → ¬ -(nI a) ≤ (-10 : Int32) := by decide
    exact this _ (by omega)
theorem m_hold {s : Nat} (hs : s ≤ 2) (x y : Int32) (σ : SG) : f_M_isHolding (sgM s) x y σ = some (nI (cmpA s x y).toNat, σ) := by
  match s, hs with
  | 0, _ =>
    show f_M_isHolding (-11) x y σ = _
    unfold f_M_isHolding
    rw [if_neg (by decide), if_neg (by decide), if_neg (by decide), if_pos rfl]
    by_cases q : x < y
    · rw [if_neg (Int32.not_le.mpr q)]; simp [cmpA, q]; rfl
    · rw [if_pos (Int32.not_lt.mp q)]; simp [cmpA, q]; rfl
  | 1, _ =>
    show f_M_isHolding (-12) x y σ = _
    unfold f_M_isHolding
    rw [if_neg (by decide), if_neg (by decide), if_pos rfl]
    by_cases q : x = y
    · rw [if_neg (fun z => z q)]; simp [cmpA, q]; rfl
    · rw [if_pos q]; simp [cmpA, q]; rfl
  | 2, _ =>
    show f_M_isHolding (-13) x y σ = _
    unfold f_M_isHolding
    rw [if_neg (by decide), if_pos rfl]
    by_cases q : y < x
    · rw [if_neg (Int32.not_le.mpr q)]; simp [cmpA, q]; rfl
    · rw [if_pos (Int32.not_lt.mp q)]; simp [cmpA, q]; rfl
theorem m_holdB (a b : Bool) (σ : SG) : f_M_isHolding (-21 : Int32) (nI b.toNat) (nI a.toNat) σ = some (nI (b && a).toNat, σ) ∧ f_M_isHolding (-22 : Int32) (nI b.toNat) (nI a.toNat) σ = some (nI (b || a).toNat, σ) := by
  unfold f_M_isHolding
  cases a <;> cases b <;> exact ⟨rfl, rfl⟩
