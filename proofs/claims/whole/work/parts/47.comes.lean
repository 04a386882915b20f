/-! what the class's SEARCH comes to, told of the rows -/
abbrev ROW : Type := List Nat × Nat
def mn (f : ROW → Nat) (L : List ROW) : Nat := L.foldl (fun a r => min a (f r)) 1000000
theorem mn_add {f : ROW → Nat} (w : Nat) : ∀ (L : List ROW) (a b : Nat), a ≤ b + w → L.foldl (fun a r => min a (f r + w)) a = min a (L.foldl (fun a r => min a (f r)) b + w) := by
  intro L
  induction L with
  | nil =>
    intro a b h
    show a = min a (b + w)
    omega
  | cons x L ih =>
    intro a b h
    rw [List.foldl_cons, List.foldl_cons, ih (min a (f x + w)) (min b (f x)) (by omega)]
    have h2 : L.foldl (fun a r => min a (f r)) (min b (f x)) ≤ min b (f x) := by
      generalize min b (f x) = z
      clear ih h
      induction L generalizing z with
      | nil => exact Nat.le_refl _
      | cons y L ih => rw [List.foldl_cons]; exact Nat.le_trans (ih _) (Nat.min_le_left _ _)
    generalize L.foldl (fun a r => min a (f r)) (min b (f x)) = z at h2 ⊢
    omega
theorem mn_le (f : ROW → Nat) (L : List ROW) : mn f L ≤ 1000000 := by
  unfold mn
  generalize 1000000 = z
  induction L generalizing z with
  | nil => exact Nat.le_refl _
  | cons y L ih => rw [List.foldl_cons]; exact Nat.le_trans (ih _) (Nat.min_le_left _ _)
theorem foldl_fm {α β γ : Type} (F : γ → β → γ) (g : α → List β) : ∀ (l : List α) (a : γ), (l.flatMap g).foldl F a = l.foldl (fun a c => (g c).foldl F a) a := by
  intro l
  induction l with
  | nil => intro a; rfl
  | cons x l ih =>
    intro a
    rw [List.flatMap_cons, List.foldl_append, List.foldl_cons]
    exact ih _
theorem min_if {x a : Nat} (hx : x < 2147483648) (ha : a < 2147483648) : (if nI x < nI a then nI x else nI a) = nI (min a x) := by
  by_cases h : x < a
  · rw [if_pos ((n_lt hx ha).mpr h)]
    congr 1
    omega
  · rw [if_neg (fun z => h ((n_lt hx ha).mp z))]
    congr 1
    omega
/-- of one of the two kinds: how long, or what it costs -/
theorem fold_mn {f : ROW → Nat} {R : List RU} {o : Nat → Bool} {n : Nat} {S : Nat → Int32} {md : Int32} {w : Nat → Nat} (hw : ∀ c, c ∈ canL S R o 0 → w c < 10000) (hj : ∀ c, c ∈ canL S R o 0 → ∀ a x : Nat, a ≤ 1000000 → x ≤ 1000000 → jnA md (nI a) (nI x) (nI (paC S R o c)) = nI (min a (x + w c))) (hf : ∀ c, c ∈ canL S R o 0 → ∀ r : ROW, f (c :: r.1, paC S R o c + r.2) = f r + w c) (ih : ∀ c, c ∈ canL S R o 0 → vaA md R o n (doC S R o c) = nI (mn f (rowsA R o n (doC S R o c)))) : ∀ (l : List Nat), (∀ c ∈ l, c ∈ canL S R o 0) → ∀ a : Nat, a ≤ 1000000 → l.foldl (jnF md R o n S) (nI a) = nI ((l.flatMap fun c => (rowsA R o n (doC S R o c)).map fun r => (c :: r.1, paC S R o c + r.2)).foldl (fun a r => min a (f r)) a) := by
  intro l
  induction l with
  | nil => intro _ a _; rfl
  | cons c l ihl =>
    intro hl a ha
    have hc := hl c List.mem_cons_self
    rw [List.foldl_cons, List.flatMap_cons, List.foldl_append, List.foldl_map]
    have e : (fun (a : Nat) (r : ROW) => min a (f (c :: r.1, paC S R o c + r.2))) = fun a r => min a (f r + w c) := by
      funext a r
      rw [hf c hc]
    rw [e, mn_add (w c) _ a 1000000 (by omega)]
    show l.foldl (jnF md R o n S) (jnA md (nI a) (vaA md R o n (doC S R o c)) (nI (paC S R o c))) = _
    rw [ih c hc, hj c hc a _ ha (mn_le _ _)]
    exact ihl (fun x hx => hl x (List.mem_cons_of_mem _ hx)) _ (by unfold mn; omega)
theorem va_len {R : List RU} {o : Nat → Bool} : ∀ (n : Nat) (S : Nat → Int32), vaA 0 R o n S = nI (mn (fun r => r.1.length) (rowsA R o n S)) := by
  intro n
  induction n with
  | zero =>
    intro S
    rw [vaA, rowsA]
    unfold edA
    rw [if_neg (by decide), if_neg (by decide), if_neg (by decide), if_neg (by decide)]
    by_cases h : doneP S o
    · rw [if_pos h, if_pos h]; rfl
    · rw [if_neg h, if_neg h]; rfl
  | succ n ih =>
    intro S
    rw [vaA, rowsA]
    by_cases h : doneP S o
    · rw [if_pos h, if_pos h]
      unfold edA
      rw [if_neg (by decide), if_neg (by decide), if_neg (by decide), if_neg (by decide), if_pos h]
      rfl
    · rw [if_neg h, if_neg h]
      refine fold_mn (w := fun _ => 1) (fun _ _ => by decide) (fun c _ a x ha hx => ?_) (fun _ _ _ => rfl) (fun c _ => ih _) _ (fun _ z => z) 1000000 (Nat.le_refl _)
      unfold jnA
      rw [if_neg (by decide), if_neg (by decide), if_neg (by decide), if_neg (by decide), nI_1]
      exact min_if (by omega) (by omega)
theorem va_cost {R : List RU} {o : Nat → Bool} (hR : ∀ q ∈ R, okR q) : ∀ (n : Nat) (S : Nat → Int32), GD S → vaA 3 R o n S = nI (mn (fun r => r.2) (rowsA R o n S)) := by
  intro n
  induction n with
  | zero =>
    intro S _
    rw [vaA, rowsA]
    unfold edA
    rw [if_neg (by decide), if_neg (by decide), if_pos rfl]
    by_cases h : doneP S o
    · rw [if_pos h, if_pos h]; rfl
    · rw [if_neg h, if_neg h]; rfl
  | succ n ih =>
    intro S g
    rw [vaA, rowsA]
    by_cases h : doneP S o
    · rw [if_pos h, if_pos h]
      unfold edA
      rw [if_neg (by decide), if_neg (by decide), if_pos rfl, if_pos h]
      rfl
    · rw [if_neg h, if_neg h]
      have hw : ∀ c, c ∈ canL S R o 0 → paC S R o c < 10000 := fun c hc => by
        have hcan := (canL_mem hc).2
        have h6 : ppN S ≤ 6 := g.1.1
        have : paC S R o c ≤ 496 := paA_le (by have := hcan.1.1; omega) g hR
        omega
      refine fold_mn (w := fun c => paC S R o c) hw (fun c hc a x ha hx => ?_) (fun c _ r => Nat.add_comm _ _) (fun c hc => ih _ (g.do (canL_mem hc).2)) _ (fun _ z => z) 1000000 (Nat.le_refl _)
      have := hw c hc
      unfold jnA
      rw [if_neg (by decide), if_neg (by decide), if_pos rfl, n_add]
      exact min_if (by omega) (by omega)
theorem va_ways {R : List RU} {o : Nat → Bool} : ∀ (n : Nat) (S : Nat → Int32), vaA 1 R o n S = nI (rowsA R o n S).length := by
  intro n
  induction n with
  | zero =>
    intro S
    rw [vaA, rowsA]
    unfold edA
    rw [if_pos rfl]
    by_cases h : doneP S o
    · rw [if_pos h, if_pos h]; rfl
    · rw [if_neg h, if_neg h]; rfl
  | succ n ih =>
    intro S
    rw [vaA, rowsA]
    by_cases h : doneP S o
    · rw [if_pos h, if_pos h]
      unfold edA
      rw [if_pos rfl, if_pos h]
      rfl
    · rw [if_neg h, if_neg h]
      have go : ∀ (l : List Nat) (a : Nat), l.foldl (jnF 1 R o n S) (nI a) = nI (a + (l.flatMap fun c => (rowsA R o n (doC S R o c)).map fun r => (c :: r.1, paC S R o c + r.2)).length) := by
        intro l
        induction l with
        | nil => intro a; rfl
        | cons c l ihl =>
          intro a
          rw [List.foldl_cons, List.flatMap_cons, List.length_append, List.length_map, ← Nat.add_assoc, ← ihl]
          congr 1
          show jnA 1 (nI a) (vaA 1 R o n (doC S R o c)) _ = _
          rw [ih, show jnA 1 (nI a) (nI (rowsA R o n (doC S R o c)).length) (nI (paC S R o c)) = nI a + nI (rowsA R o n (doC S R o c)).length from if_pos rfl, n_add]
      have e := go (canL S R o 0) 0
      rw [Nat.zero_add] at e
      exact e
theorem va_most {R : List RU} {o : Nat → Bool} (ho : o = fun _ => false) : ∀ (n : Nat) (S : Nat → Int32), GD S → vaA 2 R o n S = nI (mostA R o n S) := by
  intro n
  induction n with
  | zero =>
    intro S _
    rw [vaA, mostA, ho]
    rfl
  | succ n ih =>
    intro S g
    rw [vaA]
    by_cases h : doneP S o
    · rw [if_pos h, mostA_done g.1.1 h, ho]
      rfl
    · rw [if_neg h, mostA]
      have go : ∀ (l : List Nat), (∀ c ∈ l, c ∈ canL S R o 0) → ∀ a : Nat, a ≤ 6 → l.foldl (jnF 2 R o n S) (nI a) = nI (l.foldl (fun m c => max m (mostA R o n (doC S R o c))) a) := by
        intro l
        induction l with
        | nil => intro _ a _; rfl
        | cons c l ihl =>
          intro hl a ha
          have hc := (canL_mem (hl c List.mem_cons_self)).2
          have hm := mostA_le (R := R) (o := o) n (doC S R o c)
          rw [List.foldl_cons, List.foldl_cons, ← ihl (fun x hx => hl x (List.mem_cons_of_mem _ hx)) _ (by omega)]
          congr 1
          show jnA 2 (nI a) (vaA 2 R o n (doC S R o c)) _ = _
          rw [ih _ (g.do hc)]
          show (if nI a < nI _ then _ else _) = _
          by_cases hl : a < mostA R o n (doC S R o c)
          · rw [if_pos ((n_lt (by omega) (by omega)).mpr hl)]
            exact congrArg nI (Nat.max_eq_right (Nat.le_of_lt hl)).symm
          · rw [if_neg (fun z => hl ((n_lt (by omega) (by omega)).mp z))]
            exact congrArg nI (Nat.max_eq_left (Nat.le_of_not_lt hl)).symm
      have e : fiA 2 S = nI (cN (whS S o)) := by rw [ho]; rfl
      rw [e]
      exact go _ (fun _ z => z) _ (cN_le _)
/-! the best of them, and how many there are -/
theorem rows_len {R : List RU} {o : Nat → Bool} : ∀ (n : Nat) (S : Nat → Int32), ∀ r ∈ rowsA R o n S, r.1.length ≤ n := by
  intro n
  induction n with
  | zero =>
    intro S r hr
    rw [rowsA] at hr
    by_cases h : doneP S o
    · rw [if_pos h] at hr
      rw [List.mem_singleton.mp hr]
      exact Nat.le_refl _
    · rw [if_neg h] at hr
      cases hr
  | succ n ih =>
    intro S r hr
    rw [rowsA] at hr
    by_cases h : doneP S o
    · rw [if_pos h] at hr
      rw [List.mem_singleton.mp hr]
      exact Nat.zero_le _
    · rw [if_neg h] at hr
      obtain ⟨c, hc, hr⟩ := List.mem_flatMap.mp hr
      obtain ⟨q, hq, e⟩ := List.mem_map.mp hr
      rw [← e]
      exact Nat.succ_le_succ (ih _ q hq)
theorem rows_cost {R : List RU} {o : Nat → Bool} (hR : ∀ q ∈ R, okR q) : ∀ (n : Nat) (S : Nat → Int32), GD S → ∀ r ∈ rowsA R o n S, r.2 ≤ 496 * n := by
  intro n
  induction n with
  | zero =>
    intro S _ r hr
    rw [rowsA] at hr
    by_cases h : doneP S o
    · rw [if_pos h] at hr
      rw [List.mem_singleton.mp hr]
      exact Nat.zero_le _
    · rw [if_neg h] at hr
      cases hr
  | succ n ih =>
    intro S g r hr
    rw [rowsA] at hr
    by_cases h : doneP S o
    · rw [if_pos h] at hr
      rw [List.mem_singleton.mp hr]
      exact Nat.zero_le _
    · rw [if_neg h] at hr
      obtain ⟨c, hc, hr⟩ := List.mem_flatMap.mp hr
      obtain ⟨q, hq, e⟩ := List.mem_map.mp hr
      have hcan := (canL_mem hc).2
      have h6 : ppN S ≤ 6 := g.1.1
      have h1 : paC S R o c ≤ 496 := paA_le (by have := hcan.1.1; omega) g hR
      have h2 := ih _ (g.do hcan) q hq
      rw [← e]
      show paC S R o c + q.2 ≤ 496 * (n + 1)
      omega
theorem snoc_ind {α : Type} {P : List α → Prop} (h0 : P []) (h1 : ∀ l a, P l → P (l ++ [a])) : ∀ l, P l := by
  intro l
  have e : P l.reverse.reverse := by
    generalize l.reverse = z
    induction z with
    | nil => exact h0
    | cons a z ih => rw [List.reverse_cons]; exact h1 _ _ ih
  rw [List.reverse_reverse] at e
  exact e
theorem best_len : ∀ L : List ROW, (∀ r ∈ L, r.1.length < 1000000) → match bestS L with | none => mn (fun r => r.1.length) L = 1000000 | some x => mn (fun r => r.1.length) L = x.length ∧ x.length < 1000000 := by
  refine snoc_ind (fun _ => rfl) fun l a ih h => ?_
  have ih := ih (fun r hr => h r (List.mem_append_left _ hr))
  have ha := h a (List.mem_append_right _ List.mem_cons_self)
  have e : mn (fun r => r.1.length) (l ++ [a]) = min (mn (fun r => r.1.length) l) a.1.length := by unfold mn; rw [List.foldl_append]; rfl
  rw [bestS_app, e]
  cases hb : bestS l with
  | none =>
    rw [hb] at ih
    have ih : mn (fun r => r.1.length) l = 1000000 := ih
    show _ = a.1.length ∧ _
    rw [ih]
    exact ⟨by omega, ha⟩
  | some x =>
    rw [hb] at ih
    obtain ⟨i1, i2⟩ := ih
    unfold bsS
    dsimp only
    rw [i1]
    by_cases hlt : a.1.length < x.length
    · rw [if_pos hlt]
      exact ⟨by omega, ha⟩
    · rw [if_neg hlt]
      exact ⟨by omega, i2⟩
theorem best_cost : ∀ L : List ROW, (∀ r ∈ L, r.2 < 1000000) → match bestC L with | none => mn (fun r => r.2) L = 1000000 | some x => mn (fun r => r.2) L = x.2 ∧ x.2 < 1000000 := by
  refine snoc_ind (fun _ => rfl) fun l a ih h => ?_
  have ih := ih (fun r hr => h r (List.mem_append_left _ hr))
  have ha := h a (List.mem_append_right _ List.mem_cons_self)
  have e : mn (fun r => r.2) (l ++ [a]) = min (mn (fun r => r.2) l) a.2 := by unfold mn; rw [List.foldl_append]; rfl
  rw [bestC_app, e]
  cases hb : bestC l with
  | none =>
    rw [hb] at ih
    have ih : mn (fun r => r.2) l = 1000000 := ih
    show _ = a.2 ∧ _
    rw [ih]
    exact ⟨by omega, ha⟩
  | some x =>
    rw [hb] at ih
    obtain ⟨i1, i2⟩ := ih
    unfold bsC
    dsimp only
    rw [i1]
    by_cases hlt : a.2 < x.2
    · rw [if_pos hlt]
      exact ⟨by omega, ha⟩
    · rw [if_neg hlt]
      exact ⟨by omega, i2⟩
