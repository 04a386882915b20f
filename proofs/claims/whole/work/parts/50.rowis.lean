/-! that row is the best of the reference, the first of those -/
def isF (f : ROW → Nat) (L : List ROW) (r : ROW) : Prop := ∃ L1 L2, L = L1 ++ r :: L2 ∧ (∀ x ∈ L1, f r < f x) ∧ ∀ x ∈ L2, f r ≤ f x
def bsF (f : ROW → Nat) (b : Option ROW) (r : ROW) : Option ROW := match b with
  | none => some r
  | some x => if f r < f x then some r else some x
theorem bf_1 {f : ROW → Nat} {r : ROW} : ∀ (L : List ROW) (b : Option ROW), (∀ x ∈ L, f r < f x) → (∀ x, b = some x → f r < f x) → ∀ x, L.foldl (bsF f) b = some x → f r < f x := by
  intro L
  induction L with
  | nil => intro b _ h x hx; exact h x hx
  | cons y L ih =>
    intro b hL hb
    rw [List.foldl_cons]
    refine ih _ (fun x hx => hL x (List.mem_cons_of_mem _ hx)) (fun x hx => ?_)
    have hy := hL y List.mem_cons_self
    cases b with
    | none =>
      have e : y = x := Option.some.inj hx
      rw [← e]
      exact hy
    | some z =>
      unfold bsF at hx
      dsimp only at hx
      by_cases h : f y < f z
      · rw [if_pos h] at hx
        rw [← Option.some.inj hx]
        exact hy
      · rw [if_neg h] at hx
        rw [← Option.some.inj hx]
        exact hb z rfl
theorem bf_2 {f : ROW → Nat} {r : ROW} : ∀ (L : List ROW), (∀ x ∈ L, f r ≤ f x) → L.foldl (bsF f) (some r) = some r := by
  intro L
  induction L with
  | nil => intro _; rfl
  | cons y L ih =>
    intro hL
    have hy := hL y List.mem_cons_self
    rw [List.foldl_cons, show bsF f (some r) y = some r from if_neg (by omega)]
    exact ih (fun x hx => hL x (List.mem_cons_of_mem _ hx))
theorem bf_is {f : ROW → Nat} {L : List ROW} {r : ROW} (h : isF f L r) : L.foldl (bsF f) none = some r := by
  obtain ⟨L1, L2, e, h1, h2⟩ := h
  rw [e, List.foldl_append, List.foldl_cons]
  have h3 := bf_1 L1 none h1 (fun x hx => by cases hx)
  have e2 : bsF f (L1.foldl (bsF f) none) r = some r := by
    cases hz : L1.foldl (bsF f) none with
    | none => rfl
    | some z => exact if_pos (h3 z hz)
  rw [e2]
  exact bf_2 L2 h2
theorem bestC_f (L : List ROW) : bestC L = L.foldl (bsF fun r => r.2) none := by
  have e : bsC = bsF fun r => r.2 := by
    funext b r
    cases b <;> rfl
  unfold bestC
  rw [e]
theorem bestS_f (L : List ROW) : bestS L = (L.foldl (bsF fun r => r.1.length) none).map fun r => r.1 := by
  have go : ∀ (L : List ROW) (b : Option ROW), L.foldl (fun b r => bsS b r.1) (b.map fun r => r.1) = (L.foldl (bsF fun r => r.1.length) b).map fun r => r.1 := by
    intro L
    induction L with
    | nil => intro b; rfl
    | cons y L ih =>
      intro b
      rw [List.foldl_cons, List.foldl_cons, ← ih]
      congr 1
      cases b with
      | none => rfl
      | some z =>
        show (if y.1.length < z.1.length then some y.1 else some z.1) = (if y.1.length < z.1.length then some y else some z).map fun r => r.1
        by_cases h : y.1.length < z.1.length
        · rw [if_pos h, if_pos h]; rfl
        · rw [if_neg h, if_neg h]; rfl
  exact go L none
theorem mn_lb {f : ROW → Nat} : ∀ (L : List ROW) (a : Nat), L.foldl (fun a r => min a (f r)) a ≤ a ∧ ∀ x ∈ L, L.foldl (fun a r => min a (f r)) a ≤ f x := by
  intro L
  induction L with
  | nil => intro a; exact ⟨Nat.le_refl _, fun x hx => by cases hx⟩
  | cons y L ih =>
    intro a
    rw [List.foldl_cons]
    obtain ⟨h1, h2⟩ := ih (min a (f y))
    refine ⟨by omega, fun x hx => ?_⟩
    rcases List.mem_cons.mp hx with e | e
    · rw [e]; omega
    · exact h2 x e
theorem mn_at {f : ROW → Nat} : ∀ (L : List ROW) (a : Nat), L.foldl (fun a r => min a (f r)) a < a → ∃ x ∈ L, f x = L.foldl (fun a r => min a (f r)) a := by
  intro L
  induction L with
  | nil => intro a h; exact absurd h (Nat.lt_irrefl _)
  | cons y L ih =>
    intro a h
    rw [List.foldl_cons] at h ⊢
    by_cases h2 : L.foldl (fun a r => min a (f r)) (min a (f y)) < min a (f y)
    · obtain ⟨x, hx, e⟩ := ih _ h2
      exact ⟨x, List.mem_cons_of_mem _ hx, e⟩
    · have h3 := (mn_lb (f := f) L (min a (f y))).1
      exact ⟨y, List.mem_cons_self, by omega⟩
theorem fs_is {f : ROW → Nat} {md : Int32} {R : List RU} {o : Nat → Bool} {w : (Nat → Int32) → Nat → Nat} (h0 : f ([], 0) < 1000000) (hval : ∀ n S, GD S → vaA md R o n S = nI (mn f (rowsA R o n S))) (hj : ∀ S c, GD S → c ∈ canL S R o 0 → ∀ x : Nat, x ≤ 1000000 → jnA md (fiA md S) (nI x) (nI (paC S R o c)) = nI (min 1000000 (x + w S c))) (hf : ∀ S c, ∀ r : ROW, f (c :: r.1, paC S R o c + r.2) = f r + w S c) : ∀ (n : Nat) (S : Nat → Int32), GD S → mn f (rowsA R o n S) < 1000000 → ∃ cost, isF f (rowsA R o n S) (fsA md R o n S, cost) := by
  intro n
  induction n with
  | zero =>
    intro S g hV
    by_cases h : doneP S o
    · rw [rowsA_done h]
      exact ⟨0, [], [], rfl, fun x hx => (by cases hx), fun x hx => (by cases hx)⟩
    · rw [show rowsA R o 0 S = [] from if_neg h] at hV
      exact absurd hV (Nat.lt_irrefl _)
  | succ n ih =>
    intro S g hV
    rw [fsA]
    by_cases h : doneP S o
    · rw [rowsA_done h, canL_done g.1.1 h 0]
      exact ⟨0, [], [], rfl, fun x hx => (by cases hx), fun x hx => (by cases hx)⟩
    · have hrow : rowsA R o (n + 1) S = (canL S R o 0).flatMap fun c => (rowsA R o n (doC S R o c)).map fun r => (c :: r.1, paC S R o c + r.2) := by rw [rowsA, if_neg h]
      have lo : ∀ x ∈ rowsA R o (n + 1) S, mn f (rowsA R o (n + 1) S) ≤ f x := (mn_lb _ _).2
      have at1 := mn_at (f := f) (rowsA R o (n + 1) S) 1000000 hV
      have hvv := hval (n + 1) S g
      generalize hVe : mn f (rowsA R o (n + 1) S) = V at hV lo hvv
      have at1 : ∃ x ∈ rowsA R o (n + 1) S, f x = V := by rw [← hVe]; exact at1
      rw [hrow] at lo at1 ⊢
      have inb : ∀ c, c ∈ canL S R o 0 → ∀ r ∈ rowsA R o n (doC S R o c), V ≤ f r + w S c := fun c hc r hr => by
        rw [← hf]
        exact lo _ (List.mem_flatMap.mpr ⟨c, hc, List.mem_map.mpr ⟨r, hr, rfl⟩⟩)
      have l1 : ∀ c, c ∈ canL S R o 0 → V ≤ mn f (rowsA R o n (doC S R o c)) + w S c := fun c hc => by
        by_cases hm : mn f (rowsA R o n (doC S R o c)) < 1000000
        · obtain ⟨r, hr, e⟩ := mn_at (f := f) _ _ hm
          have e : f r = mn f (rowsA R o n (doC S R o c)) := e
          rw [← e]
          exact inb c hc r hr
        · omega
      have l2 : ∀ c, ∀ r ∈ rowsA R o n (doC S R o c), mn f (rowsA R o n (doC S R o c)) ≤ f r := fun c => (mn_lb _ _).2
      have pk : ∀ c, c ∈ canL S R o 0 → (pkA md R o n S c = true ↔ mn f (rowsA R o n (doC S R o c)) + w S c = V) := fun c hc => by
        have hm := mn_le f (rowsA R o n (doC S R o c))
        have e : jnF md R o n S (fiA md S) c = nI (min 1000000 (mn f (rowsA R o n (doC S R o c)) + w S c)) := by
          show jnA md (fiA md S) (vaA md R o n (doC S R o c)) (nI (paC S R o c)) = _
          rw [hval n _ (g.do (canL_mem hc).2)]
          exact hj S c g hc _ hm
        show decide (jnF md R o n S (fiA md S) c = vaA md R o (n + 1) S) = true ↔ _
        rw [decide_eq_true_eq, e, hvv, n_inj (by omega) (by omega)]
        omega
      cases hfd : (canL S R o 0).find? (pkA md R o n S) with
      | none =>
        rw [List.find?_eq_none] at hfd
        obtain ⟨x, hx, e⟩ := at1
        obtain ⟨c, hc, hx⟩ := List.mem_flatMap.mp hx
        obtain ⟨r, hr, ex⟩ := List.mem_map.mp hx
        have a1 := l1 c hc
        have a2 := l2 c r hr
        rw [← ex, hf] at e
        exact absurd ((pk c hc).mpr (by omega)) (hfd c hc)
      | some c =>
        obtain ⟨hp, as, bs, el, ha⟩ := List.find?_eq_some_iff_append.mp hfd
        have hc : c ∈ canL S R o 0 := List.mem_of_find?_eq_some hfd
        have em := (pk c hc).mp hp
        obtain ⟨cost, L1, L2, eL, h1, h2⟩ := ih (doC S R o c) (g.do (canL_mem hc).2) (by omega)
        have hmem : ((fsA md R o n (doC S R o c), cost) : ROW) ∈ rowsA R o n (doC S R o c) := by rw [eL]; exact List.mem_append_right _ List.mem_cons_self
        have efr : f (fsA md R o n (doC S R o c), cost) = mn f (rowsA R o n (doC S R o c)) := by
          have b1 := l2 c _ hmem
          have hm : mn f (rowsA R o n (doC S R o c)) < 1000000 := by omega
          obtain ⟨x, hx, e⟩ := mn_at (f := f) _ _ hm
          have e : f x = mn f (rowsA R o n (doC S R o c)) := e
          rw [eL] at hx
          rcases List.mem_append.mp hx with z | z
          · have := h1 x z
            omega
          · rcases List.mem_cons.mp z with z | z
            · rw [← z]; exact e
            · have := h2 x z
              omega
        have key : f (c :: fsA md R o n (doC S R o c), paC S R o c + cost) = V := by
          have := hf S c (fsA md R o n (doC S R o c), cost)
          rw [this, efr]
          exact em
        refine ⟨paC S R o c + cost, as.flatMap (fun c => (rowsA R o n (doC S R o c)).map fun r => (c :: r.1, paC S R o c + r.2)) ++ L1.map (fun r => (c :: r.1, paC S R o c + r.2)), L2.map (fun r => (c :: r.1, paC S R o c + r.2)) ++ bs.flatMap (fun c => (rowsA R o n (doC S R o c)).map fun r => (c :: r.1, paC S R o c + r.2)), ?_, fun x hx => ?_, fun x hx => ?_⟩
        · rw [el, List.flatMap_append, List.flatMap_cons, eL, List.map_append, List.map_cons, List.append_assoc, List.append_assoc]
          rfl
        · rw [key]
          rcases List.mem_append.mp hx with z | z
          · obtain ⟨a, hza, hxa⟩ := List.mem_flatMap.mp z
            obtain ⟨r, hr, ex⟩ := List.mem_map.mp hxa
            have hac : a ∈ canL S R o 0 := by rw [el]; exact List.mem_append_left _ hza
            have hna : ¬ pkA md R o n S a = true := by
              have := ha a hza
              intro q
              rw [q] at this
              cases this
            have b1 := l1 a hac
            have b2 := l2 a r hr
            have b3 : mn f (rowsA R o n (doC S R o a)) + w S a ≠ V := fun q => hna ((pk a hac).mpr q)
            rw [← ex, hf]
            omega
          · obtain ⟨r, hr, ex⟩ := List.mem_map.mp z
            have := h1 r hr
            rw [← ex, hf]
            omega
        · rw [key]
          rcases List.mem_append.mp hx with z | z
          · obtain ⟨r, hr, ex⟩ := List.mem_map.mp z
            have := h2 r hr
            rw [← ex, hf]
            omega
          · obtain ⟨a, hza, hxa⟩ := List.mem_flatMap.mp z
            exact lo x (List.mem_flatMap.mpr ⟨a, by rw [el]; exact List.mem_append_right _ (List.mem_cons_of_mem _ hza), hxa⟩)
theorem fs_S {R : List RU} {o : Nat → Bool} {n : Nat} {S : Nat → Int32} (g : GD S) (hV : mn (fun r => r.1.length) (rowsA R o n S) < 1000000) : bestS (rowsA R o n S) = some (fsA 0 R o n S) := by
  obtain ⟨cost, h⟩ := fs_is (f := fun r => r.1.length) (md := 0) (w := fun _ _ => 1) (by decide) (fun n S _ => va_len n S) (fun S c _ _ x hx => by
    have e1 : fiA 0 S = nI 1000000 := by
      unfold fiA
      rw [if_neg (by decide), if_neg (by decide), if_neg (by decide), if_neg (by decide)]
      rfl
    rw [e1]
    unfold jnA
    rw [if_neg (by decide), if_neg (by decide), if_neg (by decide), if_neg (by decide), nI_1]
    exact min_if (a := 1000000) (by omega) (by decide)) (fun _ _ _ => rfl) n S g hV
  rw [bestS_f, bf_is h]
  rfl
theorem fs_C {R : List RU} {o : Nat → Bool} {n : Nat} {S : Nat → Int32} (hR : ∀ q ∈ R, okR q) (g : GD S) (hV : mn (fun r => r.2) (rowsA R o n S) < 1000000) : ∃ cost, bestC (rowsA R o n S) = some (fsA 3 R o n S, cost) := by
  obtain ⟨cost, h⟩ := fs_is (f := fun r => r.2) (md := 3) (w := fun S c => paC S R o c) (by decide) (fun n S g => va_cost hR n S g) (fun S c g hc x hx => by
    have hcan := (canL_mem hc).2
    have h6 : ppN S ≤ 6 := g.1.1
    have hp : paC S R o c ≤ 496 := paA_le (by have := hcan.1.1; omega) g hR
    have e1 : fiA 3 S = nI 1000000 := by
      unfold fiA
      rw [if_neg (by decide), if_neg (by decide), if_pos rfl]
      rfl
    rw [e1]
    unfold jnA
    rw [if_neg (by decide), if_neg (by decide), if_pos rfl, n_add]
    exact min_if (a := 1000000) (by omega) (by decide)) (fun _ _ _ => Nat.add_comm _ _) n S g hV
  exact ⟨cost, by rw [bestC_f, bf_is h]⟩
