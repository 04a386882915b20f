/-! a TEXT read: one reader for both, over tokens -/
abbrev PR : Type := Nat × Option (List IT)
def pCmp (T : Nat → Nat) (a : Nat) : PR := if T a < 10005 then (if 20060 ≤ T (a + 1) ∧ T (a + 1) ≤ 20062 then (if T (a + 2) < 10005 then (a + 3, some [(T (a + 1) - 20060, T a, T (a + 2))]) else (a + 2, none)) else (a + 1, none)) else (a, none)
def pNot (T : Nat → Nat) : Nat → Nat → Bool → Nat × Bool
  | 0, a, b => (a, b)
  | f + 1, a, b => if T a = 10017 then pNot T f (a + 1) (!b) else (a, b)
def notL (b : Bool) : List IT := if b = true then [(5, 0, 0)] else []
def pThen (r : PR) (k : Nat → List IT → PR) : PR := match r with
  | (c, some L) => k c L
  | (c, none) => (c, none)
def pIn (T : Nat → Nat) (C : Nat → Nat → PR) (o a : Nat) : PR := if o < 3 then pThen (C (o + 1) (a + 1)) (fun c L => if T c = 20041 then (c + 1, some L) else (c, none)) else (a, none)
def pOne (T : Nat → Nat) (C : Nat → Nat → PR) (o a : Nat) : PR := pThen (if T (pNot T 201 a false).1 = 20040 then pIn T C o (pNot T 201 a false).1 else pCmp T (pNot T 201 a false).1) (fun c L => (c, some (L ++ notL (pNot T 201 a false).2)))
def pLoop (T : Nat → Nat) (X : Nat → PR) (w : Nat) (it : IT) : Nat → Nat → List IT → PR
  | 0, a, L => (a, some L)
  | f + 1, a, L => if T a = w then pThen (X (a + 1)) (fun c M => pLoop T X w it f c (L ++ M ++ [it])) else (a, some L)
def pJoin (T : Nat → Nat) (X : Nat → PR) (w : Nat) (it : IT) (a : Nat) : PR := pThen (X a) (fun c M => pLoop T X w it 201 c M)
def pCond (T : Nat → Nat) : Nat → Nat → Nat → PR
  | 0, _, a => (a, none)
  | d + 1, o, a => pJoin T (pJoin T (pOne T (pCond T d) o) 10016 (3, 0, 0)) 10015 (4, 0, 0) a
theorem dpt_app : ∀ (L M : List IT) (s : Nat), dptA (L ++ M) s = (dptA L s).bind (dptA M) := by
  intro L
  induction L with
  | nil => intro M s; rfl
  | cons i L ih =>
    intro M s
    rw [List.cons_append, dptA, dptA]
    by_cases h1 : i.1 = 3 ∨ i.1 = 4
    · rw [if_pos h1, if_pos h1]
      by_cases h2 : 2 ≤ s
      · rw [if_pos h2, if_pos h2]; exact ih M (s - 1)
      · rw [if_neg h2, if_neg h2]; rfl
    · rw [if_neg h1, if_neg h1]
      by_cases h5 : i.1 = 5
      · rw [if_pos h5, if_pos h5]
        by_cases h2 : 1 ≤ s
        · rw [if_pos h2, if_pos h2]; exact ih M s
        · rw [if_neg h2, if_neg h2]; rfl
      · rw [if_neg h5, if_neg h5]
        by_cases h2 : s < 9
        · rw [if_pos h2, if_pos h2]; exact ih M (s + 1)
        · rw [if_neg h2, if_neg h2]; rfl
/-- what may be said of what was read from a on -/
def okR1 (T : Nat → Nat) (s0 a : Nat) (r : PR) : Prop := a ≤ r.1 ∧ PO T r.1 ∧ ∀ L, r.2 = some L → a < r.1 ∧ (L.flatMap expM).length + a ≤ r.1 ∧ L.length + a ≤ r.1 ∧ (∀ i ∈ L, okI i) ∧ ∀ s, s ≤ s0 → dptA L s = some (s + 1)
def okP (T : Nat → Nat) (s0 : Nat) (X : Nat → PR) : Prop := ∀ a, PO T a → okR1 T s0 a (X a)
theorem okR1.le {T : Nat → Nat} {s0 s1 a : Nat} {r : PR} (h : okR1 T s0 a r) (hs : s1 ≤ s0) : okR1 T s1 a r := ⟨h.1, h.2.1, fun L hL => by
  obtain ⟨x0, x1, x2, x3, x4⟩ := h.2.2 L hL
  exact ⟨x0, x1, x2, x3, fun s hs2 => x4 s (by omega)⟩⟩
theorem ok_none {T : Nat → Nat} {s0 a c : Nat} (h1 : a ≤ c) (h2 : PO T c) : okR1 T s0 a (c, none) := ⟨h1, h2, fun L hL => by cases hL⟩
theorem pCmp_ok {T : Nat → Nat} : okP T 8 (pCmp T) := by
  intro a ha
  unfold pCmp
  by_cases h1 : T a < 10005
  · have p1 : PO T (a + 1) := ha.next (by omega)
    rw [if_pos h1]
    by_cases h2 : 20060 ≤ T (a + 1) ∧ T (a + 1) ≤ 20062
    · have p2 : PO T (a + 2) := p1.next (by omega)
      rw [if_pos h2]
      by_cases h3 : T (a + 2) < 10005
      · have p3 : PO T (a + 3) := p2.next (by omega)
        rw [if_pos h3]
        refine ⟨by show a ≤ a + 3; omega, p3, fun L hL => ?_⟩
        have eL : L = [(T (a + 1) - 20060, T a, T (a + 2))] := (Option.some.inj hL).symm
        have hi : okI (T (a + 1) - 20060, T a, T (a + 2)) := ⟨by show T (a + 1) - 20060 ≤ 5; omega, by show T a ≤ 10004; omega, by show T (a + 2) ≤ 10004; omega⟩
        rw [eL]
        refine ⟨by show a < a + 3; omega, ?_, by show 1 + a ≤ a + 3; omega, fun i hm => by rw [List.mem_singleton.mp hm]; exact hi, fun s hs => ?_⟩
        · rw [List.flatMap_cons, List.flatMap_nil, List.append_nil, expM_len hi]
          show (if T (a + 1) - 20060 ≤ 2 then 3 else 1) + a ≤ a + 3
          rw [if_pos (by omega)]
          omega
        · rw [dptA, if_neg (show ¬ (T (a + 1) - 20060 = 3 ∨ T (a + 1) - 20060 = 4) by omega), if_neg (show ¬ T (a + 1) - 20060 = 5 by omega), if_pos (by omega), dptA]
      · rw [if_neg h3]
        exact ok_none (by omega) p2
    · rw [if_neg h2]
      exact ok_none (by omega) p1
  · rw [if_neg h1]
    exact ok_none (Nat.le_refl _) ha
theorem pNot_ok {T : Nat → Nat} : ∀ (f a : Nat) (b : Bool), PO T a → a ≤ (pNot T f a b).1 ∧ PO T (pNot T f a b).1 ∧ ((pNot T f a b).2 = b ∨ a < (pNot T f a b).1) := by
  intro f
  induction f with
  | zero => intro a b h; exact ⟨Nat.le_refl _, h, Or.inl rfl⟩
  | succ f ih =>
    intro a b h
    rw [pNot]
    by_cases h1 : T a = 10017
    · rw [if_pos h1]
      obtain ⟨x1, x2, -⟩ := ih (a + 1) (!b) (h.next (by omega))
      exact ⟨by omega, x2, Or.inr (by omega)⟩
    · rw [if_neg h1]
      exact ⟨Nat.le_refl _, h, Or.inl rfl⟩
theorem exp_app (L M : List IT) : ((L ++ M).flatMap expM).length = (L.flatMap expM).length + (M.flatMap expM).length := by rw [List.flatMap_append, List.length_append]
theorem exp_1 {i : IT} (h : 3 ≤ i.1) (ho : okI i) : ([i].flatMap expM).length = 1 := by
  rw [List.flatMap_cons, List.flatMap_nil, List.append_nil, expM_len ho, if_neg (by omega)]
theorem pIn_ok {T : Nat → Nat} {C : Nat → Nat → PR} {o s0 : Nat} (hC : o < 3 → okP T s0 (C (o + 1))) {a : Nat} (ha : PO T a) (hT : T a = 20040) : okR1 T s0 a (pIn T C o a) := by
  unfold pIn
  by_cases ho : o < 3
  · rw [if_pos ho]
    obtain ⟨x1, x2, x3⟩ := hC ho (a + 1) (ha.next (by omega))
    cases hr : C (o + 1) (a + 1) with
    | mk c L =>
      rw [hr] at x1 x2 x3
      have x1 : a + 1 ≤ c := x1
      cases L with
      | none => exact ok_none (by omega) x2
      | some L =>
        obtain ⟨y0, y1, y2, y3, y4⟩ := x3 L rfl
        have y0 : a + 1 < c := y0
        have y1 : (L.flatMap expM).length + (a + 1) ≤ c := y1
        have y2 : L.length + (a + 1) ≤ c := y2
        show okR1 T s0 a (if T c = 20041 then (c + 1, some L) else (c, none))
        by_cases h1 : T c = 20041
        · rw [if_pos h1]
          have x2 : PO T c := x2
          refine ⟨by show a ≤ c + 1; omega, x2.next (by omega), fun M hM => ?_⟩
          have eM : M = L := (Option.some.inj hM).symm
          rw [eM]
          exact ⟨by show a < c + 1; omega, by show _ ≤ c + 1; omega, by show _ ≤ c + 1; omega, y3, y4⟩
        · rw [if_neg h1]
          exact ok_none (by omega) x2
  · rw [if_neg ho]
    exact ok_none (Nat.le_refl _) ha
theorem pOne_ok {T : Nat → Nat} {C : Nat → Nat → PR} {o s0 : Nat} (h8 : s0 ≤ 8) (hC : o < 3 → okP T s0 (C (o + 1))) : okP T s0 (pOne T C o) := by
  intro a ha
  unfold pOne
  obtain ⟨n1, n2, n3⟩ := pNot_ok 201 a false ha
  generalize pNot T 201 a false = nb at n1 n2 n3 ⊢
  obtain ⟨n, b⟩ := nb
  have n1 : a ≤ n := n1
  have n2 : PO T n := n2
  have n3 : b = false ∨ a < n := n3
  have key : okR1 T s0 n (if T n = 20040 then pIn T C o n else pCmp T n) := by
    by_cases h1 : T n = 20040
    · rw [if_pos h1]; exact pIn_ok hC n2 h1
    · rw [if_neg h1]; exact (pCmp_ok n n2).le h8
  show okR1 T s0 a (pThen (if T n = 20040 then pIn T C o n else pCmp T n) (fun c L => (c, some (L ++ notL b))))
  generalize (if T n = 20040 then pIn T C o n else pCmp T n) = r at key ⊢
  obtain ⟨c, L⟩ := r
  obtain ⟨x1, x2, x3⟩ := key
  have x1 : n ≤ c := x1
  cases L with
  | none => exact ok_none (by omega) x2
  | some L =>
    obtain ⟨y0, y1, y2, y3, y4⟩ := x3 L rfl
    have y0 : n < c := y0
    have y1 : (L.flatMap expM).length + n ≤ c := y1
    have y2 : L.length + n ≤ c := y2
    refine ⟨by show a ≤ c; omega, x2, fun M hM => ?_⟩
    have eM : M = L ++ notL b := (Option.some.inj hM).symm
    rw [eM]
    cases b with
    | false =>
      have e : L ++ notL false = L := List.append_nil L
      rw [e]
      exact ⟨by show a < c; omega, by show _ ≤ c; omega, by show _ ≤ c; omega, y3, y4⟩
    | true =>
      have hlt : a < n := by
        rcases n3 with w | w
        · cases w
        · exact w
      have oi : okI (5, 0, 0) := ⟨by decide, by decide, by decide⟩
      have e1 := exp_1 (i := (5, 0, 0)) (by decide) oi
      refine ⟨by show a < c; omega, ?_, ?_, fun i hi => ?_, fun s hs => ?_⟩
      · show ((L ++ [(5, 0, 0)]).flatMap expM).length + a ≤ c
        rw [exp_app, e1]
        omega
      · show (L ++ [(5, 0, 0)]).length + a ≤ c
        rw [List.length_append, List.length_singleton]
        omega
      · rcases List.mem_append.mp hi with w | w
        · exact y3 i w
        · rw [List.mem_singleton.mp w]; exact oi
      · show dptA (L ++ [(5, 0, 0)]) s = _
        rw [dpt_app, y4 s hs]
        show dptA [(5, 0, 0)] (s + 1) = _
        rw [dptA, if_neg (by decide), if_pos rfl, if_pos (by omega), dptA]
theorem pLoop_ok {T : Nat → Nat} {X : Nat → PR} {w s0 : Nat} {it : IT} (hX : okP T (s0 + 1) X) (hw : w ≠ 30000) (hi : it.1 = 3 ∨ it.1 = 4) (ho : okI it) : ∀ (f a a0 : Nat) (L : List IT), PO T a → okR1 T s0 a0 (a, some L) → okR1 T s0 a0 (pLoop T X w it f a L) := by
  intro f
  induction f with
  | zero => intro a a0 L ha h; exact h
  | succ f ih =>
    intro a a0 L ha h
    rw [pLoop]
    by_cases h1 : T a = w
    · rw [if_pos h1]
      obtain ⟨z1, -, z3⟩ := h
      obtain ⟨q0, q1, q2, q3, q4⟩ := z3 L rfl
      have z1 : a0 ≤ a := z1
      have q0 : a0 < a := q0
      have q1 : (L.flatMap expM).length + a0 ≤ a := q1
      have q2 : L.length + a0 ≤ a := q2
      obtain ⟨x1, x2, x3⟩ := hX (a + 1) (ha.next (by rw [h1]; exact hw))
      cases hr : X (a + 1) with
      | mk c M =>
        rw [hr] at x1 x2 x3
        have x1 : a + 1 ≤ c := x1
        cases M with
        | none => exact ok_none (by omega) x2
        | some M =>
          obtain ⟨y0, y1, y2, y3, y4⟩ := x3 M rfl
          have y1 : (M.flatMap expM).length + (a + 1) ≤ c := y1
          have y2 : M.length + (a + 1) ≤ c := y2
          refine ih c a0 _ x2 ⟨by show a0 ≤ c; omega, x2, fun K hK => ?_⟩
          have eK : K = L ++ M ++ [it] := (Option.some.inj hK).symm
          rw [eK]
          refine ⟨by show a0 < c; omega, ?_, ?_, fun i hm => ?_, fun s hs => ?_⟩
          · show ((L ++ M ++ [it]).flatMap expM).length + a0 ≤ c
            rw [exp_app, exp_app, exp_1 (by omega) ho]
            omega
          · show (L ++ M ++ [it]).length + a0 ≤ c
            rw [List.length_append, List.length_append, List.length_singleton]
            omega
          · rcases List.mem_append.mp hm with v | v
            · rcases List.mem_append.mp v with u | u
              · exact q3 i u
              · exact y3 i u
            · rw [List.mem_singleton.mp v]; exact ho
          · rw [dpt_app, dpt_app, q4 s hs]
            show ((dptA M (s + 1)).bind (dptA [it])) = _
            rw [y4 (s + 1) (by omega)]
            show dptA [it] (s + 1 + 1) = _
            rw [dptA, if_pos hi, if_pos (by omega), dptA]
            rfl
    · rw [if_neg h1]
      exact h
theorem pJoin_ok {T : Nat → Nat} {X : Nat → PR} {w s0 : Nat} {it : IT} (hX : okP T (s0 + 1) X) (hw : w ≠ 30000) (hi : it.1 = 3 ∨ it.1 = 4) (ho : okI it) : okP T s0 (pJoin T X w it) := by
  intro a ha
  unfold pJoin
  obtain ⟨x1, x2, x3⟩ := hX a ha
  cases hr : X a with
  | mk c M =>
    rw [hr] at x1 x2 x3
    cases M with
    | none => exact ok_none x1 x2
    | some M => exact pLoop_ok hX hw hi ho 201 c a M x2 (okR1.le (s0 := s0 + 1) ⟨x1, x2, x3⟩ (by omega))
theorem pCond_ok {T : Nat → Nat} : ∀ (d o : Nat), o ≤ 3 → okP T (2 * o) (pCond T d o) := by
  intro d
  induction d with
  | zero => intro o ho a ha; exact ok_none (Nat.le_refl _) ha
  | succ d ih =>
    intro o ho
    exact pJoin_ok (pJoin_ok (pOne_ok (s0 := 2 * o + 1 + 1) (by omega) (fun h => (show okP T (2 * o + 1 + 1) (pCond T d (o + 1)) from ih (o + 1) (by omega)))) (by decide) (Or.inl rfl) ⟨by decide, by decide, by decide⟩) (by decide) (Or.inr rfl) ⟨by decide, by decide, by decide⟩
/-! one RULE; all of them -/
def pTail (T : Nat → Nat) (a c : Nat) (L : List IT) : Nat × Option RU := if 10012 ≤ T c ∧ T c ≤ 10014 then (
  if T c = 10014 then (if T (c + 1) = 20059 then (c + 2, some (T a - 10005, 2, 0, L)) else (c + 1, none))
  else if T (c + 1) ≤ 99 then (if T (c + 2) = 20059 then (c + 3, some (T a - 10005, T c - 10012, T (c + 1), L)) else (c + 2, none)) else (c + 1, none)) else (c, none)
def pMid (T : Nat → Nat) (a : Nat) (r : PR) : Nat × Option RU := match r with
  | (c, none) => (c, none)
  | (c, some L) => pTail T a c L
def pRule (T : Nat → Nat) (a : Nat) : Nat × Option RU := if 10005 ≤ T a ∧ T a ≤ 10010 then pMid T a (if T (a + 1) = 10011 then pCond T 12 0 (a + 2) else (a + 1, some [])) else (a, none)
def pRls (k : Nat → List RU → Nat × Option (List RU)) (R : List RU) (r : Nat × Option RU) : Nat × Option (List RU) := match r with
  | (c, none) => (c, none)
  | (c, some q) => k c (R ++ [q])
def pRules (T : Nat → Nat) : Nat → Nat → List RU → Nat × Option (List RU)
  | 0, a, R => if T a = 30000 then (a, some R) else (a, none)
  | f + 1, a, R => if T a = 30000 then (a, some R) else pRls (pRules T f) R (pRule T a)
def okQ (T : Nat → Nat) (a : Nat) (r : Nat × Option RU) : Prop := a ≤ r.1 ∧ PO T r.1 ∧ ∀ q, r.2 = some q → a < r.1 ∧ okR q ∧ (q.2.2.2.flatMap expM).length + a ≤ r.1 ∧ q.2.2.2.length + a ≤ r.1
theorem okQ_no {T : Nat → Nat} {a z : Nat} (hz : a ≤ z) (hp : PO T z) : okQ T a (z, none) := ⟨hz, hp, fun q hq => by cases hq⟩
theorem okQ_yes {T : Nat → Nat} {a c z k d n : Nat} {L : List IT} (hc : a < c) (hz : c ≤ z) (hp : PO T z) (hk : k ≤ 5) (hd : d ≤ 2) (hn : n ≤ 99) (h1 : (L.flatMap expM).length + a ≤ c) (h2 : L.length + a ≤ c) (hL : okL L) : okQ T a (z, some (k, d, n, L)) := by
  refine ⟨by show a ≤ z; omega, hp, fun q hq => ?_⟩
  have e : q = (k, d, n, L) := (Option.some.inj hq).symm
  rw [e]
  exact ⟨by show a < z; omega, ⟨hk, hd, hn, hL⟩, by show (L.flatMap expM).length + a ≤ z; omega, by show L.length + a ≤ z; omega⟩
theorem pTail_ok {T : Nat → Nat} {a c : Nat} {L : List IT} (hc : a < c) (hp : PO T c) (hk : T a ≤ 10010) (h1 : (L.flatMap expM).length + a ≤ c) (h2 : L.length + a ≤ c) (hL : okL L) : okQ T a (pTail T a c L) := by
  unfold pTail
  by_cases h3 : 10012 ≤ T c ∧ T c ≤ 10014
  · have p2 : PO T (c + 1) := hp.next (by omega)
    rw [if_pos h3]
    by_cases h4 : T c = 10014
    · rw [if_pos h4]
      by_cases h5 : T (c + 1) = 20059
      · rw [if_pos h5]
        exact okQ_yes hc (by omega) (p2.next (by omega)) (by omega) (by omega) (by omega) h1 h2 hL
      · rw [if_neg h5]
        exact okQ_no (by omega) p2
    · rw [if_neg h4]
      by_cases h5 : T (c + 1) ≤ 99
      · have p3 : PO T (c + 2) := p2.next (by omega)
        rw [if_pos h5]
        by_cases h6 : T (c + 2) = 20059
        · rw [if_pos h6]
          exact okQ_yes hc (by omega) (p3.next (by omega)) (by omega) (by omega) h5 h1 h2 hL
        · rw [if_neg h6]
          exact okQ_no (by omega) p3
      · rw [if_neg h5]
        exact okQ_no (by omega) p2
  · rw [if_neg h3]
    exact okQ_no (by omega) hp
/-- the condition of a RULE, or none -/
abbrev cndT (T : Nat → Nat) (a : Nat) : PR := if T (a + 1) = 10011 then pCond T 12 0 (a + 2) else (a + 1, some [])
theorem cnd_ok {T : Nat → Nat} {a : Nat} (p1 : PO T (a + 1)) : a < (cndT T a).1 ∧ PO T (cndT T a).1 ∧ ∀ M, (cndT T a).2 = some M → (M.flatMap expM).length + a ≤ (cndT T a).1 ∧ M.length + a ≤ (cndT T a).1 ∧ okL M := by
  by_cases h2 : T (a + 1) = 10011
  · rw [show cndT T a = pCond T 12 0 (a + 2) from if_pos h2]
    obtain ⟨x1, x2, x3⟩ := pCond_ok 12 0 (by decide) (a + 2) (p1.next (by omega))
    refine ⟨by omega, x2, fun M hM => ?_⟩
    obtain ⟨y0, y1, y2, y3, y4⟩ := x3 M hM
    exact ⟨by omega, by omega, y3, Or.inr (y4 0 (Nat.le_refl _))⟩
  · rw [show cndT T a = (a + 1, some []) from if_neg h2]
    refine ⟨by show a < a + 1; omega, p1, fun M hM => ?_⟩
    have eM : M = [] := (Option.some.inj hM).symm
    rw [eM]
    exact ⟨by show 0 + a ≤ a + 1; omega, by show 0 + a ≤ a + 1; omega, fun i hi => (by cases hi), Or.inl rfl⟩
theorem pRule_ok {T : Nat → Nat} {a : Nat} (ha : PO T a) : okQ T a (pRule T a) := by
  unfold pRule
  by_cases h1 : 10005 ≤ T a ∧ T a ≤ 10010
  · rw [if_pos h1]
    obtain ⟨k1, k2, k3⟩ := cnd_ok (T := T) (a := a) (ha.next (by omega))
    show okQ T a (pMid T a (cndT T a))
    cases hr : cndT T a with
    | mk c L =>
      rw [hr] at k1 k2 k3
      have k1 : a < c := k1
      cases L with
      | none => exact okQ_no (by omega) k2
      | some L =>
        obtain ⟨m1, m2, m3⟩ := k3 L rfl
        exact pTail_ok k1 k2 h1.2 m1 m2 m3
  · rw [if_neg h1]
    exact okQ_no (Nat.le_refl _) ha
