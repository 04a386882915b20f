/-! two towns that differ only in the COINS of those who are whole -/
abbrev coi (S : Nat → Int32) (i : Nat) : Prop := ∀ p, p < 6 → i = 22 + 5 * p + 3 → ¬ hsS S p = ndS S p
def sim (S T : Nat → Int32) : Prop := ∀ i, coi S i → T i = S i
section SIMS
variable {S T : Nat → Int32} {R : List RU} {o : Nat → Bool}
theorem sim.rf : sim S S := fun _ _ => rfl
theorem sim.ot (h : sim S T) {i : Nat} (hi : i < 25 ∨ i % 5 ≠ 0 ∨ 51 ≤ i) : T i = S i := h i (fun p hp e => by omega)
theorem sim.c (h : sim S T) {p : Nat} (hp : ¬ hsS S p = ndS S p) : T (22 + 5 * p + 3) = S (22 + 5 * p + 3) := h _ (fun q hq e => by
  have : q = p := by omega
  subst this
  exact hp)
theorem sim.wh (h : sim S T) (o : Nat → Bool) : whS T o = whS S o := by
  funext p
  show (decide (p < nx (T 0)) && (decide (T (22 + 5 * p + 1) = T (22 + 5 * p + 2)) && !o p)) = (decide (p < nx (S 0)) && (decide (S (22 + 5 * p + 1) = S (22 + 5 * p + 2)) && !o p))
  rw [h.ot (by omega), h.ot (by omega), h.ot (by omega)]
theorem sim.hn (h : sim S T) (p : Nat) : hsN T p = hsN S p ∧ ndN T p = ndN S p ∧ kdN T p = kdN S p ∧ mtN T p = mtN S p := ⟨congrArg nx (h.ot (by omega)), congrArg nx (h.ot (by omega)), congrArg nx (h.ot (by omega)), congrArg nx (h.ot (by omega))⟩
theorem sim.wr (h : sim S T) {j : Nat} (hj : j < 8) : wrN T j = wrN S j ∧ jrN T j = jrN S j := ⟨congrArg nx (h.ot (by omega)), congrArg nx (h.ot (by omega))⟩
theorem sim.ask (h : sim S T) (g : GD S) {p : Nat} (hp : p < 6) (hw : ¬ hsS S p = ndS S p) : askA T R o p = askA S R o p := by
  obtain ⟨e1, e2, e3, -⟩ := h.hn p
  have a1 : hsN S p ≤ 7 := (rgP g hp).2.1.1
  have a2 : ndN S p ≤ 7 := (rgP g hp).2.2.1.1
  have e4 : cnN T p = cnN S p := congrArg nx (h.c hw)
  have e5 : feN T = feN S := congrArg nx (h.ot (by omega))
  have ef : fxA T o p = fxA S o p := by
    funext k
    unfold fxA
    rw [e1, e2, e4, h.wh, (h.wr (show hsN S p < 8 by omega)).1, (h.wr (show ndN S p < 8 by omega)).1]
  unfold askA
  rw [ef, e1, e2, e3, e4, e5, h.wh, (h.wr (show ndN S p < 8 by omega)).1, (h.wr (show hsN S p < 8 by omega)).1]
theorem sim.fr (h : sim S T) (p : Nat) : fre T o p ↔ fre S o p := by
  show (p < nx (T 0) ∧ (¬ T (22 + 5 * p + 1) = T (22 + 5 * p + 2)) ∧ o p = false) ↔ (p < nx (S 0) ∧ (¬ S (22 + 5 * p + 1) = S (22 + 5 * p + 2)) ∧ o p = false)
  rw [h.ot (by omega), h.ot (by omega), h.ot (by omega)]
theorem sim.can (h : sim S T) (g : GD S) (p q : Nat) : canP T R o p q ↔ canP S R o p q := by
  have h6 : ppN S ≤ 6 := g.1.1
  by_cases a : fre S o p
  · have hp : p < 6 := by have := a.1; omega
    have a1 : hsN S p ≤ 7 := (rgP g hp).2.1.1
    have a2 : ndN S p ≤ 7 := (rgP g hp).2.2.1.1
    obtain ⟨e1, e2, e3, e5⟩ := h.hn p
    have e4 : cnN T p = cnN S p := congrArg nx (h.c a.2.1)
    have e6 : askA T R o p = askA S R o p := h.ask g hp a.2.1
    have j1 : jrN T (ndN T p) = jrN S (ndN S p) := by rw [e2, (h.wr (by omega)).2]
    have j2 : jrN T (hsN T p) = jrN S (hsN S p) := by rw [e1, (h.wr (by omega)).2]
    have m1 : mtP T p q ↔ mtP S p q := by show (mtN T p).testBit q = true ↔ _; rw [e5]
    have n1 : (ndS T p = hsS T q ∨ ndS T q = hsS T p) ↔ (ndS S p = hsS S q ∨ ndS S q = hsS S p) := by
      show (T (22 + 5 * p + 2) = T (22 + 5 * q + 1) ∨ T (22 + 5 * q + 2) = T (22 + 5 * p + 1)) ↔ (S (22 + 5 * p + 2) = S (22 + 5 * q + 1) ∨ S (22 + 5 * q + 2) = S (22 + 5 * p + 1))
      rw [h.ot (by omega), h.ot (by omega), h.ot (by omega), h.ot (by omega)]
    refine and_congr (h.fr p) (or_congr (and_congr Iff.rfl ?_) (and_congr Iff.rfl (and_congr Iff.rfl (and_congr (h.fr q) (and_congr m1 n1)))))
    rw [j1, j2, e4, e6]
  · exact ⟨fun z => absurd ((h.fr p).mp z.1) a, fun z => absurd z.1 a⟩
theorem us_sim {a j : Nat} {v : Int32} (h : j ≠ a → T j = S j) : us T a v j = us S a v j := by
  by_cases e : j = a
  · subst e
    rw [us_same, us_same]
  · rw [us_ne e, us_ne e]
    exact h e
theorem sim.do (h : sim S T) (g : GD S) {p q : Nat} (hc : canP S R o p q) : sim (doA S R o p q) (doA T R o p q) := by
  intro i hi
  have h6 : ppN S ≤ 6 := g.1.1
  have hp : p < 6 := by have := hc.1.1; omega
  have a1 : hsN S p ≤ 7 := (rgP g hp).2.1.1
  have a2 : ndN S p ≤ 7 := (rgP g hp).2.2.1.1
  have ea : askA T R o p = askA S R o p := h.ask g hp hc.1.2.1
  obtain ⟨e1, e2, -, -⟩ := h.hn p
  unfold doA at hi ⊢
  by_cases h9 : q = 9
  · rw [if_pos h9] at hi
    rw [if_pos h9, if_pos h9, ea]
    unfold wiA jrA at hi ⊢
    rw [e1, e2, h.ot (i := 14 + hsN S p) (by omega), h.ot (i := 22 + 5 * p + 2) (by omega), h.c hc.1.2.1, us_sim (S := S) (T := T) (a := 14 + hsN S p) (j := 14 + ndN S p) (fun _ => h.ot (by omega))]
    refine us_sim fun i1 => us_sim fun i2 => us_sim fun i3 => us_sim fun i4 => h i fun z hz ez => ?_
    have := hi z hz ez
    show ¬ S (22 + 5 * z + 1) = S (22 + 5 * z + 2)
    have hzp : z ≠ p := fun w => i1 (by rw [ez, w])
    have this : ¬ (us (us (us (us S (14 + hsN S p) (S (14 + hsN S p) + 1)) (14 + ndN S p) _) (22 + 5 * p + 1) _) (22 + 5 * p + 3) _) (22 + 5 * z + 1) = (us (us (us (us S (14 + hsN S p) (S (14 + hsN S p) + 1)) (14 + ndN S p) _) (22 + 5 * p + 1) _) (22 + 5 * p + 3) _) (22 + 5 * z + 2) := this
    rw [us_ne (by omega), us_ne (by omega), us_ne (by omega), us_ne (by omega), us_ne (by omega), us_ne (by omega), us_ne (by omega), us_ne (by omega)] at this
    exact this
  · rw [if_neg h9] at hi
    rw [if_neg h9, if_neg h9]
    rcases hc.2 with w | w
    · exact absurd w.1 h9
    · have hq : q < 6 := by have := w.2.2.1.1; omega
      unfold swA at hi ⊢
      rw [h.ot (i := 22 + 5 * p + 1) (by omega), h.ot (i := 22 + 5 * q + 1) (by omega)]
      refine us_sim fun i1 => us_sim fun i2 => h i fun z hz ez => ?_
      by_cases z1 : z = p
      · rw [z1]; exact hc.1.2.1
      · by_cases z2 : z = q
        · rw [z2]; exact w.2.2.1.2.1
        · have := hi z hz ez
          have this : ¬ (us (us S (22 + 5 * p + 1) _) (22 + 5 * q + 1) _) (22 + 5 * z + 1) = (us (us S (22 + 5 * p + 1) _) (22 + 5 * q + 1) _) (22 + 5 * z + 2) := this
          rw [us_ne (by omega), us_ne (by omega), us_ne (by omega), us_ne (by omega)] at this
          exact this
theorem sim.pa (h : sim S T) (g : GD S) {p q : Nat} (hc : canP S R o p q) : paA T R o p q = paA S R o p q := by
  have h6 : ppN S ≤ 6 := g.1.1
  have hp : p < 6 := by have := hc.1.1; omega
  unfold paA
  rw [h.ask g hp hc.1.2.1]
theorem sim.cl (h : sim S T) (g : GD S) (a : Nat) : canL T R o a = canL S R o a := by
  unfold canL
  refine List.filter_congr fun x _ => ?_
  congr 1
  exact decide_eq_decide.mpr (h.can g _ _)
theorem sim.th (h : sim S T) (o : Nat → Bool) : thrS T o = thrS S o := by
  unfold thrS
  rw [show ppN T = ppN S from congrArg nx (h.ot (by omega))]
theorem sim.dn (h : sim S T) : doneP T o ↔ doneP S o := by
  show wN (whS T o) = wN (thrS T o) ↔ _
  rw [h.wh, h.th]
end SIMS
/-! what the class's SEARCH comes to: the question (1 how many rows, 2 how many whole, 3 the cheapest, 4 the game, else the fewest) -/
def edA (md : Int32) (S : Nat → Int32) (o : Nat → Bool) (n : Nat) : Int32 := if md = 1 then (if doneP S o then 1 else 0) else if md = 2 then nI (cN (whS S fun _ => false)) else if md = 3 then (if doneP S o then 0 else 1000000) else if md = 4 then (if 0 < n then -1 else 0) else (if doneP S o then 0 else 1000000)
def fiA (md : Int32) (S : Nat → Int32) : Int32 := if md = 1 then 0 else if md = 2 then nI (cN (whS S fun _ => false)) else if md = 3 then 1000000 else if md = 4 then -1 else 1000000
def jnA (md : Int32) (a r c : Int32) : Int32 := if md = 1 then a + r else if md = 2 then (if a < r then r else a) else if md = 3 then (if r + c < a then r + c else a) else if md = 4 then (if a < -r then -r else a) else (if r + 1 < a then r + 1 else a)
def vaA (md : Int32) (R : List RU) (o : Nat → Bool) : Nat → (Nat → Int32) → Int32
  | 0, S => edA md S o 0
  | n + 1, S => if doneP S o then edA md S o (n + 1) else (canL S R o 0).foldl (fun a c => jnA md a (vaA md R o n (doC S R o c)) (nI (paC S R o c))) (fiA md S)
theorem fold_mem {α β : Type} {f g : β → α → β} : ∀ (l : List α) (a : β), (∀ x ∈ l, ∀ b, f b x = g b x) → l.foldl f a = l.foldl g a := by
  intro l
  induction l with
  | nil => intro a _; rfl
  | cons x l ih =>
    intro a h
    rw [List.foldl_cons, List.foldl_cons, h x List.mem_cons_self]
    exact ih _ (fun y hy => h y (List.mem_cons_of_mem _ hy))
theorem edA_sim {md : Int32} {o : Nat → Bool} {S T : Nat → Int32} (h : sim S T) (n : Nat) : edA md T o n = edA md S o n := by
  unfold edA
  rw [h.wh fun _ => false]
  by_cases e : doneP S o
  · rw [if_pos e, if_pos e, if_pos (h.dn.mpr e), if_pos (h.dn.mpr e)]
  · rw [if_neg e, if_neg e, if_neg (fun z => e (h.dn.mp z)), if_neg (fun z => e (h.dn.mp z))]
theorem vaA_sim {md : Int32} {R : List RU} {o : Nat → Bool} : ∀ (n : Nat) (S T : Nat → Int32), GD S → sim S T → vaA md R o n T = vaA md R o n S := by
  intro n
  induction n with
  | zero => intro S T _ h; exact edA_sim h 0
  | succ n ih =>
    intro S T g h
    rw [vaA, vaA]
    by_cases e : doneP S o
    · rw [if_pos e, if_pos (h.dn.mpr e)]
      exact edA_sim h _
    · rw [if_neg e, if_neg (fun z => e (h.dn.mp z)), h.cl g]
      have ef : fiA md T = fiA md S := by
        unfold fiA
        rw [h.wh]
      rw [ef]
      refine fold_mem _ _ fun c hc b => ?_
      have hcan := (canL_mem hc).2
      rw [ih (doC S R o c) (doC T R o c) (g.do hcan) (h.do g hcan), show paC T R o c = paC S R o c from h.pa g hcan]
