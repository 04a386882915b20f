/-! a smaller FEE bars nothing -/
theorem priceN_mono {a b : Nat} (h : a ≤ b) : ∀ z, priceN a z ≤ priceN b z
  | none => h
  | some (0, x) => Nat.add_le_add_right h x
  | some (1, x) => Nat.sub_le_sub_right h x
  | some (_ + 2, _) => Nat.le_refl _
theorem kindN_mono {k a b c : Nat} {n : Bool} (h : a ≤ b) : kindN k a c n ≤ kindN k b c n := by
  unfold kindN
  by_cases h2 : k = 2
  · rw [if_pos h2, if_pos h2]; omega
  · rw [if_neg h2, if_neg h2]
    by_cases h3 : k = 3
    · rw [if_pos h3, if_pos h3]
      cases n
      · rw [if_neg (by decide), if_neg (by decide)]; omega
      · rw [if_pos rfl, if_pos rfl]; omega
    · rw [if_neg h3, if_neg h3]
      by_cases h4 : k = 4
      · rw [if_pos h4, if_pos h4]; omega
      · rw [if_neg h4, if_neg h4]
        by_cases h5 : k = 5
        · rw [if_pos h5, if_pos h5]; omega
        · rw [if_neg h5, if_neg h5]; exact h
section FEE
variable {S T : Nat → Int32} {R : List RU} {o : Nat → Bool} {x : Int32}
theorem fee_wh (o : Nat → Bool) : whS (us T 2 x) o = whS T o := by
  funext p
  show (decide (p < nx (us T 2 x 0)) && (decide (us T 2 x (22 + 5 * p + 1) = us T 2 x (22 + 5 * p + 2)) && !o p)) = (decide (p < nx (T 0)) && (decide (T (22 + 5 * p + 1) = T (22 + 5 * p + 2)) && !o p))
  rw [us_ne (by omega), us_ne (by omega), us_ne (by omega)]
theorem fee_ask (h : feN T ≤ nx x) (p : Nat) : askA T R o p ≤ askA (us T 2 x) R o p := by
  have e1 : kdN (us T 2 x) p = kdN T p := congrArg nx (us_ne (by omega))
  have e2 : hsN (us T 2 x) p = hsN T p := congrArg nx (us_ne (by omega))
  have e3 : ndN (us T 2 x) p = ndN T p := congrArg nx (us_ne (by omega))
  have e4 : cnN (us T 2 x) p = cnN T p := congrArg nx (us_ne (by omega))
  have e5 : ∀ j, wrN (us T 2 x) j = wrN T j := fun j => congrArg nx (us_ne (by omega))
  have e6 : feN (us T 2 x) = nx x := congrArg nx us_same
  have ef : fxA (us T 2 x) o p = fxA T o p := by
    funext k
    unfold fxA
    rw [e2, e3, e4, e5, e5, fee_wh]
  unfold askA
  rw [ef, e1, e2, e3, e4, e5, e5, e6, fee_wh]
  exact kindN_mono (priceN_mono (by omega) _)
theorem fee_can (h : feN T ≤ nx x) {p q : Nat} (hc : canP (us T 2 x) R o p q) : canP T R o p q := by
  have ef : ∀ p, fre (us T 2 x) o p ↔ fre T o p := fun p => by
    show (p < nx (us T 2 x 0) ∧ (¬ us T 2 x (22 + 5 * p + 1) = us T 2 x (22 + 5 * p + 2)) ∧ o p = false) ↔ (p < nx (T 0) ∧ (¬ T (22 + 5 * p + 1) = T (22 + 5 * p + 2)) ∧ o p = false)
    rw [us_ne (by omega), us_ne (by omega), us_ne (by omega)]
  have e2 : hsN (us T 2 x) p = hsN T p := congrArg nx (us_ne (by omega))
  have e3 : ndN (us T 2 x) p = ndN T p := congrArg nx (us_ne (by omega))
  have e4 : cnN (us T 2 x) p = cnN T p := congrArg nx (us_ne (by omega))
  have e5 : ∀ j, jrN (us T 2 x) j = jrN T j := fun j => congrArg nx (us_ne (by omega))
  refine ⟨(ef p).mp hc.1, ?_⟩
  rcases hc.2 with ⟨a, b, c, d⟩ | ⟨a, b, c, d, e⟩
  · rw [e3, e5] at b
    rw [e2, e5] at c
    rw [e4] at d
    exact Or.inl ⟨a, b, c, Nat.le_trans (fee_ask h p) d⟩
  · refine Or.inr ⟨a, b, (ef q).mp c, ?_, ?_⟩
    · have d : (nx (us T 2 x (22 + 5 * p + 4))).testBit q = true := d
      rw [us_ne (by omega)] at d
      exact d
    · have e : us T 2 x (22 + 5 * p + 2) = us T 2 x (22 + 5 * q + 1) ∨ us T 2 x (22 + 5 * q + 2) = us T 2 x (22 + 5 * p + 1) := e
      rw [us_ne (by omega), us_ne (by omega), us_ne (by omega), us_ne (by omega)] at e
      exact e
/-- the same town at a smaller fee -/
def low (S T : Nat → Int32) : Prop := sim S (us T 2 (S 2)) ∧ feN T ≤ feN S
theorem low.can (h : low S T) (g : GD S) {p q : Nat} (hc : canP S R o p q) : canP T R o p q := fee_can h.2 ((h.1.can g p q).mpr hc)
theorem low.dn (h : low S T) (hd : doneP S o) : doneP T o := by
  have e := (h.1.dn (o := o)).mpr hd
  have e : wN (whS (us T 2 (S 2)) o) = wN (thrS (us T 2 (S 2)) o) := e
  have et : thrS (us T 2 (S 2)) o = thrS T o := by
    unfold thrS
    rw [show ppN (us T 2 (S 2)) = ppN T from congrArg nx (us_ne (by decide))]
  rw [fee_wh, et] at e
  exact e
theorem low.do (h : low S T) (g : GD S) {p q : Nat} (hc : canP S R o p q) : low (doA S R o p q) (doA T R o p q) := by
  have h6 : ppN S ≤ 6 := g.1.1
  have hp : p < 6 := by have := hc.1.1; omega
  have a1 : hsN S p ≤ 7 := (rgP g hp).2.1.1
  have a2 : ndN S p ≤ 7 := (rgP g hp).2.2.1.1
  have s1 := h.1.do g hc
  have e2 : doA S R o p q 2 = S 2 := doA_off g hc (Or.inl (by decide))
  have eh : hsN (us T 2 (S 2)) p = hsN T p := congrArg nx (us_ne (by omega))
  have en : ndN (us T 2 (S 2)) p = ndN T p := congrArg nx (us_ne (by omega))
  have eh2 : hsN T p = hsN S p := by rw [← eh]; exact (h.1.hn p).1
  have en2 : ndN T p = ndN S p := by rw [← en]; exact (h.1.hn p).2.1
  unfold low
  rw [show feN (doA S R o p q) = feN S from congrArg nx e2, e2]
  unfold doA at s1 ⊢
  by_cases h9 : q = 9
  · rw [if_pos h9, if_pos h9] at s1
    rw [if_pos h9, if_pos h9]
    have w2 : ∀ c, wiA T p c 2 = T 2 := fun c => by
      unfold wiA
      rw [us_ne (by omega), us_ne (by omega), jrA_0 (by omega) (by omega)]
    refine ⟨fun i hi => ?_, by show nx (wiA T p _ 2) ≤ _; rw [w2]; exact h.2⟩
    have hip : i ≠ 22 + 5 * p + 3 := fun e => hi p hp e (by
      show wiA S p _ (22 + 5 * p + 1) = wiA S p _ (22 + 5 * p + 2)
      rw [wiA_p.1]
      unfold wiA
      rw [us_ne (by omega), us_ne (by omega), jrA_0 (by omega) (by omega)])
    rw [← s1 i hi]
    by_cases i2 : i = 2
    · subst i2
      unfold wiA
      rw [us_same, us_ne (by omega), us_ne (by omega), jrA_0 (by omega) (by omega), us_same]
    · rw [us_ne i2]
      unfold wiA jrA
      rw [eh, en, us_ne hip, us_ne hip, us_ne (i := 2) (j := 22 + 5 * p + 2) (by omega), us_ne (i := 2) (j := 14 + hsN T p) (by omega)]
      refine us_sim fun i3 => ?_
      have eb : us T (14 + hsN T p) (T (14 + hsN T p) + 1) (14 + ndN T p) = us (us T 2 (S 2)) (14 + hsN T p) (T (14 + hsN T p) + 1) (14 + ndN T p) := us_sim fun _ => (us_ne (by omega)).symm
      rw [eb]
      exact us_sim fun i4 => us_sim fun i5 => (us_ne i2).symm
  · rw [if_neg h9, if_neg h9] at s1
    rw [if_neg h9, if_neg h9]
    have w2 : swA T p q 2 = T 2 := by
      unfold swA
      rw [us_ne (by omega), us_ne (by omega)]
    refine ⟨fun i hi => ?_, by show nx (swA T p q 2) ≤ _; rw [w2]; exact h.2⟩
    rw [← s1 i hi]
    by_cases i2 : i = 2
    · subst i2
      unfold swA
      rw [us_same, us_ne (by omega), us_ne (by omega), us_same]
    · rw [us_ne i2]
      unfold swA
      rw [us_ne (i := 2) (j := 22 + 5 * p + 1) (by omega), us_ne (i := 2) (j := 22 + 5 * q + 1) (by omega)]
      exact us_sim fun i4 => us_sim fun i5 => (us_ne i2).symm
end FEE
theorem low_rows {R : List RU} {o : Nat → Bool} : ∀ (n : Nat) (S T : Nat → Int32), GD S → GD T → low S T → rowsA R o n S ≠ [] → rowsA R o n T ≠ [] := by
  intro n
  induction n with
  | zero =>
    intro S T g gT h hr
    by_cases hd : doneP S o
    · rw [rowsA_done (h.dn hd)]
      exact List.cons_ne_nil _ _
    · exact absurd (if_neg hd) hr
  | succ n ih =>
    intro S T g gT h hr
    by_cases hT : doneP T o
    · rw [rowsA_done hT]
      exact List.cons_ne_nil _ _
    · have hd : ¬ doneP S o := fun z => hT (h.dn z)
      rw [rowsA, if_neg hd] at hr
      rw [rowsA, if_neg hT]
      obtain ⟨x, hx⟩ := List.exists_mem_of_ne_nil _ hr
      obtain ⟨c, hc, hx⟩ := List.mem_flatMap.mp hx
      have hcan := (canL_mem hc).2
      have hcT : canC T R o c := h.can g hcan
      have hne : rowsA R o n (doC S R o c) ≠ [] := fun z => by
        rw [z] at hx
        cases hx
      have h2 := ih (doC S R o c) (doC T R o c) (g.do hcan) (gT.do hcT) (h.do g hcan) hne
      obtain ⟨y, hy⟩ := List.exists_mem_of_ne_nil _ h2
      have hm : c ∈ canL T R o 0 := by
        unfold canL
        rw [List.mem_filter, Bool.and_eq_true, decide_eq_true_eq, decide_eq_true_eq]
        exact ⟨(num_in gT.1.1 (canC_num hcT)).1, Nat.zero_le _, hcT⟩
      exact List.ne_nil_of_mem (List.mem_flatMap.mpr ⟨c, hm, List.mem_map.mpr ⟨y, hy, rfl⟩⟩)
