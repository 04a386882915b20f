/-! towns that differ in REPORTS, THE LEDGER, z alone; THE LEDGER, both sides -/
def pl (S T : Nat → Int32) : Prop := ∀ i, i < 52 → i ≠ 3 → i ≠ 4 → i ≠ 5 → T i = S i
section PLS
variable {S T U : Nat → Int32} {R : List RU} {o : Nat → Bool}
theorem pl.rf : pl S S := fun _ _ _ _ _ => rfl
theorem pl.tr (h : pl S T) (k : pl T U) : pl S U := fun i a b c d => (k i a b c d).trans (h i a b c d)
theorem pl.sy (h : pl S T) : pl T S := fun i a b c d => (h i a b c d).symm
theorem pl.it (h : pl S T) {p w : Nat} (hp : p < 6) (hw : w < 5) : T (22 + 5 * p + w) = S (22 + 5 * p + w) := h _ (by omega) (by omega) (by omega) (by omega)
theorem pl.i0 (h : pl S T) {p : Nat} (hp : p < 6) : T (22 + 5 * p) = S (22 + 5 * p) := h.it (w := 0) hp (by decide)
theorem pl.i1 (h : pl S T) {p : Nat} (hp : p < 6) : T (22 + 5 * p + 1) = S (22 + 5 * p + 1) := h.it (w := 1) hp (by decide)
theorem pl.i2 (h : pl S T) {p : Nat} (hp : p < 6) : T (22 + 5 * p + 2) = S (22 + 5 * p + 2) := h.it (w := 2) hp (by decide)
theorem pl.i3 (h : pl S T) {p : Nat} (hp : p < 6) : T (22 + 5 * p + 3) = S (22 + 5 * p + 3) := h.it (w := 3) hp (by decide)
theorem pl.i4 (h : pl S T) {p : Nat} (hp : p < 6) : T (22 + 5 * p + 4) = S (22 + 5 * p + 4) := h.it (w := 4) hp (by decide)
theorem pl.z0 (h : pl S T) : T 0 = S 0 := h 0 (by decide) (by decide) (by decide) (by decide)
theorem pl.z2 (h : pl S T) : T 2 = S 2 := h 2 (by decide) (by decide) (by decide) (by decide)
theorem pl.jw (h : pl S T) {j : Nat} (hj : j < 8) : T (6 + j) = S (6 + j) ∧ T (14 + j) = S (14 + j) := ⟨h _ (by omega) (by omega) (by omega) (by omega), h _ (by omega) (by omega) (by omega) (by omega)⟩
theorem pl.pp (h : pl S T) : ppN T = ppN S := congrArg nx h.z0
theorem pl.gd (h : pl S T) (g : GD S) : GD T := by
  obtain ⟨a, b, c, d⟩ := g
  refine ⟨by rw [h.z0]; exact a, by rw [h.z2]; exact b, fun j hj => ?_, fun p hp => ?_⟩
  · rw [(h.jw hj).1, (h.jw hj).2]
    exact c j hj
  · rw [h.i0 hp, h.i1 hp, h.i2 hp, h.i3 hp, h.i4 hp]
    exact d p hp
theorem pl.wh (h : pl S T) (h6 : ppN S ≤ 6) (o : Nat → Bool) : whS T o = whS S o := by
  funext p
  show (decide (p < nx (T 0)) && (decide (T (22 + 5 * p + 1) = T (22 + 5 * p + 2)) && !o p)) = (decide (p < nx (S 0)) && (decide (S (22 + 5 * p + 1) = S (22 + 5 * p + 2)) && !o p))
  rw [h.z0]
  by_cases hp : p < 6
  · rw [h.i1 hp, h.i2 hp]
  · rw [decide_eq_false (show ¬ p < nx (S 0) by have : nx (S 0) ≤ 6 := h6; omega)]
    rfl
theorem pl.hn (h : pl S T) {p : Nat} (hp : p < 6) : hsN T p = hsN S p ∧ ndN T p = ndN S p ∧ kdN T p = kdN S p ∧ cnN T p = cnN S p ∧ mtN T p = mtN S p := ⟨congrArg nx (h.i1 hp), congrArg nx (h.i2 hp), congrArg nx (h.i0 hp), congrArg nx (h.i3 hp), congrArg nx (h.i4 hp)⟩
theorem pl.wr (h : pl S T) {j : Nat} (hj : j < 8) : wrN T j = wrN S j ∧ jrN T j = jrN S j := ⟨congrArg nx (h.jw hj).1, congrArg nx (h.jw hj).2⟩
theorem pl.ask (h : pl S T) (g : GD S) {p : Nat} (hp : p < 6) : askA T R o p = askA S R o p := by
  obtain ⟨e1, e2, e3, e4, -⟩ := h.hn hp
  have a1 : hsN S p ≤ 7 := (rgP g hp).2.1.1
  have a2 : ndN S p ≤ 7 := (rgP g hp).2.2.1.1
  have e5 : feN T = feN S := congrArg nx h.z2
  have ef : fxA T o p = fxA S o p := by
    funext k
    unfold fxA
    rw [e1, e2, e4, h.wh g.1.1, (h.wr (show hsN S p < 8 by omega)).1, (h.wr (show ndN S p < 8 by omega)).1]
  unfold askA
  rw [ef, e1, e2, e3, e4, e5, h.wh g.1.1, (h.wr (show ndN S p < 8 by omega)).1, (h.wr (show hsN S p < 8 by omega)).1]
theorem pl.fr (h : pl S T) (h6 : ppN S ≤ 6) (p : Nat) : fre T o p ↔ fre S o p := by
  show (p < nx (T 0) ∧ (¬ T (22 + 5 * p + 1) = T (22 + 5 * p + 2)) ∧ o p = false) ↔ (p < nx (S 0) ∧ (¬ S (22 + 5 * p + 1) = S (22 + 5 * p + 2)) ∧ o p = false)
  rw [h.z0]
  refine and_congr_right fun hp => ?_
  have hp : p < 6 := by have : nx (S 0) ≤ 6 := h6; omega
  rw [h.i1 hp, h.i2 hp]
theorem pl.can (h : pl S T) (g : GD S) (p q : Nat) : canP T R o p q ↔ canP S R o p q := by
  have h6 : ppN S ≤ 6 := g.1.1
  by_cases a : fre S o p
  · have hp : p < 6 := by have := a.1; omega
    have a1 : hsN S p ≤ 7 := (rgP g hp).2.1.1
    have a2 : ndN S p ≤ 7 := (rgP g hp).2.2.1.1
    obtain ⟨e1, e2, e3, e4, e5⟩ := h.hn hp
    have e6 : askA T R o p = askA S R o p := h.ask g hp
    have j1 : jrN T (ndN T p) = jrN S (ndN S p) := by rw [e2, (h.wr (by omega)).2]
    have j2 : jrN T (hsN T p) = jrN S (hsN S p) := by rw [e1, (h.wr (by omega)).2]
    have m1 : mtP T p q ↔ mtP S p q := by show (mtN T p).testBit q = true ↔ _; rw [e5]
    refine and_congr (h.fr h6 p) (or_congr (and_congr Iff.rfl ?_) (and_congr Iff.rfl (and_congr Iff.rfl ?_)))
    · rw [j1, j2, e4, e6]
    · by_cases b : fre S o q
      · have hq : q < 6 := by have := b.1; omega
        refine and_congr (h.fr h6 q) (and_congr m1 ?_)
        show (T (22 + 5 * p + 2) = T (22 + 5 * q + 1) ∨ T (22 + 5 * q + 2) = T (22 + 5 * p + 1)) ↔ (S (22 + 5 * p + 2) = S (22 + 5 * q + 1) ∨ S (22 + 5 * q + 2) = S (22 + 5 * p + 1))
        rw [h.i2 hp, h.i1 hq, h.i2 hq, h.i1 hp]
      · exact ⟨fun z => absurd ((h.fr h6 q).mp z.1) b, fun z => absurd z.1 b⟩
  · exact ⟨fun z => absurd ((h.fr h6 p).mp z.1) a, fun z => absurd z.1 a⟩
theorem pl.cl (h : pl S T) (g : GD S) (a : Nat) : canL T R o a = canL S R o a := by
  unfold canL
  refine List.filter_congr fun x _ => ?_
  congr 1
  exact decide_eq_decide.mpr (h.can g _ _)
theorem pl.th (h : pl S T) (o : Nat → Bool) : thrS T o = thrS S o := by
  unfold thrS
  rw [h.pp]
theorem pl.dn (h : pl S T) (h6 : ppN S ≤ 6) : doneP T o ↔ doneP S o := by
  show wN (whS T o) = wN (thrS T o) ↔ _
  rw [h.wh h6, h.th]
theorem pl.us (h : pl S T) {i : Nat} {v : Int32} (hi : 52 ≤ i ∨ i = 3 ∨ i = 4 ∨ i = 5) : pl S (us T i v) := fun j a b c d => by
  rw [us_ne (by omega)]
  exact h j a b c d
theorem pl.do (h : pl S T) (g : GD S) {p q : Nat} (hc : canP S R o p q) : pl (doA S R o p q) (doA T R o p q) := by
  intro i i1 i2 i3 i4
  have h6 : ppN S ≤ 6 := g.1.1
  have hp : p < 6 := by have := hc.1.1; omega
  have a1 : hsN S p ≤ 7 := (rgP g hp).2.1.1
  have a2 : ndN S p ≤ 7 := (rgP g hp).2.2.1.1
  have ea : askA T R o p = askA S R o p := h.ask g hp
  obtain ⟨e1, e2, -⟩ := h.hn hp
  unfold doA
  by_cases h9 : q = 9
  · rw [if_pos h9, if_pos h9, ea]
    unfold wiA jrA
    rw [e1, e2, (h.jw (show hsN S p < 8 by omega)).2, h.i2 hp, h.i3 hp, us_sim (S := S) (T := T) (a := 14 + hsN S p) (j := 14 + ndN S p) (fun _ => (h.jw (show ndN S p < 8 by omega)).2)]
    exact us_sim fun _ => us_sim fun _ => us_sim fun _ => us_sim fun _ => h i i1 i2 i3 i4
  · rw [if_neg h9, if_neg h9]
    rcases hc.2 with w | w
    · exact absurd w.1 h9
    · have hq : q < 6 := by have := w.2.2.1.1; omega
      unfold swA
      rw [h.i1 hp, h.i1 hq]
      exact us_sim fun _ => us_sim fun _ => h i i1 i2 i3 i4
theorem pl.tw (h : pl S T) (h6 : ppN S ≤ 6) {t : Nat} {σ : SG} (hT : TWR t σ S o) : TWR t σ T o := by
  obtain ⟨a, b, c, d, e, f⟩ := hT
  refine ⟨by rw [h.z0]; exact a, by rw [h.z2]; exact b, c, by rw [h.wh h6]; exact d, fun p hp => ?_, fun j hj => ?_⟩
  · rw [h.i0 hp, h.i1 hp, h.i2 hp, h.i3 hp, h.i4 hp]
    exact e p hp
  · rw [(h.jw hj).1, (h.jw hj).2]
    exact f j hj
theorem pl.j99 (h : pl S T) (hJ : J99 S) : J99 T := fun j hj => by rw [(h.wr hj).2]; exact hJ j hj
end PLS
theorem RLM.cong2 {S S' : Nat → Int32} (h1 : S' 1 = S 1) (h2 : ∀ i, 106 ≤ i → S' i = S i) : ∀ {R : List RU} {k off : Nat}, RLM S R k off → RLM S' R k off := by
  intro R
  induction R with
  | nil => intro k off h; exact ⟨by rw [h1]; exact h.1, h.2⟩
  | cons q r ih =>
    intro k off h
    obtain ⟨a, b, c, d, e, f⟩ := h
    exact ⟨by rw [h2 _ (by omega)]; exact a, by rw [h2 _ (by omega)]; exact b, by rw [h2 _ (by omega)]; exact c, by rw [h2 _ (by omega)]; exact d, fun j x hx => by rw [h2 _ (by omega)]; exact e j x hx, ih f⟩
theorem RMt.cong2 {S S' : Nat → Int32} {R : List RU} (h : RMt S R) (h1 : S' 1 = S 1) (h2 : ∀ i, 106 ≤ i → S' i = S i) : RMt S' R := ⟨h.1.cong2 h1 h2, h.2⟩
theorem J99.do {S : Nat → Int32} {R : List RU} {o : Nat → Bool} {p q : Nat} (hJ : J99 S) (g : GD S) (hc : canP S R o p q) : J99 (doA S R o p q) := by
  intro j hj
  have h6 : ppN S ≤ 6 := g.1.1
  have hp : p < 6 := by have := hc.1.1; omega
  have a1 : hsN S p ≤ 7 := (rgP g hp).2.1.1
  have a2 : ndN S p ≤ 7 := (rgP g hp).2.2.1.1
  show nx (doA S R o p q (14 + j)) ≤ 99
  unfold doA
  by_cases h9 : q = 9
  · rw [if_pos h9]
    rcases hc.2 with w | w
    · unfold wiA
      rw [us_ne (by omega), us_ne (by omega)]
      unfold jrA
      have hne := hN_ne g hp hc.1.2.1
      rw [us_ne (show 14 + ndN S p ≠ 14 + hsN S p by omega)]
      by_cases ed : j = ndN S p
      · rw [ed, us_same]
        have := (jr_nx (g.2.2.1 _ (show ndN S p < 8 by omega)).2 (by decide)).2 w.2.1
        have b := hJ _ (show ndN S p < 8 by omega)
        have b : nx (S (14 + ndN S p)) ≤ 99 := b
        omega
      · rw [us_ne (by omega)]
        by_cases eh : j = hsN S p
        · rw [eh, us_same]
          have := (jr_nx (g.2.2.1 _ (show hsN S p < 8 by omega)).2 (by decide)).1
          have b : nx (S (14 + hsN S p)) < 99 := w.2.2.1
          omega
        · rw [us_ne (by omega)]
          exact hJ j hj
    · exact absurd h9 w.1
  · rw [if_neg h9]
    unfold swA
    rw [us_ne (by omega), us_ne (by omega)]
    exact hJ j hj
/-- a town of the class holds THE LEDGER and z of S -/
def LGt (t : Nat) (σ : SG) (S : Nat → Int32) : Prop := rg (S 4) 12 ∧ σ.1 t 13 = S 5 ∧ σ.1 t 14 = S 4 ∧ ∀ i, i < nx (S 4) → σ.1 (t + 15 + 1 + i) 0 = S (70 + 3 * i) ∧ σ.1 (t + 15 + 1 + i) 1 = S (70 + 3 * i + 2) ∧ σ.1 (t + 15 + 1 + i) 2 = S (70 + 3 * i + 1)
/-- what stands in it are CHANGES of these PEOPLE -/
def LGo (S : Nat → Int32) : Prop := ∀ i, i < nx (S 4) → (∃ c, S (70 + 3 * i) = nI c ∧ c < 60 ∧ numP S (c / 10) (c % 10)) ∧ rg (S (70 + 3 * i + 1)) 7 ∧ rg (S (70 + 3 * i + 2)) 7
def m1n (S : Nat → Int32) : Nat := if nx (S 4) < 12 then nx (S 4) else 11
def shL (S : Nat → Int32) : Nat → Int32 := fun i => if nx (S 4) < 12 then S i else if i = 4 then 11 else if 70 ≤ i ∧ i < 103 then S (i + 3) else S i
/-- a CHANGE made and written down -/
def enA (S : Nat → Int32) (R : List RU) (c : Nat) : Nat → Int32 := us (us (us (us (shL (doC S R nob c)) (70 + 3 * m1n S) (nI c)) (70 + 3 * m1n S + 1) (hsS (doC S R nob c) (c / 10))) (70 + 3 * m1n S + 2) (hsS S (c / 10))) 4 (nI (m1n S + 1))
theorem m1n_le {S : Nat → Int32} : m1n S ≤ 11 := by
  unfold m1n
  by_cases h : nx (S 4) < 12
  · rw [if_pos h]; omega
  · rw [if_neg h]; omega
theorem shL_o {S : Nat → Int32} {i : Nat} (h4 : i ≠ 4) (h : i < 70 ∨ 103 ≤ i) : shL S i = S i := by
  unfold shL
  by_cases hm : nx (S 4) < 12
  · rw [if_pos hm]
  · rw [if_neg hm, if_neg h4, if_neg (by omega)]
theorem shL_4 {S : Nat → Int32} (h : rg (S 4) 12) : shL S 4 = nI (m1n S) := by
  unfold shL m1n
  by_cases hm : nx (S 4) < 12
  · rw [if_pos hm, if_pos hm]
    exact h.2
  · rw [if_neg hm, if_neg hm, if_pos rfl]
    rfl
theorem shL_r {S : Nat → Int32} {i w : Nat} (hi : i < m1n S) (hw : w < 3) : shL S (70 + 3 * i + w) = S (70 + 3 * (if nx (S 4) < 12 then i else i + 1) + w) := by
  unfold shL
  unfold m1n at hi
  by_cases hm : nx (S 4) < 12
  · rw [if_pos hm, if_pos hm]
  · rw [if_neg hm] at hi
    rw [if_neg hm, if_neg hm, if_neg (by omega), if_pos (by omega)]
    congr 1
    omega
section ENS
variable {S : Nat → Int32} {R : List RU} {c : Nat}
theorem doC_off (g : GD S) (hc : canC S R nob c) {i : Nat} (hi : i < 14 ∨ 52 ≤ i) : doC S R nob c i = S i := doA_off g hc hi
theorem enA_o {i : Nat} (h4 : i ≠ 4) (h : i < 70 ∨ 106 ≤ i) : enA S R c i = doC S R nob c i := by
  have := m1n_le (S := S)
  unfold enA
  rw [us_ne (by omega), us_ne (by omega), us_ne (by omega), us_ne (by omega), shL_o h4 (by omega)]
theorem enA_pl : pl (doC S R nob c) (enA S R c) := fun i h1 h2 h3 h4 => enA_o h3 (by omega)
theorem enA_4 : enA S R c 4 = nI (m1n S + 1) := by
  unfold enA
  rw [us_same]
theorem m1n_do (g : GD S) (hc : canC S R nob c) : m1n (doC S R nob c) = m1n S := by
  unfold m1n
  rw [doC_off g hc (by omega)]
theorem enA_r (g : GD S) (hc : canC S R nob c) {i w : Nat} (hi : i < m1n S) (hw : w < 3) : enA S R c (70 + 3 * i + w) = S (70 + 3 * (if nx (S 4) < 12 then i else i + 1) + w) := by
  unfold enA
  rw [us_ne (by omega), us_ne (by omega), us_ne (by omega), us_ne (by omega), shL_r (by rw [m1n_do g hc]; exact hi) hw, doC_off g hc (by omega), doC_off g hc (by omega)]
theorem enA_n : enA S R c (70 + 3 * m1n S) = nI c ∧ enA S R c (70 + 3 * m1n S + 1) = hsS (doC S R nob c) (c / 10) ∧ enA S R c (70 + 3 * m1n S + 2) = hsS S (c / 10) := by
  unfold enA
  refine ⟨?_, ?_, ?_⟩
  · rw [us_ne (by omega), us_ne (by omega), us_ne (by omega), us_same]
  · rw [us_ne (by omega), us_ne (by omega), us_same]
  · rw [us_ne (by omega), us_same]
theorem enA_gd (g : GD S) (hc : canC S R nob c) : GD (enA S R c) := enA_pl.gd (g.do hc)
theorem enA_rm (h : RMt S R) (g : GD S) (hc : canC S R nob c) : RMt (enA S R c) R := RMt.cong2 (RMt.do h g hc) (enA_o (by decide) (by decide)) (fun i hi => enA_o (by omega) (by omega))
theorem enA_j99 (hJ : J99 S) (g : GD S) (hc : canC S R nob c) : J99 (enA S R c) := enA_pl.j99 (hJ.do g hc)
theorem doC_pp (g : GD S) (hc : canC S R nob c) : ppN (doC S R nob c) = ppN S := congrArg nx (doC_off g hc (by decide))
theorem enA_num (g : GD S) (hc : canC S R nob c) (p q : Nat) : numP (enA S R c) p q ↔ numP S p q := by
  show (p < nx (enA S R c 0) ∧ (q = 9 ∨ (p < q ∧ q < nx (enA S R c 0)))) ↔ _
  rw [enA_o (by decide) (by decide), doC_off g hc (by decide)]
theorem enA_lgo (h : LGo S) (h4 : rg (S 4) 12) (g : GD S) (hc : canC S R nob c) (h60 : c < 60) : LGo (enA S R c) := by
  intro i hi
  have hm := m1n_le (S := S)
  rw [enA_4, nx_nI (by omega)] at hi
  have hp : c / 10 < 6 := by omega
  by_cases e : i = m1n S
  · rw [e, enA_n.1, enA_n.2.1, enA_n.2.2]
    exact ⟨⟨c, rfl, h60, (enA_num g hc _ _).mpr (canC_num hc)⟩, (rgP (g.do hc) hp).2.1, (rgP g hp).2.1⟩
  · have hi : i < m1n S := by omega
    have hj : (if nx (S 4) < 12 then i else i + 1) < nx (S 4) := by
      unfold m1n at hi
      have := h4.1
      by_cases q : nx (S 4) < 12
      · rw [if_pos q] at hi ⊢; exact hi
      · rw [if_neg q] at hi ⊢; omega
    rw [show 70 + 3 * i = 70 + 3 * i + 0 from rfl, enA_r g hc hi (by decide), enA_r g hc hi (w := 1) (by decide), enA_r g hc hi (w := 2) (by decide)]
    obtain ⟨⟨d, d1, d2, d3⟩, a, b⟩ := h _ hj
    exact ⟨⟨d, d1, d2, (enA_num g hc _ _).mpr d3⟩, a, b⟩
end ENS
