/-! the latest CHANGE taken back, both sides -/
abbrev bkC (S : Nat → Int32) : Nat := nx (S (70 + 3 * (nx (S 4) - 1)))
abbrev bkY (S : Nat → Int32) : Int32 := S (70 + 3 * (nx (S 4) - 1) + 1)
abbrev bkG (S : Nat → Int32) : Int32 := S (70 + 3 * (nx (S 4) - 1) + 2)
abbrev bkOK (S : Nat → Int32) : Prop := hsS S (bkC S / 10) = bkY S ∧ ((bkC S % 10 = 9 ∧ 0 < jrN S (nx (bkG S)) ∧ jrN S (nx (bkY S)) < 99) ∨ (¬ bkC S % 10 = 9 ∧ hsS S (bkC S % 10) = bkG S))
def bkA (S : Nat → Int32) : Int32 := if nx (S 4) = 0 then -3 else if bkOK S then nI (bkC S) else -4
def bkN (S : Nat → Int32) : Nat → Int32 := if nx (S 4) = 0 then S else if bkOK S then us (baA S (bkC S / 10) (bkC S % 10) (nx (bkG S)) 0) 4 (nI (nx (S 4) - 1)) else S
theorem baA_off {S : Nat → Int32} {p q th i : Nat} {x : Int32} (g : GD S) (hp : p < 6) (hq : q = 9 ∨ q < 6) (ht : th < 8) (hi : i < 14 ∨ 52 ≤ i) : baA S p q th x i = S i := by
  have a1 : hsN S p ≤ 7 := (rgP g hp).2.1.1
  unfold baA
  by_cases h9 : q = 9
  · rw [if_pos h9]
    unfold unA
    rw [us_ne (by omega), us_ne (by omega), jrA_0 (by omega) (by omega)]
  · rw [if_neg h9]
    unfold swA
    rw [us_ne (by omega), us_ne (by omega)]
theorem jrA_eq {S : Nat → Int32} {h : Nat} : jrA S h h = S := us_back
theorem un_gd {S : Nat → Int32} {p th : Nat} (g : GD S) (hJ : J99 S) (hp : p < 6) (ht : th < 8) (h1 : jrN S (hsN S p) < 99) (h2 : 0 < jrN S th) : GD (unA S p th 0) ∧ J99 (unA S p th 0) := by
  have a1 : hsN S p ≤ 7 := (rgP g hp).2.1.1
  have c3 : jrA S (hsN S p) th (22 + 5 * p + 3) = S (22 + 5 * p + 3) := jrA_0 (by omega) (by omega)
  have key : GD (jrA S (hsN S p) th) ∧ J99 (jrA S (hsN S p) th) := by
    by_cases e : hsN S p = th
    · rw [e, jrA_eq]
      exact ⟨g, hJ⟩
    · refine ⟨g.jrA (by omega) ht e (by omega) h2, fun j hj => ?_⟩
      show nx (jrA S (hsN S p) th (14 + j)) ≤ 99
      unfold jrA
      rw [us_ne (show 14 + th ≠ 14 + hsN S p by omega)]
      by_cases ed : j = th
      · rw [ed, us_same]
        have := (jr_nx (g.2.2.1 _ ht).2 (by decide)).2 h2
        have b : nx (S (14 + th)) ≤ 99 := hJ _ ht
        omega
      · rw [us_ne (by omega)]
        by_cases eh : j = hsN S p
        · rw [eh, us_same]
          have := (jr_nx (g.2.2.1 _ (show hsN S p < 8 by omega)).2 (by decide)).1
          have b : nx (S (14 + hsN S p)) < 99 := h1
          omega
        · rw [us_ne (by omega)]
          exact hJ j hj
  obtain ⟨k1, k2⟩ := key
  unfold unA
  refine ⟨(k1.p1 hp (rg_nI (by omega) (by decide))).p3 hp ?_, fun j hj => ?_⟩
  · rw [show S (22 + 5 * p + 3) + 0 = S (22 + 5 * p + 3) by simp]
    exact (rgP g hp).2.2.2.1
  · show nx (us (us _ _ _) _ _ (14 + j)) ≤ 99
    rw [us_ne (by omega), us_ne (by omega)]
    exact k2 j hj
theorem bk_in {S : Nat → Int32} (h : SOK S) (h0 : ¬ nx (S 4) = 0) : bkC S < 60 ∧ S (70 + 3 * (nx (S 4) - 1)) = nI (bkC S) ∧ numP S (bkC S / 10) (bkC S % 10) ∧ rg (bkY S) 7 ∧ rg (bkG S) 7 := by
  obtain ⟨⟨c, c1, c2, c3⟩, y, z⟩ := h.2.2.1 (nx (S 4) - 1) (by omega)
  have e : bkC S = c := by
    show nx (S _) = c
    rw [c1, nx_nI (by omega)]
  rw [e]
  exact ⟨c2, c1, c3, y, z⟩
theorem num_6 {S : Nat → Int32} {p q : Nat} (g : GD S) (h : numP S p q) : p < 6 ∧ (q = 9 ∨ q < 6) := by
  have h6 : ppN S ≤ 6 := g.1.1
  refine ⟨by have := h.1; omega, ?_⟩
  rcases h.2 with w | w
  · exact Or.inl w
  · exact Or.inr (by omega)
theorem bk_gd {S : Nat → Int32} (h : SOK S) (h0 : ¬ nx (S 4) = 0) (hb : bkOK S) : GD (baA S (bkC S / 10) (bkC S % 10) (nx (bkG S)) 0) ∧ J99 (baA S (bkC S / 10) (bkC S % 10) (nx (bkG S)) 0) := by
  obtain ⟨b1, b2, b3, b4, b5⟩ := bk_in h h0
  obtain ⟨hp, hq⟩ := num_6 h.1 b3
  unfold baA
  rcases hb.2 with w | w
  · rw [if_pos w.1]
    refine un_gd h.1 h.2.1 hp (by have := b5.1; omega) ?_ w.2.1
    have e : hsN S (bkC S / 10) = nx (bkY S) := congrArg nx hb.1
    rw [e]
    exact w.2.2
  · rw [if_neg w.1]
    have hq : bkC S % 10 < 6 := by rcases hq with z | z; exact absurd z w.1; exact z
    refine ⟨h.1.sw hp hq, fun j hj => ?_⟩
    show nx (swA _ _ _ (14 + j)) ≤ 99
    unfold swA
    rw [us_ne (by omega), us_ne (by omega)]
    exact h.2.1 j hj
theorem SOK.bk {S : Nat → Int32} (h : SOK S) : SOK (bkN S) := by
  unfold bkN
  by_cases h0 : nx (S 4) = 0
  · rw [if_pos h0]; exact h
  · rw [if_neg h0]
    by_cases hb : bkOK S
    · rw [if_pos hb]
      obtain ⟨b1, b2, b3, b4, b5⟩ := bk_in h h0
      obtain ⟨hp, hq⟩ := num_6 h.1 b3
      obtain ⟨k1, k2⟩ := bk_gd h h0 hb
      have off : ∀ i, i < 14 ∨ 52 ≤ i → i ≠ 4 → us (baA S (bkC S / 10) (bkC S % 10) (nx (bkG S)) 0) 4 (nI (nx (S 4) - 1)) i = S i := fun i hi h4 => by
        rw [us_ne h4]
        exact baA_off h.1 hp hq (by have := b5.1; omega) hi
      have p3 : pl (baA S (bkC S / 10) (bkC S % 10) (nx (bkG S)) 0) (us (baA S (bkC S / 10) (bkC S % 10) (nx (bkG S)) 0) 4 (nI (nx (S 4) - 1))) := pl.rf.us (by omega)
      refine ⟨p3.gd k1, p3.j99 k2, fun i hi => ?_, ?_, by rw [off _ (by decide) (by decide)]; exact h.2.2.2.2⟩
      · have hm := h.2.2.2.1.1
        rw [us_same, nx_nI (by omega)] at hi
        obtain ⟨⟨c, c1, c2, c3⟩, y, z⟩ := h.2.2.1 i (by omega)
        rw [off _ (by omega) (by omega), off _ (by omega) (by omega), off _ (by omega) (by omega)]
        refine ⟨⟨c, c1, c2, ?_⟩, y, z⟩
        show c / 10 < nx (us _ _ _ 0) ∧ (c % 10 = 9 ∨ (c / 10 < c % 10 ∧ c % 10 < nx (us _ _ _ 0)))
        rw [off _ (by decide) (by decide)]
        exact c3
      · have hm := h.2.2.2.1.1
        rw [us_same]
        exact rg_nI (by omega) (by decide)
    · rw [if_neg hb]; exact h
theorem RMt.bk {S : Nat → Int32} {R : List RU} (hR : RMt S R) (h : SOK S) : RMt (bkN S) R := by
  unfold bkN
  by_cases h0 : nx (S 4) = 0
  · rw [if_pos h0]; exact hR
  · rw [if_neg h0]
    by_cases hb : bkOK S
    · rw [if_pos hb]
      obtain ⟨b1, b2, b3, b4, b5⟩ := bk_in h h0
      obtain ⟨hp, hq⟩ := num_6 h.1 b3
      exact hR.cong2 (by rw [us_ne (by decide)]; exact baA_off h.1 hp hq (by have := b5.1; omega) (by decide)) (fun i hi => by rw [us_ne (by omega)]; exact baA_off h.1 hp hq (by have := b5.1; omega) (by omega))
    · rw [if_neg hb]; exact hR
theorem jr_pos {x : Int32} (h : rg x 100) : x ≤ 0 ↔ ¬ 0 < nx x := by
  have h1 := h.1
  rw [h.2, nx_nI (by omega)]
  have q := n_le (a := nx x) (b := 0) (by omega) (by decide)
  exact ⟨fun z => by have := q.mp z; omega, fun z => q.mpr (by omega)⟩
theorem jr_99 {x : Int32} (h : rg x 100) : (99 : Int32) ≤ x ↔ ¬ nx x < 99 := by
  have h1 := h.1
  rw [h.2, nx_nI (by omega)]
  have q := n_le (a := 99) (b := nx x) (by decide) (by omega)
  exact ⟨fun z => by have := q.mp z; omega, fun z => q.mpr (by omega)⟩
theorem cq_back {σ : SG} {S : Nat → Int32} (h : SOK S) (hT : TWR 20 σ S nob) (hL : LGt 20 σ S) : ∃ σ', f_H_back σ = some (bkA S, σ') ∧ TWR 20 σ' (bkN S) nob ∧ LGt 20 σ' (bkN S) ∧ fr (fun c => c = 20 ∨ c = 27 ∨ c = 29 ∨ c = 31 ∨ c = 34) σ σ' ∧ ∀ i, i ≠ 8 → i ≠ 14 → σ'.1 20 i = σ.1 20 i := by
  have hg := h.1
  have hm := h.2.2.2.1
  have hL0 := hL
  obtain ⟨l1, l2, l3, l4⟩ := hL
  have hm12 := hm.1
  unfold f_H_back f_To_takeBack bkA bkN
  rw [l3]
  by_cases h0 : nx (S 4) = 0
  · have e0 : S 4 = 0 := by rw [hm.2, h0]; rfl
    rw [if_neg (by rw [e0]; decide), if_pos h0, if_pos h0, bnd_some]
    exact ⟨σ, rfl, hT, hL0, fr.rf, fun _ _ _ => rfl⟩
  · obtain ⟨b1, b2, b3, b4, b5⟩ := bk_in h h0
    obtain ⟨hp, hq⟩ := num_6 hg b3
    obtain ⟨r0, r1, r2⟩ := l4 (nx (S 4) - 1) (by omega)
    have em : S 4 - 1 = nI (nx (S 4) - 1) := by
      rw [hm.2, show (1 : Int32) = nI 1 from rfl, n_sub (by omega), nx_nI (by omega)]
    have e9 : ∀ p, p < 6 → σ.1 (20 + 9) p = hsS S p := fun p hp => (hT.2.2.2.2.1 p hp).2.1
    have e14 : ∀ j, j < 8 → σ.1 (20 + 14) j = S (14 + j) := fun j hj => (hT.2.2.2.2.2 j hj).2
    have y8 : nx (bkY S) < 8 := by have := b4.1; omega
    have g8 : nx (bkG S) < 8 := by have := b5.1; omega
    rw [if_pos (show (0 : Int32) < S 4 by rw [hm.2]; exact (n_lt (a := 0) (by decide) (by omega)).mpr (by omega)), if_neg h0, if_neg h0, em, gd_pos (ix_nI (by omega) (by decide)), nx_nI (by omega), r0, r1, r2, b2, lx_eq, lx_eq, lx_eq, lx_eq, lx_eq, n_rem (by omega), n_d10 (by omega), gd_pos (ix_nI hp (by decide)), nx_nI (by omega), e9 _ hp]
    have fin : ∀ (X : Option (Int32 × SG)), (bkOK S → X = f_To_takeBack_115 20 (nI (bkC S)) (bkG S) 1 σ) → (¬ bkOK S → X = some (-4, σ)) → ∃ σ', bnd X (fun r2 σ1 => some (r2, σ1)) = some (if bkOK S then nI (bkC S) else -4, σ') ∧ TWR 20 σ' (if bkOK S then us (baA S (bkC S / 10) (bkC S % 10) (nx (bkG S)) 0) 4 (nI (nx (S 4) - 1)) else S) nob ∧ LGt 20 σ' (if bkOK S then us (baA S (bkC S / 10) (bkC S % 10) (nx (bkG S)) 0) 4 (nI (nx (S 4) - 1)) else S) ∧ fr (fun c => c = 20 ∨ c = 27 ∨ c = 29 ∨ c = 31 ∨ c = 34) σ σ' ∧ ∀ i, i ≠ 8 → i ≠ 14 → σ'.1 20 i = σ.1 20 i := fun X hy hn => by
      by_cases hb : bkOK S
      · rw [hy hb, if_pos hb, if_pos hb]
        unfold f_To_takeBack_115
        rw [if_pos (by decide)]
        obtain ⟨σ1, q1, q2, q3, q4⟩ := b_stepBack (t := 20) (k := bkC S) (th := nx (bkG S)) (x := 0) (by omega) hT hg b3 g8
        rw [show nI (nx (bkG S)) = bkG S from b5.2.symm] at q1
        rw [q1, bnd_some, sx_eq, bnd_some, q4 14 (by decide), l3, em]
        obtain ⟨k1, k2⟩ := bk_gd h h0 hb
        have p3 : pl (baA S (bkC S / 10) (bkC S % 10) (nx (bkG S)) 0) (us (baA S (bkC S / 10) (bkC S % 10) (nx (bkG S)) 0) 4 (nI (nx (S 4) - 1))) := pl.rf.us (by omega)
        refine ⟨_, rfl, (p3.tw k1.1.1 q3).own (by decide) (by decide) (by decide) (by decide), ⟨?_, ?_, ?_, fun i hi => ?_⟩, (q2.mono (fun q hq => by omega)).tr (fr.uI (Or.inl rfl)), fun i h8 h14 => by rw [uI_i h14, q4 i h8]⟩
        · rw [us_same]
          exact rg_nI (by omega) (by decide)
        · rw [uI_i (by decide), q4 13 (by decide), l2, us_ne (by decide), baA_off hg hp hq g8 (by decide)]
        · rw [uI_same, us_same]
        · rw [us_same, nx_nI (by omega)] at hi
          rw [uI_c (by omega), uI_c (by omega), uI_c (by omega), q2.1 _ (by omega), us_ne (by omega), us_ne (by omega), us_ne (by omega), baA_off hg hp hq g8 (by omega), baA_off hg hp hq g8 (by omega), baA_off hg hp hq g8 (by omega)]
          exact l4 i (by omega)
      · rw [hn hb, if_neg hb, if_neg hb, bnd_some]
        exact ⟨σ, rfl, hT, hL0, fr.rf, fun _ _ _ => rfl⟩
    refine fin _ (fun hb => ?_) (fun hb => ?_)
    · rw [if_pos hb.1]
      rcases hb.2 with w | w
      · have e9 : nI (bkC S % 10) = (9 : Int32) := by rw [w.1]; rfl
        rw [if_neg (fun z => z e9), gd_pos (show ix (bkG S) 8 by rw [b5.2]; exact ix_nI g8 (by decide)), e14 _ g8, if_neg (fun z => (jr_pos (hg.2.2.1 _ g8).2).mp z w.2.1), gd_pos (show ix (bkY S) 8 by rw [b4.2]; exact ix_nI y8 (by decide)), e14 _ y8, if_neg (fun z => (jr_99 (hg.2.2.1 _ y8).2).mp z w.2.2)]
      · have hq6 : bkC S % 10 < 6 := by rcases hq with z | z; exact absurd z w.1; exact z
        have e9' : ¬ nI (bkC S % 10) = (9 : Int32) := fun z => w.1 ((n_inj (b := 9) (by omega) (by decide)).mp z)
        rw [if_pos e9', gd_pos (ix_nI hq6 (by decide)), nx_nI (by omega), e9 _ hq6, if_neg (fun z => z w.2)]
    · by_cases hy : hsS S (bkC S / 10) = bkY S
      · rw [if_pos hy]
        by_cases h9 : bkC S % 10 = 9
        · have e9 : nI (bkC S % 10) = (9 : Int32) := by rw [h9]; rfl
          rw [if_neg (fun z => z e9), gd_pos (show ix (bkG S) 8 by rw [b5.2]; exact ix_nI g8 (by decide)), e14 _ g8]
          by_cases hj : 0 < jrN S (nx (bkG S))
          · rw [if_neg (fun z => (jr_pos (hg.2.2.1 _ g8).2).mp z hj), gd_pos (show ix (bkY S) 8 by rw [b4.2]; exact ix_nI y8 (by decide)), e14 _ y8, if_pos ((jr_99 (hg.2.2.1 _ y8).2).mpr (fun z => hb ⟨hy, Or.inl ⟨h9, hj, z⟩⟩))]
            rfl
          · rw [if_pos ((jr_pos (hg.2.2.1 _ g8).2).mpr hj)]
            rfl
        · have hq6 : bkC S % 10 < 6 := by rcases hq with z | z; exact absurd z h9; exact z
          have e9' : ¬ nI (bkC S % 10) = (9 : Int32) := fun z => h9 ((n_inj (b := 9) (by omega) (by decide)).mp z)
          rw [if_pos e9', gd_pos (ix_nI hq6 (by decide)), nx_nI (by omega), e9 _ hq6, if_pos (fun z => hb ⟨hy, Or.inr ⟨h9, z⟩⟩)]
          rfl
      · rw [if_neg hy]
theorem i_sub0 {x : Int32} {b : Nat} (h : rg x b) (hb : b < 1000) : x = 0 ↔ nx x = 0 := by
  have h1 := h.1
  have q := n_inj (a := nx x) (b := 0) (by omega) (by decide)
  rw [← h.2] at q
  exact q
theorem mq_back {σ : SG} (h : SOK (σ.1 149)) : ∃ σ', f_M_back σ = some (bkA (σ.1 149), σ') ∧ σ'.1 149 = bkN (σ.1 149) ∧ fr (fun c => c = 149) σ σ' := by
  have hg := h.1
  have hm := h.2.2.2.1
  have hm12 := hm.1
  unfold f_M_back bkA bkN
  by_cases h0 : nx (σ.1 149 4) = 0
  · rw [if_neg (fun z => z ((i_sub0 hm (by decide)).mpr h0)), if_pos h0, if_pos h0]
    exact ⟨σ, rfl, rfl, fr.rf⟩
  · obtain ⟨b1, b2, b3, b4, b5⟩ := bk_in h h0
    obtain ⟨hp, hq⟩ := num_6 hg b3
    have y8 : nx (bkY (σ.1 149)) < 8 := by have := b4.1; omega
    have g8 : nx (bkG (σ.1 149)) < 8 := by have := b5.1; omega
    have ew : (70 : Int32) + (3 : Int32) * σ.1 149 4 - 3 = nI (70 + 3 * (nx (σ.1 149 4) - 1)) := by
      rw [hm.2, show (70 : Int32) = nI 70 from rfl, show (3 : Int32) = nI 3 from rfl, n_mul, n_add, n_sub (by omega), nx_nI (by omega)]
      congr 1
      omega
    have e1 : nI (70 + 3 * (nx (σ.1 149 4) - 1)) + (1 : Int32) = nI (70 + 3 * (nx (σ.1 149 4) - 1) + 1) := nI_1 _
    have e2 : nI (70 + 3 * (nx (σ.1 149 4) - 1)) + (2 : Int32) = nI (70 + 3 * (nx (σ.1 149 4) - 1) + 2) := n_add _ 2
    rw [if_pos (fun z => h0 ((i_sub0 hm (by decide)).mp z)), if_neg h0, if_neg h0, ew, lx_eq, gd_pos (ix_nI (by omega) (by decide)), nx_nI (by omega), b2, lx_eq, lx_eq, lx_eq, n_rem (by omega), n_d10 (by omega), m_its1 hp, bnd_some, e1, gd_pos (ix_nI (by omega) (by decide)), nx_nI (by omega)]
    have em : σ.1 149 4 - 1 = nI (nx (σ.1 149 4) - 1) := by
      rw [hm.2, show (1 : Int32) = nI 1 from rfl, n_sub (by omega), nx_nI (by omega)]
    by_cases hy : hsS (σ.1 149) (bkC (σ.1 149) / 10) = bkY (σ.1 149)
    · rw [if_neg (fun z => z hy)]
      unfold f_M_back_66
      by_cases h9 : bkC (σ.1 149) % 10 = 9
      · have e9 : nI (bkC (σ.1 149) % 10) = (9 : Int32) := by rw [h9]; rfl
        have eg : (14 : Int32) + bkG (σ.1 149) = nI (14 + nx (bkG (σ.1 149))) := by rw [b5.2, nx_nI (by omega)]; exact n_add 14 _
        have ey : (14 : Int32) + hsS (σ.1 149) (bkC (σ.1 149) / 10) = nI (14 + nx (bkY (σ.1 149))) := by rw [hy, b4.2, nx_nI (by omega)]; exact n_add 14 _
        rw [if_neg (fun z => z e9), e2, gd_pos (ix_nI (by omega) (by decide)), nx_nI (by omega), lx_eq, if_neg (by decide), eg, gd_pos (ix_nI (by omega) (by decide)), nx_nI (by omega)]
        by_cases hj : 0 < jrN (σ.1 149) (nx (bkG (σ.1 149)))
        · rw [if_neg (fun z => by have := (i_sub0 (hg.2.2.1 _ g8).2 (by decide)).mp z; have hj : 0 < nx _ := hj; omega), m_its1 hp, bnd_some, ey, gd_pos (ix_nI (by omega) (by decide)), nx_nI (by omega)]
          have hJ : nx (σ.1 149 (14 + nx (bkY (σ.1 149)))) ≤ 99 := h.2.1 _ y8
          have hr := (hg.2.2.1 _ y8).2
          by_cases hk : jrN (σ.1 149) (nx (bkY (σ.1 149))) < 99
          · have hb : bkOK (σ.1 149) := ⟨hy, Or.inl ⟨h9, hj, hk⟩⟩
            have hk : nx (σ.1 149 (14 + nx (bkY (σ.1 149)))) < 99 := hk
            rw [if_pos (show ¬ σ.1 149 (14 + nx (bkY (σ.1 149))) = (99 : Int32) from fun w => by rw [w] at hk; exact absurd hk (by decide)), if_pos hb, if_pos hb]
            obtain ⟨σ1, q1, q2, q3⟩ := m_undoes (k := bkC (σ.1 149)) (th := nx (bkG (σ.1 149))) (x := 0) (by omega) hg b3 g8
            rw [show nI (nx (bkG (σ.1 149))) = bkG (σ.1 149) from b5.2.symm] at q1
            rw [q1, bnd_some, sx_eq]
            refine ⟨_, rfl, ?_, q3.tr fr149⟩
            rw [uI149, q2, baA_off hg hp hq g8 (by decide), em]
          · have hb : ¬ bkOK (σ.1 149) := fun z => by
              rcases z.2 with w | w
              · exact hk w.2.2
              · exact w.1 h9
            have hk : ¬ nx (σ.1 149 (14 + nx (bkY (σ.1 149)))) < 99 := hk
            have e99 : σ.1 149 (14 + nx (bkY (σ.1 149))) = (99 : Int32) := by
              rw [hr.2, show nx (σ.1 149 (14 + nx (bkY (σ.1 149)))) = 99 by omega]
              rfl
            rw [if_neg (fun z => z e99), if_neg hb, if_neg hb]
            exact ⟨σ, rfl, rfl, fr.rf⟩
        · have hb : ¬ bkOK (σ.1 149) := fun z => by
            rcases z.2 with w | w
            · exact hj w.2.1
            · exact w.1 h9
          have hj : ¬ 0 < nx (σ.1 149 (14 + nx (bkG (σ.1 149)))) := hj
          rw [if_pos ((i_sub0 (hg.2.2.1 _ g8).2 (by decide)).mpr (by omega)), if_neg hb, if_neg hb]
          exact ⟨σ, rfl, rfl, fr.rf⟩
      · have hq6 : bkC (σ.1 149) % 10 < 6 := by rcases hq with z | z; exact absurd z h9; exact z
        have e9' : ¬ nI (bkC (σ.1 149) % 10) = (9 : Int32) := fun z => h9 ((n_inj (b := 9) (by omega) (by decide)).mp z)
        rw [if_pos e9', if_neg (by decide), m_its1 hq6, bnd_some, e2, gd_pos (ix_nI (by omega) (by decide)), nx_nI (by omega)]
        by_cases hw : hsS (σ.1 149) (bkC (σ.1 149) % 10) = bkG (σ.1 149)
        · have hb : bkOK (σ.1 149) := ⟨hy, Or.inr ⟨h9, hw⟩⟩
          obtain ⟨σ1, q1, q2, q3⟩ := m_swaps (σ := σ) hp hq6
          rw [if_pos hw, if_pos hb, if_pos hb, q1, bnd_some, sx_eq]
          refine ⟨_, rfl, ?_, q3.tr fr149⟩
          rw [uI149, q2]
          unfold baA
          rw [if_neg h9]
          have e4 : swA (σ.1 149) (bkC (σ.1 149) / 10) (bkC (σ.1 149) % 10) 4 = σ.1 149 4 := by
            unfold swA
            rw [us_ne (by omega), us_ne (by omega)]
          rw [e4, em]
        · have hb : ¬ bkOK (σ.1 149) := fun z => by
            rcases z.2 with w | w
            · exact h9 w.1
            · exact hw w.2
          rw [if_neg hw, if_neg hb, if_neg hb]
          exact ⟨σ, rfl, rfl, fr.rf⟩
    · have hb : ¬ bkOK (σ.1 149) := fun z => hy z.1
      rw [if_pos hy, if_neg hb, if_neg hb]
      unfold f_M_back_66
      by_cases h9 : bkC (σ.1 149) % 10 = 9
      · have e9 : nI (bkC (σ.1 149) % 10) = (9 : Int32) := by rw [h9]; rfl
        rw [if_neg (fun z => z e9), e2, gd_pos (ix_nI (by omega) (by decide)), nx_nI (by omega), lx_eq, if_pos rfl]
        exact ⟨σ, rfl, rfl, fr.rf⟩
      · have e9' : ¬ nI (bkC (σ.1 149) % 10) = (9 : Int32) := fun z => h9 ((n_inj (b := 9) (by omega) (by decide)).mp z)
        rw [if_pos e9', if_pos rfl]
        exact ⟨σ, rfl, rfl, fr.rf⟩
