/-! person, change, remake, meets, worth, jar, fee, both sides -/
abbrev Lwr (c : Nat) : Prop := c = 20 ∨ (28 ≤ c ∧ c ≤ 34)
/-- what these leave as it is -/
def kpS (S S' : Nat → Int32) : Prop := ∀ i, i = 1 ∨ i = 3 ∨ i = 4 ∨ i = 5 ∨ 52 ≤ i → S' i = S i
theorem kpS.rf {S : Nat → Int32} : kpS S S := fun _ _ => rfl
theorem kpS.u1 {S S' : Nat → Int32} {i : Nat} {v : Int32} (h : kpS S S') (hi : i ≠ 1 ∧ i ≠ 3 ∧ i ≠ 4 ∧ i ≠ 5 ∧ i < 52) : kpS S (us S' i v) := fun j hj => by
  rw [us_ne (by omega)]
  exact h j hj
theorem kpS.sok {S S' : Nat → Int32} (k : kpS S S') (h : SOK S) (g : GD S') (hJ : J99 S') (hp : ppN S ≤ ppN S') : SOK S' := by
  obtain ⟨-, -, c, d, e⟩ := h
  refine ⟨g, hJ, fun i hi => ?_, by rw [k 4 (by omega)]; exact d, by rw [k 3 (by omega)]; exact e⟩
  rw [k 4 (by omega)] at hi
  rw [k _ (by omega), k _ (by omega), k _ (by omega)]
  obtain ⟨⟨x, x1, x2, x3⟩, y, z⟩ := c i hi
  refine ⟨⟨x, x1, x2, ?_⟩, y, z⟩
  have h1 := x3.1
  rcases x3.2 with w | w
  · exact ⟨by omega, Or.inl w⟩
  · exact ⟨by omega, Or.inr (by omega)⟩
theorem kpS.rm {S S' : Nat → Int32} {R : List RU} (k : kpS S S') (h : RMt S R) : RMt S' R := h.cong2 (k 1 (by omega)) (fun i hi => k i (by omega))
theorem kpS.lg {S S' : Nat → Int32} {t : Nat} {σ : SG} (k : kpS S S') (h : LGt t σ S) : LGt t σ S' := by
  obtain ⟨l1, l2, l3, l4⟩ := h
  refine ⟨by rw [k 4 (by omega)]; exact l1, by rw [k 5 (by omega)]; exact l2, by rw [k 4 (by omega)]; exact l3, fun i hi => ?_⟩
  rw [k 4 (by omega)] at hi
  rw [k _ (by omega), k _ (by omega), k _ (by omega)]
  exact l4 i hi
theorem kpS.rp {S S' : Nat → Int32} {t : Nat} {σ : SG} (k : kpS S S') (h : RPT t σ S) : RPT t σ S' := by
  obtain ⟨l1, l2, l3⟩ := h
  refine ⟨by rw [k 3 (by omega)]; exact l1, by rw [k 3 (by omega)]; exact l2, fun i hi => ?_⟩
  rw [k 3 (by omega)] at hi
  rw [k _ (by omega), k _ (by omega), k _ (by omega)]
  exact l3 i hi
/-- what the class's step leaves behind -/
abbrev CW (σ σ' : SG) (S' : Nat → Int32) : Prop := TWR 20 σ' S' nob ∧ fr Lwr σ σ' ∧ ∀ i, i ≠ 2 → i ≠ 8 → i ≠ 12 → σ'.1 20 i = σ.1 20 i
theorem CW.rf {σ : SG} {S : Nat → Int32} (h : TWR 20 σ S nob) : CW σ σ S := ⟨h, fr.rf, fun _ _ _ _ => rfl⟩
theorem m_becomes {i : Nat} {v : Int32} {σ : SG} (hi : i < 340) : f_M_becomes (nI i) v σ = some (σ.1 149 i, uI σ 149 i v) := by
  unfold f_M_becomes
  rw [gd_pos (ix_nI hi (by decide)), lx_eq, gd_pos (ix_nI hi (by decide)), nx_nI (by omega), sx_eq]
/-! worth, jar, fee -/
abbrev th8 (x : Int32) : Prop := 0 ≤ x ∧ x ≤ 7
theorem th_in {x : Int32} (h : th8 x) : ∃ s, s < 8 ∧ x = nI s := by
  obtain ⟨k, hk, e⟩ := n_sp (b := 7) (by decide) h.1 h.2
  exact ⟨k, by omega, e⟩
def wthA (S : Nat → Int32) (x v : Int32) : Int32 := if th8 x then (if 0 ≤ v ∧ v ≤ 99 then S (6 + nx x) else -1) else -1
def wthN (S : Nat → Int32) (x v : Int32) : Nat → Int32 := if th8 x then (if 0 ≤ v ∧ v ≤ 99 then us S (6 + nx x) v else S) else S
def jrtA (S : Nat → Int32) (x v : Int32) : Int32 := if th8 x then (if 0 ≤ v ∧ v ≤ 9 then S (14 + nx x) else -1) else -1
def jrtN (S : Nat → Int32) (x v : Int32) : Nat → Int32 := if th8 x then (if 0 ≤ v ∧ v ≤ 9 then us S (14 + nx x) v else S) else S
def fetA (S : Nat → Int32) (v : Int32) : Int32 := if 0 ≤ v ∧ v ≤ 50 then S 2 else -1
def fetN (S : Nat → Int32) (v : Int32) : Nat → Int32 := if 0 ≤ v ∧ v ≤ 50 then us S 2 v else S
theorem whS_ts {S : Nat → Int32} {i : Nat} {v : Int32} (h0 : i ≠ 0) (hi : i < 22 ∨ i % 5 = 2 ∨ i % 5 = 0 ∨ i % 5 = 1) (o : Nat → Bool) : whS (us S i v) o = whS S o := by
  funext p
  show (decide (p < nx (us S i v 0)) && (decide (us S i v (22 + 5 * p + 1) = us S i v (22 + 5 * p + 2)) && !o p)) = (decide (p < nx (S 0)) && (decide (S (22 + 5 * p + 1) = S (22 + 5 * p + 2)) && !o p))
  rw [us_ne (by omega), us_ne (by omega), us_ne (by omega)]
theorem TWR.u1 {t i : Nat} {σ σ' : SG} {S : Nat → Int32} {v : Int32} (h : TWR t σ S nob) (hv : TV t σ' (us S i v)) (e9 : σ'.1 t 9 = σ.1 t 9) (e8 : σ'.1 t 8 = σ.1 t 8) (h0 : i ≠ 0) (hi : i < 22 ∨ i % 5 = 2 ∨ i % 5 = 0 ∨ i % 5 = 1) : TWR t σ' (us S i v) nob := hv.tw (by rw [e9]; exact h.2.2.1) (by rw [e8, whS_ts h0 hi]; exact h.2.2.2.1)
theorem j99_us {S : Nat → Int32} {i : Nat} {v : Int32} (h : J99 S) (hi : i < 14 ∨ 22 ≤ i) : J99 (us S i v) := fun j hj => by
  show nx (us S i v (14 + j)) ≤ 99
  rw [us_ne (by omega)]
  exact h j hj
theorem pp_us {S : Nat → Int32} {i : Nat} {v : Int32} (hi : i ≠ 0) : ppN (us S i v) = ppN S := congrArg nx (us_ne (by omega))
theorem rg_tl {v : Int32} {b : Nat} (hb : b < 1000) (h : 0 ≤ v ∧ v ≤ nI b) : rg v b := rg_of (by omega) h.1 h.2
theorem cq_worth {σ : SG} {S : Nat → Int32} (hT : TWR 20 σ S nob) (x v : Int32) : ∃ σ', f_H_worth x v σ = some (wthA S x v, σ') ∧ CW σ σ' (wthN S x v) := by
  unfold f_H_worth wthA wthN
  rw [b_isThing, bnd_some]
  by_cases hx : th8 x
  · obtain ⟨s, hs, rfl⟩ := th_in hx
    rw [if_neg (bI_n0.mpr hx), if_pos hx, if_pos hx, b_isIn, bnd_some, nx_nI (by omega)]
    by_cases hv : 0 ≤ v ∧ v ≤ 99
    · rw [if_pos (bI_n0.mpr hv), if_pos hv, if_pos hv, gd_pos (ix_nI hs (by decide)), lx_eq, gd_pos (ix_nI hs (by decide)), sx_eq, show σ.1 33 s = S (6 + s) from (hT.2.2.2.2.2 s hs).1]
      refine ⟨_, rfl, hT.u1 (hT.tv.wr hs) (by rw [uI_c (by decide)]) (by rw [uI_c (by decide)]) (by omega) (by omega), fr.uI (by omega), fun i _ _ _ => uI_c (by decide)⟩
    · rw [if_neg (fun w => w (bI_0.mpr hv)), if_neg hv, if_neg hv]
      exact ⟨σ, rfl, CW.rf hT⟩
  · rw [if_pos (bI_0.mpr hx), if_neg hx, if_neg hx]
    exact ⟨σ, rfl, CW.rf hT⟩
theorem mq_worth (σ : SG) (x v : Int32) : ∃ σ', f_M_worth x v σ = some (wthA (σ.1 149) x v, σ') ∧ σ'.1 149 = wthN (σ.1 149) x v ∧ fr (fun c => c = 149) σ σ' := by
  unfold f_M_worth wthA wthN
  rw [m_isThing, bnd_some]
  by_cases hx : th8 x
  · obtain ⟨s, hs, rfl⟩ := th_in hx
    rw [if_neg (bI_n0.mpr hx), if_pos hx, if_pos hx, m_in32 (a := 0) (b := 99) (by decide) (by decide), bnd_some, nx_nI (by omega)]
    by_cases hv : 0 ≤ v ∧ v ≤ 99
    · rw [if_neg (bI_n0.mpr hv), if_pos hv, if_pos hv, show (6 : Int32) = nI 6 from rfl, n_add, m_becomes (by omega), bnd_some]
      exact ⟨_, rfl, uI149, fr149⟩
    · rw [if_pos (bI_0.mpr hv), if_neg hv, if_neg hv]
      exact ⟨σ, rfl, rfl, fr.rf⟩
  · rw [if_pos (bI_0.mpr hx), if_neg hx, if_neg hx]
    exact ⟨σ, rfl, rfl, fr.rf⟩
theorem ok_worth {S : Nat → Int32} {x v : Int32} (h : SOK S) : SOK (wthN S x v) ∧ kpS S (wthN S x v) := by
  unfold wthN
  by_cases hx : th8 x
  · obtain ⟨s, hs, rfl⟩ := th_in hx
    rw [if_pos hx, nx_nI (by omega)]
    by_cases hv : 0 ≤ v ∧ v ≤ 99
    · rw [if_pos hv]
      have k : kpS S (us S (6 + s) v) := kpS.rf.u1 (by omega)
      exact ⟨k.sok h (h.1.wr hs (rg_tl (b := 99) (by decide) hv)) (j99_us h.2.1 (by omega)) (by rw [pp_us (by omega)]; exact Nat.le_refl _), k⟩
    · rw [if_neg hv]; exact ⟨h, kpS.rf⟩
  · rw [if_neg hx]; exact ⟨h, kpS.rf⟩
theorem cq_jar {σ : SG} {S : Nat → Int32} (hT : TWR 20 σ S nob) (x v : Int32) : ∃ σ', f_H_jar x v σ = some (jrtA S x v, σ') ∧ CW σ σ' (jrtN S x v) := by
  unfold f_H_jar jrtA jrtN
  rw [b_isThing, bnd_some]
  by_cases hx : th8 x
  · obtain ⟨s, hs, rfl⟩ := th_in hx
    rw [if_neg (bI_n0.mpr hx), if_pos hx, if_pos hx, b_isIn, bnd_some, nx_nI (by omega)]
    by_cases hv : 0 ≤ v ∧ v ≤ 9
    · rw [if_pos (bI_n0.mpr hv), if_pos hv, if_pos hv, gd_pos (ix_nI hs (by decide)), lx_eq, gd_pos (ix_nI hs (by decide)), sx_eq, show σ.1 34 s = S (14 + s) from (hT.2.2.2.2.2 s hs).2]
      refine ⟨_, rfl, hT.u1 (hT.tv.jr hs) (by rw [uI_c (by decide)]) (by rw [uI_c (by decide)]) (by omega) (by omega), fr.uI (by omega), fun i _ _ _ => uI_c (by decide)⟩
    · rw [if_neg (fun w => w (bI_0.mpr hv)), if_neg hv, if_neg hv]
      exact ⟨σ, rfl, CW.rf hT⟩
  · rw [if_pos (bI_0.mpr hx), if_neg hx, if_neg hx]
    exact ⟨σ, rfl, CW.rf hT⟩
theorem mq_jar (σ : SG) (x v : Int32) : ∃ σ', f_M_jar x v σ = some (jrtA (σ.1 149) x v, σ') ∧ σ'.1 149 = jrtN (σ.1 149) x v ∧ fr (fun c => c = 149) σ σ' := by
  unfold f_M_jar jrtA jrtN
  rw [m_isThing, bnd_some]
  by_cases hx : th8 x
  · obtain ⟨s, hs, rfl⟩ := th_in hx
    rw [if_neg (bI_n0.mpr hx), if_pos hx, if_pos hx, m_in32 (a := 0) (b := 9) (by decide) (by decide), bnd_some, nx_nI (by omega)]
    by_cases hv : 0 ≤ v ∧ v ≤ 9
    · rw [if_neg (bI_n0.mpr hv), if_pos hv, if_pos hv, show (14 : Int32) = nI 14 from rfl, n_add, m_becomes (by omega), bnd_some]
      exact ⟨_, rfl, uI149, fr149⟩
    · rw [if_pos (bI_0.mpr hv), if_neg hv, if_neg hv]
      exact ⟨σ, rfl, rfl, fr.rf⟩
  · rw [if_pos (bI_0.mpr hx), if_neg hx, if_neg hx]
    exact ⟨σ, rfl, rfl, fr.rf⟩
theorem ok_jar {S : Nat → Int32} {x v : Int32} (h : SOK S) : SOK (jrtN S x v) ∧ kpS S (jrtN S x v) := by
  unfold jrtN
  by_cases hx : th8 x
  · obtain ⟨s, hs, rfl⟩ := th_in hx
    rw [if_pos hx, nx_nI (by omega)]
    by_cases hv : 0 ≤ v ∧ v ≤ 9
    · rw [if_pos hv]
      have k : kpS S (us S (14 + s) v) := kpS.rf.u1 (by omega)
      have r9 : rg v 9 := rg_tl (b := 9) (by decide) hv
      refine ⟨k.sok h (h.1.jr hs (r9.mono (by decide))) (fun j hj => ?_) (by rw [pp_us (by omega)]; exact Nat.le_refl _), k⟩
      show nx (us S (14 + s) v (14 + j)) ≤ 99
      by_cases e : j = s
      · rw [e, us_same]
        have := r9.1
        omega
      · rw [us_ne (by omega)]
        exact h.2.1 j hj
    · rw [if_neg hv]; exact ⟨h, kpS.rf⟩
  · rw [if_neg hx]; exact ⟨h, kpS.rf⟩
theorem cq_fee {σ : SG} {S : Nat → Int32} (hT : TWR 20 σ S nob) (v : Int32) : ∃ σ', f_H_fee v σ = some (fetA S v, σ') ∧ CW σ σ' (fetN S v) := by
  unfold f_H_fee fetA fetN
  rw [b_isIn, bnd_some]
  by_cases hv : 0 ≤ v ∧ v ≤ 50
  · rw [if_pos (bI_n0.mpr hv), if_pos hv, if_pos hv, lx_eq, sx_eq, hT.2.1]
    exact ⟨_, rfl, hT.u1 hT.tv.fee (by rw [uI_i (by decide)]) (by rw [uI_i (by decide)]) (by decide) (by decide), fr.uI (by omega), fun i _ _ h => uI_i h⟩
  · rw [if_neg (fun w => w (bI_0.mpr hv)), if_neg hv, if_neg hv]
    exact ⟨σ, rfl, CW.rf hT⟩
theorem mq_fee (σ : SG) (v : Int32) : ∃ σ', f_M_fee v σ = some (fetA (σ.1 149) v, σ') ∧ σ'.1 149 = fetN (σ.1 149) v ∧ fr (fun c => c = 149) σ σ' := by
  unfold f_M_fee fetA fetN
  rw [m_in32 (a := 0) (b := 50) (by decide) (by decide), bnd_some]
  by_cases hv : 0 ≤ v ∧ v ≤ 50
  · rw [if_neg (bI_n0.mpr hv), if_pos hv, if_pos hv, show (2 : Int32) = nI 2 from rfl, m_becomes (by decide), bnd_some]
    exact ⟨_, rfl, uI149, fr149⟩
  · rw [if_pos (bI_0.mpr hv), if_neg hv, if_neg hv]
    exact ⟨σ, rfl, rfl, fr.rf⟩
theorem ok_fee {S : Nat → Int32} {v : Int32} (h : SOK S) : SOK (fetN S v) ∧ kpS S (fetN S v) := by
  unfold fetN
  by_cases hv : 0 ≤ v ∧ v ≤ 50
  · rw [if_pos hv]
    have k : kpS S (us S 2 v) := kpS.rf.u1 (by decide)
    exact ⟨k.sok h (h.1.fee (rg_tl (b := 50) (by decide) hv)) (j99_us h.2.1 (by decide)) (by rw [pp_us (by decide)]; exact Nat.le_refl _), k⟩
  · rw [if_neg hv]; exact ⟨h, kpS.rf⟩
/-! remake -/
def rmkA (S : Nat → Int32) (x v : Int32) : Int32 := if isP S x then (if 1 ≤ v ∧ v ≤ 5 then S (22 + 5 * nx x) else -1) else -1
def rmkN (S : Nat → Int32) (x v : Int32) : Nat → Int32 := if isP S x then (if 1 ≤ v ∧ v ≤ 5 then us S (22 + 5 * nx x) v else S) else S
theorem kd_in {v : Int32} (h : 1 ≤ v ∧ v ≤ 5) : rg v 5 := rg_tl (b := 5) (by decide) ⟨by have := h.1; rw [i_le] at this ⊢; exact Int.le_trans (by decide) this, h.2⟩
theorem cq_remake {σ : SG} {S : Nat → Int32} (g : GD S) (hT : TWR 20 σ S nob) (x v : Int32) : ∃ σ', f_H_remake x v σ = some (rmkA S x v, σ') ∧ CW σ σ' (rmkN S x v) := by
  unfold f_H_remake rmkA rmkN
  rw [b_isPerson, hT.1, bnd_some]
  by_cases hx : isP S x
  · obtain ⟨p, hp, hpn, rfl⟩ := isP_in g.1 hx
    rw [if_neg (bI_n0.mpr hx), if_pos hx, if_pos hx, b_isIn, bnd_some, nx_nI (by omega)]
    by_cases hv : 1 ≤ v ∧ v ≤ 5
    · rw [if_pos (bI_n0.mpr hv), if_pos hv, if_pos hv, gd_pos (ix_nI hp (by decide)), lx_eq, gd_pos (ix_nI hp (by decide)), sx_eq, show σ.1 28 p = S (22 + 5 * p) from (hT.2.2.2.2.1 p hp).1]
      exact ⟨_, rfl, hT.u1 (hT.tv.p0 hp) (by rw [uI_c (by decide)]) (by rw [uI_c (by decide)]) (by omega) (by omega), fr.uI (by omega), fun i _ _ _ => uI_c (by decide)⟩
    · rw [if_neg (fun w => w (bI_0.mpr hv)), if_neg hv, if_neg hv]
      exact ⟨σ, rfl, CW.rf hT⟩
  · rw [if_pos (bI_0.mpr hx), if_neg hx, if_neg hx]
    exact ⟨σ, rfl, CW.rf hT⟩
theorem mq_remake {σ : SG} (g : GD (σ.1 149)) (x v : Int32) : ∃ σ', f_M_remake x v σ = some (rmkA (σ.1 149) x v, σ') ∧ σ'.1 149 = rmkN (σ.1 149) x v ∧ fr (fun c => c = 149) σ σ' := by
  unfold f_M_remake rmkA rmkN
  rw [m_isPerson g.1, bnd_some]
  by_cases hx : isP (σ.1 149) x
  · obtain ⟨p, hp, hpn, rfl⟩ := isP_in g.1 hx
    rw [if_neg (bI_n0.mpr hx), if_pos hx, if_pos hx, m_isKind, bnd_some, nx_nI (by omega)]
    by_cases hv : 1 ≤ v ∧ v ≤ 5
    · rw [if_neg (bI_n0.mpr hv), if_pos hv, if_pos hv, show (0 : Int32) = nI 0 from rfl, m_at, bnd_some, m_becomes (by omega), bnd_some]
      exact ⟨_, rfl, uI149, fr149⟩
    · rw [if_pos (bI_0.mpr hv), if_neg hv, if_neg hv]
      exact ⟨σ, rfl, rfl, fr.rf⟩
  · rw [if_pos (bI_0.mpr hx), if_neg hx, if_neg hx]
    exact ⟨σ, rfl, rfl, fr.rf⟩
theorem ok_remake {S : Nat → Int32} {x v : Int32} (h : SOK S) : SOK (rmkN S x v) ∧ kpS S (rmkN S x v) := by
  unfold rmkN
  by_cases hx : isP S x
  · obtain ⟨p, hp, hpn, rfl⟩ := isP_in h.1.1 hx
    rw [if_pos hx, nx_nI (by omega)]
    by_cases hv : 1 ≤ v ∧ v ≤ 5
    · rw [if_pos hv]
      have k : kpS S (us S (22 + 5 * p) v) := kpS.rf.u1 (by omega)
      exact ⟨k.sok h (h.1.p0 hp (kd_in hv)) (j99_us h.2.1 (by omega)) (by rw [pp_us (by omega)]; exact Nat.le_refl _), k⟩
    · rw [if_neg hv]; exact ⟨h, kpS.rf⟩
  · rw [if_neg hx]; exact ⟨h, kpS.rf⟩
/-! change -/
abbrev okPt (y v : Int32) : Prop := ((y = 1 ∨ y = 2) ∧ 0 ≤ v ∧ v ≤ 7) ∨ (y = 3 ∧ 0 ≤ v ∧ v ≤ 999)
def chgA (S : Nat → Int32) (x y v : Int32) : Int32 := if isP S x then (if okPt y v then S (22 + 5 * nx x + nx y) else -1) else -1
def chgN (S : Nat → Int32) (x y v : Int32) : Nat → Int32 := if isP S x then (if okPt y v then us S (22 + 5 * nx x + nx y) v else S) else S
theorem c_chg {p w : Nat} {σ : SG} {S : Nat → Int32} {v : Int32} (g : GD S) (hT : TWR 20 σ S nob) (hp : p < 6) (hpn : p < ppN S) (hw : w = 1 ∨ w = 2 ∨ w = 3) : ∃ σ', f_To_mark 20 (nI p) (uI σ (28 + w) p v) = some ((), σ') ∧ CW σ σ' (us S (22 + 5 * p + w) v) := by
  have tv : TV 20 (uI σ (28 + w) p v) (us S (22 + 5 * p + w) v) := by
    rcases hw with e | e | e
    · subst e; exact hT.tv.p1 (t := 20) hp
    · subst e; exact hT.tv.p2 (t := 20) hp
    · subst e; exact hT.tv.p3 (t := 20) hp
  obtain ⟨σ', q1, q2, q3, q4, q5⟩ := b_mark (S := S) hp hpn tv (by rw [uI_c (by omega)]; exact hT.2.2.2.1) (us_ne (by omega)) (fun q hq => ⟨us_ne (by omega), us_ne (by omega)⟩)
  exact ⟨σ', q1, q3.tw (by rw [q5 9 (by decide), uI_c (by omega)]; exact hT.2.2.1) q4, (fr.uI (by omega)).tr (q2.mono (fun c hc => Or.inl hc)), fun i h2 h8 h12 => by rw [q5 i h8, uI_c (by omega)]⟩
theorem cq_change {σ : SG} {S : Nat → Int32} (g : GD S) (hT : TWR 20 σ S nob) (x y v : Int32) : ∃ σ', f_H_change x y v σ = some (chgA S x y v, σ') ∧ CW σ σ' (chgN S x y v) := by
  unfold f_H_change chgA chgN
  rw [b_isPerson, hT.1, bnd_some]
  by_cases hx : isP S x
  · obtain ⟨p, hp, hpn, rfl⟩ := isP_in g.1 hx
    have ip := ix_nI hp (show (6 : Nat) < 2147483648 by decide)
    have e29 : σ.1 29 p = S (22 + 5 * p + 1) := (hT.2.2.2.2.1 p hp).2.1
    have e30 : σ.1 30 p = S (22 + 5 * p + 2) := (hT.2.2.2.2.1 p hp).2.2.1
    have e31 : σ.1 31 p = S (22 + 5 * p + 3) := (hT.2.2.2.2.1 p hp).2.2.2.1
    rw [if_neg (bI_n0.mpr hx), if_pos hx, if_pos hx, b_isIn, bnd_some, nx_nI (by omega)]
    by_cases hy : 1 ≤ y ∧ y ≤ 3
    · rw [if_neg (bI_n0.mpr hy)]
      obtain ⟨w, hw3, rfl⟩ := n_sp (x := y) (b := 3) (by decide) (by have := hy.1; rw [i_le] at this ⊢; exact Int.le_trans (by decide) this) hy.2
      have hw1 : 1 ≤ w := by
        cases w with
        | zero => exact absurd hy.1 (by decide)
        | succ w => omega
      by_cases y3 : nI w = 3
      · have w3 : w = 3 := (n_inj (b := 3) (by omega) (by decide)).mp y3
        subst w3
        rw [if_neg (fun z => z y3)]
        unfold f_H_change_35
        rw [b_isIn, bnd_some]
        by_cases hv : 0 ≤ v ∧ v ≤ 999
        · have hok : okPt (nI 3) v := Or.inr ⟨rfl, hv⟩
          obtain ⟨σ', q1, q2⟩ := c_chg (v := v) g hT hp hpn (w := 3) (by omega)
          rw [if_pos (bI_n0.mpr hv), if_pos (by decide), if_pos (by decide), gd_pos ip, lx_eq, gd_pos ip, nx_nI (k := p) (by omega), sx_eq, q1, bnd_some, e31, if_pos hok, if_pos hok]
          exact ⟨σ', rfl, q2⟩
        · have hok : ¬ okPt (nI 3) v := fun z => by
            rcases z with z | z
            · rcases z.1 with w | w
              · exact absurd w (by decide)
              · exact absurd w (by decide)
            · exact hv z.2
          rw [if_neg (fun w => w (bI_0.mpr hv)), if_neg hok, if_neg hok]
          exact ⟨σ, rfl, CW.rf hT⟩
      · rw [if_pos y3]
        unfold f_H_change_35
        rw [b_isIn, bnd_some]
        have hw12 : w = 1 ∨ w = 2 := by
          have : w ≠ 3 := fun e => y3 (by rw [e]; rfl)
          omega
        by_cases hv : 0 ≤ v ∧ v ≤ 7
        · rw [if_pos (bI_n0.mpr hv)]
          rcases hw12 with e | e
          · subst e
            have hok : okPt (nI 1) v := Or.inl ⟨Or.inl rfl, hv⟩
            obtain ⟨σ', q1, q2⟩ := c_chg (v := v) g hT hp hpn (w := 1) (by omega)
            rw [if_neg (show ¬ ¬ nI 1 = (1 : Int32) from fun z => z rfl), gd_pos ip, lx_eq, gd_pos ip, nx_nI (k := p) (by omega), sx_eq, q1, bnd_some, e29, if_pos hok, if_pos hok]
            exact ⟨σ', rfl, q2⟩
          · subst e
            have hok : okPt (nI 2) v := Or.inl ⟨Or.inr rfl, hv⟩
            obtain ⟨σ', q1, q2⟩ := c_chg (v := v) g hT hp hpn (w := 2) (by omega)
            rw [if_pos (by decide), if_neg (show ¬ ¬ nI 2 = (2 : Int32) from fun z => z rfl), gd_pos ip, lx_eq, gd_pos ip, nx_nI (k := p) (by omega), sx_eq, q1, bnd_some, e30, if_pos hok, if_pos hok]
            exact ⟨σ', rfl, q2⟩
        · have hok : ¬ okPt (nI w) v := fun z => by
            rcases z with z | z
            · exact hv z.2
            · exact y3 z.1
          rw [if_neg (fun w => w (bI_0.mpr hv)), if_neg hok, if_neg hok]
          exact ⟨σ, rfl, CW.rf hT⟩
    · have hok : ¬ okPt y v := fun z => hy (by
        rcases z with z | z
        · rcases z.1 with w | w
          · rw [w]; decide
          · rw [w]; decide
        · rw [z.1]; decide)
      rw [if_pos (bI_0.mpr hy), if_neg hok, if_neg hok]
      exact ⟨σ, rfl, CW.rf hT⟩
  · rw [if_pos (bI_0.mpr hx), if_neg hx, if_neg hx]
    exact ⟨σ, rfl, CW.rf hT⟩
theorem m_isPart (y v : Int32) (σ : SG) : f_M_isPart y v σ = some (bI (okPt y v), σ) := by
  have p10 : (y = 1 ∨ y = 2) → f_M_isPart_10 y v σ = some (bI (okPt y v), σ) := fun hy => by
    have y3 : ¬ y = 3 := fun e => by rcases hy with w | w <;> rw [w] at e <;> exact absurd e (by decide)
    unfold f_M_isPart_10
    rw [m_isThing, bnd_some]
    by_cases hv : 0 ≤ v ∧ v ≤ 7
    · rw [if_pos (bI_n0.mpr hv), bI_pos (Or.inl ⟨hy, hv⟩)]
    · rw [if_neg (fun w => w (bI_0.mpr hv)), if_pos y3, bI_neg]
      rintro (z | z)
      · exact hv z.2
      · exact y3 z.1
  unfold f_M_isPart
  by_cases y1 : y = 1
  · rw [if_pos y1]
    exact p10 (Or.inl y1)
  · rw [if_neg y1]
    by_cases y2 : y = 2
    · rw [if_neg (fun z => z y2)]
      exact p10 (Or.inr y2)
    · rw [if_pos y2]
      by_cases y3 : y = 3
      · rw [if_neg (fun z => z y3), m_in32 (a := 0) (b := 999) (by decide) (by decide), bnd_some]
        by_cases hv : 0 ≤ v ∧ v ≤ 999
        · rw [if_neg (bI_n0.mpr hv), bI_pos (Or.inr ⟨y3, hv⟩)]
        · rw [if_pos (bI_0.mpr hv), bI_neg]
          rintro (z | z)
          · rcases z.1 with w | w
            · exact y1 w
            · exact y2 w
          · exact hv z.2
      · rw [if_pos y3, bI_neg]
        rintro (z | z)
        · rcases z.1 with w | w
          · exact y1 w
          · exact y2 w
        · exact y3 z.1
theorem okPt_in {y v : Int32} (h : okPt y v) : ∃ w, (w = 1 ∨ w = 2 ∨ w = 3) ∧ y = nI w := by
  rcases h with z | z
  · rcases z.1 with w | w
    · exact ⟨1, Or.inl rfl, w⟩
    · exact ⟨2, Or.inr (Or.inl rfl), w⟩
  · exact ⟨3, Or.inr (Or.inr rfl), z.1⟩
theorem mq_change {σ : SG} (g : GD (σ.1 149)) (x y v : Int32) : ∃ σ', f_M_change x y v σ = some (chgA (σ.1 149) x y v, σ') ∧ σ'.1 149 = chgN (σ.1 149) x y v ∧ fr (fun c => c = 149) σ σ' := by
  unfold f_M_change chgA chgN
  rw [m_isPerson g.1, bnd_some]
  by_cases hx : isP (σ.1 149) x
  · obtain ⟨p, hp, hpn, rfl⟩ := isP_in g.1 hx
    rw [if_neg (bI_n0.mpr hx), if_pos hx, if_pos hx, m_isPart, bnd_some, nx_nI (k := p) (by omega)]
    by_cases hv : okPt y v
    · obtain ⟨w, hw, rfl⟩ := okPt_in hv
      rw [if_neg (bI_n0.mpr hv), if_pos hv, if_pos hv, m_at, bnd_some, m_becomes (by omega), bnd_some, nx_nI (by omega)]
      exact ⟨_, rfl, uI149, fr149⟩
    · rw [if_pos (bI_0.mpr hv), if_neg hv, if_neg hv]
      exact ⟨σ, rfl, rfl, fr.rf⟩
  · rw [if_pos (bI_0.mpr hx), if_neg hx, if_neg hx]
    exact ⟨σ, rfl, rfl, fr.rf⟩
theorem ok_change {S : Nat → Int32} {x y v : Int32} (h : SOK S) : SOK (chgN S x y v) ∧ kpS S (chgN S x y v) := by
  unfold chgN
  by_cases hx : isP S x
  · obtain ⟨p, hp, hpn, rfl⟩ := isP_in h.1.1 hx
    rw [if_pos hx, nx_nI (k := p) (by omega)]
    by_cases hv : okPt y v
    · obtain ⟨w, hw, rfl⟩ := okPt_in hv
      rw [if_pos hv, nx_nI (by omega)]
      have k : kpS S (us S (22 + 5 * p + w) v) := kpS.rf.u1 (by omega)
      have g2 : GD (us S (22 + 5 * p + w) v) := by
        rcases hv with z | z
        · have r7 : rg v 7 := rg_tl (b := 7) (by decide) z.2
          rcases z.1 with e | e
          · have e : w = 1 := (n_inj (b := 1) (by omega) (by decide)).mp e
            subst e
            exact h.1.p1 hp r7
          · have e : w = 2 := (n_inj (b := 2) (by omega) (by decide)).mp e
            subst e
            exact h.1.p2 hp r7
        · have e : w = 3 := (n_inj (b := 3) (by omega) (by decide)).mp z.1
          subst e
          exact h.1.p3 hp (rg_tl (b := 999) (by decide) z.2)
      exact ⟨k.sok h g2 (j99_us h.2.1 (by omega)) (by rw [pp_us (by omega)]; exact Nat.le_refl _), k⟩
    · rw [if_neg hv]; exact ⟨h, kpS.rf⟩
  · rw [if_neg hx]; exact ⟨h, kpS.rf⟩
