/-! one place of the reference's row written -/
def us (S : Nat → Int32) (i : Nat) (v : Int32) : Nat → Int32 := fun j => if j = i then v else S j
theorem us_same {S : Nat → Int32} {i : Nat} {v : Int32} : us S i v i = v := if_pos rfl
theorem us_ne {S : Nat → Int32} {i j : Nat} {v : Int32} (h : j ≠ i) : us S i v j = S j := if_neg h
theorem us_self {S : Nat → Int32} {i : Nat} : us S i (S i) = S := by
  funext j
  by_cases h : j = i
  · rw [h, us_same]
  · rw [us_ne h]
theorem us_us {S : Nat → Int32} {i : Nat} {v w : Int32} : us (us S i v) i w = us S i w := by
  funext j
  by_cases h : j = i
  · rw [h, us_same, us_same]
  · rw [us_ne h, us_ne h, us_ne h]
theorem us_comm {S : Nat → Int32} {i j : Nat} {v w : Int32} (h : i ≠ j) : us (us S i v) j w = us (us S j w) i v := by
  funext k
  by_cases h1 : k = j
  · rw [h1, us_same, us_ne (fun z => h z.symm), us_same]
  · by_cases h2 : k = i
    · rw [h2, us_ne h, us_same, us_same]
    · rw [us_ne h1, us_ne h2, us_ne h2, us_ne h1]
theorem uI149 {σ : SG} {i : Nat} {v : Int32} : (uI σ 149 i v).1 149 = us (σ.1 149) i v := by
  funext j
  by_cases h : j = i
  · rw [h, us_same, uI_same]
  · rw [us_ne h, uI_i h]
theorem uIc {σ : SG} {c c' i : Nat} {v : Int32} (h : c' ≠ c) : (uI σ c i v).1 c' = σ.1 c' := funext fun _ => uI_c h
/-- what a town of the class holds, but who is whole and who is out -/
def TV (t : Nat) (σ : SG) (S : Nat → Int32) : Prop := σ.1 t 2 = S 0 ∧ σ.1 t 12 = S 2 ∧
  (∀ p, p < 6 → σ.1 (t + 8) p = S (22 + 5 * p) ∧ σ.1 (t + 9) p = S (22 + 5 * p + 1) ∧ σ.1 (t + 10) p = S (22 + 5 * p + 2) ∧ σ.1 (t + 11) p = S (22 + 5 * p + 3) ∧ σ.1 (t + 12) p = S (22 + 5 * p + 4)) ∧
  ∀ j, j < 8 → σ.1 (t + 13) j = S (6 + j) ∧ σ.1 (t + 14) j = S (14 + j)
theorem TWR.tv {t : Nat} {σ : SG} {S : Nat → Int32} {o : Nat → Bool} (h : TWR t σ S o) : TV t σ S := ⟨h.1, h.2.1, h.2.2.2.2.1, h.2.2.2.2.2⟩
theorem TV.tw {t : Nat} {σ : SG} {S : Nat → Int32} {o : Nat → Bool} (h : TV t σ S) (h9 : σ.1 t 9 = nI (wN o)) (h8 : σ.1 t 8 = nI (wN (whS S fun _ => false))) : TWR t σ S o := ⟨h.1, h.2.1, h9, h8, h.2.2.1, h.2.2.2⟩
section TVS
variable {t p : Nat} {σ : SG} {S : Nat → Int32} {v : Int32}
theorem TV.p0 (h : TV t σ S) (hp : p < 6) : TV t (uI σ (t + 8) p v) (us S (22 + 5 * p) v) := by
  obtain ⟨a, b, c, d⟩ := h
  refine ⟨by rw [uI_c (by omega), us_ne (by omega)]; exact a, by rw [uI_c (by omega), us_ne (by omega)]; exact b, fun q hq => ⟨?_, ?_, ?_, ?_, ?_⟩, fun j hj => ⟨by rw [uI_c (by omega), us_ne (by omega)]; exact (d j hj).1, by rw [uI_c (by omega), us_ne (by omega)]; exact (d j hj).2⟩⟩
  · by_cases e : q = p
    · subst e; rw [uI_same, us_same]
    · rw [uI_i e, us_ne (by omega)]; exact (c q hq).1
  · rw [uI_c (by omega), us_ne (by omega)]; exact (c q hq).2.1
  · rw [uI_c (by omega), us_ne (by omega)]; exact (c q hq).2.2.1
  · rw [uI_c (by omega), us_ne (by omega)]; exact (c q hq).2.2.2.1
  · rw [uI_c (by omega), us_ne (by omega)]; exact (c q hq).2.2.2.2
theorem TV.p1 (h : TV t σ S) (hp : p < 6) : TV t (uI σ (t + 9) p v) (us S (22 + 5 * p + 1) v) := by
  obtain ⟨a, b, c, d⟩ := h
  refine ⟨by rw [uI_c (by omega), us_ne (by omega)]; exact a, by rw [uI_c (by omega), us_ne (by omega)]; exact b, fun q hq => ⟨?_, ?_, ?_, ?_, ?_⟩, fun j hj => ⟨by rw [uI_c (by omega), us_ne (by omega)]; exact (d j hj).1, by rw [uI_c (by omega), us_ne (by omega)]; exact (d j hj).2⟩⟩
  · rw [uI_c (by omega), us_ne (by omega)]; exact (c q hq).1
  · by_cases e : q = p
    · subst e; rw [uI_same, us_same]
    · rw [uI_i e, us_ne (by omega)]; exact (c q hq).2.1
  · rw [uI_c (by omega), us_ne (by omega)]; exact (c q hq).2.2.1
  · rw [uI_c (by omega), us_ne (by omega)]; exact (c q hq).2.2.2.1
  · rw [uI_c (by omega), us_ne (by omega)]; exact (c q hq).2.2.2.2
theorem TV.p2 (h : TV t σ S) (hp : p < 6) : TV t (uI σ (t + 10) p v) (us S (22 + 5 * p + 2) v) := by
  obtain ⟨a, b, c, d⟩ := h
  refine ⟨by rw [uI_c (by omega), us_ne (by omega)]; exact a, by rw [uI_c (by omega), us_ne (by omega)]; exact b, fun q hq => ⟨?_, ?_, ?_, ?_, ?_⟩, fun j hj => ⟨by rw [uI_c (by omega), us_ne (by omega)]; exact (d j hj).1, by rw [uI_c (by omega), us_ne (by omega)]; exact (d j hj).2⟩⟩
  · rw [uI_c (by omega), us_ne (by omega)]; exact (c q hq).1
  · rw [uI_c (by omega), us_ne (by omega)]; exact (c q hq).2.1
  · by_cases e : q = p
    · subst e; rw [uI_same, us_same]
    · rw [uI_i e, us_ne (by omega)]; exact (c q hq).2.2.1
  · rw [uI_c (by omega), us_ne (by omega)]; exact (c q hq).2.2.2.1
  · rw [uI_c (by omega), us_ne (by omega)]; exact (c q hq).2.2.2.2
theorem TV.p3 (h : TV t σ S) (hp : p < 6) : TV t (uI σ (t + 11) p v) (us S (22 + 5 * p + 3) v) := by
  obtain ⟨a, b, c, d⟩ := h
  refine ⟨by rw [uI_c (by omega), us_ne (by omega)]; exact a, by rw [uI_c (by omega), us_ne (by omega)]; exact b, fun q hq => ⟨?_, ?_, ?_, ?_, ?_⟩, fun j hj => ⟨by rw [uI_c (by omega), us_ne (by omega)]; exact (d j hj).1, by rw [uI_c (by omega), us_ne (by omega)]; exact (d j hj).2⟩⟩
  · rw [uI_c (by omega), us_ne (by omega)]; exact (c q hq).1
  · rw [uI_c (by omega), us_ne (by omega)]; exact (c q hq).2.1
  · rw [uI_c (by omega), us_ne (by omega)]; exact (c q hq).2.2.1
  · by_cases e : q = p
    · subst e; rw [uI_same, us_same]
    · rw [uI_i e, us_ne (by omega)]; exact (c q hq).2.2.2.1
  · rw [uI_c (by omega), us_ne (by omega)]; exact (c q hq).2.2.2.2
theorem TV.p4 (h : TV t σ S) (hp : p < 6) : TV t (uI σ (t + 12) p v) (us S (22 + 5 * p + 4) v) := by
  obtain ⟨a, b, c, d⟩ := h
  refine ⟨by rw [uI_c (by omega), us_ne (by omega)]; exact a, by rw [uI_c (by omega), us_ne (by omega)]; exact b, fun q hq => ⟨?_, ?_, ?_, ?_, ?_⟩, fun j hj => ⟨by rw [uI_c (by omega), us_ne (by omega)]; exact (d j hj).1, by rw [uI_c (by omega), us_ne (by omega)]; exact (d j hj).2⟩⟩
  · rw [uI_c (by omega), us_ne (by omega)]; exact (c q hq).1
  · rw [uI_c (by omega), us_ne (by omega)]; exact (c q hq).2.1
  · rw [uI_c (by omega), us_ne (by omega)]; exact (c q hq).2.2.1
  · rw [uI_c (by omega), us_ne (by omega)]; exact (c q hq).2.2.2.1
  · by_cases e : q = p
    · subst e; rw [uI_same, us_same]
    · rw [uI_i e, us_ne (by omega)]; exact (c q hq).2.2.2.2
theorem TV.wr (h : TV t σ S) (hp : p < 8) : TV t (uI σ (t + 13) p v) (us S (6 + p) v) := by
  obtain ⟨a, b, c, d⟩ := h
  refine ⟨by rw [uI_c (by omega), us_ne (by omega)]; exact a, by rw [uI_c (by omega), us_ne (by omega)]; exact b, fun q hq => ⟨?_, ?_, ?_, ?_, ?_⟩, fun j hj => ⟨?_, ?_⟩⟩
  · rw [uI_c (by omega), us_ne (by omega)]; exact (c q hq).1
  · rw [uI_c (by omega), us_ne (by omega)]; exact (c q hq).2.1
  · rw [uI_c (by omega), us_ne (by omega)]; exact (c q hq).2.2.1
  · rw [uI_c (by omega), us_ne (by omega)]; exact (c q hq).2.2.2.1
  · rw [uI_c (by omega), us_ne (by omega)]; exact (c q hq).2.2.2.2
  · by_cases e : j = p
    · subst e; rw [uI_same, us_same]
    · rw [uI_i e, us_ne (by omega)]; exact (d j hj).1
  · rw [uI_c (by omega), us_ne (by omega)]; exact (d j hj).2
theorem TV.jr (h : TV t σ S) (hp : p < 8) : TV t (uI σ (t + 14) p v) (us S (14 + p) v) := by
  obtain ⟨a, b, c, d⟩ := h
  refine ⟨by rw [uI_c (by omega), us_ne (by omega)]; exact a, by rw [uI_c (by omega), us_ne (by omega)]; exact b, fun q hq => ⟨?_, ?_, ?_, ?_, ?_⟩, fun j hj => ⟨?_, ?_⟩⟩
  · rw [uI_c (by omega), us_ne (by omega)]; exact (c q hq).1
  · rw [uI_c (by omega), us_ne (by omega)]; exact (c q hq).2.1
  · rw [uI_c (by omega), us_ne (by omega)]; exact (c q hq).2.2.1
  · rw [uI_c (by omega), us_ne (by omega)]; exact (c q hq).2.2.2.1
  · rw [uI_c (by omega), us_ne (by omega)]; exact (c q hq).2.2.2.2
  · rw [uI_c (by omega), us_ne (by omega)]; exact (d j hj).1
  · by_cases e : j = p
    · subst e; rw [uI_same, us_same]
    · rw [uI_i e, us_ne (by omega)]; exact (d j hj).2
theorem TV.ppl (h : TV t σ S) : TV t (uI σ t 2 v) (us S 0 v) := by
  obtain ⟨a, b, c, d⟩ := h
  refine ⟨?_, ?_, fun q hq => ⟨?_, ?_, ?_, ?_, ?_⟩, fun j hj => ⟨?_, ?_⟩⟩
  · rw [uI_same, us_same]
  · rw [uI_i (by omega), us_ne (by omega)]; exact b
  · rw [uI_c (by omega), us_ne (by omega)]; exact (c q hq).1
  · rw [uI_c (by omega), us_ne (by omega)]; exact (c q hq).2.1
  · rw [uI_c (by omega), us_ne (by omega)]; exact (c q hq).2.2.1
  · rw [uI_c (by omega), us_ne (by omega)]; exact (c q hq).2.2.2.1
  · rw [uI_c (by omega), us_ne (by omega)]; exact (c q hq).2.2.2.2
  · rw [uI_c (by omega), us_ne (by omega)]; exact (d j hj).1
  · rw [uI_c (by omega), us_ne (by omega)]; exact (d j hj).2
theorem TV.fee (h : TV t σ S) : TV t (uI σ t 12 v) (us S 2 v) := by
  obtain ⟨a, b, c, d⟩ := h
  refine ⟨?_, ?_, fun q hq => ⟨?_, ?_, ?_, ?_, ?_⟩, fun j hj => ⟨?_, ?_⟩⟩
  · rw [uI_i (by omega), us_ne (by omega)]; exact a
  · rw [uI_same, us_same]
  · rw [uI_c (by omega), us_ne (by omega)]; exact (c q hq).1
  · rw [uI_c (by omega), us_ne (by omega)]; exact (c q hq).2.1
  · rw [uI_c (by omega), us_ne (by omega)]; exact (c q hq).2.2.1
  · rw [uI_c (by omega), us_ne (by omega)]; exact (c q hq).2.2.2.1
  · rw [uI_c (by omega), us_ne (by omega)]; exact (c q hq).2.2.2.2
  · rw [uI_c (by omega), us_ne (by omega)]; exact (d j hj).1
  · rw [uI_c (by omega), us_ne (by omega)]; exact (d j hj).2
/-- other slots of the town's own cell don't matter -/
theorem TV.own {i : Nat} (h : TV t σ S) (h2 : i ≠ 2) (h12 : i ≠ 12) : TV t (uI σ t i v) S := by
  obtain ⟨a, b, c, d⟩ := h
  refine ⟨by rw [uI_i (fun z => h2 z.symm)]; exact a, by rw [uI_i (fun z => h12 z.symm)]; exact b, fun q hq => ⟨?_, ?_, ?_, ?_, ?_⟩, fun j hj => ⟨?_, ?_⟩⟩
  · rw [uI_c (by omega)]; exact (c q hq).1
  · rw [uI_c (by omega)]; exact (c q hq).2.1
  · rw [uI_c (by omega)]; exact (c q hq).2.2.1
  · rw [uI_c (by omega)]; exact (c q hq).2.2.2.1
  · rw [uI_c (by omega)]; exact (c q hq).2.2.2.2
  · rw [uI_c (by omega)]; exact (d j hj).1
  · rw [uI_c (by omega)]; exact (d j hj).2
/-- cells that are none of these -/
theorem TV.fr {σ' : SG} {L : Nat → Prop} (h : TV t σ S) (hf : fr L σ σ') (h0 : ¬ L t) (hl : ∀ i, 8 ≤ i → i ≤ 14 → ¬ L (t + i)) : TV t σ' S := by
  obtain ⟨a, b, c, d⟩ := h
  refine ⟨by rw [hf.at h0]; exact a, by rw [hf.at h0]; exact b, fun q hq => ⟨?_, ?_, ?_, ?_, ?_⟩, fun j hj => ⟨?_, ?_⟩⟩
  · rw [hf.at (hl 8 (by decide) (by decide))]; exact (c q hq).1
  · rw [hf.at (hl 9 (by decide) (by decide))]; exact (c q hq).2.1
  · rw [hf.at (hl 10 (by decide) (by decide))]; exact (c q hq).2.2.1
  · rw [hf.at (hl 11 (by decide) (by decide))]; exact (c q hq).2.2.2.1
  · rw [hf.at (hl 12 (by decide) (by decide))]; exact (c q hq).2.2.2.2
  · rw [hf.at (hl 13 (by decide) (by decide))]; exact (d j hj).1
  · rw [hf.at (hl 14 (by decide) (by decide))]; exact (d j hj).2
end TVS
/-- who is whole, where one person's things are written anew -/
theorem whS_set {S S' : Nat → Int32} {p : Nat} (h0 : S' 0 = S 0) (hq : ∀ q, q ≠ p → hsS S' q = hsS S q ∧ ndS S' q = ndS S q) : whS S' (fun _ => false) = bS (whS S fun _ => false) p (decide (p < ppN S) && decide (hsS S' p = ndS S' p)) := by
  funext q
  unfold whS bel bS
  by_cases e : q = p
  · subst e
    rw [if_pos rfl]
    simp [ppN, h0]
  · rw [if_neg e]
    simp only [ppN, h0, (hq q e).1, (hq q e).2]
theorem b_mark {t p : Nat} {σ : SG} {S S' : Nat → Int32} (hp : p < 6) (hpn : p < ppN S) (h : TV t σ S') (h8 : σ.1 t 8 = nI (wN (whS S fun _ => false))) (h0 : S' 0 = S 0) (hq : ∀ q, q ≠ p → hsS S' q = hsS S q ∧ ndS S' q = ndS S q) : ∃ σ', f_To_mark t (nI p) σ = some ((), σ') ∧ fr (fun c => c = t) σ σ' ∧ TV t σ' S' ∧ σ'.1 t 8 = nI (wN (whS S' fun _ => false)) ∧ (∀ i, i ≠ 8 → σ'.1 t i = σ.1 t i) := by
  have i6 : ix (nI p) 6 := ix_nI hp (by decide)
  have np : nx (nI p) = p := nx_nI (by omega)
  obtain ⟨k1, k2, k3, k4, k5⟩ := h.2.2.1 p hp
  unfold f_To_mark
  rw [gd_pos i6, gd_pos i6, np, k2, k3, h8, whS_set h0 hq, decide_eq_true hpn, Bool.true_and]
  by_cases hw : hsS S' p = ndS S' p
  · rw [if_neg (fun z => z hw), sx_eq, wN_or hp, decide_eq_true hw]
    exact ⟨_, rfl, fr.uI rfl, h.own (by decide) (by decide), uI_same, fun i hi => uI_i hi⟩
  · rw [if_pos hw, sx_eq, wN_and hp, decide_eq_false hw]
    exact ⟨_, rfl, fr.uI rfl, h.own (by decide) (by decide), uI_same, fun i hi => uI_i hi⟩
