/-! the SEARCH of the reference -/
theorem fr_u1 {σ : SG} {c i : Nat} {v : Int32} : fr (fun q => q = c) σ (uI σ c i v) := fr.uI rfl
def absQ (a : Int32) (o : Nat → Bool) : Prop := abs1 a o ∧ (a = -1 ∨ ∃ p, p < 6 ∧ a = nI p)
theorem m_thereSet {σ : SG} {o : Nat → Bool} (h : rg (σ.1 149 0) 6) (ho : absQ (σ.1 148 4) o) : f_M_thereSet σ = some (nI (wN (thrS (σ.1 149) o)), σ) := by
  obtain ⟨h1, h2⟩ := ho
  unfold f_M_thereSet
  rw [lx_eq, show σ.1 149 0 = nI (ppN (σ.1 149)) from h.2, wN_all _ h.1]
  rcases h2 with e | ⟨q, hq, e⟩
  · rw [e, if_neg (by decide)]
    have e : wN (fun p => decide (p < ppN (σ.1 149))) = wN (thrS (σ.1 149) o) := wN_ext fun p hp => by
      unfold thrS bel
      have z : o p = false := by
        cases hz : o p with
        | false => rfl
        | true =>
          have w := (h1 p hp).mp hz
          rw [e] at w
          exact absurd w ((by decide : ∀ p, p < 6 → ¬ ((-1 : Int32) = nI p)) p hp)
      dsimp only
      rw [z]
      simp
    rw [e]
  · rw [e, if_pos (nI_pos' (by omega)), wN_and hq]
    have e : wN (bS (fun p => decide (p < ppN (σ.1 149))) q false) = wN (thrS (σ.1 149) o) := wN_ext fun p hp => by
      unfold thrS bel bS
      by_cases hpq : p = q
      · subst hpq
        have z : o p = true := (h1 p hp).mpr e
        dsimp only
        rw [if_pos rfl, z]
        simp
      · have z : o p = false := by
          cases hz : o p with
          | false => rfl
          | true =>
            have w := (h1 p hp).mp hz
            rw [e, n_inj (by omega) (by omega)] at w
            exact absurd w.symm hpq
        dsimp only
        rw [if_neg hpq, z]
        simp
    rw [e]
theorem doA_off {S : Nat → Int32} {R : List RU} {o : Nat → Bool} {p q i : Nat} (h : GD S) (hc : canP S R o p q) (hi : i < 14 ∨ 52 ≤ i) : doA S R o p q i = S i := by
  have h6 : ppN S ≤ 6 := h.1.1
  have hp : p < 6 := by have := hc.1.1; omega
  have a1 : hsN S p ≤ 7 := (rgP h hp).2.1.1
  have a2 : ndN S p ≤ 7 := (rgP h hp).2.2.1.1
  unfold doA
  rcases hc.2 with z | z
  · rw [if_pos z.1]
    unfold wiA
    rw [us_ne (by omega), us_ne (by omega), jrA_0 (by omega) (by omega)]
  · rw [if_neg z.1]
    have hq : q < 6 := by have := z.2.2.1.1; omega
    unfold swA
    rw [us_ne (by omega), us_ne (by omega)]
theorem RLM.cong {S S' : Nat → Int32} (h1 : S' 1 = S 1) (h2 : ∀ i, 52 ≤ i → S' i = S i) : ∀ {R : List RU} {k off : Nat}, RLM S R k off → RLM S' R k off := by
  intro R
  induction R with
  | nil => intro k off h; exact ⟨by rw [h1]; exact h.1, h.2⟩
  | cons q r ih =>
    intro k off h
    obtain ⟨a, b, c, d, e, f⟩ := h
    exact ⟨by rw [h2 _ (by omega)]; exact a, by rw [h2 _ (by omega)]; exact b, by rw [h2 _ (by omega)]; exact c, by rw [h2 _ (by omega)]; exact d, fun j x hx => by rw [h2 _ (by omega)]; exact e j x hx, ih f⟩
theorem RMt.do {S : Nat → Int32} {R : List RU} {o : Nat → Bool} {p q : Nat} (hR : RMt S R) (h : GD S) (hc : canP S R o p q) : RMt (doA S R o p q) R := ⟨hR.1.cong (doA_off h hc (Or.inl (by decide))) (fun i hi => doA_off h hc (Or.inr hi)), hR.2⟩
theorem paA_le {S : Nat → Int32} {R : List RU} {o : Nat → Bool} {p q : Nat} (hp : p < 6) (h : GD S) (hR : ∀ q ∈ R, okR q) : paA S R o p q ≤ 496 := by
  unfold paA
  by_cases e : q = 9
  · rw [if_pos e]
    exact askA_le hp h hR
  · rw [if_neg e]
    omega
theorem cN_le (f : Nat → Bool) : cN f ≤ 6 := by
  unfold cN
  have h : ∀ b : Bool, b.toNat ≤ 1 := by decide
  have := h (f 0); have := h (f 1); have := h (f 2); have := h (f 3); have := h (f 4); have := h (f 5)
  omega
theorem fmax_le {α : Type} {b : Nat} (g : α → Nat) : ∀ (l : List α) (a : Nat), a ≤ b → (∀ x ∈ l, g x ≤ b) → l.foldl (fun m c => max m (g c)) a ≤ b := by
  intro l
  induction l with
  | nil => intro a h _; exact h
  | cons x l ih =>
    intro a h hx
    rw [List.foldl_cons]
    exact ih _ (Nat.max_le.mpr ⟨h, hx x List.mem_cons_self⟩) (fun y hy => hx y (List.mem_cons_of_mem _ hy))
theorem fmax_max {α : Type} (g : α → Nat) : ∀ (l : List α) (m a : Nat), l.foldl (fun m c => max m (g c)) (max m a) = max m (l.foldl (fun m c => max m (g c)) a) := by
  intro l
  induction l with
  | nil => intro m a; rfl
  | cons x l ih =>
    intro m a
    rw [List.foldl_cons, List.foldl_cons, ← ih, Nat.max_assoc]
theorem mostA_le {R : List RU} {o : Nat → Bool} : ∀ (n : Nat) (S : Nat → Int32), mostA R o n S ≤ 6 := by
  intro n
  induction n with
  | zero => intro S; exact cN_le _
  | succ n ih => intro S; rw [mostA]; exact fmax_le _ _ _ (cN_le _) (fun x _ => ih _)
abbrev pfx (pre : List Nat) (cost : Nat) (r : List Nat × Nat) : List Nat × Nat := (pre ++ r.1, cost + r.2)
theorem rows_app {pre : List Nat} {c cost v : Nat} (T : List (List Nat × Nat)) : (T.map fun r => (c :: r.1, v + r.2)).map (pfx pre cost) = T.map (pfx (pre ++ [c]) (cost + v)) := by
  rw [List.map_map]
  refine List.map_congr_left fun r _ => ?_
  show (pre ++ c :: r.1, cost + (v + r.2)) = (pre ++ [c] ++ r.1, cost + v + r.2)
  rw [List.append_assoc, Nat.add_assoc]
  rfl
/-- what stays while it searches -/
abbrev GOI (S : Nat → Int32) (R : List RU) (o : Nat → Bool) (n : Nat) (pre : List Nat) (σ : SG) : Prop := σ.1 149 = S ∧ GD S ∧ RMt S R ∧ absQ (σ.1 148 4) o ∧ pre.length = n ∧ RWP σ pre
section
variable {S : Nat → Int32} {R : List RU} {o : Nat → Bool} {n : Nat} {pre : List Nat} {σ : SG}
theorem GOI.s (h : GOI S R o n pre σ) : σ.1 149 = S := h.1
theorem GOI.g (h : GOI S R o n pre σ) : GD S := h.2.1
theorem GOI.r (h : GOI S R o n pre σ) : RMt S R := h.2.2.1
theorem GOI.a (h : GOI S R o n pre σ) : absQ (σ.1 148 4) o := h.2.2.2.1
theorem GOI.l (h : GOI S R o n pre σ) : pre.length = n := h.2.2.2.2.1
theorem GOI.w (h : GOI S R o n pre σ) : RWP σ pre := h.2.2.2.2.2
end
abbrev GOR (S : Nat → Int32) (n : Nat) (L : List (List Nat × Nat)) (m : Nat) (σ σ' : SG) : Prop := fr Lgo σ σ' ∧ σ'.1 149 = S ∧ ACC σ' L m ∧ (∀ j, j < n → σ'.1 153 j = σ.1 153 j) ∧ ∀ i, ¬ (11 ≤ i ∧ i ≤ 15) → i ≠ 6 → i ≠ 7 → σ'.1 148 i = σ.1 148 i
theorem RWP.keep {σ σ' : SG} {pre : List Nat} {n : Nat} (h : RWP σ pre) (hl : pre.length = n) (hk : ∀ j, j < n → σ'.1 153 j = σ.1 153 j) : RWP σ' pre := by
  intro j x hx
  rw [hk j (by have := (List.getElem?_eq_some_iff.mp hx).1; omega)]
  exact h j x hx
theorem m_goes_l {R : List RU} {o : Nat → Bool} {N n cost rem : Nat} {d : Nat} {pre : List Nat} {S : Nat → Int32} (hN : N ≤ 6) (hn : n + 1 + rem = N) (hco : cost + 500 * (rem + 1) ≤ 3000) (IH : ∀ (cost : Nat) (pre : List Nat) (S : Nat → Int32) (σ : SG) (L : List (List Nat × Nat)) (m : Nat), cost + 500 * rem ≤ 3000 → GOI S R o (n + 1) pre σ → ACC σ L m → ∃ σ', f_M_goes d (nI (n + 1)) (nI N) (nI cost) σ = some ((), σ') ∧ GOR S (n + 1) (L ++ (rowsA R o rem S).map (pfx pre cost)) (max m (mostA R o rem S)) σ σ') : ∀ (k a f : Nat) (σ : SG) (L : List (List Nat × Nat)) (m : Nat), 61 ≤ a + k → k < f → GOI S R o n pre σ → ACC σ L m → ∃ σ', f_M_goes_S_64 (f_M_goes d) f (nI n) (nI N) (nI cost) (nxI (nxtA S R o a)) σ = some ((), σ') ∧ GOR S n (L ++ ((canL S R o a).flatMap fun c => (rowsA R o rem (doC S R o c)).map fun r => (c :: r.1, paC S R o c + r.2)).map (pfx pre cost)) ((canL S R o a).foldl (fun m c => max m (mostA R o rem (doC S R o c))) m) σ σ' := by
  intro k
  induction k with
  | zero =>
    intro a f σ L m hk hf hI hA
    obtain ⟨f, rfl⟩ : ∃ g, f = g + 1 := ⟨f - 1, by omega⟩
    have h6 : ppN S ≤ 6 := hI.g.1.1
    rw [f_M_goes_S_64, canL_eq, nxtA_end h6 (by omega)]
    refine ⟨σ, if_pos (by decide), fr.rf, hI.s, ?_, fun _ _ => rfl, fun _ _ _ _ => rfl⟩
    show ACC σ (L ++ []) m
    rw [List.append_nil]
    exact hA
  | succ k ih =>
    intro a f σ L m hk hf hI hA
    obtain ⟨f, rfl⟩ : ∃ g, f = g + 1 := ⟨f - 1, by omega⟩
    have h6 : ppN S ≤ 6 := hI.g.1.1
    rw [f_M_goes_S_64, canL_eq]
    cases hx : nxtA S R o a with
    | none =>
      refine ⟨σ, if_pos (by decide), fr.rf, hI.s, ?_, fun _ _ => rfl, fun _ _ _ _ => rfl⟩
      show ACC σ (L ++ []) m
      rw [List.append_nil]
      exact hA
    | some c =>
      obtain ⟨hca, hcan, hin⟩ := nxtA_some hx
      have hc60 : c < 60 := CHl_lt c hin
      have hnum : numP S (c / 10) (c % 10) := canC_num hcan
      have hp6 : c / 10 < 6 := by have := hcan.1.1; omega
      have hs := hI.s
      rw [show nxI (some c) = nI c from rfl, if_neg (nI_pos (by omega))]
      obtain ⟨σ1, q1, q2, q3, q4, q5, q6⟩ := m_does (k := c) (σ := σ) (by omega) (by rw [hs]; exact hI.g) hI.a.1 (by rw [hs]; exact hI.r) (by rw [hs]; exact hnum)
      rw [hs] at q2 q3 q4
      rw [q1, bnd_some, lx_eq, lx_eq, gd_pos (ix_nI (show n < 6 by omega) (by decide)), sx_eq, nx_nI (by omega), nI_1, q3, q4, n_add]
      have hpa : paA S R o (c / 10) (c % 10) ≤ 496 := paA_le hp6 hI.g hI.r.2
      have w1 : (uI σ1 153 n (nI c)).1 148 = σ1.1 148 := uIc (by decide)
      have I1 : GOI (doC S R o c) R o (n + 1) (pre ++ [c]) (uI σ1 153 n (nI c)) := by
        refine ⟨?_, hI.g.do hcan, hI.r.do hI.g hcan, ?_, ?_, ?_⟩
        · rw [uIc (by decide)]; exact q2
        · rw [uI_c (by decide), q6 4 (by decide) (by decide)]; exact hI.a
        · rw [List.length_append, hI.l]; rfl
        · intro j x hx
          by_cases e : j = n
          · subst e
            rw [uI_same]
            rw [← hI.l, List.getElem?_concat_length] at hx
            exact congrArg nI (Option.some.inj hx)
          · have hj : j < (pre ++ [c]).length := (List.getElem?_eq_some_iff.mp hx).1
            rw [List.length_append, hI.l] at hj
            have hj : j < n + 1 := hj
            rw [uI_i e, q5.at (by decide)]
            rw [List.getElem?_append_left (by rw [hI.l]; omega)] at hx
            exact hI.w j x hx
      have A1 : ACC (uI σ1 153 n (nI c)) L m := hA.keep (fun i i1 i2 => by rw [uI_c (by decide), q6 i (by omega) (by omega)]) (by rw [uIc (by decide), q5.1 _ (by decide)]) (by rw [uIc (by decide), q5.1 _ (by decide)])
      obtain ⟨σ2, p1, p2, p3, p4, p5, p6⟩ := IH (cost + paC S R o c) (pre ++ [c]) (doC S R o c) (uI σ1 153 n (nI c)) L m (by show cost + paA S R o (c / 10) (c % 10) + _ ≤ _; omega) I1 A1
      rw [p1, bnd_some]
      have g2 := hI.g.do hcan
      have h0 : doC S R o c 0 = S 0 := doA_off hI.g hcan (Or.inl (by decide))
      have ht : hsN S (c / 10) < 8 := by have : hsN S (c / 10) ≤ 7 := (rgP hI.g hp6).2.1.1; omega
      obtain ⟨σ3, r1, r2, r3⟩ := m_undoes (k := c) (th := hsN S (c / 10)) (x := nI (paA S R o (c / 10) (c % 10))) (σ := σ2) (by omega) (by rw [p3]; exact g2) (by rw [p3]; show _ < nx (doC S R o c 0) ∧ (_ ∨ _ ∧ _ < nx (doC S R o c 0)); rw [h0]; exact hnum) ht
      rw [show hsS S (c / 10) = nI (hsN S (c / 10)) from (rgP hI.g hp6).2.1.2, r1, bnd_some]
      rw [p3] at r2
      have r2 : σ3.1 149 = S := r2.trans (ba_do hI.g hcan)
      have u1 : ∀ i, ¬ (11 ≤ i ∧ i ≤ 15) → i ≠ 6 → i ≠ 7 → σ3.1 148 i = σ.1 148 i := fun i i1 i2 i3 => by rw [r3.at (by decide), p6 i i1 i2 i3, uI_c (by decide), q6 i i2 i3]
      have u2 : ∀ j, j < n → σ3.1 153 j = σ.1 153 j := fun j hj => by rw [r3.at (by decide), p5 j (by omega), uI_i (by omega), q5.at (by decide)]
      have u3 : fr Lgo σ σ3 := (((q5.mono (fun z hz => by rcases hz with e | e | e <;> rw [e] <;> decide)).tr (fr.uI (by decide))).tr p2).tr (r3.mono (fun z hz => by rw [hz]; decide))
      have a3 : ACC σ3 (L ++ (rowsA R o rem (doC S R o c)).map (pfx (pre ++ [c]) (cost + paC S R o c))) (max m (mostA R o rem (doC S R o c))) := p4.keep (fun i _ _ => r3.at (by decide) i) (r3.1 _ (by decide)) (r3.1 _ (by decide))
      have ho : abs1 (σ3.1 148 4) o := by rw [u1 4 (by decide) (by decide) (by decide)]; exact hI.a.1
      obtain ⟨σ4, s1, s2⟩ := m_nextS (c := c) (σ := σ3) (by rw [r2]; exact hI.g) ho (by rw [r2]; exact hI.r) hc60
      rw [s1, bnd_some, r2]
      have I4 : GOI S R o n pre σ4 := ⟨by rw [s2.1 _ (by decide)]; exact r2, hI.g, hI.r, by rw [s2.at (by decide), u1 4 (by decide) (by decide) (by decide)]; exact hI.a, hI.l, hI.w.keep hI.l (fun j hj => by rw [s2.at (by decide), u2 j hj])⟩
      have a4 := a3.keep (fun i _ _ => s2.at (by decide) i) (s2.1 _ (by decide)) (s2.1 _ (by decide))
      obtain ⟨σ5, t1, t2, t3, t4, t5, t6⟩ := ih (c + 1) f σ4 _ _ (by omega) (by omega) I4 a4
      rw [t1]
      refine ⟨σ5, rfl, (u3.tr (s2.mono (fun z hz => by rw [hz]; decide))).tr t2, t3, ?_, fun j hj => by rw [t5 j hj, s2.at (by decide), u2 j hj], fun i i1 i2 i3 => by rw [t6 i i1 i2 i3, s2.at (by decide), u1 i i1 i2 i3]⟩
      rw [List.append_assoc] at t4
      rw [List.flatMap_cons, List.map_append, rows_app, List.foldl_cons]
      exact t4
/-- what it does before it looks at what can be -/
theorem m_goes_in {S : Nat → Int32} {R : List RU} {o : Nat → Bool} {N n : Nat} {cost : Nat} {pre : List Nat} {σ : SG} {L : List (List Nat × Nat)} {m : Nat} {fR : Int32 → Int32 → Int32 → SG → Option (Unit × SG)} (hI : GOI S R o n pre σ) (hA : ACC σ L m) : ∃ σ', f_M_goes_S fR (nI n) (nI N) (nI cost) σ = (if doneP S o then bnd (f_M_keeps (nI n) (nI cost) σ') (fun _ τ => some ((), τ)) else if ¬ nI n = nI N then bnd (f_M_nextChange (-1 : Int32) σ') (fun r τ => f_M_goes_S_64 fR FU (nI n) (nI N) (nI cost) r τ) else some ((), σ')) ∧ GOI S R o n pre σ' ∧ ACC σ' L (max m (cN (whS S o))) ∧ fr (fun c => c = 148) σ σ' ∧ ∀ i, i ≠ 12 → σ'.1 148 i = σ.1 148 i := by
  have go : ∀ v : Nat, v = max m (cN (whS S o)) → ∃ σ', f_M_goes_S_32 fR (nI n) (nI N) (nI cost) (nI (wN (whS S o))) (nI v) σ = (if doneP S o then bnd (f_M_keeps (nI n) (nI cost) σ') (fun _ τ => some ((), τ)) else if ¬ nI n = nI N then bnd (f_M_nextChange (-1 : Int32) σ') (fun r τ => f_M_goes_S_64 fR FU (nI n) (nI N) (nI cost) r τ) else some ((), σ')) ∧ GOI S R o n pre σ' ∧ ACC σ' L (max m (cN (whS S o))) ∧ fr (fun c => c = 148) σ σ' ∧ ∀ i, i ≠ 12 → σ'.1 148 i = σ.1 148 i := by
    intro v hv
    have hI' : GOI S R o n pre (uI σ 148 12 (nI v)) := ⟨by rw [uIc (by decide)]; exact hI.s, hI.g, hI.r, by rw [uI_i (by decide)]; exact hI.a, hI.l, hI.w.keep hI.l (fun j _ => uI_c (by decide))⟩
    have hA' : ACC (uI σ 148 12 (nI v)) L (max m (cN (whS S o))) := by
      obtain ⟨a, b, c, d, e⟩ := hA
      refine ⟨by rw [uI_i (by decide)]; exact a, by rw [uI_same, hv], Nat.max_le.mpr ⟨c, cN_le _⟩, d.keep (uI_i (by decide)) (uIc (by decide)), e.keep (fun i i1 i2 => uI_i (by omega)) (uIc (by decide))⟩
    have fr1 : fr (fun c => c = 148) σ (uI σ 148 12 (nI v)) := fr.uI rfl
    refine ⟨uI σ 148 12 (nI v), ?_, hI', hA', fr1, fun i hi => uI_i hi⟩
    unfold f_M_goes_S_32
    rw [sx_eq, m_thereSet (by rw [hI'.s]; exact hI.g.1) hI'.a, bnd_some, hI'.s]
    by_cases hd : doneP S o
    · rw [if_pos hd, if_neg (fun z => z (congrArg nI hd))]
    · have h1 := wN_lt (whS S o)
      have h2 := wN_lt (thrS S o)
      rw [if_neg hd, if_pos (fun z => hd ((n_inj (by omega) (by omega)).mp z))]
  have hc := cN_le (whS S o)
  have hs : rg (σ.1 149 0) 6 := by rw [hI.s]; exact hI.g.1
  have hm : m ≤ 6 := hA.2.2.1
  unfold f_M_goes_S
  rw [m_wholeSet hs hI.a.1, bnd_some, hI.s, m_ones, bnd_some, hA.2.1]
  by_cases h : cN (whS S o) ≤ m
  · rw [if_pos ((n_le (by omega) (by omega)).mpr h)]
    exact go m (by omega)
  · rw [if_neg (fun z => h ((n_le (by omega) (by omega)).mp z))]
    exact go _ (by omega)
theorem GOR.pre {S : Nat → Int32} {n m : Nat} {L : List (List Nat × Nat)} {σ σ1 τ : SG} (h : GOR S n L m σ1 τ) (f : fr (fun c => c = 148) σ σ1) (g : ∀ i, i ≠ 12 → σ1.1 148 i = σ.1 148 i) : GOR S n L m σ τ := by
  obtain ⟨a, b, c, d, e⟩ := h
  exact ⟨(f.mono (fun z hz => by rw [hz]; decide)).tr a, b, c, fun j hj => by rw [d j hj, f.at (by decide)], fun i i1 i2 i3 => by rw [e i i1 i2 i3, g i (by omega)]⟩
theorem m_goes_done {S : Nat → Int32} {R : List RU} {o : Nat → Bool} {n cost M : Nat} {pre : List Nat} {σ : SG} {L : List (List Nat × Nat)} (hn : n ≤ 6) (hc : cost ≤ 3000) (hI : GOI S R o n pre σ) (hA : ACC σ L M) : ∃ τ, bnd (f_M_keeps (nI n) (nI cost) σ) (fun _ τ => some ((), τ)) = some ((), τ) ∧ GOR S n (L ++ [(([], 0) : List Nat × Nat)].map (pfx pre cost)) M σ τ := by
  obtain ⟨τ, q1, q2, q3, q4, q5, q6⟩ := m_keeps (σ := σ) (row := pre) (cost := cost) (by rw [hI.l]; exact hn) (by omega) hI.w hA
  rw [hI.l] at q1
  rw [q1]
  have e : [(([], 0) : List Nat × Nat)].map (pfx pre cost) = [(pre, cost)] := by
    show [(pre ++ [], cost + 0)] = _
    rw [List.append_nil, Nat.add_zero]
  rw [e]
  exact ⟨τ, rfl, q2, by rw [q5]; exact hI.s, q3, fun j _ => by rw [q4], fun i i1 _ _ => q6 i i1⟩
theorem m_goes {R : List RU} {o : Nat → Bool} {N : Nat} (hN : N ≤ 6) : ∀ (rem d n cost : Nat) (pre : List Nat) (S : Nat → Int32) (σ : SG) (L : List (List Nat × Nat)) (m : Nat), n + rem = N → rem < d → cost + 500 * rem ≤ 3000 → GOI S R o n pre σ → ACC σ L m → ∃ σ', f_M_goes d (nI n) (nI N) (nI cost) σ = some ((), σ') ∧ GOR S n (L ++ (rowsA R o rem S).map (pfx pre cost)) (max m (mostA R o rem S)) σ σ' := by
  intro rem
  induction rem with
  | zero =>
    intro d n cost pre S σ L m hn hd hco hI hA
    obtain ⟨d, rfl⟩ : ∃ g, d = g + 1 := ⟨d - 1, by omega⟩
    obtain ⟨σ1, e1, e2, e3, e4, e5⟩ := m_goes_in (N := N) (cost := cost) (fR := f_M_goes d) hI hA
    rw [f_M_goes, e1]
    by_cases hd : doneP S o
    · rw [if_pos hd, rowsA_done hd, mostA_done hI.g.1.1 hd]
      obtain ⟨τ, q1, q2⟩ := m_goes_done (cost := cost) (by omega) (by omega) e2 e3
      exact ⟨τ, q1, q2.pre e4 e5⟩
    · rw [if_neg hd, if_neg (fun z => z (by congr 1)), show rowsA R o 0 S = [] from if_neg hd]
      refine ⟨σ1, rfl, GOR.pre ⟨fr.rf, e2.s, ?_, fun _ _ => rfl, fun _ _ _ _ => rfl⟩ e4 e5⟩
      rw [List.map_nil, List.append_nil]
      exact e3
  | succ rem ih =>
    intro d n cost pre S σ L m hn hd hco hI hA
    obtain ⟨d, rfl⟩ : ∃ g, d = g + 1 := ⟨d - 1, by omega⟩
    obtain ⟨σ1, e1, e2, e3, e4, e5⟩ := m_goes_in (N := N) (cost := cost) (fR := f_M_goes d) hI hA
    rw [f_M_goes, e1]
    by_cases hd : doneP S o
    · rw [if_pos hd, rowsA_done hd, mostA_done hI.g.1.1 hd]
      obtain ⟨τ, q1, q2⟩ := m_goes_done (cost := cost) (by omega) (by omega) e2 e3
      exact ⟨τ, q1, q2.pre e4 e5⟩
    · rw [if_neg hd, if_pos (fun z => by have := (n_inj (by omega) (by omega)).mp z; omega)]
      obtain ⟨σ2, p1, p2⟩ := m_next0 (σ := σ1) (o := o) (R := R) (by rw [e2.s]; exact e2.g) e2.a.1 (by rw [e2.s]; exact e2.r)
      rw [p1, bnd_some, e2.s]
      have I2 : GOI S R o n pre σ2 := ⟨by rw [p2.1 _ (by decide)]; exact e2.s, hI.g, hI.r, by rw [p2.at (by decide)]; exact e2.a, hI.l, e2.w.keep hI.l (fun j _ => p2.at (by decide) j)⟩
      have A2 := e3.keep (fun i _ _ => p2.at (by decide) i) (p2.1 _ (by decide)) (p2.1 _ (by decide))
      obtain ⟨τ, q1, t2, t3, t4, t5, t6⟩ := m_goes_l hN (show n + 1 + rem = N by omega) (by omega) (fun cost pre S σ L m => ih d (n + 1) cost pre S σ L m (by omega) (by omega)) 61 0 FU σ2 L _ (by omega) (by rw [FU_eq]; omega) I2 A2
      rw [q1]
      refine ⟨τ, rfl, GOR.pre ⟨(p2.mono (fun z hz => by rw [hz]; decide)).tr t2, t3, ?_, fun j hj => by rw [t5 j hj, p2.at (by decide)], fun i i1 i2 i3 => by rw [t6 i i1 i2 i3, p2.at (by decide)]⟩ e4 e5⟩
      rw [fmax_max] at t4
      rw [rowsA, if_neg hd, mostA]
      exact t4
/-- all of them: how many, how many whole at most, the shortest, the cheapest -/
theorem m_goesAll {S : Nat → Int32} {R : List RU} {o : Nat → Bool} {N : Nat} {σ : SG} (hN : N ≤ 6) (hs : σ.1 149 = S) (hg : GD S) (hR : RMt S R) (ho : absQ (σ.1 148 4) o) : ∃ σ', f_M_goesAll (nI N) σ = some ((), σ') ∧ fr Lgo σ σ' ∧ σ'.1 149 = S ∧ ACC σ' (rowsA R o N S) (mostA R o N S) ∧ ∀ i, ¬ (11 ≤ i ∧ i ≤ 15) → i ≠ 6 → i ≠ 7 → σ'.1 148 i = σ.1 148 i := by
  unfold f_M_goesAll
  rw [sx_eq, sx_eq, sx_eq, sx_eq]
  generalize hτ : uI (uI (uI (uI σ 148 11 (0 : Int32)) 148 12 (0 : Int32)) 148 13 (-1 : Int32)) 148 14 (-1 : Int32) = τ
  have n1 : ∀ i, ¬ (11 ≤ i ∧ i ≤ 15) → τ.1 148 i = σ.1 148 i := fun i hi => by rw [← hτ, uI_i (by omega), uI_i (by omega), uI_i (by omega), uI_i (by omega)]
  have f1 : fr (fun c => c = 148) σ τ := by
    rw [← hτ]
    exact ((fr.tr fr_u1 fr_u1).tr fr_u1).tr fr_u1
  have hI : GOI S R o 0 [] τ := ⟨by rw [f1.1 _ (by decide)]; exact hs, hg, hR, by rw [n1 4 (by omega)]; exact ho, rfl, fun j x hx => by cases hx⟩
  have hA : ACC τ [] 0 := ⟨by rw [← hτ, uI_i (by decide), uI_i (by decide), uI_i (by decide), uI_same]; rfl, by rw [← hτ, uI_i (by decide), uI_i (by decide), uI_same]; rfl, by decide, by show τ.1 148 13 = -1; rw [← hτ, uI_i (by decide), uI_same], by show τ.1 148 14 = -1; rw [← hτ, uI_same]⟩
  obtain ⟨σ', q1, t2, t3, t4, t5, t6⟩ := m_goes hN N DP 0 0 [] S τ [] 0 (by omega) (by show N < 12; omega) (by omega) hI hA
  have q1 : f_M_goes DP (0 : Int32) (nI N) (0 : Int32) τ = some ((), σ') := q1
  rw [q1, bnd_some]
  refine ⟨σ', rfl, (f1.mono (fun z hz => by rw [hz]; decide)).tr t2, t3, ?_, fun i i1 i2 i3 => by rw [t6 i i1 i2 i3, n1 i i1]⟩
  rw [Nat.zero_max, List.nil_append] at t4
  have e : (rowsA R o N S).map (pfx [] 0) = rowsA R o N S := by
    refine (List.map_congr_left fun r _ => ?_).trans (List.map_id _)
    show ([] ++ r.1, 0 + r.2) = r
    rw [List.nil_append, Nat.zero_add]
  rw [e] at t4
  exact t4
