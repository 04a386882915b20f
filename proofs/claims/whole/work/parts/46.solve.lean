/-! the class's SEARCH answers what it comes to -/
theorem TWR.cong {t : Nat} {σ σ' : SG} {S : Nat → Int32} {o : Nat → Bool} (h : TWR t σ S o) (hc : ∀ c, t ≤ c → c ≤ t + 14 → c ≠ t + 7 → σ'.1 c = σ.1 c) : TWR t σ' S o := by
  obtain ⟨a, b, c, d, e, f⟩ := h
  refine ⟨by rw [hc _ (by omega) (by omega) (by omega)]; exact a, by rw [hc _ (by omega) (by omega) (by omega)]; exact b, by rw [hc _ (by omega) (by omega) (by omega)]; exact c, by rw [hc _ (by omega) (by omega) (by omega)]; exact d, fun p hp => ?_, fun j hj => ?_⟩
  · rw [hc (t + 8) (by omega) (by omega) (by omega), hc (t + 9) (by omega) (by omega) (by omega), hc (t + 10) (by omega) (by omega) (by omega), hc (t + 11) (by omega) (by omega) (by omega), hc (t + 12) (by omega) (by omega) (by omega)]
    exact e p hp
  · rw [hc (t + 13) (by omega) (by omega) (by omega), hc (t + 14) (by omega) (by omega) (by omega)]
    exact f j hj
theorem RLt.cong {t : Nat} {σ σ' : SG} {R : List RU} (h : RLt t σ R) (hc : ∀ c, t + 1 ≤ c → c ≤ t + 6 → σ'.1 c = σ.1 c) : RLt t σ' R := ⟨h.1.keep (hc _ (by omega) (by omega)) (hc _ (by omega) (by omega)) (hc _ (by omega) (by omega)) (hc _ (by omega) (by omega)) (hc _ (by omega) (by omega)) (hc _ (by omega) (by omega)), h.2⟩
abbrev Lso (c : Nat) : Prop := c = 90 ∨ c = 97 ∨ c = 99 ∨ c = 101 ∨ c = 104 ∨ c = 129
abbrev Lst (c : Nat) : Prop := c = 90 ∨ c = 97 ∨ c = 99 ∨ c = 101 ∨ c = 104
def frS (σ σ' : SG) : Prop := (∀ c, ¬ Lso c → σ'.1 c = σ.1 c) ∧ (∀ c, c ≠ 128 → σ'.2 c = σ.2 c) ∧ ∀ i, i ≠ 8 → σ'.1 90 i = σ.1 90 i
theorem frS.rf {σ : SG} : frS σ σ := ⟨fun _ _ => rfl, fun _ _ => rfl, fun _ _ => rfl⟩
theorem frS.tr {a b c : SG} (h1 : frS a b) (h2 : frS b c) : frS a c := ⟨fun q hq => (h2.1 q hq).trans (h1.1 q hq), fun q hq => (h2.2.1 q hq).trans (h1.2.1 q hq), fun q hq => (h2.2.2 q hq).trans (h1.2.2 q hq)⟩
theorem frS.of {a b : SG} (h : fr Lst a b) (h8 : ∀ i, i ≠ 8 → b.1 90 i = a.1 90 i) : frS a b := ⟨fun q hq => h.1 q (fun z => hq (by rcases z with e | e | e | e | e <;> rw [e] <;> decide)), fun q _ => by rw [h.2], h8⟩
/-- while it searches -/
abbrev SOI (S0 : Nat → Int32) (md : Int32) (R : List RU) (o : Nat → Bool) (ρ : Nat) (σ : SG) (S : Nat → Int32) : Prop := TWR 90 σ S o ∧ RCH S0 S ∧ RLt 90 σ R ∧ MEMO S0 md R o ρ σ ∧ σ.2 125 5 = lN ρ ∧ σ.1 125 4 = md ∧ ρ < 1099511627776 ∧ oin S0 o
section SOIS
variable {S0 S S' : Nat → Int32} {md : Int32} {R : List RU} {o : Nat → Bool} {ρ : Nat} {σ σ' : SG}
theorem SOI.g (h : SOI S0 md R o ρ σ S) : GD S := h.2.1.1
theorem SOI.oi (h : SOI S0 md R o ρ σ S) : oin S o := fun p hp z => by
  have e : S 0 = S0 0 := h.2.1.2.1 0 (by decide)
  show p < nx (S 0)
  rw [e]
  exact h.2.2.2.2.2.2.2 p hp z
theorem SOI.to (h : SOI S0 md R o ρ σ S) (hf : fr Lst σ σ') (hT : TWR 90 σ' S' o) (hr : RCH S0 S') : SOI S0 md R o ρ σ' S' := by
  obtain ⟨-, -, a3, a4, a5, a6, a7, a8⟩ := h
  refine ⟨hT, hr, a3.cong (fun c c1 c2 => hf.1 c (by omega)), a4.keep (by rw [hf.2]) (hf.1 _ (by decide)), by rw [hf.2]; exact a5, by rw [hf.at (by decide)]; exact a6, a7, a8⟩
theorem b_joined {d n c : Nat} {acc : Int32} (hcan : canC S R o c) (hc : c < 60) (hI : SOI S0 md R o ρ σ S) (IH : ∀ (S : Nat → Int32) (σ : SG), SOI S0 md R o ρ σ S → ∃ σ', f_Se_solve d (nI n) σ = some (vaA md R o n S, σ') ∧ frS σ σ' ∧ SOI S0 md R o ρ σ' S) : ∃ σ', f_Se_joinedWith (f_Se_solve d) (nI c) (nI (n + 1)) acc σ = some (jnA md acc (vaA md R o n (doC S R o c)) (nI (paC S R o c)), σ') ∧ frS σ σ' ∧ SOI S0 md R o ρ σ' S := by
  have hg := hI.g
  have h6 : ppN S ≤ 6 := hg.1.1
  have hp : c / 10 < 6 := by have := hcan.1.1; omega
  have hnum : numP S (c / 10) (c % 10) := canC_num hcan
  have ht : hsN S (c / 10) < 8 := by have : hsN S (c / 10) ≤ 7 := (rgP hg hp).2.1.1; omega
  unfold f_Se_joinedWith
  rw [n_d10 (by omega), gd_pos (ix_nI hp (by decide)), lx_eq, nx_nI (by omega)]
  have e99 : σ.1 99 (c / 10) = nI (hsN S (c / 10)) := ((hI.1.2.2.2.2.1 _ hp).2.1).trans (rgP hg hp).2.1.2
  rw [e99]
  obtain ⟨σ2, q1, q2, q3, q4⟩ := b_step (t := 90) (k := c) (by omega) hI.1 hg hI.2.2.1 hcan
  rw [q1, bnd_some, show nI (n + 1) - 1 = nI n from n_sub (b := 1) (by omega)]
  have I2 : SOI S0 md R o ρ σ2 (doC S R o c) := hI.to q2 q3 (hI.2.1.do hcan)
  obtain ⟨σ4, r1, r2, r3⟩ := IH _ σ2 I2
  rw [r1, bnd_some]
  have h0 : doC S R o c 0 = S 0 := doA_off hg hcan (Or.inl (by decide))
  obtain ⟨σ6, s1, s2, s3, s4⟩ := b_stepBack (t := 90) (k := c) (th := hsN S (c / 10)) (x := nI (paA S R o (c / 10) (c % 10))) (by omega) r3.1 r3.g (by show _ < nx (doC S R o c 0) ∧ (_ ∨ _ ∧ _ < nx (doC S R o c 0)); rw [h0]; exact hnum) ht
  rw [s1, bnd_some]
  rw [show baA (doC S R o c) (c / 10) (c % 10) (hsN S (c / 10)) (nI (paA S R o (c / 10) (c % 10))) = S from ba_do hg hcan] at s3
  have I6 : SOI S0 md R o ρ σ6 S := r3.to s2 s3 hI.2.1
  refine ⟨σ6, ?_, ((frS.of q2 q4).tr r2).tr (frS.of s2 s4), I6⟩
  rw [I6.2.2.2.2.2.1]
  unfold jnA
  by_cases m1 : md = 1
  · rw [if_pos m1, if_pos m1]
  · rw [if_neg m1, if_neg m1]
    by_cases m2 : md = 2
    · rw [if_pos m2, if_pos m2]
    · rw [if_neg m2, if_neg m2]
      by_cases m3 : md = 3
      · rw [if_pos m3, if_pos m3]
      · rw [if_neg m3, if_neg m3]
        by_cases m4 : md = 4
        · rw [if_pos m4, if_pos m4]
        · rw [if_neg m4, if_neg m4]
end SOIS
def cdL (S : Nat → Int32) (R : List RU) (o : Nat → Bool) (j : Nat) : List Nat := (CHl.drop j).filter fun x => decide (canC S R o x)
theorem cdL_0 (S : Nat → Int32) (R : List RU) (o : Nat → Bool) : cdL S R o 0 = canL S R o 0 := by
  unfold cdL canL
  refine List.filter_congr fun x _ => ?_
  rw [decide_eq_true (Nat.zero_le x), Bool.true_and]
theorem CHl_d : ∀ j, j < 21 → CHl.drop j = CHl.getD j 0 :: CHl.drop (j + 1) := by decide +kernel
theorem CHl_60 : ∀ j, j < 21 → CHl.getD j 0 < 60 := by decide +kernel
theorem cdL_y {S : Nat → Int32} {R : List RU} {o : Nat → Bool} {j : Nat} (hj : j < 21) (h : canC S R o (CHl.getD j 0)) : cdL S R o j = CHl.getD j 0 :: cdL S R o (j + 1) := by
  unfold cdL
  rw [CHl_d j hj, List.filter_cons, if_pos (decide_eq_true h)]
theorem cdL_n {S : Nat → Int32} {R : List RU} {o : Nat → Bool} {j : Nat} (hj : j < 21) (h : ¬ canC S R o (CHl.getD j 0)) : cdL S R o j = cdL S R o (j + 1) := by
  unfold cdL
  rw [CHl_d j hj, List.filter_cons, if_neg (by rw [decide_eq_false h]; decide)]
abbrev jnF (md : Int32) (R : List RU) (o : Nat → Bool) (n : Nat) (S : Nat → Int32) (a : Int32) (c : Nat) : Int32 := jnA md a (vaA md R o n (doC S R o c)) (nI (paC S R o c))
theorem can_60 {S : Nat → Int32} {R : List RU} {o : Nat → Bool} {c : Nat} (hc : c < 60) : CAN S R o (nI c) ↔ canC S R o c := by
  show 0 ≤ nI c ∧ canP S R o (nx (nI c) / 10) (nx (nI c) % 10) ↔ _
  rw [nx_nI (by omega)]
  exact ⟨fun z => z.2, fun z => ⟨nI_pos' (by omega), z⟩⟩
theorem b_sv_l {S0 S : Nat → Int32} {md : Int32} {R : List RU} {o : Nat → Bool} {ρ d n s : Nat} (hs : s < 2048) (hn : n + 1 < 8) (IH : ∀ (S : Nat → Int32) (σ : SG), SOI S0 md R o ρ σ S → ∃ σ', f_Se_solve d (nI n) σ = some (vaA md R o n S, σ') ∧ frS σ σ' ∧ SOI S0 md R o ρ σ' S) : ∀ (k j f : Nat) (acc : Int32) (σ : SG), j + k = 21 → k < f → SOI S0 md R o ρ σ S → (cdL S R o j).foldl (jnF md R o n S) acc = vaA md R o (n + 1) S → ∃ σ', f_Se_solve_S_76 (f_Se_solve d) f (nI (n + 1)) (lN (keyN ρ (n + 1) (hsN S))) (nI s) acc (21 : Int32) (nI j) σ = some (vaA md R o (n + 1) S, σ') ∧ frS σ σ' ∧ SOI S0 md R o ρ σ' S := by
  intro k
  induction k with
  | zero =>
    intro j f acc σ hk hf hI hv
    obtain ⟨f, rfl⟩ : ∃ g, f = g + 1 := ⟨f - 1, by omega⟩
    have ej : j = 21 := hk
    subst ej
    have hv : acc = vaA md R o (n + 1) S := hv
    rw [f_Se_solve_S_76, if_pos (by decide), gd_pos (ix_nI hs (by decide)), sx_eq, gd_pos (ix_nI hs (by decide)), sx_eq, nx_nI (by omega), hv]
    refine ⟨_, rfl, ⟨fun c hc => uIc (fun z => hc (by rw [z]; decide)), fun c hc => funext fun i => uL_c hc, fun i hi => uI_c (by decide)⟩, ?_⟩
    obtain ⟨a1, a2, a3, a4, a5, a6, a7, a8⟩ := hI
    exact ⟨a1.cong (fun c c1 c2 _ => uIc (by omega)), a2, a3.cong (fun c c1 c2 => uIc (by omega)), a4.put hn a2, Eq.trans (show (uL σ 128 s (lN (keyN ρ (n + 1) (hsN S)))).2 125 5 = σ.2 125 5 from uL_c (by decide)) a5, (uI_c (by decide)).trans a6, a7, a8⟩
  | succ k ih =>
    intro j f acc σ hk hf hI hv
    obtain ⟨f, rfl⟩ : ∃ g, f = g + 1 := ⟨f - 1, by omega⟩
    have hj : j < 21 := by omega
    have hc := CHl_60 j hj
    rw [f_Se_solve_S_76, if_neg (show ¬ (21 : Int32) ≤ nI j from nI_ge hj (by decide)), gd_pos (ix_nI hj (by decide)), lx_eq, nx_nI (by omega), CHl_t j hj]
    obtain ⟨σ1, q1, q2⟩ := b_canBe (t := 90) (c := nI (CHl.getD j 0)) hI.1 hI.g hI.2.2.1
    rw [q1, bnd_some, bI_iff (can_60 hc), lx_eq, nI_1]
    have q2' : fr Lst σ σ1 := q2.mono (fun z hz => Or.inr (Or.inl hz))
    have q8 : ∀ i, i ≠ 8 → σ1.1 90 i = σ.1 90 i := fun i _ => q2.at (by decide) i
    have I1 : SOI S0 md R o ρ σ1 S := hI.to q2' (hI.1.cong (fun c c1 c2 c3 => q2.1 c c3)) hI.2.1
    by_cases hcan : canC S R o (CHl.getD j 0)
    · rw [if_neg (bI_n0.mpr hcan)]
      obtain ⟨σ2, r1, r2, r3⟩ := b_joined (acc := acc) hcan hc I1 IH
      rw [r1, bnd_some, lx_eq]
      rw [cdL_y hj hcan, List.foldl_cons] at hv
      obtain ⟨σ3, t1, t2, t3⟩ := ih (j + 1) f _ σ2 (by omega) (by omega) r3 hv
      exact ⟨σ3, t1, ((frS.of q2' q8).tr r2).tr t2, t3⟩
    · rw [if_pos (bI_0.mpr hcan)]
      rw [cdL_n hj hcan] at hv
      obtain ⟨σ3, t1, t2, t3⟩ := ih (j + 1) f acc σ1 (by omega) (by omega) I1 hv
      exact ⟨σ3, t1, (frS.of q2' q8).tr t2, t3⟩
theorem b_solve {S0 : Nat → Int32} {md : Int32} {R : List RU} {o : Nat → Bool} {ρ : Nat} : ∀ (n d : Nat) (S : Nat → Int32) (σ : SG), n < 8 → n < d → SOI S0 md R o ρ σ S → ∃ σ', f_Se_solve d (nI n) σ = some (vaA md R o n S, σ') ∧ frS σ σ' ∧ SOI S0 md R o ρ σ' S := by
  intro n
  induction n with
  | zero =>
    intro d S σ hn hd hI
    obtain ⟨d, rfl⟩ : ∃ g, d = g + 1 := ⟨d - 1, by omega⟩
    rw [f_Se_solve, f_Se_solve_S, if_pos (by decide), b_atEnd hI.1 hI.g hI.oi hI.2.2.2.2.2.1 (by decide), bnd_some]
    exact ⟨σ, rfl, frS.rf, hI⟩
  | succ n ih =>
    intro d S σ hn hd hI
    obtain ⟨d, rfl⟩ : ∃ g, d = g + 1 := ⟨d - 1, by omega⟩
    rw [f_Se_solve, f_Se_solve_S, if_neg (show ¬ nI (n + 1) ≤ 0 from nI_ge (a := 0) (by omega) (by omega)), b_isDone hI.1 hI.g hI.oi, bnd_some]
    by_cases hdn : doneP S o
    · rw [if_neg (bI_n0.mpr hdn), b_atEnd hI.1 hI.g hI.oi hI.2.2.2.2.2.1 (by omega), bnd_some, vaA, if_pos hdn]
      exact ⟨σ, rfl, frS.rf, hI⟩
    · rw [if_pos (bI_0.mpr hdn), b_key hI.1 hI.g hI.2.2.2.2.1 hI.2.2.2.2.2.2.1 hn, bnd_some, lx_eq]
      obtain ⟨s, hs, es⟩ := slot_ix (lN (keyN ρ (n + 1) (hsN S)) * (-7046029254386353131 : Int64))
      rw [es, gd_pos (ix_nI hs (by decide)), gd_pos (ix_nI hs (by decide)), nx_nI (by omega)]
      by_cases hk : σ.2 128 s = lN (keyN ρ (n + 1) (hsN S))
      · rw [if_neg (fun z => z ((lgc_0 _ _).mpr hk)), hI.2.2.2.1.hit hI.2.2.2.2.2.2.1 hn hI.2.1 hs hk]
        exact ⟨σ, rfl, frS.rf, hI⟩
      · rw [if_pos (fun z => hk ((lgc_0 _ _).mp z)), b_atFirst hI.1 hI.2.2.2.2.2.1, bnd_some]
        refine b_sv_l hs hn (fun S σ => ih d S σ (by omega) (by omega)) 21 0 FU (fiA md S) σ rfl (by rw [FU_eq]; omega) hI ?_
        rw [cdL_0, vaA, if_neg hdn]
