/-! the GAME OF TWO, both sides -/
def gmv (v : Int32) : Int32 := if v = 1 then 0 else if v = 0 then 2 else 1
abbrev tri (v : Int32) : Prop := v = -1 ∨ v = 0 ∨ v = 1
theorem jn4 (a r c : Int32) : jnA 4 a r c = if a < -r then -r else a := by
  unfold jnA
  rw [if_neg (by decide), if_neg (by decide), if_neg (by decide), if_pos rfl]
theorem tri_jn {a r : Int32} (c : Int32) (ha : tri a) (hr : tri r) : tri (jnA 4 a r c) := by
  rw [jn4]
  rcases ha with e | e | e <;> rcases hr with e2 | e2 | e2 <;> subst e <;> subst e2 <;> decide
theorem tri_va {R : List RU} {o : Nat → Bool} : ∀ (n : Nat) (S : Nat → Int32), tri (vaA 4 R o n S) := by
  have ed : ∀ (S : Nat → Int32) (n : Nat), tri (edA 4 S o n) := fun S n => by
    have e : edA 4 S o n = if 0 < n then -1 else 0 := by
      unfold edA
      rw [if_neg (by decide), if_neg (by decide), if_neg (by decide), if_pos rfl]
    rw [e]
    by_cases h : 0 < n
    · rw [if_pos h]; exact Or.inl rfl
    · rw [if_neg h]; exact Or.inr (Or.inl rfl)
  intro n
  induction n with
  | zero => intro S; exact ed S 0
  | succ n ih =>
    intro S
    rw [vaA]
    by_cases h : doneP S o
    · rw [if_pos h]; exact ed S _
    · rw [if_neg h]
      have go : ∀ (l : List Nat) (a : Int32), tri a → tri (l.foldl (jnF 4 R o n S) a) := by
        intro l
        induction l with
        | nil => intro a h; exact h
        | cons c l ihl => intro a h; rw [List.foldl_cons]; exact ihl _ (tri_jn _ h (ih _))
      refine go _ _ (Or.inl ?_)
      unfold fiA
      rw [if_neg (by decide), if_neg (by decide), if_neg (by decide), if_pos rfl]
theorem fold_1 {R : List RU} {o : Nat → Bool} {n : Nat} {S : Nat → Int32} : ∀ (l : List Nat), l.foldl (jnF 4 R o n S) 1 = 1 := by
  intro l
  induction l with
  | nil => rfl
  | cons c l ih =>
    rw [List.foldl_cons]
    have e : jnF 4 R o n S 1 c = 1 := by
      show jnA 4 1 (vaA 4 R o n (doC S R o c)) _ = 1
      rw [jn4]
      rcases tri_va (R := R) (o := o) n (doC S R o c) with e | e | e <;> rw [e] <;> decide
    rw [e]
    exact ih
theorem m_turned {v : Int32} (h : tri v) (σ : SG) : f_M_turned (gmv v) σ = some (gmv (-v), σ) := by
  unfold f_M_turned
  rcases h with e | e | e <;> subst e
  · rw [if_pos (by decide)]; rfl
  · rw [if_neg (by decide)]; rfl
  · rw [if_pos (by decide)]; rfl
abbrev GMO (σ σ' : SG) (S : Nat → Int32) : Prop := fr Lgo σ σ' ∧ σ'.1 149 = S ∧ ∀ i, i ≠ 6 → i ≠ 7 → σ'.1 148 i = σ.1 148 i
theorem m_valueBy {R : List RU} {o : Nat → Bool} {S : Nat → Int32} {n c d : Nat} {σ : SG} (g : GD S) (hR : RMt S R) (hs : σ.1 149 = S) (ho : absQ (σ.1 148 4) o) (hc : c < 60) (hcan : canC S R o c) (IH : ∀ (S : Nat → Int32) (σ : SG), GD S → RMt S R → σ.1 149 = S → absQ (σ.1 148 4) o → ∃ σ', f_M_valueOf d (nI n) σ = some (gmv (vaA 4 R o n S), σ') ∧ GMO σ σ' S) : ∃ σ', f_M_valueBy (f_M_valueOf d) (nI c) (nI (n + 1)) σ = some (gmv (-(vaA 4 R o n (doC S R o c))), σ') ∧ GMO σ σ' S := by
  have h6 : ppN S ≤ 6 := g.1.1
  have hnum : numP S (c / 10) (c % 10) := canC_num hcan
  have hp6 : c / 10 < 6 := by have := hcan.1.1; omega
  unfold f_M_valueBy
  obtain ⟨σ1, q1, q2, q3, q4, q5, q6⟩ := m_does (k := c) (σ := σ) (by omega) (by rw [hs]; exact g) ho.1 (by rw [hs]; exact hR) (by rw [hs]; exact hnum)
  rw [hs] at q2 q3 q4
  rw [q1, bnd_some, lx_eq, lx_eq, q3, q4, show nI (n + 1) - 1 = nI n from n_sub (b := 1) (by omega)]
  obtain ⟨σ2, p1, p2, p3, p4⟩ := IH (doC S R o c) σ1 (g.do hcan) (hR.do g hcan) q2 (by rw [q6 4 (by decide) (by decide)]; exact ho)
  rw [p1, bnd_some, m_turned (tri_va _ _), bnd_some]
  have h0 : doC S R o c 0 = S 0 := doA_off g hcan (Or.inl (by decide))
  have ht : hsN S (c / 10) < 8 := by have : hsN S (c / 10) ≤ 7 := (rgP g hp6).2.1.1; omega
  obtain ⟨σ3, r1, r2, r3⟩ := m_undoes (k := c) (th := hsN S (c / 10)) (x := nI (paA S R o (c / 10) (c % 10))) (σ := σ2) (by omega) (by rw [p3]; exact g.do hcan) (by rw [p3]; show _ < nx (doC S R o c 0) ∧ (_ ∨ _ ∧ _ < nx (doC S R o c 0)); rw [h0]; exact hnum) ht
  rw [show hsS S (c / 10) = nI (hsN S (c / 10)) from (rgP g hp6).2.1.2, r1, bnd_some]
  rw [p3] at r2
  refine ⟨σ3, rfl, ((q5.mono (fun z hz => by rcases hz with e | e | e <;> rw [e] <;> decide)).tr p2).tr (r3.mono (fun z hz => by rw [hz]; decide)), r2.trans (ba_do g hcan), fun i i1 i2 => by rw [r3.at (by decide), p4 i i1 i2, q6 i i1 i2]⟩
theorem m_val_l {R : List RU} {o : Nat → Bool} {S : Nat → Int32} {n d : Nat} (g : GD S) (hR : RMt S R) (IH : ∀ (S : Nat → Int32) (σ : SG), GD S → RMt S R → σ.1 149 = S → absQ (σ.1 148 4) o → ∃ σ', f_M_valueOf d (nI n) σ = some (gmv (vaA 4 R o n S), σ') ∧ GMO σ σ' S) : ∀ (k a f : Nat) (v : Int32) (σ : SG), 61 ≤ a + k → k < f → tri v → σ.1 149 = S → absQ (σ.1 148 4) o → ∃ σ', f_M_valueOf_S_14 (f_M_valueOf d) f (nI (n + 1)) (gmv v) (nxI (nxtA S R o a)) σ = some (gmv ((canL S R o a).foldl (jnF 4 R o n S) v), σ') ∧ GMO σ σ' S := by
  have h6 : ppN S ≤ 6 := g.1.1
  intro k
  induction k with
  | zero =>
    intro a f v σ hk hf hv hs ho
    obtain ⟨f, rfl⟩ : ∃ g, f = g + 1 := ⟨f - 1, by omega⟩
    rw [f_M_valueOf_S_14, canL_eq, nxtA_end h6 (by omega)]
    exact ⟨σ, if_pos (by decide), fr.rf, hs, fun _ _ _ => rfl⟩
  | succ k ih =>
    intro a f v σ hk hf hv hs ho
    obtain ⟨f, rfl⟩ : ∃ g, f = g + 1 := ⟨f - 1, by omega⟩
    rw [f_M_valueOf_S_14, canL_eq]
    cases hx : nxtA S R o a with
    | none => exact ⟨σ, if_pos (by decide), fr.rf, hs, fun _ _ _ => rfl⟩
    | some c =>
      obtain ⟨hca, hcan, hin⟩ := nxtA_some hx
      have hc60 : c < 60 := CHl_lt c hin
      rw [show nxI (some c) = nI c from rfl, if_neg (nI_pos (by omega))]
      by_cases h1 : v = 1
      · subst h1
        refine ⟨σ, ?_, fr.rf, hs, fun _ _ _ => rfl⟩
        rw [if_pos (by decide), fold_1]
      · have hg0 : ¬ gmv v = 0 := by rcases hv with e | e | e <;> subst e <;> first | decide | exact absurd rfl h1
        rw [if_neg hg0]
        obtain ⟨σ1, q1, q2, q3, q4⟩ := m_valueBy (d := d) g hR hs ho hc60 hcan IH
        rw [q1, bnd_some]
        have ho1 : absQ (σ1.1 148 4) o := by rw [q4 4 (by decide) (by decide)]; exact ho
        obtain ⟨σ2, s1, s2⟩ := m_nextS (c := c) (σ := σ1) (by rw [q3]; exact g) ho1.1 (by rw [q3]; exact hR) hc60
        rw [s1, bnd_some, bnd_some, bnd_some, q3]
        have hr := tri_va (R := R) (o := o) n (doC S R o c)
        have hs2 : σ2.1 149 = S := by rw [s2.1 _ (by decide)]; exact q3
        have ho2 : absQ (σ2.1 148 4) o := by rw [s2.at (by decide)]; exact ho1
        have ff : fr Lgo σ σ2 := q2.tr (s2.mono (fun z hz => by rw [hz]; decide))
        have fin : ∀ w : Int32, w = jnF 4 R o n S v c → ∃ σ', f_M_valueOf_S_14 (f_M_valueOf d) f (nI (n + 1)) (gmv w) (nxI (nxtA S R o (c + 1))) σ2 = some (gmv ((c :: canL S R o (c + 1)).foldl (jnF 4 R o n S) v), σ') ∧ GMO σ σ' S := fun w hw => by
          obtain ⟨σ', t1, t2, t3, t4⟩ := ih (c + 1) f w σ2 (by omega) (by omega) (by rw [hw]; exact tri_jn _ hv hr) hs2 ho2
          rw [List.foldl_cons, ← hw]
          exact ⟨σ', t1, ff.tr t2, t3, fun i i1 i2 => by rw [t4 i i1 i2, s2.at (by decide), q4 i i1 i2]⟩
        have ej : jnF 4 R o n S v c = if v < -(vaA 4 R o n (doC S R o c)) then -(vaA 4 R o n (doC S R o c)) else v := jn4 _ _ _
        rw [ej] at fin
        generalize vaA 4 R o n (doC S R o c) = r at hr fin ⊢
        rcases hr with e | e | e <;> subst e
        · rw [if_neg (show ¬ ¬ gmv (- -1) = 0 by decide)]
          exact fin 1 (by rcases hv with e | e | e <;> subst e <;> first | decide | exact absurd rfl h1)
        · rw [if_pos (show ¬ gmv (-0) = 0 by decide), if_neg (show ¬ ¬ gmv (-0) = 2 by decide)]
          exact fin 0 (by rcases hv with e | e | e <;> subst e <;> first | decide | exact absurd rfl h1)
        · rw [if_pos (show ¬ gmv (-1) = 0 by decide), if_pos (show ¬ gmv (-1) = 2 by decide)]
          exact fin v (by rcases hv with e | e | e <;> subst e <;> first | decide | exact absurd rfl h1)
theorem m_valueOf {R : List RU} {o : Nat → Bool} : ∀ (n d : Nat) (S : Nat → Int32) (σ : SG), n < 8 → n < d → GD S → RMt S R → σ.1 149 = S → absQ (σ.1 148 4) o → ∃ σ', f_M_valueOf d (nI n) σ = some (gmv (vaA 4 R o n S), σ') ∧ GMO σ σ' S := by
  intro n
  induction n with
  | zero =>
    intro d S σ hn hd g hR hs ho
    obtain ⟨d, rfl⟩ : ∃ g, d = g + 1 := ⟨d - 1, by omega⟩
    rw [f_M_valueOf, f_M_valueOf_S, if_neg (show ¬ ¬ nI 0 = 0 by decide)]
    refine ⟨σ, ?_, fr.rf, hs, fun _ _ _ => rfl⟩
    have e : vaA 4 R o 0 S = 0 := by
      rw [vaA]
      unfold edA
      rw [if_neg (by decide), if_neg (by decide), if_neg (by decide), if_pos rfl, if_neg (by decide)]
    rw [e]
    rfl
  | succ n ih =>
    intro d S σ hn hd g hR hs ho
    obtain ⟨d, rfl⟩ : ∃ g, d = g + 1 := ⟨d - 1, by omega⟩
    rw [f_M_valueOf, f_M_valueOf_S, if_pos (show ¬ nI (n + 1) = 0 from fun z => by have := (n_inj (b := 0) (by omega) (by decide)).mp z; omega)]
    obtain ⟨σ1, q1, q2⟩ := m_next0 (σ := σ) (o := o) (R := R) (by rw [hs]; exact g) ho.1 (by rw [hs]; exact hR)
    rw [q1, bnd_some, hs]
    obtain ⟨σ', t1, t2, t3, t4⟩ := m_val_l (n := n) (d := d) g hR (fun S σ => ih d S σ (by omega) (by omega)) 61 0 FU (-1) σ1 (by omega) (by rw [FU_eq]; omega) (Or.inl rfl) (by rw [q2.1 _ (by decide)]; exact hs) (by rw [q2.at (by decide)]; exact ho)
    have t1 : f_M_valueOf_S_14 (f_M_valueOf d) FU (nI (n + 1)) (1 : Int32) (nxI (nxtA S R o 0)) σ1 = _ := t1
    rw [t1]
    refine ⟨σ', ?_, (q2.mono (fun z hz => by rw [hz]; decide)).tr t2, t3, fun i i1 i2 => by rw [t4 i i1 i2, q2.at (by decide)]⟩
    have e : vaA 4 R o (n + 1) S = (canL S R o 0).foldl (jnF 4 R o n S) (-1) := by
      rw [vaA]
      by_cases h : doneP S o
      · rw [if_pos h, canL_done g.1.1 h 0]
        unfold edA
        rw [if_neg (by decide), if_neg (by decide), if_neg (by decide), if_pos rfl, if_pos (by omega)]
        rfl
      · rw [if_neg h]
        have e2 : fiA 4 S = -1 := by
          unfold fiA
          rw [if_neg (by decide), if_neg (by decide), if_neg (by decide), if_pos rfl]
        rw [e2]
    rw [e]
