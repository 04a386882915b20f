/-! the questions of the GAME, both sides -/
theorem fi4 (S : Nat → Int32) : fiA 4 S = -1 := by
  unfold fiA
  rw [if_neg (by decide), if_neg (by decide), if_neg (by decide), if_pos rfl]
theorem jn_m1 {R : List RU} {o : Nat → Bool} {n c : Nat} {S : Nat → Int32} : jnF 4 R o n S (-1) c = -(vaA 4 R o n (doC S R o c)) := by
  show jnA 4 (-1) (vaA 4 R o n (doC S R o c)) _ = _
  rw [jn4]
  rcases tri_va (R := R) (o := o) n (doC S R o c) with e | e | e <;> rw [e] <;> decide
theorem tri_neg {v : Int32} (h : tri v) : tri (-v) := by
  rcases h with e | e | e <;> subst e <;> decide
theorem gmv_inj {a b : Int32} (ha : tri a) (hb : tri b) : gmv a = gmv b ↔ a = b := by
  rcases ha with e | e | e <;> rcases hb with e2 | e2 | e2 <;> subst e <;> subst e2 <;> decide
def gamA (S : Nat → Int32) (R : List RU) (x : Int32) : Int32 := if 1 ≤ x ∧ x ≤ 6 then gmv (vaA 4 R nob (nx x) S) else -1
def fdA : Option Nat → Int32
  | none => -3
  | some c => nI c
def plaA (S : Nat → Int32) (R : List RU) (x : Int32) : Int32 := if 1 ≤ x ∧ x ≤ 6 then fdA ((canL S R nob 0).find? (pkA 4 R nob (nx x - 1) S)) else -1
theorem mq_isGame (x : Int32) (σ : SG) : f_M_isGame x σ = some (bI (1 ≤ x ∧ x ≤ 6), σ) := by
  unfold f_M_isGame
  rw [m_in32 (a := 1) (b := 6) (by decide) (by decide), bnd_some, gd01]
theorem n_16 {x : Int32} (hx : 1 ≤ x ∧ x ≤ 6) : ∃ n, n < 6 ∧ x = nI (n + 1) := by
  have h0 : (0 : Int32) ≤ x := by
    have := hx.1
    rw [i_le] at this ⊢
    exact Int.le_trans (by decide) this
  obtain ⟨n, hn, rfl⟩ := n_sp (b := 6) (by decide) h0 hx.2
  have h1 := (n_le (a := 1) (b := n) (by decide) (by omega)).mp hx.1
  exact ⟨n - 1, by omega, by congr 1; omega⟩
section QG
variable {σ : SG} {R : List RU} {ρ : Nat}
theorem cq_game (h : PS σ R ρ) (hr : ρ + 1 < 1099511627776) (x : Int32) : ∃ σ', f_H_game x σ = some (gamA (σ.1 149) R x, σ') ∧ CO σ σ' R ρ := by
  unfold f_H_game gamA
  rw [b_isIn, bnd_some]
  by_cases hx : 1 ≤ x ∧ x ≤ 6
  · obtain ⟨n, hn, rfl⟩ := n_16 hx
    rw [if_pos (bI_n0.mpr hx), if_pos hx, nx_nI (by omega)]
    obtain ⟨σ', q1, q2⟩ := cq_told h hr 4 (n := n + 1) (by omega)
    rw [q1, bnd_some]
    refine ⟨σ', ?_, q2⟩
    rcases tri_va (R := R) (o := nob) (n + 1) (σ.1 149) with e | e | e <;> rw [e]
    · rw [if_pos (by decide), if_neg (by decide)]; rfl
    · rw [if_pos (by decide), if_pos (by decide)]; rfl
    · rw [if_neg (by decide)]; rfl
  · rw [if_neg (fun z => z (bI_0.mpr hx)), if_neg hx]
    exact ⟨σ, rfl, CO.rf h⟩
theorem mo_of {σ' : SG} (h : PS σ R ρ) (q : GMO σ σ' (σ.1 149)) : MO σ σ' R ρ := ⟨q.1, h.m q.1 q.2.1 (q.2.2 4 (by decide) (by decide)), q.2.1, fun i _ i2 i3 => q.2.2 i i2 i3⟩
theorem mq_game (h : PS σ R ρ) (x : Int32) : ∃ σ', f_M_game x σ = some (gamA (σ.1 149) R x, σ') ∧ MO σ σ' R ρ := by
  unfold f_M_game gamA
  rw [mq_isGame, bnd_some]
  by_cases hx : 1 ≤ x ∧ x ≤ 6
  · obtain ⟨n, hn, rfl⟩ := n_16 hx
    rw [if_neg (bI_n0.mpr hx), if_pos hx, nx_nI (by omega)]
    obtain ⟨σ', q1, q2⟩ := m_valueOf (R := R) (o := nob) (n + 1) DP (σ.1 149) σ (by omega) (by show n + 1 < 12; omega) h.1 h.2.2.2.1 rfl (abs_nob h.2.2.2.2.1)
    rw [q1, bnd_some]
    exact ⟨σ', rfl, mo_of h q2⟩
  · rw [if_pos (bI_0.mpr hx), if_neg hx]
    exact ⟨σ, rfl, MO.rf h⟩
theorem cq_play (h : PS σ R ρ) (hr : ρ + 1 < 1099511627776) (x : Int32) : ∃ σ', f_H_play x σ = some (plaA (σ.1 149) R x, σ') ∧ CO σ σ' R ρ := by
  unfold f_H_play plaA
  rw [b_isIn, bnd_some]
  by_cases hx : 1 ≤ x ∧ x ≤ 6
  · obtain ⟨n, hn, rfl⟩ := n_16 hx
    rw [if_pos (bI_n0.mpr hx), if_pos hx, nx_nI (by omega), Nat.add_sub_cancel]
    obtain ⟨σ', q1, q2, q3⟩ := cq_first h hr 4 (n := n + 1) (by omega)
    have hlt : vaA 4 R nob (n + 1) (σ.1 149) < (1000000 : Int32) := by
      rcases tri_va (R := R) (o := nob) (n + 1) (σ.1 149) with e | e | e <;> rw [e] <;> decide
    have q3 := q3 hlt
    rw [q1, bnd_some, if_pos hlt]
    refine ⟨σ', ?_, q2⟩
    rw [fsA] at q3 ⊢
    cases hf : (canL (σ.1 149) R nob 0).find? (pkA 4 R nob n (σ.1 149)) with
    | none =>
      show (if nI 0 ≤ 0 then some ((-3 : Int32), σ') else some (σ'.1 126 0, σ')) = some ((-3 : Int32), σ')
      rw [if_pos (by decide)]
    | some c =>
      rw [hf] at q3
      have e0 := q3 0 c rfl
      have hl := rows_len (R := R) (o := nob)
      show (if nI (fsA 4 R nob n (doC (σ.1 149) R nob c)).length.succ ≤ 0 then _ else _) = _
      have hb : ∀ (n : Nat) (S : Nat → Int32), (fsA 4 R nob n S).length ≤ n := by
        intro n
        induction n with
        | zero => intro S; exact Nat.le_refl _
        | succ n ih =>
          intro S
          rw [fsA]
          cases (canL S R nob 0).find? (pkA 4 R nob n S) with
          | none => exact Nat.zero_le _
          | some c => exact Nat.succ_le_succ (ih _)
      have := hb n (doC (σ.1 149) R nob c)
      rw [if_neg (show ¬ nI (fsA 4 R nob n (doC (σ.1 149) R nob c)).length.succ ≤ 0 from nI_ge (a := 0) (Nat.succ_pos _) (by omega)), e0]
      rfl
  · rw [if_neg (fun z => z (bI_0.mpr hx)), if_neg hx]
    exact ⟨σ, rfl, CO.rf h⟩
theorem m_play_l {S : Nat → Int32} {n : Nat} (hn : n < 6) (g : GD S) (hR : RMt S R) : ∀ (k a f : Nat) (σ : SG), 61 ≤ a + k → k < f → σ.1 149 = S → absQ (σ.1 148 4) nob → ∃ σ', f_M_play_21 f (nI (n + 1)) (gmv (vaA 4 R nob (n + 1) S)) (nxI (nxtA S R nob a)) σ = some (fdA ((canL S R nob a).find? (pkA 4 R nob n S)), σ') ∧ GMO σ σ' S := by
  have h6 : ppN S ≤ 6 := g.1.1
  intro k
  induction k with
  | zero =>
    intro a f σ hk hf hs ho
    obtain ⟨f, rfl⟩ : ∃ g, f = g + 1 := ⟨f - 1, by omega⟩
    rw [f_M_play_21, canL_eq, nxtA_end h6 (by omega)]
    exact ⟨σ, if_pos (by decide), fr.rf, hs, fun _ _ _ => rfl⟩
  | succ k ih =>
    intro a f σ hk hf hs ho
    obtain ⟨f, rfl⟩ : ∃ g, f = g + 1 := ⟨f - 1, by omega⟩
    rw [f_M_play_21, canL_eq]
    cases hx : nxtA S R nob a with
    | none => exact ⟨σ, if_pos (by decide), fr.rf, hs, fun _ _ _ => rfl⟩
    | some c =>
      obtain ⟨hca, hcan, hin⟩ := nxtA_some hx
      have hc60 : c < 60 := CHl_lt c hin
      rw [show nxI (some c) = nI c from rfl, if_neg (nI_pos (by omega))]
      obtain ⟨σ1, q1, q2, q3, q4⟩ := m_valueBy (d := DP) (n := n) g hR hs ho hc60 hcan (fun S σ g hR hs ho => m_valueOf n DP S σ (by omega) (by show n < 12; omega) g hR hs ho)
      rw [q1, bnd_some]
      have ho1 : absQ (σ1.1 148 4) nob := by rw [q4 4 (by decide) (by decide)]; exact ho
      have hiff : gmv (-(vaA 4 R nob n (doC S R nob c))) = gmv (vaA 4 R nob (n + 1) S) ↔ jnF 4 R nob n S (fiA 4 S) c = vaA 4 R nob (n + 1) S := by
        rw [gmv_inj (tri_neg (tri_va _ _)) (tri_va _ _), fi4, jn_m1]
      show ∃ σ', _ = some (fdA ((c :: canL S R nob (c + 1)).find? (pkA 4 R nob n S)), σ') ∧ _
      by_cases hp : jnF 4 R nob n S (fiA 4 S) c = vaA 4 R nob (n + 1) S
      · rw [if_neg (fun z => z (hiff.mpr hp)), List.find?_cons, show pkA 4 R nob n S c = true from decide_eq_true hp]
        exact ⟨σ1, rfl, q2, q3, q4⟩
      · rw [if_pos (fun z => hp (hiff.mp z)), List.find?_cons, show pkA 4 R nob n S c = false from decide_eq_false hp]
        obtain ⟨σ2, s1, s2⟩ := m_nextS (c := c) (σ := σ1) (by rw [q3]; exact g) ho1.1 (by rw [q3]; exact hR) hc60
        rw [s1, bnd_some, q3]
        obtain ⟨σ', t1, t2, t3, t4⟩ := ih (c + 1) f σ2 (by omega) (by omega) (by rw [s2.1 _ (by decide)]; exact q3) (by rw [s2.at (by decide)]; exact ho1)
        exact ⟨σ', t1, (q2.tr (s2.mono (fun z hz => by rw [hz]; decide))).tr t2, t3, fun i i1 i2 => by rw [t4 i i1 i2, s2.at (by decide), q4 i i1 i2]⟩
theorem mq_play (h : PS σ R ρ) (x : Int32) : ∃ σ', f_M_play x σ = some (plaA (σ.1 149) R x, σ') ∧ MO σ σ' R ρ := by
  unfold f_M_play plaA
  rw [mq_isGame, bnd_some]
  by_cases hx : 1 ≤ x ∧ x ≤ 6
  · obtain ⟨n, hn, rfl⟩ := n_16 hx
    rw [if_pos (bI_n0.mpr hx), if_pos hx, nx_nI (by omega), Nat.add_sub_cancel]
    obtain ⟨σ1, q1, q2, q3, q4⟩ := m_valueOf (R := R) (o := nob) (n + 1) DP (σ.1 149) σ (by omega) (by show n + 1 < 12; omega) h.1 h.2.2.2.1 rfl (abs_nob h.2.2.2.2.1)
    have ho1 : absQ (σ1.1 148 4) nob := by rw [q4 4 (by decide) (by decide)]; exact abs_nob h.2.2.2.2.1
    rw [q1, bnd_some]
    obtain ⟨σ2, s1, s2⟩ := m_next0 (σ := σ1) (o := nob) (R := R) (by rw [q3]; exact h.1) ho1.1 (by rw [q3]; exact h.2.2.2.1)
    rw [s1, bnd_some, q3]
    obtain ⟨σ', t1, t2, t3, t4⟩ := m_play_l hn h.1 h.2.2.2.1 61 0 FU σ2 (by omega) (by rw [FU_eq]; omega) (by rw [s2.1 _ (by decide)]; exact q3) (by rw [s2.at (by decide)]; exact ho1)
    exact ⟨σ', t1, mo_of h ⟨(q2.tr (s2.mono (fun z hz => by rw [hz]; decide))).tr t2, t3, fun i i1 i2 => by rw [t4 i i1 i2, s2.at (by decide), q4 i i1 i2]⟩⟩
  · rw [if_neg (fun z => z (bI_0.mpr hx)), if_neg hx]
    exact ⟨σ, rfl, MO.rf h⟩
end QG
