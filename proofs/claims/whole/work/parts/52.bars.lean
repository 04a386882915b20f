/-! WHO BARS IT, both sides -/
theorem fm_len {α β : Type} {B : Nat} (g : α → List β) : ∀ l : List α, (∀ x ∈ l, (g x).length ≤ B) → (l.flatMap g).length ≤ l.length * B := by
  intro l
  induction l with
  | nil => intro _; exact Nat.zero_le _
  | cons x l ih =>
    intro h
    have h1 := h x List.mem_cons_self
    have h2 := ih (fun y hy => h y (List.mem_cons_of_mem _ hy))
    rw [List.flatMap_cons, List.length_append, List.length_cons, Nat.succ_mul]
    omega
theorem rows_cnt {R : List RU} {o : Nat → Bool} : ∀ (n : Nat) (S : Nat → Int32), (rowsA R o n S).length ≤ 21 ^ n := by
  intro n
  induction n with
  | zero =>
    intro S
    rw [rowsA]
    by_cases h : doneP S o
    · rw [if_pos h]; exact Nat.le_refl _
    · rw [if_neg h]; exact Nat.zero_le _
  | succ n ih =>
    intro S
    rw [rowsA]
    by_cases h : doneP S o
    · rw [if_pos h]; exact Nat.one_le_pow _ _ (by decide)
    · rw [if_neg h]
      have h1 := fm_len (fun c => (rowsA R o n (doC S R o c)).map fun r => (c :: r.1, paC S R o c + r.2)) (canL S R o 0) (fun c _ => by rw [List.length_map]; exact ih _)
      have h2 : (canL S R o 0).length ≤ 21 := List.length_filter_le _ _
      have h3 : (canL S R o 0).length * 21 ^ n ≤ 21 * 21 ^ n := Nat.mul_le_mul_right _ h2
      rw [Nat.pow_succ, Nat.mul_comm (21 ^ n)]
      exact Nat.le_trans h1 h3
theorem rows_31 {R : List RU} {o : Nat → Bool} {n : Nat} (hn : n ≤ 6) (S : Nat → Int32) : (rowsA R o n S).length < 2147483648 := by
  have h1 := rows_cnt (R := R) (o := o) n S
  have h2 : 21 ^ n ≤ 21 ^ 6 := Nat.pow_le_pow_right (by decide) hn
  have h3 : (21 : Nat) ^ 6 < 2147483648 := by decide
  omega
theorem mn_nil {f : ROW → Nat} {L : List ROW} (h : ∀ r ∈ L, f r < 1000000) : mn f L < 1000000 ↔ L ≠ [] := by
  constructor
  · intro z e
    rw [e] at z
    exact absurd z (Nat.lt_irrefl _)
  · intro e
    obtain ⟨x, hx⟩ := List.exists_mem_of_ne_nil L e
    have h1 := (mn_lb (f := f) L 1000000).2 x hx
    have h1 : mn f L ≤ f x := h1
    have := h x hx
    omega
theorem rowl_lt' {R : List RU} {o : Nat → Bool} {S : Nat → Int32} {n : Nat} (hn : n ≤ 6) : ∀ r ∈ rowsA R o n S, r.1.length < 1000000 := fun r hr => by
  have := rows_len n _ r hr
  omega
/-- without p -/
def one (p : Nat) : Nat → Bool := fun q => decide (q = p)
theorem one_w : ∀ p, p < 6 → (1 : Int32) <<< (nI p &&& 31) = nI (wN (one p)) := by decide +kernel
theorem abs_one {x : Int32} {p : Nat} (hp : p < 6) (h : x = nI p) : absQ x (one p) := by
  refine ⟨fun q hq => ?_, Or.inr ⟨p, hp, h⟩⟩
  unfold one
  rw [decide_eq_true_eq, h, n_inj (by omega) (by omega)]
  exact ⟨fun e => e.symm, fun e => e.symm⟩
def brB (R : List RU) (S : Nat → Int32) (p : Nat) : Bool := decide (rowsA R (one p) 6 S ≠ [])
def barA (S : Nat → Int32) (R : List RU) : Int32 := if rowsA R nob 6 S ≠ [] then 0 else nI (wN (bel (ppN S) (brB R S)))
theorem va_lt {R : List RU} {o : Nat → Bool} {S : Nat → Int32} : (1000000 : Int32) ≤ vaA 0 R o 6 S ↔ rowsA R o 6 S = [] := by
  have h1 := mn_le (fun r => r.1.length) (rowsA R o 6 S)
  have h2 := mn_nil (rowl_lt' (R := R) (o := o) (S := S) (n := 6) (by decide))
  rw [va_len]
  generalize mn (fun r => r.1.length) (rowsA R o 6 S) = z at h1 h2
  have h3 : (1000000 : Int32) ≤ nI z ↔ 1000000 ≤ z := n_le (by decide) (by omega)
  rw [h3]
  constructor
  · intro h
    by_cases e : rowsA R o 6 S = []
    · exact e
    · have := h2.mpr e
      omega
  · intro e
    have : ¬ z < 1000000 := fun q => h2.mp q e
    omega
theorem mb_l {R : List RU} {S : Nat → Int32} (g : GD S) (hR : RMt S R) : ∀ (d p f : Nat) (σ : SG), p + d = ppN S → d < f → σ.1 149 = S → σ.1 148 11 = 0 → σ.1 148 4 = -1 → ∃ σ', f_M_bars_10 f (nI (wN (bel p (brB R S)))) (nI p) σ = some (nI (wN (bel (ppN S) (brB R S))), σ') ∧ fr Lgo σ σ' ∧ σ'.1 149 = S ∧ σ'.1 148 4 = -1 ∧ ∀ i, ¬ (11 ≤ i ∧ i ≤ 15) → i ≠ 4 → i ≠ 6 → i ≠ 7 → σ'.1 148 i = σ.1 148 i := by
  have h6 : ppN S ≤ 6 := g.1.1
  have e0 : S 0 = nI (ppN S) := g.1.2
  intro d
  induction d with
  | zero =>
    intro p f σ hk hf hs h11 h4
    obtain ⟨f, rfl⟩ : ∃ g, f = g + 1 := ⟨f - 1, by omega⟩
    have ep : p = ppN S := hk
    rw [f_M_bars_10, hs, e0, if_pos (by rw [ep]; exact Int32.le_refl _), ep]
    exact ⟨σ, rfl, fr.rf, hs, h4, fun _ _ _ _ _ => rfl⟩
  | succ d ih =>
    intro p f σ hk hf hs h11 h4
    obtain ⟨f, rfl⟩ : ∃ g, f = g + 1 := ⟨f - 1, by omega⟩
    rw [f_M_bars_10, hs, e0, if_neg (nI_ge (show p < ppN S by omega) (by omega)), if_neg (fun z => z h11), sx_eq]
    have hp : p < 6 := by omega
    have f1 : fr (fun c => c = 148) σ (uI σ 148 4 (nI p)) := fr.uI rfl
    obtain ⟨σ2, q1, q2, q3, q4, q5⟩ := m_goesAll (S := S) (R := R) (o := one p) (N := 6) (σ := uI σ 148 4 (nI p)) (by decide) (by rw [uIc (by decide)]; exact hs) g hR (abs_one hp uI_same)
    have q1 : f_M_goesAll (6 : Int32) (uI σ 148 4 (nI p)) = _ := q1
    rw [q1, bnd_some, q4.1]
    have fin : ∃ σ', f_M_bars_10 f (nI (wN (bel (p + 1) (brB R S)))) (nI (p + 1)) (uI (uI σ2 148 4 (-1)) 148 11 0) = some (nI (wN (bel (ppN S) (brB R S))), σ') ∧ fr Lgo σ σ' ∧ σ'.1 149 = S ∧ σ'.1 148 4 = -1 ∧ ∀ i, ¬ (11 ≤ i ∧ i ≤ 15) → i ≠ 4 → i ≠ 6 → i ≠ 7 → σ'.1 148 i = σ.1 148 i := by
      have f3 : fr (fun c => c = 148) σ2 (uI (uI σ2 148 4 (-1)) 148 11 0) := fr.tr fr_u1 fr_u1
      obtain ⟨σ', t1, t2, t3, t4, t5⟩ := ih (p + 1) f (uI (uI σ2 148 4 (-1)) 148 11 0) (by omega) (by omega) (by rw [uIc (by decide), uIc (by decide)]; exact q3) uI_same (by rw [uI_i (by decide), uI_same])
      refine ⟨σ', t1, (((f1.mono (fun z hz => by rw [hz]; decide)).tr q2).tr (f3.mono (fun z hz => by rw [hz]; decide))).tr t2, t3, t4, fun i i1 i2 i3 i4 => ?_⟩
      rw [t5 i i1 i2 i3 i4, uI_i (by omega), uI_i i2, q5 i i1 i3 i4, uI_i i2]
    have hlen := rows_31 (R := R) (o := one p) (n := 6) (by decide) S
    by_cases hb : rowsA R (one p) 6 S = []
    · rw [if_pos (show nI (rowsA R (one p) 6 S).length ≤ 0 by rw [hb]; decide), lx_eq, sx_eq, sx_eq, lx_eq, nI_1]
      have e : nI (wN (bel p (brB R S))) ||| (0 : Int32) = nI (wN (bel (p + 1) (brB R S))) := by
        rw [← bel_N (f := brB R S) (j := p) (by unfold brB; rw [hb]; decide)]
        exact Int32.or_zero
      rw [e]
      exact fin
    · have hpos : 0 < (rowsA R (one p) 6 S).length := List.length_pos_iff.mpr hb
      rw [if_neg (show ¬ nI (rowsA R (one p) 6 S).length ≤ 0 from nI_ge (a := 0) hpos hlen), lx_eq, sx_eq, sx_eq, lx_eq, nI_1, bel_S hp (by unfold brB; exact decide_eq_true hb)]
      exact fin
theorem mq_bars {σ : SG} {R : List RU} {ρ : Nat} (h : PS σ R ρ) : ∃ σ', f_M_bars σ = some (barA (σ.1 149) R, σ') ∧ fr Lgo σ σ' ∧ PS σ' R ρ ∧ σ'.1 149 = σ.1 149 ∧ ∀ i, ¬ (11 ≤ i ∧ i ≤ 15) → i ≠ 6 → i ≠ 7 → σ'.1 148 i = σ.1 148 i := by
  unfold f_M_bars barA
  have g := h.1
  have h6 : ppN (σ.1 149) ≤ 6 := g.1.1
  have e0 : σ.1 149 0 = nI (ppN (σ.1 149)) := g.1.2
  obtain ⟨σ1, q1, ⟨q2, q3, q4, q5⟩, q6⟩ := mq_go h (n := 6) (by decide)
  have q1 : f_M_goesAll (6 : Int32) σ = _ := q1
  have e4 : σ1.1 148 4 = -1 := q3.2.2.2.2.1
  rw [q1, bnd_some]
  have hlen := rows_31 (R := R) (o := nob) (n := 6) (by decide) (σ.1 149)
  by_cases hb : rowsA R nob 6 (σ.1 149) = []
  · rw [if_neg (fun z => z hb)]
    obtain ⟨σ', t1, t2, t3, t4, t5⟩ := mb_l g h.2.2.2.1 (ppN (σ.1 149)) 0 FU σ1 (by omega) (by rw [FU_eq]; omega) q4 (by rw [q6.1, hb]; rfl) e4
    rw [bel_0] at t1
    have t1 : f_M_bars_10 FU (0 : Int32) (0 : Int32) σ1 = _ := t1
    have w : ∀ i, ¬ (11 ≤ i ∧ i ≤ 15) → i ≠ 6 → i ≠ 7 → σ'.1 148 i = σ.1 148 i := fun i i1 i2 i3 => by
      by_cases i4 : i = 4
      · rw [i4, t4, h.2.2.2.2.1]
      · rw [t5 i i1 i4 i2 i3, q5 i i1 i2 i3]
    exact ⟨σ', t1, q2.tr t2, h.m (q2.tr t2) t3 (w 4 (by decide) (by decide) (by decide)), t3, w⟩
  · rw [if_pos hb]
    refine ⟨σ1, ?_, q2, q3, q4, q5⟩
    have hpos : 0 < (rowsA R nob 6 (σ.1 149)).length := List.length_pos_iff.mpr hb
    rw [show FU = 1999 + 1 from rfl, f_M_bars_10]
    by_cases hz : σ1.1 149 0 ≤ 0
    · rw [if_pos hz]
    · rw [if_neg hz, if_pos (fun z => by rw [q6.1] at z; have := (n_inj (b := 0) hlen (by decide)).mp z; omega)]
/-- many questions at once -/
abbrev CM (σ σ' : SG) (R : List RU) (ρ : Nat) : Prop := frC σ σ' ∧ ∃ ρ', ρ ≤ ρ' ∧ ρ' ≤ ρ + 100 ∧ PS σ' R ρ'
theorem oin_one {S : Nat → Int32} {p : Nat} (h : p < ppN S) : oin S (one p) := fun q _ z => by
  have e : q = p := of_decide_eq_true z
  rw [e]
  exact h
theorem cb_l {a : Nat} {R : List RU} {S : Nat → Int32} (g : GD S) : ∀ (d p f ρ : Nat) (σ : SG), p + d = ppN S → d < f → TV 90 σ S → σ.1 90 8 = nI (wN (whS S fun _ => false)) → RLt 90 σ R → SV ρ σ → ρ + d < 1099511627776 → ∃ σ', f_Se_whoBars_30 a f (nI (wN (bel p (brB R S)))) (nI p) σ = some (nI (wN (bel (ppN S) (brB R S))), σ') ∧ frT σ σ' ∧ SV (ρ + d) σ' := by
  have h6 : ppN S ≤ 6 := g.1.1
  have e0 : S 0 = nI (ppN S) := g.1.2
  intro d
  induction d with
  | zero =>
    intro p f ρ σ hk hf hT h8 hR hv hr
    obtain ⟨f, rfl⟩ : ∃ g, f = g + 1 := ⟨f - 1, by omega⟩
    have ep : p = ppN S := hk
    rw [f_Se_whoBars_30, hT.1, e0, if_pos (by rw [ep]; exact Int32.le_refl _), ep, sx_eq]
    have f1 : fr (fun c => 90 ≤ c ∧ c ≤ 104) σ (uI σ 90 9 (0 : Int32)) := fr.uI (by decide)
    exact ⟨_, rfl, frT.of f1, hv⟩
  | succ d ih =>
    intro p f ρ σ hk hf hT h8 hR hv hr
    obtain ⟨f, rfl⟩ : ∃ g, f = g + 1 := ⟨f - 1, by omega⟩
    have hp : p < 6 := by omega
    rw [f_Se_whoBars_30, hT.1, e0, if_neg (nI_ge (show p < ppN S by omega) (by omega)), sx_eq, one_w p hp]
    have f1 : fr (fun c => 90 ≤ c ∧ c ≤ 104) σ (uI σ 90 9 (nI (wN (one p)))) := fr.uI (by decide)
    have T1 : TWR 90 (uI σ 90 9 (nI (wN (one p)))) S (one p) := TV.tw (hT.own (by decide) (by decide)) uI_same (by rw [uI_i (by decide)]; exact h8)
    obtain ⟨σ2, q1, q2, q3⟩ := b_ask (σ := uI σ 90 9 (nI (wN (one p)))) (md := 0) (ρ := ρ) (o := one p) hv (by omega) T1 g (hR.cong (fun c c1 c2 => uIc (by omega))) (oin_one (by omega))
    rw [q1, bnd_some]
    obtain ⟨σ3, r1, r2, r3⟩ := b_solve 6 DP S σ2 (by decide) (by decide) q3
    have r1 : f_Se_solve DP (6 : Int32) σ2 = _ := r1
    rw [r1, bnd_some]
    have f3 : frT σ σ3 := ((frT.of f1).tr q2).tr (frT.so r2)
    obtain ⟨σ4, t1, t2, t3⟩ := ih (p + 1) f (ρ + 1) σ3 (by omega) (by omega) r3.1.tv r3.1.2.2.2.1 r3.2.2.1 r3.sv (by omega)
    have fin : ∃ σ', f_Se_whoBars_30 a f (nI (wN (bel (p + 1) (brB R S)))) (nI (p + 1)) σ3 = some (nI (wN (bel (ppN S) (brB R S))), σ') ∧ frT σ σ' ∧ SV (ρ + (d + 1)) σ' := ⟨σ4, t1, f3.tr t2, by rw [show ρ + (d + 1) = ρ + 1 + d by omega]; exact t3⟩
    by_cases hb : rowsA R (one p) 6 S = []
    · rw [if_pos (va_lt.mpr hb), lx_eq, nI_1, bel_N (f := brB R S) (j := p) (by unfold brB; rw [hb]; decide)]
      exact fin
    · rw [if_neg (fun z => hb (va_lt.mp z)), lx_eq, lx_eq, nI_1, r3.1.2.2.1, ← one_w p hp, bel_S hp (by unfold brB; exact decide_eq_true hb)]
      exact fin
theorem cq_bars {σ : SG} {R : List RU} {ρ : Nat} (h : PS σ R ρ) (hr : ρ + 100 < 1099511627776) : ∃ σ', f_H_bars σ = some (barA (σ.1 149) R, σ') ∧ CM σ σ' R ρ := by
  unfold f_H_bars f_Se_whoBars barA
  have h6 : ppN (σ.1 149) ≤ 6 := h.1.1.1
  obtain ⟨σ1, q1, q2, q3, q4⟩ := b_copyPlay (t := 90) (by decide) h.2.1 h.2.2.1
  rw [q1, bnd_some]
  have v1 : SV ρ σ1 := by unfold SV; rw [q2.2]; exact h.2.2.2.2.2
  obtain ⟨σ2, r1, r2, r3⟩ := b_ask (md := 0) v1 (by omega) q3 h.1 q4 (oin_nob _)
  rw [r1, bnd_some]
  obtain ⟨σ3, s1, s2, s3⟩ := b_solve 6 DP (σ.1 149) σ2 (by decide) (by decide) r3
  have s1 : f_Se_solve DP (6 : Int32) σ2 = _ := s1
  rw [s1, bnd_some]
  have f3 : frT σ σ3 := ((frT.of q2).tr r2).tr (frT.so s2)
  by_cases hb : rowsA R nob 6 (σ.1 149) = []
  · rw [if_pos (va_lt.mpr hb), if_neg (fun z => z hb)]
    obtain ⟨σ4, t1, t2, t3⟩ := cb_l (a := 20) h.1 (ppN (σ.1 149)) 0 FU (ρ + 1) σ3 (by omega) (by rw [FU_eq]; omega) s3.1.tv s3.1.2.2.2.1 s3.2.2.1 s3.sv (by omega)
    rw [bel_0] at t1
    have t1 : f_Se_whoBars_30 20 FU (0 : Int32) (0 : Int32) σ3 = _ := t1
    rw [t1, bnd_some]
    exact ⟨σ4, rfl, frC.of (f3.tr t2), ρ + 1 + ppN (σ.1 149), by omega, by omega, h.c (frC.of (f3.tr t2)) t3⟩
  · rw [if_neg (fun z => hb (va_lt.mp z)), if_pos hb, bnd_some]
    exact ⟨σ3, rfl, frC.of f3, ρ + 1, by omega, by omega, h.c (frC.of f3) s3.sv⟩
