/-! the reference READS conditions: not, within, and, or -/
section M4
variable {n : Nat} {tp : Nat → Nat}
theorem m_in65w {fR : SG → Option (Unit × SG)} (hN : MNq n tp fR) {x1 xs0 : Int32} {σ : SG} {a w : Nat} (h : MK n tp σ a w) (hw : w ≤ 1) (hx : w = 1 ∨ xs0 = 0) : ∃ σ', f_M_one_65 fR x1 xs0 σ = some ((), σ') ∧ MK n tp σ' a 1 ∧ FMq σ σ' := by
  obtain ⟨σ1, u1, u2, u3⟩ := m_wants0 h hw hx
  have g1 : F48 (fun i => i = 30) σ1 (uI σ1 148 30 (σ1.1 148 30 + 1)) := F48.u rfl
  obtain ⟨σ3, w1, w2, w3⟩ := hN _ a (u2.f48 g1 (by decide) (by decide) (by decide) (by decide))
  have g2 : F48 (fun i => i = 30) σ3 (uI σ3 148 30 (σ3.1 148 30 - 1)) := F48.u rfl
  have k4 := w2.f48 g2 (by decide) (by decide) (by decide) (by decide)
  obtain ⟨σ5, v1, v2, v3⟩ := m_wants0 k4 (Nat.le_refl _) (x := 0) (Or.inl rfl)
  refine ⟨σ5, ?_, v2, ((((u3.fm (fun i hi => by omega)).tr (g1.fm (fun i hi => by omega))).tr w3).tr (g2.fm (fun i hi => by omega))).tr (v3.fm (fun i hi => by omega))⟩
  unfold f_M_one_65
  rw [u1, bnd_some, sx_eq, w1, bnd_some, sx_eq, k4.2.2.2, if_pos (by decide), v1, bnd_some, m_writes0 v2]
  by_cases c : x1 = 0
  · rw [if_pos c]
  · rw [if_neg c]; rfl
theorem m_end {σ σ1 : SG} {a c o s0 : Nat} {r : PR} {b : Bool} (hca : c ≤ a) (t : TPm σ1 n tp) (q : MOq n tp σ c r o σ1) (ok : okR1 (TT n tp) s0 a r) (g : FMq σ σ1) : ∃ σ', (if bI (b = true) = 0 then some ((), σ1) else bnd (f_M_writes (-20 : Int32) σ1) (fun _ σ3 => some ((), σ3))) = some ((), σ') ∧ MOq n tp σ c (pThen r (fun c L => (c, some (L ++ notL b)))) o σ' ∧ FMq σ σ' := by
  obtain ⟨e, L⟩ := r
  cases b with
  | false =>
    rw [if_pos (bI_0.mpr (by decide))]
    refine ⟨σ1, rfl, ?_, g⟩
    cases L with
    | none => exact q
    | some L =>
      have e : L ++ notL false = L := List.append_nil L
      show MOq n tp σ c (_, some (L ++ notL false)) o σ1
      rw [e]
      exact q
  | true =>
    rw [if_neg (bI_n0.mpr rfl)]
    cases L with
    | none =>
      have q : MK n tp σ1 e 1 := q
      rw [m_writes0 q, bnd_some]
      exact ⟨σ1, rfl, q, g⟩
    | some L =>
      obtain ⟨w1, w2⟩ := q
      obtain ⟨-, o2, o3⟩ := ok
      obtain ⟨y0, y1, y2, -, -⟩ := o3 L rfl
      have o2 : PO (TT n tp) e := o2
      have y1 : (L.flatMap expM).length + a ≤ e := y1
      have w1 : MRq n tp σ1 e o (c + (L.flatMap expM).length) := w1
      have y4 := o2.mx t
      obtain ⟨σ2, q1, q2, q3, q4⟩ := m_writes w1 (by omega) (-20)
      rw [q1, bnd_some]
      refine ⟨σ2, rfl, ?_, g.tr q4⟩
      show MRq n tp σ2 e o (c + ((L ++ [(5, 0, 0)]).flatMap expM).length) ∧ CMq σ σ2 c ((L ++ [(5, 0, 0)]).flatMap expM)
      rw [List.flatMap_append]
      show MRq n tp σ2 e o (c + (L.flatMap expM ++ [(-20 : Int32)]).length) ∧ CMq σ σ2 c (L.flatMap expM ++ [(-20 : Int32)])
      rw [List.length_append, List.length_singleton]
      exact ⟨q2, w2.app q3⟩
theorem m_onew {fR : SG → Option (Unit × SG)} : MNq n tp (f_M_one fR) := by
  intro σ a h
  obtain ⟨v, q1, q2, q3⟩ := m_word h (Nat.le_refl _)
  have e17 : lg_cmp (lN v) (14836 : Int64) = 0 ↔ (30000 : Nat) = 10017 := lgk 17 (by decide) (by decide) q2 (q3 17 (by decide))
  obtain ⟨σ', u1, u2, u3⟩ := m_compw σ a h
  refine ⟨σ', ?_, u2, u3⟩
  unfold f_M_one
  obtain ⟨m, em⟩ : ∃ m, FU = m + 1 := ⟨FU - 1, by rw [FU_eq]⟩
  rw [em, f_M_one_2, q1, bnd_some, if_pos (fun z => by have := e17.mp z; omega), h.2.2.2, if_pos (by decide), u1, bnd_some, if_pos rfl]
theorem m_one2 {fR : SG → Option (Unit × SG)} {C : Nat → Nat → PR} {o s0 : Nat} (ho : o ≤ 3) (h8 : s0 ≤ 8) (hC : o < 3 → MSq n tp (o + 1) fR (C (o + 1))) (hN : MNq n tp fR) (hO : o < 3 → okP (TT n tp) s0 (C (o + 1))) : ∀ (f k m a c : Nat) (b : Bool) (σ : SG), f + k = 201 → f < m → k ≤ a → MRq n tp σ a o c → PO (TT n tp) a → c ≤ a → ∃ σ', f_M_one_2 fR m (bI (b = true)) σ = some ((), σ') ∧ MOq n tp σ c (pThen (if TT n tp (pNot (TT n tp) f a b).1 = 20040 then pIn (TT n tp) C o (pNot (TT n tp) f a b).1 else pCmp (TT n tp) (pNot (TT n tp) f a b).1) (fun c L => (c, some (L ++ notL (pNot (TT n tp) f a b).2)))) o σ' ∧ FMq σ σ' := by
  intro f
  induction f with
  | zero =>
    intro k m a c b σ hk hm hka h hp hca
    have := hp.mx h.1.1
    omega
  | succ f ih =>
    intro k m a c b σ hk hm hka h hp hca
    obtain ⟨m, rfl⟩ : ∃ g, m = g + 1 := ⟨m - 1, by omega⟩
    have ha := hp.mx h.1.1
    have hb := h.1.1.b
    have hB := BT_le (n := n) (tp := tp) a
    have hn := h.1.1.2.1
    obtain ⟨v, q1, q2, q3⟩ := m_word h.1 (by decide)
    have e17 : lg_cmp (lN v) (14836 : Int64) = 0 ↔ TT n tp a = 10017 := lgk 17 (by decide) (by decide) q2 (q3 17 (by decide))
    rw [f_M_one_2, q1, bnd_some, pNot]
    by_cases h2 : TT n tp a = 10017
    · have p1 : PO (TT n tp) (a + 1) := hp.next (by omega)
      obtain ⟨σ1, w1, w2, w3⟩ := m_wants1 h.1
      have k1 : MRq n tp σ1 (a + 1) o c := ⟨w2, (w3.2 30 (by decide)).trans h.2.1, (w3.2 31 (by decide)).trans h.2.2⟩
      rw [if_neg (fun z => z (e17.mpr h2)), if_pos h2, w1, bnd_some, bnd_some]
      have key : ∀ b2 : Bool, (if ¬ bI (b2 = true) = 0 then f_M_one_2 fR m (0 : Int32) σ1 else f_M_one_2 fR m (1 : Int32) σ1) = f_M_one_2 fR m (bI ((!b2) = true)) σ1 := by
        intro b2
        cases b2 with
        | false => rw [if_neg (fun z => z (bI_0.mpr (by decide)))]; rfl
        | true => rw [if_pos (bI_n0.mpr rfl)]; rfl
      rw [key b]
      obtain ⟨σ', u1, u2, u3⟩ := ih (k + 1) m (a + 1) c (!b) σ1 (by omega) (by omega) (by omega) k1 p1 (by omega)
      refine ⟨σ', u1, ?_, (w3.fm (fun i hi => by omega)).tr u3⟩
      generalize pThen _ _ = r at u2 ⊢
      obtain ⟨e, L⟩ := r
      cases L with
      | none => exact u2
      | some L => exact ⟨u2.1, u2.2.pre w3.s⟩
    · rw [if_pos (fun z => h2 (e17.mp z)), if_neg h2, h.1.2.2.2, if_neg (fun z => z rfl), h.1.2.1, m_byteAt h.1.1 (by omega), bnd_some]
      have s40 : BA n tp (BT n tp a) = (40 : Int32) ↔ TT n tp a = 20040 := T_sym hb a (s := 40) (by decide) (by decide) (by decide)
      show ∃ σ', _ = _ ∧ MOq n tp σ c (pThen (if TT n tp a = 20040 then pIn (TT n tp) C o a else pCmp (TT n tp) a) (fun c L => (c, some (L ++ notL b)))) o σ' ∧ FMq σ σ'
      by_cases h3 : TT n tp a = 20040
      · have p1 : PO (TT n tp) (a + 1) := hp.next (by omega)
        rw [if_neg (fun z => z (s40.mpr h3)), if_pos h3, h.2.1]
        unfold pIn
        by_cases h4 : o < 3
        · rw [if_neg (show ¬ (3 : Int32) ≤ nI o from nI_ge (show o < 3 from h4) (by decide)), if_pos h4]
          unfold f_M_one_65
          obtain ⟨σ1, w1, w2, w3⟩ := m_wants1 h.1
          rw [w1, bnd_some, sx_eq, (w3.2 30 (by decide)).trans h.2.1, nI_1]
          have g1 : F48 (fun i => i = 30) σ1 (uI σ1 148 30 (nI (o + 1))) := F48.u rfl
          have k1 : MRq n tp (uI σ1 148 30 (nI (o + 1))) (a + 1) (o + 1) c := ⟨w2.f48 g1 (by decide) (by decide) (by decide) (by decide), uI_same, (g1.2 31 (by decide)).trans ((w3.2 31 (by decide)).trans h.2.2)⟩
          obtain ⟨σ3, y1, y2, y3⟩ := hC h4 _ (a + 1) c k1 p1 (by omega)
          obtain ⟨o1, o2, o3⟩ := hO h4 (a + 1) p1
          rw [y1, bnd_some, sx_eq]
          have f1 : FMq σ σ3 := ((w3.fm (fun i hi => by omega)).tr (g1.fm (fun i hi => by omega))).tr y3
          cases hr : C (o + 1) (a + 1) with
          | mk e L =>
            rw [hr] at y2 o1 o2 o3
            cases L with
            | none =>
              have y2 : MK n tp σ3 e 1 := y2
              have g2 : F48 (fun i => i = 30) σ3 (uI σ3 148 30 (σ3.1 148 30 - 1)) := F48.u rfl
              have k4 := y2.f48 g2 (by decide) (by decide) (by decide) (by decide)
              obtain ⟨σ5, v1, v2, v3⟩ := m_wants0 k4 (Nat.le_refl _) (x := 0) (Or.inl rfl)
              rw [k4.2.2.2, if_pos (by decide), v1, bnd_some, m_writes0 v2]
              refine ⟨σ5, ?_, v2, (f1.tr (g2.fm (fun i hi => by omega))).tr (v3.fm (fun i hi => by omega))⟩
              by_cases c0 : bI (b = true) = 0
              · rw [if_pos c0]
              · rw [if_neg c0]; rfl
            | some L =>
              obtain ⟨y4, y5⟩ := y2
              have y4 : MRq n tp σ3 e (o + 1) (c + (L.flatMap expM).length) := y4
              have o2 : PO (TT n tp) e := o2
              have he := o2.mx y4.1.1
              have hB2 := BT_le (n := n) (tp := tp) e
              rw [y4.2.1, show nI (o + 1) - (1 : Int32) = nI o from (n_sub (a := o + 1) (b := 1) (by omega)).trans rfl]
              have g2 : F48 (fun i => i = 30) σ3 (uI σ3 148 30 (nI o)) := F48.u rfl
              have k4 : MRq n tp (uI σ3 148 30 (nI o)) e o (c + (L.flatMap expM).length) := ⟨y4.1.f48 g2 (by decide) (by decide) (by decide) (by decide), uI_same, (g2.2 31 (by decide)).trans y4.2.2⟩
              rw [k4.1.2.2.2, if_neg (fun z => z rfl), k4.1.2.1, m_byteAt k4.1.1 (by omega), bnd_some]
              have s41 : BA n tp (BT n tp e) = (41 : Int32) ↔ TT n tp e = 20041 := T_sym hb e (s := 41) (by decide) (by decide) (by decide)
              show ∃ σ', _ = _ ∧ MOq n tp σ c (pThen (if TT n tp e = 20041 then (e + 1, some L) else (e, none)) (fun c L => (c, some (L ++ notL b)))) o σ' ∧ FMq σ σ'
              have d1 : CMq σ (uI σ3 148 30 (nI o)) c (L.flatMap expM) := (y5.pre (g1.s.trans w3.s)).post g2.s
              by_cases h5 : TT n tp e = 20041
              · rw [if_neg (fun z => z (s41.mpr h5)), if_pos h5]
                obtain ⟨σ5, v1, v2, v3⟩ := m_wants1 k4.1
                have k5 : MRq n tp σ5 (e + 1) o (c + (L.flatMap expM).length) := ⟨v2, (v3.2 30 (by decide)).trans k4.2.1, (v3.2 31 (by decide)).trans k4.2.2⟩
                rw [v1, bnd_some]
                refine m_end (s0 := s0) (r := (e + 1, some L)) hca k5.1.1 ⟨k5, d1.post v3.s⟩ ⟨?_, o2.next (by omega), fun M hM => ?_⟩ ((f1.tr (g2.fm (fun i hi => by omega))).tr (v3.fm (fun i hi => by omega)))
                · have o1 : a + 1 ≤ e := o1
                  show a ≤ e + 1
                  omega
                · obtain ⟨z0, z1, z2, z3, z4⟩ := o3 M hM
                  have z0 : a + 1 < e := z0
                  have z1 : (M.flatMap expM).length + (a + 1) ≤ e := z1
                  have z2 : M.length + (a + 1) ≤ e := z2
                  exact ⟨by show a < e + 1; omega, by show _ ≤ e + 1; omega, by show _ ≤ e + 1; omega, z3, z4⟩
              · rw [if_pos (fun z => h5 (s41.mp z)), if_neg h5]
                obtain ⟨σ5, v1, v2, v3⟩ := m_wants0 k4.1 (by decide) (x := 0) (Or.inr rfl)
                rw [v1, bnd_some, m_writes0 v2]
                refine ⟨σ5, ?_, v2, (f1.tr (g2.fm (fun i hi => by omega))).tr (v3.fm (fun i hi => by omega))⟩
                by_cases c0 : bI (b = true) = 0
                · rw [if_pos c0]
                · rw [if_neg c0]; rfl
        · rw [if_pos (show (3 : Int32) ≤ nI o from (n_le (a := 3) (by decide) (by omega)).mpr (by omega)), if_neg h4]
          obtain ⟨σ1, w1, w2, w3⟩ := m_in65w hN (x1 := bI (b = true)) (xs0 := 0) h.1 (by decide) (Or.inr rfl)
          exact ⟨σ1, w1, w2, w3⟩
      · rw [if_pos (fun z => h3 (s40.mp z)), if_neg h3]
        obtain ⟨σ1, w1, w2, w3⟩ := m_comp (o := o) σ a c h hp hca
        rw [w1, bnd_some]
        have t1 : TPm σ1 n tp := by
          generalize pCmp (TT n tp) a = r at w2
          obtain ⟨e, L⟩ := r
          cases L with
          | none => exact (show MK n tp σ1 e 1 from w2).1
          | some L => exact w2.1.1.1
        exact m_end hca t1 w2 (pCmp_ok a hp) w3
theorem m_one {fR : SG → Option (Unit × SG)} {C : Nat → Nat → PR} {o s0 : Nat} (ho : o ≤ 3) (h8 : s0 ≤ 8) (hC : o < 3 → MSq n tp (o + 1) fR (C (o + 1))) (hN : MNq n tp fR) (hO : o < 3 → okP (TT n tp) s0 (C (o + 1))) : MSq n tp o (f_M_one fR) (pOne (TT n tp) C o) := by
  intro σ a c h hp hca
  exact m_one2 ho h8 hC hN hO 201 0 FU a c false σ rfl (by rw [FU_eq]; omega) (Nat.zero_le _) h hp hca
def lpM (F : SG → Option (Unit × SG)) (w : Int64) (v : Int32) : Nat → SG → Option (Unit × SG)
  | 0, _ => none
  | m + 1, σ => bnd (f_M_word σ) (fun r2 σ1 => if ¬ (lg_cmp r2 w) = 0 then some ((), σ1) else bnd (f_M_wants (1 : Int32) σ1) (fun _ σ3 => bnd (F σ3) (fun _ σ4 => bnd (f_M_writes v σ4) (fun _ σ5 => lpM F w v m σ5))))
theorem lpM_all {fR : SG → Option (Unit × SG)} : ∀ (m : Nat) (σ : SG), f_M_all_4 fR m σ = lpM (f_M_one fR) 1476 (-21) m σ := by
  intro m
  induction m with
  | zero => intro σ; rfl
  | succ m ih => intro σ; simp only [f_M_all_4, lpM, ih]
theorem lpM_cond {fR : SG → Option (Unit × SG)} : ∀ (m : Nat) (σ : SG), f_M_condition_S_12 fR m σ = lpM (f_M_all fR) 498 (-22) m σ := by
  intro m
  induction m with
  | zero => intro σ; rfl
  | succ m ih => intro σ; simp only [f_M_condition_S_12, lpM, ih]
theorem lpM_w {F : SG → Option (Unit × SG)} {w : Int64} {v : Int32} {j m : Nat} (hj : j < 18) (ew : w = lN (KW j)) {σ : SG} {a : Nat} (h : MK n tp σ a 1) : lpM F w v (m + 1) σ = some ((), σ) := by
  obtain ⟨x, q1, q2, q3⟩ := m_word h (Nat.le_refl _)
  have e := lgk (c := w) j hj ew q2 (q3 j hj)
  rw [lpM, q1, bnd_some, if_pos (fun z => by have := e.mp z; have e3 : tkW 1 (TT n tp a) = 30000 := rfl; omega)]
theorem m_loop {F : SG → Option (Unit × SG)} {X : Nat → PR} {w : Int64} {j o s0 : Nat} {it : IT} (hj : j < 18) (ew : w = lN (KW j)) (hi : it.1 = 3 ∨ it.1 = 4) (ho : okI it) {v : Int32} (ev : expM it = [v]) (hX : okP (TT n tp) (s0 + 1) X) (hF : MSq n tp o F X) {σ0 : SG} {a0 c0 : Nat} (hc0 : c0 ≤ a0) : ∀ (f k m a : Nat) (L : List IT) (σ : SG), f + k = 201 → f < m → k ≤ a → MRq n tp σ a o (c0 + (L.flatMap expM).length) → CMq σ0 σ c0 (L.flatMap expM) → FMq σ0 σ → okR1 (TT n tp) s0 a0 (a, some L) → ∃ σ', lpM F w v m σ = some ((), σ') ∧ MOq n tp σ0 c0 (pLoop (TT n tp) X (10000 + j) it f a L) o σ' ∧ FMq σ0 σ' := by
  intro f
  induction f with
  | zero =>
    intro k m a L σ hk hm hka h hd g ok
    have := ok.2.1.mx h.1.1
    omega
  | succ f ih =>
    intro k m a L σ hk hm hka h hd g ok
    obtain ⟨m, rfl⟩ : ∃ g, m = g + 1 := ⟨m - 1, by omega⟩
    have hp : PO (TT n tp) a := ok.2.1
    have ha := hp.mx h.1.1
    obtain ⟨z0, z1, z2, z3, z4⟩ := ok.2.2 L rfl
    have z0 : a0 < a := z0
    have z1 : (L.flatMap expM).length + a0 ≤ a := z1
    have z2 : L.length + a0 ≤ a := z2
    obtain ⟨x, q1, q2, q3⟩ := m_word h.1 (by decide)
    have ej : lg_cmp (lN x) w = 0 ↔ TT n tp a = 10000 + j := lgk j hj ew q2 (q3 j hj)
    rw [lpM, q1, bnd_some, pLoop]
    by_cases h2 : TT n tp a = 10000 + j
    · have p1 : PO (TT n tp) (a + 1) := hp.next (by omega)
      obtain ⟨σ1, w1, w2, w3⟩ := m_wants1 h.1
      have k1 : MRq n tp σ1 (a + 1) o (c0 + (L.flatMap expM).length) := ⟨w2, (w3.2 30 (by decide)).trans h.2.1, (w3.2 31 (by decide)).trans h.2.2⟩
      rw [if_neg (fun z => z (ej.mpr h2)), if_pos h2, w1, bnd_some]
      obtain ⟨σ2, y1, y2, y3⟩ := hF σ1 (a + 1) _ k1 p1 (by omega)
      have okM := hX (a + 1) p1
      rw [y1, bnd_some]
      cases hr : X (a + 1) with
      | mk e M =>
        rw [hr] at y2 okM
        cases M with
        | none =>
          have y2 : MK n tp σ2 e 1 := y2
          obtain ⟨m, rfl⟩ : ∃ g, m = g + 1 := ⟨m - 1, by omega⟩
          rw [m_writes0 y2, bnd_some, lpM_w hj ew y2]
          exact ⟨σ2, rfl, y2, (g.tr (w3.fm (fun i hi => by omega))).tr y3⟩
        | some M =>
          obtain ⟨y4, y5⟩ := y2
          obtain ⟨-, o2, o3⟩ := okM
          obtain ⟨v0, v1, v2, v3, v4⟩ := o3 M rfl
          have y4 : MRq n tp σ2 e o (c0 + (L.flatMap expM).length + (M.flatMap expM).length) := y4
          have o2 : PO (TT n tp) e := o2
          have v0 : a + 1 < e := v0
          have v1 : (M.flatMap expM).length + (a + 1) ≤ e := v1
          have v2 : M.length + (a + 1) ≤ e := v2
          have he := o2.mx y4.1.1
          obtain ⟨σ4, u1, u2, u3, u4⟩ := m_writes y4 (by omega) v
          rw [u1, bnd_some]
          have eX : (L ++ M ++ [it]).flatMap expM = L.flatMap expM ++ M.flatMap expM ++ [v] := by
            rw [List.flatMap_append, List.flatMap_append, List.flatMap_cons, List.flatMap_nil, List.append_nil, ev]
          have hd3 : CMq σ0 σ4 c0 ((L ++ M ++ [it]).flatMap expM) := by
            rw [eX]
            have a1 := hd.app (y5.pre w3.s)
            have a2 : CMq σ2 σ4 (c0 + (L.flatMap expM ++ M.flatMap expM).length) [v] := by
              rw [List.length_append, ← Nat.add_assoc]
              exact u3
            exact a1.app a2
          refine ih (k + 1) m e (L ++ M ++ [it]) σ4 (by omega) (by omega) (by omega) ?_ hd3 (((g.tr (w3.fm (fun i hi => by omega))).tr y3).tr u4) ?_
          · rw [eX, List.length_append, List.length_append, List.length_singleton, show c0 + ((L.flatMap expM).length + (M.flatMap expM).length + 1) = c0 + (L.flatMap expM).length + (M.flatMap expM).length + 1 by omega]
            exact u2
          · refine ⟨by show a0 ≤ e; omega, o2, fun K hK => ?_⟩
            have eK : K = L ++ M ++ [it] := (Option.some.inj hK).symm
            rw [eK]
            refine ⟨by show a0 < e; omega, ?_, ?_, fun i hm => ?_, fun s hs => ?_⟩
            · show ((L ++ M ++ [it]).flatMap expM).length + a0 ≤ e
              rw [exp_app, exp_app, exp_1 (by omega) ho]
              omega
            · show (L ++ M ++ [it]).length + a0 ≤ e
              rw [List.length_append, List.length_append, List.length_singleton]
              omega
            · rcases List.mem_append.mp hm with v | v
              · rcases List.mem_append.mp v with u | u
                · exact z3 i u
                · exact v3 i u
              · rw [List.mem_singleton.mp v]; exact ho
            · rw [dpt_app, dpt_app, z4 s hs]
              show ((dptA M (s + 1)).bind (dptA [it])) = _
              rw [v4 (s + 1) (by omega)]
              show dptA [it] (s + 1 + 1) = _
              rw [dptA, if_pos hi, if_pos (by omega), dptA]
              rfl
    · rw [if_pos (fun z => h2 (ej.mp z)), if_neg h2]
      exact ⟨σ, rfl, ⟨h, hd⟩, g⟩
theorem m_join {F : SG → Option (Unit × SG)} {X : Nat → PR} {w : Int64} {j o s0 : Nat} {it : IT} (hj : j < 18) (ew : w = lN (KW j)) (hi : it.1 = 3 ∨ it.1 = 4) (ho : okI it) {v : Int32} (ev : expM it = [v]) (hX : okP (TT n tp) (s0 + 1) X) (hF : MSq n tp o F X) : MSq n tp o (fun σ => bnd (F σ) (fun _ σ1 => lpM F w v FU σ1)) (pJoin (TT n tp) X (10000 + j) it) := by
  intro σ a c h hp hca
  obtain ⟨σ1, q1, q2, q3⟩ := hF σ a c h hp hca
  have ok := hX a hp
  unfold pJoin
  cases hr : X a with
  | mk e M =>
    rw [hr] at q2 ok
    cases M with
    | none =>
      have q2 : MK n tp σ1 e 1 := q2
      refine ⟨σ1, ?_, q2, q3⟩
      show bnd (F σ) _ = _
      obtain ⟨m, em⟩ : ∃ m, FU = m + 1 := ⟨FU - 1, by rw [FU_eq]⟩
      rw [q1, bnd_some, em, lpM_w hj ew q2]
    | some M =>
      obtain ⟨w1, w2⟩ := q2
      obtain ⟨σ', u1, u2, u3⟩ := m_loop hj ew hi ho ev hX hF hca 201 0 FU e M σ1 rfl (by rw [FU_eq]; omega) (Nat.zero_le _) w1 w2 q3 (okR1.le ok (by omega))
      refine ⟨σ', ?_, u2, u3⟩
      show bnd (F σ) _ = _
      rw [q1, bnd_some]
      exact u1
theorem m_joinw {F : SG → Option (Unit × SG)} {w : Int64} {j : Nat} {v : Int32} (hj : j < 18) (ew : w = lN (KW j)) (hN : MNq n tp F) : MNq n tp (fun σ => bnd (F σ) (fun _ σ1 => lpM F w v FU σ1)) := by
  intro σ a h
  obtain ⟨σ1, q1, q2, q3⟩ := hN σ a h
  refine ⟨σ1, ?_, q2, q3⟩
  show bnd (F σ) _ = _
  obtain ⟨m, em⟩ : ∃ m, FU = m + 1 := ⟨FU - 1, by rw [FU_eq]⟩
  rw [q1, bnd_some, em, lpM_w hj ew q2]
theorem m_allE (fR : SG → Option (Unit × SG)) : f_M_all fR = fun σ => bnd (f_M_one fR σ) (fun _ σ1 => lpM (f_M_one fR) 1476 (-21) FU σ1) := by
  funext σ
  unfold f_M_all
  simp only [lpM_all]
theorem m_condw : ∀ d, MNq n tp (f_M_condition (d + 1)) := by
  intro d σ a h
  refine ⟨σ, ?_, h, FMq.rf⟩
  show f_M_condition_S (f_M_condition d) σ = _
  unfold f_M_condition_S
  rw [h.2.2.2, if_neg (by decide)]
theorem m_cond : ∀ (d o : Nat), o ≤ 3 → 5 ≤ d + o → MSq n tp o (f_M_condition d) (pCond (TT n tp) d o) := by
  intro d
  induction d with
  | zero => intro o ho hd; omega
  | succ d ih =>
    intro o ho hd
    have hC : o < 3 → MSq n tp (o + 1) (f_M_condition d) (pCond (TT n tp) d (o + 1)) := fun h => ih (o + 1) (by omega) (by omega)
    have hN : MNq n tp (f_M_condition d) := by
      obtain ⟨d, rfl⟩ : ∃ g, d = g + 1 := ⟨d - 1, by omega⟩
      exact m_condw d
    have hO : o < 3 → okP (TT n tp) (2 * o + 1 + 1) (pCond (TT n tp) d (o + 1)) := fun h => pCond_ok d (o + 1) (by omega)
    have h1 := m_one (s0 := 2 * o + 1 + 1) ho (by omega) hC hN hO
    have o1 := pOne_ok (T := TT n tp) (s0 := 2 * o + 1 + 1) (by omega) hO
    have hJ := pJoin_ok (w := 10016) (it := (3, 0, 0)) o1 (by decide) (Or.inl rfl) ⟨by decide, by decide, by decide⟩
    have hA : MSq n tp o (f_M_all (f_M_condition d)) (pJoin (TT n tp) (pOne (TT n tp) (pCond (TT n tp) d) o) 10016 (3, 0, 0)) := by
      rw [m_allE]
      exact m_join (j := 16) (w := 1476) (it := (3, 0, 0)) (v := -21) (by decide) (by decide) (Or.inl rfl) ⟨by decide, by decide, by decide⟩ rfl o1 h1
    have h := m_join (j := 15) (w := 498) (s0 := 2 * o) (it := (4, 0, 0)) (v := -22) (by decide) (by decide) (Or.inr rfl) ⟨by decide, by decide, by decide⟩ rfl hJ hA
    intro σ a c hR hp hca
    obtain ⟨σ', u1, u2, u3⟩ := h σ a c hR hp hca
    refine ⟨σ', ?_, u2, u3⟩
    show f_M_condition_S (f_M_condition d) σ = _
    unfold f_M_condition_S
    rw [hR.1.2.2.2, if_pos (show nI 0 = (0 : Int32) from rfl)]
    simp only [lpM_cond]
    exact u1
end M4
