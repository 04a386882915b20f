/-! the reference READS its RULES -/
def totM : List RU → Nat
  | [] => 0
  | q :: r => (q.2.2.2.flatMap expM).length + totM r
theorem totM_app (R Q : List RU) : totM (R ++ Q) = totM R + totM Q := by
  induction R with
  | nil => exact (Nat.zero_add _).symm
  | cons q r ih => show (q.2.2.2.flatMap expM).length + totM (r ++ Q) = (q.2.2.2.flatMap expM).length + totM r + totM Q; rw [ih]; omega
def RM1 (S : Nat → Int32) (q : RU) (k off : Nat) : Prop := S (106 + 4 * k) = nI q.1 ∧ S (106 + 4 * k + 1) = nI q.2.1 ∧ S (106 + 4 * k + 2) = nI q.2.2.1 ∧ S (106 + 4 * k + 3) = nI (off + (q.2.2.2.flatMap expM).length) ∧ ∀ j x, (q.2.2.2.flatMap expM)[j]? = some x → S (138 + (off + j)) = x
def RMB (S : Nat → Int32) : List RU → Nat → Nat → Prop
  | [], _, _ => True
  | q :: r, k, off => RM1 S q k off ∧ RMB S r (k + 1) (off + (q.2.2.2.flatMap expM).length)
theorem RMB.snoc {S : Nat → Int32} {q : RU} : ∀ {R : List RU} {k off : Nat}, RMB S R k off → RM1 S q (k + R.length) (off + totM R) → RMB S (R ++ [q]) k off := by
  intro R
  induction R with
  | nil => intro k off _ h; exact ⟨h, trivial⟩
  | cons p r ih =>
    intro k off h g
    refine ⟨h.1, ih h.2 ?_⟩
    rw [show k + 1 + r.length = k + (p :: r).length by rw [List.length_cons]; omega, show off + (p.2.2.2.flatMap expM).length + totM r = off + totM (p :: r) from Nat.add_assoc _ _ _]
    exact g
theorem RMB.all {S : Nat → Int32} : ∀ {R : List RU} {k off : Nat}, RMB S R k off → S 1 = nI (k + R.length) → k + R.length ≤ 8 → off + totM R ≤ 202 → RLM S R k off := by
  intro R
  induction R with
  | nil => intro k off _ h1 h2 h3; exact ⟨h1, h2, h3⟩
  | cons p r ih =>
    intro k off h h1 h2 h3
    have e1 : k + 1 + r.length = k + (p :: r).length := by rw [List.length_cons]; omega
    have e2 : off + (p.2.2.2.flatMap expM).length + totM r = off + totM (p :: r) := Nat.add_assoc _ _ _
    exact ⟨h.1.1, h.1.2.1, h.1.2.2.1, h.1.2.2.2.1, h.1.2.2.2.2, ih h.2 (by rw [e1]; exact h1) (by rw [e1]; exact h2) (by rw [e2]; exact h3)⟩
theorem RMB.keep {S S' : Nat → Int32} : ∀ {R : List RU} {k off : Nat}, RMB S R k off → (∀ i, 106 ≤ i → i < 106 + 4 * (k + R.length) → S' i = S i) → (∀ j, j < off + totM R → S' (138 + j) = S (138 + j)) → RMB S' R k off := by
  intro R
  induction R with
  | nil => intro k off _ _ _; trivial
  | cons p r ih =>
    intro k off h h1 h2
    have e1 : k + 1 + r.length = k + (p :: r).length := by rw [List.length_cons]; omega
    have e2 : off + (p.2.2.2.flatMap expM).length + totM r = off + totM (p :: r) := Nat.add_assoc _ _ _
    have hl : k < k + (p :: r).length := by rw [List.length_cons]; omega
    refine ⟨⟨(h1 _ (by omega) (by omega)).trans h.1.1, (h1 _ (by omega) (by omega)).trans h.1.2.1, (h1 _ (by omega) (by omega)).trans h.1.2.2.1, (h1 _ (by omega) (by omega)).trans h.1.2.2.2.1, fun j i hi => ?_⟩, ih h.2 (fun i hi h3 => h1 i hi (by omega)) (fun j hj => h2 j (by omega))⟩
    have hj : j < (p.2.2.2.flatMap expM).length := (List.getElem?_eq_some_iff.mp hi).1
    exact (h2 (off + j) (by omega)).trans (h.1.2.2.2.2 j i hi)
/-- only what reading RULES uses -/
def FRm (σ σ' : SG) : Prop := fr (fun c => c = 148 ∨ c = 149) σ σ' ∧ (∀ i, (i ≤ 26 ∨ 32 < i) → σ'.1 148 i = σ.1 148 i) ∧ ∀ i, ((i < 106 ∧ i ≠ 1) ∨ 340 ≤ i) → σ'.1 149 i = σ.1 149 i
theorem FRm.rf {σ : SG} : FRm σ σ := ⟨fr.rf, fun _ _ => rfl, fun _ _ => rfl⟩
theorem FRm.tr {a b c : SG} (h : FRm a b) (g : FRm b c) : FRm a c := ⟨h.1.tr g.1, fun i hi => (g.2.1 i hi).trans (h.2.1 i hi), fun i hi => (g.2.2 i hi).trans (h.2.2 i hi)⟩
theorem FMq.r {σ σ' : SG} (h : FMq σ σ') : FRm σ σ' := ⟨h.1, h.2.1, fun i hi => h.2.2 i (by omega)⟩
section M5
variable {n : Nat} {tp : Nat → Nat}
def RDM (n : Nat) (tp : Nat → Nat) (σ : SG) (a : Nat) (R : List RU) : Prop := MRq n tp σ a 0 (totM R) ∧ σ.1 149 1 = nI R.length ∧ R.length ≤ 8 ∧ RMB (σ.1 149) R 0 0 ∧ totM R ≤ a ∧ ∀ q ∈ R, okR q
def RQm (n : Nat) (tp : Nat → Nat) (R : List RU) (r : Nat × Option RU) (σ' : SG) : Prop := match r.2 with
  | some q => RDM n tp σ' r.1 (R ++ [q])
  | none => MK n tp σ' r.1 1
theorem m_168w {x1 x4 x5 xs0 : Int32} {σ : SG} {a w : Nat} (h : MK n tp σ a w) (hw : w ≤ 1) (hx : w = 1 ∨ xs0 = 0) : ∃ σ', f_M_rule_168 x1 x4 x5 xs0 σ = some ((), σ') ∧ MK n tp σ' a 1 ∧ FMq σ σ' := by
  obtain ⟨σ1, u1, u2, u3⟩ := m_wants0 h hw hx
  refine ⟨σ1, ?_, u2, u3.fm (fun i hi => by omega)⟩
  unfold f_M_rule_168
  rw [u1, bnd_some, u2.2.2.2, if_pos (by decide)]
theorem m_136w {x1 x4 : Int32} {σ : SG} {a : Nat} (h : MK n tp σ a 1) : ∃ σ', f_M_rule_136 x1 x4 σ = some ((), σ') ∧ MK n tp σ' a 1 ∧ FMq σ σ' := by
  unfold f_M_rule_136
  rw [lx_eq, h.2.2.2, if_pos (by decide)]
  exact m_168w h (Nat.le_refl _) (Or.inl rfl)
theorem m_104w {x1 x4 xs0 : Int32} {σ : SG} {a w : Nat} (h : MK n tp σ a w) (hw : w ≤ 1) (hx : w = 1 ∨ xs0 = 0) : ∃ σ', f_M_rule_104 x1 x4 xs0 σ = some ((), σ') ∧ MK n tp σ' a 1 ∧ FMq σ σ' := by
  obtain ⟨σ1, u1, u2, u3⟩ := m_wants0 h hw hx
  have f0 : F48 (fun i => i = 29) σ1 (uI σ1 148 29 (0 : Int32)) := F48.u rfl
  have k0 : MK n tp (uI σ1 148 29 (0 : Int32)) a 1 := u2.f48 f0 (by decide) (by decide) (by decide) (by decide)
  obtain ⟨σ2, w1, w2, w3⟩ := m_136w (x1 := x1) (x4 := x4) k0
  refine ⟨σ2, ?_, w2, ((u3.fm (fun i hi => by omega)).tr (f0.fm (fun i hi => by omega))).tr w3⟩
  unfold f_M_rule_104
  rw [u1, bnd_some, sx_eq, k0.2.2.2, if_pos (show ¬ nI 1 = (0 : Int32) by decide), w1]
  by_cases c1 : x4 < 0
  · rw [if_pos c1]
  · rw [if_neg c1]
    by_cases c2 : x4 = 2
    · rw [if_pos c2]
    · rw [if_neg c2]
theorem m_49w {x1 : Int32} {σ : SG} {a : Nat} (h : MK n tp σ a 1) : ∃ σ', f_M_rule_49 x1 σ = some ((), σ') ∧ MK n tp σ' a 1 ∧ FMq σ σ' := by
  obtain ⟨v, q1, q2, q3⟩ := m_word h (Nat.le_refl _)
  have e12 : lg_cmp (lN v) (441925 : Int64) = 0 ↔ (30000 : Nat) = 10012 := lgk 12 (by decide) (by decide) q2 (q3 12 (by decide))
  have e13 : lg_cmp (lN v) (398963 : Int64) = 0 ↔ (30000 : Nat) = 10013 := lgk 13 (by decide) (by decide) q2 (q3 13 (by decide))
  have e14 : lg_cmp (lN v) (215205 : Int64) = 0 ↔ (30000 : Nat) = 10014 := lgk 14 (by decide) (by decide) q2 (q3 14 (by decide))
  unfold f_M_rule_49
  rw [q1, bnd_some, if_pos (fun z => by have := e12.mp z; omega), if_pos (fun z => by have := e13.mp z; omega), if_pos (fun z => by have := e14.mp z; omega), if_pos (by decide)]
  exact m_104w h (Nat.le_refl _) (Or.inl rfl)
theorem m_168 {σ0 σ : SG} {a e : Nat} {R : List RU} {L : List IT} {k d m : Nat} (h0 : RDM n tp σ0 a R) (hR : R.length < 8) (h : MRq n tp σ e 0 (totM R + (L.flatMap expM).length)) (hd : CMq σ0 σ (totM R) (L.flatMap expM)) (g : FMq σ0 σ) (hp : PO (TT n tp) e) (he : totM R + (L.flatMap expM).length ≤ e) (h29 : σ.1 148 29 = nI m) (ok : okR (k, d, m, L)) : ∃ σ', f_M_rule_136 (nI k) (nI d) σ = some ((), σ') ∧ RQm n tp R (if TT n tp e = 20059 then (e + 1, some (k, d, m, L)) else (e, none)) σ' ∧ FRm σ0 σ' := by
  have hb := h.1.1.b
  have hB := BT_le (n := n) (tp := tp) e
  have hn := h.1.1.2.1
  have he2 := hp.mx h.1.1
  unfold f_M_rule_136
  rw [lx_eq, h.1.2.2.2, if_neg (fun z => z rfl), h.1.2.1, m_byteAt h.1.1 (by omega), bnd_some, h29]
  have s59 : BA n tp (BT n tp e) = (59 : Int32) ↔ TT n tp e = 20059 := T_sym hb e (s := 59) (by decide) (by decide) (by decide)
  by_cases h1 : TT n tp e = 20059
  · rw [if_neg (fun z => z (s59.mpr h1)), if_pos h1]
    obtain ⟨σ1, u1, u2, u3⟩ := m_wants1 h.1
    have f1 : FMq σ0 σ1 := g.tr (u3.fm (fun i hi => by omega))
    have e1 : σ1.1 149 1 = nI R.length := by rw [f1.2.2 1 (by decide)]; exact h0.2.1
    have e31 : σ1.1 148 31 = nI (totM R + (L.flatMap expM).length) := (u3.2 31 (by decide)).trans h.2.2
    have e30 : σ1.1 148 30 = nI 0 := (u3.2 30 (by decide)).trans h.2.1
    have hd1 : CMq σ0 σ1 (totM R) (L.flatMap expM) := hd.post u3.s
    unfold f_M_rule_168
    have y0 : (106 : Int32) + (4 : Int32) * nI R.length = nI (106 + 4 * R.length) := by rw [show (4 : Int32) = nI 4 from rfl, n_mul, show (106 : Int32) = nI 106 from rfl, n_add]
    have y1 : nI (106 + 4 * R.length) + (0 : Int32) = nI (106 + 4 * R.length) := n_add _ 0
    have y2 : nI (106 + 4 * R.length) + (1 : Int32) = nI (106 + 4 * R.length + 1) := n_add _ 1
    have y3 : nI (106 + 4 * R.length) + (2 : Int32) = nI (106 + 4 * R.length + 2) := n_add _ 2
    have y4 : nI (106 + 4 * R.length) + (3 : Int32) = nI (106 + 4 * R.length + 3) := n_add _ 3
    rw [u1, bnd_some, u2.2.2.2, if_neg (fun z => z rfl), e1, y0, lx_eq, y1, y2, y3, y4, gd_pos (ix_nI (by omega) (by decide)), nx_nI (k := 106 + 4 * R.length) (by omega), sx_eq, gd_pos (ix_nI (by omega) (by decide)), nx_nI (k := 106 + 4 * R.length + 1) (by omega), sx_eq, gd_pos (ix_nI (by omega) (by decide)), nx_nI (k := 106 + 4 * R.length + 2) (by omega), sx_eq, gd_pos (ix_nI (by omega) (by decide)), nx_nI (k := 106 + 4 * R.length + 3) (by omega), sx_eq, sx_eq, uI_c (by decide), uI_c (by decide), uI_c (by decide), e31]
    generalize hs : uI (uI (uI (uI σ1 149 (106 + 4 * R.length) (nI k)) 149 (106 + 4 * R.length + 1) (nI d)) 149 (106 + 4 * R.length + 2) (nI m)) 149 (106 + 4 * R.length + 3) (nI (totM R + (L.flatMap expM).length)) = σ2
    have hS : ∀ i, (i < 106 + 4 * R.length ∨ 106 + 4 * R.length + 3 < i) → σ2.1 149 i = σ1.1 149 i := fun i hi => by
      rw [← hs, uI_i (by omega), uI_i (by omega), uI_i (by omega), uI_i (by omega)]
    have hS0 : σ2.1 149 (106 + 4 * R.length) = nI k := by rw [← hs, uI_i (by omega), uI_i (by omega), uI_i (by omega), uI_same]
    have hS1 : σ2.1 149 (106 + 4 * R.length + 1) = nI d := by rw [← hs, uI_i (by omega), uI_i (by omega), uI_same]
    have hS2 : σ2.1 149 (106 + 4 * R.length + 2) = nI m := by rw [← hs, uI_i (by omega), uI_same]
    have hS3 : σ2.1 149 (106 + 4 * R.length + 3) = nI (totM R + (L.flatMap expM).length) := by rw [← hs, uI_same]
    have f2 : fr (fun c => c = 149) σ1 σ2 := by
      rw [← hs]
      have z : ∀ (τ : SG) (i : Nat) (v : Int32), fr (fun c => c = 149) τ (uI τ 149 i v) := fun τ i v => fr.uI (L := fun c => c = 149) rfl
      exact (((z _ _ _).tr (z _ _ _)).tr (z _ _ _)).tr (z _ _ _)
    rw [(hS 1 (by omega)).trans e1, nI_1]
    have hT : ∀ i, i ≠ 1 → (uI σ2 149 1 (nI (R.length + 1))).1 149 i = σ2.1 149 i := fun i hi => uI_i hi
    have f3 : fr (fun c => c = 149) σ1 (uI σ2 149 1 (nI (R.length + 1))) := f2.tr (fr.uI (L := fun c => c = 149) rfl)
    have hx : (([(k, d, m, L)] : List RU)).length = 1 := rfl
    refine ⟨_, rfl, ⟨⟨⟨⟨?_, u2.1.2.1, fun i hi => ?_⟩, ?_, ?_, ?_⟩, ?_, ?_⟩, ?_, ?_, ?_, ?_, ?_⟩, (f1.1.tr (f3.mono (fun c hc => Or.inr hc))), fun i hi => ?_, fun i hi => ?_⟩
    · rw [f3.at (by decide)]; exact u2.1.1
    · rw [f3.at (by decide)]; exact u2.1.2.2 i hi
    · rw [f3.at (by decide)]; exact u2.2.1
    · rw [f3.at (by decide)]; exact u2.2.2.1
    · rw [f3.at (by decide)]; exact u2.2.2.2
    · rw [f3.at (by decide)]; exact e30
    · rw [f3.at (by decide), e31, totM_app]; rfl
    · rw [uI_same, List.length_append]; rfl
    · rw [List.length_append]; omega
    · refine (RMB.keep h0.2.2.2.1 (fun i hi h3 => ?_) (fun j hj => ?_)).snoc ?_
      · rw [hT i (by omega), hS i (by omega)]
        exact f1.2.2 i (by omega)
      · rw [hT _ (by omega), hS _ (by omega)]
        exact hd1.1 _ (by omega)
      · rw [Nat.zero_add, Nat.zero_add]
        refine ⟨?_, ?_, ?_, ?_, fun j x hj => ?_⟩
        · rw [hT _ (by omega)]; exact hS0
        · rw [hT _ (by omega)]; exact hS1
        · rw [hT _ (by omega)]; exact hS2
        · rw [hT _ (by omega)]; exact hS3
        · rw [hT _ (by omega), hS _ (by omega)]
          exact hd1.2 j x hj
    · rw [totM_app]
      show totM R + ((L.flatMap expM).length + 0) ≤ e + 1
      omega
    · intro q hq
      rcases List.mem_append.mp hq with w | w
      · exact h0.2.2.2.2.2 q w
      · rw [List.mem_singleton.mp w]; exact ok
    · rw [f3.at (by decide)]; exact f1.2.1 i hi
    · rw [hT i (by omega), hS i (by omega)]
      exact f1.2.2 i (by omega)
  · rw [if_pos (fun z => h1 (s59.mp z)), if_neg h1]
    obtain ⟨σ1, u1, u2, u3⟩ := m_168w (x1 := nI k) (x4 := nI d) (x5 := nI m) (xs0 := 0) h.1 (by decide) (Or.inr rfl)
    exact ⟨σ1, u1, u2, (g.tr u3).r⟩
theorem m_104 {σ0 σ : SG} {a c : Nat} {R : List RU} {L : List IT} {d : Nat} (h0 : RDM n tp σ0 a R) (hR : R.length < 8) (h : MRq n tp σ c 0 (totM R + (L.flatMap expM).length)) (hd : CMq σ0 σ (totM R) (L.flatMap expM)) (g : FMq σ0 σ) (hp : PO (TT n tp) c) (hc : totM R + (L.flatMap expM).length ≤ c) (hk : TT n tp a ≤ 10010) (hL : okL L) (h1 : 10012 ≤ TT n tp c ∧ TT n tp c ≤ 10014) (ed : d = TT n tp c - 10012) : ∃ σ', f_M_rule_104 (nI (TT n tp a - 10005)) (nI d) 1 σ = some ((), σ') ∧ RQm n tp R (pTail (TT n tp) a c L) σ' ∧ FRm σ0 σ' := by
  have p1 : PO (TT n tp) (c + 1) := hp.next (by omega)
  obtain ⟨σ1, u1, u2, u3⟩ := m_wants1 h.1
  have f0 : F48 (fun i => i = 29) σ1 (uI σ1 148 29 (0 : Int32)) := F48.u rfl
  have k0 : MRq n tp (uI σ1 148 29 (0 : Int32)) (c + 1) 0 (totM R + (L.flatMap expM).length) := ⟨u2.f48 f0 (by decide) (by decide) (by decide) (by decide), (f0.2 30 (by decide)).trans ((u3.2 30 (by decide)).trans h.2.1), (f0.2 31 (by decide)).trans ((u3.2 31 (by decide)).trans h.2.2)⟩
  have g1 : FMq σ0 (uI σ1 148 29 (0 : Int32)) := (g.tr (u3.fm (fun i hi => by omega))).tr (f0.fm (fun i hi => by omega))
  have hd1 : CMq σ0 (uI σ1 148 29 (0 : Int32)) (totM R) (L.flatMap expM) := hd.post (f0.s.trans u3.s)
  unfold f_M_rule_104 pTail
  rw [u1, bnd_some, sx_eq, if_neg (show ¬ nI d < 0 from n_nn (by omega)), if_pos h1]
  by_cases h2 : TT n tp c = 10014
  · have e2 : d = 2 := by omega
    rw [e2, if_pos (show nI 2 = (2 : Int32) from rfl), if_pos h2]
    exact m_168 (k := TT n tp a - 10005) (d := 2) (m := 0) h0 hR k0 hd1 g1 p1 (by omega) uI_same ⟨by show TT n tp a - 10005 ≤ 5; omega, (by decide : (2 : Nat) ≤ 2), (by decide : (0 : Nat) ≤ 99), hL⟩
  · rw [if_neg (show ¬ nI d = (2 : Int32) from fun z => h2 (by have := (n_inj (a := d) (b := 2) (by omega) (by decide)).mp z; omega)), k0.1.2.2.2, if_neg (fun z => z rfl), if_neg h2]
    obtain ⟨σ2, w1, w2, w3⟩ := m_number k0.1 (lim := 99) (by decide)
    rw [show (99 : Int32) = nI 99 from rfl, w1, bnd_some]
    by_cases h3 : TT n tp (c + 1) ≤ 99
    · have p2 : PO (TT n tp) (c + 2) := p1.next (by omega)
      rw [if_pos ⟨by omega, h3⟩] at w2
      rw [if_pos h3]
      have k2 : MRq n tp σ2 (c + 2) 0 (totM R + (L.flatMap expM).length) := ⟨w2.1, (w3.2 30 (by decide)).trans k0.2.1, (w3.2 31 (by decide)).trans k0.2.2⟩
      have := m_168 (k := TT n tp a - 10005) (d := TT n tp c - 10012) (m := TT n tp (c + 1)) h0 hR k2 (hd1.post w3.s) (g1.tr (w3.fm (fun i hi => by omega))) p2 (by omega) w2.2 ⟨by show TT n tp a - 10005 ≤ 5; omega, by show TT n tp c - 10012 ≤ 2; omega, h3, hL⟩
      rw [← ed] at this ⊢
      exact this
    · rw [if_neg (fun z => h3 z.2)] at w2
      rw [if_neg h3]
      obtain ⟨σ3, y1, y2, y3⟩ := m_136w (x1 := nI (TT n tp a - 10005)) (x4 := nI d) w2
      exact ⟨σ3, y1, y2, ((g1.tr (w3.fm (fun i hi => by omega))).tr y3).r⟩
theorem m_tail {σ0 σ : SG} {a c : Nat} {R : List RU} {L : List IT} (h0 : RDM n tp σ0 a R) (hR : R.length < 8) (h : MRq n tp σ c 0 (totM R + (L.flatMap expM).length)) (hd : CMq σ0 σ (totM R) (L.flatMap expM)) (g : FMq σ0 σ) (hp : PO (TT n tp) c) (hc : totM R + (L.flatMap expM).length ≤ c) (hk : TT n tp a ≤ 10010) (hL : okL L) : ∃ σ', f_M_rule_49 (nI (TT n tp a - 10005)) σ = some ((), σ') ∧ RQm n tp R (pTail (TT n tp) a c L) σ' ∧ FRm σ0 σ' := by
  obtain ⟨v, q1, q2, q3⟩ := m_word h.1 (by decide)
  have e12 : lg_cmp (lN v) (441925 : Int64) = 0 ↔ TT n tp c = 10012 := lgk 12 (by decide) (by decide) q2 (q3 12 (by decide))
  have e13 : lg_cmp (lN v) (398963 : Int64) = 0 ↔ TT n tp c = 10013 := lgk 13 (by decide) (by decide) q2 (q3 13 (by decide))
  have e14 : lg_cmp (lN v) (215205 : Int64) = 0 ↔ TT n tp c = 10014 := lgk 14 (by decide) (by decide) q2 (q3 14 (by decide))
  unfold f_M_rule_49
  rw [q1, bnd_some]
  by_cases c2 : TT n tp c = 10012
  · rw [if_neg (fun z => z (e12.mpr c2)), if_neg (by decide)]
    exact m_104 (d := 0) h0 hR h hd g hp hc hk hL (by omega) (by omega)
  · rw [if_pos (fun z => c2 (e12.mp z))]
    by_cases c3 : TT n tp c = 10013
    · rw [if_neg (fun z => z (e13.mpr c3)), if_neg (by decide)]
      exact m_104 (d := 1) h0 hR h hd g hp hc hk hL (by omega) (by omega)
    · rw [if_pos (fun z => c3 (e13.mp z))]
      by_cases c4 : TT n tp c = 10014
      · rw [if_neg (fun z => z (e14.mpr c4)), if_neg (by decide)]
        exact m_104 (d := 2) h0 hR h hd g hp hc hk hL (by omega) (by omega)
      · rw [if_pos (fun z => c4 (e14.mp z)), if_pos (by decide)]
        unfold pTail
        rw [if_neg (by omega)]
        obtain ⟨σ1, w1, w2, w3⟩ := m_104w (x1 := nI (TT n tp a - 10005)) (x4 := -1) (xs0 := 0) h.1 (by decide) (Or.inr rfl)
        exact ⟨σ1, w1, w2, (g.tr w3).r⟩
theorem m_kd {t : Nat} (h : 10005 ≤ t ∧ t ≤ 10010) : kdH t = nI (t - 10005) := if_pos h
/-- where it may not begin a RULE -/
theorem m_ruleW {σ : SG} {a w : Nat} {r2 : Int32} (h : MK n tp σ a w) (hw : w ≤ 1) : ∃ σ', bnd (f_M_wants (0 : Int32) σ) (fun _ σ3 => bnd (f_M_word σ3) (fun r5 σ4 => if ¬ (lg_cmp r5 (294 : Int64)) = 0 then f_M_rule_49 r2 σ4 else bnd (f_M_wants (1 : Int32) σ4) (fun _ σ6 => bnd (f_M_condition DP σ6) (fun _ σ7 => f_M_rule_49 r2 σ7)))) = some ((), σ') ∧ MK n tp σ' a 1 ∧ FMq σ σ' := by
  obtain ⟨σ1, u1, u2, u3⟩ := m_wants0 h hw (x := 0) (Or.inr rfl)
  obtain ⟨v, q1, q2, q3⟩ := m_word u2 (Nat.le_refl _)
  have e11 : lg_cmp (lN v) (294 : Int64) = 0 ↔ (30000 : Nat) = 10011 := lgk 11 (by decide) (by decide) q2 (q3 11 (by decide))
  obtain ⟨σ2, w1, w2, w3⟩ := m_49w (x1 := r2) u2
  refine ⟨σ2, ?_, w2, (u3.fm (fun i hi => by omega)).tr w3⟩
  rw [u1, bnd_some, q1, bnd_some, if_pos (fun z => by have := e11.mp z; omega), w1]
theorem m_rule {σ : SG} {a : Nat} {R : List RU} (h : RDM n tp σ a R) (hR : R.length < 8) (hp : PO (TT n tp) a) : ∃ σ', f_M_rule σ = some ((), σ') ∧ RQm n tp R (pRule (TT n tp) a) σ' ∧ FRm σ σ' := by
  have hta := h.2.2.2.2.1
  unfold f_M_rule pRule
  rw [m_kindHere h.1.1 (by decide), bnd_some, show tkW 0 (TT n tp a) = TT n tp a from rfl]
  by_cases h1 : 10005 ≤ TT n tp a ∧ TT n tp a ≤ 10010
  · have p1 : PO (TT n tp) (a + 1) := hp.next (by omega)
    obtain ⟨σ1, u1, u2, u3⟩ := m_wants1 h.1.1
    have k1 : MRq n tp σ1 (a + 1) 0 (totM R) := ⟨u2, (u3.2 30 (by decide)).trans h.1.2.1, (u3.2 31 (by decide)).trans h.1.2.2⟩
    obtain ⟨v, q1, q2, q3⟩ := m_word u2 (by decide)
    have e11 : lg_cmp (lN v) (294 : Int64) = 0 ↔ TT n tp (a + 1) = 10011 := lgk 11 (by decide) (by decide) q2 (q3 11 (by decide))
    rw [m_kd h1, if_neg (n_nn (by omega)), h.2.1, if_neg (show ¬ (8 : Int32) ≤ nI R.length from nI_ge (show R.length < 8 from hR) (by decide)), if_pos h1, u1, bnd_some, q1, bnd_some]
    have g1 : FMq σ σ1 := u3.fm (fun i hi => by omega)
    obtain ⟨c1, c2, c3⟩ := cnd_ok (T := TT n tp) (a := a) p1
    show ∃ σ', _ = _ ∧ RQm n tp R (pMid (TT n tp) a (cndT (TT n tp) a)) σ' ∧ FRm σ σ'
    by_cases h2 : TT n tp (a + 1) = 10011
    · have p2 : PO (TT n tp) (a + 2) := p1.next (by omega)
      obtain ⟨σ2, w1, w2, w3⟩ := m_wants1 u2
      have k2 : MRq n tp σ2 (a + 2) 0 (totM R) := ⟨w2, (w3.2 30 (by decide)).trans k1.2.1, (w3.2 31 (by decide)).trans k1.2.2⟩
      obtain ⟨σ3, y1, y2, y3⟩ := m_cond (n := n) (tp := tp) 12 0 (by decide) (by decide) σ2 (a + 2) (totM R) k2 p2 (by omega)
      rw [if_neg (fun z => z (e11.mpr h2)), w1, bnd_some, show f_M_condition DP = f_M_condition 12 from rfl, y1, bnd_some]
      rw [show cndT (TT n tp) a = pCond (TT n tp) 12 0 (a + 2) from if_pos h2] at c1 c2 c3 ⊢
      have g2 : FMq σ σ3 := (g1.tr (w3.fm (fun i hi => by omega))).tr y3
      cases hr : pCond (TT n tp) 12 0 (a + 2) with
      | mk c L =>
        rw [hr] at y2 c1 c2 c3
        cases L with
        | none =>
          have y2 : MK n tp σ3 c 1 := y2
          obtain ⟨σ4, v1, v2, v3⟩ := m_49w (x1 := nI (TT n tp a - 10005)) y2
          exact ⟨σ4, v1, v2, (g2.tr v3).r⟩
        | some L =>
          obtain ⟨y4, y5⟩ := y2
          obtain ⟨m1, m2, m3⟩ := c3 L rfl
          have y4 : MRq n tp σ3 c 0 (totM R + (L.flatMap expM).length) := y4
          have m1 : (L.flatMap expM).length + a ≤ c := m1
          exact m_tail h hR y4 (y5.pre (w3.s.trans u3.s)) g2 c2 (by omega) h1.2 m3
    · rw [if_pos (fun z => h2 (e11.mp z))]
      rw [show cndT (TT n tp) a = (a + 1, some []) from if_neg h2] at c1 c2 c3 ⊢
      obtain ⟨m1, m2, m3⟩ := c3 [] rfl
      exact m_tail h hR (L := []) k1 (CMq.nil u3.s) g1 p1 (by show totM R + 0 ≤ a + 1; omega) h1.2 m3
  · have e : kdH (TT n tp a) = -1 := if_neg h1
    rw [e, if_pos (by decide), if_neg h1]
    obtain ⟨σ1, u1, u2, u3⟩ := m_ruleW (r2 := -1) h.1.1 (by decide)
    exact ⟨σ1, u1, u2, u3.r⟩
/-- what reading all came to -/
def MAll (n : Nat) (tp : Nat → Nat) (r : Nat × Option (List RU)) (σ' : SG) : Prop := match r.2 with
  | some R => RDM n tp σ' r.1 R
  | none => MK n tp σ' r.1 1
theorem m_rules35 : ∀ (f k m a : Nat) (R : List RU) (σ : SG), f + k = 8 → f + 1 < m → R.length = k → RDM n tp σ a R → PO (TT n tp) a → ∃ σ', f_M_rules_35 m σ = f_M_rules_60 σ' ∧ MAll n tp (pRules (TT n tp) f a R) σ' ∧ FRm σ σ' := by
  have fin : ∀ (m a : Nat) (R : List RU) (σ : SG), RDM n tp σ a R → PO (TT n tp) a → (TT n tp a = 30000 → f_M_rules_35 (m + 1) σ = f_M_rules_60 σ) ∧ (TT n tp a ≠ 30000 → f_M_rules_35 (m + 1) σ = bnd (f_M_rule σ) (fun _ σ1 => f_M_rules_35 m σ1)) := by
    intro m a R σ h hp
    have hn := h.1.1.1.2.1
    have hB := BT_le (n := n) (tp := tp) a
    rw [f_M_rules_35, h.1.1.2.2.2, if_neg (fun z => z rfl), h.1.1.1.1, h.1.1.2.1]
    constructor
    · intro e
      have c : ¬ BT n tp a < n := fun z => by
        rcases T_kind h.1.1.1.b a with ⟨_, _, w⟩ | ⟨c, c1, c2, w⟩ | ⟨c, _, _, w⟩ | ⟨w, _⟩
        · omega
        · by_cases h4 : ET n tp a - BT n tp a ≤ 4
          · have := (T_num c c1 c2 h4).1
            rw [if_pos h4] at w
            omega
          · rw [if_neg h4] at w
            omega
        · have := h.1.1.1.b _ c
          omega
        · exact w z
      rw [if_pos ((n_le (by omega) (by omega)).mpr (by omega))]
    · intro e
      rw [if_neg (nI_ge (TT_n e) (by omega))]
  have wr : ∀ (m a : Nat) (σ : SG), MK n tp σ a 1 → f_M_rules_35 (m + 1) σ = f_M_rules_60 σ := by
    intro m a σ h
    rw [f_M_rules_35, h.2.2.2, if_pos (by decide)]
  intro f
  induction f with
  | zero =>
    intro k m a R σ hk hm hR h hp
    obtain ⟨m, rfl⟩ : ∃ g, m = g + 1 := ⟨m - 1, by omega⟩
    obtain ⟨m, rfl⟩ : ∃ g, m = g + 1 := ⟨m - 1, by omega⟩
    obtain ⟨g1, g2⟩ := fin (m + 1) a R σ h hp
    rw [pRules]
    by_cases he : TT n tp a = 30000
    · rw [if_pos he]
      exact ⟨σ, g1 he, h, FRm.rf⟩
    · rw [if_neg he, g2 he]
      have e8 : f_M_rule σ = bnd (f_M_wants (0 : Int32) σ) (fun _ σ3 => bnd (f_M_word σ3) (fun r5 σ4 => if ¬ (lg_cmp r5 (294 : Int64)) = 0 then f_M_rule_49 (kdH (TT n tp a)) σ4 else bnd (f_M_wants (1 : Int32) σ4) (fun _ σ6 => bnd (f_M_condition DP σ6) (fun _ σ7 => f_M_rule_49 (kdH (TT n tp a)) σ7)))) := by
        unfold f_M_rule
        rw [m_kindHere h.1.1 (by decide), bnd_some, show tkW 0 (TT n tp a) = TT n tp a from rfl]
        by_cases c : kdH (TT n tp a) < 0
        · rw [if_pos c]
        · rw [if_neg c, h.2.1, hR, if_pos (show (8 : Int32) ≤ nI k by rw [show k = 8 by omega]; decide)]
      obtain ⟨σ1, u1, u2, u3⟩ := m_ruleW (r2 := kdH (TT n tp a)) h.1.1 (by decide)
      rw [e8, u1, bnd_some, wr m a σ1 u2]
      exact ⟨σ1, rfl, u2, u3.r⟩
  | succ f ih =>
    intro k m a R σ hk hm hR h hp
    obtain ⟨m, rfl⟩ : ∃ g, m = g + 1 := ⟨m - 1, by omega⟩
    obtain ⟨m, rfl⟩ : ∃ g, m = g + 1 := ⟨m - 1, by omega⟩
    obtain ⟨g1, g2⟩ := fin (m + 1) a R σ h hp
    rw [pRules]
    by_cases he : TT n tp a = 30000
    · rw [if_pos he]
      exact ⟨σ, g1 he, h, FRm.rf⟩
    · rw [if_neg he, g2 he]
      obtain ⟨σ1, q1, q2, q3⟩ := m_rule h (by omega) hp
      have ok := pRule_ok hp
      rw [q1, bnd_some]
      cases hr : pRule (TT n tp) a with
      | mk e q =>
        rw [hr] at q2 ok
        cases q with
        | none =>
          have q2 : MK n tp σ1 e 1 := q2
          rw [wr m e σ1 q2]
          exact ⟨σ1, rfl, q2, q3⟩
        | some q =>
          obtain ⟨σ', u1, u2, u3⟩ := ih (k + 1) (m + 1) e (R ++ [q]) σ1 (by omega) (by omega) (by rw [List.length_append, List.length_singleton, hR]) q2 ok.2.1
          exact ⟨σ', u1, u2, q3.tr u3⟩
end M5
theorem pRules_PO {T : Nat → Nat} : ∀ (f a : Nat) (R : List RU), PO T a → PO T (pRules T f a R).1 := by
  intro f
  induction f with
  | zero =>
    intro a R h
    rw [pRules]
    by_cases e : T a = 30000
    · rw [if_pos e]; exact h
    · rw [if_neg e]; exact h
  | succ f ih =>
    intro a R h
    rw [pRules]
    by_cases e : T a = 30000
    · rw [if_pos e]; exact h
    · rw [if_neg e]
      have ok := pRule_ok h
      cases hr : pRule T a with
      | mk c q =>
        rw [hr] at ok
        cases q with
        | none => exact ok.2.1
        | some q => exact ih c (R ++ [q]) ok.2.1
theorem mq_rules {σ : SG} {n : Nat} {tp : Nat → Nat} {R : List RU} (h : TPm σ n tp) (hR : RMt (σ.1 149) R) : ∃ σ', f_M_rules σ = some (rulA n tp, σ') ∧ RMt (σ'.1 149) (rulN n tp R) ∧ (∀ i, ((i < 106 ∧ i ≠ 1) ∨ 340 ≤ i) → σ'.1 149 i = σ.1 149 i) ∧ TPm σ' 0 tp ∧ fr (fun c => c = 148 ∨ c = 149 ∨ c = 151) σ σ' ∧ ∀ i, (i < 26 ∨ 32 < i) → σ'.1 148 i = σ.1 148 i := by
  obtain ⟨σ1, q1, q2, q3⟩ := m_puts σ
  have hn := h.2.1
  unfold f_M_rules rulA rulN
  rw [q1, bnd_some, sx_eq, sx_eq, sx_eq, sx_eq, sx_eq]
  generalize hs : uI (uI (uI (uI (uI σ1 149 1 (0 : Int32)) 148 31 (0 : Int32)) 148 30 (0 : Int32)) 148 28 (0 : Int32)) 148 32 (0 : Int32) = σ2
  have f2 : FRm σ1 σ2 := by
    rw [← hs]
    refine ⟨((((fr.uI (Or.inr rfl)).tr (fr.uI (Or.inl rfl))).tr (fr.uI (Or.inl rfl))).tr (fr.uI (Or.inl rfl))).tr (fr.uI (Or.inl rfl)), fun i hi => ?_, fun i hi => ?_⟩
    · rw [uI_i (by omega), uI_i (by omega), uI_i (by omega), uI_i (by omega), uI_c (by decide)]
    · rw [uI_c (by decide), uI_c (by decide), uI_c (by decide), uI_c (by decide), uI_i (by omega)]
  have t2 : TPm σ2 n tp := ⟨(f2.2.1 26 (by decide)).trans ((q2.at (by decide) 26).trans h.1), hn, fun i hi => by rw [f2.1.at (by decide) i, q2.at (by decide) i]; exact h.2.2 i hi⟩
  obtain ⟨σ3, u1, u2, u3, u4⟩ := m_token t2 (p := 0) (Nat.zero_le _) (by rw [← hs, uI_i (by decide), uI_same]; rfl)
  have f3 : FRm σ1 σ3 := f2.tr (u4.fm (fun i hi => by omega)).r
  have k0 : MRq n tp σ3 0 0 0 := by
    refine ⟨⟨t2.f48 u4 (by decide), u2, u3, ?_⟩, ?_, ?_⟩
    · rw [u4.2 32 (by decide), ← hs, uI_same]; rfl
    · rw [u4.2 30 (by decide), ← hs, uI_i (by decide), uI_i (by decide), uI_same]; rfl
    · rw [u4.2 31 (by decide), ← hs, uI_i (by decide), uI_i (by decide), uI_i (by decide), uI_same]; rfl
  have r0 : RDM n tp σ3 0 [] := ⟨k0, by rw [u4.s, ← hs, uI_c (by decide), uI_c (by decide), uI_c (by decide), uI_c (by decide), uI_same]; rfl, by decide, trivial, by decide, fun q hq => by cases hq⟩
  rw [u1, bnd_some]
  obtain ⟨σ4, w1, w2, w3⟩ := m_rules35 8 0 FU 0 [] σ3 rfl (by rw [FU_eq]; omega) rfl r0 (fun j hj => absurd hj (Nat.not_lt_zero _))
  rw [w1]
  have f4 : FRm σ1 σ4 := f3.tr w3
  have po := pRules_PO (T := TT n tp) 8 0 [] (fun j hj => absurd hj (Nat.not_lt_zero _))
  unfold f_M_rules_60
  rw [sx_eq]
  have f5 : F48 (fun i => i = 26) σ4 (uI σ4 148 26 (0 : Int32)) := F48.u rfl
  have T0 : ∀ τ : SG, τ.1 148 26 = nI 0 → TPm τ 0 tp := fun τ e => ⟨e, by decide, fun i hi => absurd hi (Nat.not_lt_zero _)⟩
  cases hr : pRules (TT n tp) 8 0 [] with
  | mk a R2 =>
    rw [hr] at w2 po
    cases R2 with
    | none =>
      have w2 : MK n tp σ4 a 1 := w2
      have hf : fr (fun c => c = 148 ∨ c = 149 ∨ c = 151) σ (uI σ4 148 26 (0 : Int32)) := ((q2.mono (fun c hc => Or.inr (Or.inr hc))).tr (f4.1.mono (fun c hc => by omega))).tr (f5.1.mono (fun c hc => Or.inl hc))
      have e151 : ∀ i, i < 340 → (uI σ4 148 26 (0 : Int32)).1 151 i = σ.1 149 i := fun i hi => by
        rw [uI_c (by decide), f4.1.at (by decide), q3 i hi]
      have e149 : ∀ i, 340 ≤ i → (uI σ4 148 26 (0 : Int32)).1 149 i = σ.1 149 i := fun i hi => by
        rw [uI_c (by decide), f4.2.2 i (Or.inr hi), q2.at (by decide)]
      obtain ⟨σ5, v1, v2, v3⟩ := m_putsBack e151 e149
      have e32 : (uI σ4 148 26 (0 : Int32)).1 148 32 = nI 1 := by rw [uI_i (by decide)]; exact w2.2.2.2
      have e27 : σ5.1 148 27 = nI (BT n tp a) := by rw [v2.at (by decide), uI_i (by decide)]; exact w2.2.1
      rw [e32, if_neg (by decide), v1, bnd_some, e27]
      refine ⟨σ5, rfl, by rw [v3]; exact hR, fun i _ => by rw [v3], T0 σ5 (by rw [v2.at (by decide), uI_same]; rfl), hf.tr (v2.mono (fun c hc => by omega)), fun i hi => ?_⟩
      rw [v2.at (by decide), uI_i (by omega), f4.2.1 i (by omega), q2.at (by decide)]
    | some R2 =>
      have w2 : RDM n tp σ4 a R2 := w2
      have e32 : (uI σ4 148 26 (0 : Int32)).1 148 32 = 0 := by rw [uI_i (by decide)]; exact w2.1.1.2.2.2
      have eS : (uI σ4 148 26 (0 : Int32)).1 149 = σ4.1 149 := funext fun j => uI_c (by decide)
      have e1 : (uI σ4 148 26 (0 : Int32)).1 149 1 = nI R2.length := by rw [eS]; exact w2.2.1
      have po : PO (TT n tp) a := po
      have ha := po.mx w2.1.1.1
      have := w2.2.2.2.2.1
      rw [if_pos e32, e1]
      refine ⟨_, rfl, ⟨?_, w2.2.2.2.2.2⟩, fun i hi => ?_, T0 _ (by rw [uI_same]; rfl), ((q2.mono (fun c hc => Or.inr (Or.inr hc))).tr (f4.1.mono (fun c hc => by omega))).tr (f5.1.mono (fun c hc => Or.inl hc)), fun i hi => ?_⟩
      · rw [eS]
        exact w2.2.2.2.1.all (by rw [Nat.zero_add]; exact w2.2.1) (by rw [Nat.zero_add]; exact w2.2.2.1) (by omega)
      · rw [eS, f4.2.2 i hi, q2.at (by decide)]
      · rw [uI_i (by omega), f4.2.1 i (by omega), q2.at (by decide)]
