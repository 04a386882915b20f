/-! the class READS its RULES -/
def totR : List RU → Nat
  | [] => 0
  | q :: r => q.2.2.2.length + totR r
theorem tot_app (R Q : List RU) : totR (R ++ Q) = totR R + totR Q := by
  induction R with
  | nil => exact (Nat.zero_add _).symm
  | cons q r ih => show q.2.2.2.length + totR (r ++ Q) = q.2.2.2.length + totR r + totR Q; rw [ih]; omega
/-- one RULE stands as the k-th, its condition from off on -/
def RL1 (t : Nat) (σ : SG) (q : RU) (k off : Nat) : Prop := σ.1 (t + 1) k = nI q.1 ∧ σ.1 (t + 2) k = nI (10012 + q.2.1) ∧ σ.1 (t + 3) k = nI q.2.2.1 ∧ σ.1 (t + 4) k = nI (off + q.2.2.2.length) ∧ ∀ j i, q.2.2.2[j]? = some i → σ.1 (t + 5) (off + j) = encC i
def RLB (t : Nat) (σ : SG) : List RU → Nat → Nat → Prop
  | [], _, _ => True
  | q :: r, k, off => RL1 t σ q k off ∧ RLB t σ r (k + 1) (off + q.2.2.2.length)
theorem RLB.snoc {t : Nat} {σ : SG} {q : RU} : ∀ {R : List RU} {k off : Nat}, RLB t σ R k off → RL1 t σ q (k + R.length) (off + totR R) → RLB t σ (R ++ [q]) k off := by
  intro R
  induction R with
  | nil => intro k off _ h; exact ⟨h, trivial⟩
  | cons p r ih =>
    intro k off h g
    refine ⟨h.1, ih h.2 ?_⟩
    rw [show k + 1 + r.length = k + (p :: r).length by rw [List.length_cons]; omega, show off + p.2.2.2.length + totR r = off + totR (p :: r) from Nat.add_assoc _ _ _]
    exact g
theorem RLB.all {t : Nat} {σ : SG} : ∀ {R : List RU} {k off : Nat}, RLB t σ R k off → σ.1 t 0 = nI (k + R.length) → k + R.length ≤ 8 → σ.1 t 5 = nI (off + totR R) → off + totR R ≤ 200 → RLC t σ R k off := by
  intro R
  induction R with
  | nil => intro k off _ h1 h2 h3 h4; exact ⟨h1, h2, h3, h4⟩
  | cons p r ih =>
    intro k off h h1 h2 h3 h4
    have e1 : k + 1 + r.length = k + (p :: r).length := by rw [List.length_cons]; omega
    have e2 : off + p.2.2.2.length + totR r = off + totR (p :: r) := Nat.add_assoc _ _ _
    exact ⟨h.1.1, h.1.2.1, h.1.2.2.1, h.1.2.2.2.1, h.1.2.2.2.2, ih h.2 (by rw [e1]; exact h1) (by rw [e1]; exact h2) (by rw [e2]; exact h3) (by rw [e2]; exact h4)⟩
theorem RLB.keep {t : Nat} {σ σ' : SG} : ∀ {R : List RU} {k off : Nat}, RLB t σ R k off → (∀ i, i < k + R.length → σ'.1 (t + 1) i = σ.1 (t + 1) i ∧ σ'.1 (t + 2) i = σ.1 (t + 2) i ∧ σ'.1 (t + 3) i = σ.1 (t + 3) i ∧ σ'.1 (t + 4) i = σ.1 (t + 4) i) → (∀ j, j < off + totR R → σ'.1 (t + 5) j = σ.1 (t + 5) j) → RLB t σ' R k off := by
  intro R
  induction R with
  | nil => intro k off _ _ _; trivial
  | cons p r ih =>
    intro k off h h1 h2
    have e1 : k + 1 + r.length = k + (p :: r).length := by rw [List.length_cons]; omega
    have e2 : off + p.2.2.2.length + totR r = off + totR (p :: r) := Nat.add_assoc _ _ _
    obtain ⟨a1, a2, a3, a4⟩ := h1 k (by rw [List.length_cons]; omega)
    refine ⟨⟨a1.trans h.1.1, a2.trans h.1.2.1, a3.trans h.1.2.2.1, a4.trans h.1.2.2.2.1, fun j i hi => ?_⟩, ih h.2 (fun i hi => h1 i (by omega)) (fun j hj => h2 j (by omega))⟩
    have hj : j < p.2.2.2.length := (List.getElem?_eq_some_iff.mp hi).1
    exact (h2 (off + j) (by omega)).trans (h.1.2.2.2.2 j i hi)
/-- only what reading uses -/
def FR (σ σ' : SG) : Prop := fr (fun c => c = 130 ∨ (134 ≤ c ∧ c ≤ 139)) σ σ' ∧ ∀ i, i ≠ 4 → σ'.1 130 i = σ.1 130 i
theorem FR.tr {a b c : SG} (h : FR a b) (g : FR b c) : FR a c := ⟨h.1.tr g.1, fun i hi => (g.2 i hi).trans (h.2 i hi)⟩
theorem FK.fr {σ σ' : SG} (h : FK σ σ') : FR σ σ' := ⟨h.1.mono (fun c hc => by omega), h.2.1⟩
section RR
variable {n : Nat} {tp : Nat → Nat} {N : Nat}
/-- reading stands at the token a, these RULES read -/
def RDS (n : Nat) (tp : Nat → Nat) (N : Nat) (σ : SG) (a : Nat) (R : List RU) : Prop := KS n tp N σ a (totR R) ∧ σ.1 134 0 = nI R.length ∧ R.length ≤ 8 ∧ RLB 134 σ R 0 0 ∧ totR R ≤ a ∧ ∀ q ∈ R, okR q
def RQ (n : Nat) (tp : Nat → Nat) (N : Nat) (R : List RU) (r : Nat × Option RU) (x : Int32) (σ' : SG) : Prop := match r.2 with
  | some q => x = 1 ∧ RDS n tp N σ' r.1 (R ++ [q])
  | none => x = 0 ∧ ∃ c', KS n tp N σ' r.1 c'
theorem RDS.fk {σ σ' : SG} {a c : Nat} {R : List RU} {L : List IT} (h : RDS n tp N σ a R) (k : KS n tp N σ' c (totR R + L.length)) (hd : CDL σ σ' (totR R) L) (g : FK σ σ') : σ'.1 134 0 = nI R.length ∧ RLB 134 σ' R 0 0 := by
  refine ⟨(g.2.2 0 (by decide)).trans h.2.1, h.2.2.2.1.keep (fun i hi => ?_) (fun j hj => hd.1 j (by omega))⟩
  exact ⟨g.1.at (by omega) i, g.1.at (by omega) i, g.1.at (by omega) i, g.1.at (by omega) i⟩
theorem c_154 {σ0 σ : SG} {a e : Nat} {R : List RU} {L : List IT} {k d m : Nat} (hb : ∀ i, i < n → tp i < 256) (h0 : RDS n tp N σ0 a R) (hR : R.length < 8) (h : KS n tp N σ e (totR R + L.length)) (hd : CDL σ0 σ (totR R) L) (g : FK σ0 σ) (hp : PO (TT n tp) e) (he : totR R + L.length ≤ e) (ok : okR (k, d, m, L)) : ∃ x σ', f_Rt_readRule_154 (nI k) (nI (10012 + d)) (nI m) σ = some (x, σ') ∧ RQ n tp N R (if TT n tp e = 20059 then (e + 1, some (k, d, m, L)) else (e, none)) x σ' ∧ FR σ0 σ' := by
  obtain ⟨x1, x2, -, x4⟩ := h.tok hp
  unfold f_Rt_readRule_154
  rw [gd_pos x1, x2]
  by_cases h1 : TT n tp e = 20059
  · obtain ⟨k1, g1⟩ := h.go
    have e1 : (uI σ 130 4 (σ.1 130 4 + 1)).1 139 = σ.1 139 := funext fun j => uI_c (by decide)
    have hd1 : CDL σ0 (uI σ 130 4 (σ.1 130 4 + 1)) (totR R) L := ⟨fun j hj => (congrFun e1 j).trans (hd.1 j hj), fun j i hi => (congrFun e1 _).trans (hd.2 j i hi)⟩
    obtain ⟨r1, r2⟩ := h0.fk k1 hd1 (g.tr g1)
    rw [if_pos (show nI (TT n tp e) = (20059 : Int32) by rw [h1]; rfl), sx_eq, if_pos h1]
    generalize hs : uI σ 130 4 (σ.1 130 4 + 1) = σ1 at k1 g1 hd1 r1 r2
    have q : f_Ru_close 134 (nI k) (nI (10012 + d)) (nI m) σ1 = some ((), uI (uI (uI (uI (uI σ1 135 R.length (nI k)) 136 R.length (nI (10012 + d))) 137 R.length (nI m)) 138 R.length (nI (totR R + L.length))) 134 0 (nI (R.length + 1))) := by
      unfold f_Ru_close
      rw [r1, if_neg (show ¬ (8 : Int32) ≤ nI R.length from nI_ge (show R.length < 8 from hR) (by decide))]
      simp only [uI_c (show (134 : Nat) ≠ 134 + 1 by decide), uI_c (show (134 : Nat) ≠ 134 + 2 by decide), uI_c (show (134 : Nat) ≠ 134 + 3 by decide), uI_c (show (134 : Nat) ≠ 134 + 4 by decide), sx_eq, r1, gd_pos (ix_nI hR (by decide : 8 < 2147483648)), nx_nI (show R.length < 2147483648 by omega), k1.2.2.1, nI_1]
    rw [q, bnd_some]
    refine ⟨1, _, rfl, ⟨rfl, ⟨⟨k1.1.keep ?_ ?_, ?_, ?_, ?_⟩, ?_, ?_, ?_, ?_, ?_⟩⟩, g.fr.tr (g1.fr.tr ⟨?_, ?_⟩)⟩
    · funext j; simp only [uI_c (show (132 : Nat) ≠ 134 by decide), uI_c (show (132 : Nat) ≠ 135 by decide), uI_c (show (132 : Nat) ≠ 136 by decide), uI_c (show (132 : Nat) ≠ 137 by decide), uI_c (show (132 : Nat) ≠ 138 by decide)]
    · funext j; simp only [uI_c (show (133 : Nat) ≠ 134 by decide), uI_c (show (133 : Nat) ≠ 135 by decide), uI_c (show (133 : Nat) ≠ 136 by decide), uI_c (show (133 : Nat) ≠ 137 by decide), uI_c (show (133 : Nat) ≠ 138 by decide)]
    · simp only [uI_c (show (130 : Nat) ≠ 134 by decide), uI_c (show (130 : Nat) ≠ 135 by decide), uI_c (show (130 : Nat) ≠ 136 by decide), uI_c (show (130 : Nat) ≠ 137 by decide), uI_c (show (130 : Nat) ≠ 138 by decide)]
      exact k1.2.1
    · rw [uI_i (by decide)]
      simp only [uI_c (show (134 : Nat) ≠ 135 by decide), uI_c (show (134 : Nat) ≠ 136 by decide), uI_c (show (134 : Nat) ≠ 137 by decide), uI_c (show (134 : Nat) ≠ 138 by decide)]
      rw [k1.2.2.1, tot_app]
      rfl
    · rw [tot_app]
      show totR R + (L.length + 0) ≤ 200
      omega
    · rw [uI_same, List.length_append, List.length_singleton]
    · rw [List.length_append, List.length_singleton]
      omega
    · refine (RLB.keep r2 (fun i hi => ?_) (fun j hj => ?_)).snoc ?_
      · have hi2 : i ≠ R.length := by omega
        refine ⟨?_, ?_, ?_, ?_⟩
        · simp only [uI_c (show (134 + 1 : Nat) ≠ 134 by decide), uI_c (show (134 + 1 : Nat) ≠ 136 by decide), uI_c (show (134 + 1 : Nat) ≠ 137 by decide), uI_c (show (134 + 1 : Nat) ≠ 138 by decide)]
          exact uI_i hi2
        · simp only [uI_c (show (134 + 2 : Nat) ≠ 134 by decide), uI_c (show (134 + 2 : Nat) ≠ 137 by decide), uI_c (show (134 + 2 : Nat) ≠ 138 by decide)]
          exact (uI_i hi2).trans (uI_c (by decide))
        · simp only [uI_c (show (134 + 3 : Nat) ≠ 134 by decide), uI_c (show (134 + 3 : Nat) ≠ 138 by decide)]
          exact (uI_i hi2).trans ((uI_c (by decide)).trans (uI_c (by decide)))
        · rw [uI_c (by decide)]
          exact (uI_i hi2).trans ((uI_c (by decide)).trans ((uI_c (by decide)).trans (uI_c (by decide))))
      · simp only [uI_c (show (134 + 5 : Nat) ≠ 134 by decide), uI_c (show (134 + 5 : Nat) ≠ 135 by decide), uI_c (show (134 + 5 : Nat) ≠ 136 by decide), uI_c (show (134 + 5 : Nat) ≠ 137 by decide), uI_c (show (134 + 5 : Nat) ≠ 138 by decide)]
      · rw [Nat.zero_add, Nat.zero_add]
        refine ⟨?_, ?_, ?_, ?_, fun j i hi => ?_⟩
        · simp only [uI_c (show (134 + 1 : Nat) ≠ 134 by decide), uI_c (show (134 + 1 : Nat) ≠ 136 by decide), uI_c (show (134 + 1 : Nat) ≠ 137 by decide), uI_c (show (134 + 1 : Nat) ≠ 138 by decide)]
          exact uI_same
        · simp only [uI_c (show (134 + 2 : Nat) ≠ 134 by decide), uI_c (show (134 + 2 : Nat) ≠ 137 by decide), uI_c (show (134 + 2 : Nat) ≠ 138 by decide)]
          exact uI_same
        · simp only [uI_c (show (134 + 3 : Nat) ≠ 134 by decide), uI_c (show (134 + 3 : Nat) ≠ 138 by decide)]
          exact uI_same
        · rw [uI_c (by decide)]
          exact uI_same
        · simp only [uI_c (show (134 + 5 : Nat) ≠ 134 by decide), uI_c (show (134 + 5 : Nat) ≠ 135 by decide), uI_c (show (134 + 5 : Nat) ≠ 136 by decide), uI_c (show (134 + 5 : Nat) ≠ 137 by decide), uI_c (show (134 + 5 : Nat) ≠ 138 by decide)]
          exact hd1.2 j i hi
    · rw [tot_app]
      show totR R + (L.length + 0) ≤ e + 1
      omega
    · intro q hq
      rcases List.mem_append.mp hq with w | w
      · exact h0.2.2.2.2.2 q w
      · rw [List.mem_singleton.mp w]; exact ok
    · exact ((((fr.uI (Or.inr ⟨by decide, by decide⟩)).tr (fr.uI (Or.inr ⟨by decide, by decide⟩))).tr (fr.uI (Or.inr ⟨by decide, by decide⟩))).tr (fr.uI (Or.inr ⟨by decide, by decide⟩))).tr (fr.uI (Or.inr ⟨by decide, by decide⟩))
    · intro i _
      simp only [uI_c (show (130 : Nat) ≠ 134 by decide), uI_c (show (130 : Nat) ≠ 135 by decide), uI_c (show (130 : Nat) ≠ 136 by decide), uI_c (show (130 : Nat) ≠ 137 by decide), uI_c (show (130 : Nat) ≠ 138 by decide)]
  · rw [if_neg (show ¬ nI (TT n tp e) = (20059 : Int32) from fun z => h1 ((n_eqT (k := 20059) (TT_lt hb e) (by decide)).mp z)), if_neg h1]
    exact ⟨0, σ, rfl, ⟨rfl, _, h⟩, g.fr⟩
theorem CDL.go {σ0 σ : SG} {c : Nat} {L : List IT} (h : CDL σ0 σ c L) : CDL σ0 (uI σ 130 4 (σ.1 130 4 + 1)) c L := ⟨fun j hj => by rw [uI_c (by decide)]; exact h.1 j hj, fun j i hi => by rw [uI_c (by decide)]; exact h.2 j i hi⟩
theorem c_tail {σ0 σ : SG} {a c : Nat} {R : List RU} {L : List IT} (hb : ∀ i, i < n → tp i < 256) (h0 : RDS n tp N σ0 a R) (hR : R.length < 8) (h : KS n tp N σ c (totR R + L.length)) (hd : CDL σ0 σ (totR R) L) (g : FK σ0 σ) (hp : PO (TT n tp) c) (hc : totR R + L.length ≤ c) (hk : TT n tp a ≤ 10010) (hL : okL L) : ∃ x σ', f_Rt_readRule_70 (nI (TT n tp a - 10005)) σ = some (x, σ') ∧ RQ n tp N R (pTail (TT n tp) a c L) x σ' ∧ FR σ0 σ' := by
  obtain ⟨x1, x2, -, x4⟩ := h.tok hp
  have tc := TT_lt hb c
  have key : 10012 ≤ TT n tp c ∧ TT n tp c ≤ 10014 → f_Rt_readRule_70 (nI (TT n tp a - 10005)) σ = f_Rt_readRule_103 (nI (TT n tp a - 10005)) (nI (TT n tp c)) σ := by
    intro hh
    unfold f_Rt_readRule_70
    rw [gd_pos x1, x2, lx_eq]
    by_cases e1 : nI (TT n tp c) = (10012 : Int32)
    · rw [if_pos e1]
    · rw [if_neg e1]
      by_cases e2 : nI (TT n tp c) = (10013 : Int32)
      · rw [if_pos e2]
      · have e3 : TT n tp c = 10014 := by
          have a1 : TT n tp c ≠ 10012 := fun z => e1 (by rw [z]; rfl)
          have a2 : TT n tp c ≠ 10013 := fun z => e2 (by rw [z]; rfl)
          omega
        rw [if_neg e2, if_pos (show nI (TT n tp c) = (10014 : Int32) by rw [e3]; rfl)]
  unfold pTail
  by_cases h1 : 10012 ≤ TT n tp c ∧ TT n tp c ≤ 10014
  · rw [key h1, if_pos h1]
    unfold f_Rt_readRule_103
    have p1 : PO (TT n tp) (c + 1) := hp.next (by omega)
    obtain ⟨k1, g1⟩ := h.go
    rw [sx_eq]
    by_cases h2 : TT n tp c = 10014
    · rw [if_pos (show nI (TT n tp c) = (10014 : Int32) by rw [h2]; rfl), if_pos h2]
      have := c_154 (k := TT n tp a - 10005) (d := 2) (m := 0) hb h0 hR k1 hd.go (g.tr g1) p1 (by omega) ⟨by show TT n tp a - 10005 ≤ 5; omega, (by decide : (2 : Nat) ≤ 2), (by decide : (0 : Nat) ≤ 99), hL⟩
      rw [h2]
      exact this
    · rw [if_neg (show ¬ nI (TT n tp c) = (10014 : Int32) from fun z => h2 ((n_eqT (k := 10014) tc (by decide)).mp z)), if_neg h2]
      obtain ⟨y1, y2, -, y4⟩ := k1.tok p1
      have tc1 := TT_lt hb (c + 1)
      rw [gd_pos y1, y2, lx_eq, b_isIn, bnd_some]
      by_cases h3 : TT n tp (c + 1) ≤ 99
      · have p2 : PO (TT n tp) (c + 2) := p1.next (by omega)
        obtain ⟨k2, g2⟩ := k1.go
        rw [if_pos (bI_n0.mpr ⟨n_0le (by omega), (n_le (b := 99) (by omega) (by decide)).mpr h3⟩), if_pos h3, sx_eq]
        have := c_154 (k := TT n tp a - 10005) (d := TT n tp c - 10012) (m := TT n tp (c + 1)) hb h0 hR k2 hd.go.go ((g.tr g1).tr g2) p2 (by omega) ⟨by show TT n tp a - 10005 ≤ 5; omega, by show TT n tp c - 10012 ≤ 2; omega, h3, hL⟩
        rw [show 10012 + (TT n tp c - 10012) = TT n tp c by omega] at this
        exact this
      · rw [if_neg (fun z => z (bI_0.mpr (fun w => h3 ((n_le (b := 99) (by omega) (by decide)).mp w.2)))), if_neg h3]
        exact ⟨0, _, rfl, ⟨rfl, _, k1⟩, (g.tr g1).fr⟩
  · rw [if_neg h1]
    refine ⟨0, σ, ?_, ⟨rfl, _, h⟩, g.fr⟩
    unfold f_Rt_readRule_70
    rw [gd_pos x1, x2, lx_eq, if_neg (show ¬ nI (TT n tp c) = (10012 : Int32) from fun z => h1 (by have := (n_eqT (k := 10012) tc (by decide)).mp z; omega)), if_neg (show ¬ nI (TT n tp c) = (10013 : Int32) from fun z => h1 (by have := (n_eqT (k := 10013) tc (by decide)).mp z; omega)), if_neg (show ¬ nI (TT n tp c) = (10014 : Int32) from fun z => h1 (by have := (n_eqT (k := 10014) tc (by decide)).mp z; omega))]
theorem c_rule {σ : SG} {a : Nat} {R : List RU} (hb : ∀ i, i < n → tp i < 256) (h : RDS n tp N σ a R) (hR : R.length < 8) (hp : PO (TT n tp) a) : ∃ x σ', f_Rt_readRule σ = some (x, σ') ∧ RQ n tp N R (pRule (TT n tp) a) x σ' ∧ FR σ σ' := by
  obtain ⟨x1, x2, -, x4⟩ := h.1.tok hp
  have ta := TT_lt hb a
  have hta := h.2.2.2.2.1
  unfold f_Rt_readRule pRule
  rw [gd_pos x1, x2, lx_eq, show (10005 : Int32) = nI 10005 from rfl, show (5 : Int32) = nI 5 from rfl, b_isIn2 (by omega) (by decide) (by decide), bnd_some]
  by_cases h1 : 10005 ≤ TT n tp a ∧ TT n tp a ≤ 10010
  · have p1 : PO (TT n tp) (a + 1) := hp.next (by omega)
    obtain ⟨k1, g1⟩ := h.1.go
    obtain ⟨y1, y2, -, y4⟩ := k1.tok p1
    rw [if_pos (bI_n0.mpr h1), if_pos h1, sx_eq, gd_pos y1, y2, n_sub h1.1]
    obtain ⟨c1, c2, c3⟩ := cnd_ok (T := TT n tp) (a := a) p1
    show ∃ x σ', _ = _ ∧ RQ n tp N R (pMid (TT n tp) a (cndT (TT n tp) a)) x σ' ∧ FR σ σ'
    by_cases h2 : TT n tp (a + 1) = 10011
    · have p2 : PO (TT n tp) (a + 2) := p1.next (by omega)
      obtain ⟨k2, g2⟩ := k1.go
      obtain ⟨x, σ2, q1, q2, q3⟩ := c_cond (N := N) hb 12 0 (by decide) (by decide) _ (a + 2) _ k2 p2 (by omega)
      rw [if_neg (show ¬ ¬ nI (TT n tp (a + 1)) = (10011 : Int32) from fun z => z (by rw [h2]; rfl)), sx_eq, show f_Rt_readCondition DP (0 : Int32) = f_Rt_readCondition 12 (nI 0) from rfl, q1, bnd_some]
      rw [show cndT (TT n tp) a = pCond (TT n tp) 12 0 (a + 2) from if_pos h2] at c1 c2 c3 ⊢
      cases hr : pCond (TT n tp) 12 0 (a + 2) with
      | mk c L =>
        rw [hr] at q2 c1 c2 c3
        cases L with
        | none =>
          obtain ⟨ex, c', w⟩ := q2
          rw [ex, if_neg (by decide)]
          exact ⟨0, σ2, rfl, ⟨rfl, c', w⟩, ((g1.tr g2).tr q3).fr⟩
        | some L =>
          obtain ⟨ex, w1, w2⟩ := q2
          obtain ⟨m1, m2, m3⟩ := c3 L rfl
          have w1 : KS n tp N σ2 c (totR R + L.length) := w1
          have m2 : L.length + a ≤ c := m2
          have e1 : ∀ τ : SG, (uI τ 130 4 (τ.1 130 4 + 1)).1 139 = τ.1 139 := fun τ => funext fun j => uI_c (by decide)
          rw [ex, if_pos (by decide)]
          exact c_tail hb h hR w1 ⟨fun j hj => (w2.1 j hj).trans ((congrFun (e1 _) j).trans (congrFun (e1 _) j)), w2.2⟩ ((g1.tr g2).tr q3) c2 (by omega) h1.2 m3
    · rw [if_pos (show ¬ nI (TT n tp (a + 1)) = (10011 : Int32) from fun z => h2 ((n_eqT (k := 10011) (TT_lt hb _) (by decide)).mp z))]
      rw [show cndT (TT n tp) a = (a + 1, some []) from if_neg h2] at c1 c2 c3 ⊢
      obtain ⟨m1, m2, m3⟩ := c3 [] rfl
      exact c_tail hb h hR (L := []) k1 (CDL.nil (funext fun j => uI_c (by decide))) g1 p1 (by show totR R + 0 ≤ a + 1; omega) h1.2 m3
  · rw [if_neg (fun z => z (bI_0.mpr h1)), if_neg h1]
    exact ⟨0, σ, rfl, ⟨rfl, _, h.1⟩, fr.rf, fun _ _ => rfl⟩
/-- what reading all came to: RULES, or where it went wrong -/
def RAll (n : Nat) (tp : Nat → Nat) (r : Nat × Option (List RU)) (x : Int32) (σ' : SG) : Prop := match r.2 with
  | some R => x = -3 ∧ RLC 134 σ' R 0 0 ∧ ∀ q ∈ R, okR q
  | none => x = nI (BT n tp r.1)
theorem c_read25 (hb : ∀ i, i < n → tp i < 256) : ∀ (f k m a : Nat) (R : List RU) (σ : SG), f + k = 8 → f < m → R.length = k → RDS n tp N σ a R → PO (TT n tp) a → ∃ x σ', f_Rt_read_25 m 1 (nI k) σ = some (x, σ') ∧ RAll n tp (pRules (TT n tp) f a R) x σ' ∧ FR σ σ' := by
  have fin : ∀ (a : Nat) (R : List RU) (σ : SG), RDS n tp N σ a R → PO (TT n tp) a → TT n tp a = 30000 → f_Rt_read_61 1 σ = some (-3, σ) ∧ RAll n tp (a, some R) (-3) σ := by
    intro a R σ h hp he
    obtain ⟨x1, x2, -, x4⟩ := h.1.tok hp
    refine ⟨?_, rfl, h.2.2.2.1.all (by rw [Nat.zero_add]; exact h.2.1) (by rw [Nat.zero_add]; exact h.2.2.1) (by rw [Nat.zero_add]; exact h.1.2.2.1) (by rw [Nat.zero_add]; exact h.1.2.2.2), h.2.2.2.2.2⟩
    unfold f_Rt_read_61
    rw [if_neg (by decide), gd_pos x1, x2, if_neg (show ¬ ¬ nI (TT n tp a) = (30000 : Int32) from fun z => z (by rw [he]; rfl))]
  intro f
  induction f with
  | zero =>
    intro k m a R σ hk hm hR h hp
    obtain ⟨m, rfl⟩ : ∃ g, m = g + 1 := ⟨m - 1, by omega⟩
    obtain ⟨x1, x2, x3, x4⟩ := h.1.tok hp
    have ek : k = 8 := by omega
    rw [f_Rt_read_25, ek, if_pos (by decide), pRules]
    by_cases he : TT n tp a = 30000
    · rw [if_pos he]
      obtain ⟨u1, u2⟩ := fin a R σ h hp he
      exact ⟨-3, σ, u1, u2, fr.rf, fun _ _ => rfl⟩
    · rw [if_neg he]
      refine ⟨nI (BT n tp a), σ, ?_, rfl, fr.rf, fun _ _ => rfl⟩
      unfold f_Rt_read_61
      rw [if_neg (by decide), gd_pos x1, x2, if_pos (show ¬ nI (TT n tp a) = (30000 : Int32) from fun z => he ((n_eqT (k := 30000) (TT_lt hb a) (by decide)).mp z)), gd_pos x1, x3]
  | succ f ih =>
    intro k m a R σ hk hm hR h hp
    obtain ⟨m, rfl⟩ : ∃ g, m = g + 1 := ⟨m - 1, by omega⟩
    obtain ⟨x1, x2, x3, x4⟩ := h.1.tok hp
    rw [f_Rt_read_25, if_neg (show ¬ (8 : Int32) ≤ nI k from nI_ge (show k < 8 by omega) (by decide)), if_neg (by decide), gd_pos x1, x2, pRules]
    by_cases he : TT n tp a = 30000
    · rw [if_pos he, if_pos (show nI (TT n tp a) = (30000 : Int32) by rw [he]; rfl)]
      obtain ⟨u1, u2⟩ := fin a R σ h hp he
      exact ⟨-3, σ, u1, u2, fr.rf, fun _ _ => rfl⟩
    · rw [if_neg he, if_neg (show ¬ nI (TT n tp a) = (30000 : Int32) from fun z => he ((n_eqT (k := 30000) (TT_lt hb a) (by decide)).mp z))]
      obtain ⟨x, σ1, q1, q2, q3⟩ := c_rule hb h (by omega) hp
      have ok := pRule_ok hp
      rw [q1, bnd_some, lx_eq, nI_1]
      cases hr : pRule (TT n tp) a with
      | mk e q =>
        rw [hr] at q2 ok
        cases q with
        | none =>
          obtain ⟨ex, c', w⟩ := q2
          have w : KS n tp N σ1 e c' := w
          obtain ⟨y1, y2, y3, y4⟩ := w.tok ok.2.1
          obtain ⟨m, rfl⟩ : ∃ g, m = g + 1 := ⟨m - 1, by omega⟩
          refine ⟨nI (BT n tp e), σ1, ?_, rfl, q3⟩
          have e6 : f_Rt_read_61 0 σ1 = some (nI (BT n tp e), σ1) := by
            unfold f_Rt_read_61
            rw [if_pos rfl, gd_pos y1, y3]
          rw [ex, f_Rt_read_25]
          by_cases c8 : (8 : Int32) ≤ nI (k + 1)
          · rw [if_pos c8, e6]
          · rw [if_neg c8, if_pos rfl, e6]
        | some q =>
          obtain ⟨ex, w⟩ := q2
          rw [ex]
          obtain ⟨x', σ', u1, u2, u3⟩ := ih (k + 1) m e (R ++ [q]) σ1 (by omega) (by omega) (by rw [List.length_append, List.length_singleton, hR]) w ok.2.1
          exact ⟨x', σ', u1, u2, q3.tr u3⟩
end RR
theorem c_read {σ : SG} {n : Nat} {tp : Nat → Nat} (h : TPc σ n tp) : ∃ x σ', f_Rt_read σ = some (x, σ') ∧ RAll n tp (pRules (TT n tp) 8 0 []) x σ' ∧ TPc σ' 0 tp ∧ fr (fun c => 130 ≤ c ∧ c ≤ 139 ∧ c ≠ 131) σ σ' := by
  obtain ⟨σ1, N, q1, q2, q3⟩ := c_cut h
  have hb : ∀ i, i < n → tp i < 256 := fun i hi => (h.2.2 i hi).2
  unfold f_Rt_read
  rw [q1, bnd_some, sx_eq, sx_eq]
  unfold f_Ru_clear
  rw [sx_eq, sx_eq, bnd_some]
  generalize hs : uI (uI (uI (uI σ1 130 1 (0 : Int32)) 130 4 (0 : Int32)) 134 0 (0 : Int32)) 134 5 (0 : Int32) = σ2
  have f2 : fr (fun c => c = 130 ∨ c = 134) σ1 σ2 := by
    rw [← hs]
    exact ((((fr.uI (Or.inl rfl)).tr (fr.uI (Or.inl rfl))).tr (fr.uI (Or.inr rfl))).tr (fr.uI (Or.inr rfl)))
  have k0 : KS n tp N σ2 0 0 := by
    refine ⟨q2.keep (f2.1 132 (by omega)) (f2.1 133 (by omega)), ?_, ?_, by decide⟩
    · rw [← hs, uI_c (by decide), uI_c (by decide), uI_same]; rfl
    · rw [← hs, uI_same]; rfl
  have r0 : RDS n tp N σ2 0 [] := ⟨k0, by rw [← hs, uI_i (by decide), uI_same]; rfl, by decide, trivial, by decide, fun q hq => by cases hq⟩
  obtain ⟨x, σ', u1, u2, u3⟩ := c_read25 hb 8 0 FU 0 [] σ2 rfl (by rw [FU_eq]; omega) rfl r0 (fun j hj => absurd hj (Nat.not_lt_zero _))
  refine ⟨x, σ', u1, u2, ⟨?_, by omega, fun i hi => by omega⟩, ((q3.mono (fun c hc => by omega)).tr (f2.mono (fun c hc => by omega))).tr (u3.1.mono (fun c hc => by omega))⟩
  rw [u3.2 1 (by decide), ← hs, uI_c (by decide), uI_c (by decide), uI_i (by decide), uI_same]
  rfl
/-- RULES of the town, told -/
def rulA (n : Nat) (tp : Nat → Nat) : Int32 := match pRules (TT n tp) 8 0 [] with
  | (_, some R) => nI R.length
  | (a, none) => -100 - nI (BT n tp a)
def rulN (n : Nat) (tp : Nat → Nat) (R0 : List RU) : List RU := match pRules (TT n tp) 8 0 [] with
  | (_, some R) => R
  | (_, none) => R0
theorem BT_200 {n : Nat} {tp : Nat → Nat} (h : n ≤ 200) (i : Nat) : BT n tp i ≤ 200 := Nat.le_trans (BT_le i) h
theorem cq_rules {σ : SG} {n : Nat} {tp : Nat → Nat} {R : List RU} (h : TPc σ n tp) (hR : RLt 20 σ R) : ∃ σ', f_H_rules σ = some (rulA n tp, σ') ∧ RLt 20 σ' (rulN n tp R) ∧ TPc σ' 0 tp ∧ fr (fun c => (21 ≤ c ∧ c ≤ 26) ∨ (130 ≤ c ∧ c ≤ 139 ∧ c ≠ 131)) σ σ' := by
  obtain ⟨x, σ1, q1, q2, q3, q4⟩ := c_read h
  unfold f_H_rules rulA rulN
  rw [q1, bnd_some]
  cases hr : pRules (TT n tp) 8 0 [] with
  | mk a R2 =>
    rw [hr] at q2
    cases R2 with
    | none =>
      have ex : x = nI (BT n tp a) := q2
      have hB := BT_200 (tp := tp) h.2.1 a
      rw [ex, if_neg (n_nn (by omega))]
      refine ⟨σ1, rfl, ⟨hR.1.keep ?_ ?_ ?_ ?_ ?_ ?_, hR.2⟩, q3, q4.mono (fun c hc => by omega)⟩
      · exact q4.1 _ (by omega)
      · exact q4.1 _ (by omega)
      · exact q4.1 _ (by omega)
      · exact q4.1 _ (by omega)
      · exact q4.1 _ (by omega)
      · exact q4.1 _ (by omega)
    | some R2 =>
      obtain ⟨ex, w1, w2⟩ := q2
      obtain ⟨σ2, u1, u2, u3⟩ := b_copyRu2 (t := 21) (a := 134) (Or.inr (by decide)) w1
      rw [ex, if_pos (by decide), u1, bnd_some]
      have e : σ2.1 21 0 = nI R2.length := by
        have := u3.count.1
        rw [Nat.zero_add] at this
        exact this
      rw [e]
      refine ⟨σ2, rfl, ⟨u3, w2⟩, ⟨(u2.at (by omega) 1).trans q3.1, q3.2.1, fun i hi => by omega⟩, (q4.mono (fun c hc => by omega)).tr (u2.mono (fun c hc => by omega))⟩
