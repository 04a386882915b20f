/-! DRAWN, both sides -/
def zN (z : Int32) : Int32 := z * 1103515245 + 12345
theorem n_ush (z : Int32) : ∃ k, k < 65536 ∧ ush z 16 = nI k := by
  refine ⟨(z.toUInt32 >>> 16).toNat, ?_, ?_⟩
  · have h : (z.toUInt32 >>> 16).toNat = z.toUInt32.toNat >>> 16 := UInt32.toNat_shiftRight _ _
    have hz := z.toUInt32.toNat_lt
    rw [h, Nat.shiftRight_eq_div_pow]
    omega
  · have e : UInt32.ofNat (z.toUInt32 >>> 16).toNat = z.toUInt32 >>> 16 := UInt32.ofNat_toNat
    show (z.toUInt32 >>> 16).toInt32 = nI (z.toUInt32 >>> 16).toNat
    generalize (z.toUInt32 >>> 16).toNat = k at e
    rw [← e]
    rfl
def ixZ (z : Int32) (m : Nat) : Nat := nx (ush (zN z) 16 - ush (zN z) 16 / nI m * nI m)
theorem ixZ_lt {z : Int32} {m : Nat} (h0 : 0 < m) (hm : m < 1000) : ixZ z m < m ∧ ush (zN z) 16 - ush (zN z) 16 / nI m * nI m = nI (ixZ z m) := by
  obtain ⟨k, hk, e⟩ := n_ush (zN z)
  have h1 := Nat.div_add_mod' k m
  have h2 := Nat.mod_lt k h0
  have e2 : ush (zN z) 16 - ush (zN z) 16 / nI m * nI m = nI (k % m) := by
    rw [e, n_div (by omega) (by omega), n_mul, n_sub (by omega)]
    congr 1
    omega
  unfold ixZ
  rw [e2, nx_nI (by omega)]
  exact ⟨h2, rfl⟩
/-- the one of those that can be -/
def drawP (L : List Nat) (z : Int32) : Option Nat := L[ixZ z L.length]?
theorem canL_21 {S : Nat → Int32} {R : List RU} {o : Nat → Bool} {a : Nat} : (canL S R o a).length ≤ 21 := List.length_filter_le _ CHl
theorem drawP_none {L : List Nat} {z : Int32} (hl : L.length ≤ 21) (h : drawP L z = none) : L = [] := by
  cases L with
  | nil => rfl
  | cons a l =>
    have q := (ixZ_lt (z := z) (m := (a :: l).length) (by rw [List.length_cons]; omega) (by omega)).1
    have := List.getElem?_eq_none_iff.mp h
    omega
theorem drawP_some {L : List Nat} {z : Int32} {c : Nat} (h : drawP L z = some c) : L ≠ [] ∧ c ∈ L ∧ L.getD (ixZ z L.length) 0 = c := by
  refine ⟨fun e => ?_, List.mem_of_getElem? h, ?_⟩
  · rw [e] at h
    cases h
  · unfold drawP at h
    rw [List.getD_eq_getElem?_getD, h]
    rfl
section DRC
variable {t : Nat} {S : Nat → Int32} {R : List RU}
theorem b_dr_85 (hg : GD S) : ∀ (d j f left : Nat) (σ : SG), j + d = 21 → d < f → TWR t σ S nob → RLt t σ R → left < (cdL S R nob j).length → ∃ σ1, f_To_drawn_85 t f (nI left) (21 : Int32) (nI j) σ = bnd (f_To_enter t (nI ((cdL S R nob j).getD left 0)) σ1) (fun _ τ => some (nI ((cdL S R nob j).getD left 0), τ)) ∧ fr (fun q => q = t + 7) σ σ1 := by
  intro d
  induction d with
  | zero =>
    intro j f left σ hk hf hT hR hl
    have e : j = 21 := by omega
    subst e
    exact absurd hl (Nat.not_lt_zero _)
  | succ d ih =>
    intro j f left σ hk hf hT hR hl
    obtain ⟨f, rfl⟩ : ∃ g, f = g + 1 := ⟨f - 1, by omega⟩
    have hj : j < 21 := by omega
    have hc := CHl_60 j hj
    rw [f_To_drawn_85, if_neg (show ¬ (21 : Int32) ≤ nI j from nI_ge hj (by decide)), gd_pos (ix_nI hj (by decide)), lx_eq, nx_nI (by omega), CHl_t j hj]
    obtain ⟨σ1, q1, q2⟩ := b_canBe (t := t) (c := nI (CHl.getD j 0)) hT hg hR
    have T1 := hT.cong (fun c c1 c2 c3 => q2.1 c c3)
    have R1 := hR.cong (fun c c1 c2 => q2.1 c (by omega))
    rw [q1, bnd_some, bI_iff (can_60 hc)]
    by_cases hcan : canC S R nob (CHl.getD j 0)
    · rw [if_neg (bI_n0.mpr hcan)]
      rw [cdL_y hj hcan] at hl ⊢
      cases left with
      | zero =>
        rw [if_neg (show ¬ ¬ nI 0 = 0 from fun z => z rfl)]
        exact ⟨σ1, rfl, q2⟩
      | succ left =>
        have hl21 : (cdL S R nob (j + 1)).length ≤ 21 := Nat.le_trans (List.length_filter_le _ _) (by rw [List.length_drop]; exact Nat.sub_le _ _)
        rw [List.length_cons] at hl
        have n0 : ¬ nI (left + 1) = 0 := fun z => by
          have := (n_inj (a := left + 1) (b := 0) (by omega) (by decide)).mp z
          omega
        rw [if_pos n0, lx_eq, lx_eq, n_m1, nI_1]
        obtain ⟨σ2, r1, r2⟩ := ih (j + 1) f left σ1 (by omega) (by omega) T1 R1 (by omega)
        exact ⟨σ2, r1, q2.tr r2⟩
    · rw [if_pos (bI_0.mpr hcan), lx_eq, nI_1]
      rw [cdL_n hj hcan] at hl ⊢
      obtain ⟨σ2, r1, r2⟩ := ih (j + 1) f left σ1 (by omega) (by omega) T1 R1 hl
      exact ⟨σ2, r1, q2.tr r2⟩
theorem b_dr_12 (hg : GD S) : ∀ (d j f m : Nat) (σ : SG), j + d = 21 → d < f → TWR t σ S nob → RLt t σ R → ∃ σ1, f_To_drawn_12 t f (nI m) (21 : Int32) (nI j) σ = f_To_drawn_12 t 1 (nI (m + (cdL S R nob j).length)) (21 : Int32) (21 : Int32) σ1 ∧ fr (fun q => q = t + 7) σ σ1 := by
  intro d
  induction d with
  | zero =>
    intro j f m σ hk hf hT hR
    obtain ⟨f, rfl⟩ : ∃ g, f = g + 1 := ⟨f - 1, by omega⟩
    have e : j = 21 := by omega
    subst e
    refine ⟨σ, ?_, fr.rf⟩
    show f_To_drawn_12 t (f + 1) (nI m) 21 (21 : Int32) σ = f_To_drawn_12 t (0 + 1) (nI (m + 0)) 21 21 σ
    rw [f_To_drawn_12, f_To_drawn_12, Nat.add_zero, if_pos (show (21 : Int32) ≤ 21 by decide), if_pos (show (21 : Int32) ≤ 21 by decide)]
  | succ d ih =>
    intro j f m σ hk hf hT hR
    obtain ⟨f, rfl⟩ : ∃ g, f = g + 1 := ⟨f - 1, by omega⟩
    have hj : j < 21 := by omega
    have hc := CHl_60 j hj
    rw [f_To_drawn_12, if_neg (show ¬ (21 : Int32) ≤ nI j from nI_ge hj (by decide)), gd_pos (ix_nI hj (by decide)), lx_eq, nx_nI (by omega), CHl_t j hj]
    obtain ⟨σ1, q1, q2⟩ := b_canBe (t := t) (c := nI (CHl.getD j 0)) hT hg hR
    have T1 := hT.cong (fun c c1 c2 c3 => q2.1 c c3)
    have R1 := hR.cong (fun c c1 c2 => q2.1 c (by omega))
    rw [q1, bnd_some, bI_iff (can_60 hc)]
    by_cases hcan : canC S R nob (CHl.getD j 0)
    · rw [if_neg (bI_n0.mpr hcan), lx_eq, lx_eq, nI_1, nI_1]
      obtain ⟨σ2, r1, r2⟩ := ih (j + 1) f (m + 1) σ1 (by omega) (by omega) T1 R1
      refine ⟨σ2, ?_, q2.tr r2⟩
      rw [r1, cdL_y hj hcan, List.length_cons, show m + 1 + (cdL S R nob (j + 1)).length = m + ((cdL S R nob (j + 1)).length + 1) by omega]
    · rw [if_pos (bI_0.mpr hcan), lx_eq, nI_1, cdL_n hj hcan]
      obtain ⟨σ2, r1, r2⟩ := ih (j + 1) f m σ1 (by omega) (by omega) T1 R1
      exact ⟨σ2, r1, q2.tr r2⟩
theorem b_drawn {σ : SG} {z : Int32} (hg : GD S) (hT : TWR t σ S nob) (hR : RLt t σ R) (hz : σ.1 t 13 = z) : (drawP (canL S R nob 0) z = none → ∃ σ', f_To_drawn t σ = some (-3, σ') ∧ fr (fun q => q = t + 7) σ σ') ∧ ∀ c, drawP (canL S R nob 0) z = some c → ∃ σ1, f_To_drawn t σ = bnd (f_To_enter t (nI c) σ1) (fun _ τ => some (nI c, τ)) ∧ fr (fun q => q = t ∨ q = t + 7) σ σ1 ∧ (∀ i, i ≠ 13 → σ1.1 t i = σ.1 t i) ∧ σ1.1 t 13 = zN z ∧ TWR t σ1 S nob ∧ RLt t σ1 R := by
  unfold f_To_drawn
  obtain ⟨σ1, q1, q2⟩ := b_dr_12 (t := t) (R := R) hg 21 0 FU 0 σ rfl (by rw [FU_eq]; omega) hT hR
  have q1 : f_To_drawn_12 t FU (0 : Int32) (21 : Int32) (0 : Int32) σ = _ := q1
  have hl := canL_21 (S := S) (R := R) (o := nob) (a := 0)
  rw [q1, cdL_0, Nat.zero_add, show (1 : Nat) = 0 + 1 from rfl, f_To_drawn_12, if_pos (by decide)]
  have T1 := hT.cong (fun c c1 c2 c3 => q2.1 c c3)
  have R1 := hR.cong (fun c c1 c2 => q2.1 c (by omega))
  refine ⟨fun hn => ?_, fun c hs => ?_⟩
  · rw [drawP_none hl hn]
    exact ⟨σ1, rfl, q2⟩
  · obtain ⟨hne, -, hc⟩ := drawP_some hs
    have hpos : 0 < (canL S R nob 0).length := List.length_pos_iff.mpr hne
    have n0 : ¬ nI (canL S R nob 0).length = 0 := fun q => by have := (n_inj (b := 0) (by omega) (by decide)).mp q; omega
    have e13 : σ1.1 t 13 = z := by rw [q2.at (by omega)]; exact hz
    rw [if_pos n0, sx_eq, gd_pos n0, lx_eq, uI_same, e13]
    show ∃ τ, f_To_drawn_85 t FU (ush (zN z) 16 - ush (zN z) 16 / nI (canL S R nob 0).length * nI (canL S R nob 0).length) 21 0 (uI σ1 t 13 (zN z)) = _ ∧ _
    obtain ⟨i1, i2⟩ := ixZ_lt (z := z) hpos (by omega)
    rw [i2]
    have T2 : TWR t (uI σ1 t 13 (zN z)) S nob := T1.own (by decide) (by decide) (by decide) (by decide)
    have R2 : RLt t (uI σ1 t 13 (zN z)) R := R1.cong (fun c c1 c2 => uIc (by omega))
    obtain ⟨σ2, r1, r2⟩ := b_dr_85 (t := t) hg 21 0 FU (ixZ z (canL S R nob 0).length) (uI σ1 t 13 (zN z)) rfl (by rw [FU_eq]; omega) T2 R2 (by rw [cdL_0]; exact i1)
    have r1 : f_To_drawn_85 t FU (nI (ixZ z (canL S R nob 0).length)) 21 (0 : Int32) (uI σ1 t 13 (zN z)) = _ := r1
    rw [r1, cdL_0, hc]
    have f1 : fr (fun q => q = t ∨ q = t + 7) σ σ1 := q2.mono (fun q hq => Or.inr hq)
    refine ⟨σ2, rfl, (f1.tr (fr.uI (Or.inl rfl))).tr (r2.mono (fun q hq => Or.inr hq)), fun i hi => ?_, ?_, T2.cong (fun c c1 c2 c3 => r2.1 c c3), R2.cong (fun c c1 c2 => r2.1 c (by omega))⟩
    · rw [r2.at (by omega), uI_i hi, q2.at (by omega)]
    · rw [r2.at (by omega), uI_same]
end DRC
/-! the reference -/
section DRM
variable {S : Nat → Int32} {R : List RU}
theorem m_dr_8 (hg : GD S) (hR : RMt S R) : ∀ (n a f m : Nat) (σ : SG), (canL S R nob a).length = n → n < f → σ.1 149 = S → σ.1 148 4 = -1 → ∃ σ1, f_M_drawn_8 f (nI m) (nxI (nxtA S R nob a)) σ = f_M_drawn_8 1 (nI (m + n)) (-1 : Int32) σ1 ∧ fr (fun q => q = 152) σ σ1 := by
  intro n
  induction n with
  | zero =>
    intro a f m σ hk hf hs h4
    obtain ⟨f, rfl⟩ : ∃ g, f = g + 1 := ⟨f - 1, by omega⟩
    have e := canL_eq S R nob a
    cases hn : nxtA S R nob a with
    | none =>
      refine ⟨σ, ?_, fr.rf⟩
      show f_M_drawn_8 (f + 1) (nI m) (-1 : Int32) σ = f_M_drawn_8 (0 + 1) (nI m) (-1) σ
      rw [f_M_drawn_8, f_M_drawn_8, if_pos (show (-1 : Int32) < 0 by decide), if_pos (show (-1 : Int32) < 0 by decide)]
    | some x =>
      rw [hn] at e
      rw [e] at hk
      exact absurd hk (Nat.succ_ne_zero _)
  | succ n ih =>
    intro a f m σ hk hf hs h4
    obtain ⟨f, rfl⟩ : ∃ g, f = g + 1 := ⟨f - 1, by omega⟩
    have e := canL_eq S R nob a
    cases hn : nxtA S R nob a with
    | none =>
      rw [hn] at e
      rw [e] at hk
      exact absurd hk (Nat.succ_ne_zero _).symm
    | some x =>
      rw [hn] at e
      rw [e] at hk
      have hx : x < 60 := CHl_lt _ (nxtA_some hn).2.2
      obtain ⟨σ1, q1, q2⟩ := m_nextS (c := x) (σ := σ) (R := R) (by rw [hs]; exact hg) (abs_nob h4).1 (by rw [hs]; exact hR) hx
      rw [hs] at q1
      show ∃ σ1, f_M_drawn_8 (f + 1) (nI m) (nI x) σ = _ ∧ _
      rw [f_M_drawn_8, if_neg (nI_pos (by omega)), lx_eq, q1, bnd_some, nI_1]
      obtain ⟨σ2, r1, r2⟩ := ih (x + 1) f (m + 1) σ1 (Nat.succ.inj hk) (by omega) (by rw [q2.1 _ (by decide)]; exact hs) (by rw [q2.at (by decide)]; exact h4)
      exact ⟨σ2, by rw [r1, show m + 1 + n = m + (n + 1) by omega], q2.tr r2⟩
theorem m_dr_68 (hg : GD S) (hR : RMt S R) : ∀ (left a f : Nat) (σ : SG), left < (canL S R nob a).length → left < f → left < 1000 → σ.1 149 = S → σ.1 148 4 = -1 → ∃ σ1, f_M_drawn_68 f (nI left) (nxI (nxtA S R nob a)) σ = some (nI ((canL S R nob a).getD left 0), σ1) ∧ fr (fun q => q = 152) σ σ1 := by
  intro left
  induction left with
  | zero =>
    intro a f σ hl hf hk hs h4
    obtain ⟨f, rfl⟩ : ∃ g, f = g + 1 := ⟨f - 1, by omega⟩
    have e := canL_eq S R nob a
    cases hn : nxtA S R nob a with
    | none =>
      rw [hn] at e
      rw [e] at hl
      exact absurd hl (Nat.not_lt_zero _)
    | some x =>
      rw [hn] at e
      rw [e, f_M_drawn_68, if_pos (by decide)]
      exact ⟨σ, rfl, fr.rf⟩
  | succ left ih =>
    intro a f σ hl hf hk hs h4
    obtain ⟨f, rfl⟩ : ∃ g, f = g + 1 := ⟨f - 1, by omega⟩
    have e := canL_eq S R nob a
    cases hn : nxtA S R nob a with
    | none =>
      rw [hn] at e
      rw [e] at hl
      exact absurd hl (Nat.not_lt_zero _)
    | some x =>
      rw [hn] at e
      rw [e] at hl ⊢
      rw [List.length_cons] at hl
      have hx : x < 60 := CHl_lt _ (nxtA_some hn).2.2
      obtain ⟨σ1, q1, q2⟩ := m_nextS (c := x) (σ := σ) (R := R) (by rw [hs]; exact hg) (abs_nob h4).1 (by rw [hs]; exact hR) hx
      rw [hs] at q1
      show ∃ σ1, f_M_drawn_68 (f + 1) (nI (left + 1)) (nI x) σ = _ ∧ _
      rw [f_M_drawn_68, if_neg (show ¬ nI (left + 1) ≤ 0 from nI_ge (a := 0) (by omega) (by omega)), q1, bnd_some, lx_eq, n_m1]
      obtain ⟨σ2, r1, r2⟩ := ih (x + 1) f σ1 (by omega) (by omega) (by omega) (by rw [q2.1 _ (by decide)]; exact hs) (by rw [q2.at (by decide)]; exact h4)
      exact ⟨σ2, r1, q2.tr r2⟩
end DRM
theorem RMt.u1 {S : Nat → Int32} {R : List RU} {i : Nat} {v : Int32} (h : RMt S R) (h1 : i ≠ 1) (h2 : i < 106) : RMt (us S i v) R := h.cong2 (us_ne (by omega)) (fun j hj => us_ne (by omega))
theorem m_drawn {σ : SG} {R : List RU} (hg : GD (σ.1 149)) (hR : RMt (σ.1 149) R) (h4 : σ.1 148 4 = -1) : (drawP (canL (σ.1 149) R nob 0) (σ.1 149 5) = none → ∃ σ', f_M_drawn σ = some (-1, σ') ∧ fr (fun q => q = 152) σ σ') ∧ ∀ c, drawP (canL (σ.1 149) R nob 0) (σ.1 149 5) = some c → ∃ σ', f_M_drawn σ = some (nI c, σ') ∧ σ'.1 149 = us (σ.1 149) 5 (zN (σ.1 149 5)) ∧ fr (fun q => q = 149 ∨ q = 152) σ σ' := by
  unfold f_M_drawn
  obtain ⟨σ1, q1, q2⟩ := m_next0 hg (abs_nob h4).1 hR
  have s1 : σ1.1 149 = σ.1 149 := q2.1 _ (by decide)
  have hl := canL_21 (S := σ.1 149) (R := R) (o := nob) (a := 0)
  obtain ⟨σ2, r1, r2⟩ := m_dr_8 hg hR (canL (σ.1 149) R nob 0).length 0 FU 0 σ1 rfl (by rw [FU_eq]; omega) s1 (by rw [q2.at (by decide)]; exact h4)
  have r1 : f_M_drawn_8 FU (0 : Int32) _ σ1 = _ := r1
  have s2 : σ2.1 149 = σ.1 149 := (r2.1 _ (by decide)).trans s1
  rw [q1, bnd_some, r1, Nat.zero_add, show (1 : Nat) = 0 + 1 from rfl, f_M_drawn_8, if_pos (by decide)]
  refine ⟨fun hn => ?_, fun c hs => ?_⟩
  · rw [drawP_none hl hn]
    exact ⟨σ2, rfl, q2.tr r2⟩
  · obtain ⟨hne, -, hc⟩ := drawP_some hs
    have hpos : 0 < (canL (σ.1 149) R nob 0).length := List.length_pos_iff.mpr hne
    have n0 : ¬ nI (canL (σ.1 149) R nob 0).length = 0 := fun q => by have := (n_inj (b := 0) (by omega) (by decide)).mp q; omega
    rw [if_pos n0, sx_eq, gd_pos n0, lx_eq, uI_same, s2]
    generalize hz : σ.1 149 5 = z at hs hc
    show ∃ τ, bnd (f_M_nextChange (-1 : Int32) (uI σ2 149 5 (zN z))) (fun r4 σ3 => f_M_drawn_68 FU (ush (zN z) 16 - ush (zN z) 16 / nI (canL (σ.1 149) R nob 0).length * nI (canL (σ.1 149) R nob 0).length) r4 σ3) = _ ∧ _
    obtain ⟨i1, i2⟩ := ixZ_lt (z := z) hpos (by omega)
    have e3 : (uI σ2 149 5 (zN z)).1 149 = us (σ.1 149) 5 (zN z) := by rw [uI149, s2]
    have p3 : pl (σ.1 149) (us (σ.1 149) 5 (zN z)) := pl.rf.us (Or.inr (Or.inr (Or.inr rfl)))
    have g3 : GD (us (σ.1 149) 5 (zN z)) := p3.gd hg
    have m3 : RMt (us (σ.1 149) 5 (zN z)) R := hR.u1 (by decide) (by decide)
    have c3 : canL (us (σ.1 149) 5 (zN z)) R nob 0 = canL (σ.1 149) R nob 0 := p3.cl hg 0
    have a3 : (uI σ2 149 5 (zN z)).1 148 4 = -1 := by rw [uI_c (by decide), r2.at (by decide), q2.at (by decide)]; exact h4
    obtain ⟨σ4, t1, t2⟩ := m_next0 (σ := uI σ2 149 5 (zN z)) (R := R) (by rw [e3]; exact g3) (abs_nob a3).1 (by rw [e3]; exact m3)
    obtain ⟨σ5, w1, w2⟩ := m_dr_68 g3 m3 (ixZ z (canL (σ.1 149) R nob 0).length) 0 FU σ4 (by rw [c3]; exact i1) (by rw [FU_eq]; omega) (by omega) (by rw [t2.1 _ (by decide)]; exact e3) (by rw [t2.at (by decide)]; exact a3)
    rw [i2, t1, bnd_some, e3, w1, c3, hc]
    refine ⟨σ5, rfl, by rw [w2.1 _ (by decide), t2.1 _ (by decide), e3], ?_⟩
    have f1 : fr (fun q => q = 149 ∨ q = 152) σ σ2 := (q2.tr r2).mono (fun q hq => Or.inr hq)
    exact ((f1.tr (fr.uI (Or.inl rfl))).tr (t2.mono (fun q hq => Or.inr hq))).tr (w2.mono (fun q hq => Or.inr hq))
/-! draw -/
def dwA (S : Nat → Int32) (R : List RU) : Int32 := match drawP (canL S R nob 0) (S 5) with
  | none => -3
  | some c => nI c
def dwN (S : Nat → Int32) (R : List RU) : Nat → Int32 := match drawP (canL S R nob 0) (S 5) with
  | none => S
  | some c => enA (us S 5 (zN (S 5))) R c
/-- all that a town keeps is in order -/
def SOK (S : Nat → Int32) : Prop := GD S ∧ J99 S ∧ LGo S ∧ rg (S 4) 12 ∧ rg (S 3) 6
theorem SOK.z {S : Nat → Int32} {v : Int32} (h : SOK S) : SOK (us S 5 v) := by
  obtain ⟨a, b, c, d, e⟩ := h
  have p3 : pl S (us S 5 v) := pl.rf.us (Or.inr (Or.inr (Or.inr rfl)))
  refine ⟨p3.gd a, p3.j99 b, fun i hi => ?_, by rw [us_ne (by decide)]; exact d, by rw [us_ne (by decide)]; exact e⟩
  rw [us_ne (by decide)] at hi
  obtain ⟨⟨x, x1, x2, x3⟩, y, z⟩ := c i hi
  rw [us_ne (by omega), us_ne (by omega), us_ne (by omega)]
  exact ⟨⟨x, x1, x2, x3⟩, y, z⟩
theorem SOK.en {S : Nat → Int32} {R : List RU} {c : Nat} (h : SOK S) (hc : canC S R nob c) (h60 : c < 60) : SOK (enA S R c) := by
  obtain ⟨a, b, d, e, f⟩ := h
  refine ⟨enA_gd a hc, enA_j99 b a hc, enA_lgo d e a hc h60, ?_, ?_⟩
  · rw [enA_4]
    exact rg_nI (by have := m1n_le (S := S); omega) (by decide)
  · rw [enA_o (by decide) (by decide), doC_off a hc (by decide)]
    exact f
theorem dw_can {S : Nat → Int32} {R : List RU} {z : Int32} {c : Nat} (g : GD S) (h : drawP (canL S R nob 0) z = some c) {v : Int32} : c < 60 ∧ canC S R nob c ∧ canC (us S 5 v) R nob c := by
  obtain ⟨-, hm, -⟩ := drawP_some h
  obtain ⟨h1, h2⟩ := canL_mem hm
  exact ⟨h1, h2, ((pl.rf.us (Or.inr (Or.inr (Or.inr rfl))) : pl S (us S 5 v)).can g _ _).mpr h2⟩
theorem SOK.dw {S : Nat → Int32} {R : List RU} (h : SOK S) : SOK (dwN S R) := by
  unfold dwN
  cases hd : drawP (canL S R nob 0) (S 5) with
  | none => exact h
  | some c =>
    obtain ⟨h60, -, hc⟩ := dw_can (v := zN (S 5)) h.1 hd
    exact h.z.en hc h60
theorem RMt.dw {S : Nat → Int32} {R : List RU} (h : RMt S R) (g : GD S) : RMt (dwN S R) R := by
  unfold dwN
  cases hd : drawP (canL S R nob 0) (S 5) with
  | none => exact h
  | some c =>
    obtain ⟨h60, -, hc⟩ := dw_can (v := zN (S 5)) g hd
    exact enA_rm (h.u1 (by decide) (by decide)) ((pl.rf.us (Or.inr (Or.inr (Or.inr rfl))) : pl S (us S 5 (zN (S 5)))).gd g) hc
theorem cq_draw {σ : SG} {S : Nat → Int32} {R : List RU} (hg : GD S) (hT : TWR 20 σ S nob) (hR : RLt 20 σ R) (hL : LGt 20 σ S) : ∃ σ', f_H_draw σ = some (dwA S R, σ') ∧ TWR 20 σ' (dwN S R) nob ∧ LGt 20 σ' (dwN S R) ∧ fr (Len 20) σ σ' ∧ ∀ i, i ≠ 8 → i ≠ 13 → i ≠ 14 → σ'.1 20 i = σ.1 20 i := by
  unfold f_H_draw dwA dwN
  obtain ⟨d1, d2⟩ := b_drawn hg hT hR hL.2.1
  cases hd : drawP (canL S R nob 0) (S 5) with
  | none =>
    obtain ⟨σ', q1, q2⟩ := d1 hd
    rw [q1, bnd_some]
    obtain ⟨l1, l2, l3, l4⟩ := hL
    refine ⟨σ', rfl, hT.cong (fun c c1 c2 c3 => q2.1 c c3), ⟨l1, by rw [q2.at (by decide)]; exact l2, by rw [q2.at (by decide)]; exact l3, fun i hi => ?_⟩, q2.mono (fun q hq => by omega), fun i _ _ _ => q2.at (by decide) i⟩
    rw [q2.1 _ (by have := l1.1; omega)]
    exact l4 i hi
  | some c =>
    obtain ⟨h60, -, hc⟩ := dw_can (v := zN (S 5)) hg hd
    have p3 : pl S (us S 5 (zN (S 5))) := pl.rf.us (Or.inr (Or.inr (Or.inr rfl)))
    obtain ⟨σ1, q1, q2, q3, q4, q5, q6⟩ := d2 c hd
    obtain ⟨l1, l2, l3, l4⟩ := hL
    have L1 : LGt 20 σ1 (us S 5 (zN (S 5))) := by
      refine ⟨by rw [us_ne (by decide)]; exact l1, by rw [q4, us_same], by rw [q3 14 (by decide), l3, us_ne (by decide)], fun i hi => ?_⟩
      rw [us_ne (by decide)] at hi
      rw [q2.1 _ (by have := l1.1; omega), us_ne (by omega), us_ne (by omega), us_ne (by omega)]
      exact l4 i hi
    obtain ⟨σ', r1, r2, r3, r4, r5⟩ := b_enter (p3.tw hg.1.1 q5) (p3.gd hg) q6 L1 hc h60
    rw [q1, r1, bnd_some, bnd_some]
    exact ⟨σ', rfl, r3, r4, (q2.mono (fun q hq => by omega)).tr r2, fun i h8 h13 h14 => by rw [r5 i h8 h14, q3 i h13]⟩
theorem mq_draw {σ : SG} {R : List RU} (hg : GD (σ.1 149)) (hR : RMt (σ.1 149) R) (h4 : σ.1 148 4 = -1) (hl : rg (σ.1 149 4) 12) : ∃ σ', f_M_draw σ = some (dwA (σ.1 149) R, σ') ∧ σ'.1 149 = dwN (σ.1 149) R ∧ fr (fun c => c = 148 ∨ c = 149 ∨ c = 152) σ σ' ∧ ∀ i, i ≠ 6 → i ≠ 7 → σ'.1 148 i = σ.1 148 i := by
  unfold f_M_draw dwA dwN
  obtain ⟨d1, d2⟩ := m_drawn hg hR h4
  cases hd : drawP (canL (σ.1 149) R nob 0) (σ.1 149 5) with
  | none =>
    obtain ⟨σ', q1, q2⟩ := d1 hd
    rw [q1, bnd_some, if_neg (by decide)]
    exact ⟨σ', rfl, q2.1 _ (by decide), q2.mono (fun q hq => Or.inr (Or.inr hq)), fun i _ _ => q2.at (by decide) i⟩
  | some c =>
    obtain ⟨h60, -, hc⟩ := dw_can (v := zN (σ.1 149 5)) hg hd
    have p3 : pl (σ.1 149) (us (σ.1 149) 5 (zN (σ.1 149 5))) := pl.rf.us (Or.inr (Or.inr (Or.inr rfl)))
    obtain ⟨σ1, q1, q2, q3⟩ := d2 c hd
    obtain ⟨σ', r1, r2, -, r4, r5⟩ := m_makes (σ := σ1) (R := R) h60 (by rw [q2]; exact p3.gd hg) (by rw [q3.at (by decide)]; exact h4) (by rw [q2]; exact hR.u1 (by decide) (by decide)) (by rw [q2, us_ne (by decide)]; exact hl) (by rw [q2]; exact hc)
    rw [q1, bnd_some, if_pos (nI_pos' (by omega)), r1, bnd_some]
    exact ⟨σ', rfl, by rw [r2, q2], (q3.mono (fun q hq => Or.inr hq)).tr r4, fun i h6 h7 => by rw [r5 i h6 h7, q3.at (by decide)]⟩
