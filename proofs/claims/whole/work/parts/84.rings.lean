/-! RINGS, both sides -/
abbrev isNx (S : Nat → Int32) (p q : Nat) : Prop := (¬ hsS S q = ndS S q) ∧ mtP S p q ∧ ndS S p = hsS S q
/-- RINGS that go on so: a path pre, then l; it began with f -/
def rF (S : Nat → Int32) : Nat → Nat → List Nat → Nat → List (List Nat)
  | 0, f, pre, l => if isNx S l f then [pre ++ [l]] else []
  | r + 1, f, pre, l => (List.range' (f + 1) (ppN S - (f + 1))).flatMap fun q => if isNx S l q ∧ q ∉ pre ++ [l] then rF S r f (pre ++ [l]) q else []
abbrev rG (S : Nat → Int32) (r f : Nat) (P : List Nat) (l q : Nat) : List (List Nat) := if isNx S l q ∧ q ∉ P then rF S r f P q else []
theorem rF_len {S : Nat → Int32} (h6 : ppN S ≤ 6) : ∀ (r f : Nat) (pre : List Nat) (l : Nat), (rF S r f pre l).length ≤ 6 ^ r := by
  intro r
  induction r with
  | zero =>
    intro f pre l
    rw [rF]
    by_cases h : isNx S l f
    · rw [if_pos h]; exact Nat.le_refl _
    · rw [if_neg h]; exact Nat.zero_le _
  | succ r ih =>
    intro f pre l
    rw [rF]
    refine Nat.le_trans (fm_len (B := 6 ^ r) _ _ fun q _ => ?_) ?_
    · by_cases h : isNx S l q ∧ q ∉ pre ++ [l]
      · rw [if_pos h]; exact ih _ _ _
      · rw [if_neg h]; exact Nat.zero_le _
    · rw [List.length_range', Nat.pow_succ, Nat.mul_comm]
      exact Nat.mul_le_mul_left _ (by omega)
theorem rG_len {S : Nat → Int32} (h6 : ppN S ≤ 6) {r f l q : Nat} {P : List Nat} : (rG S r f P l q).length ≤ 6 ^ r := by
  by_cases h : isNx S l q ∧ q ∉ P
  · show (if _ then _ else _ : List (List Nat)).length ≤ _
    rw [if_pos h]; exact rF_len h6 _ _ _ _
  · show (if _ then _ else _ : List (List Nat)).length ≤ _
    rw [if_neg h]; exact Nat.zero_le _
/-- a cell holds a row of numbers -/
def HR (σ : SG) (c : Nat) (P : List Nat) : Prop := ∀ j x, P[j]? = some x → σ.1 c j = nI x
theorem HR.snoc {σ : SG} {c l : Nat} {pre : List Nat} (h : HR σ c pre) : HR (uI σ c pre.length (nI l)) c (pre ++ [l]) := by
  intro j x hx
  by_cases hj : j < pre.length
  · rw [List.getElem?_append_left hj] at hx
    rw [uI_i (by omega)]
    exact h j x hx
  · rw [List.getElem?_append_right (by omega)] at hx
    have e : j = pre.length := by
      cases hk : j - pre.length with
      | zero => omega
      | succ k => rw [hk] at hx; cases hx
    rw [e, uI_same]
    rw [e, Nat.sub_self] at hx
    rw [← Option.some.inj hx]
theorem HR.keep {σ σ' : SG} {c : Nat} {P : List Nat} (h : HR σ c P) (e : ∀ j, j < P.length → σ'.1 c j = σ.1 c j) : HR σ' c P := fun j x hx => by
  rw [e j (List.getElem?_eq_some_iff.mp hx).1]
  exact h j x hx
/-- what the class has gathered; the reference -/
def RGc (σ : SG) (L : List (List Nat)) : Prop := σ.1 125 3 = nI L.length ∧ L.length ≤ 100000 ∧ ∀ r, L.head? = some r → HR σ 126 r
def RGm (σ : SG) (L : List (List Nat)) : Prop := σ.1 148 18 = nI L.length ∧ L.length ≤ 100000 ∧ ∀ r, L.head? = some r → HR σ 157 r
theorem b_isNext {p q : Nat} {σ : SG} {S : Nat → Int32} (g : GD S) (hT : TWR 90 σ S nob) (hp : p < 6) (hq : q < ppN S) : f_Se_isNext (nI p) (nI q) σ = some (bI (isNx S p q), σ) := by
  have h6 : ppN S ≤ 6 := g.1.1
  have hq6 : q < 6 := by omega
  have e8 : σ.1 90 8 = nI (wN (whS S nob)) := hT.2.2.2.1
  have e102 : σ.1 102 p = S (22 + 5 * p + 4) := (hT.2.2.2.2.1 p hp).2.2.2.2
  have e100 : σ.1 100 p = S (22 + 5 * p + 2) := (hT.2.2.2.2.1 p hp).2.2.1
  have e99 : σ.1 99 q = S (22 + 5 * q + 1) := (hT.2.2.2.2.1 q hq6).2.1
  unfold f_Se_isNext
  rw [e8, wN_bit hq6]
  by_cases hw : hsS S q = ndS S q
  · rw [whS_t.mpr ⟨hq, hw⟩, if_pos (show ¬ nI (true).toNat = 0 by decide), bI_neg (fun z => z.1 hw)]
  · rw [whS_f hw, if_neg (show ¬ ¬ nI (false).toNat = 0 by decide), gd_pos (ix_nI hp (by decide)), nx_nI (by omega), nx_nI (by omega), e102]
    by_cases hm : mtP S p q
    · rw [if_neg (fun z => z ((mt_bit g hp hq6).mpr hm)), gd_pos (ix_nI hp (by decide)), gd_pos (ix_nI hq6 (by decide)), e100, e99]
      by_cases he : ndS S p = hsS S q
      · rw [if_neg (fun z => z he), bI_pos ⟨hw, hm, he⟩]
      · rw [if_pos he, bI_neg (fun z => he z.2.2)]
    · rw [if_pos (fun z => hm ((mt_bit g hp hq6).mp z)), bI_neg (fun z => hm z.2.1)]
theorem b_onPath {σ : SG} {P : List Nat} {q : Nat} (h : HR σ 127 P) (hP : P.length ≤ 6) (hlt : ∀ x ∈ P, x < 6) (hq : q < 6) : ∀ (d j f : Nat), j + d = P.length → d < f → f_Se_isOnPath_2 f (nI q) (nI P.length) (nI j) σ = some (bI (q ∈ P.drop j), σ) := by
  intro d
  induction d with
  | zero =>
    intro j f hk hf
    obtain ⟨f, rfl⟩ : ∃ g, f = g + 1 := ⟨f - 1, by omega⟩
    have e : j = P.length := hk
    rw [f_Se_isOnPath_2, e, if_pos (Int32.le_refl _), List.drop_length, bI_neg (List.not_mem_nil)]
  | succ d ih =>
    intro j f hk hf
    obtain ⟨f, rfl⟩ : ∃ g, f = g + 1 := ⟨f - 1, by omega⟩
    have hj : j < P.length := by omega
    have e := h j _ (List.getElem?_eq_getElem hj)
    have ed : P.drop j = P[j] :: P.drop (j + 1) := List.drop_eq_getElem_cons hj
    have hx := hlt _ (List.getElem_mem hj)
    rw [f_Se_isOnPath_2, if_neg (nI_ge hj (by omega)), gd_pos (ix_nI (by omega) (by decide)), nx_nI (by omega), e]
    by_cases hq2 : P[j] = q
    · rw [if_neg (fun z => z (by rw [hq2])), bI_pos (by rw [ed, hq2]; exact List.mem_cons_self)]
    · rw [if_pos (fun z => hq2 ((n_inj (by omega) (by omega)).mp z)), lx_eq, nI_1, ih (j + 1) f (by omega) (by omega)]
      refine congrArg (fun z => some (z, σ)) (bI_iff ?_)
      rw [ed]
      constructor
      · intro z
        exact List.mem_cons_of_mem _ z
      · intro z
        rcases List.mem_cons.mp z with w | w
        · exact absurd w.symm hq2
        · exact w
abbrev Lrg (c : Nat) : Prop := c = 125 ∨ c = 126 ∨ c = 127
theorem c_look {S : Nat → Int32} {k r d f l : Nat} {P : List Nat} (g : GD S) (hl : l < 6) (hP1 : P.length ≤ 6) (hPl : P[P.length - 1]? = some l) (hlt : ∀ x ∈ P, x < 6) (hP0 : 0 < P.length) (IH : ∀ (q : Nat) (L : List (List Nat)) (σ : SG), q < ppN S → TWR 90 σ S nob → HR σ 127 P → RGc σ L → L.length + 6 ^ r ≤ 100000 → ∃ σ', f_Se_goOn d (nI q) (nI P.length) (nI k) σ = some ((), σ') ∧ fr Lrg σ σ' ∧ RGc σ' (L ++ rF S r f P q) ∧ HR σ' 127 P ∧ ∀ i, i ≠ 3 → σ'.1 125 i = σ.1 125 i) : ∀ (cnt q fu : Nat) (L : List (List Nat)) (σ : SG), q + cnt = ppN S → cnt < fu → TWR 90 σ S nob → HR σ 127 P → RGc σ L → L.length + cnt * 6 ^ r ≤ 100000 → ∃ σ', f_Se_lookOn_9 (f_Se_goOn d) fu (nI P.length) (nI k) (nI q) σ = some ((), σ') ∧ fr Lrg σ σ' ∧ RGc σ' (L ++ (List.range' q cnt).flatMap fun q => rG S r f P l q) ∧ HR σ' 127 P ∧ ∀ i, i ≠ 3 → σ'.1 125 i = σ.1 125 i := by
  have h6 : ppN S ≤ 6 := g.1.1
  intro cnt
  induction cnt with
  | zero =>
    intro q fu L σ hk hf hT hH hG hB
    obtain ⟨fu, rfl⟩ : ∃ g, fu = g + 1 := ⟨fu - 1, by omega⟩
    have e : q = ppN S := by omega
    rw [f_Se_lookOn_9, show σ.1 90 2 = nI (ppN S) from hT.1.trans g.1.2, e, if_pos (Int32.le_refl _)]
    refine ⟨σ, rfl, fr.rf, ?_, hH, fun _ _ => rfl⟩
    show RGc σ (L ++ [])
    rw [List.append_nil]
    exact hG
  | succ cnt ih =>
    intro q fu L σ hk hf hT hH hG hB
    obtain ⟨fu, rfl⟩ : ∃ g, fu = g + 1 := ⟨fu - 1, by omega⟩
    have hq : q < ppN S := by omega
    have hB2 : L.length + 6 ^ r + cnt * 6 ^ r ≤ 100000 := by rw [Nat.succ_mul] at hB; omega
    have em : nI P.length - 1 = nI (P.length - 1) := n_sub (b := 1) hP0
    have e127 : σ.1 127 (P.length - 1) = nI l := hH _ _ hPl
    rw [f_Se_lookOn_9, show σ.1 90 2 = nI (ppN S) from hT.1.trans g.1.2, if_neg (nI_ge hq (by omega)), em, gd_pos (ix_nI (by omega) (by decide)), nx_nI (by omega), e127, b_isNext g hT hl hq, bnd_some, List.range'_succ, List.flatMap_cons]
    have skip : ∀ (σ1 : SG), fr Lrg σ σ1 → TWR 90 σ1 S nob → HR σ1 127 P → (∀ i, i ≠ 3 → σ1.1 125 i = σ.1 125 i) → RGc σ1 (L ++ rG S r f P l q) → ∃ σ', f_Se_lookOn_9 (f_Se_goOn d) fu (nI P.length) (nI k) (nI q + 1) σ1 = some ((), σ') ∧ fr Lrg σ σ' ∧ RGc σ' (L ++ (rG S r f P l q ++ (List.range' (q + 1) cnt).flatMap fun q => rG S r f P l q)) ∧ HR σ' 127 P ∧ ∀ i, i ≠ 3 → σ'.1 125 i = σ.1 125 i := fun σ1 hf1 hT1 hH1 ho hG1 => by
      have hlen := rG_len (r := r) (f := f) (l := l) (q := q) (P := P) h6
      obtain ⟨σ', q1, q2, q3, q4, q5⟩ := ih (q + 1) fu _ σ1 (by omega) (by omega) hT1 hH1 hG1 (by rw [List.length_append]; omega)
      rw [nI_1, ← List.append_assoc]
      exact ⟨σ', q1, hf1.tr q2, q3, q4, fun i hi => by rw [q5 i hi, ho i hi]⟩
    have nil : ¬ (isNx S l q ∧ q ∉ P) → L ++ rG S r f P l q = L := fun h => by
      show L ++ (if _ then _ else _) = L
      rw [if_neg h, List.append_nil]
    by_cases hn : isNx S l q
    · rw [if_neg (bI_n0.mpr hn)]
      unfold f_Se_isOnPath
      have hop := b_onPath hH hP1 hlt (show q < 6 by omega) P.length 0 FU (Nat.zero_add _) (by rw [FU_eq]; omega)
      have hop : f_Se_isOnPath_2 FU (nI q) (nI P.length) (0 : Int32) σ = _ := hop
      rw [hop, bnd_some, List.drop_zero]
      by_cases hin : q ∈ P
      · rw [if_pos (bI_n0.mpr hin), lx_eq]
        exact skip σ fr.rf hT hH (fun _ _ => rfl) (by rw [nil (fun z => z.2 hin)]; exact hG)
      · rw [if_neg (fun z => z (bI_0.mpr hin))]
        obtain ⟨σ1, q1, q2, q3, q4, q5⟩ := IH q L σ hq hT hH hG (by omega)
        rw [q1, bnd_some, lx_eq]
        refine skip σ1 q2 (hT.cong (fun c c1 c2 _ => q2.1 c (by omega))) q4 q5 ?_
        show RGc σ1 (L ++ (if _ then _ else _))
        rw [if_pos ⟨hn, hin⟩]
        exact q3
    · rw [if_pos (bI_0.mpr hn), lx_eq]
      exact skip σ fr.rf hT hH (fun _ _ => rfl) (by rw [nil (fun z => hn z.1)]; exact hG)
theorem snoc_lt {pre : List Nat} {l : Nat} (h : ∀ x ∈ pre, x < 6) (hl : l < 6) : ∀ x ∈ pre ++ [l], x < 6 := fun x hx => by
  rcases List.mem_append.mp hx with w | w
  · exact h x w
  · rw [List.mem_singleton.mp w]; exact hl
theorem snoc_last {pre : List Nat} {l : Nat} : (pre ++ [l])[(pre ++ [l]).length - 1]? = some l := by
  rw [List.length_append, List.length_singleton, Nat.add_sub_cancel, List.getElem?_append_right (Nat.le_refl _), Nat.sub_self]
  rfl
theorem snoc_first {pre : List Nat} {l f q : Nat} (h : (pre ++ [l])[0]? = some f) : ((pre ++ [l]) ++ [q])[0]? = some f := by
  rw [List.getElem?_append_left (by rw [List.length_append, List.length_singleton]; omega)]
  exact h
theorem c_go {S : Nat → Int32} {k f : Nat} (g : GD S) (hk : k ≤ 6) (hf : f < ppN S) : ∀ (r d : Nat) (pre : List Nat) (l : Nat) (L : List (List Nat)) (σ : SG), r < d → pre.length + 1 + r = k → (pre ++ [l])[0]? = some f → l < ppN S → (∀ x ∈ pre, x < 6) → TWR 90 σ S nob → HR σ 127 pre → RGc σ L → L.length + 6 ^ r ≤ 100000 → ∃ σ', f_Se_goOn d (nI l) (nI pre.length) (nI k) σ = some ((), σ') ∧ fr Lrg σ σ' ∧ RGc σ' (L ++ rF S r f pre l) ∧ HR σ' 127 pre ∧ ∀ i, i ≠ 3 → σ'.1 125 i = σ.1 125 i := by
  have h6 : ppN S ≤ 6 := g.1.1
  intro r
  induction r with
  | zero =>
    intro d pre l L σ hd hkr h0 hl hlt hT hH hG hB
    obtain ⟨d, rfl⟩ : ∃ g, d = g + 1 := ⟨d - 1, by omega⟩
    rw [f_Se_goOn, f_Se_goOn_S, gd_pos (ix_nI (by omega) (by decide)), sx_eq, nI_1, if_pos ((n_le (by omega) (by omega)).mpr (by omega)), nx_nI (by omega)]
    have H1 := hH.snoc (l := l)
    generalize hσ1 : uI σ 127 pre.length (nI l) = σ1 at H1 ⊢
    have f1 : fr Lrg σ σ1 := by rw [← hσ1]; exact fr.uI (Or.inr (Or.inr rfl))
    have c1 : ∀ c, c ≠ 127 → σ1.1 c = σ.1 c := fun c hc => by rw [← hσ1, uIc hc]
    have T1 : TWR 90 σ1 S nob := hT.cong (fun c c2 c3 _ => c1 c (by omega))
    have e0 : σ1.1 127 0 = nI f := H1 0 f h0
    have k127 : ∀ (τ : SG), τ.1 127 = σ1.1 127 → HR τ 127 pre := fun τ hτ => hH.keep (fun j hj => by rw [hτ, ← hσ1, uI_i (by omega)])
    rw [e0, b_isNext g T1 (by omega) hf, bnd_some, rF]
    by_cases hn : isNx S l f
    · rw [if_neg (bI_n0.mpr hn), if_pos hn, c1 125 (by decide), hG.1]
      have hlen : L.length < 2147483648 := by have := hG.2.1; omega
      by_cases hL : L = []
      · subst hL
        rw [if_neg (show ¬ ¬ nI ([] : List (List Nat)).length = 0 from fun z => z rfl)]
        have okk : cpOk (0 : Int32) (0 : Int32) (nI k) 6 6 := ⟨by decide, by decide, nI_pos (by omega), by rw [nx_nI (by omega)]; show 0 + k ≤ 6; omega, by rw [nx_nI (by omega)]; show 0 + k ≤ 6; omega⟩
        rw [gd_pos okk, sx_eq, sx_eq, cpc (show 125 ≠ 126 by decide), c1 125 (by decide), hG.1, nI_1]
        refine ⟨_, rfl, (f1.tr (fr_cp (Or.inr (Or.inl rfl)))).tr (fr.uI (Or.inl rfl)), ⟨by rw [uI_same]; rfl, (show (1 : Nat) ≤ 100000 by decide), fun r hr => ?_⟩, k127 _ (by rw [uIc (by decide)]; exact funext fun i => cpc (by decide)), fun i hi => by rw [uI_i hi, cpc (by decide), c1 125 (by decide)]⟩
        have er : r = pre ++ [l] := (Option.some.inj hr).symm
        rw [er]
        intro j x hx
        have hj := (List.getElem?_eq_some_iff.mp hx).1
        rw [List.length_append, List.length_singleton] at hj
        rw [uI_c (by decide), cph (by rw [nx_nI (by omega)]; omega)]
        exact H1 j x hx
      · have n0 : ¬ nI L.length = 0 := fun z => hL (List.length_eq_zero_iff.mp ((n_inj (b := 0) hlen (by decide)).mp z))
        rw [if_pos n0, sx_eq, nI_1]
        refine ⟨_, rfl, f1.tr (fr.uI (Or.inl rfl)), ⟨by rw [uI_same, List.length_append]; rfl, by rw [List.length_append]; show L.length + 1 ≤ _; have : 6 ^ 0 = 1 := rfl; omega, fun r hr => ?_⟩, k127 _ (uIc (by decide)), fun i hi => by rw [uI_i hi, c1 125 (by decide)]⟩
        have hr2 : L.head? = some r := by
          cases L with
          | nil => exact absurd rfl hL
          | cons a b => exact hr
        exact (hG.2.2 r hr2).keep (fun j hj => by rw [uI_c (by decide), c1 126 (by decide)])
    · rw [if_pos (bI_0.mpr hn), if_neg hn, List.append_nil]
      exact ⟨σ1, rfl, f1, ⟨by rw [c1 125 (by decide)]; exact hG.1, hG.2.1, fun r hr => (hG.2.2 r hr).keep (fun j hj => by rw [c1 126 (by decide)])⟩, k127 _ rfl, fun i hi => by rw [c1 125 (by decide)]⟩
  | succ r ih =>
    intro d pre l L σ hd hkr h0 hl hlt hT hH hG hB
    obtain ⟨d, rfl⟩ : ∃ g, d = g + 1 := ⟨d - 1, by omega⟩
    rw [f_Se_goOn, f_Se_goOn_S, gd_pos (ix_nI (by omega) (by decide)), sx_eq, nI_1, if_neg (nI_ge (show pre.length + 1 < k by omega) (by omega)), nx_nI (by omega)]
    have H1 := hH.snoc (l := l)
    generalize hσ1 : uI σ 127 pre.length (nI l) = σ1 at H1 ⊢
    have f1 : fr Lrg σ σ1 := by rw [← hσ1]; exact fr.uI (Or.inr (Or.inr rfl))
    have c1 : ∀ c, c ≠ 127 → σ1.1 c = σ.1 c := fun c hc => by rw [← hσ1, uIc hc]
    have T1 : TWR 90 σ1 S nob := hT.cong (fun c c2 c3 _ => c1 c (by omega))
    have e0 : σ1.1 127 0 = nI f := H1 0 f h0
    have G1 : RGc σ1 L := ⟨by rw [c1 125 (by decide)]; exact hG.1, hG.2.1, fun r hr => (hG.2.2 r hr).keep (fun j hj => by rw [c1 126 (by decide)])⟩
    have lenP : (pre ++ [l]).length = pre.length + 1 := by rw [List.length_append, List.length_singleton]
    have hlt1 := snoc_lt hlt (show l < 6 by omega)
    have hlk := c_look (k := k) (d := d) (f := f) (r := r) g (show l < 6 by omega) (by rw [lenP]; omega) snoc_last hlt1 (by rw [lenP]; omega) (fun q L σ hq hT hH hG hB => ih d (pre ++ [l]) q L σ (by omega) (by rw [lenP]; omega) (snoc_first h0) hq hlt1 hT hH hG hB) (ppN S - (f + 1)) (f + 1) FU L σ1 (by omega) (by rw [FU_eq]; omega) T1 H1 G1 (by
      have : (ppN S - (f + 1)) * 6 ^ r ≤ 6 * 6 ^ r := Nat.mul_le_mul_right _ (by omega)
      rw [Nat.pow_succ, Nat.mul_comm (6 ^ r) 6] at hB
      omega)
    obtain ⟨σ', q1, q2, q3, q4, q5⟩ := hlk
    unfold f_Se_lookOn
    rw [lenP] at q1
    rw [lx_eq, e0, nI_1, q1, bnd_some, rF]
    refine ⟨σ', rfl, f1.tr q2, q3, fun j x hx => q4 j x (by rw [List.getElem?_append_left (List.getElem?_eq_some_iff.mp hx).1]; exact hx), fun i hi => by rw [q5 i hi, c1 125 (by decide)]⟩
