/-! RINGS: the reference; rings, ring -/
theorem m_isLink {p q : Nat} {σ : SG} (hp : p < 6) (hq : q < 6) (g : GD (σ.1 149)) : f_M_isLink (nI p) (nI q) σ = some (bI (mtP (σ.1 149) p q ∧ ndS (σ.1 149) p = hsS (σ.1 149) q), σ) := by
  unfold f_M_isLink
  rw [m_doMeet hp hq g, bnd_some]
  by_cases hm : mtP (σ.1 149) p q
  · rw [if_neg (bI_n0.mpr hm), m_its2 hp, bnd_some, m_its1 hq, bnd_some]
    by_cases he : ndS (σ.1 149) p = hsS (σ.1 149) q
    · rw [if_neg (fun z => z he), bI_pos ⟨hm, he⟩]
    · rw [if_pos he, bI_neg (fun z => he z.2)]
  · rw [if_pos (bI_0.mpr hm), bI_neg (fun z => hm z.1)]
abbrev Lci (c : Nat) : Prop := c = 148 ∨ c = 156 ∨ c = 157
/-- the path as a lot -/
abbrev pthB (P : List Nat) : Nat → Bool := fun p => decide (p ∈ P)
theorem pth_or {P : List Nat} {q : Nat} (hq : q < 6) : nI (wN (pthB P)) ||| ((1 : Int32) <<< (nI q &&& 31)) = nI (wN (pthB (P ++ [q]))) := by
  rw [wN_or hq]
  refine congrArg nI (wN_ext fun p hp => ?_)
  unfold bS pthB
  by_cases e : p = q
  · rw [if_pos e, decide_eq_true (by rw [e]; exact List.mem_append_right _ List.mem_cons_self)]
  · rw [if_neg e]
    by_cases h : p ∈ P
    · rw [decide_eq_true h, decide_eq_true (List.mem_append_left _ h)]
    · rw [decide_eq_false h, decide_eq_false]
      intro z
      rcases List.mem_append.mp z with w | w
      · exact h w
      · exact e (List.mem_singleton.mp w)
theorem m_cpc {k : Nat} {fR : Int32 → Int32 → Int32 → SG → Option (Unit × SG)} (hk : k ≤ 6) : ∀ (d i f : Nat) (σ : SG), i + d = k → d < f → σ.1 148 18 = 0 → ∃ τ, f_M_circles_S_33 fR f (nI k) (nI i) σ = some ((), uI τ 148 18 1) ∧ fr (fun c => c = 157) σ τ ∧ (∀ j, i ≤ j → j < k → τ.1 157 j = σ.1 156 j) ∧ ∀ j, j < i → τ.1 157 j = σ.1 157 j := by
  intro d
  induction d with
  | zero =>
    intro i f σ hi hf h0
    obtain ⟨f, rfl⟩ : ∃ g, f = g + 1 := ⟨f - 1, by omega⟩
    have e : i = k := hi
    rw [f_M_circles_S_33, e, if_pos (Int32.le_refl _), sx_eq, h0]
    exact ⟨σ, rfl, fr.rf, fun j h1 h2 => by omega, fun j _ => rfl⟩
  | succ d ih =>
    intro i f σ hi hf h0
    obtain ⟨f, rfl⟩ : ∃ g, f = g + 1 := ⟨f - 1, by omega⟩
    have hlt : i < k := by omega
    rw [f_M_circles_S_33, if_neg (nI_ge hlt (by omega)), if_neg (fun z => z h0), gd_pos (ix_nI (by omega) (by decide)), gd_pos (ix_nI (by omega) (by decide)), sx_eq, lx_eq, nI_1, nx_nI (by omega)]
    obtain ⟨τ, q1, q2, q3, q4⟩ := ih (i + 1) f (uI σ 157 i (σ.1 156 i)) (by omega) (by omega) (by rw [uI_c (by decide)]; exact h0)
    refine ⟨τ, q1, fr_u1.tr q2, fun j h1 h2 => ?_, fun j hj => ?_⟩
    · by_cases e : j = i
      · rw [e, q4 i (by omega), uI_same]
      · rw [q3 j (by omega) h2, uI_c (by decide)]
    · rw [q4 j (by omega), uI_i (by omega)]
theorem m_look {S : Nat → Int32} {k r d f l : Nat} {P : List Nat} (g : GD S) (hl : l < 6) (hP1 : P.length < 6) (IH : ∀ (q : Nat) (L : List (List Nat)) (σ : SG), q < ppN S → σ.1 149 = S → HR σ 156 (P ++ [q]) → RGm σ L → L.length + 6 ^ r ≤ 100000 → ∃ σ', f_M_circles d (nI (P.length + 1)) (nI (wN (pthB (P ++ [q])))) (nI k) σ = some ((), σ') ∧ fr Lci σ σ' ∧ RGm σ' (L ++ rF S r f P q) ∧ HR σ' 156 (P ++ [q]) ∧ ∀ i, i ≠ 18 → σ'.1 148 i = σ.1 148 i) : ∀ (cnt q fu : Nat) (L : List (List Nat)) (σ : SG), q + cnt = ppN S → cnt < fu → σ.1 149 = S → HR σ 156 P → RGm σ L → L.length + cnt * 6 ^ r ≤ 100000 → ∃ σ', f_M_circles_S_87 (f_M_circles d) fu (nI P.length) (nI (wN (pthB P))) (nI k) (nI l) (nI q) σ = some ((), σ') ∧ fr Lci σ σ' ∧ RGm σ' (L ++ (List.range' q cnt).flatMap fun q => rG S r f P l q) ∧ HR σ' 156 P ∧ ∀ i, i ≠ 18 → σ'.1 148 i = σ.1 148 i := by
  have h6 : ppN S ≤ 6 := g.1.1
  intro cnt
  induction cnt with
  | zero =>
    intro q fu L σ hk hf hs hH hG hB
    obtain ⟨fu, rfl⟩ : ∃ g, fu = g + 1 := ⟨fu - 1, by omega⟩
    have e : q = ppN S := by omega
    rw [f_M_circles_S_87, hs, show S 0 = nI (ppN S) from g.1.2, e, if_pos (Int32.le_refl _)]
    refine ⟨σ, rfl, fr.rf, ?_, hH, fun _ _ => rfl⟩
    show RGm σ (L ++ [])
    rw [List.append_nil]
    exact hG
  | succ cnt ih =>
    intro q fu L σ hk hf hs hH hG hB
    obtain ⟨fu, rfl⟩ : ∃ g, fu = g + 1 := ⟨fu - 1, by omega⟩
    have hq : q < ppN S := by omega
    have hq6 : q < 6 := by omega
    have hB2 : L.length + 6 ^ r + cnt * 6 ^ r ≤ 100000 := by rw [Nat.succ_mul] at hB; omega
    rw [f_M_circles_S_87, hs, show S 0 = nI (ppN S) from g.1.2, if_neg (nI_ge hq (by omega)), wN_bit hq6, List.range'_succ, List.flatMap_cons]
    have skip : ∀ (σ1 : SG), fr Lci σ σ1 → HR σ1 156 P → (∀ i, i ≠ 18 → σ1.1 148 i = σ.1 148 i) → RGm σ1 (L ++ rG S r f P l q) → ∃ σ', f_M_circles_S_87 (f_M_circles d) fu (nI P.length) (nI (wN (pthB P))) (nI k) (nI l) (nI q + 1) σ1 = some ((), σ') ∧ fr Lci σ σ' ∧ RGm σ' (L ++ (rG S r f P l q ++ (List.range' (q + 1) cnt).flatMap fun q => rG S r f P l q)) ∧ HR σ' 156 P ∧ ∀ i, i ≠ 18 → σ'.1 148 i = σ.1 148 i := fun σ1 hf1 hH1 ho hG1 => by
      have hlen := rG_len (r := r) (f := f) (l := l) (q := q) (P := P) h6
      obtain ⟨σ', q1, q2, q3, q4, q5⟩ := ih (q + 1) fu _ σ1 (by omega) (by omega) (by rw [hf1.1 _ (by decide)]; exact hs) hH1 hG1 (by rw [List.length_append]; omega)
      rw [nI_1, ← List.append_assoc]
      exact ⟨σ', q1, hf1.tr q2, q3, q4, fun i hi => by rw [q5 i hi, ho i hi]⟩
    have nil : ¬ (isNx S l q ∧ q ∉ P) → L ++ rG S r f P l q = L := fun h => by
      show L ++ (if _ then _ else _) = L
      rw [if_neg h, List.append_nil]
    by_cases hin : q ∈ P
    · have eb : pthB P q = true := decide_eq_true hin
      rw [eb, if_pos (show ¬ nI (true).toNat = 0 by decide), lx_eq]
      exact skip σ fr.rf hH (fun _ _ => rfl) (by rw [nil (fun z => z.2 hin)]; exact hG)
    · have eb : pthB P q = false := decide_eq_false hin
      rw [eb, if_neg (show ¬ ¬ nI (false).toNat = 0 by decide), m_isWhole hq6, bnd_some, hs]
      by_cases hw : hsS S q = ndS S q
      · rw [if_pos (bI_n0.mpr hw), lx_eq]
        exact skip σ fr.rf hH (fun _ _ => rfl) (by rw [nil (fun z => z.1.1 hw)]; exact hG)
      · rw [if_neg (fun z => z (bI_0.mpr hw)), m_isLink hl hq6 (by rw [hs]; exact g), bnd_some, hs]
        by_cases hlk : mtP S l q ∧ ndS S l = hsS S q
        · have H1 := hH.snoc (l := q)
          have hn : isNx S l q ∧ q ∉ P := ⟨⟨hw, hlk⟩, hin⟩
          rw [if_neg (bI_n0.mpr hlk), gd_pos (ix_nI hP1 (by decide)), nx_nI (by omega), sx_eq, nI_1, pth_or hq6]
          have c1 : ∀ c, c ≠ 156 → (uI σ 156 P.length (nI q)).1 c = σ.1 c := fun c hc => uIc hc
          obtain ⟨σ1, q1, q2, q3, q4, q5⟩ := IH q L (uI σ 156 P.length (nI q)) hq (by rw [c1 _ (by decide)]; exact hs) H1 ⟨by rw [c1 _ (by decide)]; exact hG.1, hG.2.1, fun r hr => (hG.2.2 r hr).keep (fun j hj => by rw [c1 _ (by decide)])⟩ (by omega)
          rw [q1, bnd_some, lx_eq]
          refine skip σ1 ((fr.uI (Or.inr (Or.inl rfl))).tr q2) (fun j x hx => q4 j x (by rw [List.getElem?_append_left (List.getElem?_eq_some_iff.mp hx).1]; exact hx)) (fun i hi => by rw [q5 i hi, c1 _ (by decide)]) ?_
          show RGm σ1 (L ++ (if _ then _ else _))
          rw [if_pos hn]
          exact q3
        · rw [if_pos (bI_0.mpr hlk), lx_eq]
          exact skip σ fr.rf hH (fun _ _ => rfl) (by rw [nil (fun z => hlk z.1.2)]; exact hG)
theorem m_ci {S : Nat → Int32} {k f : Nat} (g : GD S) (hk : k ≤ 6) (hf : f < 6) (hfw : ¬ hsS S f = ndS S f) : ∀ (r d : Nat) (pre : List Nat) (l : Nat) (L : List (List Nat)) (σ : SG), r < d → pre.length + 1 + r = k → (pre ++ [l])[0]? = some f → l < 6 → σ.1 149 = S → HR σ 156 (pre ++ [l]) → RGm σ L → L.length + 6 ^ r ≤ 100000 → ∃ σ', f_M_circles d (nI (pre.length + 1)) (nI (wN (pthB (pre ++ [l])))) (nI k) σ = some ((), σ') ∧ fr Lci σ σ' ∧ RGm σ' (L ++ rF S r f pre l) ∧ HR σ' 156 (pre ++ [l]) ∧ ∀ i, i ≠ 18 → σ'.1 148 i = σ.1 148 i := by
  have h6 : ppN S ≤ 6 := g.1.1
  intro r
  induction r with
  | zero =>
    intro d pre l L σ hd hkr h0 hl hs hH hG hB
    obtain ⟨d, rfl⟩ : ∃ g, d = g + 1 := ⟨d - 1, by omega⟩
    have el : σ.1 156 pre.length = nI l := hH _ _ (by rw [List.getElem?_append_right (Nat.le_refl _), Nat.sub_self]; rfl)
    have e0 : σ.1 156 0 = nI f := hH 0 f h0
    rw [f_M_circles, f_M_circles_S, nI_pred, gd_pos (ix_nI (by omega) (by decide)), nx_nI (by omega), el, lx_eq, if_neg (show ¬ ¬ nI (pre.length + 1) = nI k from fun z => z (by rw [show pre.length + 1 = k by omega])), e0, m_isLink hl hf (by rw [hs]; exact g), bnd_some, hs, rF]
    by_cases hlk : mtP S l f ∧ ndS S l = hsS S f
    · rw [if_neg (bI_n0.mpr hlk), if_pos (show isNx S l f from ⟨hfw, hlk⟩)]
      by_cases hL : L = []
      · subst hL
        obtain ⟨τ, q1, q2, q3, -⟩ := m_cpc (fR := f_M_circles d) hk k 0 FU σ (Nat.zero_add _) (by rw [FU_eq]; omega) hG.1
        have q1 : f_M_circles_S_33 (f_M_circles d) FU (nI k) (0 : Int32) σ = _ := q1
        rw [q1]
        refine ⟨_, rfl, (q2.mono (fun c hc => Or.inr (Or.inr hc))).tr (fr.uI (Or.inl rfl)), ⟨by rw [uI_same]; rfl, (show (1 : Nat) ≤ 100000 by decide), fun r hr => ?_⟩, hH.keep (fun j hj => by rw [uI_c (by decide), q2.at (by decide)]), fun i hi => by rw [uI_i hi, q2.at (by decide)]⟩
        have er : r = pre ++ [l] := (Option.some.inj hr).symm
        rw [er]
        intro j x hx
        have hj := (List.getElem?_eq_some_iff.mp hx).1
        rw [List.length_append, List.length_singleton] at hj
        rw [uI_c (by decide), q3 j (Nat.zero_le _) (by omega)]
        exact hH j x hx
      · have hlen : L.length < 2147483648 := by have := hG.2.1; omega
        have n0 : ¬ nI L.length = 0 := fun z => hL (List.length_eq_zero_iff.mp ((n_inj (b := 0) hlen (by decide)).mp z))
        rw [show FU = 1999 + 1 from rfl, f_M_circles_S_33, hG.1, if_neg (show ¬ nI k ≤ 0 from nI_ge (a := 0) (by omega) (by omega)), if_pos n0, sx_eq, nI_1]
        refine ⟨_, rfl, fr.uI (Or.inl rfl), ⟨by rw [uI_same, List.length_append]; rfl, by rw [List.length_append]; show L.length + 1 ≤ _; have : 6 ^ 0 = 1 := rfl; omega, fun r hr => ?_⟩, hH.keep (fun j hj => uI_c (by decide)), fun i hi => uI_i hi⟩
        have hr2 : L.head? = some r := by
          cases L with
          | nil => exact absurd rfl hL
          | cons a b => exact hr
        exact (hG.2.2 r hr2).keep (fun j hj => uI_c (by decide))
    · rw [if_pos (bI_0.mpr hlk), if_neg (show ¬ isNx S l f from fun z => hlk z.2), List.append_nil]
      exact ⟨σ, rfl, fr.rf, hG, hH, fun _ _ => rfl⟩
  | succ r ih =>
    intro d pre l L σ hd hkr h0 hl hs hH hG hB
    obtain ⟨d, rfl⟩ : ∃ g, d = g + 1 := ⟨d - 1, by omega⟩
    have el : σ.1 156 pre.length = nI l := hH _ _ (by rw [List.getElem?_append_right (Nat.le_refl _), Nat.sub_self]; rfl)
    have e0 : σ.1 156 0 = nI f := hH 0 f h0
    have lenP : (pre ++ [l]).length = pre.length + 1 := by rw [List.length_append, List.length_singleton]
    by_cases hfp : f + 1 ≤ ppN S
    · obtain ⟨σ', q1, q2, q3, q4, q5⟩ := m_look (k := k) (d := d) (f := f) (r := r) (P := pre ++ [l]) g hl (by rw [lenP]; omega) (fun q L σ hq hs hH hG hB => ih d (pre ++ [l]) q L σ (by omega) (by rw [lenP]; omega) (snoc_first h0) (by omega) hs hH hG hB) (ppN S - (f + 1)) (f + 1) FU L σ (by omega) (by rw [FU_eq]; omega) hs hH hG (by
        have : (ppN S - (f + 1)) * 6 ^ r ≤ 6 * 6 ^ r := Nat.mul_le_mul_right _ (by omega)
        rw [Nat.pow_succ, Nat.mul_comm (6 ^ r) 6] at hB
        omega)
      rw [lenP] at q1
      rw [f_M_circles, f_M_circles_S, nI_pred, gd_pos (ix_nI (by omega) (by decide)), nx_nI (by omega), el, lx_eq, if_pos (show ¬ nI (pre.length + 1) = nI k from fun z => by have := (n_inj (by omega) (by omega)).mp z; omega), e0, nI_1, lx_eq, q1, rF]
      exact ⟨σ', rfl, q2, q3, q4, q5⟩
    · have ecnt : ppN S - (f + 1) = 0 := by omega
      rw [f_M_circles, f_M_circles_S, nI_pred, gd_pos (ix_nI (by omega) (by decide)), nx_nI (by omega), el, lx_eq, if_pos (show ¬ nI (pre.length + 1) = nI k from fun z => by have := (n_inj (by omega) (by omega)).mp z; omega), e0, nI_1, lx_eq, show FU = 1999 + 1 from rfl, f_M_circles_S_87, hs, show S 0 = nI (ppN S) from g.1.2, if_pos ((n_le (by omega) (by omega)).mpr (by omega)), rF, ecnt]
      refine ⟨σ, rfl, fr.rf, ?_, hH, fun _ _ => rfl⟩
      show RGm σ (L ++ [])
      rw [List.append_nil]
      exact hG
/-! all of them -/
theorem rF_whole {S : Nat → Int32} {f : Nat} (hw : hsS S f = ndS S f) : ∀ (r : Nat) (pre : List Nat) (l : Nat), rF S r f pre l = [] := by
  intro r
  induction r with
  | zero =>
    intro pre l
    rw [rF, if_neg (fun z => z.1 hw)]
  | succ r ih =>
    intro pre l
    rw [rF]
    refine List.flatMap_eq_nil_iff.mpr fun q _ => ?_
    by_cases h : isNx S l q ∧ q ∉ pre ++ [l]
    · rw [if_pos h]; exact ih _ _
    · rw [if_neg h]
def rgA (S : Nat → Int32) (k : Nat) : List (List Nat) := (List.range' 0 (ppN S)).flatMap fun p => rF S (k - 1) p [] p
theorem c_rg_l {a k : Nat} {S : Nat → Int32} (g : GD S) (hk1 : 1 ≤ k) (hk : k ≤ 6) : ∀ (cnt p f : Nat) (L : List (List Nat)) (σ : SG), p + cnt = ppN S → cnt < f → TWR 90 σ S nob → RGc σ L → L.length + cnt * 6 ^ (k - 1) ≤ 100000 → ∃ σ', f_Se_ringsOf_15 a f (nI k) (nI p) σ = some (nI (L ++ (List.range' p cnt).flatMap fun p => rF S (k - 1) p [] p).length, σ') ∧ fr Lrg σ σ' ∧ RGc σ' (L ++ (List.range' p cnt).flatMap fun p => rF S (k - 1) p [] p) := by
  have h6 : ppN S ≤ 6 := g.1.1
  intro cnt
  induction cnt with
  | zero =>
    intro p f L σ hp hf hT hG hB
    obtain ⟨f, rfl⟩ : ∃ g, f = g + 1 := ⟨f - 1, by omega⟩
    have e : p = ppN S := by omega
    rw [f_Se_ringsOf_15, show σ.1 90 2 = nI (ppN S) from hT.1.trans g.1.2, e, if_pos (Int32.le_refl _), hG.1]
    have e0 : L ++ (List.range' (ppN S) 0).flatMap (fun p => rF S (k - 1) p [] p) = L := List.append_nil L
    rw [e0]
    exact ⟨σ, rfl, fr.rf, hG⟩
  | succ cnt ih =>
    intro p f L σ hp hf hT hG hB
    obtain ⟨f, rfl⟩ : ∃ g, f = g + 1 := ⟨f - 1, by omega⟩
    have hB2 : L.length + 6 ^ (k - 1) + cnt * 6 ^ (k - 1) ≤ 100000 := by rw [Nat.succ_mul] at hB; omega
    obtain ⟨σ1, q1, q2, q3, -, -⟩ := c_go (f := p) g hk (by omega) (k - 1) DP [] p L σ (by show k - 1 < 12; omega) (by show 0 + 1 + (k - 1) = k; omega) rfl (by omega) (fun x hx => by cases hx) hT (fun j x hx => by cases hx) hG (by omega)
    have q1 : f_Se_goOn DP (nI p) (0 : Int32) (nI k) σ = _ := q1
    have hlen := rF_len (S := S) h6 (k - 1) p [] p
    obtain ⟨σ', r1, r2, r3⟩ := ih (p + 1) f _ σ1 (by omega) (by omega) (hT.cong (fun c c1 c2 _ => q2.1 c (by omega))) q3 (by rw [List.length_append]; omega)
    rw [f_Se_ringsOf_15, show σ.1 90 2 = nI (ppN S) from hT.1.trans g.1.2, if_neg (nI_ge (show p < ppN S by omega) (by omega)), q1, bnd_some, lx_eq, nI_1, List.range'_succ, List.flatMap_cons, ← List.append_assoc]
    exact ⟨σ', r1, q2.tr r2, r3⟩
theorem c_ringsOf {σ : SG} {S : Nat → Int32} {R : List RU} {k : Nat} (g : GD S) (hT : TWR 20 σ S nob) (hR : RLt 20 σ R) (hk1 : 1 ≤ k) (hk : k ≤ 6) : ∃ σ', f_Se_ringsOf 20 (nI k) σ = some (nI (rgA S k).length, σ') ∧ fr (fun c => (90 ≤ c ∧ c ≤ 104) ∨ (125 ≤ c ∧ c ≤ 127)) σ σ' ∧ RGc σ' (rgA S k) := by
  have h6 : ppN S ≤ 6 := g.1.1
  unfold f_Se_ringsOf
  obtain ⟨σ1, q1, q2, q3, q4, -⟩ := b_copyPlay2 (t := 90) (a := 20) (by omega) hT hR
  rw [q1, bnd_some, sx_eq]
  have hB : ([] : List (List Nat)).length + ppN S * 6 ^ (k - 1) ≤ 100000 := by
    have a : 6 ^ (k - 1) ≤ 6 ^ 5 := Nat.pow_le_pow_right (by decide) (by omega)
    have b : ppN S * 6 ^ (k - 1) ≤ 6 * 6 ^ 5 := Nat.mul_le_mul h6 a
    have c : (6 * 6 ^ 5 : Nat) = 46656 := rfl
    show 0 + _ ≤ _
    omega
  obtain ⟨σ2, r1, r2, r3⟩ := c_rg_l (a := 20) g hk1 hk (ppN S) 0 FU [] (uI σ1 125 3 (0 : Int32)) (Nat.zero_add _) (by rw [FU_eq]; omega) (q3.cong (fun c c1 c2 _ => uIc (by omega))) ⟨uI_same, by decide, fun r hr => by cases hr⟩ hB
  rw [List.nil_append] at r1 r3
  have r1 : f_Se_ringsOf_15 20 FU (nI k) (0 : Int32) (uI σ1 125 3 (0 : Int32)) = _ := r1
  exact ⟨σ2, r1, ((q2.mono (fun c hc => by omega)).tr (fr.uI (by omega))).tr (r2.mono (fun c hc => by omega)), r3⟩
theorem m_rg_l {k : Nat} {S : Nat → Int32} (g : GD S) (hk1 : 1 ≤ k) (hk : k ≤ 6) : ∀ (cnt p f : Nat) (L : List (List Nat)) (σ : SG), p + cnt = ppN S → cnt < f → σ.1 149 = S → RGm σ L → L.length + cnt * 6 ^ (k - 1) ≤ 100000 → ∃ σ', f_M_findRings_7 f (nI k) (nI p) σ = some ((), σ') ∧ fr Lci σ σ' ∧ RGm σ' (L ++ (List.range' p cnt).flatMap fun p => rF S (k - 1) p [] p) ∧ ∀ i, i ≠ 18 → σ'.1 148 i = σ.1 148 i := by
  have h6 : ppN S ≤ 6 := g.1.1
  intro cnt
  induction cnt with
  | zero =>
    intro p f L σ hp hf hs hG hB
    obtain ⟨f, rfl⟩ : ∃ g, f = g + 1 := ⟨f - 1, by omega⟩
    have e : p = ppN S := by omega
    rw [f_M_findRings_7, hs, show S 0 = nI (ppN S) from g.1.2, e, if_pos (Int32.le_refl _)]
    have e0 : L ++ (List.range' (ppN S) 0).flatMap (fun p => rF S (k - 1) p [] p) = L := List.append_nil L
    rw [e0]
    exact ⟨σ, rfl, fr.rf, hG, fun _ _ => rfl⟩
  | succ cnt ih =>
    intro p f L σ hp hf hs hG hB
    obtain ⟨f, rfl⟩ : ∃ g, f = g + 1 := ⟨f - 1, by omega⟩
    have hp6 : p < 6 := by omega
    have hB2 : L.length + 6 ^ (k - 1) + cnt * 6 ^ (k - 1) ≤ 100000 := by rw [Nat.succ_mul] at hB; omega
    rw [f_M_findRings_7, hs, show S 0 = nI (ppN S) from g.1.2, if_neg (nI_ge (show p < ppN S by omega) (by omega)), m_isWhole hp6, bnd_some, hs, List.range'_succ, List.flatMap_cons]
    by_cases hw : hsS S p = ndS S p
    · obtain ⟨σ', r1, r2, r3, r4⟩ := ih (p + 1) f L σ (by omega) (by omega) hs hG (Nat.le_trans (Nat.add_le_add_right (Nat.le_add_right _ _) _) hB2)
      rw [if_pos (bI_n0.mpr hw), lx_eq, nI_1, rF_whole hw, List.nil_append]
      exact ⟨σ', r1, r2, r3, r4⟩
    · have c1 : ∀ c, c ≠ 156 → (uI σ 156 0 (nI p)).1 c = σ.1 c := fun c hc => uIc hc
      have hpb : (1 : Int32) <<< (nI p &&& 31) = nI (wN (pthB ([] ++ [p]))) := by
        rw [← pth_or hp6]
        have e0 : nI (wN (pthB [])) = 0 := by decide
        rw [e0, Int32.zero_or]
      obtain ⟨σ1, q1, q2, q3, -, q5⟩ := m_ci (f := p) g hk hp6 hw (k - 1) DP [] p L (uI σ 156 0 (nI p)) (by show k - 1 < 12; omega) (by show 0 + 1 + (k - 1) = k; omega) rfl hp6 (by rw [c1 _ (by decide)]; exact hs) (HR.snoc (c := 156) (l := p) (pre := []) (fun j x hx => by cases hx)) ⟨by rw [c1 _ (by decide)]; exact hG.1, hG.2.1, fun r hr => (hG.2.2 r hr).keep (fun j hj => by rw [c1 _ (by decide)])⟩ (by omega)
      have q1 : f_M_circles DP (1 : Int32) (nI (wN (pthB ([] ++ [p])))) (nI k) (uI σ 156 0 (nI p)) = _ := q1
      have hlen := rF_len (S := S) h6 (k - 1) p [] p
      obtain ⟨σ', r1, r2, r3, r4⟩ := ih (p + 1) f _ σ1 (by omega) (by omega) (by rw [q2.1 _ (by decide), c1 _ (by decide)]; exact hs) q3 (by rw [List.length_append]; omega)
      rw [if_neg (fun z => z (bI_0.mpr hw)), sx_eq, hpb, q1, bnd_some, lx_eq, nI_1, ← List.append_assoc]
      exact ⟨σ', r1, ((fr.uI (Or.inr (Or.inl rfl))).tr q2).tr r2, r3, fun i hi => by rw [r4 i hi, q5 i hi, c1 _ (by decide)]⟩
theorem m_findRings {σ : SG} {k : Nat} (g : GD (σ.1 149)) (hk1 : 1 ≤ k) (hk : k ≤ 6) : ∃ σ', f_M_findRings (nI k) σ = some ((), σ') ∧ fr Lci σ σ' ∧ RGm σ' (rgA (σ.1 149) k) ∧ ∀ i, i ≠ 18 → σ'.1 148 i = σ.1 148 i := by
  have h6 : ppN (σ.1 149) ≤ 6 := g.1.1
  unfold f_M_findRings
  have hB : ([] : List (List Nat)).length + ppN (σ.1 149) * 6 ^ (k - 1) ≤ 100000 := by
    have a : 6 ^ (k - 1) ≤ 6 ^ 5 := Nat.pow_le_pow_right (by decide) (by omega)
    have b : ppN (σ.1 149) * 6 ^ (k - 1) ≤ 6 * 6 ^ 5 := Nat.mul_le_mul h6 a
    have c : (6 * 6 ^ 5 : Nat) = 46656 := rfl
    show 0 + _ ≤ _
    omega
  obtain ⟨σ', r1, r2, r3, r4⟩ := m_rg_l g hk1 hk (ppN (σ.1 149)) 0 FU [] (uI σ 148 18 (0 : Int32)) (Nat.zero_add _) (by rw [FU_eq]; omega) (uIc (by decide)) ⟨uI_same, by decide, fun r hr => by cases hr⟩ hB
  rw [List.nil_append] at r3
  have r1 : f_M_findRings_7 FU (nI k) (0 : Int32) (uI σ 148 18 (0 : Int32)) = _ := r1
  rw [sx_eq, r1]
  exact ⟨σ', rfl, (fr.uI (Or.inl rfl)).tr r2, r3, fun i hi => by rw [r4 i hi, uI_i hi]⟩
/-! rings, ring -/
theorem k_26 {x : Int32} (h : 2 ≤ x ∧ x ≤ 6) : ∃ k, 2 ≤ k ∧ k ≤ 6 ∧ x = nI k := by
  obtain ⟨k, hk, e⟩ := n_sp (x := x) (b := 6) (by decide) (by have := h.1; rw [i_le] at this ⊢; exact Int.le_trans (by decide) this) h.2
  refine ⟨k, ?_, hk, e⟩
  have := h.1
  rw [e, i_le, nI_toInt (by omega)] at this
  have e2 : (2 : Int32).toInt = 2 := rfl
  rw [e2] at this
  omega
def rgsA (S : Nat → Int32) (x : Int32) : Int32 := if 2 ≤ x ∧ x ≤ 6 then nI (rgA S (nx x)).length else -1
def rigA (S : Nat → Int32) (x y : Int32) : Int32 := if 2 ≤ x ∧ x ≤ 6 then (if 0 ≤ y ∧ y ≤ x - 1 then (match (rgA S (nx x)).head? with
  | none => -3
  | some r => nI (r.getD (nx y) 0)) else -1) else -1
abbrev Lrq (c : Nat) : Prop := (90 ≤ c ∧ c ≤ 104) ∨ (125 ≤ c ∧ c ≤ 127)
theorem cq_rings {σ : SG} {S : Nat → Int32} {R : List RU} (g : GD S) (hT : TWR 20 σ S nob) (hR : RLt 20 σ R) (x : Int32) : ∃ σ', f_H_rings x σ = some (rgsA S x, σ') ∧ fr Lrq σ σ' := by
  unfold f_H_rings rgsA
  rw [b_isIn, bnd_some]
  by_cases hx : 2 ≤ x ∧ x ≤ 6
  · obtain ⟨k, hk1, hk, rfl⟩ := k_26 hx
    obtain ⟨σ', q1, q2, -⟩ := c_ringsOf g hT hR (show 1 ≤ k by omega) hk
    rw [if_neg (bI_n0.mpr hx), if_pos hx, q1, bnd_some, nx_nI (by omega)]
    exact ⟨σ', rfl, q2⟩
  · rw [if_pos (bI_0.mpr hx), if_neg hx]
    exact ⟨σ, rfl, fr.rf⟩
theorem mq_rings {σ : SG} (g : GD (σ.1 149)) (x : Int32) : ∃ σ', f_M_rings x σ = some (rgsA (σ.1 149) x, σ') ∧ fr Lci σ σ' ∧ ∀ i, i ≠ 18 → σ'.1 148 i = σ.1 148 i := by
  unfold f_M_rings rgsA
  rw [m_in32 (a := 2) (b := 6) (by decide) (by decide), bnd_some]
  by_cases hx : 2 ≤ x ∧ x ≤ 6
  · obtain ⟨k, hk1, hk, rfl⟩ := k_26 hx
    obtain ⟨σ', q1, q2, q3, q4⟩ := m_findRings g (show 1 ≤ k by omega) hk
    rw [if_pos (bI_n0.mpr hx), if_pos hx, q1, bnd_some, nx_nI (by omega), q3.1]
    exact ⟨σ', rfl, q2, q4⟩
  · rw [if_neg (fun w => w (bI_0.mpr hx)), if_neg hx]
    exact ⟨σ, rfl, fr.rf, fun _ _ => rfl⟩
theorem rF_in {S : Nat → Int32} : ∀ (r f : Nat) (pre : List Nat) (l : Nat), ∀ x ∈ rF S r f pre l, x.length = pre.length + 1 + r := by
  intro r
  induction r with
  | zero =>
    intro f pre l x hx
    rw [rF] at hx
    by_cases h : isNx S l f
    · rw [if_pos h] at hx
      rw [List.mem_singleton.mp hx, List.length_append, List.length_singleton]
    · rw [if_neg h] at hx
      cases hx
  | succ r ih =>
    intro f pre l x hx
    rw [rF] at hx
    obtain ⟨q, -, hq⟩ := List.mem_flatMap.mp hx
    by_cases h : isNx S l q ∧ q ∉ pre ++ [l]
    · rw [if_pos h] at hq
      rw [ih _ _ _ x hq, List.length_append, List.length_singleton]
      omega
    · rw [if_neg h] at hq
      cases hq
theorem rgA_in {S : Nat → Int32} {k : Nat} (hk : 1 ≤ k) {x : List Nat} (h : x ∈ rgA S k) : x.length = k := by
  obtain ⟨p, -, hp⟩ := List.mem_flatMap.mp h
  rw [rF_in _ _ _ _ x hp]
  show 0 + 1 + (k - 1) = k
  omega
theorem head_mem {α : Type} {L : List α} {r : α} (h : L.head? = some r) : r ∈ L := by
  cases L with
  | nil => cases h
  | cons a b => rw [← Option.some.inj h]; exact List.mem_cons_self
theorem cq_ring {σ : SG} {S : Nat → Int32} {R : List RU} (g : GD S) (hT : TWR 20 σ S nob) (hR : RLt 20 σ R) (x y : Int32) : ∃ σ', f_H_ring x y σ = some (rigA S x y, σ') ∧ fr Lrq σ σ' := by
  unfold f_H_ring rigA
  rw [b_isIn, bnd_some]
  by_cases hx : 2 ≤ x ∧ x ≤ 6
  · obtain ⟨k, hk1, hk, rfl⟩ := k_26 hx
    rw [if_neg (bI_n0.mpr hx), if_pos hx, b_isIn, bnd_some]
    by_cases hy : 0 ≤ y ∧ y ≤ nI k - 1
    · obtain ⟨j, hj, rfl⟩ := rw_ix hk hy
      obtain ⟨σ', q1, q2, q3⟩ := c_ringsOf g hT hR (show 1 ≤ k by omega) hk
      rw [if_pos (bI_n0.mpr hy), if_pos hy, q1, bnd_some, nx_nI (k := k) (by omega), nx_nI (by omega)]
      refine ⟨σ', ?_, q2⟩
      cases hL : rgA S k with
      | nil =>
        rw [if_pos (by decide)]
        rfl
      | cons r L =>
        have hm : r ∈ rgA S k := by rw [hL]; exact List.mem_cons_self
        have hr := rgA_in (by omega) hm
        have hl2 := q3.2.1
        rw [hL, List.length_cons] at hl2
        have e : r[j]? = some (r[j]'(by omega)) := List.getElem?_eq_getElem (by omega)
        rw [if_neg (show ¬ nI (r :: L).length ≤ 0 from nI_ge (a := 0) (by rw [List.length_cons]; omega) (by rw [List.length_cons]; omega)), gd_pos (ix_nI (by omega) (by decide)), q3.2.2 r (by rw [hL]; rfl) j _ e]
        show some (nI _, σ') = some (nI (r.getD j 0), σ')
        rw [List.getD_eq_getElem?_getD, e]
        rfl
    · rw [if_neg (fun w => w (bI_0.mpr hy)), if_neg hy]
      exact ⟨σ, rfl, fr.rf⟩
  · rw [if_pos (bI_0.mpr hx), if_neg hx]
    exact ⟨σ, rfl, fr.rf⟩
theorem mq_ring {σ : SG} (g : GD (σ.1 149)) (x y : Int32) : ∃ σ', f_M_ring x y σ = some (rigA (σ.1 149) x y, σ') ∧ fr Lci σ σ' ∧ ∀ i, i ≠ 18 → σ'.1 148 i = σ.1 148 i := by
  unfold f_M_ring rigA
  rw [m_in32 (a := 2) (b := 6) (by decide) (by decide), bnd_some]
  by_cases hx : 2 ≤ x ∧ x ≤ 6
  · obtain ⟨k, hk1, hk, rfl⟩ := k_26 hx
    rw [if_neg (bI_n0.mpr hx), if_pos hx, m_in32 (a := 0) (b := nI k - 1) (by decide) (Int32.toInt_toInt64 _), bnd_some]
    by_cases hy : 0 ≤ y ∧ y ≤ nI k - 1
    · obtain ⟨j, hj, rfl⟩ := rw_ix hk hy
      obtain ⟨σ', q1, q2, q3, q4⟩ := m_findRings g (show 1 ≤ k by omega) hk
      rw [if_pos (bI_n0.mpr hy), if_pos hy, q1, bnd_some, nx_nI (k := k) (by omega), nx_nI (by omega), q3.1]
      refine ⟨σ', ?_, q2, q4⟩
      cases hL : rgA (σ.1 149) k with
      | nil =>
        rw [if_neg (show ¬ ¬ nI ([] : List (List Nat)).length = 0 from fun z => z rfl)]
        rfl
      | cons r L =>
        have hm : r ∈ rgA (σ.1 149) k := by rw [hL]; exact List.mem_cons_self
        have hr := rgA_in (by omega) hm
        have hl2 := q3.2.1
        rw [hL, List.length_cons] at hl2
        have e : r[j]? = some (r[j]'(by omega)) := List.getElem?_eq_getElem (by omega)
        rw [if_pos (show ¬ nI (r :: L).length = 0 from fun z => by
          have := (n_inj (b := 0) (by rw [List.length_cons]; omega) (by decide)).mp z
          rw [List.length_cons] at this
          omega), gd_pos (ix_nI (by omega) (by decide)), q3.2.2 r (by rw [hL]; rfl) j _ e]
        show some (nI _, σ') = some (nI (r.getD j 0), σ')
        rw [List.getD_eq_getElem?_getD, e]
        rfl
    · rw [if_neg (fun w => w (bI_0.mpr hy)), if_neg hy]
      exact ⟨σ, rfl, fr.rf, fun _ _ => rfl⟩
  · rw [if_pos (bI_0.mpr hx), if_neg hx]
    exact ⟨σ, rfl, fr.rf, fun _ _ => rfl⟩
