/-! BARTER: comes, dearest, both sides -/
theorem b_1i : ∀ i, i < 32 → bt 1 i = decide (i = 0) := by decide +kernel
theorem sb_bt {x : Int32} {t : Nat} (ht : t < 31) : ((x >>> (nI t &&& 31)) &&& 1 = 1) ↔ bt x t = true := by
  have b0 : bt ((x >>> (nI t &&& 31)) &&& 1) 0 = bt x t := by
    rw [b_and, b_sshr t (by omega) x (by decide), if_pos (by omega), b_1i 0 (by decide), Nat.add_zero]
    simp
  constructor
  · intro h
    rw [h] at b0
    rw [← b0]
    exact b_1i 0 (by decide)
  · intro h
    refine b_ext fun i hi => ?_
    cases i with
    | zero => rw [b0, h, b_1i 0 (by decide)]; rfl
    | succ i =>
      rw [b_and, b_1i (i + 1) hi, decide_eq_false (Nat.succ_ne_zero i), Bool.and_false]
abbrev brc (S : Nat → Int32) (p q : Nat) : Prop := mtP S p q ∧ ¬ hsS S p = hsS S q ∧ S (6 + hsN S q) ≤ S (6 + hsN S p)
abbrev brF (B : (Nat → Int32) → Nat → Int32) (S : Nat → Int32) (p : Nat) (a : Int32) (q : Nat) : Int32 := if brc S p q then a ||| B (swA S p q) p else a
/-- THINGS that p comes to behind n BARTERS or fewer -/
def bA : Nat → (Nat → Int32) → Nat → Int32
  | 0, S, p => (1 : Int32) <<< (hsS S p &&& 31)
  | n + 1, S, p => (List.range' 0 (ppN S)).foldl (fun a q => if brc S p q then a ||| bA n (swA S p q) p else a) ((1 : Int32) <<< (hsS S p &&& 31))
theorem fold_bt {h : Nat} {f : Int32 → Nat → Int32} (hf : ∀ a q, bt a h = true → bt (f a q) h = true) : ∀ (l : List Nat) (a : Int32), bt a h = true → bt (l.foldl f a) h = true := by
  intro l
  induction l with
  | nil => intro a ha; exact ha
  | cons q l ih => intro a ha; exact ih _ (hf a q ha)
theorem bA_has {S : Nat → Int32} {p : Nat} (g : GD S) (hp : p < 6) (n : Nat) : bt (bA n S p) (hsN S p) = true := by
  have h8 : hsN S p ≤ 7 := (rgP g hp).2.1.1
  have e : hsS S p = nI (hsN S p) := (rgP g hp).2.1.2
  have b0 : bt ((1 : Int32) <<< (hsS S p &&& 31)) (hsN S p) = true := by
    rw [e, b_shl _ (by omega) 1 (by omega), decide_eq_true (Nat.le_refl _), Nat.sub_self, b_1i 0 (by decide)]
    rfl
  cases n with
  | zero => exact b0
  | succ n =>
    rw [bA]
    refine fold_bt (fun a q ha => ?_) _ _ b0
    by_cases hc : brc S p q
    · rw [if_pos hc, b_or, ha]
      rfl
    · rw [if_neg hc]; exact ha
theorem or_fold {f : Nat → Option Int32} : ∀ (l : List Nat) (a b : Int32), l.foldl (fun a q => match f q with
  | some v => a ||| v
  | none => a) (a ||| b) = a ||| l.foldl (fun a q => match f q with
  | some v => a ||| v
  | none => a) b := by
  intro l
  induction l with
  | nil => intro a b; rfl
  | cons q l ih =>
    intro a b
    rw [List.foldl_cons, List.foldl_cons]
    cases f q with
    | some v =>
      show List.foldl _ (a ||| b ||| v) l = _
      rw [Int32.or_assoc]
      exact ih a (b ||| v)
    | none => exact ih a b
theorem or_foldb {S : Nat → Int32} {p : Nat} {B : (Nat → Int32) → Nat → Int32} (l : List Nat) (a b : Int32) : l.foldl (brF B S p) (a ||| b) = a ||| l.foldl (brF B S p) b := by
  have e : brF B S p = fun a q => match (if brc S p q then some (B (swA S p q) p) else none) with
    | some v => a ||| v
    | none => a := by
    funext a q
    by_cases hc : brc S p q
    · rw [if_pos hc]
      exact if_pos hc
    · rw [if_neg hc]
      exact if_neg hc
  rw [e]
  exact or_fold (f := fun q => if brc S p q then some (B (swA S p q) p) else none) l a b
theorem bA_S (n : Nat) (S : Nat → Int32) (p : Nat) : bA (n + 1) S p = (List.range' 0 (ppN S)).foldl (brF (bA n) S p) ((1 : Int32) <<< (hsS S p &&& 31)) := rfl
theorem mt_bit {S : Nat → Int32} {p q : Nat} (g : GD S) (hp : p < 6) (hq : q < 6) : ((S (22 + 5 * p + 4) >>> (nI q &&& 31)) &&& 1 = 1) ↔ mtP S p q := by
  have hm : mtN S p < 64 := by have : mtN S p ≤ 63 := (rgP g hp).2.2.2.2.1; omega
  rw [show S (22 + 5 * p + 4) = nI (mtN S p) from (rgP g hp).2.2.2.2.2]
  exact bit64_1 hm hq
theorem c_brt_l {p n d : Nat} {S : Nat → Int32} (g : GD S) (hpn : p < ppN S) (hn : n < 100) (IH : ∀ (S : Nat → Int32) (σ : SG), GD S → p < ppN S → TWR 90 σ S nob → ∃ σ', f_Se_barters d (nI p) (nI n) σ = some (bA n S p, σ') ∧ fr (fun c => c = 90 ∨ c = 99) σ σ' ∧ TWR 90 σ' S nob) : ∀ (k j f : Nat) (acc : Int32) (σ : SG), j + k = ppN S → k < f → TWR 90 σ S nob → ∃ σ', f_Se_barters_S_15 (f_Se_barters d) f (nI p) (nI (n + 1)) acc (nI j) σ = some ((List.range' j k).foldl (brF (bA n) S p) acc, σ') ∧ fr (fun c => c = 90 ∨ c = 99) σ σ' ∧ TWR 90 σ' S nob := by
  have h6 : ppN S ≤ 6 := g.1.1
  intro k
  induction k with
  | zero =>
    intro j f acc σ hk hf hT
    obtain ⟨f, rfl⟩ : ∃ g, f = g + 1 := ⟨f - 1, by omega⟩
    have e : j = ppN S := by omega
    rw [f_Se_barters_S_15, show σ.1 90 2 = nI (ppN S) from hT.1.trans g.1.2, e, if_pos (Int32.le_refl _)]
    exact ⟨σ, rfl, fr.rf, hT⟩
  | succ k ih =>
    intro j f acc σ hk hf hT
    obtain ⟨f, rfl⟩ : ∃ g, f = g + 1 := ⟨f - 1, by omega⟩
    have hp : p < 6 := by omega
    have hj : j < 6 := by omega
    have ip := ix_nI hp (show (6 : Nat) < 2147483648 by decide)
    have ij := ix_nI hj (show (6 : Nat) < 2147483648 by decide)
    have np : nx (nI p) = p := nx_nI (by omega)
    have nj : nx (nI j) = j := nx_nI (by omega)
    have e102 : σ.1 102 p = S (22 + 5 * p + 4) := (hT.2.2.2.2.1 p hp).2.2.2.2
    rw [f_Se_barters_S_15, show σ.1 90 2 = nI (ppN S) from hT.1.trans g.1.2, if_neg (nI_ge (show j < ppN S by omega) (by omega)), if_neg (show ¬ nI (n + 1) ≤ 0 from nI_ge (a := 0) (by omega) (by omega)), gd_pos ip, np, e102, List.range'_succ, List.foldl_cons]
    by_cases hm : mtP S p j
    · rw [if_neg (fun z => z ((mt_bit g hp hj).mpr hm))]
      unfold f_Se_bartersWith
      have e9 : ∀ q, q < 6 → σ.1 99 q = nI (hsN S q) := fun q hq => ((hT.2.2.2.2.1 q hq).2.1).trans (rgP g hq).2.1.2
      have h8 : ∀ q, q < 6 → hsN S q < 8 := fun q hq => by have : hsN S q ≤ 7 := (rgP g hq).2.1.1; omega
      have e103 : ∀ i, i < 8 → σ.1 103 i = S (6 + i) := fun i hi => (hT.2.2.2.2.2 i hi).1
      have eh : nI (hsN S p) = nI (hsN S j) ↔ hsS S p = hsS S j := by
        rw [← (show hsS S p = nI (hsN S p) from (rgP g hp).2.1.2), ← (show hsS S j = nI (hsN S j) from (rgP g hj).2.1.2)]
      rw [gd_pos ip, np, e9 p hp, lx_eq, gd_pos ij, nj, e9 j hj, lx_eq]
      by_cases he : hsS S p = hsS S j
      · rw [if_pos (eh.mpr he), bnd_some, lx_eq, lx_eq, or_0, nI_1]
        obtain ⟨σ', q1, q2, q3⟩ := ih (j + 1) f acc σ (by omega) (by omega) hT
        have eb : brF (bA n) S p acc j = acc := if_neg (fun z => z.2.1 he)
        rw [eb]
        exact ⟨σ', q1, q2, q3⟩
      · rw [if_neg (fun z => he (eh.mp z)), gd_pos (ix_nI (h8 p hp) (by decide)), gd_pos (ix_nI (h8 j hj) (by decide)), nx_nI (by have := h8 j hj; omega), nx_nI (by have := h8 p hp; omega), e103 _ (h8 j hj), e103 _ (h8 p hp)]
        by_cases hw : S (6 + hsN S j) ≤ S (6 + hsN S p)
        · have hpj : p ≠ j := fun z => he (by rw [z])
          have eb : brF (bA n) S p acc j = acc ||| bA n (swA S p j) p := if_pos ⟨hm, he, hw⟩
          have g1 : GD (swA S p j) := g.sw hp hj
          have p1 : ppN (swA S p j) = ppN S := congrArg nx swA_0
          obtain ⟨σ1, q1, q2, q3, q4⟩ := b_swap (t := 90) hpn (show j < ppN S by omega) hpj hT g
          obtain ⟨σ2, r1, r2, r3⟩ := IH (swA S p j) σ1 g1 (by rw [p1]; exact hpn) q3
          obtain ⟨σ3, w1, w2, w3, w4⟩ := b_swap (t := 90) (S := swA S p j) (by rw [p1]; exact hpn) (by rw [p1]; omega) hpj r3 g1
          rw [sw_sw hpj] at w3
          rw [if_pos hw, q1, bnd_some, nI_pred, r1, bnd_some, w1, bnd_some, bnd_some, lx_eq, lx_eq, nI_1, eb]
          obtain ⟨σ', t1, t2, t3⟩ := ih (j + 1) f (acc ||| bA n (swA S p j) p) σ3 (by omega) (by omega) w3
          exact ⟨σ', t1, (((q2.mono (fun c hc => hc)).tr r2).tr (w2.mono (fun c hc => hc))).tr t2, t3⟩
        · have eb : brF (bA n) S p acc j = acc := if_neg (fun z => hw z.2.2)
          rw [if_neg hw, bnd_some, lx_eq, lx_eq, or_0, nI_1, eb]
          exact ih (j + 1) f acc σ (by omega) (by omega) hT
    · have eb : brF (bA n) S p acc j = acc := if_neg (fun z => hm z.1)
      rw [if_pos (fun z => hm ((mt_bit g hp hj).mp z)), lx_eq, nI_1, eb]
      exact ih (j + 1) f acc σ (by omega) (by omega) hT
theorem c_brt {p : Nat} : ∀ (n d : Nat) (S : Nat → Int32) (σ : SG), n < d → n < 100 → GD S → p < ppN S → TWR 90 σ S nob → ∃ σ', f_Se_barters d (nI p) (nI n) σ = some (bA n S p, σ') ∧ fr (fun c => c = 90 ∨ c = 99) σ σ' ∧ TWR 90 σ' S nob := by
  intro n
  induction n with
  | zero =>
    intro d S σ hd hn g hpn hT
    obtain ⟨d, rfl⟩ : ∃ g, d = g + 1 := ⟨d - 1, by omega⟩
    have h6 : ppN S ≤ 6 := g.1.1
    have hp : p < 6 := by omega
    rw [f_Se_barters, f_Se_barters_S, gd_pos (ix_nI hp (by decide)), nx_nI (by omega), show σ.1 99 p = hsS S p from (hT.2.2.2.2.1 p hp).2.1, lx_eq, show FU = 1999 + 1 from rfl, f_Se_barters_S_15, bA]
    by_cases h0 : σ.1 90 2 ≤ 0
    · rw [if_pos h0]
      exact ⟨σ, rfl, fr.rf, hT⟩
    · rw [if_neg h0, if_pos (by decide)]
      exact ⟨σ, rfl, fr.rf, hT⟩
  | succ n ih =>
    intro d S σ hd hn g hpn hT
    obtain ⟨d, rfl⟩ : ∃ g, d = g + 1 := ⟨d - 1, by omega⟩
    have h6 : ppN S ≤ 6 := g.1.1
    have hp : p < 6 := by omega
    rw [f_Se_barters, f_Se_barters_S, gd_pos (ix_nI hp (by decide)), nx_nI (by omega), show σ.1 99 p = hsS S p from (hT.2.2.2.2.1 p hp).2.1, lx_eq, bA_S]
    exact c_brt_l g hpn (by omega) (fun S σ h1 h2 h3 => ih d S σ (by omega) (by omega) h1 h2 h3) (ppN S) 0 FU _ σ (Nat.zero_add _) (by rw [FU_eq]; omega) hT
theorem c_bartered {p n : Nat} {σ : SG} {S : Nat → Int32} {R : List RU} (g : GD S) (hT : TWR 20 σ S nob) (hR : RLt 20 σ R) (hpn : p < ppN S) (hn : n ≤ 4) : ∃ σ', f_Se_bartered 20 (nI p) (nI n) σ = some (bA n S p, σ') ∧ fr (fun c => 90 ≤ c ∧ c ≤ 104) σ σ' := by
  unfold f_Se_bartered
  obtain ⟨σ1, q1, q2, q3, q4, -⟩ := b_copyPlay2 (t := 90) (a := 20) (by omega) hT hR
  obtain ⟨σ2, r1, r2, r3⟩ := c_brt n DP S σ1 (by show n < 12; omega) (by omega) g hpn q3
  rw [q1, bnd_some, r1, bnd_some]
  exact ⟨σ2, rfl, (q2.mono (fun c hc => by omega)).tr (r2.mono (fun c hc => by omega))⟩
/-! the reference -/
abbrev Lbr (c : Nat) : Prop := c = 148 ∨ c = 149
theorem m_brt_l {p n d : Nat} {S : Nat → Int32} (g : GD S) (hpn : p < ppN S) (hn : n < 100) (IH : ∀ (S : Nat → Int32) (σ : SG), GD S → p < ppN S → σ.1 149 = S → ∃ σ', f_M_barters d (nI p) (nI n) σ = some ((), σ') ∧ fr Lbr σ σ' ∧ σ'.1 149 = S ∧ σ'.1 148 19 = σ.1 148 19 ||| bA n S p ∧ ∀ i, i ≠ 19 → σ'.1 148 i = σ.1 148 i) : ∀ (k j f : Nat) (σ : SG), j + k = ppN S → k < f → σ.1 149 = S → ∃ σ', f_M_barters_S_22 (f_M_barters d) f (nI p) (nI (n + 1)) (hsS S p) (nI j) σ = some ((), σ') ∧ fr Lbr σ σ' ∧ σ'.1 149 = S ∧ σ'.1 148 19 = (List.range' j k).foldl (brF (bA n) S p) (σ.1 148 19) ∧ ∀ i, i ≠ 19 → σ'.1 148 i = σ.1 148 i := by
  have h6 : ppN S ≤ 6 := g.1.1
  intro k
  induction k with
  | zero =>
    intro j f σ hk hf hs
    obtain ⟨f, rfl⟩ : ∃ g, f = g + 1 := ⟨f - 1, by omega⟩
    have e : j = ppN S := by omega
    rw [f_M_barters_S_22, hs, show S 0 = nI (ppN S) from g.1.2, e, if_pos (Int32.le_refl _)]
    exact ⟨σ, rfl, fr.rf, hs, rfl, fun _ _ => rfl⟩
  | succ k ih =>
    intro j f σ hk hf hs
    obtain ⟨f, rfl⟩ : ∃ g, f = g + 1 := ⟨f - 1, by omega⟩
    have hp : p < 6 := by omega
    have hj : j < 6 := by omega
    rw [f_M_barters_S_22, hs, show S 0 = nI (ppN S) from g.1.2, if_neg (nI_ge (show j < ppN S by omega) (by omega)), if_neg (show ¬ nI (n + 1) ≤ 0 from nI_ge (a := 0) (by omega) (by omega)), m_its1 hj, bnd_some, m_doMeet hp hj (by rw [hs]; exact g), bnd_some, hs, List.range'_succ, List.foldl_cons]
    have skip : brF (bA n) S p (σ.1 148 19) j = σ.1 148 19 → ∃ σ', f_M_barters_S_22 (f_M_barters d) f (nI p) (nI (n + 1)) (hsS S p) (nI j + 1) σ = some ((), σ') ∧ fr Lbr σ σ' ∧ σ'.1 149 = S ∧ σ'.1 148 19 = (List.range' (j + 1) k).foldl (brF (bA n) S p) (brF (bA n) S p (σ.1 148 19) j) ∧ ∀ i, i ≠ 19 → σ'.1 148 i = σ.1 148 i := fun e => by
      rw [nI_1, e]
      exact ih (j + 1) f σ (by omega) (by omega) hs
    by_cases hm : mtP S p j
    · have h8 : ∀ q, q < 6 → hsN S q < 8 := fun q hq => by have : hsN S q ≤ 7 := (rgP g hq).2.1.1; omega
      rw [if_neg (bI_n0.mpr hm)]
      by_cases he : hsS S p = hsS S j
      · rw [if_pos he.symm, lx_eq]
        exact skip (if_neg (fun z => z.2.1 he))
      · have ep : (6 : Int32) + hsS S p = nI (6 + hsN S p) := by rw [show hsS S p = nI (hsN S p) from (rgP g hp).2.1.2]; exact n_add 6 _
        have ej : (6 : Int32) + hsS S j = nI (6 + hsN S j) := by rw [show hsS S j = nI (hsN S j) from (rgP g hj).2.1.2]; exact n_add 6 _
        rw [if_neg (fun z => he z.symm), ep, ej, gd_pos (ix_nI (by have := h8 p hp; omega) (by decide)), gd_pos (ix_nI (by have := h8 j hj; omega) (by decide)), nx_nI (by have := h8 p hp; omega), nx_nI (by have := h8 j hj; omega)]
        by_cases hw : S (6 + hsN S j) ≤ S (6 + hsN S p)
        · have hpj : p ≠ j := fun z => he (by rw [z])
          have eb : brF (bA n) S p (σ.1 148 19) j = σ.1 148 19 ||| bA n (swA S p j) p := if_pos ⟨hm, he, hw⟩
          have g1 : GD (swA S p j) := g.sw hp hj
          have p1 : ppN (swA S p j) = ppN S := congrArg nx swA_0
          obtain ⟨σ1, q1, q2, q3⟩ := m_swaps (σ := σ) hp hj
          rw [hs] at q2
          obtain ⟨σ2, r1, r2, r3, r4, r5⟩ := IH (swA S p j) σ1 g1 (by rw [p1]; exact hpn) q2
          obtain ⟨σ3, w1, w2, w3⟩ := m_swaps (σ := σ2) hp hj
          rw [r3, sw_sw hpj] at w2
          rw [if_neg (show ¬ S (6 + hsN S p) < S (6 + hsN S j) from Int32.not_lt.mpr hw), q1, bnd_some, nI_pred, r1, bnd_some, w1, bnd_some, lx_eq, nI_1, eb]
          obtain ⟨σ', t1, t2, t3, t4, t5⟩ := ih (j + 1) f σ3 (by omega) (by omega) w2
          refine ⟨σ', t1, (((q3.mono (fun c hc => Or.inr hc)).tr r2).tr (w3.mono (fun c hc => Or.inr hc))).tr t2, t3, ?_, fun i hi => by rw [t5 i hi, w3.at (by decide), r5 i hi, q3.at (by decide)]⟩
          rw [t4, w3.at (by decide), r4, q3.at (by decide)]
        · rw [if_pos (show S (6 + hsN S p) < S (6 + hsN S j) from Int32.not_le.mp hw), lx_eq]
          exact skip (if_neg (fun z => hw z.2.2))
    · rw [if_pos (bI_0.mpr hm), lx_eq]
      exact skip (if_neg (fun z => hm z.1))
theorem m_brt {p : Nat} : ∀ (n d : Nat) (S : Nat → Int32) (σ : SG), n < d → n < 100 → GD S → p < ppN S → σ.1 149 = S → ∃ σ', f_M_barters d (nI p) (nI n) σ = some ((), σ') ∧ fr Lbr σ σ' ∧ σ'.1 149 = S ∧ σ'.1 148 19 = σ.1 148 19 ||| bA n S p ∧ ∀ i, i ≠ 19 → σ'.1 148 i = σ.1 148 i := by
  intro n
  induction n with
  | zero =>
    intro d S σ hd hn g hpn hs
    obtain ⟨d, rfl⟩ : ∃ g, d = g + 1 := ⟨d - 1, by omega⟩
    have h6 : ppN S ≤ 6 := g.1.1
    have hp : p < 6 := by omega
    rw [f_M_barters, f_M_barters_S, m_its1 hp, bnd_some, sx_eq, hs, show FU = 1999 + 1 from rfl, f_M_barters_S_22, bA]
    refine ⟨uI σ 148 19 (σ.1 148 19 ||| (1 : Int32) <<< (hsS S p &&& 31)), ?_, fr.uI (Or.inl rfl), by rw [uIc (by decide)]; exact hs, uI_same, fun i hi => uI_i hi⟩
    by_cases h0 : (uI σ 148 19 (σ.1 148 19 ||| (1 : Int32) <<< (hsS S p &&& 31))).1 149 0 ≤ 0
    · rw [if_pos h0]
    · rw [if_neg h0, if_pos (by decide)]
  | succ n ih =>
    intro d S σ hd hn g hpn hs
    obtain ⟨d, rfl⟩ : ∃ g, d = g + 1 := ⟨d - 1, by omega⟩
    have h6 : ppN S ≤ 6 := g.1.1
    have hp : p < 6 := by omega
    rw [f_M_barters, f_M_barters_S, m_its1 hp, bnd_some, sx_eq, hs]
    obtain ⟨σ', q1, q2, q3, q4, q5⟩ := m_brt_l g hpn (by omega) (fun S σ h1 h2 h3 => ih d S σ (by omega) (by omega) h1 h2 h3) (ppN S) 0 FU (uI σ 148 19 (σ.1 148 19 ||| (1 : Int32) <<< (hsS S p &&& 31))) (Nat.zero_add _) (by rw [FU_eq]; omega) (by rw [uIc (by decide)]; exact hs)
    refine ⟨σ', q1, (fr.uI (Or.inl rfl)).tr q2, q3, ?_, fun i hi => by rw [q5 i hi, uI_i hi]⟩
    rw [q4, uI_same, or_foldb, ← bA_S]
/-! comes -/
abbrev brO (S : Nat → Int32) (x y : Int32) : Prop := isP S x ∧ 0 ≤ y ∧ y ≤ 4
def cmsA (S : Nat → Int32) (x y : Int32) : Int32 := if isP S x then (if 0 ≤ y ∧ y ≤ 4 then bA (nx y) S (nx x) else -1) else -1
theorem cq_comes {σ : SG} {S : Nat → Int32} {R : List RU} (g : GD S) (hT : TWR 20 σ S nob) (hR : RLt 20 σ R) (x y : Int32) : ∃ σ', f_H_comes x y σ = some (cmsA S x y, σ') ∧ fr (fun c => 90 ≤ c ∧ c ≤ 104) σ σ' := by
  unfold f_H_comes cmsA
  rw [b_isPerson, hT.1, bnd_some]
  by_cases hx : isP S x
  · obtain ⟨p, hp, hpn, rfl⟩ := isP_in g.1 hx
    rw [if_neg (bI_n0.mpr hx), if_pos hx, b_isIn, bnd_some]
    by_cases hy : 0 ≤ y ∧ y ≤ 4
    · obtain ⟨n, hn, rfl⟩ := n_sp (b := 4) (by decide) hy.1 hy.2
      obtain ⟨σ', q1, q2⟩ := c_bartered g hT hR hpn hn
      rw [if_neg (bI_n0.mpr hy), if_pos hy, q1, bnd_some, nx_nI (k := p) (by omega), nx_nI (by omega)]
      exact ⟨σ', rfl, q2⟩
    · rw [if_pos (bI_0.mpr hy), if_neg hy]
      exact ⟨σ, rfl, fr.rf⟩
  · rw [if_pos (bI_0.mpr hx), if_neg hx]
    exact ⟨σ, rfl, fr.rf⟩
theorem m_isBarter {σ : SG} (g : rg (σ.1 149 0) 6) (x y : Int32) : f_M_isBarter x y σ = some (bI (brO (σ.1 149) x y), σ) := by
  unfold f_M_isBarter
  rw [m_isPerson g, bnd_some]
  by_cases hx : isP (σ.1 149) x
  · rw [if_neg (bI_n0.mpr hx), m_in32 (a := 0) (b := 4) (by decide) (by decide), bnd_some]
    by_cases hy : 0 ≤ y ∧ y ≤ 4
    · rw [if_neg (bI_n0.mpr hy), bI_pos ⟨hx, hy⟩]
    · rw [if_pos (bI_0.mpr hy), bI_neg (fun w => hy w.2)]
  · rw [if_pos (bI_0.mpr hx), bI_neg (fun w => hx w.1)]
theorem mq_comes {σ : SG} (g : GD (σ.1 149)) (x y : Int32) : ∃ σ', f_M_comes x y σ = some (cmsA (σ.1 149) x y, σ') ∧ fr Lbr σ σ' ∧ σ'.1 149 = σ.1 149 ∧ ∀ i, i ≠ 19 → σ'.1 148 i = σ.1 148 i := by
  unfold f_M_comes cmsA
  rw [m_isBarter g.1, bnd_some]
  by_cases hb : brO (σ.1 149) x y
  · obtain ⟨p, hp, hpn, rfl⟩ := isP_in g.1 hb.1
    have hy := hb.2
    obtain ⟨n, hn, rfl⟩ := n_sp (b := 4) (by decide) hy.1 hy.2
    obtain ⟨σ', q1, q2, q3, q4, q5⟩ := m_brt n DP (σ.1 149) (uI σ 148 19 (0 : Int32)) (by show n < 12; omega) (by omega) g hpn (uIc (by decide))
    rw [if_pos (bI_n0.mpr hb), if_pos hb.1, if_pos hb.2, sx_eq, q1, bnd_some, q4, uI_same, nx_nI (k := p) (by omega), nx_nI (by omega), Int32.zero_or]
    exact ⟨σ', rfl, (fr.uI (Or.inl rfl)).tr q2, q3, fun i hi => by rw [q5 i hi, uI_i hi]⟩
  · rw [if_neg (fun w => w (bI_0.mpr hb))]
    by_cases hx : isP (σ.1 149) x
    · rw [if_pos hx, if_neg (fun w => hb ⟨hx, w⟩)]
      exact ⟨σ, rfl, fr.rf, rfl, fun _ _ => rfl⟩
    · rw [if_neg hx]
      exact ⟨σ, rfl, fr.rf, rfl, fun _ _ => rfl⟩
/-! dearest -/
/-- that of most WORTH, of several the least -/
def drO (S : Nat → Int32) (X : Int32) (t0 t1 b : Nat) : Prop := ∀ t, t0 ≤ t → t < t1 → bt X t = true → S (6 + t) ≤ S (6 + b) ∧ (S (6 + t) = S (6 + b) → b ≤ t)
theorem drO_uniq {S : Nat → Int32} {X : Int32} {a b : Nat} (ha8 : a < 8) (hb8 : b < 8) (ha : bt X a = true) (hb : bt X b = true) (h1 : drO S X 0 8 a) (h2 : drO S X 0 8 b) : a = b := by
  obtain ⟨x1, x2⟩ := h1 b (Nat.zero_le _) hb8 hb
  obtain ⟨y1, y2⟩ := h2 a (Nat.zero_le _) ha8 ha
  have e := Int32.le_antisymm x1 y1
  have := x2 e
  have := y2 e.symm
  omega
theorem c_dear_l {σ : SG} {S : Nat → Int32} {X : Int32} (hw : ∀ i, i < 8 → σ.1 33 i = S (6 + i)) : ∀ (t f b : Nat), t ≤ 8 → t < f → b < 8 → bt X b = true → drO S X t 8 b → ∃ r, f_H_dearest_51 f X (nI b) (nI t - 1) σ = some (nI r, σ) ∧ r < 8 ∧ bt X r = true ∧ drO S X 0 8 r := by
  intro t
  induction t with
  | zero =>
    intro f b ht hf hb hbt hd
    obtain ⟨f, rfl⟩ : ∃ g, f = g + 1 := ⟨f - 1, by omega⟩
    rw [f_H_dearest_51, if_pos (show nI 0 - 1 < (0 : Int32) by decide)]
    exact ⟨b, rfl, hb, hbt, hd⟩
  | succ t ih =>
    intro f b ht hf hb hbt hd
    obtain ⟨f, rfl⟩ : ∃ g, f = g + 1 := ⟨f - 1, by omega⟩
    have ht8 : t < 8 := by omega
    have em : nI t + (-1 : Int32) = nI t - 1 := by rw [Int32.sub_eq_add_neg]
    rw [f_H_dearest_51, nI_pred, if_neg (nI_pos (by omega))]
    by_cases hs : bt X t = true
    · rw [if_neg (fun z => z ((sb_bt (by omega)).mpr hs)), gd_pos (ix_nI ht8 (by decide)), gd_pos (ix_nI hb (by decide)), nx_nI (by omega), nx_nI (by omega), hw t ht8, hw b hb]
      by_cases hlt : S (6 + t) < S (6 + b)
      · rw [if_pos hlt, lx_eq, em]
        refine ih f b (by omega) (by omega) hb hbt (fun u u0 u8 hu => ?_)
        by_cases e : u = t
        · rw [e]
          exact ⟨Int32.le_of_lt hlt, fun z => absurd z (Int32.ne_of_lt hlt)⟩
        · exact hd u (by omega) u8 hu
      · rw [if_neg hlt, lx_eq, em]
        have hge := Int32.not_lt.mp hlt
        refine ih f t (by omega) (by omega) ht8 hs (fun u u0 u8 hu => ?_)
        by_cases e : u = t
        · rw [e]
          exact ⟨Int32.le_refl _, fun _ => Nat.le_refl _⟩
        · exact ⟨Int32.le_trans (hd u (by omega) u8 hu).1 hge, fun _ => u0⟩
    · rw [if_pos (fun z => hs ((sb_bt (by omega)).mp z)), lx_eq, em]
      refine ih f b (by omega) (by omega) hb hbt (fun u u0 u8 hu => ?_)
      by_cases e : u = t
      · rw [e] at hu
        exact absurd hu hs
      · exact hd u (by omega) u8 hu
theorem m_dear_l {σ : SG} {S : Nat → Int32} {X : Int32} (hs1 : σ.1 149 = S) (hX : σ.1 148 19 = X) : ∀ (d t f : Nat) (v : Int32), t + d = 8 → d < f → ((v = -1 ∧ ∀ u, u < t → ¬ bt X u = true) ∨ ∃ b, v = nI b ∧ b < t ∧ bt X b = true ∧ drO S X 0 t b) → (∃ h, h < 8 ∧ bt X h = true) → ∃ r, f_M_dearest_27 f v (nI t) σ = some (nI r, σ) ∧ r < 8 ∧ bt X r = true ∧ drO S X 0 8 r := by
  intro d
  induction d with
  | zero =>
    intro t f v hk hf hv hh
    obtain ⟨f, rfl⟩ : ∃ g, f = g + 1 := ⟨f - 1, by omega⟩
    have e : t = 8 := by omega
    subst e
    rw [f_M_dearest_27, if_pos (by decide)]
    rcases hv with ⟨-, w⟩ | ⟨b, rfl, hb, hbt, hd⟩
    · obtain ⟨h, h8, hb⟩ := hh
      exact absurd hb (w h h8)
    · exact ⟨b, rfl, hb, hbt, hd⟩
  | succ d ih =>
    intro t f v hk hf hv hh
    obtain ⟨f, rfl⟩ : ∃ g, f = g + 1 := ⟨f - 1, by omega⟩
    have ht : t < 8 := by omega
    rw [f_M_dearest_27, if_neg (show ¬ (8 : Int32) ≤ nI t from nI_ge ht (by decide)), hX]
    by_cases hs : bt X t = true
    · rw [if_neg (fun z => z ((sb_bt (by omega)).mpr hs))]
      rcases hv with ⟨w, w2⟩ | ⟨b, rfl, hb, hbt, hd⟩
      · rw [w, if_pos (by decide), lx_eq, nI_1]
        refine ih (t + 1) f (nI t) (by omega) (by omega) (Or.inr ⟨t, rfl, by omega, hs, fun u u0 u1 hu => ?_⟩) hh
        by_cases e : u = t
        · rw [e]
          exact ⟨Int32.le_refl _, fun _ => Nat.le_refl _⟩
        · exact absurd hu (w2 u (by omega))
      · rw [if_neg (nI_pos (by omega)), show (6 : Int32) = nI 6 from rfl, n_add, n_add, gd_pos (ix_nI (by omega) (by decide)), gd_pos (ix_nI (by omega) (by decide)), nx_nI (by omega), nx_nI (by omega), hs1]
        by_cases hle : S (6 + t) ≤ S (6 + b)
        · rw [if_pos hle, lx_eq, nI_1]
          refine ih (t + 1) f (nI b) (by omega) (by omega) (Or.inr ⟨b, rfl, by omega, hbt, fun u u0 u1 hu => ?_⟩) hh
          by_cases e : u = t
          · rw [e]
            exact ⟨hle, fun _ => by omega⟩
          · exact hd u u0 (by omega) hu
        · rw [if_neg hle, lx_eq, nI_1]
          have hlt := Int32.not_le.mp hle
          refine ih (t + 1) f (nI t) (by omega) (by omega) (Or.inr ⟨t, rfl, by omega, hs, fun u u0 u1 hu => ?_⟩) hh
          by_cases e : u = t
          · rw [e]
            exact ⟨Int32.le_refl _, fun _ => Nat.le_refl _⟩
          · have q := Int32.lt_of_le_of_lt (hd u u0 (by omega) hu).1 hlt
            exact ⟨Int32.le_of_lt q, fun z => absurd z (Int32.ne_of_lt q)⟩
    · rw [if_pos (fun z => hs ((sb_bt (by omega)).mp z)), lx_eq, nI_1]
      refine ih (t + 1) f v (by omega) (by omega) ?_ hh
      rcases hv with ⟨w, w2⟩ | ⟨b, hb0, hb, hbt, hd⟩
      · refine Or.inl ⟨w, fun u hu => ?_⟩
        by_cases e : u = t
        · rw [e]; exact hs
        · exact w2 u (by omega)
      · refine Or.inr ⟨b, hb0, by omega, hbt, fun u u0 u1 hu => ?_⟩
        by_cases e : u = t
        · rw [e] at hu; exact absurd hu hs
        · exact hd u u0 (by omega) hu
/-- both answer the same thing -/
theorem q_dearest {σ τ : SG} {S : Nat → Int32} {R : List RU} (g : GD S) (hT : TWR 20 σ S nob) (hR : RLt 20 σ R) (hs : τ.1 149 = S) (x y : Int32) : ∃ v σ' τ', f_H_dearest x y σ = some (v, σ') ∧ f_M_dearest x y τ = some (v, τ') ∧ fr (fun c => 90 ≤ c ∧ c ≤ 104) σ σ' ∧ fr Lbr τ τ' ∧ τ'.1 149 = S ∧ ∀ i, i ≠ 19 → τ'.1 148 i = τ.1 148 i := by
  unfold f_H_dearest f_M_dearest
  rw [b_isPerson, hT.1, bnd_some, m_isBarter (by rw [hs]; exact g.1), bnd_some, hs]
  by_cases hx : isP S x
  · obtain ⟨p, hp, hpn, rfl⟩ := isP_in g.1 hx
    rw [if_neg (bI_n0.mpr hx), b_isIn, bnd_some]
    by_cases hy : 0 ≤ y ∧ y ≤ 4
    · obtain ⟨n, hn, rfl⟩ := n_sp (b := 4) (by decide) hy.1 hy.2
      obtain ⟨σ1, q1, q2⟩ := c_bartered g hT hR hpn hn
      obtain ⟨τ1, r1, r2, r3, r4, r5⟩ := m_brt n DP S (uI τ 148 19 (0 : Int32)) (by show n < 12; omega) (by omega) g hpn (by rw [uIc (by decide)]; exact hs)
      have h8 : hsN S p < 8 := by have : hsN S p ≤ 7 := (rgP g hp).2.1.1; omega
      have hbt := bA_has g hp n
      have e29 : σ1.1 29 p = nI (hsN S p) := by
        rw [q2.at (by decide)]
        exact ((hT.2.2.2.2.1 p hp).2.1).trans (rgP g hp).2.1.2
      obtain ⟨a, a1, a2, a3, a4⟩ := c_dear_l (σ := σ1) (S := S) (X := bA n S p) (fun i hi => by rw [q2.at (by decide)]; exact (hT.2.2.2.2.2 i hi).1) 8 FU (hsN S p) (Nat.le_refl _) (by rw [FU_eq]; omega) h8 hbt (fun t t0 t1 => by omega)
      have a1 : f_H_dearest_51 FU (bA n S p) (nI (hsN S p)) (7 : Int32) σ1 = _ := a1
      rw [uI_same, Int32.zero_or] at r4
      obtain ⟨b, b1, b2, b3, b4⟩ := m_dear_l (σ := τ1) r3 r4 8 0 FU (-1) (Nat.zero_add _) (by rw [FU_eq]; omega) (Or.inl ⟨rfl, fun u hu => absurd hu (Nat.not_lt_zero _)⟩) ⟨_, h8, hbt⟩
      have b1 : f_M_dearest_27 FU (-1 : Int32) (0 : Int32) τ1 = _ := b1
      rw [if_pos (bI_n0.mpr hy), q1, bnd_some, gd_pos (ix_nI hp (by decide)), nx_nI (k := p) (by omega), e29, lx_eq, a1, if_pos (bI_n0.mpr (show brO S (nI p) (nI n) from ⟨hx, hy⟩)), sx_eq, r1, bnd_some, b1, drO_uniq a2 b2 a3 b3 a4 b4]
      exact ⟨_, σ1, τ1, rfl, rfl, q2, (fr.uI (Or.inl rfl)).tr r2, r3, fun i hi => by rw [r5 i hi, uI_i hi]⟩
    · rw [if_neg (fun w => w (bI_0.mpr hy)), if_neg (fun w => w (bI_0.mpr (show ¬ brO S (nI p) y from fun z => hy z.2)))]
      exact ⟨_, σ, τ, rfl, rfl, fr.rf, fr.rf, hs, fun _ _ => rfl⟩
  · rw [if_pos (bI_0.mpr hx), if_neg (fun w => w (bI_0.mpr (show ¬ brO S x y from fun z => hx z.1)))]
    exact ⟨_, σ, τ, rfl, rfl, fr.rf, fr.rf, hs, fun _ _ => rfl⟩
