/-! items as CHANGES: makeAll, wouldCost, both sides -/
theorem i_addk {i : Int32} {k : Nat} (hk : k < 1000) : (i + nI k).toInt = if i.toInt + k < 2147483648 then i.toInt + k else i.toInt + k - 4294967296 := by
  have h1 := Int32.le_toInt i
  have h2 := Int32.toInt_lt i
  rw [Int32.toInt_add, nI_toInt (by omega)]
  by_cases h : i.toInt + k < 2147483648
  · rw [if_pos h, Int.bmod_eq_of_le (by omega) (by omega)]
  · rw [if_neg h]
    show Int.bmod _ 4294967296 = _
    rw [Int.bmod_def]
    by_cases h3 : (i.toInt + (k : Int)) % ((4294967296 : Nat) : Int) < (((4294967296 : Nat) : Int) + 1) / 2
    · rw [if_pos h3]; omega
    · rw [if_neg h3]; omega
theorem m_isItem {σ : SG} {H : HO} {s k : Nat} (h : HM σ H) (hs : s < 4) (hr : rg (H 1 s) 40) (hk : k < 1000) (i : Int32) : f_M_isItem (nI s) (i.toInt64 + (nI k).toInt64) σ = some (bI (plc H s (i + nI k)), σ) := by
  unfold f_M_isItem
  have h1 := Int32.le_toInt i
  have h2 := Int32.toInt_lt i
  have n40 := hr.1
  have en : (H 1 s).toInt = (nx (H 1 s) : Int) := hr.toInt (by decide)
  have e1 : (H 1 s - 1).toInt = (nx (H 1 s) : Int) - 1 := by
    rw [hr.2, nx_nI (by omega)]
    generalize nx (H 1 s) = n at *
    cases n with
    | zero => decide
    | succ n =>
      rw [nI_pred, nI_toInt (by omega)]
      omega
  have eA : (i.toInt64 + (nI k).toInt64).toInt = i.toInt + k := by
    rw [Int64.toInt_add, Int32.toInt_toInt64, Int32.toInt_toInt64, nI_toInt (by omega), Int.bmod_eq_of_le (by omega) (by omega)]
  have eB : ((H 1 s - (1 : Int32)).toInt64).toInt = (nx (H 1 s) : Int) - 1 := by rw [Int32.toInt_toInt64, e1]
  have iff : (0 ≤ i.toInt64 + (nI k).toInt64 ∧ i.toInt64 + (nI k).toInt64 ≤ (H 1 s - (1 : Int32)).toInt64) ↔ plc H s (i + nI k) := by
    have e0 : (0 : Int64).toInt = 0 := rfl
    have e00 : (0 : Int32).toInt = 0 := rfl
    show _ ↔ (0 ≤ i + nI k ∧ i + nI k < H 1 s)
    rw [Int64.le_iff_toInt_le, Int64.le_iff_toInt_le, eA, eB, e0, i_le, i_lt, e00, i_addk hk, en]
    by_cases h3 : i.toInt + (k : Int) < 2147483648
    · rw [if_pos h3]; omega
    · rw [if_neg h3]; omega
  rw [gd_pos (ix_nI hs (by decide)), nx_nI (by omega), show σ.1 161 = H 1 from h 1 (by decide), m_in, bnd_some, bI_iff iff, gd01]
theorem can_in {S : Nat → Int32} {R : List RU} {v : Int32} (g : GD S) (h : CAN S R nob v) : ∃ c, c < 60 ∧ v = nI c ∧ canC S R nob c := by
  obtain ⟨n, hn, rfl⟩ := n_of0 h.1
  have h2 := h.2
  rw [nx_nI hn] at h2
  have h2 : canC S R nob n := h2
  exact ⟨n, (num_in g.1.1 (canC_num h2)).2.2, rfl, h2⟩
theorem m_onTurn {σ : SG} {H : HO} {R : List RU} {s j : Nat} (h : HM σ H) (hs : s < 4) (hj : j < 40) (hg : GD (σ.1 149)) (hR : RMt (σ.1 149) R) (h4 : σ.1 148 4 = -1) : ∃ σ', f_M_isOnTurn (nI s) (nI j) σ = some (bI (CAN (σ.1 149) R nob (H 2 (40 * s + j))), σ') ∧ fr (fun c => c = 152) σ σ' := by
  unfold f_M_isOnTurn
  rw [show (40 : Int32) = nI 40 from rfl, n_mul, n_add, gd_pos (ix_nI (by omega) (by decide)), nx_nI (by omega), show σ.1 162 = H 2 from h 2 (by decide), lx_eq, m_isNumber hg.1, bnd_some]
  generalize H 2 (40 * s + j) = v
  by_cases hnum : NUM (σ.1 149) v
  · obtain ⟨n, hn, en⟩ := n_of0 hnum.1
    have hnum2 : numP (σ.1 149) (n / 10) (n % 10) := by
      have := hnum.2
      rw [en, nx_nI hn] at this
      exact this
    obtain ⟨σ1, q1, q2⟩ := m_canBe (k := n) (σ := σ) (o := nob) (R := R) hn hg (abs_nob h4).1 hR hnum2
    have hcc : CAN (σ.1 149) R nob v ↔ canP (σ.1 149) R nob (n / 10) (n % 10) := by
      rw [en]
      show (0 ≤ nI n ∧ canP (σ.1 149) R nob (nx (nI n) / 10) (nx (nI n) % 10)) ↔ _
      rw [nx_nI hn]
      exact ⟨fun z => z.2, fun z => ⟨nI_pos' hn, z⟩⟩
    rw [← en] at q1
    rw [if_neg (bI_n0.mpr hnum), q1, bnd_some, bI_iff hcc]
    by_cases hcan : canP (σ.1 149) R nob (n / 10) (n % 10)
    · rw [if_neg (bI_n0.mpr hcan), bI_pos hcan]
      exact ⟨σ1, rfl, q2⟩
    · rw [if_pos (bI_0.mpr hcan), bI_neg hcan]
      exact ⟨σ1, rfl, q2⟩
  · rw [if_pos (bI_0.mpr hnum), bI_neg (fun z => hnum ⟨z.1, canC_num (c := nx v) z.2⟩)]
    exact ⟨σ, rfl, fr.rf⟩
abbrev itV (H : HO) (s : Nat) (i : Int32) (k : Nat) : Int32 := H 2 (40 * s + nx (i + nI k))
def mall (R : List RU) (H : HO) (s : Nat) (i : Int32) : Nat → Nat → (Nat → Int32) → Nat → Int32 × (Nat → Int32)
  | 0, _, S, c => (nI c, S)
  | d + 1, k, S, c => if plc H s (i + nI k) then (if CAN S R nob (itV H s i k) then mall R H s i d (k + 1) (enA S R (nx (itV H s i k))) (c + 1) else mall R H s i d (k + 1) S c) else (-12, S)
theorem mall_ok {R : List RU} {H : HO} {s : Nat} {i : Int32} : ∀ (d k c : Nat) (S : Nat → Int32), SOK S → RMt S R → SOK (mall R H s i d k S c).2 ∧ RMt (mall R H s i d k S c).2 R := by
  intro d
  induction d with
  | zero => intro k c S h hR; exact ⟨h, hR⟩
  | succ d ih =>
    intro k c S h hR
    rw [mall]
    by_cases hp : plc H s (i + nI k)
    · rw [if_pos hp]
      by_cases hcan : CAN S R nob (itV H s i k)
      · obtain ⟨c0, h60, e, hc⟩ := can_in h.1 hcan
        rw [if_pos hcan, e, nx_nI (by omega)]
        exact ih _ _ _ (h.en hc h60) (enA_rm hR h.1 hc)
      · rw [if_neg hcan]
        exact ih _ _ _ h hR
    · rw [if_neg hp]
      exact ⟨h, hR⟩
theorem LGt.keep {t : Nat} {σ σ' : SG} {S : Nat → Int32} (h : LGt t σ S) (ht : σ'.1 t = σ.1 t) (hc : ∀ c, t + 16 ≤ c → c ≤ t + 27 → σ'.1 c = σ.1 c) : LGt t σ' S := by
  obtain ⟨l1, l2, l3, l4⟩ := h
  refine ⟨l1, by rw [ht]; exact l2, by rw [ht]; exact l3, fun i hi => ?_⟩
  rw [hc _ (by omega) (by have := l1.1; omega)]
  exact l4 i hi
theorem c_mall {R : List RU} {H : HO} {s n : Nat} {i : Int32} (hs : s < 4) (hn : n ≤ 20) : ∀ (d k f c : Nat) (S : Nat → Int32) (σ : SG), k + d = n → d < f → SOK S → TWR 20 σ S nob → RLt 20 σ R → LGt 20 σ S → HC σ H → ∃ σ', f_H_makeAll_44 f (nI s) i (nI n) (nI c) (nI k) σ = some ((mall R H s i d k S c).1, σ') ∧ TWR 20 σ' (mall R H s i d k S c).2 nob ∧ LGt 20 σ' (mall R H s i d k S c).2 ∧ fr (Len 20) σ σ' ∧ ∀ j, j ≠ 8 → j ≠ 14 → σ'.1 20 j = σ.1 20 j := by
  intro d
  induction d with
  | zero =>
    intro k f c S σ hk hf h hT hR hL hC
    obtain ⟨f, rfl⟩ : ∃ g, f = g + 1 := ⟨f - 1, by omega⟩
    have e : k = n := hk
    rw [f_H_makeAll_44, e, if_pos (Int32.le_refl _)]
    exact ⟨σ, rfl, hT, hL, fr.rf, fun _ _ _ => rfl⟩
  | succ d ih =>
    intro k f c S σ hk hf h hT hR hL hC
    obtain ⟨f, rfl⟩ : ∃ g, f = g + 1 := ⟨f - 1, by omega⟩
    obtain ⟨-, -, -, hr, e5, -⟩ := hC s hs
    rw [f_H_makeAll_44, if_neg (nI_ge (show k < n by omega) (by omega)), b_isPlace hC hs, bnd_some, mall]
    by_cases hp : plc H s (i + nI k)
    · obtain ⟨j, hj, ej⟩ := plc_in hr hp
      have ev : itV H s i k = H 2 (40 * s + j) := by
        show H 2 (40 * s + nx (i + nI k)) = _
        rw [ej, nx_nI (by omega)]
      rw [if_pos (bI_n0.mpr hp), if_pos hp, ej, gd_pos (ix_nI hs (by decide)), gd_pos (ix_nI hj (by decide)), nx_nI (by omega), nx_nI (by omega), e5 j hj, ← ev, lx_eq]
      obtain ⟨σ1, q1, q2⟩ := b_canBe (t := 20) (c := itV H s i k) hT h.1 hR
      have T1 := hT.cong (fun c c1 c2 c3 => q2.1 c c3)
      have R1 := hR.cong (fun c c1 c2 => q2.1 c (by omega))
      have L1 : LGt 20 σ1 S := hL.keep (q2.1 _ (by decide)) (fun c c1 c2 => q2.1 c (by omega))
      have C1 : HC σ1 H := hC.keep (fun c c1 c2 => q2.1 c (by omega))
      rw [q1, bnd_some]
      by_cases hcan : CAN S R nob (itV H s i k)
      · obtain ⟨c0, h60, e, hc⟩ := can_in h.1 hcan
        obtain ⟨σ2, r1, r2, r3, r4, r5⟩ := b_enter T1 h.1 R1 L1 hc h60
        rw [← e] at r1
        rw [if_neg (bI_n0.mpr hcan), if_pos hcan, r1, bnd_some, lx_eq, lx_eq, nI_1, nI_1, e, nx_nI (by omega)]
        obtain ⟨σ3, w1, w2, w3, w4, w5⟩ := ih (k + 1) f (c + 1) (enA S R c0) σ2 (by omega) (by omega) (h.en hc h60) r3 (R1.cong (fun c c1 c2 => r2.1 c (by omega))) r4 (C1.keep (fun c c1 c2 => r2.1 c (by omega)))
        exact ⟨σ3, w1, w2, w3, ((q2.mono (fun q hq => by omega)).tr r2).tr w4, fun j h8 h14 => by rw [w5 j h8 h14, r5 j h8 h14, q2.at (by decide)]⟩
      · rw [if_pos (bI_0.mpr hcan), if_neg hcan, lx_eq, nI_1]
        obtain ⟨σ3, w1, w2, w3, w4, w5⟩ := ih (k + 1) f c S σ1 (by omega) (by omega) h T1 R1 L1 C1
        exact ⟨σ3, w1, w2, w3, (q2.mono (fun q hq => by omega)).tr w4, fun j h8 h14 => by rw [w5 j h8 h14, q2.at (by decide)]⟩
    · rw [if_neg (fun z => z (bI_0.mpr hp)), if_neg hp]
      exact ⟨σ, rfl, hT, hL, fr.rf, fun _ _ _ => rfl⟩
abbrev spn (x z : Int32) : Prop := sh4 x ∧ 0 ≤ z ∧ z ≤ 20
def malA (S : Nat → Int32) (R : List RU) (H : HO) (x i z : Int32) : Int32 := if sh4 x then (if 0 ≤ z ∧ z ≤ 20 then (if rfA H (nx x) 0 = 0 then (mall R H (nx x) i (nx z) 0 S 0).1 else rfA H (nx x) 0) else -1) else -1
def malN (S : Nat → Int32) (R : List RU) (H : HO) (x i z : Int32) : Nat → Int32 := if sh4 x then (if 0 ≤ z ∧ z ≤ 20 then (if rfA H (nx x) 0 = 0 then (mall R H (nx x) i (nx z) 0 S 0).2 else S) else S) else S
theorem malN_ok {S : Nat → Int32} {R : List RU} {H : HO} {x i z : Int32} (h : SOK S) (hR : RMt S R) : SOK (malN S R H x i z) ∧ RMt (malN S R H x i z) R := by
  unfold malN
  by_cases hx : sh4 x
  · rw [if_pos hx]
    by_cases hz : 0 ≤ z ∧ z ≤ 20
    · rw [if_pos hz]
      by_cases hf : rfA H (nx x) 0 = 0
      · rw [if_pos hf]
        exact mall_ok _ _ _ _ h hR
      · rw [if_neg hf]; exact ⟨h, hR⟩
    · rw [if_neg hz]; exact ⟨h, hR⟩
  · rw [if_neg hx]; exact ⟨h, hR⟩
theorem cq_makeAll {σ : SG} {S : Nat → Int32} {R : List RU} {H : HO} (h : SOK S) (hT : TWR 20 σ S nob) (hR : RLt 20 σ R) (hL : LGt 20 σ S) (hC : HC σ H) (x i z : Int32) : ∃ σ', f_H_makeAll x i z σ = some (malA S R H x i z, σ') ∧ TWR 20 σ' (malN S R H x i z) nob ∧ LGt 20 σ' (malN S R H x i z) ∧ fr (Len 20) σ σ' ∧ ∀ j, j ≠ 8 → j ≠ 14 → σ'.1 20 j = σ.1 20 j := by
  unfold f_H_makeAll malA malN
  rw [b_isSheet, bnd_some]
  by_cases hx : sh4 x
  · obtain ⟨s, hs, rfl⟩ := sh_in hx
    rw [if_neg (bI_n0.mpr hx), if_pos hx, if_pos hx, b_isIn, bnd_some, nx_nI (k := s) (by omega)]
    by_cases hz : 0 ≤ z ∧ z ≤ 20
    · obtain ⟨n, hn, rfl⟩ := n_sp (b := 20) (by decide) hz.1 hz.2
      rw [if_pos (bI_n0.mpr hz), if_pos hz, if_pos hz, b_refusal hC hs, bnd_some, nx_nI (by omega)]
      by_cases hf : rfA H s 0 = 0
      · rw [if_pos hf, if_pos hf, if_pos hf]
        exact c_mall hs hn n 0 FU 0 S σ (by omega) (by rw [FU_eq]; omega) h hT hR hL hC
      · rw [if_neg hf, if_neg hf, if_neg hf]
        exact ⟨σ, rfl, hT, hL, fr.rf, fun _ _ _ => rfl⟩
    · rw [if_neg (fun w => w (bI_0.mpr hz)), if_neg hz, if_neg hz]
      exact ⟨σ, rfl, hT, hL, fr.rf, fun _ _ _ => rfl⟩
  · rw [if_pos (bI_0.mpr hx), if_neg hx, if_neg hx]
    exact ⟨σ, rfl, hT, hL, fr.rf, fun _ _ _ => rfl⟩
theorem ix_40 {s j : Nat} {i k : Int32} (ej : i + k = nI j) : (40 : Int32) * nI s + i + k = nI (40 * s + j) := by
  rw [Int32.add_assoc, ej, show (40 : Int32) = nI 40 from rfl, n_mul, n_add]
theorem m_mall {R : List RU} {H : HO} {s n : Nat} {i : Int32} (hs : s < 4) (hr : rg (H 1 s) 40) (hn : n ≤ 20) : ∀ (d k f c : Nat) (S : Nat → Int32) (σ : SG), k + d = n → d < f → SOK S → RMt S R → σ.1 149 = S → σ.1 148 4 = -1 → HM σ H → ∃ σ', f_M_makeAll_33 f (nI s) i (nI n) (nI c) (nI k) σ = some ((mall R H s i d k S c).1, σ') ∧ σ'.1 149 = (mall R H s i d k S c).2 ∧ fr L3 σ σ' ∧ ∀ j, j ≠ 6 → j ≠ 7 → σ'.1 148 j = σ.1 148 j := by
  intro d
  induction d with
  | zero =>
    intro k f c S σ hk hf h hR hs1 h4 hM
    obtain ⟨f, rfl⟩ : ∃ g, f = g + 1 := ⟨f - 1, by omega⟩
    have e : k = n := hk
    rw [f_M_makeAll_33, e, if_pos (Int32.le_refl _)]
    exact ⟨σ, rfl, hs1, fr.rf, fun _ _ _ => rfl⟩
  | succ d ih =>
    intro k f c S σ hk hf h hR hs1 h4 hM
    obtain ⟨f, rfl⟩ : ∃ g, f = g + 1 := ⟨f - 1, by omega⟩
    rw [f_M_makeAll_33, if_neg (nI_ge (show k < n by omega) (by omega)), m_isItem hM hs hr (by omega), bnd_some, mall]
    by_cases hp : plc H s (i + nI k)
    · obtain ⟨j, hj, ej⟩ := plc_in hr hp
      have ev : itV H s i k = H 2 (40 * s + j) := by
        show H 2 (40 * s + nx (i + nI k)) = _
        rw [ej, nx_nI (by omega)]
      obtain ⟨σ1, q1, q2⟩ := m_onTurn (R := R) hM hs hj (by rw [hs1]; exact h.1) (by rw [hs1]; exact hR) h4
      rw [hs1, ← ev] at q1
      have s1 : σ1.1 149 = S := (q2.1 _ (by decide)).trans hs1
      have M1 : HM σ1 H := hM.keep (fun c c1 c2 => q2.1 c (by omega))
      have a1 : σ1.1 148 4 = -1 := by rw [q2.at (by decide)]; exact h4
      rw [if_pos (bI_n0.mpr hp), if_pos hp, ix_40 ej, ej, q1, bnd_some]
      by_cases hcan : CAN S R nob (itV H s i k)
      · obtain ⟨c0, h60, e, hc⟩ := can_in h.1 hcan
        obtain ⟨σ2, r1, r2, -, r4, r5⟩ := m_makes (σ := σ1) (R := R) h60 (by rw [s1]; exact h.1) a1 (by rw [s1]; exact hR) (by rw [s1]; exact h.2.2.2.1) (by rw [s1]; exact hc)
        rw [s1] at r2
        rw [← e] at r1
        rw [if_neg (bI_n0.mpr hcan), if_pos hcan, gd_pos (ix_nI (by omega) (by decide)), nx_nI (by omega), show σ1.1 162 = H 2 from M1 2 (by decide), ← ev, r1, bnd_some, lx_eq, lx_eq, nI_1, nI_1, e, nx_nI (by omega)]
        obtain ⟨σ3, w1, w2, w3, w4⟩ := ih (k + 1) f (c + 1) (enA S R c0) σ2 (by omega) (by omega) (h.en hc h60) (enA_rm hR h.1 hc) r2 (by rw [r5 4 (by decide) (by decide)]; exact a1) (M1.keep (fun c c1 c2 => r4.1 c (by omega)))
        exact ⟨σ3, w1, w2, ((q2.mono (fun q hq => Or.inr (Or.inr hq))).tr r4).tr w3, fun j h6 h7 => by rw [w4 j h6 h7, r5 j h6 h7, q2.at (by decide)]⟩
      · rw [if_pos (bI_0.mpr hcan), if_neg hcan, lx_eq, nI_1]
        obtain ⟨σ3, w1, w2, w3, w4⟩ := ih (k + 1) f c S σ1 (by omega) (by omega) h hR s1 a1 M1
        exact ⟨σ3, w1, w2, (q2.mono (fun q hq => Or.inr (Or.inr hq))).tr w3, fun j h6 h7 => by rw [w4 j h6 h7, q2.at (by decide)]⟩
    · rw [if_neg (fun z => z (bI_0.mpr hp)), if_neg hp]
      exact ⟨σ, rfl, hs1, fr.rf, fun _ _ _ => rfl⟩
theorem m_isSpan (x z : Int32) (σ : SG) : f_M_isSpan x z σ = some (bI (spn x z), σ) := by
  unfold f_M_isSpan
  rw [m_isOne, bnd_some]
  by_cases hx : sh4 x
  · rw [if_neg (bI_n0.mpr hx), m_in32 (a := 0) (b := 20) (by decide) (by decide), bnd_some]
    by_cases hz : 0 ≤ z ∧ z ≤ 20
    · rw [if_neg (bI_n0.mpr hz), bI_pos ⟨hx, hz⟩]
    · rw [if_pos (bI_0.mpr hz), bI_neg (fun w => hz w.2)]
  · rw [if_pos (bI_0.mpr hx), bI_neg (fun w => hx w.1)]
theorem mq_makeAll {σ : SG} {R : List RU} {H : HO} (h : SOK (σ.1 149)) (hR : RMt (σ.1 149) R) (h4 : σ.1 148 4 = -1) (hM : HM σ H) (ho : HOk H) (x i z : Int32) : ∃ σ', f_M_makeAll x i z σ = some (malA (σ.1 149) R H x i z, σ') ∧ σ'.1 149 = malN (σ.1 149) R H x i z ∧ fr L3 σ σ' ∧ ∀ j, j ≠ 6 → j ≠ 7 → σ'.1 148 j = σ.1 148 j := by
  unfold f_M_makeAll malA malN
  rw [m_isSpan, bnd_some]
  by_cases hsp : spn x z
  · obtain ⟨hx, hz⟩ := hsp
    obtain ⟨s, hs, rfl⟩ := sh_in hx
    obtain ⟨n, hn, rfl⟩ := n_sp (b := 20) (by decide) hz.1 hz.2
    rw [if_pos (bI_n0.mpr ⟨hx, hz⟩), if_pos hx, if_pos hx, if_pos hz, if_pos hz, m_whyNot hM hs (ho s hs).1, bnd_some, nx_nI (k := s) (by omega), nx_nI (by omega)]
    by_cases hf : rfA H s 0 = 0
    · rw [if_pos hf, if_pos hf, if_pos hf]
      exact m_mall hs (ho s hs).2 hn n 0 FU 0 _ σ (by omega) (by rw [FU_eq]; omega) h hR rfl h4 hM
    · rw [if_neg hf, if_neg hf, if_neg hf]
      exact ⟨σ, rfl, rfl, fr.rf, fun _ _ _ => rfl⟩
  · rw [if_neg (fun w => w (bI_0.mpr hsp))]
    by_cases hx : sh4 x
    · rw [if_pos hx, if_pos hx, if_neg (fun w => hsp ⟨hx, w⟩), if_neg (fun w => hsp ⟨hx, w⟩)]
      exact ⟨σ, rfl, rfl, fr.rf, fun _ _ _ => rfl⟩
    · rw [if_neg hx, if_neg hx]
      exact ⟨σ, rfl, rfl, fr.rf, fun _ _ _ => rfl⟩
/-! wouldCost -/
def wcF (R : List RU) (H : HO) (s : Nat) (i : Int32) : Nat → Nat → (Nat → Int32) → Nat → Int32
  | 0, _, _, c => nI c
  | d + 1, k, T, c => if plc H s (i + nI k) then (if CAN T R nob (itV H s i k) then wcF R H s i d (k + 1) (doC T R nob (nx (itV H s i k))) (c + paC T R nob (nx (itV H s i k))) else -4) else -12
def wcA (S : Nat → Int32) (R : List RU) (H : HO) (x i z : Int32) : Int32 := if sh4 x then (if 0 ≤ z ∧ z ≤ 20 then (if rfA H (nx x) 0 = 0 then wcF R H (nx x) i (nx z) 0 S 0 else rfA H (nx x) 0) else -1) else -1
theorem c_wc {R : List RU} {H : HO} {s n : Nat} {i : Int32} (hs : s < 4) (hn : n ≤ 20) : ∀ (d k f c : Nat) (T : Nat → Int32) (σ : SG), k + d = n → d < f → GD T → TWR 90 σ T nob → RLt 90 σ R → HC σ H → ∃ σ', f_H_wouldCost_55 f (nI s) i (nI n) (nI c) (nI k) σ = some (wcF R H s i d k T c, σ') ∧ fr (fun c => 90 ≤ c ∧ c ≤ 104) σ σ' := by
  intro d
  induction d with
  | zero =>
    intro k f c T σ hk hf g hT hR hC
    obtain ⟨f, rfl⟩ : ∃ g, f = g + 1 := ⟨f - 1, by omega⟩
    have e : k = n := hk
    rw [f_H_wouldCost_55, e, if_pos (Int32.le_refl _)]
    exact ⟨σ, rfl, fr.rf⟩
  | succ d ih =>
    intro k f c T σ hk hf g hT hR hC
    obtain ⟨f, rfl⟩ : ∃ g, f = g + 1 := ⟨f - 1, by omega⟩
    obtain ⟨-, -, -, hr, e5, -⟩ := hC s hs
    rw [f_H_wouldCost_55, if_neg (nI_ge (show k < n by omega) (by omega)), b_isPlace hC hs, bnd_some, wcF]
    by_cases hp : plc H s (i + nI k)
    · obtain ⟨j, hj, ej⟩ := plc_in hr hp
      have ev : itV H s i k = H 2 (40 * s + j) := by
        show H 2 (40 * s + nx (i + nI k)) = _
        rw [ej, nx_nI (by omega)]
      rw [if_pos (bI_n0.mpr hp), if_pos hp, ej, gd_pos (ix_nI hs (by decide)), gd_pos (ix_nI hj (by decide)), nx_nI (by omega), nx_nI (by omega), e5 j hj, ← ev, lx_eq]
      obtain ⟨σ1, q1, q2⟩ := b_canBe (t := 90) (c := itV H s i k) hT g hR
      have T1 := hT.cong (fun c c1 c2 c3 => q2.1 c c3)
      have R1 := hR.cong (fun c c1 c2 => q2.1 c (by omega))
      have C1 : HC σ1 H := hC.keep (fun c c1 c2 => q2.1 c (by omega))
      rw [q1, bnd_some]
      by_cases hcan : CAN T R nob (itV H s i k)
      · obtain ⟨c0, h60, e, hc⟩ := can_in g hcan
        obtain ⟨σ2, r1, r2, r3, -⟩ := b_step (t := 90) (k := c0) (by omega) T1 g R1 hc
        rw [← e] at r1
        rw [if_pos (bI_n0.mpr hcan), if_pos hcan, r1, bnd_some, lx_eq, lx_eq, nI_1, n_add, e, nx_nI (by omega)]
        obtain ⟨σ3, w1, w2⟩ := ih (k + 1) f (c + paC T R nob c0) (doC T R nob c0) σ2 (by omega) (by omega) (g.do hc) r3 (R1.cong (fun c c1 c2 => r2.1 c (by omega))) (C1.keep (fun c c1 c2 => r2.1 c (by omega)))
        exact ⟨σ3, w1, ((q2.mono (fun q hq => by omega)).tr (r2.mono (fun q hq => by omega))).tr w2⟩
      · rw [if_neg (fun w => w (bI_0.mpr hcan)), if_neg hcan]
        exact ⟨σ1, rfl, q2.mono (fun q hq => by omega)⟩
    · rw [if_neg (fun z => z (bI_0.mpr hp)), if_neg hp]
      exact ⟨σ, rfl, fr.rf⟩
theorem cq_wouldCost {σ : SG} {S : Nat → Int32} {R : List RU} {H : HO} (g : GD S) (hT : TWR 20 σ S nob) (hR : RLt 20 σ R) (hC : HC σ H) (x i z : Int32) : ∃ σ', f_H_wouldCost x i z σ = some (wcA S R H x i z, σ') ∧ fr (fun c => 90 ≤ c ∧ c ≤ 104) σ σ' := by
  unfold f_H_wouldCost wcA
  rw [b_isSheet, bnd_some]
  by_cases hx : sh4 x
  · obtain ⟨s, hs, rfl⟩ := sh_in hx
    rw [if_neg (bI_n0.mpr hx), if_pos hx, b_isIn, bnd_some, nx_nI (k := s) (by omega)]
    by_cases hz : 0 ≤ z ∧ z ≤ 20
    · obtain ⟨n, hn, rfl⟩ := n_sp (b := 20) (by decide) hz.1 hz.2
      rw [if_pos (bI_n0.mpr hz), if_pos hz, b_refusal hC hs, bnd_some, nx_nI (by omega)]
      by_cases hf : rfA H s 0 = 0
      · obtain ⟨σ1, q1, q2, q3, q4, -⟩ := b_copyPlay2 (t := 90) (a := 20) (by omega) hT hR
        rw [if_pos hf, if_pos hf, q1, bnd_some]
        obtain ⟨σ2, r1, r2⟩ := c_wc hs hn n 0 FU 0 S σ1 (by omega) (by rw [FU_eq]; omega) g q3 q4 (hC.keep (fun c c1 c2 => q2.1 c (by omega)))
        exact ⟨σ2, r1, (q2.mono (fun c hc => by omega)).tr r2⟩
      · rw [if_neg hf, if_neg hf]
        exact ⟨σ, rfl, fr.rf⟩
    · rw [if_neg (fun w => w (bI_0.mpr hz)), if_neg hz]
      exact ⟨σ, rfl, fr.rf⟩
  · rw [if_pos (bI_0.mpr hx), if_neg hx]
    exact ⟨σ, rfl, fr.rf⟩
/-- it ends: with why, or with the cost -/
theorem m_wc_end {S0 T : Nat → Int32} {n k f : Nat} {why c x1 x2 : Int32} {σ : SG} (hf : 0 < f) (hs : σ.1 149 = T) (h151 : ∀ i, i < 340 → σ.1 151 i = S0 i) (h340 : ∀ i, 340 ≤ i → T i = S0 i) (he : n = k ∨ ¬ why = 0) : ∃ σ', f_M_wouldCost_37 f x1 x2 (nI n) why c (nI k) σ = some (if why = 0 then c else why, σ') ∧ fr (fun c => c = 149) σ σ' ∧ σ'.1 149 = S0 := by
  obtain ⟨f, rfl⟩ : ∃ g, f = g + 1 := ⟨f - 1, by omega⟩
  obtain ⟨τ, q1, q2, q3⟩ := m_putsBack (σ := σ) (S := S0) h151 (fun i hi => by rw [hs]; exact h340 i hi)
  have e : (if why = 0 then some (c, τ) else some (why, τ)) = some (if why = 0 then c else why, τ) := by
    by_cases hw : why = 0
    · rw [if_pos hw, if_pos hw]
    · rw [if_neg hw, if_neg hw]
  rw [f_M_wouldCost_37]
  by_cases h : nI n ≤ nI k
  · rw [if_pos h, q1, bnd_some, e]
    exact ⟨τ, rfl, q2, q3⟩
  · have hw : ¬ why = 0 := by
      rcases he with z | z
      · exact absurd (by rw [z]; exact Int32.le_refl _) h
      · exact z
    rw [if_neg h, if_pos hw, q1, bnd_some, e]
    exact ⟨τ, rfl, q2, q3⟩
theorem m_wc {R : List RU} {H : HO} {s n : Nat} {i : Int32} {S0 : Nat → Int32} (hs : s < 4) (hr : rg (H 1 s) 40) (hn : n ≤ 20) : ∀ (d k f c : Nat) (T : Nat → Int32) (σ : SG), k + d = n → d < f → GD T → RMt T R → σ.1 149 = T → σ.1 148 4 = -1 → HM σ H → (∀ i, i < 340 → σ.1 151 i = S0 i) → (∀ i, 340 ≤ i → T i = S0 i) → ∃ σ', f_M_wouldCost_37 f (nI s) i (nI n) (0 : Int32) (nI c) (nI k) σ = some (wcF R H s i d k T c, σ') ∧ fr L3 σ σ' ∧ σ'.1 149 = S0 ∧ ∀ j, j ≠ 6 → j ≠ 7 → σ'.1 148 j = σ.1 148 j := by
  intro d
  induction d with
  | zero =>
    intro k f c T σ hk hf g hR hs1 h4 hM h151 h340
    obtain ⟨σ', q1, q2, q3⟩ := m_wc_end (n := n) (k := k) (f := f) (why := 0) (c := nI c) (x1 := nI s) (x2 := i) (by omega) hs1 h151 h340 (Or.inl hk.symm)
    exact ⟨σ', q1, q2.mono (fun c hc => Or.inr (Or.inl hc)), q3, fun i _ _ => q2.at (by decide) i⟩
  | succ d ih =>
    intro k f c T σ hk hf g hR hs1 h4 hM h151 h340
    obtain ⟨f, rfl⟩ : ∃ g, f = g + 1 := ⟨f - 1, by omega⟩
    have stop : ∀ (why : Int32) (τ : SG), ¬ why = 0 → fr L3 σ τ → τ.1 149 = T → (∀ j, j ≠ 6 → j ≠ 7 → τ.1 148 j = σ.1 148 j) → ∃ σ', f_M_wouldCost_89 (f_M_wouldCost_37 f) (nI s) i (nI n) (nI c) (nI k) why τ = some (why, σ') ∧ fr L3 σ σ' ∧ σ'.1 149 = S0 ∧ ∀ j, j ≠ 6 → j ≠ 7 → σ'.1 148 j = σ.1 148 j := fun why τ hw hτ hs2 hl => by
      unfold f_M_wouldCost_89
      obtain ⟨σ', q1, q2, q3⟩ := m_wc_end (S0 := S0) (T := T) (n := n) (k := k + 1) (f := f) (why := why) (c := nI c) (x1 := nI s) (x2 := i) (σ := τ) (by omega) hs2 (fun i hi => by rw [hτ.at (by decide)]; exact h151 i hi) h340 (Or.inr hw)
      rw [if_neg hw] at q1
      rw [if_pos hw, lx_eq, nI_1]
      exact ⟨σ', q1, hτ.tr (q2.mono (fun c hc => Or.inr (Or.inl hc))), q3, fun j h6 h7 => by rw [q2.at (by decide), hl j h6 h7]⟩
    rw [f_M_wouldCost_37, if_neg (nI_ge (show k < n by omega) (by omega)), if_neg (by decide), m_isItem hM hs hr (by omega), bnd_some, wcF]
    by_cases hp : plc H s (i + nI k)
    · obtain ⟨j, hj, ej⟩ := plc_in hr hp
      have ev : itV H s i k = H 2 (40 * s + j) := by
        show H 2 (40 * s + nx (i + nI k)) = _
        rw [ej, nx_nI (by omega)]
      obtain ⟨σ1, q1, q2⟩ := m_onTurn (R := R) hM hs hj (by rw [hs1]; exact g) (by rw [hs1]; exact hR) h4
      rw [hs1, ← ev] at q1
      have s1 : σ1.1 149 = T := (q2.1 _ (by decide)).trans hs1
      have M1 : HM σ1 H := hM.keep (fun c c1 c2 => q2.1 c (by omega))
      have a1 : σ1.1 148 4 = -1 := by rw [q2.at (by decide)]; exact h4
      have f1 : fr L3 σ σ1 := q2.mono (fun q hq => Or.inr (Or.inr hq))
      rw [if_pos (bI_n0.mpr hp), if_pos hp, ej, q1, bnd_some]
      by_cases hcan : CAN T R nob (itV H s i k)
      · obtain ⟨c0, h60, e, hc⟩ := can_in g hcan
        obtain ⟨σ2, r1, r2, -, r3, r4, r5⟩ := m_does (k := c0) (σ := σ1) (o := nob) (R := R) (by omega) (by rw [s1]; exact g) (abs_nob a1).1 (by rw [s1]; exact hR) (by rw [s1]; exact canC_num hc)
        rw [s1] at r2 r3
        rw [← e] at r1
        rw [if_pos (bI_n0.mpr hcan), if_pos hcan]
        unfold f_M_wouldCost_89
        rw [if_neg (by decide), ix_40 ej, gd_pos (ix_nI (by omega) (by decide)), nx_nI (by omega), show σ1.1 162 = H 2 from M1 2 (by decide), ← ev, r1, bnd_some, r3, lx_eq, lx_eq, nI_1, n_add, e, nx_nI (by omega)]
        obtain ⟨σ3, w1, w2, w3, w4⟩ := ih (k + 1) f (c + paC T R nob c0) (doC T R nob c0) σ2 (by omega) (by omega) (g.do hc) (RMt.do hR g hc) r2 (by rw [r5 4 (by decide) (by decide)]; exact a1) (M1.keep (fun c c1 c2 => r4.1 c (by omega))) (fun i hi => by rw [r4.at (by decide), q2.at (by decide)]; exact h151 i hi) (fun i hi => by rw [doC_off g hc (by omega)]; exact h340 i hi)
        exact ⟨σ3, w1, (f1.tr r4).tr w2, w3, fun j h6 h7 => by rw [w4 j h6 h7, r5 j h6 h7, q2.at (by decide)]⟩
      · rw [if_neg (fun w => w (bI_0.mpr hcan)), if_neg hcan]
        exact stop (-4) σ1 (by decide) f1 s1 (fun j _ _ => q2.at (by decide) j)
    · rw [if_neg (fun z => z (bI_0.mpr hp)), if_neg hp]
      exact stop (-12) σ (by decide) fr.rf hs1 (fun _ _ _ => rfl)
theorem mq_wouldCost {σ : SG} {R : List RU} {H : HO} (g : GD (σ.1 149)) (hR : RMt (σ.1 149) R) (h4 : σ.1 148 4 = -1) (hM : HM σ H) (ho : HOk H) (x i z : Int32) : ∃ σ', f_M_wouldCost x i z σ = some (wcA (σ.1 149) R H x i z, σ') ∧ fr (fun c => c = 148 ∨ c = 149 ∨ c = 151 ∨ c = 152) σ σ' ∧ σ'.1 149 = σ.1 149 ∧ ∀ j, j ≠ 6 → j ≠ 7 → σ'.1 148 j = σ.1 148 j := by
  unfold f_M_wouldCost wcA
  rw [m_isSpan, bnd_some]
  by_cases hsp : spn x z
  · obtain ⟨hx, hz⟩ := hsp
    obtain ⟨s, hs, rfl⟩ := sh_in hx
    obtain ⟨n, hn, rfl⟩ := n_sp (b := 20) (by decide) hz.1 hz.2
    rw [if_pos (bI_n0.mpr ⟨hx, hz⟩), if_pos hx, if_pos hz, m_whyNot hM hs (ho s hs).1, bnd_some, nx_nI (k := s) (by omega), nx_nI (by omega)]
    by_cases hf : rfA H s 0 = 0
    · obtain ⟨σ1, q1, q2, q3⟩ := m_puts σ
      rw [if_pos hf, if_pos hf, q1, bnd_some, hf]
      obtain ⟨σ2, r1, r2, r3, r4⟩ := m_wc (R := R) (H := H) (i := i) (S0 := σ.1 149) hs (ho s hs).2 hn n 0 FU 0 (σ.1 149) σ1 (by omega) (by rw [FU_eq]; omega) g hR (q2.1 _ (by decide)) (by rw [q2.at (by decide)]; exact h4) (hM.keep (fun c c1 c2 => q2.1 c (by omega))) q3 (fun _ _ => rfl)
      exact ⟨σ2, r1, (q2.mono (fun c hc => by omega)).tr (r2.mono (fun c hc => by omega)), r3, fun j h6 h7 => by rw [r4 j h6 h7, q2.at (by decide)]⟩
    · rw [if_neg hf, if_neg hf]
      exact ⟨σ, rfl, fr.rf, rfl, fun _ _ _ => rfl⟩
  · rw [if_neg (fun w => w (bI_0.mpr hsp))]
    by_cases hx : sh4 x
    · rw [if_pos hx, if_neg (fun w => hsp ⟨hx, w⟩)]
      exact ⟨σ, rfl, fr.rf, rfl, fun _ _ _ => rfl⟩
    · rw [if_neg hx]
      exact ⟨σ, rfl, fr.rf, rfl, fun _ _ _ => rfl⟩
