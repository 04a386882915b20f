/-! the reference's words and numbers -/
theorem l_mul2 (a b : Nat) : lN a * lN b = lN (a * b) := (Int64.ofNat_mul a b).symm
theorem l_add2 (a b : Nat) : lN a + lN b = lN (a + b) := (Int64.ofNat_add a b).symm
theorem l_nI {k : Nat} (h : k < 2147483648) : (nI k).toInt64 = lN k := by
  apply Int64.toInt_inj.mp
  rw [Int32.toInt_toInt64, nI_toInt h, lN_ti (by omega), if_pos (by omega)]
theorem lN_le55 {a : Nat} (ha : a < 2 ^ 63) : lg_cmp (lN a) (36028797018963967 : Int64) ≤ 0 ↔ a ≤ 36028797018963967 := by
  rw [← Int32.not_lt, lg_gt0, show (36028797018963967 : Int64) = lN 36028797018963967 from rfl, Int64.lt_iff_toInt_lt, lN_ti (by omega), lN_ti (by omega), if_pos (by decide), if_pos ha]
  omega
theorem l_inj2 {a b : Nat} (ha : a < 2 ^ 63) (hb : b < 2 ^ 63) : lN a = lN b ↔ a = b := by
  refine ⟨fun h => ?_, fun h => by rw [h]⟩
  have := congrArg Int64.toInt h
  rw [lN_ti (by omega), lN_ti (by omega), if_pos ha, if_pos hb] at this
  omega
/-- the word so far -/
def WV (tp : Nat → Nat) (p : Nat) : Nat → Nat
  | 0 => 0
  | d + 1 => if WV tp p d ≤ 36028797018963967 then 32 * WV tp p d + (tp (p + d) - 96) else WV tp p d
def WLx (tp : Nat → Nat) : Nat → Int64 → Nat → Int64
  | 0, x, _ => x
  | d + 1, x, k => WLx tp d (if lg_cmp x (36028797018963967 : Int64) ≤ 0 then (32 : Int64) * x + (nI (tp k) - (96 : Int32)).toInt64 else x) (k + 1)
theorem WV_lt {tp : Nat → Nat} {p : Nat} : ∀ d, (∀ i, i < d → isL (tp (p + i))) → WV tp p d < 2 ^ 61 := by
  intro d
  induction d with
  | zero => intro _; show (0 : Nat) < 2 ^ 61; decide
  | succ d ih =>
    intro h
    have h1 := ih (fun i hi => h i (by omega))
    have h2 := (h d (by omega)).2
    rw [WV]
    by_cases c : WV tp p d ≤ 36028797018963967
    · rw [if_pos c]
      omega
    · rw [if_neg c]
      exact h1
theorem WLx_W {tp : Nat → Nat} {p : Nat} : ∀ (d j : Nat), (∀ i, i < j + d → isL (tp (p + i))) → WLx tp d (lN (WV tp p j)) (p + j) = lN (WV tp p (j + d)) := by
  intro d
  induction d with
  | zero => intro j _; rfl
  | succ d ih =>
    intro j h
    have hw := WV_lt j (fun i hi => h i (by omega))
    have hl := h j (by omega)
    have e := ih (j + 1) (fun i hi => h i (by omega))
    rw [show j + 1 + d = j + (d + 1) by omega] at e
    rw [WLx, ← e]
    refine congrArg (fun x => WLx tp d x (p + (j + 1))) ?_
    rw [WV]
    by_cases c : WV tp p j ≤ 36028797018963967
    · rw [if_pos ((lN_le55 (by omega)).mpr c), if_pos c, show (96 : Int32) = nI 96 from rfl, n_sub (show 96 ≤ tp (p + j) by have := hl.1; omega), l_nI (by have := hl.2; omega), show (32 : Int64) = lN 32 from rfl, l_mul2, l_add2]
    · rw [if_neg (fun z => c ((lN_le55 (by omega)).mp z)), if_neg c]
def KW : Nat → Nat
  | 0 => 8243 | 1 => 464036 | 2 => 3646931 | 3 => 24395141 | 4 => 492210354
  | 5 => 542723566 | 6 => 427300 | 7 => 13946034 | 8 => 24416759 | 9 => 556054629 | 10 => 2262644
  | 11 => 294 | 12 => 441925 | 13 => 398963 | 14 => 215205 | 15 => 498 | 16 => 1476 | _ => 14836
def UJ (j : Nat) : Nat → Nat
  | 0 => 0
  | k + 1 => 32 * UJ j k + (nx (schr j k) - 96)
theorem UJ_all : ∀ j, j < 18 → UJ j (slenN j) = KW j ∧ ∀ k, k < 10 → k < slenN j → (97 ≤ nx (schr j k) ∧ nx (schr j k) ≤ 122) ∧ schr j k = nI (nx (schr j k)) ∧ UJ j k < 36028797018963967 := by decide +kernel
theorem KW_inj : ∀ i, i < 18 → ∀ j, j < 18 → KW i = KW j → i = j := by decide
theorem KW_lt : ∀ j, j < 18 → 0 < KW j ∧ KW j < 1000000000 := by decide
theorem WV_pos {tp : Nat → Nat} {p : Nat} : ∀ d, (∀ i, i < d → isL (tp (p + i))) → (WV tp p d = 0 ↔ d = 0) := by
  intro d h
  cases d with
  | zero => exact ⟨fun _ => rfl, fun _ => rfl⟩
  | succ d =>
    refine ⟨fun e => ?_, fun e => by cases e⟩
    have h2 := (h d (by omega)).1
    rw [WV] at e
    by_cases c : WV tp p d ≤ 36028797018963967
    · rw [if_pos c] at e
      omega
    · rw [if_neg c] at e
      omega
theorem WV_U {tp : Nat → Nat} {p j : Nat} (hj : j < 18) : ∀ k, k ≤ slenN j → ∀ d, (∀ i, i < d → isL (tp (p + i))) → (WV tp p d = UJ j k ↔ d = k ∧ ∀ i, i < k → tp (p + i) = nx (schr j i)) := by
  have hs := slen_lt j (by omega)
  intro k
  induction k with
  | zero =>
    intro _ d h
    have := WV_pos d h
    exact ⟨fun e => ⟨this.mp e, fun i hi => by omega⟩, fun e => this.mpr e.1⟩
  | succ k ih =>
    intro hk d h
    obtain ⟨⟨c1, c2⟩, c3, c4⟩ := (UJ_all j hj).2 k (by omega) (by omega)
    rw [UJ]
    cases d with
    | zero => exact ⟨fun e => by rw [WV] at e; omega, fun e => by omega⟩
    | succ d =>
      have hd := h d (by omega)
      have ihd := ih (by omega) d (fun i hi => h i (by omega))
      rw [WV]
      by_cases c : WV tp p d ≤ 36028797018963967
      · rw [if_pos c]
        constructor
        · intro e
          have e1 : WV tp p d = UJ j k := by have := hd.1; have := hd.2; omega
          have e2 : tp (p + d) = nx (schr j k) := by have := hd.1; have := hd.2; omega
          obtain ⟨u1, u2⟩ := ihd.mp e1
          refine ⟨by omega, fun i hi => ?_⟩
          by_cases ei : i = k
          · rw [ei, ← u1, e2, u1]
          · exact u2 i (by omega)
        · rintro ⟨u1, u2⟩
          have ed : d = k := by omega
          have e1 := ihd.mpr ⟨ed, fun i hi => u2 i (by omega)⟩
          rw [e1, ed, u2 k (by omega)]
      · rw [if_neg c]
        have hk2 : UJ j (k + 1) < 36028797018963967 := by
          by_cases hl : k + 1 < slenN j
          · exact ((UJ_all j hj).2 (k + 1) (by omega) hl).2.2
          · have e3 : k + 1 = slenN j := by omega
            rw [e3, (UJ_all j hj).1]
            have := (KW_lt j hj).2
            omega
        rw [UJ] at hk2
        refine ⟨fun e => absurd (show WV tp p d ≤ 36028797018963967 by omega) c, fun e => ?_⟩
        · have ed : d = k := by omega
          have e1 := ihd.mpr ⟨ed, fun i hi => e.2 i (by omega)⟩
          omega
theorem WV_same {tp : Nat → Nat} {p e j : Nat} (hj : j < 18) (h : ∀ i, p ≤ i → i < e → isL (tp i)) (hpe : p ≤ e) (hb : ∀ i, p ≤ i → i < e → tp i < 256) : WV tp p (e - p) = KW j ↔ smW tp j p e := by
  have hs := slen_lt j (by omega)
  rw [← (UJ_all j hj).1, WV_U hj (slenN j) (Nat.le_refl _) (e - p) (fun i hi => h (p + i) (by omega) (by omega))]
  constructor
  · rintro ⟨u1, u2⟩
    refine ⟨u1.symm, fun k hk => ?_⟩
    rw [((UJ_all j hj).2 k (by omega) (by omega)).2.1, u2 k (by omega)]
  · rintro ⟨u1, u2⟩
    refine ⟨u1.symm, fun i hi => ?_⟩
    have := u2 i (by omega)
    rw [this, nx_nI]
    have := hb (p + i) (by omega) (by omega)
    omega
theorem wd_iff {tp : Nat → Nat} {p e j : Nat} (hj : j < 18) (h : ∀ i, p ≤ i → i < e → isL (tp i)) (hpe : p ≤ e) (hb : ∀ i, p ≤ i → i < e → tp i < 256) : ∀ d j0, j0 + d = 18 → (∀ i, i < j0 → ¬ smW tp i p e) → (wdF tp p e d j0 = 10000 + j ↔ smW tp j p e) := by
  intro d
  induction d with
  | zero =>
    intro j0 h0 hn
    rw [wdF]
    exact ⟨fun z => by omega, fun z => absurd z (hn j (by omega))⟩
  | succ d ih =>
    intro j0 h0 hn
    rw [wdF]
    by_cases hs : smW tp j0 p e
    · rw [if_pos hs]
      constructor
      · intro z
        have : j0 = j := by omega
        rw [← this]; exact hs
      · intro z
        have a1 := (WV_same hj h hpe hb).mpr z
        have a2 := (WV_same (show j0 < 18 by omega) h hpe hb).mpr hs
        have := KW_inj j0 (by omega) j hj (a2.symm.trans a1)
        omega
    · rw [if_neg hs]
      refine ih (j0 + 1) (by omega) (fun i hi => ?_)
      by_cases ei : i = j0
      · rw [ei]; exact hs
      · exact hn i (by omega)
/-- what it stands at; where something was wrong: nothing -/
def tkW (w t : Nat) : Nat := if w = 0 then t else 30000
section MT2
variable {n : Nat} {tp : Nat → Nat}
theorem m_word7 {σ : SG} (h : TPm σ n tp) {e : Nat} (he : e ≤ n) (h28 : σ.1 148 28 = nI e) : ∀ (d k f : Nat) (x : Int64), k + d = e → d < f → f_M_word_7 f x (nI k) σ = f_M_word_7 1 (WLx tp d x k) (nI e) σ := by
  intro d
  induction d with
  | zero =>
    intro k f x hk hf
    obtain ⟨f, rfl⟩ : ∃ g, f = g + 1 := ⟨f - 1, by omega⟩
    have ek : k = e := hk
    rw [ek, WLx, f_M_word_7, f_M_word_7, h28, if_pos (Int32.le_refl _), if_pos (Int32.le_refl _)]
  | succ d ih =>
    intro k f x hk hf
    obtain ⟨f, rfl⟩ : ∃ g, f = g + 1 := ⟨f - 1, by omega⟩
    have hn := h.2.1
    rw [f_M_word_7, h28, if_neg (nI_ge (show k < e by omega) (by omega)), WLx]
    by_cases c : lg_cmp x (36028797018963967 : Int64) ≤ 0
    · rw [if_pos c, if_pos c, gd_pos (ix_nI (by omega) (by decide)), nx_nI (by omega), (h.2.2 k (by omega)).1, lx_eq, lx_eq, nI_1]
      exact ih (k + 1) f _ (by omega) (by omega)
    · rw [if_neg c, if_neg c, lx_eq, nI_1]
      exact ih (k + 1) f _ (by omega) (by omega)
theorem codeT_num {p e : Nat} (hl : ¬ isL (tp p)) {j : Nat} (hj : j < 18) (hD : ∀ i, p ≤ i → i < e → isD (tp p) → isD (tp i)) : codeT tp p e ≠ 10000 + j := by
  unfold codeT
  rw [if_neg hl]
  by_cases hd : isD (tp p)
  · rw [if_pos hd]
    by_cases h4 : e - p ≤ 4
    · have := nm_lt (tp := tp) (e - p) p 0 (fun i h1 h2 => hD i h1 (by omega) hd)
      have h5 : 10 ^ (e - p) ≤ 10 ^ 4 := Nat.pow_le_pow_right (by decide) h4
      have h6 : (10 : Nat) ^ 4 = 10000 := rfl
      rw [if_pos h4]
      omega
    · rw [if_neg h4]
      omega
  · rw [if_neg hd]
    omega
theorem BA_lt {p : Nat} (h : p < n) : BA n tp p = nI (tp p) := if_pos h
theorem m_word {σ : SG} {a w : Nat} (h : MK n tp σ a w) (hw : w ≤ 1) : ∃ v, f_M_word σ = some (lN v, σ) ∧ v < 2 ^ 61 ∧ ∀ j, j < 18 → (v = KW j ↔ tkW w (TT n tp a) = 10000 + j) := by
  obtain ⟨h1, h2, h3, h4⟩ := h
  have hn := h1.2.1
  have hB := BT_le (n := n) (tp := tp) a
  have hE := ET_le (n := n) (tp := tp) a
  have hBE : BT n tp a ≤ ET n tp a := by
    rw [ET_ed]
    unfold edT
    by_cases c : BT n tp a < n
    · rw [if_pos c]; have := (eoT_b (tp := tp) c).1; omega
    · rw [if_neg c]; exact Nat.le_refl _
  unfold f_M_word
  rw [lx_eq, h2, m_word7 h1 hE h3 (ET n tp a - BT n tp a) (BT n tp a) FU 0 (by omega) (by rw [FU_eq]; omega), f_M_word_7, h3, if_pos (Int32.le_refl _), h4]
  by_cases c0 : w = 0
  · rw [c0, if_neg (fun z => z rfl), h2, m_byteAt h1 (by omega), bnd_some, m_iLA h1.b hB, bnd_some]
    have eTW : tkW 0 (TT n tp a) = TT n tp a := rfl
    rw [eTW]
    by_cases hl : BT n tp a < n ∧ isL (tp (BT n tp a))
    · rw [if_pos (bI_n0.mpr hl)]
      have eE : ET n tp a = eoT n tp (BT n tp a) := by rw [ET_ed]; unfold edT; rw [if_pos hl.1]
      have hL : ∀ i, BT n tp a ≤ i → i < ET n tp a → isL (tp i) := by
        rw [eE]
        exact eo_L hl.1 hl.2
      have hb : ∀ i, BT n tp a ≤ i → i < ET n tp a → tp i < 256 := fun i _ hi => h1.b i (by omega)
      have e0 := WLx_W (tp := tp) (p := BT n tp a) (ET n tp a - BT n tp a) 0 (fun i hi => hL _ (by omega) (by omega))
      rw [Nat.zero_add, Nat.add_zero] at e0
      refine ⟨WV tp (BT n tp a) (ET n tp a - BT n tp a), ?_, WV_lt _ (fun i hi => hL _ (by omega) (by omega)), fun j hj => ?_⟩
      · exact congrArg (fun x => some (x, σ)) e0
      · rw [WV_same hj hL hBE hb]
        unfold TT codeT
        rw [if_pos hl.1, if_pos hl.2]
        exact (wd_iff hj hL hBE hb 18 0 rfl (fun i hi => by omega)).symm
    · rw [if_neg (fun z => z (bI_0.mpr hl))]
      refine ⟨0, rfl, by decide, fun j hj => ⟨fun z => by have := (KW_lt j hj).1; omega, fun z => ?_⟩⟩
      exfalso
      unfold TT at z
      by_cases c : BT n tp a < n
      · rw [if_pos c] at z
        have eE : ET n tp a = eoT n tp (BT n tp a) := by rw [ET_ed]; unfold edT; rw [if_pos c]
        exact codeT_num (fun q => hl ⟨c, q⟩) hj (fun i u1 u2 u3 => eo_D c (fun q => hl ⟨c, q⟩) u3 i u1 (by omega)) z
      · rw [if_neg c] at z
        omega
  · have ew : w = 1 := by omega
    rw [ew, if_pos (by decide)]
    refine ⟨0, rfl, by decide, fun j hj => ⟨fun z => by have := (KW_lt j hj).1; omega, fun z => ?_⟩⟩
    have : tkW 1 (TT n tp a) = 30000 := rfl
    omega
theorem lgw {v j t : Nat} (hv : v < 2 ^ 61) (hj : j < 18) (h : v = KW j ↔ t = 10000 + j) : lg_cmp (lN v) (lN (KW j)) = 0 ↔ t = 10000 + j := by
  have := (KW_lt j hj).2
  rw [lgc_0, l_inj2 (by omega) (by omega), h]
theorem lgk {v t : Nat} {c : Int64} (j : Nat) (hj : j < 18) (ec : c = lN (KW j)) (hv : v < 2 ^ 61) (h : v = KW j ↔ t = 10000 + j) : lg_cmp (lN v) c = 0 ↔ t = 10000 + j := by
  rw [ec]
  exact lgw hv hj h
def kdH (t : Nat) : Int32 := if 10005 ≤ t ∧ t ≤ 10010 then nI (t - 10005) else -1
def fcH (t : Nat) : Int32 := if 10000 ≤ t ∧ t ≤ 10004 then vM t else 0
theorem kdH_5 : kdH 10005 = 0 ∧ kdH 10006 = 1 ∧ kdH 10007 = 2 ∧ kdH 10008 = 3 ∧ kdH 10009 = 4 ∧ kdH 10010 = 5 := by decide
theorem fcH_0 : fcH 10000 = -1 ∧ fcH 10001 = -2 ∧ fcH 10002 = -3 ∧ fcH 10003 = -4 ∧ fcH 10004 = -5 := by decide
theorem m_kindHere {σ : SG} {a w : Nat} (h : MK n tp σ a w) (hw : w ≤ 1) : f_M_kindHere σ = some (kdH (tkW w (TT n tp a)), σ) := by
  obtain ⟨v, q1, q2, q3⟩ := m_word h hw
  unfold f_M_kindHere
  rw [q1, bnd_some]
  generalize tkW w (TT n tp a) = t at q3 ⊢
  have e5 : lg_cmp (lN v) (542723566 : Int64) = 0 ↔ t = 10005 := lgk 5 (by decide) (by decide) q2 (q3 5 (by decide))
  have e6 : lg_cmp (lN v) (427300 : Int64) = 0 ↔ t = 10006 := lgk 6 (by decide) (by decide) q2 (q3 6 (by decide))
  have e7 : lg_cmp (lN v) (13946034 : Int64) = 0 ↔ t = 10007 := lgk 7 (by decide) (by decide) q2 (q3 7 (by decide))
  have e8 : lg_cmp (lN v) (24416759 : Int64) = 0 ↔ t = 10008 := lgk 8 (by decide) (by decide) q2 (q3 8 (by decide))
  have e9 : lg_cmp (lN v) (556054629 : Int64) = 0 ↔ t = 10009 := lgk 9 (by decide) (by decide) q2 (q3 9 (by decide))
  have e10 : lg_cmp (lN v) (2262644 : Int64) = 0 ↔ t = 10010 := lgk 10 (by decide) (by decide) q2 (q3 10 (by decide))
  by_cases c5 : t = 10005
  · rw [if_neg (fun z => z (e5.mpr c5)), c5, kdH_5.1]
  · rw [if_pos (fun z => c5 (e5.mp z))]
    by_cases c6 : t = 10006
    · rw [if_neg (fun z => z (e6.mpr c6)), c6, kdH_5.2.1]
    · rw [if_pos (fun z => c6 (e6.mp z))]
      by_cases c7 : t = 10007
      · rw [if_neg (fun z => z (e7.mpr c7)), c7, kdH_5.2.2.1]
      · rw [if_pos (fun z => c7 (e7.mp z))]
        by_cases c8 : t = 10008
        · rw [if_neg (fun z => z (e8.mpr c8)), c8, kdH_5.2.2.2.1]
        · rw [if_pos (fun z => c8 (e8.mp z))]
          by_cases c9 : t = 10009
          · rw [if_neg (fun z => z (e9.mpr c9)), c9, kdH_5.2.2.2.2.1]
          · rw [if_pos (fun z => c9 (e9.mp z))]
            by_cases c10 : t = 10010
            · rw [if_neg (fun z => z (e10.mpr c10)), c10, kdH_5.2.2.2.2.2]
            · rw [if_pos (fun z => c10 (e10.mp z))]
              unfold kdH
              rw [if_neg (by omega)]
theorem m_factHere {σ : SG} {a w : Nat} (h : MK n tp σ a w) (hw : w ≤ 1) : f_M_factHere σ = some (fcH (tkW w (TT n tp a)), σ) := by
  obtain ⟨v, q1, q2, q3⟩ := m_word h hw
  unfold f_M_factHere
  rw [q1, bnd_some]
  generalize tkW w (TT n tp a) = t at q3 ⊢
  have e5 : lg_cmp (lN v) (8243 : Int64) = 0 ↔ t = 10000 := lgk 0 (by decide) (by decide) q2 (q3 0 (by decide))
  have e6 : lg_cmp (lN v) (464036 : Int64) = 0 ↔ t = 10001 := lgk 1 (by decide) (by decide) q2 (q3 1 (by decide))
  have e7 : lg_cmp (lN v) (3646931 : Int64) = 0 ↔ t = 10002 := lgk 2 (by decide) (by decide) q2 (q3 2 (by decide))
  have e8 : lg_cmp (lN v) (24395141 : Int64) = 0 ↔ t = 10003 := lgk 3 (by decide) (by decide) q2 (q3 3 (by decide))
  have e9 : lg_cmp (lN v) (492210354 : Int64) = 0 ↔ t = 10004 := lgk 4 (by decide) (by decide) q2 (q3 4 (by decide))
  by_cases c5 : t = 10000
  · rw [if_neg (fun z => z (e5.mpr c5)), c5, fcH_0.1]
  · rw [if_pos (fun z => c5 (e5.mp z))]
    by_cases c6 : t = 10001
    · rw [if_neg (fun z => z (e6.mpr c6)), c6, fcH_0.2.1]
    · rw [if_pos (fun z => c6 (e6.mp z))]
      by_cases c7 : t = 10002
      · rw [if_neg (fun z => z (e7.mpr c7)), c7, fcH_0.2.2.1]
      · rw [if_pos (fun z => c7 (e7.mp z))]
        by_cases c8 : t = 10003
        · rw [if_neg (fun z => z (e8.mpr c8)), c8, fcH_0.2.2.2.1]
        · rw [if_pos (fun z => c8 (e8.mp z))]
          by_cases c9 : t = 10004
          · rw [if_neg (fun z => z (e9.mpr c9)), c9, fcH_0.2.2.2.2]
          · rw [if_pos (fun z => c9 (e9.mp z))]
            unfold fcH
            rw [if_neg (by omega)]
end MT2
