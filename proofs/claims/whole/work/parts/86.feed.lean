/-! THE TAPE: feed, both sides -/
abbrev bl (x : Int64) (i : Nat) : Bool := x.toBitVec.getLsbD i
theorem bl_lus (x : Int64) {s : Nat} (hs : s < 64) (i : Nat) : bl (lus x (nI s)) i = bl x (s + i) := by
  unfold lus bl
  rw [wb_cu s hs]
  show (x.toUInt64 >>> UInt64.ofNat s).toBitVec.getLsbD i = _
  rw [UInt64.toBitVec_shiftRight]
  show (x.toBitVec >>> ((UInt64.ofNat s).toBitVec % 64).toNat).getLsbD i = _
  have e : ((UInt64.ofNat s).toBitVec % 64).toNat = s := by
    rw [BitVec.toNat_umod]
    show (BitVec.ofNat 64 s).toNat % 64 = s
    rw [BitVec.toNat_ofNat, Nat.mod_eq_of_lt (show s < 2 ^ 64 by omega), Nat.mod_eq_of_lt hs]
  rw [e, BitVec.getLsbD_ushiftRight]
theorem bl_lsr (x : Int64) {s i : Nat} (hs : s < 64) (hi : s + i < 64) : bl (lsr x (nI s)) i = bl x (s + i) := by
  unfold lsr bl
  rw [wb_c s hs, Int64.toBitVec_shiftRight]
  show (x.toBitVec.sshiftRight ((BitVec.ofNat 64 s).smod 64).toNat).getLsbD i = _
  rw [wb_sm s hs, BitVec.toNat_ofNat, Nat.mod_eq_of_lt (show s < 2 ^ 64 by omega), BitVec.getLsbD_sshiftRight, if_pos hi]
  simp
  omega
theorem bt_i32 (x : Int64) {i : Nat} (hi : i < 32) : bt x.toInt32 i = bl x i := by
  show (x.toBitVec.signExtend 32).getLsbD i = _
  rw [BitVec.getLsbD_signExtend, if_pos (show i < 64 by omega), decide_eq_true hi, Bool.true_and]
theorem bl_255 : ∀ i, i < 64 → bl 255 i = decide (i < 8) := by decide +kernel
def byt (x : Int64) (j : Nat) : Int32 := (lus x (nI (8 * j))).toInt32 &&& 255
theorem byt_m (x : Int64) {j : Nat} (hj : j < 8) : ((lsr x (nI (8 * j))) &&& (255 : Int64)).toInt32 = byt x j := by
  refine b_ext fun i hi => ?_
  unfold byt
  rw [bt_i32 _ hi, b_and, bt_i32 _ hi, b_255, bl_lus x (by omega)]
  show ((lsr x (nI (8 * j))) &&& (255 : Int64)).toBitVec.getLsbD i = _
  rw [Int64.toBitVec_and, BitVec.getLsbD_and]
  show (bl (lsr x (nI (8 * j))) i && bl 255 i) = _
  rw [bl_255 i (by omega)]
  by_cases h8 : i < 8
  · rw [bl_lsr x (by omega) (by omega)]
  · rw [decide_eq_false h8, Bool.and_false, Bool.and_false]
theorem byt_rg (x : Int64) (j : Nat) : rg (byt x j) 255 := by
  unfold byt
  obtain ⟨n, -, e⟩ := wb_of32 (lus x (nI (8 * j))).toInt32
  rw [e, show (255 : Int32) = nI 255 from rfl, nx_and]
  exact rg_nI Nat.and_le_right (by decide)
/-- what stands on THE TAPE, on either side -/
def TPc (σ : SG) (n : Nat) (tp : Nat → Nat) : Prop := σ.1 130 1 = nI n ∧ n ≤ 200 ∧ ∀ i, i < n → σ.1 131 i = nI (tp i) ∧ tp i < 256
def TPm (σ : SG) (n : Nat) (tp : Nat → Nat) : Prop := σ.1 148 26 = nI n ∧ n ≤ 200 ∧ ∀ i, i < n → σ.1 159 i = nI (tp i) ∧ tp i < 256
def fdT (tp : Nat → Nat) (n : Nat) (x : Int64) : Nat → Nat := fun i => if n ≤ i then nx (byt x (i - n)) else tp i
theorem fdT_lo {tp : Nat → Nat} {n i : Nat} {x : Int64} (h : i < n) : fdT tp n x i = tp i := if_neg (by omega)
theorem fdT_hi {tp : Nat → Nat} {n j : Nat} {x : Int64} : byt x j = nI (fdT tp n x (n + j)) := by
  show byt x j = nI (if n ≤ n + j then nx (byt x (n + j - n)) else _)
  rw [if_pos (by omega), Nat.add_sub_cancel_left]
  exact (byt_rg x j).2
theorem fdT_256 {tp : Nat → Nat} {n j : Nat} {x : Int64} : fdT tp n x (n + j) < 256 := by
  show (if n ≤ n + j then nx (byt x (n + j - n)) else _) < 256
  rw [if_pos (by omega)]
  have := (byt_rg x (n + j - n)).1
  omega
theorem c_feed_l {x : Int64} {k n : Nat} {tp : Nat → Nat} (hk : k ≤ 8) (hn : n + k ≤ 200) : ∀ (d j f : Nat) (σ : SG), j + d = k → d < f → TPc σ (n + j) (fdT tp n x) → ∃ σ', f_H_feed_33 f x (nI k) (nI j) σ = some (nI (n + k), σ') ∧ TPc σ' (n + k) (fdT tp n x) ∧ fr (fun c => c = 130 ∨ c = 131) σ σ' ∧ ∀ i, i ≠ 1 → σ'.1 130 i = σ.1 130 i := by
  intro d
  induction d with
  | zero =>
    intro j f σ hj hf h
    obtain ⟨f, rfl⟩ : ∃ g, f = g + 1 := ⟨f - 1, by omega⟩
    have e : j = k := hj
    rw [f_H_feed_33, e, if_pos (Int32.le_refl _)]
    rw [e] at h
    rw [h.1]
    exact ⟨σ, rfl, h, fr.rf, fun _ _ => rfl⟩
  | succ d ih =>
    intro j f σ hj hf h
    obtain ⟨f, rfl⟩ : ∃ g, f = g + 1 := ⟨f - 1, by omega⟩
    have e8 : (8 : Int32) * nI j = nI (8 * j) := n_mul 8 j
    rw [f_H_feed_33, if_neg (nI_ge (show j < k by omega) (by omega)), h.1, gd_pos (ix_nI (by omega) (by decide)), nx_nI (by omega), sx_eq, uI_c (show 130 ≠ 131 by decide), h.1, nI_1, sx_eq, lx_eq, nI_1, e8]
    have h2 : TPc (uI (uI σ 131 (n + j) (byt x j)) 130 1 (nI (n + j + 1))) (n + (j + 1)) (fdT tp n x) := by
      refine ⟨uI_same, by omega, fun i hi => ?_⟩
      rw [uI_c (by decide)]
      by_cases e : i = n + j
      · rw [e, uI_same]
        exact ⟨fdT_hi, fdT_256⟩
      · rw [uI_i e]
        exact h.2.2 i (by omega)
    obtain ⟨σ', q1, q2, q3, q4⟩ := ih (j + 1) f _ (by omega) (by omega) h2
    exact ⟨σ', q1, q2, (fr.tr (fr.uI (Or.inr rfl)) (fr.uI (Or.inl rfl))).tr q3, fun i hi => by rw [q4 i hi, uI_i hi, uI_c (by decide)]⟩
def fedA (n : Nat) (k : Int32) : Int32 := if 1 ≤ k ∧ k ≤ 8 then (if n + nx k ≤ 200 then nI (n + nx k) else -2) else -1
def fdn (n : Nat) (k : Int32) : Nat := if 1 ≤ k ∧ k ≤ 8 then (if n + nx k ≤ 200 then n + nx k else n) else n
def fdt (tp : Nat → Nat) (n : Nat) (x : Int64) (k : Int32) : Nat → Nat := if 1 ≤ k ∧ k ≤ 8 then (if n + nx k ≤ 200 then fdT tp n x else tp) else tp
theorem k_18 {x : Int32} (h : 1 ≤ x ∧ x ≤ 8) : ∃ k, k ≤ 8 ∧ x = nI k := n_sp (b := 8) (by decide) (by have := h.1; rw [i_le] at this ⊢; exact Int.le_trans (by decide) this) h.2
theorem tp_lo {σ : SG} {n : Nat} {tp : Nat → Nat} {x : Int64} (h : TPc σ n tp) : TPc σ (n + 0) (fdT tp n x) := ⟨h.1, h.2.1, fun i hi => by rw [fdT_lo (show i < n from hi)]; exact h.2.2 i hi⟩
theorem cq_feed {σ : SG} {n : Nat} {tp : Nat → Nat} (h : TPc σ n tp) (x : Int64) (k : Int32) : ∃ σ', f_H_feed x k σ = some (fedA n k, σ') ∧ TPc σ' (fdn n k) (fdt tp n x k) ∧ fr (fun c => c = 130 ∨ c = 131) σ σ' ∧ ∀ i, i ≠ 1 → σ'.1 130 i = σ.1 130 i := by
  have hn := h.2.1
  unfold f_H_feed fedA fdn fdt
  rw [b_isIn, bnd_some]
  by_cases hk : 1 ≤ k ∧ k ≤ 8
  · obtain ⟨m, hm, rfl⟩ := k_18 hk
    rw [if_pos (bI_n0.mpr hk), if_pos hk, if_pos hk, if_pos hk, h.1, n_add, nx_nI (by omega)]
    by_cases hc : n + m ≤ 200
    · rw [if_pos (show nI (n + m) ≤ (200 : Int32) from (n_le (b := 200) (by omega) (by decide)).mpr hc), if_pos hc, if_pos hc, if_pos hc]
      obtain ⟨σ', q1, q2, q3, q4⟩ := c_feed_l (x := x) (tp := tp) hm hc m 0 FU σ (Nat.zero_add _) (by rw [FU_eq]; omega) (tp_lo h)
      have q1 : f_H_feed_33 FU x (nI m) (0 : Int32) σ = _ := q1
      exact ⟨σ', q1, q2, q3, q4⟩
    · rw [if_neg (show ¬ nI (n + m) ≤ (200 : Int32) from fun z => hc ((n_le (b := 200) (by omega) (by decide)).mp z)), if_neg hc, if_neg hc, if_neg hc]
      exact ⟨σ, rfl, h, fr.rf, fun _ _ => rfl⟩
  · rw [if_neg (fun w => w (bI_0.mpr hk)), if_neg hk, if_neg hk, if_neg hk]
    exact ⟨σ, rfl, h, fr.rf, fun _ _ => rfl⟩
theorem m_feed_l {x : Int64} {k n : Nat} {tp : Nat → Nat} (hk : k ≤ 8) (hn : n + k ≤ 200) : ∀ (d j f : Nat) (σ : SG), j + d = k → d < f → TPm σ (n + j) (fdT tp n x) → ∃ σ', f_M_feed_32 f x (nI k) (nI j) σ = some (nI (n + k), σ') ∧ TPm σ' (n + k) (fdT tp n x) ∧ fr (fun c => c = 148 ∨ c = 159) σ σ' ∧ ∀ i, i ≠ 26 → σ'.1 148 i = σ.1 148 i := by
  intro d
  induction d with
  | zero =>
    intro j f σ hj hf h
    obtain ⟨f, rfl⟩ : ∃ g, f = g + 1 := ⟨f - 1, by omega⟩
    have e : j = k := hj
    rw [f_M_feed_32, e, if_pos (Int32.le_refl _)]
    rw [e] at h
    rw [h.1]
    exact ⟨σ, rfl, h, fr.rf, fun _ _ => rfl⟩
  | succ d ih =>
    intro j f σ hj hf h
    obtain ⟨f, rfl⟩ : ∃ g, f = g + 1 := ⟨f - 1, by omega⟩
    have e8 : (8 : Int32) * nI j = nI (8 * j) := n_mul 8 j
    rw [f_M_feed_32, if_neg (nI_ge (show j < k by omega) (by omega)), h.1, gd_pos (ix_nI (by omega) (by decide)), nx_nI (by omega), e8, byt_m x (by omega), sx_eq, uI_c (show 148 ≠ 159 by decide), h.1, nI_1, sx_eq, lx_eq, nI_1]
    have h2 : TPm (uI (uI σ 159 (n + j) (byt x j)) 148 26 (nI (n + j + 1))) (n + (j + 1)) (fdT tp n x) := by
      refine ⟨uI_same, by omega, fun i hi => ?_⟩
      rw [uI_c (by decide)]
      by_cases e : i = n + j
      · rw [e, uI_same]
        exact ⟨fdT_hi, fdT_256⟩
      · rw [uI_i e]
        exact h.2.2 i (by omega)
    obtain ⟨σ', q1, q2, q3, q4⟩ := ih (j + 1) f _ (by omega) (by omega) h2
    exact ⟨σ', q1, q2, (fr.tr (fr.uI (Or.inr rfl)) (fr.uI (Or.inl rfl))).tr q3, fun i hi => by rw [q4 i hi, uI_i hi, uI_c (by decide)]⟩
theorem mq_feed {σ : SG} {n : Nat} {tp : Nat → Nat} (h : TPm σ n tp) (x : Int64) (k : Int32) : ∃ σ', f_M_feed x k σ = some (fedA n k, σ') ∧ TPm σ' (fdn n k) (fdt tp n x k) ∧ fr (fun c => c = 148 ∨ c = 159) σ σ' ∧ ∀ i, i ≠ 26 → σ'.1 148 i = σ.1 148 i := by
  have hn := h.2.1
  unfold f_M_feed fedA fdn fdt
  rw [m_in32 (a := 1) (b := 8) (by decide) (by decide), bnd_some]
  by_cases hk : 1 ≤ k ∧ k ≤ 8
  · obtain ⟨m, hm, rfl⟩ := k_18 hk
    rw [if_pos (bI_n0.mpr hk), if_pos hk, if_pos hk, if_pos hk, h.1, n_add, nx_nI (by omega)]
    by_cases hc : n + m ≤ 200
    · rw [if_pos (show nI (n + m) ≤ (200 : Int32) from (n_le (b := 200) (by omega) (by decide)).mpr hc), if_pos hc, if_pos hc, if_pos hc]
      obtain ⟨σ', q1, q2, q3, q4⟩ := m_feed_l (x := x) (tp := tp) hm hc m 0 FU σ (Nat.zero_add _) (by rw [FU_eq]; omega) ⟨h.1, h.2.1, fun i hi => by rw [fdT_lo (show i < n from hi)]; exact h.2.2 i hi⟩
      have q1 : f_M_feed_32 FU x (nI m) (0 : Int32) σ = _ := q1
      exact ⟨σ', q1, q2, q3, q4⟩
    · rw [if_neg (show ¬ nI (n + m) ≤ (200 : Int32) from fun z => hc ((n_le (b := 200) (by omega) (by decide)).mp z)), if_neg hc, if_neg hc, if_neg hc]
      exact ⟨σ, rfl, h, fr.rf, fun _ _ => rfl⟩
  · rw [if_neg (fun w => w (bI_0.mpr hk)), if_neg hk, if_neg hk, if_neg hk]
    exact ⟨σ, rfl, h, fr.rf, fun _ _ => rfl⟩
