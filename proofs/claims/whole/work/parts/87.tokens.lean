/-! the tokens of a TEXT: what the class cuts -/
abbrev isL (b : Nat) : Prop := 97 ≤ b ∧ b ≤ 122
abbrev isD (b : Nat) : Prop := 48 ≤ b ∧ b ≤ 57
def rnF (q : Nat → Bool) (n : Nat) (tp : Nat → Nat) : Nat → Nat → Nat
  | 0, p => p
  | f + 1, p => if p < n ∧ q (tp p) = true then rnF q n tp f (p + 1) else p
/-- on, as long as it is so -/
def rnT (q : Nat → Bool) (n : Nat) (tp : Nat → Nat) (p : Nat) : Nat := rnF q n tp (n - p) p
section TOK
variable {q : Nat → Bool} {n : Nat} {tp : Nat → Nat}
theorem rn_y {p : Nat} (h : p < n) (hq : q (tp p) = true) : rnT q n tp p = rnT q n tp (p + 1) := by
  unfold rnT
  rw [show n - p = (n - (p + 1)) + 1 by omega, rnF, if_pos ⟨h, hq⟩]
theorem rn_n {p : Nat} (h : ¬ (p < n ∧ q (tp p) = true)) : rnT q n tp p = p := by
  unfold rnT
  cases n - p with
  | zero => rfl
  | succ k => rw [rnF, if_neg h]
theorem rn_b : ∀ (d p : Nat), p + d = n → p ≤ rnT q n tp p ∧ rnT q n tp p ≤ n := by
  intro d
  induction d with
  | zero =>
    intro p h
    rw [rn_n (fun z => by omega)]
    omega
  | succ d ih =>
    intro p h
    by_cases hc : p < n ∧ q (tp p) = true
    · rw [rn_y hc.1 hc.2]
      have := ih (p + 1) (by omega)
      omega
    · rw [rn_n hc]
      omega
theorem rn_le {p : Nat} (h : p ≤ n) : p ≤ rnT q n tp p ∧ rnT q n tp p ≤ n := rn_b (n - p) p (by omega)
end TOK
abbrev qL : Nat → Bool := fun b => decide (isL b)
abbrev qD : Nat → Bool := fun b => decide (isD b)
abbrev q32 : Nat → Bool := fun b => decide (b = 32)
def eoT (n : Nat) (tp : Nat → Nat) (p : Nat) : Nat := if isL (tp p) then rnT qL n tp (p + 1) else if isD (tp p) then rnT qD n tp (p + 1) else p + 1
/-- that name stands there -/
abbrev smW (tp : Nat → Nat) (j p e : Nat) : Prop := slenN j = e - p ∧ ∀ k, k < e - p → schr j k = nI (tp (p + k))
def wdF (tp : Nat → Nat) (p e : Nat) : Nat → Nat → Nat
  | 0, _ => 30001
  | d + 1, j => if smW tp j p e then 10000 + j else wdF tp p e d (j + 1)
def nmF (tp : Nat → Nat) : Nat → Nat → Nat → Nat
  | 0, _, v => v
  | d + 1, k, v => nmF tp d (k + 1) (v * 10 + (tp k - 48))
def codeT (tp : Nat → Nat) (p e : Nat) : Nat := if isL (tp p) then wdF tp p e 18 0 else if isD (tp p) then (if e - p ≤ 4 then nmF tp (e - p) p 0 else 30001) else 20000 + tp p
def BT (n : Nat) (tp : Nat → Nat) : Nat → Nat
  | 0 => rnT q32 n tp 0
  | i + 1 => rnT q32 n tp (if BT n tp i < n then eoT n tp (BT n tp i) else BT n tp i)
def ET (n : Nat) (tp : Nat → Nat) (i : Nat) : Nat := if BT n tp i < n then eoT n tp (BT n tp i) else BT n tp i
def TT (n : Nat) (tp : Nat → Nat) (i : Nat) : Nat := if BT n tp i < n then codeT tp (BT n tp i) (ET n tp i) else 30000
theorem BT_S (n : Nat) (tp : Nat → Nat) (i : Nat) : BT n tp (i + 1) = rnT q32 n tp (ET n tp i) := rfl
section TOK2
variable {n : Nat} {tp : Nat → Nat}
theorem eoT_b {p : Nat} (h : p < n) : p < eoT n tp p ∧ eoT n tp p ≤ n := by
  unfold eoT
  by_cases hl : isL (tp p)
  · rw [if_pos hl]
    have := rn_le (q := qL) (tp := tp) (show p + 1 ≤ n by omega)
    omega
  · rw [if_neg hl]
    by_cases hd : isD (tp p)
    · rw [if_pos hd]
      have := rn_le (q := qD) (tp := tp) (show p + 1 ≤ n by omega)
      omega
    · rw [if_neg hd]
      omega
theorem BT_le : ∀ i, BT n tp i ≤ n := by
  intro i
  induction i with
  | zero => exact (rn_le (Nat.zero_le _)).2
  | succ i ih =>
    rw [BT_S]
    unfold ET
    by_cases h : BT n tp i < n
    · rw [if_pos h]
      exact (rn_le (eoT_b h).2).2
    · rw [if_neg h]
      exact (rn_le ih).2
theorem BT_up {i : Nat} (h : BT n tp i < n) : BT n tp i < BT n tp (i + 1) := by
  rw [BT_S]
  unfold ET
  rw [if_pos h]
  have := eoT_b (tp := tp) h
  have := (rn_le (q := q32) (tp := tp) (eoT_b (tp := tp) h).2).1
  omega
theorem wdF_lt {p e : Nat} : ∀ d j, j + d = 18 → wdF tp p e d j ≠ 30000 ∧ wdF tp p e d j < 30002 := by
  intro d
  induction d with
  | zero => intro j _; exact ⟨(show (30001 : Nat) ≠ 30000 by decide), (show (30001 : Nat) < 30002 by decide)⟩
  | succ d ih =>
    intro j hj
    rw [wdF]
    by_cases h : smW tp j p e
    · rw [if_pos h]
      constructor <;> omega
    · rw [if_neg h]
      exact ih (j + 1) (by omega)
end TOK2
/-- all tokens ahead are some -/
def PO (T : Nat → Nat) (i : Nat) : Prop := ∀ j, j < i → T j ≠ 30000
theorem PO.next {T : Nat → Nat} {i : Nat} (h : PO T i) (hi : T i ≠ 30000) : PO T (i + 1) := fun j hj => by
  by_cases e : j = i
  · rw [e]; exact hi
  · exact h j (by omega)
theorem TT_n {n i : Nat} {tp : Nat → Nat} (h : TT n tp i ≠ 30000) : BT n tp i < n := by
  by_cases hb : BT n tp i < n
  · exact hb
  · unfold TT at h
    rw [if_neg hb] at h
    exact absurd rfl h
theorem PO.le {n : Nat} {tp : Nat → Nat} : ∀ {i : Nat}, PO (TT n tp) i → i ≤ BT n tp i := by
  intro i
  induction i with
  | zero => intro _; exact Nat.zero_le _
  | succ i ih =>
    intro h
    have a := ih (fun j hj => h j (by omega))
    have b := BT_up (TT_n (h i (by omega)))
    omega
/-! the class cuts so -/
theorem n_iL {b : Nat} (hb : b < 1000) (σ : SG) : f_Rt_isLetter (nI b) σ = some (bI (isL b), σ) := by
  unfold f_Rt_isLetter
  have h1 : nI b < (97 : Int32) ↔ b < 97 := n_lt (b := 97) (by omega) (by decide)
  have h2 : (122 : Int32) < nI b ↔ 122 < b := n_lt (a := 122) (by decide) (by omega)
  by_cases c1 : b < 97
  · rw [if_pos (h1.mpr c1), bI_neg (fun z => by have := z.1; omega)]
  · rw [if_neg (fun z => c1 (h1.mp z))]
    by_cases c2 : 122 < b
    · rw [if_pos (h2.mpr c2), bI_neg (fun z => by have := z.2; omega)]
    · rw [if_neg (fun z => c2 (h2.mp z)), bI_pos ⟨by omega, by omega⟩]
theorem n_iD {b : Nat} (hb : b < 1000) (σ : SG) : f_Rt_isDigit (nI b) σ = some (bI (isD b), σ) := by
  unfold f_Rt_isDigit
  have h1 : nI b < (48 : Int32) ↔ b < 48 := n_lt (b := 48) (by omega) (by decide)
  have h2 : (57 : Int32) < nI b ↔ 57 < b := n_lt (a := 57) (by decide) (by omega)
  by_cases c1 : b < 48
  · rw [if_pos (h1.mpr c1), bI_neg (fun z => by have := z.1; omega)]
  · rw [if_neg (fun z => c1 (h1.mp z))]
    by_cases c2 : 57 < b
    · rw [if_pos (h2.mpr c2), bI_neg (fun z => by have := z.2; omega)]
    · rw [if_neg (fun z => c2 (h2.mp z)), bI_pos ⟨by omega, by omega⟩]
section CUT
variable {σ : SG} {n : Nat} {tp : Nat → Nat}
theorem c_end16 (h : TPc σ n tp) : ∀ (d p f : Nat), p + d = n → d < f → f_Rt_endOf_16 f (nI p) σ = some (nI (rnT qL n tp p), σ) := by
  have hn := h.2.1
  intro d
  induction d with
  | zero =>
    intro p f hp hf
    obtain ⟨f, rfl⟩ : ∃ g, f = g + 1 := ⟨f - 1, by omega⟩
    have e : p = n := by omega
    rw [f_Rt_endOf_16, h.1, e, if_pos (Int32.le_refl _), rn_n (fun z => by omega)]
  | succ d ih =>
    intro p f hp hf
    obtain ⟨f, rfl⟩ : ∃ g, f = g + 1 := ⟨f - 1, by omega⟩
    have hlt : p < n := by omega
    obtain ⟨e, e2⟩ := h.2.2 p hlt
    rw [f_Rt_endOf_16, h.1, if_neg (nI_ge hlt (by omega)), gd_pos (ix_nI (by omega) (by decide)), nx_nI (by omega), e, n_iL (by omega), bnd_some]
    by_cases hl : isL (tp p)
    · rw [if_neg (bI_n0.mpr hl), lx_eq, nI_1, rn_y hlt (decide_eq_true hl)]
      exact ih (p + 1) f (by omega) (by omega)
    · rw [if_pos (bI_0.mpr hl), rn_n (fun z => hl (of_decide_eq_true z.2))]
theorem c_end54 (h : TPc σ n tp) : ∀ (d p f : Nat), p + d = n → d < f → f_Rt_endOf_54 f (nI p) σ = some (nI (rnT qD n tp p), σ) := by
  have hn := h.2.1
  intro d
  induction d with
  | zero =>
    intro p f hp hf
    obtain ⟨f, rfl⟩ : ∃ g, f = g + 1 := ⟨f - 1, by omega⟩
    have e : p = n := by omega
    rw [f_Rt_endOf_54, h.1, e, if_pos (Int32.le_refl _), rn_n (fun z => by omega)]
  | succ d ih =>
    intro p f hp hf
    obtain ⟨f, rfl⟩ : ∃ g, f = g + 1 := ⟨f - 1, by omega⟩
    have hlt : p < n := by omega
    obtain ⟨e, e2⟩ := h.2.2 p hlt
    rw [f_Rt_endOf_54, h.1, if_neg (nI_ge hlt (by omega)), gd_pos (ix_nI (by omega) (by decide)), nx_nI (by omega), e, n_iD (by omega), bnd_some]
    by_cases hl : isD (tp p)
    · rw [if_neg (bI_n0.mpr hl), lx_eq, nI_1, rn_y hlt (decide_eq_true hl)]
      exact ih (p + 1) f (by omega) (by omega)
    · rw [if_pos (bI_0.mpr hl), rn_n (fun z => hl (of_decide_eq_true z.2))]
theorem c_endOf (h : TPc σ n tp) {p : Nat} (hp : p < n) : f_Rt_endOf (nI p) σ = some (nI (eoT n tp p), σ) := by
  have hn := h.2.1
  obtain ⟨e, e2⟩ := h.2.2 p hp
  unfold f_Rt_endOf eoT
  rw [lx_eq, nI_1, gd_pos (ix_nI (by omega) (by decide)), nx_nI (by omega), e, n_iL (by omega), bnd_some]
  by_cases hl : isL (tp p)
  · rw [if_neg (bI_n0.mpr hl), if_pos hl]
    exact c_end16 h (n - (p + 1)) (p + 1) FU (by omega) (by rw [FU_eq]; omega)
  · rw [if_pos (bI_0.mpr hl), if_neg hl, gd_pos (ix_nI (by omega) (by decide)), e, n_iD (by omega), bnd_some]
    by_cases hd : isD (tp p)
    · rw [if_neg (bI_n0.mpr hd), if_pos hd]
      exact c_end54 h (n - (p + 1)) (p + 1) FU (by omega) (by rw [FU_eq]; omega)
    · rw [if_pos (bI_0.mpr hd), if_neg hd]
theorem c_same_l (h : TPc σ n tp) {j p e : Nat} (hj : j < nS) (hl : slenN j = e - p) (hpe : p ≤ e) (he : e ≤ n) : ∀ (d k f : Nat), k + d = e - p → d < f → (∀ i, i < k → schr j i = nI (tp (p + i))) → f_Rt_isSame_15 f j (nI p) (nI e) (nI (p + k)) σ = some (bI (smW tp j p e), σ) := by
  have hn := h.2.1
  intro d
  induction d with
  | zero =>
    intro k f hk hf hs
    obtain ⟨f, rfl⟩ : ∃ g, f = g + 1 := ⟨f - 1, by omega⟩
    rw [f_Rt_isSame_15, if_pos ((n_le (by omega) (by omega)).mpr (by omega)), bI_pos ⟨hl, fun i hi => hs i (by omega)⟩]
  | succ d ih =>
    intro k f hk hf hs
    obtain ⟨f, rfl⟩ : ∃ g, f = g + 1 := ⟨f - 1, by omega⟩
    obtain ⟨et, et2⟩ := h.2.2 (p + k) (by omega)
    have ek : nI (p + k) - nI p = nI k := by rw [n_sub (by omega), Nat.add_sub_cancel_left]
    rw [f_Rt_isSame_15, if_neg (show ¬ nI e ≤ nI (p + k) from nI_ge (by omega) (by omega)), ek, gd_pos ⟨hj, by rw [hl]; exact ix_nI (by omega) (by omega)⟩, gd_pos (ix_nI (by omega) (by decide)), nx_nI (by omega), nx_nI (by omega), et]
    by_cases hc : schr j k = nI (tp (p + k))
    · rw [if_pos hc, lx_eq, nI_1, Nat.add_assoc]
      exact ih (k + 1) f (by omega) (by omega) (fun i hi => by
        by_cases e : i = k
        · rw [e]; exact hc
        · exact hs i (by omega))
    · rw [if_neg hc, bI_neg (fun z => hc (z.2 k (by omega)))]
theorem slen_lt : ∀ j, j < 19 → slenN j < 10 := by decide
theorem c_same (h : TPc σ n tp) {j p e : Nat} (hj : j < nS) (hpe : p ≤ e) (he : e ≤ n) : f_Rt_isSame j (nI p) (nI e) σ = some (bI (smW tp j p e), σ) := by
  have hn := h.2.1
  have hs := slen_lt j hj
  unfold f_Rt_isSame
  rw [gd_pos hj, n_sub hpe]
  by_cases hl : slenN j = e - p
  · rw [if_pos (show slen j = nI (e - p) by rw [← hl]; rfl)]
    exact c_same_l h hj hl hpe he (e - p) 0 FU (Nat.zero_add _) (by rw [FU_eq]; omega) (fun i hi => absurd hi (Nat.not_lt_zero _))
  · rw [if_neg (show ¬ slen j = nI (e - p) from fun z => hl ((n_inj (by omega) (by omega)).mp z)), bI_neg (fun z => hl z.1)]
theorem c_wordOf : ∀ j, j < 18 → ∀ (σ : SG), f_Rt_wordOf (nI (10000 + j)) σ = some (j, σ) := by
  intro j hj σ
  match j, hj with
  | 0, _ => rfl
  | 1, _ => rfl
  | 2, _ => rfl
  | 3, _ => rfl
  | 4, _ => rfl
  | 5, _ => rfl
  | 6, _ => rfl
  | 7, _ => rfl
  | 8, _ => rfl
  | 9, _ => rfl
  | 10, _ => rfl
  | 11, _ => rfl
  | 12, _ => rfl
  | 13, _ => rfl
  | 14, _ => rfl
  | 15, _ => rfl
  | 16, _ => rfl
  | 17, _ => rfl
  | j + 18, h => exact absurd h (by omega)
theorem c_code16 (h : TPc σ n tp) {p e : Nat} (hpe : p ≤ e) (he : e ≤ n) : ∀ (d j f : Nat), j + d = 18 → d < f → f_Rt_codeOf_16 f (nI p) (nI e) (nI (10000 + j)) σ = some (nI (wdF tp p e d j), σ) := by
  intro d
  induction d with
  | zero =>
    intro j f hj hf
    obtain ⟨f, rfl⟩ : ∃ g, f = g + 1 := ⟨f - 1, by omega⟩
    have e : j = 18 := by omega
    subst e
    rw [f_Rt_codeOf_16, if_pos (by decide)]
    rfl
  | succ d ih =>
    intro j f hj hf
    obtain ⟨f, rfl⟩ : ∃ g, f = g + 1 := ⟨f - 1, by omega⟩
    rw [f_Rt_codeOf_16, if_neg (show ¬ (10018 : Int32) ≤ nI (10000 + j) from nI_ge (show 10000 + j < 10018 by omega) (by decide)), c_wordOf j (by omega), bnd_some, c_same h (show j < 19 by omega) hpe he, bnd_some, wdF]
    by_cases hs : smW tp j p e
    · rw [if_neg (bI_n0.mpr hs), if_pos hs]
    · rw [if_pos (bI_0.mpr hs), if_neg hs, lx_eq, nI_1, Nat.add_assoc]
      exact ih (j + 1) f (by omega) (by omega)
theorem c_code87 (h : TPc σ n tp) {e : Nat} (he : e ≤ n) : ∀ (d k f v : Nat), k + d = e → d < f → (∀ i, k ≤ i → i < e → isD (tp i)) → f_Rt_codeOf_87 f (nI e) (nI v) (nI k) σ = some (nI (nmF tp d k v), σ) := by
  have hn := h.2.1
  intro d
  induction d with
  | zero =>
    intro k f v hk hf hD
    obtain ⟨f, rfl⟩ : ∃ g, f = g + 1 := ⟨f - 1, by omega⟩
    have ee : k = e := hk
    rw [f_Rt_codeOf_87, ee, if_pos (Int32.le_refl _)]
    rfl
  | succ d ih =>
    intro k f v hk hf hD
    obtain ⟨f, rfl⟩ : ∃ g, f = g + 1 := ⟨f - 1, by omega⟩
    obtain ⟨et, et2⟩ := h.2.2 k (by omega)
    have hd := hD k (Nat.le_refl _) (by omega)
    rw [f_Rt_codeOf_87, if_neg (nI_ge (show k < e by omega) (by omega)), gd_pos (ix_nI (by omega) (by decide)), nx_nI (by omega), et, show (10 : Int32) = nI 10 from rfl, n_mul, n_add, show (48 : Int32) = nI 48 from rfl, n_sub (by have := hd.1; omega), lx_eq, lx_eq, nI_1, nmF, show v * 10 + tp k - 48 = v * 10 + (tp k - 48) by have := hd.1; omega]
    exact ih (k + 1) f _ (by omega) (by omega) (fun i h1 h2 => hD i (by omega) h2)
end CUT
theorem rn_in {q : Nat → Bool} {n : Nat} {tp : Nat → Nat} : ∀ (d p : Nat), p + d = n → ∀ i, p ≤ i → i < rnT q n tp p → q (tp i) = true := by
  intro d
  induction d with
  | zero =>
    intro p h i h1 h2
    rw [rn_n (fun z => by omega)] at h2
    omega
  | succ d ih =>
    intro p h i h1 h2
    by_cases hc : p < n ∧ q (tp p) = true
    · rw [rn_y hc.1 hc.2] at h2
      by_cases e : i = p
      · rw [e]; exact hc.2
      · exact ih (p + 1) (by omega) i (by omega) h2
    · rw [rn_n hc] at h2
      omega
theorem eo_D {n p : Nat} {tp : Nat → Nat} (hp : p < n) (hl : ¬ isL (tp p)) (hd : isD (tp p)) : ∀ i, p ≤ i → i < eoT n tp p → isD (tp i) := by
  intro i h1 h2
  unfold eoT at h2
  rw [if_neg hl, if_pos hd] at h2
  by_cases e : i = p
  · rw [e]; exact hd
  · exact of_decide_eq_true (rn_in (q := qD) (n - (p + 1)) (p + 1) (by omega) i (by omega) h2)
theorem eo_L {n p : Nat} {tp : Nat → Nat} (hp : p < n) (hl : isL (tp p)) : ∀ i, p ≤ i → i < eoT n tp p → isL (tp i) := by
  intro i h1 h2
  unfold eoT at h2
  rw [if_pos hl] at h2
  by_cases e : i = p
  · rw [e]; exact hl
  · exact of_decide_eq_true (rn_in (q := qL) (n - (p + 1)) (p + 1) (by omega) i (by omega) h2)
theorem c_codeOf {σ : SG} {n : Nat} {tp : Nat → Nat} (h : TPc σ n tp) {p : Nat} (hp : p < n) : f_Rt_codeOf (nI p) (nI (eoT n tp p)) σ = some (nI (codeT tp p (eoT n tp p)), σ) := by
  have hn := h.2.1
  obtain ⟨e, e2⟩ := h.2.2 p hp
  obtain ⟨b1, b2⟩ := eoT_b (tp := tp) hp
  unfold f_Rt_codeOf codeT
  rw [gd_pos (ix_nI (by omega) (by decide)), nx_nI (k := p) (by omega), e, n_iL (by omega), bnd_some]
  by_cases hl : isL (tp p)
  · rw [if_neg (bI_n0.mpr hl), if_pos hl]
    exact c_code16 h (by omega) b2 18 0 FU rfl (by rw [FU_eq]; omega)
  · rw [if_pos (bI_0.mpr hl), if_neg hl, gd_pos (ix_nI (by omega) (by decide)), e, n_iD (by omega), bnd_some]
    by_cases hd : isD (tp p)
    · rw [if_pos (bI_n0.mpr hd), if_pos hd, n_sub (by omega)]
      by_cases h4 : eoT n tp p - p ≤ 4
      · rw [if_pos (show nI (eoT n tp p - p) ≤ (4 : Int32) from (n_le (b := 4) (by omega) (by decide)).mpr h4), if_pos h4]
        exact c_code87 h b2 (eoT n tp p - p) p FU 0 (by omega) (by rw [FU_eq]; omega) (fun i h1 h2 => eo_D hp hl hd i h1 h2)
      · rw [if_neg (show ¬ nI (eoT n tp p - p) ≤ (4 : Int32) from fun z => h4 ((n_le (b := 4) (by omega) (by decide)).mp z)), if_neg h4]
        rfl
    · rw [if_neg (fun z => z (bI_0.mpr hd)), if_neg hd, gd_pos (ix_nI (by omega) (by decide)), e]
      show some (nI 20000 + nI (tp p), σ) = _
      rw [n_add]
/-- the tokens that the class has cut -/
def TKc (σ : SG) (n : Nat) (tp : Nat → Nat) (N : Nat) : Prop := BT n tp N = n ∧ N ≤ 200 ∧ (∀ i, i < N → BT n tp i < n) ∧ ∀ i, i ≤ N → σ.1 132 i = nI (TT n tp i) ∧ σ.1 133 i = nI (BT n tp i)
theorem c_cut_l {n : Nat} {tp : Nat → Nat} : ∀ (D d p i k f : Nat) (σ : SG), d ≤ D → p + d = n → d < f → TPc σ n tp → rnT q32 n tp p = BT n tp i → i ≤ p → k ≤ p → (∀ j, j < i → BT n tp j < n ∧ σ.1 132 j = nI (TT n tp j) ∧ σ.1 133 j = nI (BT n tp j)) → ∃ σ' N, f_Rt_cut_6 f (nI i) (nI p) (nI k) σ = some ((), σ') ∧ TKc σ' n tp N ∧ fr (fun c => c = 132 ∨ c = 133) σ σ' := by
  intro D
  have fin : ∀ (p i k f : Nat) (σ : SG), p = n → 0 < f → TPc σ n tp → rnT q32 n tp p = BT n tp i → i ≤ p → k ≤ p → (∀ j, j < i → BT n tp j < n ∧ σ.1 132 j = nI (TT n tp j) ∧ σ.1 133 j = nI (BT n tp j)) → ∃ σ' N, f_Rt_cut_6 f (nI i) (nI p) (nI k) σ = some ((), σ') ∧ TKc σ' n tp N ∧ fr (fun c => c = 132 ∨ c = 133) σ σ' := by
    intro p i k f σ ep hf h hB hip hkp hj
    obtain ⟨f, rfl⟩ : ∃ g, f = g + 1 := ⟨f - 1, by omega⟩
    have hn := h.2.1
    have eB : BT n tp i = n := by rw [← hB, ep]; exact rn_n (fun z => by omega)
    have eT : TT n tp i = 30000 := by
      unfold TT
      rw [if_neg (by omega)]
    have ex : (if (200 : Int32) ≤ nI k then gd (ix (nI i) 201) (sx (uI σ 132 (nx (nI i)) (30000 : Int32)) (fun σ1 => gd (ix (nI i) 201) (sx (uI σ1 133 (nx (nI i)) (σ1.1 130 1)) (fun σ2 => some ((), σ2))))) else (if (σ.1 130 1) ≤ nI p then gd (ix (nI i) 201) (sx (uI σ 132 (nx (nI i)) (30000 : Int32)) (fun σ3 => gd (ix (nI i) 201) (sx (uI σ3 133 (nx (nI i)) (σ3.1 130 1)) (fun σ4 => some ((), σ4))))) else none)) = some ((), uI (uI σ 132 i (30000 : Int32)) 133 i (nI n)) := by
      have e1 : gd (ix (nI i) 201) (sx (uI σ 132 (nx (nI i)) (30000 : Int32)) (fun σ1 => gd (ix (nI i) 201) (sx (uI σ1 133 (nx (nI i)) (σ1.1 130 1)) (fun σ2 => some ((), σ2))))) = some ((), uI (uI σ 132 i (30000 : Int32)) 133 i (nI n)) := by
        rw [gd_pos (ix_nI (by omega) (by decide)), nx_nI (by omega), sx_eq, gd_pos (ix_nI (by omega) (by decide)), uI_c (by decide), h.1, sx_eq]
      by_cases c : (200 : Int32) ≤ nI k
      · rw [if_pos c, e1]
      · rw [if_neg c, h.1, ep, if_pos (Int32.le_refl _)]
        exact e1
    refine ⟨uI (uI σ 132 i (30000 : Int32)) 133 i (nI n), i, ?_, ⟨eB, by omega, fun j hj2 => (hj j hj2).1, fun j hj2 => ?_⟩, fr.tr (fr.uI (Or.inl rfl)) (fr.uI (Or.inr rfl))⟩
    · rw [f_Rt_cut_6]
      by_cases c : (200 : Int32) ≤ nI k
      · rw [if_pos c] at ex ⊢
        exact ex
      · have c2 : σ.1 130 1 ≤ nI p := by rw [h.1, ep]; exact Int32.le_refl _
        rw [if_neg c, if_pos c2] at ex ⊢
        exact ex
    · by_cases e : j = i
      · rw [e, uI_c (by decide), uI_same, uI_same, eT, eB]
        exact ⟨rfl, rfl⟩
      · rw [uI_c (by decide), uI_i e, uI_i e, uI_c (by decide)]
        exact (hj j (by omega)).2
  induction D with
  | zero =>
    intro d p i k f σ hD hp hf h hB hip hkp hj
    exact fin p i k f σ (by omega) (by omega) h hB hip hkp hj
  | succ D ih =>
    intro d p i k f σ hD hp hf h hB hip hkp hj
    by_cases hend : p = n
    · exact fin p i k f σ hend (by omega) h hB hip hkp hj
    obtain ⟨f, rfl⟩ : ∃ g, f = g + 1 := ⟨f - 1, by omega⟩
    have hn := h.2.1
    have hlt : p < n := by omega
    obtain ⟨et, et2⟩ := h.2.2 p hlt
    obtain ⟨b1, b2⟩ := eoT_b (tp := tp) hlt
    rw [f_Rt_cut_6, if_neg (show ¬ (200 : Int32) ≤ nI k from nI_ge (show k < 200 by omega) (by decide)), h.1, if_neg (nI_ge hlt (by omega)), c_endOf h hlt, bnd_some, gd_pos (ix_nI (by omega) (by decide)), nx_nI (k := p) (by omega), et]
    by_cases h32 : tp p = 32
    · have e1 : eoT n tp p = p + 1 := by
        unfold eoT
        rw [h32, if_neg (by decide), if_neg (by decide)]
      rw [if_pos (show nI (tp p) = (32 : Int32) by rw [h32]; rfl), lx_eq, nI_1, e1]
      exact ih (d - 1) (p + 1) i (k + 1) f σ (by omega) (by omega) (by omega) h (by rw [← hB]; exact (rn_y hlt (decide_eq_true h32)).symm) (by omega) (by omega) hj
    · have eB : BT n tp i = p := by rw [← hB]; exact rn_n (fun z => h32 (of_decide_eq_true z.2))
      have eE : ET n tp i = eoT n tp p := by
        unfold ET
        rw [eB, if_pos hlt]
      have eT : TT n tp i = codeT tp p (eoT n tp p) := by
        unfold TT
        rw [eE, eB, if_pos hlt]
      rw [if_neg (show ¬ nI (tp p) = (32 : Int32) from fun z => h32 ((n_inj (b := 32) (by omega) (by decide)).mp z)), c_codeOf h hlt, bnd_some, gd_pos (ix_nI (by omega) (by decide)), nx_nI (k := i) (by omega), sx_eq, gd_pos (ix_nI (by omega) (by decide)), sx_eq, lx_eq, lx_eq, nI_1, nI_1]
      have h2 : TPc (uI (uI σ 132 i (nI (codeT tp p (eoT n tp p)))) 133 i (nI p)) n tp := ⟨by rw [uI_c (by decide), uI_c (by decide)]; exact h.1, hn, fun j hj2 => by rw [uI_c (by decide), uI_c (by decide)]; exact h.2.2 j hj2⟩
      obtain ⟨σ', N, q1, q2, q3⟩ := ih (n - eoT n tp p) (eoT n tp p) (i + 1) (k + 1) f _ (by omega) (by omega) (by omega) h2 (by rw [BT_S, eE]) (by omega) (by omega) (fun j hj2 => by
        by_cases e : j = i
        · rw [e, uI_c (by decide), uI_same, uI_same, eB, eT]
          exact ⟨hlt, rfl, rfl⟩
        · rw [uI_c (by decide), uI_i e, uI_i e, uI_c (by decide)]
          exact hj j (by omega))
      exact ⟨σ', N, q1, q2, (fr.tr (fr.uI (Or.inl rfl)) (fr.uI (Or.inr rfl))).tr q3⟩
theorem c_cut {σ : SG} {n : Nat} {tp : Nat → Nat} (h : TPc σ n tp) : ∃ σ' N, f_Rt_cut σ = some ((), σ') ∧ TKc σ' n tp N ∧ fr (fun c => c = 132 ∨ c = 133) σ σ' := by
  have hn := h.2.1
  unfold f_Rt_cut
  exact c_cut_l n n 0 0 0 FU σ (Nat.le_refl _) (Nat.zero_add _) (by rw [FU_eq]; omega) h rfl (Nat.le_refl _) (Nat.le_refl _) (fun j hj => absurd hj (Nat.not_lt_zero _))
/-- where it stands, as long as none was the end -/
theorem TKc.at {σ : SG} {n N i : Nat} {tp : Nat → Nat} (h : TKc σ n tp N) (hp : PO (TT n tp) i) : i ≤ 200 ∧ σ.1 132 i = nI (TT n tp i) ∧ σ.1 133 i = nI (BT n tp i) := by
  obtain ⟨h1, h2, h3, h4⟩ := h
  have hle : i ≤ N := by
    by_cases hc : i ≤ N
    · exact hc
    · have e : TT n tp N = 30000 := by
        unfold TT
        rw [if_neg (by omega)]
      exact absurd e (hp N (by omega))
  exact ⟨by omega, h4 i hle⟩
