/-! the reference's tokens -/
def BA (n : Nat) (tp : Nat → Nat) (p : Nat) : Int32 := if p < n then nI (tp p) else -1
/-- nothing but slots of P in the reference's own cell -/
def F48 (P : Nat → Prop) (σ σ' : SG) : Prop := fr (fun c => c = 148) σ σ' ∧ ∀ i, ¬ P i → σ'.1 148 i = σ.1 148 i
theorem F48.rf {P : Nat → Prop} {σ : SG} : F48 P σ σ := ⟨fr.rf, fun _ _ => rfl⟩
theorem F48.tr {P : Nat → Prop} {a b c : SG} (h : F48 P a b) (g : F48 P b c) : F48 P a c := ⟨h.1.tr g.1, fun i hi => (g.2 i hi).trans (h.2 i hi)⟩
theorem F48.mono {P Q : Nat → Prop} {a b : SG} (h : F48 P a b) (hq : ∀ i, P i → Q i) : F48 Q a b := ⟨h.1, fun i hi => h.2 i (fun z => hi (hq i z))⟩
theorem F48.u {P : Nat → Prop} {σ : SG} {i : Nat} {v : Int32} (h : P i) : F48 P σ (uI σ 148 i v) := ⟨fr.uI rfl, fun j hj => uI_i (fun z => hj (z ▸ h))⟩
theorem TPm.f48 {P : Nat → Prop} {σ σ' : SG} {n : Nat} {tp : Nat → Nat} (h : TPm σ n tp) (g : F48 P σ σ') (hp : ¬ P 26) : TPm σ' n tp := ⟨(g.2 26 hp).trans h.1, h.2.1, fun i hi => by rw [g.1.at (by decide) i]; exact h.2.2 i hi⟩
section MT
variable {n : Nat} {tp : Nat → Nat}
theorem m_byteAt {σ : SG} (h : TPm σ n tp) {p : Nat} (hp : p < 2147483648) : f_M_byteAt (nI p) σ = some (BA n tp p, σ) := by
  have hn := h.2.1
  unfold f_M_byteAt BA
  rw [h.1]
  by_cases hq : p < n
  · rw [if_neg (nI_ge hq (by omega)), gd_pos (ix_nI (by omega) (by decide)), nx_nI hp, (h.2.2 p hq).1, if_pos hq]
  · rw [if_pos ((n_le (by omega) hp).mpr (by omega)), if_neg hq]
theorem m_isL (x : Int32) (σ : SG) : f_M_isLetter x σ = some (bI (97 ≤ x ∧ x ≤ 122), σ) := by
  unfold f_M_isLetter
  rw [m_in32 (a := 97) (b := 122) rfl rfl, bnd_some, gd_pos]
  by_cases h : 97 ≤ x ∧ x ≤ 122
  · exact Or.inr (bI_pos h)
  · exact Or.inl (bI_neg h)
theorem m_isD (x : Int32) (σ : SG) : f_M_isDigit x σ = some (bI (48 ≤ x ∧ x ≤ 57), σ) := by
  unfold f_M_isDigit
  rw [m_in32 (a := 48) (b := 57) rfl rfl, bnd_some, gd_pos]
  by_cases h : 48 ≤ x ∧ x ≤ 57
  · exact Or.inr (bI_pos h)
  · exact Or.inl (bI_neg h)
theorem BA_span (hb : ∀ i, i < n → tp i < 256) {p a b : Nat} (hp : p ≤ n) (ha : a < 256) (hb2 : b < 256) : (nI a ≤ BA n tp p ∧ BA n tp p ≤ nI b) ↔ (p < n ∧ a ≤ tp p ∧ tp p ≤ b) := by
  unfold BA
  by_cases h : p < n
  · have := hb p h
    rw [if_pos h, n_le (by omega) (by omega), n_le (by omega) (by omega)]
    exact ⟨fun z => ⟨h, z⟩, fun z => z.2⟩
  · rw [if_neg h]
    refine ⟨fun z => absurd z.1 ?_, fun z => absurd z.1 h⟩
    have e : (-1 : Int32).toInt = -1 := by decide
    rw [i_le, nI_toInt (by omega), e]
    omega
theorem m_iLA (hb : ∀ i, i < n → tp i < 256) {p : Nat} (hp : p ≤ n) (σ : SG) : f_M_isLetter (BA n tp p) σ = some (bI (p < n ∧ isL (tp p)), σ) := by
  rw [m_isL]
  have e : ((97 : Int32) ≤ BA n tp p ∧ BA n tp p ≤ 122) ↔ _ := BA_span hb (a := 97) (b := 122) hp (by decide) (by decide)
  by_cases h : p < n ∧ isL (tp p)
  · rw [bI_pos h, bI_pos (e.mpr h)]
  · rw [bI_neg h, bI_neg (fun z => h (e.mp z))]
theorem m_iDA (hb : ∀ i, i < n → tp i < 256) {p : Nat} (hp : p ≤ n) (σ : SG) : f_M_isDigit (BA n tp p) σ = some (bI (p < n ∧ isD (tp p)), σ) := by
  rw [m_isD]
  have e : ((48 : Int32) ≤ BA n tp p ∧ BA n tp p ≤ 57) ↔ _ := BA_span hb (a := 48) (b := 57) hp (by decide) (by decide)
  by_cases h : p < n ∧ isD (tp p)
  · rw [bI_pos h, bI_pos (e.mpr h)]
  · rw [bI_neg h, bI_neg (fun z => h (e.mp z))]
theorem TPm.b {σ : SG} (h : TPm σ n tp) : ∀ i, i < n → tp i < 256 := fun i hi => (h.2.2 i hi).2
theorem m_t86L : ∀ (d p f : Nat) (σ : SG), p + d = n → d < f → TPm σ n tp → σ.1 148 28 = nI p → ∃ σ', f_M_token_86 f 1 0 σ = some ((), σ') ∧ σ'.1 148 28 = nI (rnT qL n tp p) ∧ F48 (fun i => i = 28) σ σ' := by
  intro d
  induction d with
  | zero =>
    intro p f σ hp hf h h28
    obtain ⟨f, rfl⟩ : ∃ g, f = g + 1 := ⟨f - 1, by omega⟩
    have hn := h.2.1
    have e : p = n := by omega
    refine ⟨σ, ?_, by rw [rn_n (fun z => by omega)]; exact h28, F48.rf⟩
    rw [f_M_token_86, if_neg (by decide), h28, m_byteAt h (by omega), bnd_some, m_iLA h.b (by omega), bnd_some, if_neg (fun z => z (bI_0.mpr (fun w => by omega)))]
    unfold f_M_token_104
    rw [if_pos rfl]
  | succ d ih =>
    intro p f σ hp hf h h28
    obtain ⟨f, rfl⟩ : ∃ g, f = g + 1 := ⟨f - 1, by omega⟩
    have hn := h.2.1
    rw [f_M_token_86, if_neg (by decide), h28, m_byteAt h (by omega), bnd_some, m_iLA h.b (by omega), bnd_some]
    by_cases hl : isL (tp p)
    · rw [if_pos (bI_n0.mpr ⟨by omega, hl⟩), sx_eq, h28, nI_1, rn_y (by omega) (decide_eq_true hl)]
      obtain ⟨σ', u1, u2, u3⟩ := ih (p + 1) f (uI σ 148 28 (nI (p + 1))) (by omega) (by omega) (h.f48 (P := fun i => i = 28) (F48.u rfl) (by decide)) uI_same
      exact ⟨σ', u1, u2, F48.tr (F48.u rfl) u3⟩
    · rw [if_neg (fun z => z (bI_0.mpr (fun w => hl w.2)))]
      refine ⟨σ, ?_, by rw [rn_n (fun z => hl (of_decide_eq_true z.2))]; exact h28, F48.rf⟩
      unfold f_M_token_104
      rw [if_pos rfl]
theorem m_t86D : ∀ (d p f : Nat) (σ : SG), p + d = n → d < f → TPm σ n tp → σ.1 148 28 = nI p → ∃ σ', f_M_token_86 f 0 1 σ = some ((), σ') ∧ σ'.1 148 28 = nI (rnT qD n tp p) ∧ F48 (fun i => i = 28) σ σ' := by
  intro d
  induction d with
  | zero =>
    intro p f σ hp hf h h28
    obtain ⟨f, rfl⟩ : ∃ g, f = g + 1 := ⟨f - 1, by omega⟩
    have hn := h.2.1
    have e : p = n := by omega
    refine ⟨σ, ?_, by rw [rn_n (fun z => by omega)]; exact h28, F48.rf⟩
    rw [f_M_token_86, if_pos rfl]
    unfold f_M_token_104
    rw [if_neg (by decide), h28, m_byteAt h (by omega), bnd_some, m_iDA h.b (by omega), bnd_some, if_pos (bI_0.mpr (fun w => by omega))]
  | succ d ih =>
    intro p f σ hp hf h h28
    obtain ⟨f, rfl⟩ : ∃ g, f = g + 1 := ⟨f - 1, by omega⟩
    have hn := h.2.1
    rw [f_M_token_86, if_pos rfl]
    unfold f_M_token_104
    rw [if_neg (by decide), h28, m_byteAt h (by omega), bnd_some, m_iDA h.b (by omega), bnd_some]
    by_cases hl : isD (tp p)
    · rw [if_neg (bI_n0.mpr ⟨by omega, hl⟩), sx_eq, h28, nI_1, rn_y (by omega) (decide_eq_true hl)]
      obtain ⟨σ', u1, u2, u3⟩ := ih (p + 1) f (uI σ 148 28 (nI (p + 1))) (by omega) (by omega) (h.f48 (P := fun i => i = 28) (F48.u rfl) (by decide)) uI_same
      exact ⟨σ', u1, u2, F48.tr (F48.u rfl) u3⟩
    · rw [if_pos (bI_0.mpr (fun w => hl w.2))]
      exact ⟨σ, rfl, by rw [rn_n (fun z => hl (of_decide_eq_true z.2))]; exact h28, F48.rf⟩
/-- where a token that begins there ends -/
def edT (n : Nat) (tp : Nat → Nat) (p : Nat) : Nat := if p < n then eoT n tp p else p
theorem m_t8 : ∀ (d p f : Nat) (σ : SG), p + d = n → d < f → TPm σ n tp → σ.1 148 27 = nI p → ∃ σ', f_M_token_8 f σ = some ((), σ') ∧ σ'.1 148 27 = nI (rnT q32 n tp p) ∧ σ'.1 148 28 = nI (edT n tp (rnT q32 n tp p)) ∧ F48 (fun i => i = 27 ∨ i = 28) σ σ' := by
  have stop : ∀ (p f : Nat) (σ : SG), p ≤ n → ¬ (p < n ∧ tp p = 32) → TPm σ n tp → σ.1 148 27 = nI p → ∃ σ', f_M_token_8 (f + 1) σ = some ((), σ') ∧ σ'.1 148 27 = nI p ∧ σ'.1 148 28 = nI (edT n tp p) ∧ F48 (fun i => i = 27 ∨ i = 28) σ σ' := by
    intro p f σ hp h32 h h27
    have hn := h.2.1
    have hb := h.b
    have hne : ¬ BA n tp p = (32 : Int32) := by
      unfold BA
      by_cases hq : p < n
      · have := hb p hq
        rw [if_pos hq]
        exact fun z => h32 ⟨hq, (n_inj (b := 32) (by omega) (by decide)).mp z⟩
      · rw [if_neg hq]
        decide
    rw [f_M_token_8, h27, m_byteAt h (by omega), bnd_some, if_pos hne, h27, m_byteAt h (by omega), bnd_some, m_iLA hb hp, bnd_some, h27, m_byteAt h (by omega), bnd_some, m_iDA hb hp, bnd_some, h.1, h27]
    by_cases hq : p < n
    · rw [if_neg (nI_ge hq (by omega)), sx_eq, nI_1]
      have h2 := h.f48 (P := fun i => i = 28) (σ' := uI σ 148 28 (nI (p + 1))) (F48.u rfl) (by decide)
      have e7 : (uI σ 148 28 (nI (p + 1))).1 148 27 = nI p := by rw [uI_i (by decide)]; exact h27
      have f0 : F48 (fun i => i = 28) σ (uI σ 148 28 (nI (p + 1))) := F48.u rfl
      unfold edT eoT
      rw [if_pos hq]
      by_cases hl : isL (tp p)
      · have hd : ¬ isD (tp p) := fun z => by have := hl.1; have := z.2; omega
        rw [if_pos hl, bI_pos (show p < n ∧ isL (tp p) from ⟨hq, hl⟩), bI_neg (fun z : p < n ∧ isD (tp p) => hd z.2)]
        obtain ⟨σ', u1, u2, u3⟩ := m_t86L (n - (p + 1)) (p + 1) FU _ (by omega) (by rw [FU_eq]; omega) h2 uI_same
        exact ⟨σ', u1, (u3.2 27 (by decide)).trans e7, u2, (f0.tr u3).mono (fun i hi => Or.inr hi)⟩
      · rw [if_neg hl, bI_neg (fun z : p < n ∧ isL (tp p) => hl z.2)]
        by_cases hd : isD (tp p)
        · rw [if_pos hd, bI_pos (show p < n ∧ isD (tp p) from ⟨hq, hd⟩)]
          obtain ⟨σ', u1, u2, u3⟩ := m_t86D (n - (p + 1)) (p + 1) FU _ (by omega) (by rw [FU_eq]; omega) h2 uI_same
          exact ⟨σ', u1, (u3.2 27 (by decide)).trans e7, u2, (f0.tr u3).mono (fun i hi => Or.inr hi)⟩
        · rw [if_neg hd, bI_neg (fun z : p < n ∧ isD (tp p) => hd z.2)]
          obtain ⟨m, em⟩ : ∃ m, FU = m + 1 := ⟨FU - 1, by rw [FU_eq]⟩
          refine ⟨_, ?_, e7, uI_same, f0.mono (fun i hi => Or.inr hi)⟩
          rw [em, f_M_token_86, if_pos rfl]
          unfold f_M_token_104
          rw [if_pos rfl]
    · rw [if_pos ((n_le (by omega) (by omega)).mpr (by omega)), sx_eq, bI_neg (fun z : p < n ∧ isL (tp p) => hq z.1), bI_neg (fun z : p < n ∧ isD (tp p) => hq z.1)]
      obtain ⟨m, em⟩ : ∃ m, FU = m + 1 := ⟨FU - 1, by rw [FU_eq]⟩
      refine ⟨uI σ 148 28 (nI p), ?_, by rw [uI_i (by decide)]; exact h27, ?_, F48.u (Or.inr rfl)⟩
      · rw [em, f_M_token_86, if_pos rfl]
        unfold f_M_token_104
        rw [if_pos rfl]
      · unfold edT
        rw [uI_same, if_neg hq]
  intro d
  induction d with
  | zero =>
    intro p f σ hp hf h h27
    obtain ⟨f, rfl⟩ : ∃ g, f = g + 1 := ⟨f - 1, by omega⟩
    have h32 : ¬ (p < n ∧ tp p = 32) := fun z => by omega
    rw [rn_n (q := q32) (fun z => h32 ⟨z.1, of_decide_eq_true z.2⟩)]
    exact stop p f σ (by omega) h32 h h27
  | succ d ih =>
    intro p f σ hp hf h h27
    obtain ⟨f, rfl⟩ : ∃ g, f = g + 1 := ⟨f - 1, by omega⟩
    by_cases h32 : tp p = 32
    · have hq : p < n := by omega
      have hn := h.2.1
      rw [rn_y (q := q32) hq (decide_eq_true h32), f_M_token_8, h27, m_byteAt h (by omega), bnd_some, if_neg (show ¬ ¬ BA n tp p = (32 : Int32) from fun z => z (by unfold BA; rw [if_pos hq, h32]; rfl)), sx_eq, h27, nI_1]
      obtain ⟨σ', u1, u2, u3, u4⟩ := ih (p + 1) f (uI σ 148 27 (nI (p + 1))) (by omega) (by omega) (h.f48 (P := fun i => i = 27 ∨ i = 28) (F48.u (Or.inl rfl)) (by decide)) uI_same
      exact ⟨σ', u1, u2, u3, F48.tr (F48.u (Or.inl rfl)) u4⟩
    · have h33 : ¬ (p < n ∧ tp p = 32) := fun z => h32 z.2
      rw [rn_n (q := q32) (fun z => h33 ⟨z.1, of_decide_eq_true z.2⟩)]
      exact stop p f σ (by omega) h33 h h27
theorem m_token {σ : SG} (h : TPm σ n tp) {p : Nat} (hp : p ≤ n) (h28 : σ.1 148 28 = nI p) : ∃ σ', f_M_token σ = some ((), σ') ∧ σ'.1 148 27 = nI (rnT q32 n tp p) ∧ σ'.1 148 28 = nI (edT n tp (rnT q32 n tp p)) ∧ F48 (fun i => i = 27 ∨ i = 28) σ σ' := by
  have hn := h.2.1
  unfold f_M_token
  rw [sx_eq, h28]
  obtain ⟨σ', u1, u2, u3, u4⟩ := m_t8 (n - p) p FU (uI σ 148 27 (nI p)) (by omega) (by rw [FU_eq]; omega) (h.f48 (P := fun i => i = 27 ∨ i = 28) (F48.u (Or.inl rfl)) (by decide)) uI_same
  exact ⟨σ', u1, u2, u3, F48.tr (F48.u (Or.inl rfl)) u4⟩
/-- the reference stands at the token a; w: something was wrong -/
def MK (n : Nat) (tp : Nat → Nat) (σ : SG) (a w : Nat) : Prop := TPm σ n tp ∧ σ.1 148 27 = nI (BT n tp a) ∧ σ.1 148 28 = nI (ET n tp a) ∧ σ.1 148 32 = nI w
theorem ET_ed (a : Nat) : ET n tp a = edT n tp (BT n tp a) := rfl
theorem ET_le (a : Nat) : ET n tp a ≤ n := by
  rw [ET_ed]
  unfold edT
  by_cases h : BT n tp a < n
  · rw [if_pos h]; exact (eoT_b h).2
  · rw [if_neg h]; exact BT_le a
theorem MK.f48 {P : Nat → Prop} {σ σ' : SG} {a w : Nat} (h : MK n tp σ a w) (g : F48 P σ σ') (h1 : ¬ P 26) (h2 : ¬ P 27) (h3 : ¬ P 28) (h4 : ¬ P 32) : MK n tp σ' a w := ⟨h.1.f48 g h1, (g.2 27 h2).trans h.2.1, (g.2 28 h3).trans h.2.2.1, (g.2 32 h4).trans h.2.2.2⟩
theorem m_wants0 {σ : SG} {a w : Nat} (h : MK n tp σ a w) (hw : w ≤ 1) {x : Int32} (hx : w = 1 ∨ x = 0) : ∃ σ', f_M_wants x σ = some ((), σ') ∧ MK n tp σ' a 1 ∧ F48 (fun i => i = 32) σ σ' := by
  have k : MK n tp (uI σ 148 32 1) a 1 := ⟨h.1.f48 (P := fun i => i = 32) (F48.u rfl) (by decide), by rw [uI_i (by decide)]; exact h.2.1, by rw [uI_i (by decide)]; exact h.2.2.1, uI_same⟩
  refine ⟨uI σ 148 32 1, ?_, k, F48.u rfl⟩
  unfold f_M_wants
  rw [h.2.2.2]
  have e : (uI σ 148 32 (1 : Int32)).1 148 32 = 1 := uI_same
  by_cases h1 : w = 1
  · rw [h1, if_pos (by decide), sx_eq, if_pos (show ¬ (uI σ 148 32 (1 : Int32)).1 148 32 = 0 by rw [e]; decide)]
  · have h0 : w = 0 := by omega
    have hx0 : x = 0 := by
      rcases hx with z | z
      · exact absurd z h1
      · exact z
    rw [h0, if_neg (fun z => z rfl), hx0, if_neg (fun z => z rfl), sx_eq, if_pos (show ¬ (uI σ 148 32 (1 : Int32)).1 148 32 = 0 by rw [e]; decide)]
theorem m_wants1 {σ : SG} {a : Nat} (h : MK n tp σ a 0) : ∃ σ', f_M_wants 1 σ = some ((), σ') ∧ MK n tp σ' (a + 1) 0 ∧ F48 (fun i => i = 27 ∨ i = 28 ∨ i = 32) σ σ' := by
  unfold f_M_wants
  rw [h.2.2.2, if_neg (fun z => z rfl), if_pos (by decide), sx_eq]
  have e : (uI σ 148 32 (0 : Int32)).1 148 32 = 0 := uI_same
  have f0 : F48 (fun i => i = 32) σ (uI σ 148 32 (0 : Int32)) := F48.u rfl
  rw [if_neg (fun z => z e)]
  obtain ⟨σ', u1, u2, u3, u4⟩ := m_token (h.1.f48 f0 (by decide)) (ET_le a) ((f0.2 28 (by decide)).trans h.2.2.1)
  refine ⟨σ', by rw [u1, bnd_some], ⟨(h.1.f48 f0 (by decide)).f48 u4 (by decide), u2, u3, (u4.2 32 (by decide)).trans e⟩, F48.tr (f0.mono (fun i hi => Or.inr (Or.inr hi))) (u4.mono (fun i hi => by omega))⟩
end MT
