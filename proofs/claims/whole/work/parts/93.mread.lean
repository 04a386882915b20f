/-! the reference READS conditions -/
theorem wd_r {tp : Nat → Nat} {p e : Nat} : ∀ d j, j + d = 18 → wdF tp p e d j = 30001 ∨ (10000 ≤ wdF tp p e d j ∧ wdF tp p e d j ≤ 10017) := by
  intro d
  induction d with
  | zero => intro j _; exact Or.inl rfl
  | succ d ih =>
    intro j h
    rw [wdF]
    by_cases c : smW tp j p e
    · rw [if_pos c]
      exact Or.inr (by omega)
    · rw [if_neg c]
      exact ih (j + 1) (by omega)
section M3
variable {n : Nat} {tp : Nat → Nat}
/-- what a token is told by its first byte -/
theorem T_kind (hb : ∀ i, i < n → tp i < 256) (a : Nat) : (BT n tp a < n ∧ isL (tp (BT n tp a)) ∧ (TT n tp a = 30001 ∨ (10000 ≤ TT n tp a ∧ TT n tp a ≤ 10017))) ∨ (BT n tp a < n ∧ ¬ isL (tp (BT n tp a)) ∧ isD (tp (BT n tp a)) ∧ TT n tp a = if ET n tp a - BT n tp a ≤ 4 then nmF tp (ET n tp a - BT n tp a) (BT n tp a) 0 else 30001) ∨ (BT n tp a < n ∧ ¬ isL (tp (BT n tp a)) ∧ ¬ isD (tp (BT n tp a)) ∧ TT n tp a = 20000 + tp (BT n tp a)) ∨ (¬ BT n tp a < n ∧ TT n tp a = 30000) := by
  by_cases c : BT n tp a < n
  · have e : TT n tp a = codeT tp (BT n tp a) (ET n tp a) := if_pos c
    unfold codeT at e
    by_cases hl : isL (tp (BT n tp a))
    · rw [if_pos hl] at e
      exact Or.inl ⟨c, hl, by rw [e]; exact wd_r 18 0 rfl⟩
    · rw [if_neg hl] at e
      by_cases hd : isD (tp (BT n tp a))
      · rw [if_pos hd] at e
        exact Or.inr (Or.inl ⟨c, hl, hd, e⟩)
      · rw [if_neg hd] at e
        exact Or.inr (Or.inr (Or.inl ⟨c, hl, hd, e⟩))
  · exact Or.inr (Or.inr (Or.inr ⟨c, if_neg c⟩))
theorem T_num {a : Nat} (c : BT n tp a < n) (hl : ¬ isL (tp (BT n tp a))) (hd : isD (tp (BT n tp a))) (h4 : ET n tp a - BT n tp a ≤ 4) : nmF tp (ET n tp a - BT n tp a) (BT n tp a) 0 < 10000 ∧ ∀ i, BT n tp a ≤ i → i < ET n tp a → isD (tp i) := by
  have eE : ET n tp a = eoT n tp (BT n tp a) := by rw [ET_ed]; unfold edT; rw [if_pos c]
  have hD : ∀ i, BT n tp a ≤ i → i < ET n tp a → isD (tp i) := by
    rw [eE]
    exact eo_D c hl hd
  have := nm_lt (tp := tp) (ET n tp a - BT n tp a) (BT n tp a) 0 (fun i h1 h2 => hD i h1 (by omega))
  have h5 : 10 ^ (ET n tp a - BT n tp a) ≤ 10 ^ 4 := Nat.pow_le_pow_right (by decide) h4
  have h6 : (10 : Nat) ^ 4 = 10000 := rfl
  exact ⟨by omega, hD⟩
theorem T_sym (hb : ∀ i, i < n → tp i < 256) (a : Nat) {s : Nat} (hs : s < 256) (h1 : ¬ isL s) (h2 : ¬ isD s) : BA n tp (BT n tp a) = nI s ↔ TT n tp a = 20000 + s := by
  rcases T_kind hb a with ⟨c, hl, e⟩ | ⟨c, hl, hd, e⟩ | ⟨c, hl, hd, e⟩ | ⟨c, e⟩
  · have := hb _ c
    rw [BA_lt c, n_inj (by omega) (by omega)]
    exact ⟨fun z => absurd (z ▸ hl) h1, fun z => by omega⟩
  · have := hb _ c
    rw [BA_lt c, n_inj (by omega) (by omega)]
    refine ⟨fun z => absurd (z ▸ hd) h2, fun z => ?_⟩
    by_cases h4 : ET n tp a - BT n tp a ≤ 4
    · rw [if_pos h4] at e
      have := (T_num c hl hd h4).1
      omega
    · rw [if_neg h4] at e
      omega
  · have := hb _ c
    rw [BA_lt c, n_inj (by omega) (by omega), e]
    omega
  · unfold BA
    rw [if_neg c, e]
    refine ⟨fun z => absurd (congrArg Int32.toInt z) ?_, fun z => by omega⟩
    rw [nI_toInt (by omega), show (-1 : Int32).toInt = -1 by decide]
    omega
/-- only what reading a condition uses -/
def FMq (σ σ' : SG) : Prop := fr (fun c => c = 148 ∨ c = 149) σ σ' ∧ (∀ i, (i ≤ 26 ∨ 32 < i) → σ'.1 148 i = σ.1 148 i) ∧ ∀ i, (i < 138 ∨ 340 ≤ i) → σ'.1 149 i = σ.1 149 i
theorem FMq.rf {σ : SG} : FMq σ σ := ⟨fr.rf, fun _ _ => rfl, fun _ _ => rfl⟩
theorem FMq.tr {a b c : SG} (h : FMq a b) (g : FMq b c) : FMq a c := ⟨h.1.tr g.1, fun i hi => (g.2.1 i hi).trans (h.2.1 i hi), fun i hi => (g.2.2 i hi).trans (h.2.2 i hi)⟩
theorem F48.fm {P : Nat → Prop} {σ σ' : SG} (h : F48 P σ σ') (hp : ∀ i, P i → 26 < i ∧ i ≤ 32) : FMq σ σ' := ⟨h.1.mono (fun c hc => Or.inl hc), fun i hi => h.2 i (fun z => by have := hp i z; omega), fun i _ => h.1.at (by decide) i⟩
theorem m_num43 {e : Nat} {x1 : Int32} (he : e ≤ n) : ∀ (d k f v : Nat) (σ : SG), k + d = e → d < f → TPm σ n tp → σ.1 148 28 = nI e → σ.1 148 29 = nI v → (∀ i, k ≤ i → i < e → isD (tp i)) → ∃ σ', f_M_number_43 f x1 1 (nI k) σ = f_M_number_82 x1 1 σ' ∧ σ'.1 148 29 = nI (nmF tp d k v) ∧ F48 (fun i => i = 29) σ σ' := by
  intro d
  induction d with
  | zero =>
    intro k f v σ hk hf h h28 h29 hD
    obtain ⟨f, rfl⟩ : ∃ g, f = g + 1 := ⟨f - 1, by omega⟩
    have ek : k = e := hk
    exact ⟨σ, by rw [f_M_number_43, h28, ek, if_pos (Int32.le_refl _)], h29, F48.rf⟩
  | succ d ih =>
    intro k f v σ hk hf h h28 h29 hD
    obtain ⟨f, rfl⟩ : ∃ g, f = g + 1 := ⟨f - 1, by omega⟩
    have hn := h.2.1
    have hd := hD k (Nat.le_refl _) (by omega)
    rw [f_M_number_43, h28, if_neg (nI_ge (show k < e by omega) (by omega)), if_neg (by decide), gd_pos (ix_nI (by omega) (by decide)), nx_nI (by omega), (h.2.2 k (by omega)).1, h29, sx_eq, lx_eq, nI_1, show (10 : Int32) = nI 10 from rfl, n_mul, n_add, show (48 : Int32) = nI 48 from rfl, n_sub (show 48 ≤ 10 * v + tp k by have := hd.1; omega), nmF, show 10 * v + tp k - 48 = v * 10 + (tp k - 48) by have := hd.1; omega]
    have f0 : F48 (fun i => i = 29) σ (uI σ 148 29 (nI (v * 10 + (tp k - 48)))) := F48.u rfl
    obtain ⟨σ', u1, u2, u3⟩ := ih (k + 1) f (v * 10 + (tp k - 48)) _ (by omega) (by omega) (h.f48 f0 (by decide)) ((f0.2 28 (by decide)).trans h28) uI_same (fun i h1 h2 => hD i (by omega) h2)
    exact ⟨σ', u1, u2, f0.tr u3⟩
theorem m_number {σ : SG} {a lim : Nat} (h : MK n tp σ a 0) (hlim : lim < 2147483648) : ∃ σ', f_M_number (nI lim) σ = some ((), σ') ∧ (if TT n tp a < 10000 ∧ TT n tp a ≤ lim then MK n tp σ' (a + 1) 0 ∧ σ'.1 148 29 = nI (TT n tp a) else MK n tp σ' a 1) ∧ F48 (fun i => i = 27 ∨ i = 28 ∨ i = 29 ∨ i = 32) σ σ' := by
  obtain ⟨h1, h2, h3, h4⟩ := id h
  have hn := h1.2.1
  have hb := h1.b
  have hB := BT_le (n := n) (tp := tp) a
  have hE := ET_le (n := n) (tp := tp) a
  have f0 : F48 (fun i => i = 29) σ (uI σ 148 29 (0 : Int32)) := F48.u rfl
  have k0 : MK n tp (uI σ 148 29 (0 : Int32)) a 0 := h.f48 f0 (by decide) (by decide) (by decide) (by decide)
  have bad : ∀ y : Int32, TT n tp a ≥ 10000 → ∃ σ', f_M_number_43 FU (nI lim) 0 y (uI σ 148 29 (0 : Int32)) = some ((), σ') ∧ (if TT n tp a < 10000 ∧ TT n tp a ≤ lim then MK n tp σ' (a + 1) 0 ∧ σ'.1 148 29 = nI (TT n tp a) else MK n tp σ' a 1) ∧ F48 (fun i => i = 27 ∨ i = 28 ∨ i = 29 ∨ i = 32) σ σ' := by
    intro y hT
    obtain ⟨σ', u1, u2, u3⟩ := m_wants0 k0 (by decide) (x := 0) (Or.inr rfl)
    refine ⟨σ', ?_, by rw [if_neg (by omega)]; exact u2, (f0.mono (fun i hi => by omega)).tr (u3.mono (fun i hi => by omega))⟩
    obtain ⟨m, em⟩ : ∃ m, FU = m + 1 := ⟨FU - 1, by rw [FU_eq]⟩
    have e82 : f_M_number_82 (nI lim) 0 (uI σ 148 29 (0 : Int32)) = some ((), σ') := by
      unfold f_M_number_82
      rw [if_pos rfl, u1, bnd_some]
    rw [em, f_M_number_43]
    by_cases c : (uI σ 148 29 (0 : Int32)).1 148 28 ≤ y
    · rw [if_pos c, e82]
    · rw [if_neg c, if_pos rfl, e82]
  unfold f_M_number
  rw [h2, m_byteAt h1 (by omega), bnd_some, m_iDA hb hB, bnd_some]
  have hk := T_kind hb a
  by_cases hd : BT n tp a < n ∧ isD (tp (BT n tp a))
  · rw [if_neg (bI_n0.mpr hd), h3]
    have hBE : BT n tp a ≤ ET n tp a := by
      rw [ET_ed]
      unfold edT
      rw [if_pos hd.1]
      have := (eoT_b (tp := tp) hd.1).1
      omega
    have hl : ¬ isL (tp (BT n tp a)) := fun z => by have := z.1; have := hd.2.2; omega
    have eT : TT n tp a = if ET n tp a - BT n tp a ≤ 4 then nmF tp (ET n tp a - BT n tp a) (BT n tp a) 0 else 30001 := by
      rcases hk with ⟨_, w, _⟩ | ⟨_, _, _, w⟩ | ⟨_, _, w, _⟩ | ⟨w, _⟩
      · exact absurd w hl
      · exact w
      · exact absurd hd.2 w
      · exact absurd hd.1 w
    rw [h2, n_sub hBE]
    by_cases h4 : ET n tp a - BT n tp a ≤ 4
    · rw [if_neg (show ¬ (5 : Int32) ≤ nI (ET n tp a - BT n tp a) from nI_ge (show ET n tp a - BT n tp a < 5 by omega) (by decide)), sx_eq, lx_eq]
      rw [if_pos h4] at eT
      obtain ⟨v1, v2⟩ := T_num hd.1 hl hd.2 h4
      obtain ⟨σ', u1, u2, u3⟩ := m_num43 (x1 := nI lim) hE (ET n tp a - BT n tp a) (BT n tp a) FU 0 _ (by omega) (by rw [FU_eq]; omega) k0.1 k0.2.2.1 uI_same v2
      rw [← eT] at u2
      have k1 : MK n tp σ' a 0 := k0.f48 u3 (by decide) (by decide) (by decide) (by decide)
      rw [k0.2.1, u1]
      unfold f_M_number_82
      rw [if_neg (by decide), u2]
      by_cases hc : TT n tp a ≤ lim
      · obtain ⟨σ2, w1, w2, w3⟩ := m_wants1 k1
        refine ⟨σ2, ?_, ?_, ((f0.tr u3).mono (fun i hi => by omega)).tr (w3.mono (fun i hi => by omega))⟩
        · rw [if_neg (show ¬ nI lim < nI (TT n tp a) from fun z => by have := (n_lt hlim (by omega)).mp z; omega), w1, bnd_some]
        · rw [if_pos ⟨by omega, hc⟩]
          exact ⟨w2, (w3.2 29 (by decide)).trans u2⟩
      · obtain ⟨σ2, w1, w2, w3⟩ := m_wants0 k1 (by decide) (x := 0) (Or.inr rfl)
        refine ⟨σ2, ?_, ?_, ((f0.tr u3).mono (fun i hi => by omega)).tr (w3.mono (fun i hi => by omega))⟩
        · rw [if_pos (show nI lim < nI (TT n tp a) from (n_lt hlim (by omega)).mpr (by omega)), w1, bnd_some]
        · rw [if_neg (fun z => hc z.2)]
          exact w2
    · rw [if_neg h4] at eT
      rw [if_pos (show (5 : Int32) ≤ nI (ET n tp a - BT n tp a) from (n_le (a := 5) (by decide) (by omega)).mpr (by omega)), sx_eq, lx_eq]
      exact bad _ (by omega)
  · rw [if_pos (bI_0.mpr hd), sx_eq, lx_eq]
    refine bad _ ?_
    rcases hk with ⟨_, _, w⟩ | ⟨c, _, w, _⟩ | ⟨_, _, _, w⟩ | ⟨_, w⟩
    · omega
    · exact absurd ⟨c, w⟩ hd
    · omega
    · omega
def MRq (n : Nat) (tp : Nat → Nat) (σ : SG) (a o c : Nat) : Prop := MK n tp σ a 0 ∧ σ.1 148 30 = nI o ∧ σ.1 148 31 = nI c
def CMq (σ σ' : SG) (c : Nat) (xs : List Int32) : Prop := (∀ j, j < 138 + c → σ'.1 149 j = σ.1 149 j) ∧ ∀ j x, xs[j]? = some x → σ'.1 149 (138 + (c + j)) = x
theorem CMq.nil {σ σ' : SG} {c : Nat} (h : σ'.1 149 = σ.1 149) : CMq σ σ' c [] := ⟨fun j _ => congrFun h j, fun j i hi => by cases hi⟩
theorem CMq.app {a b d : SG} {c : Nat} {L M : List Int32} (h : CMq a b c L) (g : CMq b d (c + L.length) M) : CMq a d c (L ++ M) := by
  refine ⟨fun j hj => (g.1 j (by omega)).trans (h.1 j hj), fun j i hi => ?_⟩
  by_cases hl : j < L.length
  · rw [List.getElem?_append_left hl] at hi
    exact (g.1 (138 + (c + j)) (by omega)).trans (h.2 j i hi)
  · rw [List.getElem?_append_right (by omega)] at hi
    have := g.2 (j - L.length) i hi
    rw [show c + L.length + (j - L.length) = c + j by omega] at this
    exact this
theorem CMq.post {a b d : SG} {c : Nat} {L : List Int32} (h : CMq a b c L) (g : d.1 149 = b.1 149) : CMq a d c L := ⟨fun j hj => (congrFun g j).trans (h.1 j hj), fun j x hx => (congrFun g _).trans (h.2 j x hx)⟩
theorem CMq.pre {a b d : SG} {c : Nat} {L : List Int32} (h : CMq b d c L) (g : b.1 149 = a.1 149) : CMq a d c L := ⟨fun j hj => (h.1 j hj).trans (congrFun g j), h.2⟩
theorem F48.s {P : Nat → Prop} {σ σ' : SG} (h : F48 P σ σ') : σ'.1 149 = σ.1 149 := h.1.1 149 (by decide)
theorem m_writes0 {σ : SG} {a : Nat} (h : MK n tp σ a 1) (x : Int32) : f_M_writes x σ = some ((), σ) := by
  unfold f_M_writes
  rw [h.2.2.2, if_pos (by decide)]
theorem m_writes {σ : SG} {a o c : Nat} (h : MRq n tp σ a o c) (hc : c < 202) (x : Int32) : ∃ σ', f_M_writes x σ = some ((), σ') ∧ MRq n tp σ' a o (c + 1) ∧ CMq σ σ' c [x] ∧ FMq σ σ' := by
  obtain ⟨h1, h2, h3⟩ := h
  unfold f_M_writes
  rw [h1.2.2.2, if_neg (fun z => z rfl), h3, show (138 : Int32) = nI 138 from rfl, n_add, gd_pos (ix_nI (by omega) (by decide)), nx_nI (by omega), sx_eq, sx_eq, uI_c (by decide), h3, nI_1]
  have k1 : MK n tp (uI (uI σ 149 (138 + c) x) 148 31 (nI (c + 1))) a 0 := by
    obtain ⟨t1, t2, t3, t4⟩ := h1
    refine ⟨⟨?_, t1.2.1, fun i hi => ?_⟩, ?_, ?_, ?_⟩
    · rw [uI_i (by decide), uI_c (by decide)]; exact t1.1
    · rw [uI_c (by decide), uI_c (by decide)]; exact t1.2.2 i hi
    · rw [uI_i (by decide), uI_c (by decide)]; exact t2
    · rw [uI_i (by decide), uI_c (by decide)]; exact t3
    · rw [uI_i (by decide), uI_c (by decide)]; exact t4
  refine ⟨_, rfl, ⟨k1, by rw [uI_i (by decide), uI_c (by decide)]; exact h2, uI_same⟩, ⟨fun j hj => ?_, fun j y hy => ?_⟩, (fr.uI (Or.inr rfl)).tr (fr.uI (Or.inl rfl)), fun i hi => ?_, fun i hi => ?_⟩
  · rw [uI_c (by decide), uI_i (by omega)]
  · match j, hy with
    | 0, hy =>
      have e : y = x := (Option.some.inj hy).symm
      rw [uI_c (by decide), Nat.add_zero, uI_same, e]
  · rw [uI_i (by omega), uI_c (by decide)]
  · rw [uI_c (by decide), uI_i (by omega)]
theorem m_value0 {σ : SG} {a : Nat} (h : MK n tp σ a 1) : f_M_valueHere σ = some ((), σ) := by
  unfold f_M_valueHere
  rw [m_factHere h (by decide), bnd_some, if_pos (show (0 : Int32) ≤ fcH (tkW 1 (TT n tp a)) from (by decide : (0 : Int32) ≤ fcH 30000)), h.2.2.2, if_pos (by decide)]
theorem fcH_neg : ∀ t, 10000 ≤ t → t ≤ 10004 → ¬ (0 : Int32) ≤ fcH t ∧ fcH t = vM t := by
  intro t h1 h2
  have e : fcH t = vM t := if_pos ⟨h1, h2⟩
  refine ⟨?_, e⟩
  have : t = 10000 ∨ t = 10001 ∨ t = 10002 ∨ t = 10003 ∨ t = 10004 := by omega
  rcases this with w | w | w | w | w <;> rw [w] <;> decide
theorem m_value {σ : SG} {a o c : Nat} (h : MRq n tp σ a o c) (hc : c < 202) : ∃ σ', f_M_valueHere σ = some ((), σ') ∧ (if TT n tp a < 10005 then MRq n tp σ' (a + 1) o (c + 1) ∧ CMq σ σ' c [vM (TT n tp a)] else MK n tp σ' a 1) ∧ FMq σ σ' := by
  obtain ⟨h1, h2, h3⟩ := id h
  unfold f_M_valueHere
  rw [m_factHere h1 (by decide), bnd_some, show tkW 0 (TT n tp a) = TT n tp a from rfl]
  by_cases hf : 10000 ≤ TT n tp a ∧ TT n tp a ≤ 10004
  · obtain ⟨g1, g2⟩ := fcH_neg _ hf.1 hf.2
    obtain ⟨σ1, u1, u2, u3⟩ := m_wants1 h1
    have k1 : MRq n tp σ1 (a + 1) o c := ⟨u2, (u3.2 30 (by decide)).trans h2, (u3.2 31 (by decide)).trans h3⟩
    obtain ⟨σ2, w1, w2, w3, w4⟩ := m_writes k1 hc (vM (TT n tp a))
    rw [if_neg g1, u1, bnd_some, g2, w1, bnd_some]
    exact ⟨σ2, rfl, by rw [if_pos (by omega)]; exact ⟨w2, w3.pre u3.s⟩, (u3.fm (fun i hi => by omega)).tr w4⟩
  · have e0 : fcH (TT n tp a) = 0 := if_neg hf
    rw [e0, if_pos (Int32.le_refl _), h1.2.2.2, if_neg (fun z => z rfl)]
    obtain ⟨σ1, u1, u2, u3⟩ := m_number h1 (lim := 9999) (by decide)
    rw [show (9999 : Int32) = nI 9999 from rfl, u1, bnd_some]
    by_cases hT : TT n tp a < 10000
    · rw [if_pos ⟨hT, by omega⟩] at u2
      have k1 : MRq n tp σ1 (a + 1) o c := ⟨u2.1, (u3.2 30 (by decide)).trans h2, (u3.2 31 (by decide)).trans h3⟩
      obtain ⟨σ2, w1, w2, w3, w4⟩ := m_writes k1 hc (σ1.1 148 29)
      rw [w1, bnd_some]
      have ev : vM (TT n tp a) = nI (TT n tp a) := if_pos hT
      rw [u2.2] at w3
      rw [ev]
      exact ⟨σ2, rfl, by rw [if_pos (by omega)]; exact ⟨w2, w3.pre u3.s⟩, (u3.fm (fun i hi => by omega)).tr w4⟩
    · rw [if_neg (fun z => hT z.1)] at u2
      rw [m_writes0 u2, bnd_some]
      exact ⟨σ1, rfl, by rw [if_neg (by omega)]; exact u2, u3.fm (fun i hi => by omega)⟩
/-- how the reference reads what X reads, o within -/
def MOq (n : Nat) (tp : Nat → Nat) (σ : SG) (c : Nat) (r : PR) (o : Nat) (σ' : SG) : Prop := match r.2 with
  | some L => MRq n tp σ' r.1 o (c + (L.flatMap expM).length) ∧ CMq σ σ' c (L.flatMap expM)
  | none => MK n tp σ' r.1 1
def MNq (n : Nat) (tp : Nat → Nat) (F : SG → Option (Unit × SG)) : Prop := ∀ σ a, MK n tp σ a 1 → ∃ σ', F σ = some ((), σ') ∧ MK n tp σ' a 1 ∧ FMq σ σ'
def MSq (n : Nat) (tp : Nat → Nat) (o : Nat) (F : SG → Option (Unit × SG)) (X : Nat → PR) : Prop := ∀ σ a c, MRq n tp σ a o c → PO (TT n tp) a → c ≤ a → ∃ σ', F σ = some ((), σ') ∧ MOq n tp σ c (X a) o σ' ∧ FMq σ σ'
theorem PO.mx {σ : SG} {a : Nat} (h : PO (TT n tp) a) (t : TPm σ n tp) : a ≤ 200 := Nat.le_trans (h.le) (Nat.le_trans (BT_le a) t.2.1)
theorem m_cmpw {x1 xs0 : Int32} : ∀ σ a, MK n tp σ a 1 → ∃ σ', f_M_comparison_48 x1 xs0 σ = some ((), σ') ∧ MK n tp σ' a 1 ∧ FMq σ σ' := by
  intro σ a h
  obtain ⟨σ1, u1, u2, u3⟩ := m_wants0 h (Nat.le_refl _) (x := xs0) (Or.inl rfl)
  refine ⟨σ1, ?_, u2, u3.fm (fun i hi => by omega)⟩
  unfold f_M_comparison_48
  rw [u1, bnd_some, m_value0 u2, bnd_some, m_writes0 u2, m_writes0 u2, m_writes0 u2]
  by_cases c1 : ¬ x1 = 60
  · rw [if_pos c1]
    by_cases c2 : ¬ x1 = 61
    · rw [if_pos c2]; rfl
    · rw [if_neg c2]; rfl
  · rw [if_neg c1]; rfl
theorem m_compw : MNq n tp f_M_comparison := by
  intro σ a h
  obtain ⟨σ1, u1, u2, u3⟩ := m_cmpw (x1 := -1) (xs0 := 0) σ a h
  refine ⟨σ1, ?_, u2, u3⟩
  unfold f_M_comparison
  rw [m_value0 h, bnd_some, h.2.2.2, if_neg (by decide)]
  unfold f_M_comparison_23
  rw [if_neg (by decide), if_neg (by decide), if_pos (by decide)]
  exact u1
theorem m_comp {o : Nat} : MSq n tp o f_M_comparison (pCmp (TT n tp)) := by
  intro σ a c h hp hca
  have hb := h.1.1.b
  have ha := hp.mx h.1.1
  obtain ⟨σ1, u1, u2, u3⟩ := m_value h (by omega)
  unfold f_M_comparison pCmp
  rw [u1, bnd_some]
  by_cases h1 : TT n tp a < 10005
  · rw [if_pos h1] at u2
    obtain ⟨k1, d1⟩ := u2
    have p1 : PO (TT n tp) (a + 1) := hp.next (by omega)
    have ha1 := p1.mx k1.1.1
    have hB := BT_le (n := n) (tp := tp) (a + 1)
    have hn := h.1.1.2.1
    rw [if_pos h1, k1.1.2.2.2, if_pos (show nI 0 = (0 : Int32) from rfl), k1.1.2.1, m_byteAt k1.1.1 (by omega), bnd_some]
    have s60 : BA n tp (BT n tp (a + 1)) = (60 : Int32) ↔ TT n tp (a + 1) = 20060 := T_sym hb (a + 1) (s := 60) (by decide) (by decide) (by decide)
    have s61 : BA n tp (BT n tp (a + 1)) = (61 : Int32) ↔ TT n tp (a + 1) = 20061 := T_sym hb (a + 1) (s := 61) (by decide) (by decide) (by decide)
    have s62 : BA n tp (BT n tp (a + 1)) = (62 : Int32) ↔ TT n tp (a + 1) = 20062 := T_sym hb (a + 1) (s := 62) (by decide) (by decide) (by decide)
    by_cases h2 : 20060 ≤ TT n tp (a + 1) ∧ TT n tp (a + 1) ≤ 20062
    · have p2 : PO (TT n tp) (a + 2) := p1.next (by omega)
      have ha2 := p2.mx k1.1.1
      rw [if_pos h2]
      have e23 : f_M_comparison_23 (BA n tp (BT n tp (a + 1))) σ1 = f_M_comparison_48 (BA n tp (BT n tp (a + 1))) 1 σ1 := by
        unfold f_M_comparison_23
        by_cases c0 : BA n tp (BT n tp (a + 1)) = (60 : Int32)
        · rw [if_pos c0]
        · rw [if_neg c0]
          by_cases c1 : BA n tp (BT n tp (a + 1)) = (61 : Int32)
          · rw [if_pos c1]
          · rw [if_neg c1, if_neg (fun z => z (s62.mpr (by
              have q1 : ¬ TT n tp (a + 1) = 20060 := fun z => c0 (s60.mpr z)
              have q2 : ¬ TT n tp (a + 1) = 20061 := fun z => c1 (s61.mpr z)
              omega)))]
      rw [e23]
      unfold f_M_comparison_48
      obtain ⟨σ2, w1, w2, w3⟩ := m_wants1 k1.1
      have k2 : MRq n tp σ2 (a + 2) o (c + 1) := ⟨w2, (w3.2 30 (by decide)).trans k1.2.1, (w3.2 31 (by decide)).trans k1.2.2⟩
      obtain ⟨σ3, v1, v2, v3⟩ := m_value k2 (by omega)
      rw [w1, bnd_some, v1, bnd_some]
      by_cases h3 : TT n tp (a + 2) < 10005
      · rw [if_pos h3] at v2
        obtain ⟨k3, d3⟩ := v2
        have p3 : PO (TT n tp) (a + 3) := p2.next (by omega)
        have ha3 := p3.mx k1.1.1
        rw [if_pos h3]
        obtain ⟨σ4, y1, y2, y3, y4⟩ := m_writes k3 (show c + 1 + 1 < 202 by omega) (sgM (TT n tp (a + 1) - 20060))
        have ew : (if ¬ BA n tp (BT n tp (a + 1)) = (60 : Int32) then (if ¬ BA n tp (BT n tp (a + 1)) = (61 : Int32) then (bnd (f_M_writes (-13 : Int32) σ3) (fun _ σ3 => some ((), σ3))) else (bnd (f_M_writes (-12 : Int32) σ3) (fun _ σ4 => some ((), σ4)))) else (bnd (f_M_writes (-11 : Int32) σ3) (fun _ σ5 => some ((), σ5)))) = some ((), σ4) := by
          by_cases c0 : TT n tp (a + 1) = 20060
          · rw [c0] at y1
            rw [if_neg (fun z => z (s60.mpr c0)), show (-11 : Int32) = sgM (20060 - 20060) from rfl, y1, bnd_some]
          · rw [if_pos (fun z => c0 (s60.mp z))]
            by_cases c1 : TT n tp (a + 1) = 20061
            · rw [c1] at y1
              rw [if_neg (fun z => z (s61.mpr c1)), show (-12 : Int32) = sgM (20061 - 20060) from rfl, y1, bnd_some]
            · have c2 : TT n tp (a + 1) = 20062 := by omega
              rw [c2] at y1
              rw [if_pos (fun z => c1 (s61.mp z)), show (-13 : Int32) = sgM (20062 - 20060) from rfl, y1, bnd_some]
        rw [ew]
        have ex : expM (TT n tp (a + 1) - 20060, TT n tp a, TT n tp (a + 2)) = [vM (TT n tp a)] ++ [vM (TT n tp (a + 2))] ++ [sgM (TT n tp (a + 1) - 20060)] := by
          unfold expM
          rw [if_neg (show ¬ TT n tp (a + 1) - 20060 = 3 by omega), if_neg (show ¬ TT n tp (a + 1) - 20060 = 4 by omega), if_neg (show ¬ TT n tp (a + 1) - 20060 = 5 by omega)]
          rfl
        refine ⟨σ4, rfl, ?_, ((u3.tr (w3.fm (fun i hi => by omega))).tr v3).tr y4⟩
        show MRq n tp σ4 (a + 3) o (c + ([(TT n tp (a + 1) - 20060, TT n tp a, TT n tp (a + 2))].flatMap expM).length) ∧ CMq σ σ4 c ([(TT n tp (a + 1) - 20060, TT n tp a, TT n tp (a + 2))].flatMap expM)
        rw [List.flatMap_cons, List.flatMap_nil, List.append_nil, ex]
        exact ⟨y2, (d1.app (d3.pre w3.s)).app y3⟩
      · rw [if_neg h3] at v2
        rw [if_neg h3]
        refine ⟨σ3, ?_, v2, (u3.tr (w3.fm (fun i hi => by omega))).tr v3⟩
        rw [m_writes0 v2, m_writes0 v2, m_writes0 v2]
        by_cases c1 : ¬ BA n tp (BT n tp (a + 1)) = (60 : Int32)
        · rw [if_pos c1]
          by_cases c2 : ¬ BA n tp (BT n tp (a + 1)) = (61 : Int32)
          · rw [if_pos c2]; rfl
          · rw [if_neg c2]; rfl
        · rw [if_neg c1]; rfl
    · rw [if_neg h2]
      have e23 : f_M_comparison_23 (BA n tp (BT n tp (a + 1))) σ1 = f_M_comparison_48 (BA n tp (BT n tp (a + 1))) 0 σ1 := by
        unfold f_M_comparison_23
        rw [if_neg (fun z => h2 (by have := s60.mp z; omega)), if_neg (fun z => h2 (by have := s61.mp z; omega)), if_pos (fun z => h2 (by have := s62.mp z; omega))]
      rw [e23]
      unfold f_M_comparison_48
      obtain ⟨σ2, w1, w2, w3⟩ := m_wants0 k1.1 (by decide) (x := 0) (Or.inr rfl)
      refine ⟨σ2, ?_, w2, u3.tr (w3.fm (fun i hi => by omega))⟩
      rw [w1, bnd_some, m_value0 w2, bnd_some, m_writes0 w2, m_writes0 w2, m_writes0 w2]
      by_cases c1 : ¬ BA n tp (BT n tp (a + 1)) = (60 : Int32)
      · rw [if_pos c1]
        by_cases c2 : ¬ BA n tp (BT n tp (a + 1)) = (61 : Int32)
        · rw [if_pos c2]; rfl
        · rw [if_neg c2]; rfl
      · rw [if_neg c1]; rfl
  · rw [if_neg h1] at u2
    rw [if_neg h1, u2.2.2.2, if_neg (by decide)]
    unfold f_M_comparison_23
    rw [if_neg (by decide), if_neg (by decide), if_pos (by decide)]
    obtain ⟨σ2, w1, w2, w3⟩ := m_cmpw (x1 := -1) (xs0 := 0) σ1 a u2
    exact ⟨σ2, w1, w2, u3.tr w3⟩
end M3
