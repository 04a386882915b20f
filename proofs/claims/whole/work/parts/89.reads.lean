/-! the class READS: its reader over the tokens cut -/
theorem nm_lt {tp : Nat → Nat} : ∀ (d k v : Nat), (∀ i, k ≤ i → i < k + d → isD (tp i)) → nmF tp d k v < (v + 1) * 10 ^ d := by
  intro d
  induction d with
  | zero => intro k v _; show v < (v + 1) * 1; omega
  | succ d ih =>
    intro k v h
    have hd := h k (Nat.le_refl _) (by omega)
    have h2 := ih (k + 1) (v * 10 + (tp k - 48)) (fun i h1 h2 => h i (by omega) (by omega))
    rw [nmF]
    have h3 : (v * 10 + (tp k - 48) + 1) * 10 ^ d ≤ ((v + 1) * 10) * 10 ^ d := Nat.mul_le_mul_right _ (by have := hd.2; omega)
    have h4 : ((v + 1) * 10) * 10 ^ d = (v + 1) * 10 ^ (d + 1) := by rw [Nat.pow_succ, Nat.mul_assoc, Nat.mul_comm 10]
    omega
theorem TT_lt {n : Nat} {tp : Nat → Nat} (hb : ∀ i, i < n → tp i < 256) (i : Nat) : TT n tp i < 30002 := by
  unfold TT
  by_cases h : BT n tp i < n
  · have eE : ET n tp i = eoT n tp (BT n tp i) := by
      unfold ET
      rw [if_pos h]
    rw [if_pos h, eE]
    unfold codeT
    by_cases hl : isL (tp (BT n tp i))
    · rw [if_pos hl]
      exact (wdF_lt 18 0 rfl).2
    · rw [if_neg hl]
      by_cases hd : isD (tp (BT n tp i))
      · rw [if_pos hd]
        by_cases h4 : eoT n tp (BT n tp i) - BT n tp i ≤ 4
        · rw [if_pos h4]
          have := nm_lt (tp := tp) (eoT n tp (BT n tp i) - BT n tp i) (BT n tp i) 0 (fun j h1 h2 => eo_D h hl hd j h1 (by omega))
          have h5 : 10 ^ (eoT n tp (BT n tp i) - BT n tp i) ≤ 10 ^ 4 := Nat.pow_le_pow_right (by decide) h4
          have h6 : (10 : Nat) ^ 4 = 10000 := rfl
          omega
        · rw [if_neg h4]
          omega
      · rw [if_neg hd]
        have := hb _ h
        omega
  · rw [if_neg h]
    omega
theorem n_or (a b : Nat) : nI a ||| nI b = nI (a ||| b) := by
  show Int32.ofBitVec _ = Int32.ofBitVec _
  refine congrArg Int32.ofBitVec ?_
  exact (BitVec.ofNat_or).symm
theorem n_shl {a k : Nat} (hk : k < 32) : nI a <<< (nI k &&& 31) = nI (a * 2 ^ k) := by
  have t : ∀ n j, j < 32 → bt (nI n) j = n.testBit j := by
    intro n j hj
    show (BitVec.ofNat 32 n).getLsbD j = _
    rw [BitVec.getLsbD_ofNat]
    simp [hj]
  apply b_ext
  intro i hi
  rw [b_shl k hk _ hi, t _ i hi, Nat.testBit_mul_two_pow]
  by_cases h : k ≤ i
  · rw [t _ _ (by omega)]
  · simp [h]
theorem it_code {s l r : Nat} (hl : l < 16384) (hr : r < 16384) : ((nI s <<< ((28 : Int32) &&& 31)) ||| (nI l <<< ((14 : Int32) &&& 31))) ||| nI r = nI (s * 268435456 + l * 16384 + r) := by
  have e1 : nI s <<< ((28 : Int32) &&& 31) = nI (s * 2 ^ 28) := n_shl (k := 28) (by decide)
  have e2 : nI l <<< ((14 : Int32) &&& 31) = nI (l * 2 ^ 14) := n_shl (k := 14) (by decide)
  rw [e1, e2, n_or, n_or]
  refine congrArg nI ?_
  have a1 : s * 2 ^ 28 ||| l * 2 ^ 14 = s * 2 ^ 28 + l * 2 ^ 14 := by
    have := Nat.two_pow_add_eq_or_of_lt (i := 28) (b := l * 2 ^ 14) (by omega) s
    rw [Nat.mul_comm (2 ^ 28)] at this
    exact this.symm
  have a2 : (s * 2 ^ 28 + l * 2 ^ 14) ||| r = (s * 2 ^ 28 + l * 2 ^ 14) + r := by
    have := Nat.two_pow_add_eq_or_of_lt (i := 14) (b := r) (by omega) (s * 2 ^ 14 + l)
    have e : 2 ^ 14 * (s * 2 ^ 14 + l) = s * 2 ^ 28 + l * 2 ^ 14 := by omega
    rw [e] at this
    exact this.symm
  rw [a1, a2]
theorem n_subneg {t lo : Nat} (ht : t < lo) (hlo : lo < 2147483648) : nI t - nI lo < 0 := by
  rw [i_lt, Int32.toInt_sub, nI_toInt (by omega), nI_toInt hlo, Int.bmod_eq_of_le (by omega) (by omega)]
  show _ < (0 : Int)
  omega
theorem b_isIn2 {t lo k : Nat} (ht : t < 2147483648) (hlo : lo < 2147483648) (hk : k < 2147483648) (σ : SG) : f_H_isIn (nI t - nI lo) 0 (nI k) σ = some (bI (lo ≤ t ∧ t ≤ lo + k), σ) := by
  rw [b_isIn]
  by_cases h : lo ≤ t
  · rw [n_sub h]
    by_cases h2 : t ≤ lo + k
    · rw [bI_pos ⟨n_0le (by omega), (n_le (by omega) hk).mpr (by omega)⟩, bI_pos ⟨h, h2⟩]
    · rw [bI_neg (fun z => h2 (by have := (n_le (by omega) hk).mp z.2; omega)), bI_neg (fun z => h2 z.2)]
  · have := n_subneg (t := t) (lo := lo) (by omega) hlo
    rw [bI_neg (fun z => Int32.not_le.mpr this z.1), bI_neg (fun z => h z.1)]
/-- only the reader's own places -/
def FK (σ σ' : SG) : Prop := fr (fun c => c = 130 ∨ c = 134 ∨ c = 139) σ σ' ∧ (∀ i, i ≠ 4 → σ'.1 130 i = σ.1 130 i) ∧ ∀ i, i ≠ 5 → σ'.1 134 i = σ.1 134 i
theorem FK.rf {σ : SG} : FK σ σ := ⟨fr.rf, fun _ _ => rfl, fun _ _ => rfl⟩
theorem FK.tr {a b c : SG} (h : FK a b) (g : FK b c) : FK a c := ⟨h.1.tr g.1, fun i hi => (g.2.1 i hi).trans (h.2.1 i hi), fun i hi => (g.2.2 i hi).trans (h.2.2 i hi)⟩
section RD
variable {n : Nat} {tp : Nat → Nat} {N : Nat}
def KS (n : Nat) (tp : Nat → Nat) (N : Nat) (σ : SG) (a c : Nat) : Prop := TKc σ n tp N ∧ σ.1 130 4 = nI a ∧ σ.1 134 5 = nI c ∧ c ≤ 200
theorem TKc.keep {σ σ' : SG} (h : TKc σ n tp N) (e1 : σ'.1 132 = σ.1 132) (e2 : σ'.1 133 = σ.1 133) : TKc σ' n tp N := by
  obtain ⟨h1, h2, h3, h4⟩ := h
  exact ⟨h1, h2, h3, fun i hi => by rw [e1, e2]; exact h4 i hi⟩
theorem KS.tok {σ : SG} {a c : Nat} (h : KS n tp N σ a c) (hp : PO (TT n tp) a) : ix (σ.1 130 4) 201 ∧ σ.1 132 (nx (σ.1 130 4)) = nI (TT n tp a) ∧ σ.1 133 (nx (σ.1 130 4)) = nI (BT n tp a) ∧ a ≤ 200 := by
  obtain ⟨x1, x2, x3⟩ := h.1.at hp
  rw [h.2.1, nx_nI (by omega)]
  exact ⟨ix_nI (by omega) (by decide), x2, x3, x1⟩
theorem KS.go {σ : SG} {a c : Nat} (h : KS n tp N σ a c) : KS n tp N (uI σ 130 4 (σ.1 130 4 + 1)) (a + 1) c ∧ FK σ (uI σ 130 4 (σ.1 130 4 + 1)) := by
  refine ⟨⟨h.1.keep (funext fun j => uI_c (by decide)) (funext fun j => uI_c (by decide)), ?_, ?_, h.2.2.2⟩, fr.uI (Or.inl rfl), fun i hi => uI_i hi, fun i hi => uI_c (by decide)⟩
  · rw [uI_same, h.2.1, nI_1]
  · rw [uI_c (by decide)]
    exact h.2.2.1
/-- these stand coded from c on, and what stood before stands -/
def CDL (σ σ' : SG) (c : Nat) (L : List IT) : Prop := (∀ j, j < c → σ'.1 139 j = σ.1 139 j) ∧ ∀ j i, L[j]? = some i → σ'.1 139 (c + j) = encC i
theorem CDL.nil {σ σ' : SG} {c : Nat} (h : σ'.1 139 = σ.1 139) : CDL σ σ' c [] := ⟨fun j _ => congrFun h j, fun j i hi => by cases hi⟩
theorem CDL.app {a b d : SG} {c : Nat} {L M : List IT} (h : CDL a b c L) (g : CDL b d (c + L.length) M) : CDL a d c (L ++ M) := by
  refine ⟨fun j hj => (g.1 j (by omega)).trans (h.1 j hj), fun j i hi => ?_⟩
  by_cases hl : j < L.length
  · rw [List.getElem?_append_left hl] at hi
    exact (g.1 (c + j) (by omega)).trans (h.2 j i hi)
  · rw [List.getElem?_append_right (by omega)] at hi
    have := g.2 (j - L.length) i hi
    rw [show c + L.length + (j - L.length) = c + j by omega] at this
    exact this
theorem k_add {σ : SG} {a c : Nat} (h : KS n tp N σ a c) (it : IT) : ∃ σ', f_Ru_add 134 (encC it) σ = some ((), σ') ∧ FK σ σ' ∧ (c < 200 → KS n tp N σ' a (c + 1) ∧ CDL σ σ' c [it]) ∧ ∃ c', KS n tp N σ' a c' := by
  obtain ⟨h1, h2, h3, h4⟩ := h
  unfold f_Ru_add
  rw [h3]
  by_cases hc : c < 200
  · rw [if_neg (show ¬ (200 : Int32) ≤ nI c from nI_ge (show c < 200 from hc) (by decide)), gd_pos (ix_nI hc (by decide)), nx_nI (by omega), sx_eq, sx_eq]
    have k : KS n tp N (uI (uI σ 139 c (encC it)) 134 5 ((uI σ 139 c (encC it)).1 134 5 + 1)) a (c + 1) := by
      refine ⟨h1.keep (funext fun j => ?_) (funext fun j => ?_), ?_, ?_, by omega⟩
      · rw [uI_c (by decide), uI_c (by decide)]
      · rw [uI_c (by decide), uI_c (by decide)]
      · rw [uI_c (by decide), uI_c (by decide)]
        exact h2
      · rw [uI_same, uI_c (by decide), h3, nI_1]
    refine ⟨_, rfl, ⟨fr.tr (fr.uI (Or.inr (Or.inr rfl))) (fr.uI (Or.inr (Or.inl rfl))), fun i hi => ?_, fun i hi => ?_⟩, fun _ => ⟨k, fun j hj => ?_, fun j i hi => ?_⟩, _, k⟩
    · rw [uI_c (by decide), uI_c (by decide)]
    · rw [uI_i hi, uI_c (by decide)]
    · rw [uI_c (by decide), uI_i (by omega)]
    · match j, hi with
      | 0, hi =>
        have e : i = it := (Option.some.inj hi).symm
        rw [uI_c (by decide)]
        show (uI σ 139 c (encC it)).1 139 c = _
        rw [uI_same, e]
  · rw [if_pos (show (200 : Int32) ≤ nI c from (n_le (a := 200) (by decide) (by omega)).mpr (by omega))]
    exact ⟨σ, rfl, FK.rf, fun z => absurd z hc, c, h1, h2, h3, h4⟩
/-- what the class says of what was read -/
def RS (n : Nat) (tp : Nat → Nat) (N : Nat) (σ : SG) (c : Nat) (r : PR) (x : Int32) (σ' : SG) : Prop := match r.2 with
  | some L => x = 1 ∧ KS n tp N σ' r.1 (c + L.length) ∧ CDL σ σ' c L
  | none => x = 0 ∧ ∃ c', KS n tp N σ' r.1 c'
def CSp (n : Nat) (tp : Nat → Nat) (N : Nat) (F : SG → Option (Int32 × SG)) (X : Nat → PR) : Prop := ∀ σ a c, KS n tp N σ a c → PO (TT n tp) a → c ≤ a → ∃ x σ', F σ = some (x, σ') ∧ RS n tp N σ c (X a) x σ' ∧ FK σ σ'
theorem n_eqT {t k : Nat} (ht : t < 30002) (hk : k < 2147483648) : nI t = nI k ↔ t = k := n_inj (by omega) hk
theorem c_isValue {t : Nat} (ht : t < 30002) (σ : SG) : f_Rt_isValue (nI t) σ = some (bI (t < 10005), σ) := by
  unfold f_Rt_isValue
  by_cases h : t < 10005
  · rw [if_neg (show ¬ (10005 : Int32) ≤ nI t from nI_ge h (by decide)), bI_pos h]
  · rw [if_pos (show (10005 : Int32) ≤ nI t from (n_le (a := 10005) (by decide) (by omega)).mpr (by omega)), bI_neg h]
theorem c_cmp (hb : ∀ i, i < n → tp i < 256) : CSp n tp N f_Rt_readComparison (pCmp (TT n tp)) := by
  intro σ a c h hp hca
  obtain ⟨x1, x2, -, x4⟩ := h.tok hp
  unfold f_Rt_readComparison pCmp
  rw [gd_pos x1, x2, lx_eq, c_isValue (TT_lt hb a), bnd_some]
  by_cases h1 : TT n tp a < 10005
  · rw [if_pos (bI_n0.mpr h1), if_pos h1, sx_eq]
    obtain ⟨k1, g1⟩ := h.go
    have p1 : PO (TT n tp) (a + 1) := hp.next (by omega)
    obtain ⟨y1, y2, -, y4⟩ := k1.tok p1
    rw [gd_pos y1, y2, lx_eq, show (20060 : Int32) = nI 20060 from rfl, show (2 : Int32) = nI 2 from rfl, b_isIn2 (by have := TT_lt hb (a + 1); omega) (by decide) (by decide), bnd_some]
    by_cases h2 : 20060 ≤ TT n tp (a + 1) ∧ TT n tp (a + 1) ≤ 20062
    · rw [if_pos (bI_n0.mpr h2), if_pos h2, sx_eq]
      obtain ⟨k2, g2⟩ := k1.go
      have p2 : PO (TT n tp) (a + 2) := p1.next (by omega)
      obtain ⟨z1, z2, -, z4⟩ := k2.tok p2
      rw [gd_pos z1, z2, lx_eq, c_isValue (TT_lt hb _), bnd_some]
      by_cases h3 : TT n tp (a + 2) < 10005
      · rw [if_pos (bI_n0.mpr h3), if_pos h3, sx_eq]
        obtain ⟨k3, g3⟩ := k2.go
        have p3 : PO (TT n tp) (a + 3) := p2.next (by omega)
        obtain ⟨-, -, -, w4⟩ := k3.tok p3
        have ee : ((nI (TT n tp (a + 1)) - nI 20060) <<< ((28 : Int32) &&& 31) ||| nI (TT n tp a) <<< ((14 : Int32) &&& 31)) ||| nI (TT n tp (a + 2)) = encC (TT n tp (a + 1) - 20060, TT n tp a, TT n tp (a + 2)) := by
          rw [n_sub h2.1, it_code (by omega) (by omega)]
          unfold encC
          rw [if_neg (show ¬ TT n tp (a + 1) - 20060 = 3 by omega), if_neg (show ¬ TT n tp (a + 1) - 20060 = 4 by omega), if_neg (show ¬ TT n tp (a + 1) - 20060 = 5 by omega)]
          rfl
        rw [ee]
        obtain ⟨σ', q1, q2, q3, -⟩ := k_add k3 (TT n tp (a + 1) - 20060, TT n tp a, TT n tp (a + 2))
        obtain ⟨q3, q4⟩ := q3 (by omega)
        refine ⟨1, σ', by rw [q1, bnd_some], ⟨rfl, q3, fun j hj => ?_, q4.2⟩, ((g1.tr g2).tr g3).tr q2⟩
        rw [q4.1 j hj, uI_c (by decide), uI_c (by decide), uI_c (by decide)]
      · rw [if_neg (fun z => z (bI_0.mpr h3)), if_neg h3]
        exact ⟨0, _, rfl, ⟨rfl, c, k2⟩, g1.tr g2⟩
    · rw [if_neg (fun z => z (bI_0.mpr h2)), if_neg h2]
      exact ⟨0, _, rfl, ⟨rfl, c, k1⟩, g1⟩
  · rw [if_neg (fun z => z (bI_0.mpr h1)), if_neg h1]
    exact ⟨0, _, rfl, ⟨rfl, c, h⟩, FK.rf⟩
theorem RS.zo {σ σ' : SG} {c : Nat} {r : PR} {x : Int32} (h : RS n tp N σ c r x σ') : x = 0 ∨ x = 1 := by
  unfold RS at h
  cases hr : r.2 with
  | none => rw [hr] at h; exact Or.inl h.1
  | some L => rw [hr] at h; exact Or.inr h.1
theorem c_inner {fR : Int32 → SG → Option (Int32 × SG)} {C : Nat → Nat → PR} {o s0 : Nat} (hb : ∀ i, i < n → tp i < 256) (ho : o ≤ 3) (hC : o < 3 → CSp n tp N (fR (nI (o + 1))) (C (o + 1))) (hO : o < 3 → okP (TT n tp) s0 (C (o + 1))) {σ : SG} {a c : Nat} (h : KS n tp N σ a c) (hp : PO (TT n tp) a) (hca : c ≤ a) (hT : TT n tp a = 20040) : ∃ x σ', f_Rt_readInner fR (nI o) σ = some (x, σ') ∧ RS n tp N σ c (pIn (TT n tp) C o a) x σ' ∧ FK σ σ' := by
  unfold f_Rt_readInner pIn
  by_cases h3 : o < 3
  · rw [if_pos (show nI o < (3 : Int32) from (n_lt (b := 3) (by omega) (by decide)).mpr h3), if_pos h3, sx_eq, nI_1]
    obtain ⟨k1, g1⟩ := h.go
    have p1 : PO (TT n tp) (a + 1) := hp.next (by omega)
    obtain ⟨x, σ2, q1, q2, q3⟩ := hC h3 _ (a + 1) c k1 p1 (by omega)
    obtain ⟨o1, o2, -⟩ := hO h3 (a + 1) p1
    rw [q1, bnd_some]
    cases hr : C (o + 1) (a + 1) with
    | mk e L =>
      rw [hr] at q2 o1 o2
      cases L with
      | none =>
        obtain ⟨ex, c', w⟩ := q2
        rw [ex, if_pos rfl]
        exact ⟨0, σ2, rfl, ⟨rfl, c', w⟩, g1.tr q3⟩
      | some L =>
        obtain ⟨ex, w1, w2⟩ := q2
        have w1 : KS n tp N σ2 e (c + L.length) := w1
        obtain ⟨y1, y2, -, y4⟩ := w1.tok o2
        rw [ex, if_neg (by decide), gd_pos y1, y2]
        show ∃ x σ', _ = _ ∧ RS n tp N σ c (if TT n tp e = 20041 then (e + 1, some L) else (e, none)) x σ' ∧ FK σ σ'
        by_cases h4 : TT n tp e = 20041
        · obtain ⟨k2, g2⟩ := w1.go
          rw [if_pos (show nI (TT n tp e) = (20041 : Int32) by rw [h4]; rfl), if_pos h4, sx_eq]
          refine ⟨1, _, rfl, ⟨rfl, k2, fun j hj => ?_, fun j i hi => ?_⟩, (g1.tr q3).tr g2⟩
          · rw [uI_c (by decide), w2.1 j hj, uI_c (by decide)]
          · rw [uI_c (by decide)]
            exact w2.2 j i hi
        · rw [if_neg (show ¬ nI (TT n tp e) = (20041 : Int32) from fun z => h4 ((n_eqT (k := 20041) (TT_lt hb e) (by decide)).mp z)), if_neg h4]
          exact ⟨0, σ2, rfl, ⟨rfl, _, w1⟩, g1.tr q3⟩
  · rw [if_neg (show ¬ nI o < (3 : Int32) from fun z => h3 ((n_lt (b := 3) (by omega) (by decide)).mp z)), if_neg h3]
    exact ⟨0, σ, rfl, ⟨rfl, c, h⟩, FK.rf⟩
theorem c_end52 {σ σ1 : SG} {a c s0 : Nat} {r : PR} {x : Int32} {b : Bool} (hca : c ≤ a) (hbc : b = true → c < a) (q : RS n tp N σ c r x σ1) (ok : okR1 (TT n tp) s0 a r) (g : FK σ σ1) : ∃ σ', (if bI (b = true) = 0 then gd (x = 0 ∨ x = 1) (some (x, σ1)) else bnd (f_Ru_add 134 (-3 : Int32) σ1) (fun _ σ3 => gd (x = 0 ∨ x = 1) (some (x, σ3)))) = some (x, σ') ∧ RS n tp N σ c (pThen r (fun c L => (c, some (L ++ notL b)))) x σ' ∧ FK σ σ' := by
  obtain ⟨e, L⟩ := r
  rw [gd_pos q.zo]
  cases b with
  | false =>
    rw [if_pos (bI_0.mpr (by decide))]
    refine ⟨σ1, rfl, ?_, g⟩
    cases L with
    | none => exact q
    | some L =>
      have e : L ++ notL false = L := List.append_nil L
      show RS n tp N σ c (_, some (L ++ notL false)) x σ1
      rw [e]
      exact q
  | true =>
    have hlt := hbc rfl
    rw [if_neg (bI_n0.mpr rfl)]
    cases L with
    | none =>
      obtain ⟨ex, c', w⟩ := q
      obtain ⟨σ2, q1, q2, -, c2, q4⟩ := k_add w (5, 0, 0)
      refine ⟨σ2, ?_, ⟨ex, c2, q4⟩, g.tr q2⟩
      rw [show (-3 : Int32) = encC (5, 0, 0) from rfl, q1, bnd_some, gd_pos (Or.inl ex)]
    | some L =>
      obtain ⟨ex, w1, w2⟩ := q
      obtain ⟨-, o2, o3⟩ := ok
      obtain ⟨y0, y1, y2, -, -⟩ := o3 L rfl
      have w1 : KS n tp N σ1 e (c + L.length) := w1
      have y2 : L.length + a ≤ e := y2
      obtain ⟨-, -, -, y4⟩ := w1.tok o2
      obtain ⟨σ2, q1, q2, q3, -⟩ := k_add w1 (5, 0, 0)
      obtain ⟨q3, q4⟩ := q3 (by omega)
      refine ⟨σ2, ?_, ⟨ex, ?_, w2.app q4⟩, g.tr q2⟩
      · rw [show (-3 : Int32) = encC (5, 0, 0) from rfl, q1, bnd_some, gd_pos (Or.inr ex)]
      · show KS n tp N σ2 e (c + (L ++ [(5, 0, 0)]).length)
        rw [List.length_append, List.length_singleton]
        exact q3
theorem c_one52 {fR : Int32 → SG → Option (Int32 × SG)} {C : Nat → Nat → PR} {o s0 : Nat} (hb : ∀ i, i < n → tp i < 256) (ho : o ≤ 3) (h8 : s0 ≤ 8) (hC : o < 3 → CSp n tp N (fR (nI (o + 1))) (C (o + 1))) (hO : o < 3 → okP (TT n tp) s0 (C (o + 1))) {σ : SG} {a c : Nat} {b : Bool} (h : KS n tp N σ a c) (hp : PO (TT n tp) a) (hca : c ≤ a) (hbc : b = true → c < a) : ∃ x σ', f_Rt_readOne_52 fR (nI o) (bI (b = true)) σ = some (x, σ') ∧ RS n tp N σ c (pThen (if TT n tp a = 20040 then pIn (TT n tp) C o a else pCmp (TT n tp) a) (fun c L => (c, some (L ++ notL b)))) x σ' ∧ FK σ σ' := by
  obtain ⟨x1, x2, -, x4⟩ := h.tok hp
  unfold f_Rt_readOne_52
  rw [gd_pos x1, x2]
  by_cases h1 : TT n tp a = 20040
  · rw [if_neg (show ¬ ¬ nI (TT n tp a) = (20040 : Int32) from fun z => z (by rw [h1]; rfl)), if_pos h1]
    obtain ⟨x, σ1, q1, q2, q3⟩ := c_inner hb ho hC hO h hp hca h1
    rw [q1, bnd_some]
    obtain ⟨σ', u1, u2, u3⟩ := c_end52 hca hbc q2 (pIn_ok hO hp h1) q3
    exact ⟨x, σ', u1, u2, u3⟩
  · rw [if_pos (show ¬ nI (TT n tp a) = (20040 : Int32) from fun z => h1 ((n_eqT (k := 20040) (TT_lt hb a) (by decide)).mp z)), if_neg h1]
    obtain ⟨x, σ1, q1, q2, q3⟩ := c_cmp hb σ a c h hp hca
    rw [q1, bnd_some]
    obtain ⟨σ', u1, u2, u3⟩ := c_end52 hca hbc q2 (pCmp_ok a hp) q3
    exact ⟨x, σ', u1, u2, u3⟩
theorem c_nots {fR : Int32 → SG → Option (Int32 × SG)} {o : Nat} (hb : ∀ i, i < n → tp i < 256) : ∀ (f k m a c : Nat) (b : Bool) (σ : SG), f + k = 201 → f < m → k ≤ a → KS n tp N σ a c → PO (TT n tp) a → ∃ σ', f_Rt_readOne_4 fR m (nI o) (bI (b = true)) (nI k) σ = f_Rt_readOne_52 fR (nI o) (bI ((pNot (TT n tp) f a b).2 = true)) σ' ∧ KS n tp N σ' (pNot (TT n tp) f a b).1 c ∧ σ'.1 139 = σ.1 139 ∧ FK σ σ' := by
  intro f
  induction f with
  | zero =>
    intro k m a c b σ hk hm hka h hp
    obtain ⟨-, -, -, x4⟩ := h.tok hp
    omega
  | succ f ih =>
    intro k m a c b σ hk hm hka h hp
    obtain ⟨m, rfl⟩ : ∃ g, m = g + 1 := ⟨m - 1, by omega⟩
    obtain ⟨x1, x2, -, x4⟩ := h.tok hp
    rw [f_Rt_readOne_4, pNot]
    by_cases h2 : TT n tp a = 10017
    · have p1 : PO (TT n tp) (a + 1) := hp.next (by omega)
      obtain ⟨k1, g1⟩ := h.go
      obtain ⟨-, -, -, y4⟩ := k1.tok p1
      rw [if_neg (show ¬ (200 : Int32) ≤ nI k from nI_ge (show k < 200 by omega) (by decide)), gd_pos x1, x2, if_neg (show ¬ ¬ nI (TT n tp a) = (10017 : Int32) from fun z => z (by rw [h2]; rfl)), sx_eq, if_pos h2, lx_eq, lx_eq, nI_1]
      have key : ∀ b2 : Bool, (if ¬ bI (b2 = true) = 0 then f_Rt_readOne_4 fR m (nI o) (0 : Int32) (nI (k + 1)) (uI σ 130 4 (σ.1 130 4 + 1)) else f_Rt_readOne_4 fR m (nI o) (1 : Int32) (nI (k + 1)) (uI σ 130 4 (σ.1 130 4 + 1))) = f_Rt_readOne_4 fR m (nI o) (bI ((!b2) = true)) (nI (k + 1)) (uI σ 130 4 (σ.1 130 4 + 1)) := by
        intro b2
        cases b2 with
        | false => rw [if_neg (fun z => z (bI_0.mpr (by decide)))]; rfl
        | true => rw [if_pos (bI_n0.mpr rfl)]; rfl
      rw [key b]
      obtain ⟨σ', u1, u2, u3, u4⟩ := ih (k + 1) m (a + 1) c (!b) _ (by omega) (by omega) (by omega) k1 p1
      exact ⟨σ', u1, u2, u3.trans (funext fun j => uI_c (by decide)), g1.tr u4⟩
    · rw [if_neg h2]
      refine ⟨σ, ?_, h, rfl, FK.rf⟩
      by_cases c2 : (200 : Int32) ≤ nI k
      · rw [if_pos c2]
      · rw [if_neg c2, gd_pos x1, x2, if_pos (show ¬ nI (TT n tp a) = (10017 : Int32) from fun z => h2 ((n_eqT (k := 10017) (TT_lt hb a) (by decide)).mp z))]
theorem c_one {fR : Int32 → SG → Option (Int32 × SG)} {C : Nat → Nat → PR} {o s0 : Nat} (hb : ∀ i, i < n → tp i < 256) (ho : o ≤ 3) (h8 : s0 ≤ 8) (hC : o < 3 → CSp n tp N (fR (nI (o + 1))) (C (o + 1))) (hO : o < 3 → okP (TT n tp) s0 (C (o + 1))) : CSp n tp N (f_Rt_readOne fR (nI o)) (pOne (TT n tp) C o) := by
  intro σ a c h hp hca
  obtain ⟨n1, n2, n3⟩ := pNot_ok (T := TT n tp) 201 a false hp
  obtain ⟨σ1, q1, q2, q3, q4⟩ := c_nots (fR := fR) (o := o) hb 201 0 FU a c false σ rfl (by rw [FU_eq]; omega) (Nat.zero_le _) h hp
  unfold f_Rt_readOne pOne
  rw [show f_Rt_readOne_4 fR FU (nI o) (0 : Int32) (0 : Int32) σ = f_Rt_readOne_4 fR FU (nI o) (bI (false = true)) (nI 0) σ from rfl, q1]
  obtain ⟨x, σ', u1, u2, u3⟩ := c_one52 hb ho h8 hC hO (b := (pNot (TT n tp) 201 a false).2) q2 n2 (by omega) (fun e => by
    rcases n3 with w | w
    · rw [w] at e; cases e
    · omega)
  refine ⟨x, σ', u1, ?_, q4.tr u3⟩
  generalize pThen _ _ = r at u2 ⊢
  obtain ⟨e, L⟩ := r
  cases L with
  | none => exact u2
  | some L =>
    obtain ⟨w0, w1, w2⟩ := u2
    exact ⟨w0, w1, fun j hj => (w2.1 j hj).trans (congrFun q3 j), w2.2⟩
/-- one joined by signs -/
def lpJ (F : SG → Option (Int32 × SG)) (w v : Int32) : Nat → Int32 → Int32 → SG → Option (Int32 × SG)
  | 0, _, _, _ => none
  | n + 1, x2, x3, σ => if (200 : Int32) ≤ x3 then gd (x2 = 0 ∨ x2 = 1) (some (x2, σ)) else (if x2 = 0 then gd (x2 = 0 ∨ x2 = 1) (some (x2, σ)) else (gd (ix (σ.1 130 4) 201) (if ¬ (σ.1 132 (nx (σ.1 130 4))) = w then gd (x2 = 0 ∨ x2 = 1) (some (x2, σ)) else (sx (uI σ 130 4 ((σ.1 130 4) + (1 : Int32))) (fun σ1 => bnd (F σ1) (fun r3 σ2 => bnd (f_Ru_add 134 v σ2) (fun _ σ4 => lx (x3 + (1 : Int32)) (fun y5 => lpJ F w v n r3 y5 σ4))))))))
theorem lp_all {fR : Int32 → SG → Option (Int32 × SG)} {x1 : Int32} : ∀ (m : Nat) (x2 x3 : Int32) (σ : SG), f_Rt_readAll_8 fR m x1 x2 x3 σ = lpJ (f_Rt_readOne fR x1) 10016 (-1) m x2 x3 σ := by
  intro m
  induction m with
  | zero => intro x2 x3 σ; rfl
  | succ m ih => intro x2 x3 σ; simp only [f_Rt_readAll_8, lpJ, ih]
theorem lp_cond {fR : Int32 → SG → Option (Int32 × SG)} {x1 : Int32} : ∀ (m : Nat) (x2 x3 : Int32) (σ : SG), f_Rt_readCondition_S_8 fR m x1 x2 x3 σ = lpJ (f_Rt_readAll fR x1) 10015 (-2) m x2 x3 σ := by
  intro m
  induction m with
  | zero => intro x2 x3 σ; rfl
  | succ m ih => intro x2 x3 σ; simp only [f_Rt_readCondition_S_8, lpJ, ih]
theorem c_loop {F : SG → Option (Int32 × SG)} {X : Nat → PR} {w s0 : Nat} {it : IT} (hb : ∀ i, i < n → tp i < 256) (hw : w < 2147483648) (hw3 : w ≠ 30000) (hi : it.1 = 3 ∨ it.1 = 4) (ho : okI it) (hX : okP (TT n tp) (s0 + 1) X) (hF : CSp n tp N F X) {σ0 : SG} {a0 c0 : Nat} (hc0 : c0 ≤ a0) : ∀ (f k m a : Nat) (L : List IT) (σ : SG), f + k = 201 → f < m → k ≤ a → KS n tp N σ a (c0 + L.length) → CDL σ0 σ c0 L → FK σ0 σ → okR1 (TT n tp) s0 a0 (a, some L) → ∃ x σ', lpJ F (nI w) (encC it) m 1 (nI k) σ = some (x, σ') ∧ RS n tp N σ0 c0 (pLoop (TT n tp) X w it f a L) x σ' ∧ FK σ0 σ' := by
  intro f
  induction f with
  | zero =>
    intro k m a L σ hk hm hka h hd g ok
    obtain ⟨-, -, -, x4⟩ := h.tok ok.2.1
    omega
  | succ f ih =>
    intro k m a L σ hk hm hka h hd g ok
    obtain ⟨m, rfl⟩ : ∃ g, m = g + 1 := ⟨m - 1, by omega⟩
    have hp : PO (TT n tp) a := ok.2.1
    obtain ⟨x1, x2, -, x4⟩ := h.tok hp
    obtain ⟨z0, z1, z2, z3, z4⟩ := ok.2.2 L rfl
    have z0 : a0 < a := z0
    have z1 : (L.flatMap expM).length + a0 ≤ a := z1
    have z2 : L.length + a0 ≤ a := z2
    rw [lpJ, pLoop]
    by_cases h2 : TT n tp a = w
    · have p1 : PO (TT n tp) (a + 1) := hp.next (by rw [h2]; exact hw3)
      obtain ⟨k1, g1⟩ := h.go
      obtain ⟨-, -, -, y4⟩ := k1.tok p1
      rw [if_neg (show ¬ (200 : Int32) ≤ nI k from nI_ge (show k < 200 by omega) (by decide)), if_neg (by decide), gd_pos x1, x2, if_neg (show ¬ ¬ nI (TT n tp a) = nI w from fun z => z (by rw [h2])), sx_eq, if_pos h2]
      obtain ⟨x, σ2, q1, q2, q3⟩ := hF _ (a + 1) _ k1 p1 (by omega)
      have okM := hX (a + 1) p1
      rw [q1, bnd_some]
      have okL := pLoop_ok (X := X) (w := w) (it := it) (s0 := s0) hX hw3 hi ho
      cases hr : X (a + 1) with
      | mk e M =>
        rw [hr] at q2 okM
        cases M with
        | none =>
          obtain ⟨ex, c', w1⟩ := q2
          obtain ⟨σ4, u1, u2, -, c4, u4⟩ := k_add w1 it
          rw [u1, bnd_some, lx_eq, ex]
          obtain ⟨m, rfl⟩ : ∃ g, m = g + 1 := ⟨m - 1, by omega⟩
          refine ⟨0, σ4, ?_, ⟨rfl, c4, u4⟩, ((g.tr g1).tr q3).tr u2⟩
          rw [lpJ]
          by_cases c2 : (200 : Int32) ≤ nI k + 1
          · rw [if_pos c2, gd_pos (Or.inl rfl)]
          · rw [if_neg c2, if_pos rfl, gd_pos (Or.inl rfl)]
        | some M =>
          obtain ⟨ex, w1, w2⟩ := q2
          obtain ⟨-, o2, o3⟩ := okM
          obtain ⟨v0, v1, v2, v3, v4⟩ := o3 M rfl
          have w1 : KS n tp N σ2 e (c0 + L.length + M.length) := w1
          have o2 : PO (TT n tp) e := o2
          have v0 : a + 1 < e := v0
          have v1 : (M.flatMap expM).length + (a + 1) ≤ e := v1
          have v2 : M.length + (a + 1) ≤ e := v2
          obtain ⟨-, -, -, t4⟩ := w1.tok o2
          obtain ⟨σ4, u1, u2, u3, -⟩ := k_add w1 it
          obtain ⟨u3, u4⟩ := u3 (by omega)
          rw [u1, bnd_some, lx_eq, ex, nI_1]
          have e1 : (uI σ 130 4 (σ.1 130 4 + 1)).1 139 = σ.1 139 := funext fun j => uI_c (by decide)
          have hd2 : CDL σ σ2 (c0 + L.length) M := ⟨fun j hj => (w2.1 j hj).trans (congrFun e1 j), w2.2⟩
          have hd3 : CDL σ0 σ4 c0 (L ++ M ++ [it]) := by
            have a1 := hd.app hd2
            have a2 : CDL σ2 σ4 (c0 + (L ++ M).length) [it] := by
              rw [List.length_append, ← Nat.add_assoc]
              exact u4
            exact a1.app a2
          refine ih (k + 1) m e (L ++ M ++ [it]) σ4 (by omega) (by omega) (by omega) ?_ hd3 (((g.tr g1).tr q3).tr u2) ?_
          · rw [List.length_append, List.length_append, List.length_singleton, show c0 + (L.length + M.length + 1) = c0 + L.length + M.length + 1 by omega]
            exact u3
          · refine ⟨by show a0 ≤ e; omega, o2, fun K hK => ?_⟩
            have eK : K = L ++ M ++ [it] := (Option.some.inj hK).symm
            rw [eK]
            refine ⟨by show a0 < e; omega, ?_, ?_, fun i hm => ?_, fun s hs => ?_⟩
            · show ((L ++ M ++ [it]).flatMap expM).length + a0 ≤ e
              rw [exp_app, exp_app, exp_1 (by omega) ho]
              omega
            · show (L ++ M ++ [it]).length + a0 ≤ e
              rw [List.length_append, List.length_append, List.length_singleton]
              omega
            · rcases List.mem_append.mp hm with v | v
              · rcases List.mem_append.mp v with u | u
                · exact z3 i u
                · exact v3 i u
              · rw [List.mem_singleton.mp v]; exact ho
            · rw [dpt_app, dpt_app, z4 s hs]
              show ((dptA M (s + 1)).bind (dptA [it])) = _
              rw [v4 (s + 1) (by omega)]
              show dptA [it] (s + 1 + 1) = _
              rw [dptA, if_pos hi, if_pos (by omega), dptA]
              rfl
    · rw [if_neg h2]
      have hr : RS n tp N σ0 c0 (a, some L) 1 σ := ⟨rfl, h, hd⟩
      refine ⟨1, σ, ?_, hr, g⟩
      by_cases c2 : (200 : Int32) ≤ nI k
      · rw [if_pos c2, gd_pos (Or.inr rfl)]
      · rw [if_neg c2, if_neg (by decide), gd_pos x1, x2, if_pos (show ¬ nI (TT n tp a) = nI w from fun z => h2 ((n_eqT (TT_lt hb a) hw).mp z)), gd_pos (Or.inr rfl)]
theorem c_join {F : SG → Option (Int32 × SG)} {X : Nat → PR} {w s0 : Nat} {it : IT} (hb : ∀ i, i < n → tp i < 256) (hw : w < 2147483648) (hw3 : w ≠ 30000) (hi : it.1 = 3 ∨ it.1 = 4) (ho : okI it) (hX : okP (TT n tp) (s0 + 1) X) (hF : CSp n tp N F X) : CSp n tp N (fun σ => bnd (F σ) (fun r2 σ1 => lpJ F (nI w) (encC it) FU r2 (0 : Int32) σ1)) (pJoin (TT n tp) X w it) := by
  intro σ a c h hp hca
  obtain ⟨x, σ1, q1, q2, q3⟩ := hF σ a c h hp hca
  have ok := hX a hp
  unfold pJoin
  cases hr : X a with
  | mk e M =>
    rw [hr] at q2 ok
    cases M with
    | none =>
      obtain ⟨ex, c', w1⟩ := q2
      refine ⟨0, σ1, ?_, ⟨rfl, c', w1⟩, q3⟩
      show bnd (F σ) _ = _
      obtain ⟨m, em⟩ : ∃ m, FU = m + 1 := ⟨FU - 1, by rw [FU_eq]⟩
      rw [q1, bnd_some, ex, em, lpJ, if_neg (by decide), if_pos rfl, gd_pos (Or.inl rfl)]
    | some M =>
      obtain ⟨ex, w1, w2⟩ := q2
      obtain ⟨x', σ', u1, u2, u3⟩ := c_loop hb hw hw3 hi ho hX hF hca 201 0 FU e M σ1 rfl (by rw [FU_eq]; omega) (Nat.zero_le _) w1 w2 q3 (okR1.le ok (by omega))
      refine ⟨x', σ', ?_, u2, u3⟩
      show bnd (F σ) _ = _
      rw [q1, bnd_some, ex]
      exact u1
theorem c_all {fR : Int32 → SG → Option (Int32 × SG)} {C : Nat → Nat → PR} {o s0 : Nat} (hb : ∀ i, i < n → tp i < 256) (ho : o ≤ 3) (h8 : s0 + 1 ≤ 8) (hC : o < 3 → CSp n tp N (fR (nI (o + 1))) (C (o + 1))) (hO : o < 3 → okP (TT n tp) (s0 + 1) (C (o + 1))) : CSp n tp N (f_Rt_readAll fR (nI o)) (pJoin (TT n tp) (pOne (TT n tp) C o) 10016 (3, 0, 0)) := by
  have h := c_join (N := N) (F := f_Rt_readOne fR (nI o)) (w := 10016) (s0 := s0) (it := (3, 0, 0)) hb (by decide) (by decide) (Or.inl rfl) ⟨by decide, by decide, by decide⟩ (pOne_ok h8 hO) (c_one hb ho h8 hC hO)
  have e : f_Rt_readAll fR (nI o) = fun σ => bnd (f_Rt_readOne fR (nI o) σ) (fun r2 σ1 => lpJ (f_Rt_readOne fR (nI o)) (nI 10016) (encC (3, 0, 0)) FU r2 (0 : Int32) σ1) := by
    funext σ
    unfold f_Rt_readAll
    simp only [lp_all]
    rfl
  rw [e]
  exact h
theorem c_cond (hb : ∀ i, i < n → tp i < 256) : ∀ (d o : Nat), o ≤ 3 → 4 ≤ d + o → CSp n tp N (f_Rt_readCondition d (nI o)) (pCond (TT n tp) d o) := by
  intro d
  induction d with
  | zero => intro o ho hd; omega
  | succ d ih =>
    intro o ho hd
    have hC : o < 3 → CSp n tp N (f_Rt_readCondition d (nI (o + 1))) (pCond (TT n tp) d (o + 1)) := fun h => ih (o + 1) (by omega) (by omega)
    have hO : o < 3 → okP (TT n tp) (2 * o + 1 + 1) (pCond (TT n tp) d (o + 1)) := fun h => pCond_ok d (o + 1) (by omega)
    have hJ := pJoin_ok (w := 10016) (it := (3, 0, 0)) (pOne_ok (T := TT n tp) (s0 := 2 * o + 1 + 1) (by omega) hO) (by decide) (Or.inl rfl) ⟨by decide, by decide, by decide⟩
    have h := c_join (N := N) (w := 10015) (s0 := 2 * o) (it := (4, 0, 0)) hb (by decide) (by decide) (Or.inr rfl) ⟨by decide, by decide, by decide⟩ hJ (c_all hb ho (by omega) hC hO)
    have e : f_Rt_readCondition (d + 1) (nI o) = fun σ => bnd (f_Rt_readAll (f_Rt_readCondition d) (nI o) σ) (fun r2 σ1 => lpJ (f_Rt_readAll (f_Rt_readCondition d) (nI o)) (nI 10015) (encC (4, 0, 0)) FU r2 (0 : Int32) σ1) := by
      funext σ
      show f_Rt_readCondition_S (f_Rt_readCondition d) (nI o) σ = _
      unfold f_Rt_readCondition_S
      simp only [lp_cond]
      rfl
    rw [e]
    exact h
end RD
