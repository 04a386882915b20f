/-! meets, person, both sides -/
def mtW (v : Int32) (q : Nat) (b : Bool) : Int32 := if b = true then v ||| ((1 : Int32) <<< (nI q &&& 31)) else v &&& (((1 : Int32) <<< (nI q &&& 31)) ^^^ (-1))
theorem mtW_rg {v : Int32} {q : Nat} {b : Bool} (h : rg v 63) (hq : q < 6) : rg (mtW v q b) 63 := by
  have e : v = nI (wN fun p => (nx v).testBit p) := by
    rw [← m64 _ (show nx v < 64 by have := h.1; omega)]
    exact h.2
  unfold mtW
  rw [e]
  cases b with
  | true =>
    rw [if_pos rfl, wN_or hq]
    exact rg_nI (by have := wN_lt (bS (fun p => (nx v).testBit p) q true); omega) (by decide)
  | false =>
    rw [if_neg (by decide), wN_and hq]
    exact rg_nI (by have := wN_lt (bS (fun p => (nx v).testBit p) q false); omega) (by decide)
def mtN2 (S : Nat → Int32) (p q : Nat) (b : Bool) : Nat → Int32 := us (us S (22 + 5 * p + 4) (mtW (S (22 + 5 * p + 4)) q b)) (22 + 5 * q + 4) (mtW (S (22 + 5 * q + 4)) p b)
def mtsA (S : Nat → Int32) (x y : Int32) : Int32 := if isP S x then (if isP S y then (if x = y then -1 else bI (mtP S (nx x) (nx y))) else -1) else -1
def mtsN (S : Nat → Int32) (x y : Int32) (b : Bool) : Nat → Int32 := if isP S x then (if isP S y then (if x = y then S else mtN2 S (nx x) (nx y) b) else S) else S
theorem cq_meets {σ : SG} {S : Nat → Int32} (g : GD S) (hT : TWR 20 σ S nob) (x y : Int32) (b : Bool) : ∃ σ', f_H_meets x y (nI b.toNat) σ = some (mtsA S x y, σ') ∧ CW σ σ' (mtsN S x y b) := by
  unfold f_H_meets mtsA mtsN
  rw [b_isPerson, hT.1, bnd_some]
  by_cases hx : isP S x
  · obtain ⟨p, hp, hpn, rfl⟩ := isP_in g.1 hx
    rw [if_neg (bI_n0.mpr hx), if_pos hx, if_pos hx, b_isPerson, hT.1, bnd_some]
    by_cases hy : isP S y
    · obtain ⟨q, hq, hqn, rfl⟩ := isP_in g.1 hy
      rw [if_neg (bI_n0.mpr hy), if_pos hy, if_pos hy]
      by_cases e : nI p = nI q
      · rw [if_neg (fun z => z e), if_pos e, if_pos e]
        exact ⟨σ, rfl, CW.rf hT⟩
      · have hpq : p ≠ q := fun w => e (by rw [w])
        have ip := ix_nI hp (show (6 : Nat) < 2147483648 by decide)
        have iq := ix_nI hq (show (6 : Nat) < 2147483648 by decide)
        have np : nx (nI p) = p := nx_nI (by omega)
        have nq : nx (nI q) = q := nx_nI (by omega)
        have e32 : ∀ j, j < 6 → σ.1 32 j = S (22 + 5 * j + 4) := fun j hj => (hT.2.2.2.2.1 j hj).2.2.2.2
        have ans : ((S (22 + 5 * p + 4)) >>> (nI q &&& 31)) &&& (1 : Int32) = bI (mtP S p q) := by
          have hm : mtN S p < 64 := by have : mtN S p ≤ 63 := (rgP g hp).2.2.2.2.1; omega
          have e4 : S (22 + 5 * p + 4) = nI (mtN S p) := (rgP g hp).2.2.2.2.2
          rw [e4, bit64 hm hq]
          by_cases hb : mtP S p q
          · rw [bI_pos hb, show (mtN S p).testBit q = true from hb]
            rfl
          · have hf : (mtN S p).testBit q = false := Bool.eq_false_iff.mpr hb
            rw [bI_neg hb, hf]
            rfl
        have fin : ∀ (σ' : SG), σ' = uI (uI σ 32 p (mtW (S (22 + 5 * p + 4)) q b)) 32 q (mtW (S (22 + 5 * q + 4)) p b) → CW σ σ' (mtN2 S p q b) := fun σ' hσ => by
          have h1 : TWR 20 (uI σ 32 p (mtW (S (22 + 5 * p + 4)) q b)) (us S (22 + 5 * p + 4) (mtW (S (22 + 5 * p + 4)) q b)) nob := hT.u1 (hT.tv.p4 (t := 20) hp) (by rw [uI_c (by decide)]) (by rw [uI_c (by decide)]) (by omega) (by omega)
          rw [hσ]
          exact ⟨h1.u1 (h1.tv.p4 (t := 20) hq) (by rw [uI_c (by decide)]) (by rw [uI_c (by decide)]) (by omega) (by omega), fr.tr (fr.uI (by omega)) (fr.uI (by omega)), fun i _ _ _ => by rw [uI_c (by decide), uI_c (by decide)]⟩
        rw [if_pos e, if_neg e, if_neg e, gd_pos ip, np, nq, e32 p hp, lx_eq, ans]
        cases b with
        | false =>
          rw [if_pos (show nI (false).toNat = 0 by decide), gd_pos ip, gd_pos ip, sx_eq, gd_pos iq, gd_pos iq, uI_i (show q ≠ p from fun w => hpq w.symm), e32 q hq, sx_eq]
          exact ⟨_, rfl, fin _ rfl⟩
        | true =>
          rw [if_neg (show ¬ nI (true).toNat = 0 by decide), gd_pos ip, gd_pos ip, sx_eq, gd_pos iq, gd_pos iq, uI_i (show q ≠ p from fun w => hpq w.symm), e32 q hq, sx_eq]
          exact ⟨_, rfl, fin _ rfl⟩
    · rw [if_pos (bI_0.mpr hy), if_neg hy, if_neg hy]
      exact ⟨σ, rfl, CW.rf hT⟩
  · rw [if_pos (bI_0.mpr hx), if_neg hx, if_neg hx]
    exact ⟨σ, rfl, CW.rf hT⟩
theorem m_lets {p q : Nat} (hp : p < 6) (b : Bool) (σ : SG) : f_M_lets (nI p) (nI q) (nI b.toNat) σ = some ((), uI σ 149 (22 + 5 * p + 4) (mtW (σ.1 149 (22 + 5 * p + 4)) q b)) := by
  unfold f_M_lets
  rw [m_its4 hp, bnd_some, show (4 : Int32) = nI 4 from rfl, m_at, bnd_some]
  cases b with
  | false =>
    rw [if_pos (show nI (false).toNat = 0 by decide), gd_pos (ix_nI (by omega) (by decide)), nx_nI (by omega), sx_eq]
    rfl
  | true =>
    rw [if_neg (show ¬ nI (true).toNat = 0 by decide), gd_pos (ix_nI (by omega) (by decide)), nx_nI (by omega), sx_eq]
    rfl
theorem mq_meets {σ : SG} (g : GD (σ.1 149)) (x y : Int32) (b : Bool) : ∃ σ', f_M_meets x y (nI b.toNat) σ = some (mtsA (σ.1 149) x y, σ') ∧ σ'.1 149 = mtsN (σ.1 149) x y b ∧ fr (fun c => c = 149) σ σ' := by
  unfold f_M_meets mtsA mtsN
  rw [m_isPerson g.1, bnd_some]
  by_cases hx : isP (σ.1 149) x
  · obtain ⟨p, hp, hpn, rfl⟩ := isP_in g.1 hx
    rw [if_neg (bI_n0.mpr hx), if_pos hx, if_pos hx, m_isPerson g.1, bnd_some]
    by_cases hy : isP (σ.1 149) y
    · obtain ⟨q, hq, hqn, rfl⟩ := isP_in g.1 hy
      rw [if_neg (bI_n0.mpr hy), if_pos hy, if_pos hy]
      by_cases e : nI p = nI q
      · rw [if_neg (fun z => z e), if_pos e, if_pos e]
        exact ⟨σ, rfl, rfl, fr.rf⟩
      · have hpq : p ≠ q := fun w => e (by rw [w])
        have fin : ∃ σ', uI (uI σ 149 (22 + 5 * p + 4) (mtW (σ.1 149 (22 + 5 * p + 4)) q b)) 149 (22 + 5 * q + 4) (mtW ((uI σ 149 (22 + 5 * p + 4) (mtW (σ.1 149 (22 + 5 * p + 4)) q b)).1 149 (22 + 5 * q + 4)) p b) = σ' ∧ σ'.1 149 = mtN2 (σ.1 149) p q b ∧ fr (fun c => c = 149) σ σ' := by
          refine ⟨_, rfl, ?_, fr149.tr fr149⟩
          rw [uI149, uI149, us_ne (by omega)]
          rfl
        obtain ⟨σ', w1, w2, w3⟩ := fin
        rw [if_pos e, if_neg e, if_neg e, m_doMeet hp hq g, bnd_some, nx_nI (k := p) (by omega), nx_nI (k := q) (by omega)]
        by_cases hm : mtP (σ.1 149) p q
        · rw [if_neg (bI_n0.mpr hm), m_lets hp, bnd_some, m_lets hq, bnd_some, w1, bI_pos hm]
          exact ⟨σ', rfl, w2, w3⟩
        · rw [if_pos (bI_0.mpr hm), m_lets hp, bnd_some, m_lets hq, bnd_some, w1, bI_neg hm]
          exact ⟨σ', rfl, w2, w3⟩
    · rw [if_pos (bI_0.mpr hy), if_neg hy, if_neg hy]
      exact ⟨σ, rfl, rfl, fr.rf⟩
  · rw [if_pos (bI_0.mpr hx), if_neg hx, if_neg hx]
    exact ⟨σ, rfl, rfl, fr.rf⟩
theorem ok_meets {S : Nat → Int32} {x y : Int32} {b : Bool} (h : SOK S) : SOK (mtsN S x y b) ∧ kpS S (mtsN S x y b) := by
  unfold mtsN
  by_cases hx : isP S x
  · obtain ⟨p, hp, hpn, rfl⟩ := isP_in h.1.1 hx
    rw [if_pos hx]
    by_cases hy : isP S y
    · obtain ⟨q, hq, hqn, rfl⟩ := isP_in h.1.1 hy
      rw [if_pos hy]
      by_cases e : nI p = nI q
      · rw [if_pos e]; exact ⟨h, kpS.rf⟩
      · rw [if_neg e, nx_nI (k := p) (by omega), nx_nI (k := q) (by omega)]
        have k : kpS S (mtN2 S p q b) := (kpS.rf.u1 (by omega)).u1 (by omega)
        refine ⟨k.sok h ((h.1.p4 hp (mtW_rg (rgP h.1 hp).2.2.2.2 hq)).p4 hq (mtW_rg (rgP h.1 hq).2.2.2.2 hp)) (j99_us (j99_us h.2.1 (by omega)) (by omega)) ?_, k⟩
        unfold mtN2
        rw [pp_us (by omega), pp_us (by omega)]
        exact Nat.le_refl _
    · rw [if_neg hy]; exact ⟨h, kpS.rf⟩
  · rw [if_neg hx]; exact ⟨h, kpS.rf⟩
/-! person -/
def psnS (S : Nat → Int32) (k h d c : Int32) : Nat → Int32 := us (us (us (us (us (us S (22 + 5 * ppN S) k) (22 + 5 * ppN S + 1) h) (22 + 5 * ppN S + 2) d) (22 + 5 * ppN S + 3) c) (22 + 5 * ppN S + 4) 0) 0 (nI (ppN S + 1))
abbrev okPn (k h d c : Int32) : Prop := (1 ≤ k ∧ k ≤ 5) ∧ th8 h ∧ th8 d ∧ 0 ≤ c ∧ c ≤ 999
def psnA (S : Nat → Int32) (k h d c : Int32) : Int32 := if okPn k h d c then (if ppN S < 6 then S 0 else -2) else -1
def psnN (S : Nat → Int32) (k h d c : Int32) : Nat → Int32 := if okPn k h d c then (if ppN S < 6 then psnS S k h d c else S) else S
theorem psnS_0 {S : Nat → Int32} {k h d c : Int32} : psnS S k h d c 0 = nI (ppN S + 1) := by
  unfold psnS
  rw [us_same]
theorem cq_person {σ : SG} {S : Nat → Int32} (g : GD S) (hT : TWR 20 σ S nob) (k h d c : Int32) : ∃ σ', f_H_person k h d c σ = some (psnA S k h d c, σ') ∧ CW σ σ' (psnN S k h d c) := by
  have h6 : ppN S ≤ 6 := g.1.1
  have no : ¬ okPn k h d c → ∃ σ', some ((-1 : Int32), σ) = some (psnA S k h d c, σ') ∧ CW σ σ' (psnN S k h d c) := fun hn => by
    unfold psnA psnN
    rw [if_neg hn, if_neg hn]
    exact ⟨σ, rfl, CW.rf hT⟩
  unfold f_H_person
  rw [b_isIn, bnd_some]
  by_cases hk : 1 ≤ k ∧ k ≤ 5
  · rw [if_neg (bI_n0.mpr hk), b_isThing, bnd_some]
    by_cases hh : th8 h
    · rw [if_neg (bI_n0.mpr hh), b_isThing, bnd_some]
      by_cases hd : th8 d
      · rw [if_neg (bI_n0.mpr hd), b_isIn, bnd_some]
        by_cases hc : 0 ≤ c ∧ c ≤ 999
        · have hok : okPn k h d c := ⟨hk, hh, hd, hc⟩
          have e0 : σ.1 20 2 = nI (ppN S) := hT.1.trans g.1.2
          unfold psnA psnN
          rw [if_pos (bI_n0.mpr hc), if_pos hok, if_pos hok, e0]
          by_cases hn : ppN S < 6
          · rw [if_pos (show nI (ppN S) < (6 : Int32) from (n_lt (b := 6) (by omega) (by decide)).mpr hn), if_pos hn, if_pos hn, lx_eq, nI_1, sx_eq, gd_pos (ix_nI hn (by decide)), nx_nI (by omega), sx_eq, gd_pos (ix_nI hn (by decide)), sx_eq, gd_pos (ix_nI hn (by decide)), sx_eq, gd_pos (ix_nI hn (by decide)), sx_eq, gd_pos (ix_nI hn (by decide)), sx_eq]
            generalize hn0 : ppN S = n at *
            have t1 := (((((hT.tv.ppl (v := nI (n + 1))).p0 hn (v := k)).p1 hn (v := h)).p2 hn (v := d)).p3 hn (v := c)).p4 hn (v := 0)
            generalize hτ : uI (uI (uI (uI (uI (uI σ 20 2 (nI (n + 1))) 28 n k) 29 n h) 30 n d) 31 n c) 32 n 0 = τ at t1 ⊢
            have eS : us (us (us (us (us (us S 0 (nI (n + 1))) (22 + 5 * n) k) (22 + 5 * n + 1) h) (22 + 5 * n + 2) d) (22 + 5 * n + 3) c) (22 + 5 * n + 4) 0 = psnS S k h d c := by
              unfold psnS
              rw [hn0, us_comm (S := S) (i := 0) (by omega), us_comm (i := 0) (by omega), us_comm (i := 0) (by omega), us_comm (i := 0) (by omega), us_comm (i := 0) (by omega)]
            rw [eS] at t1
            have own : ∀ i, i ≠ 2 → τ.1 20 i = σ.1 20 i := fun i hi => by
              rw [← hτ, uI_c (by decide), uI_c (by decide), uI_c (by decide), uI_c (by decide), uI_c (by decide), uI_i hi]
            have fτ : fr Lwr σ τ := by
              rw [← hτ]
              exact ((((fr.tr (fr.uI (by omega)) (fr.uI (by omega))).tr (fr.uI (by omega))).tr (fr.uI (by omega))).tr (fr.uI (by omega))).tr (fr.uI (by omega))
            -- before it is marked: the new one isn't whole
            let S1 : Nat → Int32 := us (us (us S 0 (nI (n + 1))) (22 + 5 * n + 1) 0) (22 + 5 * n + 2) 1
            have w1 : wN (whS S1 fun _ => false) = wN (whS S fun _ => false) := wN_ext fun q hq => by
              show (decide (q < nx (S1 0)) && (decide (S1 (22 + 5 * q + 1) = S1 (22 + 5 * q + 2)) && !false)) = (decide (q < nx (S 0)) && (decide (S (22 + 5 * q + 1) = S (22 + 5 * q + 2)) && !false))
              have z0 : S1 0 = nI (n + 1) := by
                show us (us (us S 0 (nI (n + 1))) _ _) _ _ 0 = _
                rw [us_ne (by omega), us_ne (by omega), us_same]
              rw [z0, nx_nI (by omega), show nx (S 0) = n from hn0]
              by_cases e : q = n
              · have a1 : S1 (22 + 5 * q + 1) = 0 := by
                  rw [e]
                  show us (us (us S 0 (nI (n + 1))) (22 + 5 * n + 1) 0) (22 + 5 * n + 2) 1 (22 + 5 * n + 1) = _
                  rw [us_ne (by omega), us_same]
                have a2 : S1 (22 + 5 * q + 2) = 1 := by
                  rw [e]
                  exact us_same
                rw [a1, a2, decide_eq_false (show ¬ ((0 : Int32) = 1) by decide), decide_eq_false (show ¬ q < n by omega)]
                simp
              · have a1 : S1 (22 + 5 * q + 1) = S (22 + 5 * q + 1) := by
                  show us (us (us S 0 (nI (n + 1))) (22 + 5 * n + 1) 0) (22 + 5 * n + 2) 1 (22 + 5 * q + 1) = _
                  rw [us_ne (by omega), us_ne (by omega), us_ne (by omega)]
                have a2 : S1 (22 + 5 * q + 2) = S (22 + 5 * q + 2) := by
                  show us (us (us S 0 (nI (n + 1))) (22 + 5 * n + 1) 0) (22 + 5 * n + 2) 1 (22 + 5 * q + 2) = _
                  rw [us_ne (by omega), us_ne (by omega), us_ne (by omega)]
                rw [a1, a2]
                have : decide (q < n + 1) = decide (q < n) := by
                  by_cases z : q < n
                  · rw [decide_eq_true z, decide_eq_true (by omega)]
                  · rw [decide_eq_false z, decide_eq_false (by omega)]
                rw [this]
            have z1 : S1 0 = nI (n + 1) := by
              show us (us (us S 0 (nI (n + 1))) _ _) _ _ 0 = _
              rw [us_ne (by omega), us_ne (by omega), us_same]
            have zP : psnS S k h d c 0 = nI (n + 1) := by rw [psnS_0, hn0]
            obtain ⟨σ', q1, q2, q3, q4, q5⟩ := b_mark (t := 20) (p := n) (σ := τ) (S := S1) (S' := psnS S k h d c) hn (by show n < nx (S1 0); rw [z1, nx_nI (by omega)]; omega) t1 (by rw [own 8 (by decide), w1]; exact hT.2.2.2.1) (by rw [zP, z1]) (fun q hq => by
              have e1 : psnS S k h d c (22 + 5 * q + 1) = S (22 + 5 * q + 1) := by
                unfold psnS
                rw [hn0, us_ne (by omega), us_ne (by omega), us_ne (by omega), us_ne (by omega), us_ne (by omega), us_ne (by omega)]
              have e2 : psnS S k h d c (22 + 5 * q + 2) = S (22 + 5 * q + 2) := by
                unfold psnS
                rw [hn0, us_ne (by omega), us_ne (by omega), us_ne (by omega), us_ne (by omega), us_ne (by omega), us_ne (by omega)]
              have a1 : S1 (22 + 5 * q + 1) = S (22 + 5 * q + 1) := by
                show us (us (us S 0 (nI (n + 1))) (22 + 5 * n + 1) 0) (22 + 5 * n + 2) 1 (22 + 5 * q + 1) = _
                rw [us_ne (by omega), us_ne (by omega), us_ne (by omega)]
              have a2 : S1 (22 + 5 * q + 2) = S (22 + 5 * q + 2) := by
                show us (us (us S 0 (nI (n + 1))) (22 + 5 * n + 1) 0) (22 + 5 * n + 2) 1 (22 + 5 * q + 2) = _
                rw [us_ne (by omega), us_ne (by omega), us_ne (by omega)]
              exact ⟨e1.trans a1.symm, e2.trans a2.symm⟩)
            rw [q1, bnd_some, show S 0 = nI n by rw [← hn0]; exact g.1.2]
            exact ⟨σ', rfl, q3.tw (by rw [q5 9 (by decide), own 9 (by decide)]; exact hT.2.2.1) q4, fτ.tr (q2.mono (fun z hz => Or.inl hz)), fun i i2 i8 _ => by rw [q5 i i8, own i i2]⟩
          · rw [if_neg (show ¬ nI (ppN S) < (6 : Int32) from fun z => hn ((n_lt (b := 6) (by omega) (by decide)).mp z)), if_neg hn, if_neg hn]
            exact ⟨σ, rfl, CW.rf hT⟩
        · rw [if_neg (fun w => w (bI_0.mpr hc))]
          exact no (fun z => hc z.2.2.2)
      · rw [if_pos (bI_0.mpr hd)]
        exact no (fun z => hd z.2.2.1)
    · rw [if_pos (bI_0.mpr hh)]
      exact no (fun z => hh z.2.1)
  · rw [if_pos (bI_0.mpr hk)]
    exact no (fun z => hk z.1)
theorem mq_person {σ : SG} (g : GD (σ.1 149)) (k h d c : Int32) : ∃ σ', f_M_person k h d c σ = some (psnA (σ.1 149) k h d c, σ') ∧ σ'.1 149 = psnN (σ.1 149) k h d c ∧ fr (fun c => c = 149) σ σ' := by
  have h6 : ppN (σ.1 149) ≤ 6 := g.1.1
  have no : ¬ okPn k h d c → ∃ σ', some ((-1 : Int32), σ) = some (psnA (σ.1 149) k h d c, σ') ∧ σ'.1 149 = psnN (σ.1 149) k h d c ∧ fr (fun c => c = 149) σ σ' := fun hn => by
    unfold psnA psnN
    rw [if_neg hn, if_neg hn]
    exact ⟨σ, rfl, rfl, fr.rf⟩
  unfold f_M_person
  rw [m_isKind, bnd_some]
  by_cases hk : 1 ≤ k ∧ k ≤ 5
  · rw [if_neg (bI_n0.mpr hk), m_isThing, bnd_some]
    by_cases hh : th8 h
    · rw [if_neg (bI_n0.mpr hh), m_isThing, bnd_some]
      by_cases hd : th8 d
      · rw [if_neg (bI_n0.mpr hd), m_isPart, bnd_some]
        have hp3 : okPt 3 c ↔ (0 ≤ c ∧ c ≤ 999) := by
          constructor
          · intro z
            rcases z with z | z
            · rcases z.1 with w | w
              · exact absurd w (by decide)
              · exact absurd w (by decide)
            · exact z.2
          · intro z
            exact Or.inr ⟨rfl, z⟩
        rw [bI_iff hp3]
        by_cases hc : 0 ≤ c ∧ c ≤ 999
        · have hok : okPn k h d c := ⟨hk, hh, hd, hc⟩
          have e0 : σ.1 149 0 = nI (ppN (σ.1 149)) := g.1.2
          unfold psnA psnN
          rw [if_pos (bI_n0.mpr hc), if_pos hok, if_pos hok]
          have a0 : ∀ τ, f_M_at (nI (ppN (σ.1 149))) (0 : Int32) τ = some (nI (22 + 5 * ppN (σ.1 149)), τ) := fun τ => m_at (w := 0) τ
          have a1 : ∀ τ, f_M_at (nI (ppN (σ.1 149))) (1 : Int32) τ = some (nI (22 + 5 * ppN (σ.1 149) + 1), τ) := fun τ => m_at (w := 1) τ
          have a2 : ∀ τ, f_M_at (nI (ppN (σ.1 149))) (2 : Int32) τ = some (nI (22 + 5 * ppN (σ.1 149) + 2), τ) := fun τ => m_at (w := 2) τ
          have a3 : ∀ τ, f_M_at (nI (ppN (σ.1 149))) (3 : Int32) τ = some (nI (22 + 5 * ppN (σ.1 149) + 3), τ) := fun τ => m_at (w := 3) τ
          have a4 : ∀ τ, f_M_at (nI (ppN (σ.1 149))) (4 : Int32) τ = some (nI (22 + 5 * ppN (σ.1 149) + 4), τ) := fun τ => m_at (w := 4) τ
          by_cases hn : ppN (σ.1 149) < 6
          · rw [if_pos (show ¬ σ.1 149 0 = (6 : Int32) from fun z => by
              rw [e0] at z
              have := (n_inj (b := 6) (by omega) (by decide)).mp z
              omega), if_pos hn, if_pos hn, lx_eq, e0, a0, bnd_some, gd_pos (ix_nI (by omega) (by decide)), nx_nI (by omega), sx_eq, a1, bnd_some, gd_pos (ix_nI (by omega) (by decide)), nx_nI (by omega), sx_eq, a2, bnd_some, gd_pos (ix_nI (by omega) (by decide)), nx_nI (by omega), sx_eq, a3, bnd_some, gd_pos (ix_nI (by omega) (by decide)), nx_nI (by omega), sx_eq, a4, bnd_some, gd_pos (ix_nI (by omega) (by decide)), nx_nI (by omega), sx_eq, sx_eq, uI_i (by omega), uI_i (by omega), uI_i (by omega), uI_i (by omega), uI_i (by omega), e0, nI_1]
            refine ⟨_, rfl, ?_, ((((fr149.tr fr149).tr fr149).tr fr149).tr fr149).tr fr149⟩
            rw [uI149, uI149, uI149, uI149, uI149, uI149]
            rfl
          · rw [if_neg (show ¬ ¬ σ.1 149 0 = (6 : Int32) from fun z => z (by rw [e0, show ppN (σ.1 149) = 6 by omega]; rfl)), if_neg hn, if_neg hn]
            exact ⟨σ, rfl, rfl, fr.rf⟩
        · rw [if_neg (fun w => w (bI_0.mpr hc))]
          exact no (fun z => hc z.2.2.2)
      · rw [if_pos (bI_0.mpr hd)]
        exact no (fun z => hd z.2.2.1)
    · rw [if_pos (bI_0.mpr hh)]
      exact no (fun z => hh z.2.1)
  · rw [if_pos (bI_0.mpr hk)]
    exact no (fun z => hk z.1)
theorem ok_person {S : Nat → Int32} {k h d c : Int32} (hS : SOK S) : SOK (psnN S k h d c) ∧ kpS S (psnN S k h d c) := by
  unfold psnN
  by_cases hok : okPn k h d c
  · rw [if_pos hok]
    by_cases hn : ppN S < 6
    · rw [if_pos hn]
      have kp : kpS S (psnS S k h d c) := (((((kpS.rf.u1 (by omega)).u1 (by omega)).u1 (by omega)).u1 (by omega)).u1 (by omega)).u1 (by omega)
      obtain ⟨a1, a2, a3, a4⟩ := hok
      refine ⟨kp.sok hS (((((((hS.1.p0 hn (kd_in a1)).p1 hn (rg_tl (b := 7) (by decide) a2)).p2 hn (rg_tl (b := 7) (by decide) a3)).p3 hn (rg_tl (b := 999) (by decide) a4)).p4 hn (rg_nI (k := 0) (by decide) (by decide)))).ppl (rg_nI (by omega) (by decide))) (j99_us (j99_us (j99_us (j99_us (j99_us (j99_us hS.2.1 (by omega)) (by omega)) (by omega)) (by omega)) (by omega)) (by omega)) ?_, kp⟩
      show ppN S ≤ nx (psnS S k h d c 0)
      rw [psnS_0, nx_nI (by omega)]
      omega
    · rw [if_neg hn]; exact ⟨hS, kpS.rf⟩
  · rw [if_neg hok]; exact ⟨hS, kpS.rf⟩
