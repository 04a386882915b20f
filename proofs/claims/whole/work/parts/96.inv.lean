/-! THE INVARIANT BETWEEN THE CALLS -/
/-- where a step of the town leaves the row as it was -/
def ofS (S S' : Nat → Int32) : Prop := ∀ i, i = 1 ∨ i = 3 ∨ (52 ≤ i ∧ i < 70) ∨ 106 ≤ i → S' i = S i
theorem ofS.rf {S : Nat → Int32} : ofS S S := fun _ _ => rfl
theorem ofS.tr {S T U : Nat → Int32} (h : ofS S T) (g : ofS T U) : ofS S U := fun i hi => (g i hi).trans (h i hi)
theorem kpS.of {S S' : Nat → Int32} (h : kpS S S') : ofS S S' := fun i hi => h i (by omega)
theorem ofS.r340 {S S' : Nat → Int32} (h : ofS S S') (g : R340 S) : R340 S' := fun i hi => (h i (by omega)).trans (g i hi)
theorem ofS.rm {S S' : Nat → Int32} {R : List RU} (h : ofS S S') (g : RMt S R) : RMt S' R := g.cong2 (h 1 (by omega)) (fun i hi => h i (by omega))
theorem ofS.rp {S S' : Nat → Int32} {t : Nat} {σ σ' : SG} (k : ofS S S') (h : RPT t σ S) (e : σ'.1 t 16 = σ.1 t 16) (hc : ∀ c, t + 29 ≤ c → c ≤ t + 34 → σ'.1 c = σ.1 c) : RPT t σ' S' := by
  obtain ⟨l1, l2, l3⟩ := h
  have l0 := l1.1
  refine ⟨by rw [k 3 (by omega)]; exact l1, by rw [k 3 (by omega), e]; exact l2, fun i hi => ?_⟩
  rw [k 3 (by omega)] at hi
  rw [k _ (by omega), k _ (by omega), k _ (by omega), hc _ (by omega) (by omega)]
  exact l3 i hi
theorem ofS.en {S : Nat → Int32} {R : List RU} {c : Nat} (g : GD S) (hc : canC S R nob c) : ofS S (enA S R c) := fun i hi => (enA_o (by omega) (by omega)).trans (doC_off g hc (by omega))
theorem ofS.u {S : Nat → Int32} {i : Nat} {v : Int32} (h : i ≠ 1 ∧ i ≠ 3 ∧ ¬ (52 ≤ i ∧ i < 70) ∧ i < 106) : ofS S (us S i v) := fun j hj => us_ne (by omega)
theorem ofS.dw {S : Nat → Int32} {R : List RU} (g : GD S) : ofS S (dwN S R) := by
  unfold dwN
  cases hd : drawP (canL S R nob 0) (S 5) with
  | none => exact ofS.rf
  | some c =>
    obtain ⟨h60, -, hc⟩ := dw_can (v := zN (S 5)) g hd
    exact (ofS.u (by decide)).tr (ofS.en ((pl.rf.us (Or.inr (Or.inr (Or.inr rfl))) : pl S (us S 5 (zN (S 5)))).gd g) hc)
theorem ofS.bk {S : Nat → Int32} (h : SOK S) : ofS S (bkN S) := by
  unfold bkN
  by_cases h0 : nx (S 4) = 0
  · rw [if_pos h0]; exact ofS.rf
  · rw [if_neg h0]
    by_cases hb : bkOK S
    · rw [if_pos hb]
      obtain ⟨b1, b2, b3, b4, b5⟩ := bk_in h h0
      obtain ⟨hp, hq⟩ := num_6 h.1 b3
      exact fun i hi => by rw [us_ne (by omega)]; exact baA_off h.1 hp hq (by have := b5.1; omega) (by omega)
    · rw [if_neg hb]; exact ofS.rf
theorem ofS.mk {S : Nat → Int32} {R : List RU} {x y : Int32} (h : GD S) : ofS S (mkN S R x y) := by
  unfold mkN
  by_cases hy : mkI S x y
  · rw [if_pos hy]
    by_cases hcan : canC S R nob (mkC x y)
    · rw [if_pos hcan]; exact ofS.en h hcan
    · rw [if_neg hcan]; exact ofS.rf
  · rw [if_neg hy]; exact ofS.rf
theorem ofS.ml {R : List RU} {H : HO} {s : Nat} {i : Int32} : ∀ (d k c : Nat) (S : Nat → Int32), SOK S → ofS S (mall R H s i d k S c).2 := by
  intro d
  induction d with
  | zero => intro k c S h; exact ofS.rf
  | succ d ih =>
    intro k c S h
    rw [mall]
    by_cases hp : plc H s (i + nI k)
    · rw [if_pos hp]
      by_cases hcan : CAN S R nob (itV H s i k)
      · obtain ⟨c0, h60, e, hc⟩ := can_in h.1 hcan
        rw [if_pos hcan, e, nx_nI (by omega)]
        exact (ofS.en h.1 hc).tr (ih (k + 1) (c + 1) _ (h.en hc h60))
      · rw [if_neg hcan]
        exact ih (k + 1) c S h
    · rw [if_neg hp]; exact ofS.rf
theorem ofS.mal {S : Nat → Int32} {R : List RU} {H : HO} {x i z : Int32} (h : SOK S) : ofS S (malN S R H x i z) := by
  unfold malN
  by_cases hx : sh4 x
  · rw [if_pos hx]
    by_cases hz : 0 ≤ z ∧ z ≤ 20
    · rw [if_pos hz]
      by_cases hf : rfA H (nx x) 0 = 0
      · rw [if_pos hf]; exact ofS.ml _ _ _ _ h
      · rw [if_neg hf]; exact ofS.rf
    · rw [if_neg hz]; exact ofS.rf
  · rw [if_neg hx]; exact ofS.rf
/-- what both sides hold -/
def WD : Type := (Nat → Int32) × List RU × (Nat → Int32) × List RU × Int32 × Nat × (Nat → Nat → Int32) × Nat × (Nat → Nat) × HO × List Nat
abbrev WD.S (w : WD) : Nat → Int32 := Prod.fst w
abbrev WD.R (w : WD) : List RU := (Prod.snd w).1
abbrev WD.K (w : WD) : Nat → Int32 := (Prod.snd w).2.1
abbrev WD.Q (w : WD) : List RU := (Prod.snd w).2.2.1
abbrev WD.kp (w : WD) : Int32 := (Prod.snd w).2.2.2.1
abbrev WD.m (w : WD) : Nat := (Prod.snd w).2.2.2.2.1
abbrev WD.W (w : WD) : Nat → Nat → Int32 := (Prod.snd w).2.2.2.2.2.1
abbrev WD.n (w : WD) : Nat := (Prod.snd w).2.2.2.2.2.2.1
abbrev WD.tp (w : WD) : Nat → Nat := (Prod.snd w).2.2.2.2.2.2.2.1
abbrev WD.H (w : WD) : HO := (Prod.snd w).2.2.2.2.2.2.2.2.1
abbrev WD.L (w : WD) : List Nat := (Prod.snd w).2.2.2.2.2.2.2.2.2
def mkW (S : Nat → Int32) (R : List RU) (K : Nat → Int32) (Q : List RU) (kp : Int32) (m : Nat) (W : Nat → Nat → Int32) (n : Nat) (tp : Nat → Nat) (H : HO) (L : List Nat) : WD := (S, R, K, Q, kp, m, W, n, tp, H, L)
def IC (ρ : Nat) (σ : SG) (w : WD) : Prop := TN 20 σ w.S w.R ∧ (w.kp ≠ 0 → TN 55 σ w.K w.Q) ∧ σ.1 0 3 = w.kp ∧ RWc σ w.m w.W ∧ HC σ w.H ∧ TRc σ w.L ∧ TPc σ w.n w.tp ∧ SV ρ σ
def IM (σ : SG) (w : WD) : Prop := σ.1 149 = w.S ∧ σ.1 148 4 = -1 ∧ RMt w.S w.R ∧ SOK w.S ∧ R340 w.S ∧ σ.1 150 = w.K ∧ R340 w.K ∧ (w.kp ≠ 0 → SOK w.K ∧ RMt w.K w.Q) ∧ σ.1 148 3 = w.kp ∧ RWm σ w.m w.W ∧ HM σ w.H ∧ TRm σ w.L ∧ TPm σ w.n w.tp
theorem TN.cong {t : Nat} {σ σ' : SG} {S : Nat → Int32} {R : List RU} (h : TN t σ S R) (hc : ∀ c, t ≤ c → c ≤ t + 34 → c ≠ t + 7 → σ'.1 c = σ.1 c) : TN t σ' S R := ⟨h.1.cong (fun c a b d => hc c a (by omega) d), h.2.1.cong (fun c a b => hc c (by omega) (by omega) (by omega)), h.2.2.1.keep (hc t (by omega) (by omega) (by omega)) (fun c a b => hc c (by omega) (by omega) (by omega)), ofS.rf.rp h.2.2.2 (congrFun (hc t (by omega) (by omega) (by omega)) 16) (fun c a b => hc c (by omega) (by omega) (by omega))⟩
theorem RWc.keep {σ σ' : SG} {m : Nat} {W : Nat → Nat → Int32} (h : RWc σ m W) (e : σ'.1 0 8 = σ.1 0 8) (hc : ∀ c, 142 ≤ c → c ≤ 147 → σ'.1 c = σ.1 c) : RWc σ' m W := ⟨e.trans h.1, h.2.1, fun k hk w hw => by have := h.2.1; rw [hc _ (by omega) (by omega)]; exact h.2.2 k hk w hw⟩
theorem TRc.keep {σ σ' : SG} {L : List Nat} (h : TRc σ L) (e : σ'.1 1 6 = σ.1 1 6) (e2 : σ'.1 12 = σ.1 12) : TRc σ' L := ⟨h.1, e.trans h.2.1, fun i x hx => by rw [e2]; exact h.2.2 i x hx⟩
theorem TRm.keep {σ σ' : SG} {L : List Nat} (h : TRm σ L) (e : σ'.1 148 40 = σ.1 148 40) (e2 : σ'.1 166 = σ.1 166) : TRm σ' L := ⟨h.1, e.trans h.2.1, fun i x hx => by rw [e2]; exact h.2.2 i x hx⟩
theorem TPc.keep {σ σ' : SG} {n : Nat} {tp : Nat → Nat} (h : TPc σ n tp) (e : σ'.1 130 1 = σ.1 130 1) (e2 : σ'.1 131 = σ.1 131) : TPc σ' n tp := ⟨e.trans h.1, h.2.1, fun i hi => by rw [e2]; exact h.2.2 i hi⟩
theorem TPm.keep {σ σ' : SG} {n : Nat} {tp : Nat → Nat} (h : TPm σ n tp) (e : σ'.1 148 26 = σ.1 148 26) (e2 : σ'.1 159 = σ.1 159) : TPm σ' n tp := ⟨e.trans h.1, h.2.1, fun i hi => by rw [e2]; exact h.2.2 i hi⟩
theorem RWm.keep {σ σ' : SG} {m : Nat} {W : Nat → Nat → Int32} (h : RWm σ m W) (e : σ'.1 148 24 = σ.1 148 24) (e2 : σ'.1 158 = σ.1 158) : RWm σ' m W := ⟨e.trans h.1, h.2.1, fun k hk w hw => by rw [e2]; exact h.2.2 k hk w hw⟩
theorem SV.keep {σ σ' : SG} {ρ : Nat} (h : SV ρ σ) (e : σ'.2 = σ.2) : SV ρ σ' := by
  unfold SV
  rw [e]
  exact h
/-- the class's cells that count between the calls -/
abbrev UC (c : Nat) : Prop := c ≤ 12 ∨ (20 ≤ c ∧ c ≤ 89 ∧ c ≠ 27 ∧ c ≠ 62) ∨ c = 130 ∨ c = 131 ∨ (142 ≤ c ∧ c ≤ 147)
theorem IC.keep {ρ ρ' : Nat} {σ σ' : SG} {w : WD} (h : IC ρ σ w) (hc : ∀ c, UC c → σ'.1 c = σ.1 c) (hv : SV ρ' σ') : IC ρ' σ' w := by
  obtain ⟨h1, h2, h3, h4, h5, h6, h7, -⟩ := h
  exact ⟨h1.cong (fun c a b d => hc c (by omega)), fun z => (h2 z).cong (fun c a b d => hc c (by omega)), by rw [hc 0 (by decide)]; exact h3, h4.keep (by rw [hc 0 (by decide)]) (fun c a b => hc c (by omega)), h5.keep (fun c a b => hc c (by omega)), h6.keep (by rw [hc 1 (by decide)]) (hc 12 (by decide)), h7.keep (by rw [hc 130 (by decide)]) (hc 131 (by decide)), hv⟩
theorem IC.m {ρ : Nat} {σ σ' : SG} {w : WD} {L : Nat → Prop} (h : IC ρ σ w) (hf : fr L σ σ') (hl : ∀ c, L c → 148 ≤ c) : IC ρ σ' w := h.keep (fun c hc => hf.1 c (fun z => by have := hl c z; omega)) (h.2.2.2.2.2.2.2.keep hf.2)
theorem IM.keep {σ σ' : SG} {w : WD} (h : IM σ w) (e9 : σ'.1 149 = σ.1 149) (hc : ∀ c, c = 150 ∨ (158 ≤ c ∧ c ≤ 166) → σ'.1 c = σ.1 c) (h8 : ∀ i, i = 3 ∨ i = 4 ∨ i = 24 ∨ i = 26 ∨ i = 40 → σ'.1 148 i = σ.1 148 i) : IM σ' w := by
  obtain ⟨h1, h2, h3, h4, h5, h6, h7, h8a, h9, h10, h11, h12, h13⟩ := h
  exact ⟨e9.trans h1, (h8 4 (by omega)).trans h2, h3, h4, h5, (hc 150 (by omega)).trans h6, h7, h8a, (h8 3 (by omega)).trans h9, h10.keep (h8 24 (by omega)) (hc 158 (by omega)), h11.keep (fun c a b => hc c (by omega)), h12.keep (h8 40 (by omega)) (hc 166 (by omega)), h13.keep (h8 26 (by omega)) (hc 159 (by omega))⟩
theorem IM.c {σ σ' : SG} {w : WD} {L : Nat → Prop} (h : IM σ w) (hf : ∀ c, ¬ L c → σ'.1 c = σ.1 c) (hl : ∀ c, L c → c < 148) : IM σ' w := h.keep (hf _ (fun z => by have := hl _ z; omega)) (fun c hc => hf c (fun z => by have := hl c z; omega)) (fun i _ => congrFun (hf 148 (fun z => by have := hl _ z; omega)) i)
/-- one call: both answer the same and hold the same again -/
def CALL (F G : SG → Option (Int32 × SG)) : Prop := ∀ ρ σ w, IC ρ σ w → IM σ w → ρ + 100 < 1099511627776 → ∃ v σ1 σ2 w' ρ', F σ = some (v, σ1) ∧ G σ1 = some (v, σ2) ∧ IC ρ' σ2 w' ∧ IM σ2 w' ∧ ρ' ≤ ρ + 100
theorem IM.ps {ρ : Nat} {σ : SG} {w : WD} (h : IM σ w) (c : IC ρ σ w) : PS σ w.R ρ := by
  obtain ⟨h1, h2, h3, h4, -⟩ := h
  exact ⟨by rw [h1]; exact h4.1, by rw [h1]; exact c.1.1, c.1.2.1, by rw [h1]; exact h3, h2, c.2.2.2.2.2.2.2⟩
theorem IM.gd {σ : SG} {w : WD} (h : IM σ w) : GD (σ.1 149) := by rw [h.1]; exact h.2.2.2.1.1
theorem IM.rm {σ : SG} {w : WD} (h : IM σ w) : RMt (σ.1 149) w.R := by rw [h.1]; exact h.2.2.1
theorem IM.ok {σ : SG} {w : WD} (h : IM σ w) : SOK (σ.1 149) := by rw [h.1]; exact h.2.2.2.1
theorem IM.lv {σ : SG} {w : WD} (h : IM σ w) : rg (σ.1 149 4) 12 := by rw [h.1]; exact h.2.2.2.1.2.2.2.1
theorem IM.rv {σ : SG} {w : WD} (h : IM σ w) : rg (σ.1 149 3) 6 := by rw [h.1]; exact h.2.2.2.1.2.2.2.2
/-- a question of the search -/
theorem call_q {F G : SG → Option (Int32 × SG)} (A : (Nat → Int32) → List RU → Int32) (hF : ∀ (σ : SG) (R : List RU) (ρ : Nat), PS σ R ρ → J99 (σ.1 149) → ρ + 100 < 1099511627776 → ∃ σ', F σ = some (A (σ.1 149) R, σ') ∧ CM σ σ' R ρ) (hG : ∀ (σ : SG) (R : List RU) (ρ : Nat), PS σ R ρ → J99 (σ.1 149) → ∃ σ', G σ = some (A (σ.1 149) R, σ') ∧ MO σ σ' R ρ) : CALL F G := by
  intro ρ σ w hc hm hr
  obtain ⟨σ1, q1, q2, ρ', p1, p2, p3⟩ := hF σ w.R ρ (hm.ps hc) hm.ok.2.1 hr
  have c1 : IC ρ' σ1 w := hc.keep (fun c hc => q2.1 c (by omega)) p3.2.2.2.2.2
  have m1 : IM σ1 w := hm.c q2.1 (fun c hc => by omega)
  obtain ⟨σ2, r1, r2, r3, r4, r5⟩ := hG σ1 w.R ρ' p3 m1.ok.2.1
  have e : σ1.1 149 = σ.1 149 := q2.1 149 (by decide)
  rw [e] at r1
  exact ⟨_, σ1, σ2, w, ρ', q1, r1, c1.m r2 (fun c hc => by omega), m1.keep r4 (fun c hc => r2.1 c (by omega)) (fun i hi => r5 i (by omega) (by omega) (by omega)), p2⟩
theorem CO.cm {σ σ' : SG} {R : List RU} {ρ : Nat} (h : CO σ σ' R ρ) : CM σ σ' R ρ := by
  obtain ⟨a, ρ', b, c, d⟩ := h
  exact ⟨a, ρ', b, by omega, d⟩
theorem call_fewest : CALL f_H_fewest f_M_fewest := call_q fewA (fun σ R ρ h _ hr => by
  obtain ⟨σ', a, b⟩ := cq_fewest h (by omega)
  exact ⟨σ', a, b.cm⟩) (fun σ R ρ h _ => mq_fewest h)
theorem call_ith (x : Int32) : CALL (f_H_ith x) (f_M_ith x) := call_q (fun S R => ithA S R x) (fun σ R ρ h _ hr => by
  obtain ⟨σ', a, b⟩ := cq_ith h (by omega) x
  exact ⟨σ', a, b.cm⟩) (fun σ R ρ h _ => mq_ith h x)
theorem call_ways (x : Int32) : CALL (f_H_ways x) (f_M_ways x) := call_q (fun S R => wayA S R x) (fun σ R ρ h _ hr => by
  obtain ⟨σ', a, b⟩ := cq_ways h (by omega) x
  exact ⟨σ', a, b.cm⟩) (fun σ R ρ h _ => mq_ways h x)
theorem call_most (x : Int32) : CALL (f_H_most x) (f_M_most x) := call_q (fun S R => mosA S R x) (fun σ R ρ h _ hr => by
  obtain ⟨σ', a, b⟩ := cq_most h (by omega) x
  exact ⟨σ', a, b.cm⟩) (fun σ R ρ h _ => mq_most h x)
theorem call_cheapest (x : Int32) : CALL (f_H_cheapest x) (f_M_cheapest x) := call_q (fun S R => chpA S R x) (fun σ R ρ h _ hr => by
  obtain ⟨σ', a, b⟩ := cq_cheapest h (by omega) x
  exact ⟨σ', a, b.cm⟩) (fun σ R ρ h _ => mq_cheapest h x)
theorem call_cheaply (x y : Int32) : CALL (f_H_cheaply x y) (f_M_cheaply x y) := call_q (fun S R => chyA S R x y) (fun σ R ρ h _ hr => by
  obtain ⟨σ', a, b⟩ := cq_cheaply h (by omega) x y
  exact ⟨σ', a, b.cm⟩) (fun σ R ρ h _ => mq_cheaply h x y)
theorem call_bars : CALL f_H_bars f_M_bars := call_q barA (fun σ R ρ h _ hr => cq_bars h hr) (fun σ R ρ h _ => mq_bars h)
theorem call_jars : CALL f_H_jars f_M_jars := call_q jarA (fun σ R ρ h hJ hr => cq_jars h hJ hr) (fun σ R ρ h hJ => mq_jars h hJ)
theorem call_feeFor (x : Int32) : CALL (f_H_feeFor x) (f_M_feeFor x) := call_q (fun S R => feeA S R x) (fun σ R ρ h _ hr => cq_feeFor h hr x) (fun σ R ρ h _ => mq_feeFor h x)
theorem call_game (x : Int32) : CALL (f_H_game x) (f_M_game x) := call_q (fun S R => gamA S R x) (fun σ R ρ h _ hr => by
  obtain ⟨σ', a, b⟩ := cq_game h (by omega) x
  exact ⟨σ', a, b.cm⟩) (fun σ R ρ h _ => mq_game h x)
theorem call_play (x : Int32) : CALL (f_H_play x) (f_M_play x) := call_q (fun S R => plaA S R x) (fun σ R ρ h _ hr => by
  obtain ⟨σ', a, b⟩ := cq_play h (by omega) x
  exact ⟨σ', a, b.cm⟩) (fun σ R ρ h _ => mq_play h x)
