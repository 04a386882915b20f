/-! every CALL: reports, dice, SHEETS, TEXT, rows, the host's trace, KEEP -/
theorem SOK.r3 {S S' : Nat → Int32} (h : SOK S) (he : ∀ i, i ≠ 3 → ¬ (52 ≤ i ∧ i < 70) → S' i = S i) (h3 : rg (S' 3) 6) : SOK S' := by
  have p : pl S S' := fun i a b _ _ => he i b (by omega)
  refine ⟨p.gd h.1, p.j99 h.2.1, fun i hi => ?_, by rw [he 4 (by decide) (by decide)]; exact h.2.2.2.1, h3⟩
  have hm := h.2.2.2.1.1
  rw [he 4 (by decide) (by decide)] at hi
  obtain ⟨⟨c, c1, c2, c3⟩, y, z⟩ := h.2.2.1 i hi
  rw [he _ (by omega) (by omega), he _ (by omega) (by omega), he _ (by omega) (by omega)]
  refine ⟨⟨c, c1, c2, ?_⟩, y, z⟩
  show c / 10 < nx (S' 0) ∧ (c % 10 = 9 ∨ (c / 10 < c % 10 ∧ c % 10 < nx (S' 0)))
  rw [he 0 (by decide) (by decide)]
  exact c3
theorem TN.own2 {σ σ' : SG} {S S' : Nat → Int32} {R : List RU} (h : TN 20 σ S R) (g6 : ppN S ≤ 6) (p : pl S S') (e : ∀ i, i ≠ 13 → i ≠ 16 → σ'.1 20 i = σ.1 20 i) (hc : ∀ c, 21 ≤ c → c ≤ 48 → σ'.1 c = σ.1 c) (e13 : σ'.1 20 13 = S' 5) (e4 : S' 4 = S 4) (e7 : ∀ i, 70 ≤ i → i < 106 → S' i = S i) (hr : RPT 20 σ' S') : TN 20 σ' S' R := by
  have T1 := (h.1.own (i := 13) (v := σ'.1 20 13) (by decide) (by decide) (by decide) (by decide)).own (i := 16) (v := σ'.1 20 16) (by decide) (by decide) (by decide) (by decide)
  have T2 : TWR 20 σ' S nob := T1.cong (fun c a b d => by
    by_cases ec : c = 20
    · rw [ec]
      funext i
      by_cases e1 : i = 16
      · rw [e1, uI_same]
      · rw [uI_i e1]
        by_cases e2 : i = 13
        · rw [e2, uI_same]
        · rw [uI_i e2]; exact e i e2 e1
    · rw [hc c (by omega) (by omega)]
      funext i
      rw [uI_c ec, uI_c ec])
  obtain ⟨l1, l2, l3, l4⟩ := h.2.2.1
  have l0 := l1.1
  refine ⟨p.tw g6 T2, h.2.1.cong (fun c a b => hc c (by omega) (by omega)), ⟨by rw [e4]; exact l1, e13, by rw [e4, e 14 (by decide) (by decide)]; exact l3, fun i hi => ?_⟩, hr⟩
  rw [e4] at hi
  rw [hc _ (by omega) (by omega), e7 _ (by omega) (by omega), e7 _ (by omega) (by omega), e7 _ (by omega) (by omega)]
  exact l4 i hi
theorem rp_off {S : Nat → Int32} {x y z : Int32} : ∀ i, i ≠ 3 → ¬ (52 ≤ i ∧ i < 70) → rpN S x y z i = S i := by
  intro i h3 h5
  unfold rpN
  by_cases c1 : 0 ≤ x ∧ x ≤ 99
  · rw [if_pos c1]
    by_cases c2 : 0 ≤ y ∧ y ≤ 99
    · rw [if_pos c2]
      by_cases c3 : 0 ≤ z ∧ z ≤ 999
      · rw [if_pos c3]
        by_cases c4 : nx (S 3) < 6
        · rw [if_pos c4]
          unfold rpS
          rw [us_ne h3, us_ne (by omega), us_ne (by omega), us_ne (by omega)]
        · rw [if_neg c4]
      · rw [if_neg c3]
    · rw [if_neg c2]
  · rw [if_neg c1]
theorem rp_3 {S : Nat → Int32} {x y z : Int32} (h : rg (S 3) 6) : rg (rpN S x y z 3) 6 := by
  unfold rpN
  by_cases c1 : 0 ≤ x ∧ x ≤ 99
  · rw [if_pos c1]
    by_cases c2 : 0 ≤ y ∧ y ≤ 99
    · rw [if_pos c2]
      by_cases c3 : 0 ≤ z ∧ z ≤ 999
      · rw [if_pos c3]
        by_cases c4 : nx (S 3) < 6
        · rw [if_pos c4]
          unfold rpS
          rw [us_same, h.2, nI_1]
          exact rg_nI (by omega) (by decide)
        · rw [if_neg c4]; exact h
      · rw [if_neg c3]; exact h
    · rw [if_neg c2]; exact h
  · rw [if_neg c1]; exact h
theorem call_report (x y z : Int32) : CALL (f_H_report x y z) (f_M_report x y z) := by
  intro ρ σ w hc hm hr
  have ok := hm.2.2.2.1
  obtain ⟨σ1, q1, q2, q3, q4⟩ := cq_report hc.1.2.2.2 x y z
  have T1 : TN 20 σ1 (rpN w.S x y z) w.R := hc.1.own2 ok.1.1.1 (fun i a b _ _ => rp_off i b (by omega)) (fun i _ b => q4 i b) (fun c a b => q3.1 c (by omega)) (by rw [q4 13 (by decide), rp_off 5 (by decide) (by decide)]; exact hc.1.2.2.1.2.1) (rp_off 4 (by decide) (by decide)) (fun i a b => rp_off i (by omega) (by omega)) q2
  have c1 := hc.st T1 q3 (fun c z => by omega)
  have m1 : IM σ1 w := hm.c q3.1 (fun c z => by omega)
  obtain ⟨σ2, r1, r2, r3⟩ := mq_report m1.rv x y z
  rw [m1.1] at r1 r2
  exact ⟨_, σ1, σ2, w.st (rpN w.S x y z), ρ, q1, r1, c1.m r3 (fun c z => by omega), m1.st r2 (hm.2.2.1.cong2 (rp_off 1 (by decide) (by decide)) (fun i hi => rp_off i (by omega) (by omega))) (ok.r3 rp_off (rp_3 ok.2.2.2.2)) (fun i hi => by rw [rp_off i (by omega) (by omega)]; exact hm.2.2.2.2.1 i hi) (fun c hu => r3.1 c (by omega)) (fun i _ => r3.at (by decide) i), by omega⟩
theorem call_forget : CALL f_H_forget f_M_forget := by
  intro ρ σ w hc hm hr
  have ok := hm.2.2.2.1
  obtain ⟨σ1, q1, q2, q3, q4⟩ := cq_forget hc.1.2.2.2
  have off : ∀ i, i ≠ 3 → us w.S 3 0 i = w.S i := fun i h => us_ne h
  have T1 : TN 20 σ1 (us w.S 3 0) w.R := hc.1.own2 ok.1.1.1 (fun i a b _ _ => off i b) (fun i _ b => q4 i b) (fun c a b => q3.1 c (by omega)) (by rw [q4 13 (by decide), off 5 (by decide)]; exact hc.1.2.2.1.2.1) (off 4 (by decide)) (fun i a b => off i (by omega)) q2
  have c1 := hc.st T1 q3 (fun c z => by omega)
  have m1 : IM σ1 w := hm.c q3.1 (fun c z => by omega)
  obtain ⟨σ2, r1, r2, r3⟩ := mq_forget σ1
  rw [m1.1] at r1 r2
  exact ⟨_, σ1, σ2, w.st (us w.S 3 0), ρ, q1, r1, c1.m r3 (fun c z => by omega), m1.st r2 (hm.2.2.1.cong2 (off 1 (by decide)) (fun i hi => off i (by omega))) (ok.r3 (fun i h _ => off i h) (by rw [us_same]; exact rg_nI (k := 0) (by decide) (by decide))) (fun i hi => by rw [off i (by omega)]; exact hm.2.2.2.2.1 i hi) (fun c hu => r3.1 c (by omega)) (fun i _ => r3.at (by decide) i), by omega⟩
theorem call_seed (x : Int32) : CALL (f_H_seed x) (f_M_seed x) := by
  intro ρ σ w hc hm hr
  have ok := hm.2.2.2.1
  obtain ⟨σ1, q1, q2, q3, q4⟩ := cq_seed hc.1.2.2.1.2.1 x
  have off : ∀ i, i ≠ 5 → us w.S 5 x i = w.S i := fun i h => us_ne h
  have o1 : ofS w.S (us w.S 5 x) := ofS.u (by decide)
  have T1 : TN 20 σ1 (us w.S 5 x) w.R := hc.1.own2 ok.1.1.1 (fun i a _ _ d => off i d) (fun i b _ => q4 i b) (fun c a b => q3.1 c (by omega)) q2 (off 4 (by decide)) (fun i a b => off i (by omega)) (o1.rp hc.1.2.2.2 (q4 16 (by decide)) (fun c a b => q3.1 c (by omega)))
  have c1 := hc.st T1 q3 (fun c z => by omega)
  have m1 : IM σ1 w := hm.c q3.1 (fun c z => by omega)
  obtain ⟨σ2, r1, r2, r3⟩ := mq_seed σ1 x
  rw [m1.1] at r1 r2
  exact ⟨_, σ1, σ2, w.st (us w.S 5 x), ρ, q1, r1, c1.m r3 (fun c z => by omega), m1.st r2 (o1.rm hm.2.2.1) ok.z (o1.r340 hm.2.2.2.2.1) (fun c hu => r3.1 c (by omega)) (fun i _ => r3.at (by decide) i), by omega⟩
/-- SHEETS and shelves -/
theorem call_h {F G : SG → Option (Int32 × SG)} (A : WD → Int32) (N : WD → HO) (hF : ∀ ρ σ w, IC ρ σ w → ∃ σ', F σ = some (A w, σ') ∧ HC σ' (N w) ∧ fr (fun c => 2 ≤ c ∧ c ≤ 11) σ σ') (hG : ∀ σ w, IM σ w → HOk w.H → ∃ σ', G σ = some (A w, σ') ∧ HM σ' (N w) ∧ fr (fun c => 160 ≤ c ∧ c ≤ 165) σ σ') : CALL F G := by
  intro ρ σ w hc hm hr
  obtain ⟨σ1, q1, q2, q3⟩ := hF ρ σ w hc
  have m1 : IM σ1 w := hm.c q3.1 (fun c z => by omega)
  obtain ⟨σ2, r1, r2, r3⟩ := hG σ1 w m1 hc.2.2.2.2.1.ok
  obtain ⟨h1, h2, h3, h4, h5, h6, h7, h8⟩ := hc
  have k : ∀ c, ¬ (2 ≤ c ∧ c ≤ 11) → σ1.1 c = σ.1 c := fun c hc => q3.1 c hc
  have c1 : IC ρ σ1 (mkW w.S w.R w.K w.Q w.kp w.m w.W w.n w.tp (N w) w.L) := ⟨h1.cong (fun c a b d => k c (by omega)), fun z => (h2 z).cong (fun c a b d => k c (by omega)), by rw [k 0 (by decide)]; exact h3, h4.keep (by rw [k 0 (by decide)]) (fun c a b => k c (by omega)), q2, h6.keep (by rw [k 1 (by decide)]) (k 12 (by decide)), h7.keep (by rw [k 130 (by decide)]) (k 131 (by decide)), h8.keep q3.2⟩
  obtain ⟨g1, g2, g3, g4, g5, g6, g7, g8, g9, g10, g11, g12, g13⟩ := m1
  have k2 : ∀ c, ¬ (160 ≤ c ∧ c ≤ 165) → σ2.1 c = σ1.1 c := fun c hc => r3.1 c hc
  exact ⟨_, σ1, σ2, _, ρ, q1, r1, c1.m r3 (fun c z => by omega), ⟨(k2 149 (by decide)).trans g1, by rw [k2 148 (by decide)]; exact g2, g3, g4, g5, (k2 150 (by decide)).trans g6, g7, g8, by rw [k2 148 (by decide)]; exact g9, g10.keep (by rw [k2 148 (by decide)]) (k2 158 (by decide)), r2, g12.keep (by rw [k2 148 (by decide)]) (k2 166 (by decide)), g13.keep (by rw [k2 148 (by decide)]) (k2 159 (by decide))⟩, by omega⟩
theorem call_sheet (x y z : Int32) : CALL (f_H_sheet x y z) (f_M_sheet x y z) := call_h (fun _ => shtA x y z) (fun w => shtN w.H x y z) (fun ρ σ w h => by
  obtain ⟨σ', a, b, c⟩ := cq_sheet h.2.2.2.2.1 x y z
  exact ⟨σ', a, b, c.mono (fun q hq => by omega)⟩) (fun σ w h ho => by
  obtain ⟨σ', a, b, c⟩ := mq_sheet h.2.2.2.2.2.2.2.2.2.2.1 x y z
  exact ⟨σ', a, b, c.mono (fun q hq => by omega)⟩)
theorem call_write (x y z : Int32) : CALL (f_H_write x y z) (f_M_write x y z) := call_h (fun w => wrtA w.H x y) (fun w => wrtN w.H x y z) (fun ρ σ w h => by
  obtain ⟨σ', a, b, c⟩ := cq_write h.2.2.2.2.1 x y z
  exact ⟨σ', a, b, c.mono (fun q hq => by omega)⟩) (fun σ w h ho => by
  obtain ⟨σ', a, b, c⟩ := mq_write h.2.2.2.2.2.2.2.2.2.2.1 ho x y z
  exact ⟨σ', a, b, c.mono (fun q hq => by omega)⟩)
theorem call_shelf (x y z : Int32) : CALL (f_H_shelf x y z) (f_M_shelf x y z) := call_h (fun w => shlA w.S x y z) (fun w => shlN w.S w.H x y z) (fun ρ σ w h => by
  obtain ⟨σ', a, b, c⟩ := cq_shelf h.1.1 h.2.2.2.2.1 x y z
  exact ⟨σ', a, b, c.mono (fun q hq => by omega)⟩) (fun σ w h ho => by
  obtain ⟨σ', a, b, c⟩ := mq_shelf h.gd.1 h.2.2.2.2.2.2.2.2.2.2.1 ho x y z
  rw [h.1] at a b
  exact ⟨σ', a, b, c.mono (fun q hq => by omega)⟩)
theorem call_act (x y v : Int32) : CALL (f_H_act x y v) (f_M_act x y v) := by
  intro ρ σ w hc hm hr
  have ok := hm.2.2.2.1
  obtain ⟨σ1, q1, q2, q3⟩ := cq_act ok.1 hc.1.1 hc.2.2.2.2.1 x y v
  have m1 : IM σ1 w := hm.c q3.1 (fun c z => by omega)
  obtain ⟨σ2, r1, r2, r3, r4⟩ := mq_act m1.gd m1.2.2.2.2.2.2.2.2.2.2.1 x y v
  rw [m1.1] at r1 r2
  obtain ⟨h1, h2, h3, h4, h5, h6, h7, h8⟩ := hc
  have k : ∀ c, ¬ (c = 1 ∨ c = 12 ∨ (14 ≤ c ∧ c ≤ 19)) → σ1.1 c = σ.1 c := fun c hc => q3.1 c hc
  have c1 : IC ρ σ1 (mkW w.S w.R w.K w.Q w.kp w.m w.W w.n w.tp w.H (actL w.S w.H x y v)) := ⟨h1.cong (fun c a b d => k c (by omega)), fun z => (h2 z).cong (fun c a b d => k c (by omega)), by rw [k 0 (by decide)]; exact h3, h4.keep (by rw [k 0 (by decide)]) (fun c a b => k c (by omega)), h5.keep (fun c a b => k c (by omega)), q2, h7.keep (by rw [k 130 (by decide)]) (k 131 (by decide)), h8.keep q3.2⟩
  obtain ⟨g1, g2, g3, g4, g5, g6, g7, g8, g9, g10, g11, g12, g13⟩ := m1
  have k2 : ∀ c, ¬ (c = 148 ∨ c = 166) → σ2.1 c = σ1.1 c := fun c hc => r3.1 c hc
  exact ⟨_, σ1, σ2, _, ρ, q1, r1, c1.m r3 (fun c z => by omega), ⟨(k2 149 (by decide)).trans g1, (r4 4 (by omega)).trans g2, g3, g4, g5, (k2 150 (by decide)).trans g6, g7, g8, (r4 3 (by omega)).trans g9, g10.keep (r4 24 (by omega)) (k2 158 (by decide)), g11.keep (fun c a b => k2 c (by omega)), r2, g13.keep (r4 26 (by omega)) (k2 159 (by decide))⟩, by omega⟩
theorem call_feed (x : Int64) (z : Int32) : CALL (f_H_feed x z) (f_M_feed x z) := by
  intro ρ σ w hc hm hr
  obtain ⟨σ1, q1, q2, q3, q4⟩ := cq_feed hc.2.2.2.2.2.2.1 x z
  have m1 : IM σ1 w := hm.c q3.1 (fun c z => by omega)
  obtain ⟨σ2, r1, r2, r3, r4⟩ := mq_feed m1.2.2.2.2.2.2.2.2.2.2.2.2 x z
  obtain ⟨h1, h2, h3, h4, h5, h6, h7, h8⟩ := hc
  have k : ∀ c, ¬ (c = 130 ∨ c = 131) → σ1.1 c = σ.1 c := fun c hc => q3.1 c hc
  have c1 : IC ρ σ1 (mkW w.S w.R w.K w.Q w.kp w.m w.W (fdn w.n z) (fdt w.tp w.n x z) w.H w.L) := ⟨h1.cong (fun c a b d => k c (by omega)), fun z => (h2 z).cong (fun c a b d => k c (by omega)), by rw [k 0 (by decide)]; exact h3, h4.keep (by rw [k 0 (by decide)]) (fun c a b => k c (by omega)), h5.keep (fun c a b => k c (by omega)), h6.keep (by rw [k 1 (by decide)]) (k 12 (by decide)), q2, h8.keep q3.2⟩
  obtain ⟨g1, g2, g3, g4, g5, g6, g7, g8, g9, g10, g11, g12, g13⟩ := m1
  have k2 : ∀ c, ¬ (c = 148 ∨ c = 159) → σ2.1 c = σ1.1 c := fun c hc => r3.1 c hc
  exact ⟨_, σ1, σ2, _, ρ, q1, r1, c1.m r3 (fun c z => by omega), ⟨(k2 149 (by decide)).trans g1, (r4 4 (by decide)).trans g2, g3, g4, g5, (k2 150 (by decide)).trans g6, g7, g8, (r4 3 (by decide)).trans g9, g10.keep (r4 24 (by decide)) (k2 158 (by decide)), g11.keep (fun c a b => k2 c (by omega)), g12.keep (r4 40 (by decide)) (k2 166 (by decide)), r2⟩, by omega⟩
theorem call_alter (x y v : Int32) : CALL (f_H_alterRow x y v) (f_M_alterRow x y v) := by
  intro ρ σ w hc hm hr
  obtain ⟨σ1, q1, q2, q3⟩ := cq_alter hc.2.2.2.1 x y v
  have m1 : IM σ1 w := hm.c q3.1 (fun c z => by omega)
  obtain ⟨σ2, r1, r2, r3⟩ := mq_alter m1.2.2.2.2.2.2.2.2.2.1 x y v
  obtain ⟨h1, h2, h3, h4, h5, h6, h7, h8⟩ := hc
  have k : ∀ c, ¬ (142 ≤ c ∧ c ≤ 147) → σ1.1 c = σ.1 c := fun c hc => q3.1 c hc
  have c1 : IC ρ σ1 (mkW w.S w.R w.K w.Q w.kp w.m (altW w.m w.W x y v) w.n w.tp w.H w.L) := ⟨h1.cong (fun c a b d => k c (by omega)), fun z => (h2 z).cong (fun c a b d => k c (by omega)), by rw [k 0 (by decide)]; exact h3, q2, h5.keep (fun c a b => k c (by omega)), h6.keep (by rw [k 1 (by decide)]) (k 12 (by decide)), h7.keep (by rw [k 130 (by decide)]) (k 131 (by decide)), h8.keep q3.2⟩
  obtain ⟨g1, g2, g3, g4, g5, g6, g7, g8, g9, g10, g11, g12, g13⟩ := m1
  have k2 : ∀ c, ¬ (c = 158) → σ2.1 c = σ1.1 c := fun c hc => r3.1 c hc
  exact ⟨_, σ1, σ2, _, ρ, q1, r1, c1.m r3 (fun c z => by omega), ⟨(k2 149 (by decide)).trans g1, by rw [k2 148 (by decide)]; exact g2, g3, g4, g5, (k2 150 (by decide)).trans g6, g7, g8, by rw [k2 148 (by decide)]; exact g9, r2, g11.keep (fun c a b => k2 c (by omega)), g12.keep (by rw [k2 148 (by decide)]) (k2 166 (by decide)), g13.keep (by rw [k2 148 (by decide)]) (k2 159 (by decide))⟩, by omega⟩
theorem call_prove : CALL f_H_prove f_M_prove := by
  intro ρ σ w hc hm hr
  obtain ⟨σ1, q1, q2, q3, q4, q5, ρ', p1, p2, p3⟩ := cq_prove (hm.ps hc) (by omega) hc.2.2.2.1
  have m1 : IM σ1 w := hm.c (L := fun c => Lcq c ∨ c = 0 ∨ (142 ≤ c ∧ c ≤ 147)) q3 (fun c z => by omega)
  obtain ⟨h1, h2, h3, h4, h5, h6, h7, h8⟩ := hc
  have k : ∀ c, ¬ (Lcq c ∨ c = 0 ∨ (142 ≤ c ∧ c ≤ 147)) → σ1.1 c = σ.1 c := q3
  rw [hm.1] at q1 q2
  have c0 : IC ρ' σ1 (mkW w.S w.R w.K w.Q w.kp (prvM w.S w.R w.m) (prvW w.S w.R w.W) w.n w.tp w.H w.L) := ⟨h1.cong (fun c a b d => k c (by omega)), fun z => (h2 z).cong (fun c a b d => k c (by omega)), by rw [q5 3 (by decide)]; exact h3, q2, h5.keep (fun c a b => k c (by omega)), h6.keep (by rw [k 1 (by decide)]) (k 12 (by decide)), h7.keep (by rw [k 130 (by decide)]) (k 131 (by decide)), p3⟩
  have ps1 : PS σ1 w.R ρ' := ⟨m1.gd, by rw [m1.1]; exact c0.1.1, c0.1.2.1, m1.rm, m1.2.1, p3⟩
  obtain ⟨σ2, r1, r2, r3, r4, r5⟩ := mq_prove ps1 m1.2.2.2.2.2.2.2.2.2.1
  rw [m1.1] at r1 r2
  obtain ⟨g1, g2, g3, g4, g5, g6, g7, g8, g9, g10, g11, g12, g13⟩ := m1
  have k2 : ∀ c, ¬ Lmp c → σ2.1 c = σ1.1 c := fun c hc => r3.1 c hc
  exact ⟨_, σ1, σ2, _, ρ', q1, r1, c0.m r3 (fun c z => by omega), ⟨r4.trans g1, (r5 4 (by decide) (by decide) (by decide) (by decide)).trans g2, g3, g4, g5, (k2 150 (by decide)).trans g6, g7, g8, (r5 3 (by decide) (by decide) (by decide) (by decide)).trans g9, r2, g11.keep (fun c a b => k2 c (by omega)), g12.keep (r5 40 (by decide) (by decide) (by decide) (by decide)) (k2 166 (by decide)), g13.keep (r5 26 (by decide) (by decide) (by decide) (by decide)) (k2 159 (by decide))⟩, by omega⟩
theorem x1_gd {S S' : Nat → Int32} (h : ∀ i, i < 106 → i ≠ 1 → S' i = S i) (g : GD S) : GD S' := by
  obtain ⟨a, b, c, d⟩ := g
  refine ⟨by rw [h 0 (by decide) (by decide)]; exact a, by rw [h 2 (by decide) (by decide)]; exact b, fun j hj => ?_, fun p hp => ?_⟩
  · rw [h (6 + j) (by omega) (by omega), h (14 + j) (by omega) (by omega)]
    exact c j hj
  · rw [h (22 + 5 * p) (by omega) (by omega), h (22 + 5 * p + 1) (by omega) (by omega), h (22 + 5 * p + 2) (by omega) (by omega), h (22 + 5 * p + 3) (by omega) (by omega), h (22 + 5 * p + 4) (by omega) (by omega)]
    exact d p hp
theorem x1_tw {S S' : Nat → Int32} (h : ∀ i, i < 106 → i ≠ 1 → S' i = S i) (h6 : ppN S ≤ 6) {t : Nat} {σ : SG} (hT : TWR t σ S nob) : TWR t σ S' nob := by
  have p : pl S (us S' 1 (S 1)) := fun i a b c d => by
    by_cases e : i = 1
    · rw [e, us_same]
    · rw [us_ne e]; exact h i (by omega) e
  have T1 := p.tw h6 hT
  have h6' : ppN (us S' 1 (S 1)) ≤ 6 := by rw [p.pp]; exact h6
  have T2 := T1.oth (i := 1) (v := S' 1) h6' (by decide) (by decide) (Or.inl (by decide))
  have e : us (us S' 1 (S 1)) 1 (S' 1) = S' := by
    funext i
    by_cases e : i = 1
    · rw [e, us_same]
    · rw [us_ne e, us_ne e]
  rw [e] at T2
  exact T2
theorem x1_ok {S S' : Nat → Int32} (h : ∀ i, i < 106 → i ≠ 1 → S' i = S i) (g : SOK S) : SOK S' := by
  refine ⟨x1_gd h g.1, fun j hj => ?_, fun i hi => ?_, by rw [h 4 (by decide) (by decide)]; exact g.2.2.2.1, by rw [h 3 (by decide) (by decide)]; exact g.2.2.2.2⟩
  · show nx (S' (14 + j)) ≤ 99
    rw [h (14 + j) (by omega) (by omega)]
    exact g.2.1 j hj
  · have hm := g.2.2.2.1.1
    rw [h 4 (by decide) (by decide)] at hi
    obtain ⟨⟨c, c1, c2, c3⟩, y, z⟩ := g.2.2.1 i hi
    rw [h _ (by omega) (by omega), h _ (by omega) (by omega), h _ (by omega) (by omega)]
    refine ⟨⟨c, c1, c2, ?_⟩, y, z⟩
    show c / 10 < nx (S' 0) ∧ (c % 10 = 9 ∨ (c / 10 < c % 10 ∧ c % 10 < nx (S' 0)))
    rw [h 0 (by decide) (by decide)]
    exact c3
theorem call_rules : CALL f_H_rules f_M_rules := by
  intro ρ σ w hc hm hr
  have ok := hm.2.2.2.1
  obtain ⟨σ1, q1, q2, q3, q4⟩ := cq_rules hc.2.2.2.2.2.2.1 hc.1.2.1
  have m1 : IM σ1 w := hm.c q4.1 (fun c z => by omega)
  obtain ⟨σ2, r1, r2, r3, r4, r5, r6⟩ := mq_rules m1.2.2.2.2.2.2.2.2.2.2.2.2 m1.rm
  obtain ⟨h1, h2, h3, h4, h5, h6, h7, h8⟩ := hc
  have k : ∀ c, ¬ ((21 ≤ c ∧ c ≤ 26) ∨ (130 ≤ c ∧ c ≤ 139 ∧ c ≠ 131)) → σ1.1 c = σ.1 c := fun c hc => q4.1 c hc
  rw [m1.1] at r3
  have off : ∀ i, i < 106 → i ≠ 1 → σ2.1 149 i = w.S i := fun i a b => r3 i (Or.inl ⟨a, b⟩)
  obtain ⟨t1, t2, t3, t4⟩ := h1
  have T1 : TN 20 σ1 (σ2.1 149) (rulN w.n w.tp w.R) := by
    have hm4 := t3.1.1
    have hm3 := t4.1.1
    obtain ⟨l1, l2, l3, l4⟩ := t3
    obtain ⟨p1, p2, p3⟩ := t4
    have w1 : TWR 20 σ1 w.S nob := by
      obtain ⟨a, b, c, d, e, f⟩ := t1
      refine ⟨by rw [k _ (by omega)]; exact a, by rw [k _ (by omega)]; exact b, by rw [k _ (by omega)]; exact c, by rw [k _ (by omega)]; exact d, fun p hp => ?_, fun j hj => ?_⟩
      · rw [k (20 + 8) (by omega), k (20 + 9) (by omega), k (20 + 10) (by omega), k (20 + 11) (by omega), k (20 + 12) (by omega)]
        exact e p hp
      · rw [k (20 + 13) (by omega), k (20 + 14) (by omega)]
        exact f j hj
    refine ⟨x1_tw off ok.1.1.1 w1, q2, ⟨by rw [off 4 (by decide) (by decide)]; exact l1, by rw [k 20 (by decide), off 5 (by decide) (by decide)]; exact l2, by rw [k 20 (by decide), off 4 (by decide) (by decide)]; exact l3, fun i hi => ?_⟩, ⟨by rw [off 3 (by decide) (by decide)]; exact p1, by rw [k 20 (by decide), off 3 (by decide) (by decide)]; exact p2, fun i hi => ?_⟩⟩
    · rw [off 4 (by decide) (by decide)] at hi
      rw [k _ (by omega), off _ (by omega) (by omega), off _ (by omega) (by omega), off _ (by omega) (by omega)]
      exact l4 i hi
    · rw [off 3 (by decide) (by decide)] at hi
      rw [k _ (by omega), off _ (by omega) (by omega), off _ (by omega) (by omega), off _ (by omega) (by omega)]
      exact p3 i hi
  have c1 : IC ρ σ1 (mkW (σ2.1 149) (rulN w.n w.tp w.R) w.K w.Q w.kp w.m w.W 0 w.tp w.H w.L) := ⟨T1, fun z => (h2 z).cong (fun c a b d => k c (by omega)), by rw [k 0 (by decide)]; exact h3, h4.keep (by rw [k 0 (by decide)]) (fun c a b => k c (by omega)), h5.keep (fun c a b => k c (by omega)), h6.keep (by rw [k 1 (by decide)]) (k 12 (by decide)), q3, h8.keep q4.2⟩
  obtain ⟨g1, g2, g3, g4, g5, g6, g7, g8, g9, g10, g11, g12, g13⟩ := m1
  have k2 : ∀ c, ¬ (c = 148 ∨ c = 149 ∨ c = 151) → σ2.1 c = σ1.1 c := fun c hc => r5.1 c hc
  exact ⟨_, σ1, σ2, _, ρ, q1, r1, c1.m r5 (fun c z => by omega), ⟨rfl, (r6 4 (by decide)).trans g2, r2, x1_ok off g4, fun i hi => (r3 i (Or.inr hi)).trans (g5 i hi), (k2 150 (by decide)).trans g6, g7, g8, (r6 3 (by decide)).trans g9, g10.keep (r6 24 (by decide)) (k2 158 (by decide)), g11.keep (fun c a b => k2 c (by omega)), g12.keep (r6 40 (by decide)) (k2 166 (by decide)), r4⟩, by omega⟩
theorem call_keep : CALL f_H_keep f_M_keep := by
  intro ρ σ w hc hm hr
  obtain ⟨σ1, q1, q2, q3, q4, q5⟩ := cq_keep hc.1
  have m1 : IM σ1 w := hm.c q4.1 (fun c z => by omega)
  obtain ⟨σ2, r1, r2, r3, r4, r5⟩ := mq_keep m1.1 m1.2.2.2.2.1 (by rw [m1.2.2.2.2.2.1]; exact m1.2.2.2.2.2.2.1)
  obtain ⟨h1, h2, h3, h4, h5, h6, h7, h8⟩ := hc
  have k : ∀ c, ¬ (c = 0 ∨ (55 ≤ c ∧ c ≤ 89)) → σ1.1 c = σ.1 c := fun c hc => q4.1 c hc
  have c1 : IC ρ σ1 (mkW w.S w.R w.S w.R 1 w.m w.W w.n w.tp w.H w.L) := ⟨h1.cong (fun c a b d => k c (by omega)), fun _ => q2, q3, h4.keep (q5 8 (by decide)) (fun c a b => k c (by omega)), h5.keep (fun c a b => q4.1 c (by omega)), h6.keep (by rw [k 1 (by decide)]) (k 12 (by decide)), h7.keep (by rw [k 130 (by decide)]) (k 131 (by decide)), h8.keep q4.2⟩
  obtain ⟨g1, g2, g3, g4, g5, g6, g7, g8, g9, g10, g11, g12, g13⟩ := m1
  have k2 : ∀ c, ¬ (c = 148 ∨ c = 150) → σ2.1 c = σ1.1 c := fun c hc => r4.1 c hc
  exact ⟨_, σ1, σ2, _, ρ, q1, r1, c1.m r4 (fun c z => by omega), ⟨(k2 149 (by decide)).trans g1, (r5 4 (by decide)).trans g2, g3, g4, g5, r2, g5, fun _ => ⟨g4, g3⟩, r3, g10.keep (r5 24 (by decide)) (k2 158 (by decide)), g11.keep (fun c a b => k2 c (by omega)), g12.keep (r5 40 (by decide)) (k2 166 (by decide)), g13.keep (r5 26 (by decide)) (k2 159 (by decide))⟩, by omega⟩
theorem call_again : CALL f_H_again f_M_again := by
  intro ρ σ w hc hm hr
  by_cases h0 : w.kp = 0
  · refine ⟨-3, σ, σ, w, ρ, ?_, ?_, hc, hm, by omega⟩
    · unfold f_H_again
      rw [hc.2.2.1, h0, if_neg (fun z => z rfl)]
    · unfold f_M_again
      rw [hm.2.2.2.2.2.2.2.2.1, h0, if_neg (fun z => z rfl)]
  · obtain ⟨σ1, q1, q2, q3⟩ := cq_again (K := w.K) (R := w.Q) (by rw [hc.2.2.1]; exact h0) (hc.2.1 h0)
    have m1 : IM σ1 w := hm.c q3.1 (fun c z => by omega)
    obtain ⟨σ2, r1, r2, r3⟩ := mq_again (K := w.K) (by rw [m1.2.2.2.2.2.2.2.2.1]; exact h0) m1.2.2.2.2.2.1 m1.2.2.2.2.2.2.1 (by rw [m1.1]; exact m1.2.2.2.2.1)
    obtain ⟨h1, h2, h3, h4, h5, h6, h7, h8⟩ := hc
    have k : ∀ c, ¬ (20 ≤ c ∧ c ≤ 54) → σ1.1 c = σ.1 c := fun c hc => q3.1 c hc
    have c1 : IC ρ σ1 (mkW w.K w.Q w.K w.Q w.kp w.m w.W w.n w.tp w.H w.L) := ⟨q2, fun z => (h2 z).cong (fun c a b d => k c (by omega)), by rw [k 0 (by decide)]; exact h3, h4.keep (by rw [k 0 (by decide)]) (fun c a b => k c (by omega)), h5.keep (fun c a b => q3.1 c (by omega)), h6.keep (by rw [k 1 (by decide)]) (k 12 (by decide)), h7.keep (by rw [k 130 (by decide)]) (k 131 (by decide)), h8.keep q3.2⟩
    obtain ⟨g1, g2, g3, g4, g5, g6, g7, g8, g9, g10, g11, g12, g13⟩ := m1
    obtain ⟨ok, rm⟩ := g8 h0
    have k2 : ∀ c, ¬ (c = 149) → σ2.1 c = σ1.1 c := fun c hc => r3.1 c hc
    exact ⟨_, σ1, σ2, _, ρ, q1, r1, c1.m r3 (fun c z => by omega), ⟨r2, by rw [k2 148 (by decide)]; exact g2, rm, ok, g7, (k2 150 (by decide)).trans g6, g7, fun _ => ⟨ok, rm⟩, by rw [k2 148 (by decide)]; exact g9, g10.keep (by rw [k2 148 (by decide)]) (k2 158 (by decide)), g11.keep (fun c a b => k2 c (by omega)), g12.keep (by rw [k2 148 (by decide)]) (k2 166 (by decide)), g13.keep (by rw [k2 148 (by decide)]) (k2 159 (by decide))⟩, by omega⟩
