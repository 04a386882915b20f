/-! every CALL: reads and steps of the town -/
theorem call_rd {F G : SG → Option (Int32 × SG)} (v : WD → Int32) {Lc Lm : Nat → Prop} (hlc : ∀ c, Lc c → c < 148 ∧ ¬ UC c) (hlm : ∀ c, Lm c → 148 ≤ c ∧ c ≠ 150 ∧ ¬ (158 ≤ c ∧ c ≤ 166)) (hF : ∀ ρ σ w, IC ρ σ w → SOK w.S → ∃ σ', F σ = some (v w, σ') ∧ fr Lc σ σ') (hG : ∀ σ w, IM σ w → HOk w.H → HSh w.H → ∃ σ', G σ = some (v w, σ') ∧ fr Lm σ σ' ∧ σ'.1 149 = σ.1 149 ∧ ∀ i, i = 3 ∨ i = 4 ∨ i = 24 ∨ i = 26 ∨ i = 40 → σ'.1 148 i = σ.1 148 i) : CALL F G := by
  intro ρ σ w hc hm hr
  obtain ⟨σ1, q1, q2⟩ := hF ρ σ w hc hm.2.2.2.1
  have c1 : IC ρ σ1 w := hc.keep (fun c hu => q2.1 c (fun z => (hlc c z).2 hu)) (hc.2.2.2.2.2.2.2.keep q2.2)
  have m1 : IM σ1 w := hm.c q2.1 (fun c z => (hlc c z).1)
  obtain ⟨σ2, r1, r2, r3, r4⟩ := hG σ1 w m1 hc.2.2.2.2.1.ok hc.2.2.2.2.1.sh
  exact ⟨_, σ1, σ2, w, ρ, q1, r1, c1.m r2 (fun c z => (hlm c z).1), m1.keep r3 (fun c hu => r2.1 c (fun z => by have := hlm c z; omega)) r4, by omega⟩
abbrev NO (_ : Nat) : Prop := False
theorem no_c : ∀ c, NO c → c < 148 ∧ ¬ UC c := fun _ z => z.elim
theorem no_m : ∀ c, NO c → 148 ≤ c ∧ c ≠ 150 ∧ ¬ (158 ≤ c ∧ c ≤ 166) := fun _ z => z.elim
theorem IM.k0 {σ : SG} (P : Nat → Prop) : ∀ i, P i → σ.1 148 i = σ.1 148 i := fun _ _ => rfl
theorem call_personOf (x y : Int32) : CALL (f_H_personOf x y) (f_M_personOf x y) := call_rd (fun w => psoA w.S w.R x y) (Lc := fun c => c = 27) (Lm := fun c => c = 152) (fun c z => by omega) (fun c z => by omega) (fun ρ σ w h ok => cq_personOf ok.1 h.1.1 h.1.2.1 x y) (fun σ w h _ _ => by
  obtain ⟨σ', a, b⟩ := mq_personOf h.gd h.rm h.2.1 x y
  rw [h.1] at a
  exact ⟨σ', a, b, b.1 149 (by decide), fun i _ => b.at (by decide) i⟩)
theorem call_thing (x y : Int32) : CALL (f_H_thing x y) (f_M_thing x y) := call_rd (fun w => thgA w.S x y) no_c no_m (fun ρ σ w h ok => ⟨σ, cq_thing ok.1 h.1.1 x y, fr.rf⟩) (fun σ w h _ _ => ⟨σ, by rw [mq_thing h.gd x y, h.1], fr.rf, rfl, fun _ _ => rfl⟩)
theorem call_state (x : Int32) : CALL (f_H_state x) (f_M_state x) := call_rd (fun w => sttA w.S x) no_c no_m (fun ρ σ w h ok => ⟨σ, cq_state ok.1 h.1.1 h.1.2.2.1 x, fr.rf⟩) (fun σ w h _ _ => ⟨σ, by rw [mq_state h.gd h.2.1 x, h.1], fr.rf, rfl, fun _ _ => rfl⟩)
theorem call_cans (x : Int32) : CALL (f_H_cans x) (f_M_cans x) := call_rd (fun w => cansA w.S w.R x) (Lc := fun c => c = 27) (Lm := fun c => c = 152) (fun c z => by omega) (fun c z => by omega) (fun ρ σ w h ok => cq_cans ok.1 h.1.1 h.1.2.1 x) (fun σ w h _ _ => by
  obtain ⟨σ', a, b⟩ := mq_cans h.gd h.rm h.2.1 x
  rw [h.1] at a
  exact ⟨σ', a, b, b.1 149 (by decide), fun i _ => b.at (by decide) i⟩)
theorem call_rings (x : Int32) : CALL (f_H_rings x) (f_M_rings x) := call_rd (fun w => rgsA w.S x) (Lc := Lrq) (Lm := Lci) (fun c z => by omega) (fun c z => by omega) (fun ρ σ w h ok => cq_rings ok.1 h.1.1 h.1.2.1 x) (fun σ w h _ _ => by
  obtain ⟨σ', a, b, c⟩ := mq_rings h.gd x
  rw [h.1] at a
  exact ⟨σ', a, b, b.1 149 (by decide), fun i hi => c i (by omega)⟩)
theorem call_ring (x y : Int32) : CALL (f_H_ring x y) (f_M_ring x y) := call_rd (fun w => rigA w.S x y) (Lc := Lrq) (Lm := Lci) (fun c z => by omega) (fun c z => by omega) (fun ρ σ w h ok => cq_ring ok.1 h.1.1 h.1.2.1 x y) (fun σ w h _ _ => by
  obtain ⟨σ', a, b, c⟩ := mq_ring h.gd x y
  rw [h.1] at a
  exact ⟨σ', a, b, b.1 149 (by decide), fun i hi => c i (by omega)⟩)
theorem call_comes (x y : Int32) : CALL (f_H_comes x y) (f_M_comes x y) := call_rd (fun w => cmsA w.S x y) (Lc := fun c => 90 ≤ c ∧ c ≤ 104) (Lm := Lbr) (fun c z => by omega) (fun c z => by omega) (fun ρ σ w h ok => cq_comes ok.1 h.1.1 h.1.2.1 x y) (fun σ w h _ _ => by
  obtain ⟨σ', a, b, c, d⟩ := mq_comes h.gd x y
  rw [h.1] at a
  exact ⟨σ', a, b, c, fun i hi => d i (by omega)⟩)
theorem call_dearest (x y : Int32) : CALL (f_H_dearest x y) (f_M_dearest x y) := by
  intro ρ σ w hc hm hr
  have ok := hm.2.2.2.1
  obtain ⟨v0, σ1, -, q1, -, q3, -⟩ := q_dearest (τ := σ) ok.1 hc.1.1 hc.1.2.1 hm.1 x y
  have c1 : IC ρ σ1 w := hc.keep (fun c hu => q3.1 c (by omega)) (hc.2.2.2.2.2.2.2.keep q3.2)
  have m1 : IM σ1 w := hm.c q3.1 (fun c z => by omega)
  obtain ⟨v, σ1', σ2, p1, p2, p3, p4, p5, p6⟩ := q_dearest (τ := σ1) ok.1 hc.1.1 hc.1.2.1 m1.1 x y
  have ev : v0 = v := by
    rw [q1] at p1
    exact congrArg Prod.fst (Option.some.inj p1)
  rw [ev] at q1
  exact ⟨v, σ1, σ2, w, ρ, q1, p2, c1.m p4 (fun c z => by omega), m1.keep (p5.trans m1.1.symm) (fun c hu => p4.1 c (by omega)) (fun i hi => p6 i (by omega)), by omega⟩
theorem call_span (x : Int32) : CALL (f_H_span x) (f_M_span x) := call_rd (fun w => spanA w.S x) (Lm := fun c => c = 148) no_c (fun c z => by omega) (fun ρ σ w h ok => ⟨σ, cq_span h.1.2.2.2 x, fr.rf⟩) (fun σ w h _ _ => by
  obtain ⟨σ', a, b, c⟩ := mq_span h.rv x
  rw [h.1] at a
  exact ⟨σ', a, b, b.1 149 (by decide), fun i hi => c i (by omega)⟩)
theorem call_liar : CALL f_H_liar f_M_liar := call_rd (fun w => liarA w.S) (Lm := fun c => c = 148) no_c (fun c z => by omega) (fun ρ σ w h ok => ⟨σ, cq_liar h.1.2.2.2, fr.rf⟩) (fun σ w h _ _ => by
  obtain ⟨σ', a, b, c⟩ := mq_liar h.rv
  rw [h.1] at a
  exact ⟨σ', a, b, b.1 149 (by decide), fun i hi => c i (by omega)⟩)
theorem call_often (x : Int32) : CALL (f_H_often x) (f_M_often x) := call_rd (fun w => oftA w.S w.R x) (Lc := fun c => 90 ≤ c ∧ c ≤ 124) (Lm := fun c => c = 148 ∨ c = 149 ∨ c = 151 ∨ c = 152) (fun c z => by omega) (fun c z => by omega) (fun ρ σ w h ok => cq_often ok.1 h.1 x) (fun σ w h _ _ => by
  obtain ⟨σ', a, b, c, d⟩ := mq_often h.gd h.rm h.2.1 x
  rw [h.1] at a
  exact ⟨σ', a, b, c, fun i hi => d i (by omega) (by omega)⟩)
theorem call_row (x y : Int32) : CALL (f_H_row x y) (f_M_row x y) := call_rd (fun w => rowA w.m w.W x y) no_c no_m (fun ρ σ w h ok => ⟨σ, cq_row h.2.2.2.1 x y, fr.rf⟩) (fun σ w h _ _ => ⟨σ, mq_row h.2.2.2.2.2.2.2.2.2.1 x y, fr.rf, rfl, fun _ _ => rfl⟩)
theorem call_judge : CALL f_H_judge f_M_judge := call_rd (fun w => jdA w.S w.R w.m w.W) (Lc := fun c => 90 ≤ c ∧ c ≤ 104) (Lm := fun c => c = 148 ∨ c = 149 ∨ c = 151 ∨ c = 152) (fun c z => by omega) (fun c z => by omega) (fun ρ σ w h ok => cq_judge ok.1 h.1.1 h.1.2.1 h.2.2.2.1) (fun σ w h _ _ => by
  obtain ⟨σ', a, b, c, d⟩ := mq_judge h.gd h.rm h.2.1 h.2.2.2.2.2.2.2.2.2.1
  rw [h.1] at a
  exact ⟨σ', a, b, c, fun i hi => d i (by omega) (by omega)⟩)
theorem call_item (x y i : Int32) : CALL (f_H_item x y i) (f_M_item x y i) := call_rd (fun w => itmA w.H x y i) no_c no_m (fun ρ σ w h ok => ⟨σ, cq_item h.2.2.2.2.1 x y i, fr.rf⟩) (fun σ w h ho _ => ⟨σ, mq_item h.2.2.2.2.2.2.2.2.2.2.1 ho x y i, fr.rf, rfl, fun _ _ => rfl⟩)
theorem call_wouldCost (x i z : Int32) : CALL (f_H_wouldCost x i z) (f_M_wouldCost x i z) := call_rd (fun w => wcA w.S w.R w.H x i z) (Lc := fun c => 90 ≤ c ∧ c ≤ 104) (Lm := fun c => c = 148 ∨ c = 149 ∨ c = 151 ∨ c = 152) (fun c z => by omega) (fun c z => by omega) (fun ρ σ w h ok => cq_wouldCost ok.1 h.1.1 h.1.2.1 h.2.2.2.2.1 x i z) (fun σ w h ho _ => by
  obtain ⟨σ', a, b, c, d⟩ := mq_wouldCost h.gd h.rm h.2.1 h.2.2.2.2.2.2.2.2.2.2.1 ho x i z
  rw [h.1] at a
  exact ⟨σ', a, b, c, fun i hi => d i (by omega) (by omega)⟩)
theorem call_taken (x y : Int32) : CALL (f_H_taken x y) (f_M_taken x y) := call_rd (fun w => takA w.S w.H x y) no_c no_m (fun ρ σ w h ok => ⟨σ, cq_taken ok.1 h.1.1 h.2.2.2.2.1 x y, fr.rf⟩) (fun σ w h _ hs => ⟨σ, by rw [mq_taken h.gd h.2.2.2.2.2.2.2.2.2.2.1 hs x y, h.1], fr.rf, rfl, fun _ _ => rfl⟩)
theorem call_trace (x : Int32) : CALL (f_H_trace x) (f_M_trace x) := call_rd (fun w => trcA w.L x) no_c no_m (fun ρ σ w h ok => ⟨σ, cq_trace h.2.2.2.2.2.1 x, fr.rf⟩) (fun σ w h _ _ => ⟨σ, mq_trace h.2.2.2.2.2.2.2.2.2.2.2.1 x, fr.rf, rfl, fun _ _ => rfl⟩)
theorem call_many (x : Int32) : CALL (f_H_many x) (f_M_many x) := call_rd (fun w => manA w.S w.R w.m w.n w.L x) no_c no_m (fun ρ σ w h ok => ⟨σ, cq_many h.1 h.2.2.2.1 h.2.2.2.2.2.2.1.1 h.2.2.2.2.2.1 x, fr.rf⟩) (fun σ w h _ _ => ⟨σ, by rw [mq_many h.rm h.2.2.2.2.2.2.2.2.2.1 h.2.2.2.2.2.2.2.2.2.2.2.2.1 h.2.2.2.2.2.2.2.2.2.2.2.1 x, h.1], fr.rf, rfl, fun _ _ => rfl⟩)
/-- the town steps -/
abbrev WD.st (w : WD) (S' : Nat → Int32) : WD := mkW S' w.R w.K w.Q w.kp w.m w.W w.n w.tp w.H w.L
theorem IC.st {ρ : Nat} {σ σ' : SG} {w : WD} {S' : Nat → Int32} {L : Nat → Prop} (h : IC ρ σ w) (hT : TN 20 σ' S' w.R) (hf : fr L σ σ') (hl : ∀ c, L c → 20 ≤ c ∧ c ≤ 54) : IC ρ σ' (w.st S') := by
  obtain ⟨h1, h2, h3, h4, h5, h6, h7, h8⟩ := h
  have k : ∀ c, ¬ (20 ≤ c ∧ c ≤ 54) → σ'.1 c = σ.1 c := fun c hc => hf.1 c (fun z => hc (hl c z))
  exact ⟨hT, fun z => (h2 z).cong (fun c a b d => k c (by omega)), by rw [k 0 (by decide)]; exact h3, h4.keep (by rw [k 0 (by decide)]) (fun c a b => k c (by omega)), h5.keep (fun c a b => k c (by omega)), h6.keep (by rw [k 1 (by decide)]) (k 12 (by decide)), h7.keep (by rw [k 130 (by decide)]) (k 131 (by decide)), h8.keep hf.2⟩
theorem IM.st {σ σ' : SG} {w : WD} {S' : Nat → Int32} (h : IM σ w) (e9 : σ'.1 149 = S') (hr : RMt S' w.R) (ok : SOK S') (h3 : R340 S') (hc : ∀ c, c = 150 ∨ (158 ≤ c ∧ c ≤ 166) → σ'.1 c = σ.1 c) (h8 : ∀ i, i = 3 ∨ i = 4 ∨ i = 24 ∨ i = 26 ∨ i = 40 → σ'.1 148 i = σ.1 148 i) : IM σ' (w.st S') := by
  obtain ⟨h1, h2, h3', h4, h5, h6, h7, h8a, h9, h10, h11, h12, h13⟩ := h
  exact ⟨e9, (h8 4 (by omega)).trans h2, hr, ok, h3, (hc 150 (by omega)).trans h6, h7, h8a, (h8 3 (by omega)).trans h9, h10.keep (h8 24 (by omega)) (hc 158 (by omega)), h11.keep (fun c a b => hc c (by omega)), h12.keep (h8 40 (by omega)) (hc 166 (by omega)), h13.keep (h8 26 (by omega)) (hc 159 (by omega))⟩
theorem call_w {F G : SG → Option (Int32 × SG)} (A : (Nat → Int32) → Int32) (N : (Nat → Int32) → Nat → Int32) (hF : ∀ σ S, GD S → TWR 20 σ S nob → ∃ σ', F σ = some (A S, σ') ∧ CW σ σ' (N S)) (hG : ∀ σ, GD (σ.1 149) → ∃ σ', G σ = some (A (σ.1 149), σ') ∧ σ'.1 149 = N (σ.1 149) ∧ fr (fun c => c = 149) σ σ') (hok : ∀ S, SOK S → SOK (N S) ∧ kpS S (N S)) : CALL F G := by
  intro ρ σ w hc hm hr
  have ok := hm.2.2.2.1
  obtain ⟨k1, k2⟩ := hok w.S ok
  obtain ⟨σ1, q1, q2, q3, q4⟩ := hF σ w.S ok.1 hc.1.1
  have T1 : TN 20 σ1 (N w.S) w.R := ⟨q2, hc.1.2.1.cong (fun c a b => q3.1 c (by omega)), k2.lg (by
    obtain ⟨l1, l2, l3, l4⟩ := hc.1.2.2.1
    have l0 := l1.1
    exact ⟨l1, (q4 13 (by decide) (by decide) (by decide)).trans l2, (q4 14 (by decide) (by decide) (by decide)).trans l3, fun i hi => by rw [q3.1 _ (by omega)]; exact l4 i hi⟩), k2.of.rp hc.1.2.2.2 (q4 16 (by decide) (by decide) (by decide)) (fun c a b => q3.1 c (by omega))⟩
  have c1 := hc.st T1 q3 (fun c z => by omega)
  have m1 : IM σ1 w := hm.c q3.1 (fun c z => by omega)
  obtain ⟨σ2, r1, r2, r3⟩ := hG σ1 m1.gd
  rw [m1.1] at r1 r2
  exact ⟨_, σ1, σ2, w.st (N w.S), ρ, q1, r1, c1.m r3 (fun c z => by omega), m1.st r2 (k2.of.rm hm.2.2.1) k1 (k2.of.r340 hm.2.2.2.2.1) (fun c hu => r3.1 c (by omega)) (fun i _ => r3.at (by decide) i), by omega⟩
theorem call_person (k h d c : Int32) : CALL (f_H_person k h d c) (f_M_person k h d c) := call_w (fun S => psnA S k h d c) (fun S => psnN S k h d c) (fun σ S g hT => cq_person g hT k h d c) (fun σ g => mq_person g k h d c) (fun S ok => ok_person ok)
theorem call_change (x y v : Int32) : CALL (f_H_change x y v) (f_M_change x y v) := call_w (fun S => chgA S x y v) (fun S => chgN S x y v) (fun σ S g hT => cq_change g hT x y v) (fun σ g => mq_change g x y v) (fun S ok => ok_change ok)
theorem call_remake (x v : Int32) : CALL (f_H_remake x v) (f_M_remake x v) := call_w (fun S => rmkA S x v) (fun S => rmkN S x v) (fun σ S g hT => cq_remake g hT x v) (fun σ g => mq_remake g x v) (fun S ok => ok_remake ok)
theorem call_meets (x y : Int32) (b : Bool) : CALL (f_H_meets x y (nI b.toNat)) (f_M_meets x y (nI b.toNat)) := call_w (fun S => mtsA S x y) (fun S => mtsN S x y b) (fun σ S g hT => cq_meets g hT x y b) (fun σ g => mq_meets g x y b) (fun S ok => ok_meets ok)
theorem call_worth (x v : Int32) : CALL (f_H_worth x v) (f_M_worth x v) := call_w (fun S => wthA S x v) (fun S => wthN S x v) (fun σ S g hT => cq_worth hT x v) (fun σ g => mq_worth σ x v) (fun S ok => ok_worth ok)
theorem call_jar (x v : Int32) : CALL (f_H_jar x v) (f_M_jar x v) := call_w (fun S => jrtA S x v) (fun S => jrtN S x v) (fun σ S g hT => cq_jar hT x v) (fun σ g => mq_jar σ x v) (fun S ok => ok_jar ok)
theorem call_fee (v : Int32) : CALL (f_H_fee v) (f_M_fee v) := call_w (fun S => fetA S v) (fun S => fetN S v) (fun σ S g hT => cq_fee hT v) (fun σ g => mq_fee σ v) (fun S ok => ok_fee ok)
/-- CHANGES made and taken back -/
theorem call_s {F G : SG → Option (Int32 × SG)} (A : WD → Int32) (N : WD → Nat → Int32) (hF : ∀ ρ σ w, IC ρ σ w → SOK w.S → ∃ σ', F σ = some (A w, σ') ∧ TWR 20 σ' (N w) nob ∧ LGt 20 σ' (N w) ∧ fr (Len 20) σ σ' ∧ σ'.1 20 16 = σ.1 20 16) (hG : ∀ σ w, IM σ w → HOk w.H → ∃ σ', G σ = some (A w, σ') ∧ σ'.1 149 = N w ∧ fr (fun c => c = 148 ∨ c = 149 ∨ c = 152) σ σ' ∧ ∀ i, i ≠ 6 → i ≠ 7 → σ'.1 148 i = σ.1 148 i) (hok : ∀ w : WD, SOK w.S → RMt w.S w.R → SOK (N w) ∧ ofS w.S (N w)) : CALL F G := by
  intro ρ σ w hc hm hr
  have ok := hm.2.2.2.1
  obtain ⟨k1, k2⟩ := hok w ok hm.2.2.1
  obtain ⟨σ1, q1, q2, q3, q4, q5⟩ := hF ρ σ w hc ok
  have T1 : TN 20 σ1 (N w) w.R := ⟨q2, hc.1.2.1.cong (fun c a b => q4.1 c (by omega)), q3, k2.rp hc.1.2.2.2 q5 (fun c a b => q4.1 c (by omega))⟩
  have c1 := hc.st T1 q4 (fun c z => by omega)
  have m1 : IM σ1 w := hm.c q4.1 (fun c z => by omega)
  obtain ⟨σ2, r1, r2, r3, r4⟩ := hG σ1 w m1 hc.2.2.2.2.1.ok
  exact ⟨_, σ1, σ2, w.st (N w), ρ, q1, r1, c1.m r3 (fun c z => by omega), m1.st r2 (k2.rm hm.2.2.1) k1 (k2.r340 hm.2.2.2.2.1) (fun c hu => r3.1 c (by omega)) (fun i hi => r4 i (by omega) (by omega)), by omega⟩
theorem call_draw : CALL f_H_draw f_M_draw := call_s (fun w => dwA w.S w.R) (fun w => dwN w.S w.R) (fun ρ σ w h ok => by
  obtain ⟨σ', a, b, c, d, e⟩ := cq_draw ok.1 h.1.1 h.1.2.1 h.1.2.2.1
  exact ⟨σ', a, b, c, d, e 16 (by decide) (by decide) (by decide)⟩) (fun σ w h _ => by
  obtain ⟨σ', a, b, c, d⟩ := mq_draw h.gd h.rm h.2.1 h.lv
  rw [h.1] at a b
  exact ⟨σ', a, b, c, d⟩) (fun w ok _ => ⟨ok.dw, ofS.dw ok.1⟩)
theorem call_back : CALL f_H_back f_M_back := call_s (fun w => bkA w.S) (fun w => bkN w.S) (fun ρ σ w h ok => by
  obtain ⟨σ', a, b, c, d, e⟩ := cq_back ok h.1.1 h.1.2.2.1
  exact ⟨σ', a, b, c, d.mono (fun q hq => by omega), e 16 (by decide) (by decide)⟩) (fun σ w h _ => by
  obtain ⟨σ', a, b, c⟩ := mq_back h.ok
  rw [h.1] at a b
  exact ⟨σ', a, b, c.mono (fun q hq => by omega), fun i _ _ => c.at (by decide) i⟩) (fun w ok _ => ⟨ok.bk, ofS.bk ok⟩)
theorem call_make (x y : Int32) : CALL (f_H_make x y) (f_M_make x y) := call_s (fun w => mkA w.S w.R x y) (fun w => mkN w.S w.R x y) (fun ρ σ w h ok => by
  obtain ⟨σ', a, b, c, d, e⟩ := cq_make ok.1 h.1.1 h.1.2.1 h.1.2.2.1 x y
  exact ⟨σ', a, b, c, d, e 16 (by decide) (by decide)⟩) (fun σ w h _ => by
  obtain ⟨σ', a, b, c, d⟩ := mq_make h.gd h.rm h.2.1 h.lv x y
  rw [h.1] at a b
  exact ⟨σ', a, b, c, d⟩) (fun w ok _ => ⟨ok.mk, ofS.mk ok.1⟩)
theorem call_makeAll (x i z : Int32) : CALL (f_H_makeAll x i z) (f_M_makeAll x i z) := call_s (fun w => malA w.S w.R w.H x i z) (fun w => malN w.S w.R w.H x i z) (fun ρ σ w h ok => by
  obtain ⟨σ', a, b, c, d, e⟩ := cq_makeAll ok h.1.1 h.1.2.1 h.1.2.2.1 h.2.2.2.2.1 x i z
  exact ⟨σ', a, b, c, d, e 16 (by decide) (by decide)⟩) (fun σ w h ho => by
  obtain ⟨σ', a, b, c, d⟩ := mq_makeAll h.ok h.rm h.2.1 h.2.2.2.2.2.2.2.2.2.2.1 ho x i z
  rw [h.1] at a b
  exact ⟨σ', a, b, c, d⟩) (fun w ok hR => ⟨(malN_ok ok hR).1, ofS.mal ok⟩)
