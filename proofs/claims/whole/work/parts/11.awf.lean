/-! FIELDS AND ARRAYS -/
def FD (c ci j v : Nat) : Prop := c < MM ∧ ∃ fs : List Nat, lay c = .inl (ci, fs) ∧ fs[j]? = some v
abbrev AD (c q n f : Nat) : Prop := c < MM ∧ lay c = .inr (q, n, f)
def LKI (own : String) (idx ci j : Nat) : Prop := ∃ (C : String) (T : u_T) (N : Nat) (ref : String), vwCl[ci]? = some (C, T, N) ∧ (∀ w ∈ u_ws C T N, w ∈ TBL) ∧ j < N ∧ Cond.fieldLink own idx ref (T j).2.1 (T j).2.2.1 ∈ TBL ∧ ((T j).1 = ref ∨ Cond.sameField ref (T j).1 (T j).2.1 (T j).2.2.1 ∈ TBL)
def LKP (own : String) (idx ci j : Nat) (ty : FieldType) : Prop := ∃ (C : String) (T : u_T) (N : Nat) (ref : String) (t0 : Nat → FieldType), vwCl[ci]? = some (C, T, N) ∧ (∀ w ∈ u_ws C T N, w ∈ TBL) ∧ j < N ∧ Cond.fieldLink own idx ref (T j).2.1 (T j).2.2.1 ∈ TBL ∧ ((T j).1 = ref ∨ Cond.sameField ref (T j).1 (T j).2.1 (T j).2.2.1 ∈ TBL) ∧ (∀ q, q < N → parseFieldDescriptor (T q).2.2.1 = some (t0 q)) ∧ (∀ a, a < N → ∀ b, b < N → a ≠ b → (T a).2.1 ≠ (T b).2.1) ∧ (T j).2.2.2 = false ∧ parseFieldDescriptor (T j).2.2.1 = some ty
section AWF
variable {ρ : Type} {P : PT} {G : GT} {cc : ByteArray} {own : String} {k nL : Nat} {E : ρ → SG → Prop} {X Y : Option (ρ × SG)} {σ : SG} {pc pc' : Nat} {lv : List (Nat × Value)} {st st' : List Value}
theorem aw_same (K : CX P G cc own k nL) {ref o n d : String} (h : o = ref ∨ Cond.sameField ref o n d ∈ TBL) : ∀ x, (gs G).fieldFound? o n d = some x → (gs G).fieldFound? ref n d = some x := by
  rcases h with h | h
  · subst h
    exact fun _ q => q
  · exact fun x q => u_same (K.2.2.2.2.1 _ h) x q
theorem aw_fld {c ci j v : Nat} {fs : List Nat} (h : fs[j]? = some v) : ((List.range fs.length).map fun q => fldV (pb P) σ c q (fs.getD q 0))[j]? = some (fldV (pb P) σ c j v) := by
  have hj : j < fs.length := (List.getElem?_eq_some_iff.mp h).1
  rw [List.getElem?_map, List.getElem?_range hj]
  have e : fs.getD j 0 = v := by rw [List.getD_eq_getElem?_getD, h]; rfl
  rw [← e]
  rfl
theorem aw_get (K : CX P G cc own k nL) {c ci j v idx : Nat} (d : decode cc pc = .ok (.getfield idx, 3)) (hl : LKI own idx ci j) (hf : FD c ci j v) (n : AW P G nL E X σ (pc + 3) lv (fldV (pb P) σ c j v :: st)) : AW P G nL E X σ pc lv (rf P c :: st) := by
  obtain ⟨C, T, N, ref, h1, h2, h3, h4, h5⟩ := hl
  obtain ⟨hc, fs, e1, e2⟩ := hf
  refine aw_map (fun H locs ls hR hS hL w => ?_) n
  exact va_get (Ts := TBL) K.1 K.2.1 K.2.2.2.2.1 h2 K.2.2.2.1 K.2.2.2.2.2.1.1 hR c (wd_at hc e1) h1 j h3 (K.2.2.2.2.1 _ h4) (aw_same K h5) (aw_fld (ci := ci) e2) d w
theorem aw_getI (K : CX P G cc own k nL) {c ci j idx : Nat} (d : decode cc pc = .ok (.getfield idx, 3)) (hl : LKI own idx ci j) (hf : FD c ci j 0) (n : AW P G nL E X σ (pc + 3) lv (.int (σ.1 c j) :: st)) : AW P G nL E X σ pc lv (rf P c :: st) := aw_get K d hl hf n
theorem aw_getZ (K : CX P G cc own k nL) {c ci j idx : Nat} (d : decode cc pc = .ok (.getfield idx, 3)) (hl : LKI own idx ci j) (hf : FD c ci j 1) (n : AW P G nL E X σ (pc + 3) lv (.int (σ.1 c j) :: st)) : AW P G nL E X σ pc lv (rf P c :: st) := aw_get K d hl hf n
theorem aw_getJ (K : CX P G cc own k nL) {c ci j idx : Nat} (d : decode cc pc = .ok (.getfield idx, 3)) (hl : LKI own idx ci j) (hf : FD c ci j 2) (n : AW P G nL E X σ (pc + 3) lv (.long (σ.2 c j) :: st)) : AW P G nL E X σ pc lv (rf P c :: st) := aw_get K d hl hf n
theorem aw_getR (K : CX P G cc own k nL) {c ci j idx c' : Nat} (d : decode cc pc = .ok (.getfield idx, 3)) (hl : LKI own idx ci j) (hf : FD c ci j (c' + 3)) (n : AW P G nL E X σ (pc + 3) lv (rf P c' :: st)) : AW P G nL E X σ pc lv (rf P c :: st) := aw_get K d hl hf n
theorem aw_sx {α : SG} {Kf : SG → Option (ρ × SG)} (h : ∀ (H : Heap) (locs : List Loc) (ls : Array Slot), RP P σ H → va_S (AA P) (gs G).heap H locs → lv_has ls nL lv → (∀ (H1 : Heap) (locs1 : List Loc), RP P α H1 → va_S (AA P) (gs G).heap H1 locs1 → WG G H1 locs1 (F0 (gm G) pc' ls st')) → WG G H locs (F0 (gm G) pc ls st)) (n : ∀ σ', AW P G nL E (Kf σ') σ' pc' lv st') : AW P G nL E (sx α Kf) σ pc lv st :=
  fun r σ' hX hE H locs ls a b c => h H locs ls a b c (fun H1 locs1 hR hS => n α r σ' hX hE H1 locs1 ls hR hS c)
theorem aw_put (K : CX P G cc own k nL) {c ci j v idx : Nat} {x : Value} {α : SG} {ty : FieldType} {Kf : SG → Option (ρ × SG)} (d : decode cc pc = .ok (.putfield idx, 3)) (hl : LKP own idx ci j ty) (hf : FD c ci j v) (hn : narrow ty x = x) (hfit : fits ty x = true) (hx : fldV (pb P) α c j v = x) (hne : ∀ q, q ≠ j → ∀ u, fldV (pb P) α c q u = fldV (pb P) σ c q u) (ho : ∀ q, q ≠ c → ∀ L, celE (pY P) (pb P) α q L = celE (pY P) (pb P) σ q L) (n : ∀ σ', AW P G nL E (Kf σ') σ' (pc + 3) lv st) : AW P G nL E (sx α Kf) σ pc lv (x :: rf P c :: st) := by
  obtain ⟨C, T, N, ref, t0, h1, h2, h3, h4, h5, h6, h7, h8, h9⟩ := hl
  obtain ⟨hc, fs, e1, e2⟩ := hf
  refine aw_sx (fun H locs ls hR hS hL w => ?_) n
  have hj : j < fs.length := (List.getElem?_eq_some_iff.mp e2).1
  refine va_put (Ts := TBL) K.1 K.2.1 K.2.2.2.2.1 h2 t0 h6 h7 K.2.2.2.1 K.2.2.2.2.2.1.1 hR (wd_D P σ) hS c (wd_at hc e1) h1 j h3 (K.2.2.2.2.1 _ h4) (aw_same K h5) h8 h9 hn hfit (by rw [List.length_map, List.length_range]; exact hj) d (fun H1 locs1 hP hD hS1 => w H1 locs1 ?_ hS1)
  rw [wd_set (σ' := α) ?_ ho] at hP
  · exact hP
  · rw [e1]
    show Sum.inr (ci, _) = _
    refine congrArg (fun q => Sum.inr (ci, q)) ?_
    apply List.ext_getElem?
    intro q
    rw [List.getElem?_set, List.getElem?_map, List.getElem?_map, List.length_map, List.length_range]
    by_cases h : j = q
    · subst h
      have e : fs.getD j 0 = v := by rw [List.getD_eq_getElem?_getD, e2]; rfl
      rw [if_pos rfl, if_pos hj, List.getElem?_range hj]
      simp only [Option.map_some, e, hx]
    · rw [if_neg h]
      by_cases hq : q < fs.length
      · rw [List.getElem?_range hq]
        simp only [Option.map_some, hne q (fun z => h z.symm)]
      · rw [List.getElem?_eq_none (by rw [List.length_range]; omega)]
        rfl
theorem fldV_uI {b c j q : Nat} {v : Int32} (h : q ≠ j) (u : Nat) : fldV b (uI σ c j v) c q u = fldV b σ c q u := by
  match u with
  | 0 => simp [fldV, uI, h]
  | 1 => simp [fldV, uI, h]
  | 2 => rfl
  | _ + 3 => rfl
theorem fldV_uL {b c j q : Nat} {v : Int64} (h : q ≠ j) (u : Nat) : fldV b (uL σ c j v) c q u = fldV b σ c q u := by
  match u with
  | 0 => rfl
  | 1 => rfl
  | 2 => simp [fldV, uL, h]
  | _ + 3 => rfl
theorem aw_putI (K : CX P G cc own k nL) {c ci j idx : Nat} {x : Int32} {Kf : SG → Option (ρ × SG)} (d : decode cc pc = .ok (.putfield idx, 3)) (hl : LKP own idx ci j .int) (hf : FD c ci j 0) (n : ∀ σ', AW P G nL E (Kf σ') σ' (pc + 3) lv st) : AW P G nL E (sx (uI σ c j x) Kf) σ pc lv (.int x :: rf P c :: st) :=
  aw_put K d hl hf rfl rfl (by simp [fldV, uI]) (fun _ h u => fldV_uI h u) (fun _ h L => celE_uI h L) n
theorem aw_putZ (K : CX P G cc own k nL) {c ci j idx : Nat} {x : Int32} {Kf : SG → Option (ρ × SG)} (d : decode cc pc = .ok (.putfield idx, 3)) (hl : LKP own idx ci j .boolean) (hf : FD c ci j 1) (hx : x = 0 ∨ x = 1) (n : ∀ σ', AW P G nL E (Kf σ') σ' (pc + 3) lv st) : AW P G nL E (sx (uI σ c j x) Kf) σ pc lv (.int x :: rf P c :: st) :=
  aw_put K d hl hf (by rcases hx with rfl | rfl <;> rfl) (by rcases hx with rfl | rfl <;> rfl) (by simp [fldV, uI]) (fun _ h u => fldV_uI h u) (fun _ h L => celE_uI h L) n
theorem aw_putJ (K : CX P G cc own k nL) {c ci j idx : Nat} {x : Int64} {Kf : SG → Option (ρ × SG)} (d : decode cc pc = .ok (.putfield idx, 3)) (hl : LKP own idx ci j .long) (hf : FD c ci j 2) (n : ∀ σ', AW P G nL E (Kf σ') σ' (pc + 3) lv st) : AW P G nL E (sx (uL σ c j x) Kf) σ pc lv (.long x :: rf P c :: st) :=
  aw_put K d hl hf rfl rfl (by simp [fldV, uL]) (fun _ h u => fldV_uL h u) (fun _ h L => celE_uL h L) n
theorem aw_ald (K : CX P G cc own k nL) {c m q : Nat} {i : Int32} (d : decode cc pc = .ok (.iaload, 1)) (ha : AD c 0 m 0) (hi : ix i m) (hq : nx i = q) (n : AW P G nL E X σ (pc + 1) lv (.int (σ.1 c q) :: st)) : AW P G nL E X σ pc lv (.int i :: rf P c :: st) := by
  subst hq
  exact aw_map (fun _ _ _ hR _ _ w => va_iald K.1 K.2.1 K.2.2.2.2.2.1.1 hR c 0 (wd_at ha.1 ha.2) rfl hi d w) n
theorem aw_ldl (K : CX P G cc own k nL) {c m q : Nat} {i : Int32} (d : decode cc pc = .ok (.laload, 1)) (ha : AD c 1 m 0) (hi : ix i m) (hq : nx i = q) (n : AW P G nL E X σ (pc + 1) lv (.long (σ.2 c q) :: st)) : AW P G nL E X σ pc lv (.int i :: rf P c :: st) := by
  subst hq
  exact aw_map (fun _ _ _ hR _ _ w => va_lald K.1 K.2.1 K.2.2.2.2.2.1.1 hR c 1 (wd_at ha.1 ha.2) rfl hi d w) n
theorem aw_aald (K : CX P G cc own k nL) {c m f q : Nat} {i : Int32} (d : decode cc pc = .ok (.aaload, 1)) (ha : AD c 2 m f) (hi : ix i m) (hq : f + nx i = q) (n : AW P G nL E X σ (pc + 1) lv (rf P q :: st)) : AW P G nL E X σ pc lv (.int i :: rf P c :: st) := by
  subst hq
  refine aw_map (fun H locs ls hR _ _ w => ?_) n
  have hlt : i.toNatClampNeg < m := Nat.not_le.mp fun z => hi (Or.inr z)
  exact W.aald (v := va_rf (some (pb P + (f + nx i)))) (ty := .array .int) K.1 K.2.1 (hR c _ (wd_at ha.1 ha.2)) ((K.2.2.2.2.2.1.1.2 2 _ rfl).1 m (fun j => va_rf (some (pb P + (f + j))))) rfl (fun z => by cases z) (by show ¬ (i < 0 ∨ (arrV _ _ _).slots.size ≤ _); rw [arrV_size]; exact hi) (by show (arrV _ _ _).slots[_]? = _; rw [arrV_read _ _ hlt]) rfl rfl d w
theorem aw_aaldP (K : CX P G cc own k nL) {c m f q : Nat} {i : Int32} (d : decode cc pc = .ok (.aaload, 1)) (ha : AD c 3 m f) (hi : ix i m) (hq : f + nx i = q) (n : AW P G nL E X σ (pc + 1) lv (rf P q :: st)) : AW P G nL E X σ pc lv (.int i :: rf P c :: st) := by
  subst hq
  exact aw_map (fun _ _ _ hR _ _ w => va_aldq K.1 K.2.1 K.2.2.2.2.2.1.1 hR c 3 (wd_at ha.1 ha.2) rfl hi d w) n
theorem aw_alen (K : CX P G cc own k nL) {c q m f : Nat} {v : Int32} (d : decode cc pc = .ok (.arraylength, 1)) (ha : AD c q m f) (hq : q < 4) (hv : Int32.ofNat m = v) (n : AW P G nL E X σ (pc + 1) lv (.int v :: st)) : AW P G nL E X σ pc lv (rf P c :: st) := by
  refine aw_map (fun _ _ _ hR _ _ w => ?_) n
  match q, hq, ha with
  | 0, _, ha => exact va_alen K.1 K.2.1 K.2.2.2.2.2.1.1 hR c 0 (wd_at ha.1 ha.2) rfl hv d w
  | 1, _, ha => exact va_alen K.1 K.2.1 K.2.2.2.2.2.1.1 hR c 1 (wd_at ha.1 ha.2) rfl hv d w
  | 2, _, ha => exact va_alen K.1 K.2.1 K.2.2.2.2.2.1.1 hR c 2 (wd_at ha.1 ha.2) rfl hv d w
  | 3, _, ha => exact va_alen K.1 K.2.1 K.2.2.2.2.2.1.1 hR c 3 (wd_at ha.1 ha.2) rfl hv d w
theorem aw_ast (K : CX P G cc own k nL) {c m q : Nat} {i x : Int32} {Kf : SG → Option (ρ × SG)} (d : decode cc pc = .ok (.iastore, 1)) (ha : AD c 0 m 0) (hi : ix i m) (hq : nx i = q) (n : ∀ σ', AW P G nL E (Kf σ') σ' (pc + 1) lv st) : AW P G nL E (sx (uI σ c q x) Kf) σ pc lv (.int x :: .int i :: rf P c :: st) := by
  subst hq
  refine aw_sx (fun H locs ls hR hS hL w => ?_) n
  refine va_iast K.1 K.2.1 K.2.2.2.2.2.1.1 hR (wd_D P σ) hS c 0 (wd_at ha.1 ha.2) rfl hi d (fun H1 locs1 hP hD hS1 => w H1 locs1 ?_ hS1)
  rw [wd_set (σ' := uI σ c (nx i) x) ?_ (fun _ h L => celE_uI h L)] at hP
  · exact hP
  · rw [ha.2]
    exact congrArg (fun z => (Sum.inl (pY P 0, m, Sum.inl z) : va_E)) (funext fun z => by simp [uI, upd])
theorem aw_stl (K : CX P G cc own k nL) {c m q : Nat} {i : Int32} {x : Int64} {Kf : SG → Option (ρ × SG)} (d : decode cc pc = .ok (.lastore, 1)) (ha : AD c 1 m 0) (hi : ix i m) (hq : nx i = q) (n : ∀ σ', AW P G nL E (Kf σ') σ' (pc + 1) lv st) : AW P G nL E (sx (uL σ c q x) Kf) σ pc lv (.long x :: .int i :: rf P c :: st) := by
  subst hq
  refine aw_sx (fun H locs ls hR hS hL w => ?_) n
  refine va_last K.1 K.2.1 K.2.2.2.2.2.1.1 hR (wd_D P σ) hS c 1 (wd_at ha.1 ha.2) rfl hi d (fun H1 locs1 hP hD hS1 => w H1 locs1 ?_ hS1)
  rw [wd_set (σ' := uL σ c (nx i) x) ?_ (fun _ h L => celE_uL h L)] at hP
  · exact hP
  · rw [ha.2]
    exact congrArg (fun z => (Sum.inl (pY P 1, m, Sum.inr (Sum.inl z)) : va_E)) (funext fun z => by simp [uL, vp_updL])
theorem aw_getsC (K : CX P G cc own k nL) {idx : Nat} (d : decode cc pc = .ok (.getstatic idx, 3)) (hw : Cond.fieldLink own idx "HadForVoice" "CHANGES" "[I" ∈ TBL) (n : AW P G nL E X σ (pc + 3) lv (.ref (pC P) :: st)) : AW P G nL E X σ pc lv st :=
  aw_map (fun _ _ _ _ hS _ w => va_gets K.1 K.2.1 K.2.2.2.2.2.1.2.1.1 hS K.2.2.2.1 (K.2.2.2.2.1 _ hw) (fun _ h => h) d w) n
theorem aw_getsCN (K : CX P G cc own k nL) {idx : Nat} (d : decode cc pc = .ok (.getstatic idx, 3)) (hw : Cond.fieldLinkNest own idx "HadForVoice" "CHANGES" "[I" "HadForVoice" ∈ NWS) (n : AW P G nL E X σ (pc + 3) lv (.ref (pC P) :: st)) : AW P G nL E X σ pc lv st :=
  aw_map (fun _ _ _ _ hS _ w => va_getsN K.1 K.2.1 K.2.2.2.2.2.1.2.1.1 hS K.2.2.2.1 (va_Nw.use rfl (K.2.2.2.2.2.1.2.2.2.2 _ hw)) (fun _ h => h) d w) n
theorem aw_getsA (K : CX P G cc own k nL) {idx : Nat} (d : decode cc pc = .ok (.getstatic idx, 3)) (hw : Cond.fieldLink own idx "HadForVoice" "ABOVE" "[I" ∈ TBL) (n : AW P G nL E X σ (pc + 3) lv (.ref (pA P) :: st)) : AW P G nL E X σ pc lv st :=
  aw_map (fun _ _ _ _ hS _ w => va_gets K.1 K.2.1 K.2.2.2.2.2.1.2.1.2.1 hS K.2.2.2.1 (K.2.2.2.2.1 _ hw) (fun _ h => h) d w) n
theorem aw_tC (K : CX P G cc own k nL) {i : Int32} (d : decode cc pc = .ok (.iaload, 1)) (hi : ix i 21) (n : AW P G nL E X σ (pc + 1) lv (.int (tCHANGES (nx i)) :: st)) : AW P G nL E X σ pc lv (.int i :: .ref (pC P) :: st) :=
  aw_map (fun _ _ _ _ hS _ w => va_ti K.1 K.2.1 K.2.2.2.2.2.1.2.2.1.1 hS hi rfl d w) n
theorem aw_tA (K : CX P G cc own k nL) {i : Int32} (d : decode cc pc = .ok (.iaload, 1)) (hi : ix i 6) (n : AW P G nL E X σ (pc + 1) lv (.int (tABOVE (nx i)) :: st)) : AW P G nL E X σ pc lv (.int i :: .ref (pA P) :: st) :=
  aw_map (fun _ _ _ _ hS _ w => va_ti K.1 K.2.1 K.2.2.2.2.2.1.2.2.1.2 hS hi rfl d w) n
theorem aw_tlenC (K : CX P G cc own k nL) (d : decode cc pc = .ok (.arraylength, 1)) (n : AW P G nL E X σ (pc + 1) lv (.int 21 :: st)) : AW P G nL E X σ pc lv (.ref (pC P) :: st) :=
  aw_map (fun _ _ _ _ hS _ w => va_tlen K.1 K.2.1 K.2.2.2.2.2.1.2.2.1.1 hS rfl d w) n
theorem aw_max (K : CX P G cc own k nL) {idx : Nat} {x y : Int32} (d : decode cc pc = .ok (.invokestatic idx, 3)) (hk : 1 ≤ k) (hw : Cond.methodLink own idx Lib.Math.max.name ∈ TBL) (hw2 : Cond.static Lib.Math.max.name ∈ TBL) (hw3 : Cond.initialized "java/lang/Math" ∈ TBL) (hw4 : Cond.code Lib.Math.max.name Lib.Math.max.code 2 (some .int) ∈ TBL) (hr : (st.map fun v => v.category).sum ≤ 8) (n : AW P G nL E X σ (pc + 3) lv (.int (if x < y then y else x) :: st)) : AW P G nL E X σ pc lv (.int y :: .int x :: st) := by
  refine aw_map (fun _ _ _ _ _ hL w => ?_) n
  have e := K.2.2.2.2.2.2
  exact va_mmax K.1 K.2.1 (by rw [K.2.2.1]; exact hL.1.symm) K.2.2.2.1 (K.2.2.2.2.1 _ hw) (K.2.2.2.2.1 _ hw2) (K.2.2.2.2.1 _ hw3) (K.2.2.2.2.1 _ hw4) (Nat.le_trans hk e.1) (by have := e.2.1; omega) e.2.2.1 e.2.2.2 d w
theorem aw_min (K : CX P G cc own k nL) {idx : Nat} {x y : Int32} (d : decode cc pc = .ok (.invokestatic idx, 3)) (hk : 1 ≤ k) (hw : Cond.methodLink own idx Lib.Math.min.name ∈ TBL) (hw2 : Cond.static Lib.Math.min.name ∈ TBL) (hw3 : Cond.initialized "java/lang/Math" ∈ TBL) (hw4 : Cond.code Lib.Math.min.name Lib.Math.min.code 2 (some .int) ∈ TBL) (hr : (st.map fun v => v.category).sum ≤ 8) (n : AW P G nL E X σ (pc + 3) lv (.int (if y < x then y else x) :: st)) : AW P G nL E X σ pc lv (.int y :: .int x :: st) := by
  refine aw_map (fun _ _ _ _ _ hL w => ?_) n
  have e := K.2.2.2.2.2.2
  exact va_mmin K.1 K.2.1 (by rw [K.2.2.1]; exact hL.1.symm) K.2.2.2.1 (K.2.2.2.2.1 _ hw) (K.2.2.2.2.1 _ hw2) (K.2.2.2.2.1 _ hw3) (K.2.2.2.2.1 _ hw4) (Nat.le_trans hk e.1) (by have := e.2.1; omega) e.2.2.1 e.2.2.2 d w
theorem aw_copy (K : CX P G cc own k nL) {idx c0 c1 n0 n1 : Nat} {sp dp m : Int32} {Kf : SG → Option (ρ × SG)} (d : decode cc pc = .ok (.invokestatic idx, 3)) (hk : 1 ≤ k) (hw : Cond.methodLink own idx arraycopyName ∈ TBL) (hw2 : Cond.native arraycopyName ∈ TBL) (hw3 : Cond.static arraycopyName ∈ TBL) (hw4 : Cond.initialized "java/lang/System" ∈ TBL) (hr : (st.map fun v => v.category).sum ≤ 8) (ha : AD c0 0 n0 0) (hb : AD c1 0 n1 0) (hg : cpOk sp dp m n0 n1) (n : ∀ σ', AW P G nL E (Kf σ') σ' (pc + 3) lv st) : AW P G nL E (sx (cpI σ c0 c1 sp dp m) Kf) σ pc lv (.int m :: .int dp :: rf P c1 :: .int sp :: rf P c0 :: st) := by
  refine aw_sx (fun H locs ls hR hS hL w => ?_) n
  have e := K.2.2.2.2.2.2
  obtain ⟨g1, g2, g3, g4, g5⟩ := hg
  have r1 : 1 ≤ (gR G).frames := Nat.le_trans hk e.1
  have r2 : (st.map fun v => v.category).sum + (nativeFrameWords "java/lang/System" "arraycopy" 5 + 11) ≤ (gR G).locals := by
    have := e.2.1
    have : nativeFrameWords "java/lang/System" "arraycopy" 5 + 11 ≤ 90 := by decide +kernel
    omega
  refine va_copyi K.1 K.2.1 (by rw [K.2.2.1]; exact hL.1.symm) K.2.2.2.1 (K.2.2.2.2.1 _ hw) (K.2.2.2.2.1 _ hw2) (K.2.2.2.2.1 _ hw3) (K.2.2.2.2.1 _ hw4) K.2.2.2.2.2.1.1 hR (wd_D P σ) hS c0 c1 0 0 (ty := .int) (wd_at ha.1 ha.2) (wd_at hb.1 hb.2) rfl rfl rfl g1 g2 g3 g4 g5 (fun _ _ => rfl) r1 r2 d (fun H1 locs1 hP hD hS1 => w H1 locs1 ?_ hS1)
  rw [wd_set (σ' := cpI σ c0 c1 sp dp m) ?_ ?_] at hP
  · exact hP
  · rw [hb.2]
    exact congrArg (fun z => (Sum.inl (pY P 0, n1, Sum.inl z) : va_E)) (funext fun z => by simp [cpI, va_cpy])
  · intro j hj L
    have e2 : ∀ q, (cpI σ c0 c1 sp dp m).1 j q = σ.1 j q := fun q => by simp [cpI, hj]
    match L with
    | .inl (ci, fs) =>
      have e3 : ∀ q t, fldV (pb P) (cpI σ c0 c1 sp dp m) j q t = fldV (pb P) σ j q t := fun q t => by
        match t with
        | 0 => simp [fldV, e2]
        | 1 => simp [fldV, e2]
        | 2 => rfl
        | _ + 3 => rfl
      simp [celE, e3]
    | .inr (0, n, f) => simp only [celE]; rw [show (cpI σ c0 c1 sp dp m).1 j = σ.1 j from funext e2]
    | .inr (1, n, f) => rfl
    | .inr (q + 2, n, f) => rfl
theorem aw_ldcS (K : CX P G cc "HadForVoice$RuleText" k nL) {idx q : Nat} {tx : String} (d : decode cc pc = .ok (.ldc idx, 2)) (hq : (idx, tx, q) ∈ SRS) (n : AW P G nL E X σ (pc + 2) lv (.ref (pK P q) :: st)) : AW P G nL E X σ pc lv st :=
  aw_map (fun _ _ _ _ _ _ w => va_ldcS K.1 K.2.1 K.2.2.2.1 (K.2.2.2.2.2.1.2.2.2.1.1 _ hq) d w) n
theorem ix_lt {i : Int32} {n : Nat} (h : ix i n) : nx i < n := Nat.not_le.mp fun z => h (Or.inr z)
/-- the law's script -/
def SX (P : PT) (G : GT) (b L : Nat) (xs : Nat → Int32) : Prop := va_X b L xs (gs G) (gs G).heap ∧ b < (gs G).heap.size ∧ ¬ AA P b
theorem aw_alenX (K : CX P G cc own k nL) {b L : Nat} {xs : Nat → Int32} (hX : SX P G b L xs) (d : decode cc pc = .ok (.arraylength, 1)) (n : AW P G nL E X σ (pc + 1) lv (.int (Int32.ofNat L) :: st)) : AW P G nL E X σ pc lv (.ref b :: st) :=
  aw_map (fun _ _ _ _ hS _ w => va_slen K.1 K.2.1 hX.1 hX.2.1 hX.2.2 hS d w) n
theorem aw_aldX (K : CX P G cc own k nL) {b L : Nat} {xs : Nat → Int32} {i : Int32} (hX : SX P G b L xs) (d : decode cc pc = .ok (.iaload, 1)) (hi : ix i L) (n : AW P G nL E X σ (pc + 1) lv (.int (xs (nx i)) :: st)) : AW P G nL E X σ pc lv (.int i :: .ref b :: st) :=
  aw_map (fun _ _ _ _ hS _ w => va_sld K.1 K.2.1 hX.1 hX.2.1 hX.2.2 hS hi d w) n
end AWF
