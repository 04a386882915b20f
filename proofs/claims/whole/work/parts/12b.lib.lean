theorem jn_r10 : ∀ w ∈ wsL_law_r10, w ∈ TBL := fun _ h => List.mem_append_right _ (List.mem_append_left _ (List.mem_append_left _ (List.mem_append_left _ (List.mem_append_left _ (List.mem_append_left _ (List.mem_append_left _ (List.mem_append_left _ (List.mem_append_left _ (List.mem_append_left _ (List.mem_append_left _ (List.mem_append_left _ (List.mem_append_left _ (List.mem_append_left _ (List.mem_append_left _ (List.mem_append_right _ (List.mem_append_right _ (List.mem_append_right _ (List.mem_append_right _ (List.mem_append_right _ (List.mem_append_right _ (List.mem_append_right _ (List.mem_append_right _ (List.mem_append_right _ (List.mem_append_left _ h))))))))))))))))))))))))
theorem jn_r20 : ∀ w ∈ wsL_law_r20, w ∈ TBL := fun _ h => List.mem_append_right _ (List.mem_append_left _ (List.mem_append_left _ (List.mem_append_left _ (List.mem_append_left _ (List.mem_append_left _ (List.mem_append_left _ (List.mem_append_left _ (List.mem_append_left _ (List.mem_append_left _ (List.mem_append_left _ (List.mem_append_left _ (List.mem_append_left _ (List.mem_append_left _ (List.mem_append_left _ (List.mem_append_right _ (List.mem_append_right _ (List.mem_append_right _ (List.mem_append_right _ (List.mem_append_right _ (List.mem_append_right _ (List.mem_append_right _ (List.mem_append_right _ (List.mem_append_right _ (List.mem_append_right _ (List.mem_append_right _ (List.mem_append_right _ (List.mem_append_right _ (List.mem_append_right _ (List.mem_append_right _ (List.mem_append_right _ (List.mem_append_right _ (List.mem_append_right _ (List.mem_append_right _ (List.mem_append_left _ h))))))))))))))))))))))))))))))))))
theorem jn_r21 : ∀ w ∈ wsL_law_r21, w ∈ TBL := fun _ h => List.mem_append_right _ (List.mem_append_left _ (List.mem_append_left _ (List.mem_append_left _ (List.mem_append_left _ (List.mem_append_left _ (List.mem_append_left _ (List.mem_append_left _ (List.mem_append_left _ (List.mem_append_left _ (List.mem_append_left _ (List.mem_append_left _ (List.mem_append_left _ (List.mem_append_left _ (List.mem_append_left _ (List.mem_append_right _ (List.mem_append_right _ (List.mem_append_right _ (List.mem_append_right _ (List.mem_append_right _ (List.mem_append_right _ (List.mem_append_right _ (List.mem_append_right _ (List.mem_append_right _ (List.mem_append_right _ (List.mem_append_right _ (List.mem_append_right _ (List.mem_append_right _ (List.mem_append_right _ (List.mem_append_right _ (List.mem_append_right _ (List.mem_append_right _ (List.mem_append_right _ (List.mem_append_right _ (List.mem_append_right _ (List.mem_append_left _ h)))))))))))))))))))))))))))))))))))
theorem jn_r51 : ∀ w ∈ wsL_law_r51, w ∈ TBL := fun _ h => List.mem_append_right _ (List.mem_append_left _ (List.mem_append_left _ (List.mem_append_left _ (List.mem_append_left _ (List.mem_append_left _ (List.mem_append_left _ (List.mem_append_left _ (List.mem_append_left _ (List.mem_append_left _ (List.mem_append_left _ (List.mem_append_left _ (List.mem_append_left _ (List.mem_append_left _ (List.mem_append_left _ (List.mem_append_right _ (List.mem_append_right _ (List.mem_append_right _ (List.mem_append_right _ (List.mem_append_right _ (List.mem_append_right _ (List.mem_append_right _ (List.mem_append_right _ (List.mem_append_right _ (List.mem_append_right _ (List.mem_append_right _ (List.mem_append_right _ (List.mem_append_right _ (List.mem_append_right _ (List.mem_append_right _ (List.mem_append_right _ (List.mem_append_right _ (List.mem_append_right _ (List.mem_append_right _ (List.mem_append_right _ (List.mem_append_right _ (List.mem_append_right _ (List.mem_append_right _ (List.mem_append_right _ (List.mem_append_right _ (List.mem_append_right _ (List.mem_append_right _ (List.mem_append_right _ (List.mem_append_right _ (List.mem_append_right _ (List.mem_append_right _ (List.mem_append_right _ (List.mem_append_right _ (List.mem_append_right _ (List.mem_append_right _ (List.mem_append_right _ (List.mem_append_right _ (List.mem_append_right _ (List.mem_append_right _ (List.mem_append_right _ (List.mem_append_right _ (List.mem_append_right _ (List.mem_append_right _ (List.mem_append_right _ (List.mem_append_right _ (List.mem_append_right _ (List.mem_append_right _ (List.mem_append_right _ (List.mem_append_right _ (List.mem_append_right _ (List.mem_append_left _ h)))))))))))))))))))))))))))))))))))))))))))))))))))))))))))))))))
theorem sz_shr0 (x : Int32) : x >>> ((0 : Int32) &&& 31) = x := by
  rw [show ((0 : Int32) &&& 31) = 0 by decide]
  simp
/-! MEMBERS OF THE LIBRARY, by their own bytes -/
def bcn0 (x : Int32) : Int32 := x - (ush x 1 &&& 1431655765)
def bcn1 (x : Int32) : Int32 := (x &&& 858993459) + (ush x 2 &&& 858993459)
def bcn2 (x : Int32) : Int32 := (x + ush x 4) &&& 252645135
def bcn3 (x : Int32) : Int32 := x + ush x 8
def bcn4 (x : Int32) : Int32 := x + ush x 16
def bcn (x : Int32) : Int32 := bcn4 (bcn3 (bcn2 (bcn1 (bcn0 x)))) &&& 63
section AWB
variable {ρ : Type} {P : PT} {G : GT} {cc : ByteArray} {own : String} {k nL : Nat} {E : ρ → SG → Prop} {X Y : Option (ρ × SG)} {σ : SG} {pc pc' : Nat} {lv : List (Nat × Value)} {st st' : List Value}
theorem aw_ldcw (K : CX P G cc own k nL) {i : Nat} {x : Int32} (d : decode cc pc = .ok (.ldc_w i, 3)) (hw : Cond.constant own i x ∈ TBL) (n : AW P G nL E X σ (pc + 3) lv (.int x :: st)) : AW P G nL E X σ pc lv st := aw_map (fun _ _ _ _ _ _ w => lv_ldcw K.1 K.2.1 K.2.2.2.1 (K.2.2.2.2.1 _ hw) d w) n
theorem aw_i2c (K : CX P G cc own k nL) {x v : Int32} (d : decode cc pc = .ok (.i2c, 1)) (hv : (x.toUInt32 % 65536).toInt32 = v) (n : AW P G nL E X σ (pc + 1) lv (.int v :: st)) : AW P G nL E X σ pc lv (.int x :: st) := aw_map (fun _ _ _ _ _ _ w => lv_i2c K.1 K.2.1 d hv w) n
/-- a place that a premise of the start speaks of -/
theorem aw_at {c : Prop} (n : c → AW P G nL E X σ pc lv st) (h : c) : AW P G nL E X σ pc lv st := n h
theorem aw_getsZ (K : CX P G cc own k nL) {idx : Nat} (d : decode cc pc = .ok (.getstatic idx, 3)) (hw : Cond.fieldLink own idx "java/lang/String" "COMPACT_STRINGS" "Z" ∈ TBL) (n : AW P G nL E X σ (pc + 3) lv (.int 1 :: st)) : AW P G nL E X σ pc lv st :=
  aw_map (fun _ _ _ _ hS _ w => va_gets K.1 K.2.1 K.2.2.2.2.2.1.2.1.2.2.1 hS K.2.2.2.1 (K.2.2.2.2.1 _ hw) (fun _ h => h) d w) n
theorem aw_getsF (K : CX P G cc own k nL) {idx : Nat} (d : decode cc pc = .ok (.getstatic idx, 3)) (hw : Cond.fieldLink own idx "jdk/internal/util/Preconditions" "SIOOBE_FORMATTER" "Ljava/util/function/BiFunction;" ∈ TBL) (n : ∀ v : Value, (v = .null ∨ ∃ t, v = .ref t) → AW P G nL E X σ (pc + 3) lv (v :: st)) : AW P G nL E X σ pc lv st := by
  rcases K.2.2.2.2.2.1.2.1.2.2.2 with h | ⟨t, h⟩
  · exact aw_map (fun _ _ _ _ hS _ w => va_gets K.1 K.2.1 h hS K.2.2.2.1 (K.2.2.2.2.1 _ hw) (fun _ h => h) d w) (n .null (Or.inl rfl))
  · exact aw_map (fun _ _ _ _ hS _ w => va_gets K.1 K.2.1 h hS K.2.2.2.1 (K.2.2.2.2.1 _ hw) (fun _ h => h) d w) (n (.ref t) (Or.inr ⟨t, rfl⟩))
theorem aw_getSV (K : CX P G cc own k nL) {idx w : Nat} (hn : w < nS) (d : decode cc pc = .ok (.getfield idx, 3)) (hw : Cond.fieldLink own idx "java/lang/String" "value" "[B" ∈ TBL) (n : AW P G nL E X σ (pc + 3) lv (.ref (pV P w) :: st)) : AW P G nL E X σ pc lv (.ref (pK P w) :: st) :=
  aw_map (fun _ _ _ _ hS _ z => vk_getf K.1 K.2.1 (K.2.2.2.2.2.1.2.2.2.1.2.1 w hn).2.2.1 hS K.2.2.2.1 (K.2.2.2.2.1 _ hw) (fun _ h => h) d z) n
theorem aw_getSC (K : CX P G cc own k nL) {idx w : Nat} (hn : w < nS) (d : decode cc pc = .ok (.getfield idx, 3)) (hw : Cond.fieldLink own idx "java/lang/String" "coder" "B" ∈ TBL) (n : AW P G nL E X σ (pc + 3) lv (.int 0 :: st)) : AW P G nL E X σ pc lv (.ref (pK P w) :: st) :=
  aw_map (fun _ _ _ _ hS _ z => vk_getf K.1 K.2.1 (K.2.2.2.2.2.1.2.2.2.1.2.1 w hn).2.1 hS K.2.2.2.1 (K.2.2.2.2.1 _ hw) (fun _ h => h) d z) n
theorem aw_lenSV (K : CX P G cc own k nL) {w : Nat} (hn : w < nS) (d : decode cc pc = .ok (.arraylength, 1)) (n : AW P G nL E X σ (pc + 1) lv (.int (slen w) :: st)) : AW P G nL E X σ pc lv (.ref (pV P w) :: st) :=
  aw_map (fun _ _ _ _ hS _ z => va_tlen K.1 K.2.1 (K.2.2.2.2.2.1.2.2.2.1.2.1 w hn).2.2.2 hS rfl d z) n
theorem aw_ldSV (K : CX P G cc own k nL) {w : Nat} {i : Int32} (hn : w < nS) (hi : ix i (slenN w)) (d : decode cc pc = .ok (.baload, 1)) (n : AW P G nL E X σ (pc + 1) lv (.int (schr w (nx i)) :: st)) : AW P G nL E X σ pc lv (.int i :: .ref (pV P w) :: st) :=
  aw_map (fun _ _ _ _ hS _ z => va_tb K.1 K.2.1 (K.2.2.2.2.2.1.2.2.2.1.2.1 w hn).2.2.2 hS hi rfl d z) n
theorem aw_astE (K : CX P G cc own k nL) {c m q : Nat} {i x : Int32} (d : decode cc pc = .ok (.iastore, 1)) (ha : AD c 0 m 0) (hi : ix i m) (hq : nx i = q) (n : AW P G nL E X (uI σ c q x) (pc + 1) lv st) : AW P G nL E X σ pc lv (.int x :: .int i :: rf P c :: st) := by
  intro r σ0 hX hE H locs ls hR hS hL
  subst hq
  refine va_iast K.1 K.2.1 K.2.2.2.2.2.1.1 hR (wd_D P σ) hS c 0 (wd_at ha.1 ha.2) rfl hi d (fun H1 locs1 hP hD hS1 => n r σ0 hX hE H1 locs1 ls ?_ hS1 hL)
  rw [wd_set (σ' := uI σ c (nx i) x) ?_ (fun _ h L => celE_uI h L)] at hP
  · exact hP
  · rw [ha.2]
    exact congrArg (fun z => (Sum.inl (pY P 0, m, Sum.inl z) : va_E)) (funext fun z => by simp [uI, upd])
theorem aw_iincE (K : CX P G cc own k nL) {i : Nat} {v : Int} {x y : Int32} {lv' : List (Nat × Value)} (j : Nat) (d : decode cc pc = .ok (.iinc i v, 3)) (hj : lv[j]? = some (i, .int x)) (hv : x + Int32.ofInt v = y) (hn : i < nL) (hl : (i, Value.int y) :: lv.filter (fun q => !(q.1 == i) && !(q.1 + 1 == i && q.2.category == 2)) = lv') (n : AW P G nL E X σ (pc + 3) lv' st) : AW P G nL E X σ pc lv st := by
  intro r σ' hX hE H locs ls hR hS hL
  exact lv_iinc K.1 K.2.1 d hL hj hv hn hl (fun ls2 hL2 => n r σ' hX hE H locs ls2 hR hS hL2)
/-- a String's own method -/
theorem aw_callJI (K : CX P G cc own k nL) {l : Launch} {idx np n2 k2 w : Nat} {y : MethodName} {cy : ByteArray} {ret : Option FieldType} {As : PT → List Value} {rest : List Value} {f : SG → Option (Int32 × SG)} {F : Option (Int32 × SG)} {Kf : Int32 → SG → Option (ρ × SG)} (d : decode cc pc = .ok (.invokevirtual idx, 3)) (hn : w < nS)
    (v2 : y.cls = "java/lang/String") (v3 : Cond.code y cy n2 ret ∈ TBL) (v4 : Cond.methodLink own idx y ∈ TBL) (v5 : Cond.instanceMethod y ∈ TBL) (v6 : Cond.selects "java/lang/String" y y ∈ TBL) (v7 : Cond.initialized "java/lang/String" ∈ TBL) (v8 : n2 ≤ 81) (v9 : (parseMethodDescriptor y.desc).map (fun d => d.parameters.length) = some np)
    (hM : CTI l k2 y cy n2 ret (fun P => .ref (pK P w) :: As P) f) (hl : gl G = l) (hk : k2 + 1 ≤ k) (hnp : (As P).length = np) (hr : (rest.map fun v => v.category).sum ≤ 8) (hst : st = (As P).reverse ++ .ref (pK P w) :: rest) (hF : F = f σ) (n : ∀ r σ', F = some (r, σ') → AW P G nL E (Kf r σ') σ' (pc + 3) lv (.int r :: rest)) : AW P G nL E (bnd F Kf) σ pc lv st := by
  intro r0 σ0 hX hE H locs ls hR hS hL
  subst hst
  subst hl
  subst hF
  cases hf : f σ with
  | none => rw [hf] at hX; cases hX
  | some q =>
    obtain ⟨r1, σ1⟩ := q
    rw [hf] at hX
    have cw := cwV (R := gR G) np K.2.2.2.2.1 (own := own) (index := idx) (C := "java/lang/String") (wY_good (ws := [.methodLink own idx y, .instanceMethod y, .selects "java/lang/String" y y, .initialized "java/lang/String"]) v3 (by simp [v4, v5, v6, v7])) rfl (rm := rmk k2) rfl rfl ⟨v2, by rw [v2]; decide +kernel, by rw [v2]; decide +kernel, v9⟩ (cx_room K hk v8)
    refine va_calli (va_runV (As := As P) (b := pK P w) (rest := rest) (cx_fix K) (hM P σ r1 σ1 hf) cw ⟨pre_blind, vk_recv K.2.2.2.2.2.1.2.2.2.1.2 hn hS, fun U hU hW => ⟨rfl, pre_at K hR hS hU hW⟩⟩ rfl hnp hL.1 rfl (lv_room hr) d (cx_free K)) hS (fun _ _ h => h) (fun _ h => h) (fun r u t H1 locs1 ht _ hw hB _ _ hS1 => ?_)
    subst hw
    subst ht
    exact n _ σ1 hf r0 σ0 hX hE _ _ ls hB hS1 hL
def EN (ty : FieldType) (P : PT) (G : GT) (cc : ByteArray) (r : Int32) (σ' : SG) : Prop := narrow ty (.int r) = .int r → EI P G cc r σ'
theorem met_N {l : Launch} {y : MethodName} {n : Nat} {own : String} {ret : Option FieldType} {ty : FieldType} {av : PT → List Value} {f : SG → Option (Int32 × SG)} (hy : plainName y.cls = true) (how : y.cls = own) (hret : ret = some ty) (hav : ∀ P, (lg_sl (av P)).length ≤ n) (body : ∀ (P : PT) (G : GT), CX P G cc own k n → gl G = l → ∀ σ : SG, AW P G n (EN ty P G cc) (f σ) σ 0 (lv_args 0 (av P)) []) : CTI l k y cc n ret av f := by
  intro P σ r σ' hf
  subst how
  refine Met.ofW (cc := cc) (maxL := n) (ret := ret) hy rfl ?_
  intro p e s m args below meth c s₁ B hml hv
  obtain ⟨rfl, hR, hK⟩ := hv
  have hts := atoms_spec (ws := wY y cc n ret) B.pre
  have hown : s.vm.findClass y.cls = some m.cls := findClass_of_methodNamed B.named
  have hlocks := B.notSynchronized
  have hr := B.returns
  rw [lg_entry_eq]
  refine body P ((0, 0), p, l, e, rmk k, s, m, (av P).toArray, below, meth, c, _) ⟨B.exec, B.bytes, hml, hown, fun w hw => hts w (List.mem_cons_of_mem _ hw), hK, Nat.le_refl _, Nat.le_refl _, Nat.le_refl _, Nat.le_refl _⟩ rfl σ r σ' hf ?_ s.heap [] _ hR va_S.rf (lv_entry (av P) (hav P))
  intro hx H locs ls pc hR2 hS hd
  exact W.zret B.exec B.bytes (by rw [hr, hret]) hx (fun t ht hW => ⟨⟨r, (), rfl, rfl, by show RP P σ' t.heap; rw [ht]; exact hR2⟩, hS.F ht⟩) hS.2.2 hd hlocks
theorem aw_nret {ty : FieldType} {x : Int32} (d : decode cc pc = .ok (.ireturn, 1)) (hx : narrow ty (.int x) = .int x) : AW P G nL (EN ty P G cc) (some (x, σ)) σ pc lv [.int x] := by
  intro r σ' hX hE H locs ls hR hS hL
  cases hX
  exact hE hx H locs ls pc hR hS d
set_option maxRecDepth 100000 in
set_option maxHeartbeats 4000000 in
theorem c_bitCount (l : Launch) (x : Int32) : CTI l 0 yJ6_bitCount_0f7a4 cJ6_bitCount_0f7a4 1 (some .int) (fun P => [.int x]) (fun σ => some (bcn x, σ)) := by
  refine met_I rfl rfl rfl (fun P => Nat.le_of_ble_eq_true rfl) (fun P G K hg σ => ?_)
  change AW P G 1 (EI P G cJ6_bitCount_0f7a4) (some (bcn x, σ)) σ 0 [(0, .int x)] []
  refine aw_iload_n K 0 dJ6_bitCount_0f7a4_0 rfl ?_
  refine aw_iload_n K 0 dJ6_bitCount_0f7a4_1 rfl ?_
  refine aw_iconst K (x := 1) dJ6_bitCount_0f7a4_2 (by decide) ?_
  refine aw_iushr K dJ6_bitCount_0f7a4_3 ?_
  refine aw_ldcw K (x := 1431655765) dJ6_bitCount_0f7a4_4 (jn_r10 _ (List.mem_of_getElem? (i := 6) rfl)) ?_
  refine aw_iand K dJ6_bitCount_0f7a4_7 ?_
  refine aw_isub K dJ6_bitCount_0f7a4_8 ?_
  refine aw_istore_n K (i := 0) (lv' := [(0, .int (bcn0 x))]) dJ6_bitCount_0f7a4_9 rfl (Nat.le_of_ble_eq_true rfl) rfl ?_
  refine aw_iload_n K 0 dJ6_bitCount_0f7a4_10 rfl ?_
  refine aw_ldcw K (x := 858993459) dJ6_bitCount_0f7a4_11 (jn_r10 _ (List.mem_of_getElem? (i := 7) rfl)) ?_
  refine aw_iand K dJ6_bitCount_0f7a4_14 ?_
  refine aw_iload_n K 0 dJ6_bitCount_0f7a4_15 rfl ?_
  refine aw_iconst K (x := 2) dJ6_bitCount_0f7a4_16 (by decide) ?_
  refine aw_iushr K dJ6_bitCount_0f7a4_17 ?_
  refine aw_ldcw K (x := 858993459) dJ6_bitCount_0f7a4_18 (jn_r10 _ (List.mem_of_getElem? (i := 7) rfl)) ?_
  refine aw_iand K dJ6_bitCount_0f7a4_21 ?_
  refine aw_iadd K dJ6_bitCount_0f7a4_22 ?_
  refine aw_istore_n K (i := 0) (lv' := [(0, .int (bcn1 (bcn0 x)))]) dJ6_bitCount_0f7a4_23 rfl (Nat.le_of_ble_eq_true rfl) rfl ?_
  refine aw_iload_n K 0 dJ6_bitCount_0f7a4_24 rfl ?_
  refine aw_iload_n K 0 dJ6_bitCount_0f7a4_25 rfl ?_
  refine aw_iconst K (x := 4) dJ6_bitCount_0f7a4_26 (by decide) ?_
  refine aw_iushr K dJ6_bitCount_0f7a4_27 ?_
  refine aw_iadd K dJ6_bitCount_0f7a4_28 ?_
  refine aw_ldcw K (x := 252645135) dJ6_bitCount_0f7a4_29 (jn_r10 _ (List.mem_of_getElem? (i := 8) rfl)) ?_
  refine aw_iand K dJ6_bitCount_0f7a4_32 ?_
  refine aw_istore_n K (i := 0) (lv' := [(0, .int (bcn2 (bcn1 (bcn0 x))))]) dJ6_bitCount_0f7a4_33 rfl (Nat.le_of_ble_eq_true rfl) rfl ?_
  refine aw_iload_n K 0 dJ6_bitCount_0f7a4_34 rfl ?_
  refine aw_iload_n K 0 dJ6_bitCount_0f7a4_35 rfl ?_
  refine aw_bipush K (x := 8) dJ6_bitCount_0f7a4_36 (by decide) ?_
  refine aw_iushr K dJ6_bitCount_0f7a4_38 ?_
  refine aw_iadd K dJ6_bitCount_0f7a4_39 ?_
  refine aw_istore_n K (i := 0) (lv' := [(0, .int (bcn3 (bcn2 (bcn1 (bcn0 x)))))]) dJ6_bitCount_0f7a4_40 rfl (Nat.le_of_ble_eq_true rfl) rfl ?_
  refine aw_iload_n K 0 dJ6_bitCount_0f7a4_41 rfl ?_
  refine aw_iload_n K 0 dJ6_bitCount_0f7a4_42 rfl ?_
  refine aw_bipush K (x := 16) dJ6_bitCount_0f7a4_43 (by decide) ?_
  refine aw_iushr K dJ6_bitCount_0f7a4_45 ?_
  refine aw_iadd K dJ6_bitCount_0f7a4_46 ?_
  refine aw_istore_n K (i := 0) (lv' := [(0, .int (bcn4 (bcn3 (bcn2 (bcn1 (bcn0 x))))))]) dJ6_bitCount_0f7a4_47 rfl (Nat.le_of_ble_eq_true rfl) rfl ?_
  refine aw_iload_n K 0 dJ6_bitCount_0f7a4_48 rfl ?_
  refine aw_bipush K (x := 63) dJ6_bitCount_0f7a4_49 (by decide) ?_
  refine aw_iand K dJ6_bitCount_0f7a4_51 ?_
  exact aw_iret dJ6_bitCount_0f7a4_52
theorem aw_bitCount (K : CX P G cc own k nL) {l : Launch} {idx : Nat} {x : Int32} (d : decode cc pc = .ok (.invokestatic idx, 3)) (hw : Cond.methodLink own idx yJ6_bitCount_0f7a4 ∈ TBL) (hg : gl G = l) (hk : 1 ≤ k) (hr : (st.map fun v => v.category).sum ≤ 8) (n : AW P G nL E X σ (pc + 3) lv (.int (bcn x) :: st)) : AW P G nL E X σ pc lv (.int x :: st) := by
  have vw : VWS own idx yJ6_bitCount_0f7a4 cJ6_bitCount_0f7a4 1 (some .int) 1 := ⟨(jn_r10 _ (List.mem_of_getElem? (i := 5) rfl)), hw, (jn_r10 _ (List.mem_of_getElem? (i := 3) rfl)), (jn_r10 _ (List.mem_of_getElem? (i := 4) rfl)), by decide, ⟨by decide +kernel, by decide +kernel, by decide +kernel⟩⟩
  have q := aw_callSI (E := E) (rest := st) (lv := lv) (σ := σ) (Kf := fun _ _ => X) K d vw (c_bitCount l x) hg hk rfl hr rfl (F := some (bcn x, σ)) rfl (fun r σ' h => by cases h; exact n)
  exact q
set_option maxRecDepth 100000 in
set_option maxHeartbeats 4000000 in
theorem c_coder (l : Launch) {w : Nat} (hn : w < nS) : CTI l 0 yJ0_coder_7d493 cJ0_coder_7d493 1 (some .byte) (fun P => [.ref (pK P w)]) (fun σ => some ((0 : Int32), σ)) := by
  refine met_N rfl rfl rfl (fun P => Nat.le_of_ble_eq_true rfl) (fun P G K hg σ => ?_)
  change AW P G 1 (EN .byte P G cJ0_coder_7d493) (some ((0 : Int32), σ)) σ 0 [(0, .ref (pK P w))] []
  refine aw_getsZ K dJ0_coder_7d493_0 (jn_r20 _ (List.mem_of_getElem? (i := 16) rfl)) ?_
  rw [show (some ((0 : Int32), σ)) = (if (1 : Int32) = 0 then some ((0 : Int32), σ) else some ((0 : Int32), σ)) by rw [ite_self]]
  refine aw_if_eq K 13 dJ0_coder_7d493_3 (by decide) (fun h => absurd h (by decide)) (fun _ => ?_)
  refine aw_aload_n K 0 dJ0_coder_7d493_6 rfl ?_
  refine aw_getSC K hn dJ0_coder_7d493_7 (jn_r20 _ (List.mem_of_getElem? (i := 17) rfl)) ?_
  refine aw_goto K 14 dJ0_coder_7d493_10 (by decide) ?_
  exact aw_nret dJ0_coder_7d493_14 rfl
set_option maxRecDepth 100000 in
set_option maxHeartbeats 4000000 in
theorem c_slength (l : Launch) {w : Nat} (hn : w < nS) : CTI l 1 yJ0_length_8abf5 cJ0_length_8abf5 1 (some .int) (fun P => [.ref (pK P w)]) (fun σ => some (slen w, σ)) := by
  refine met_I rfl rfl rfl (fun P => Nat.le_of_ble_eq_true rfl) (fun P G K hg σ => ?_)
  change AW P G 1 (EI P G cJ0_length_8abf5) (some (slen w, σ)) σ 0 [(0, .ref (pK P w))] []
  refine aw_aload_n K 0 dJ0_length_8abf5_0 rfl ?_
  refine aw_getSV K hn dJ0_length_8abf5_1 (jn_r20 _ (List.mem_of_getElem? (i := 11) rfl)) ?_
  refine aw_lenSV K hn dJ0_length_8abf5_4 ?_
  refine aw_aload_n K 0 dJ0_length_8abf5_5 rfl ?_
  have z : slen w >>> ((0 : Int32) &&& 31) = slen w := sz_shr0 _
  refine aw_callJI (Kf := fun _ _ => some (slen w, σ)) (F := some ((0 : Int32), σ)) K dJ0_length_8abf5_6 hn rfl (jn_r20 _ (List.mem_of_getElem? (i := 15) rfl)) (jn_r20 _ (List.mem_of_getElem? (i := 12) rfl)) (jn_r20 _ (List.mem_of_getElem? (i := 13) rfl)) (jn_r20 _ (List.mem_of_getElem? (i := 14) rfl)) (jn_r20 _ (List.mem_of_getElem? (i := 9) rfl)) (by decide) (by decide +kernel) (c_coder l hn) hg (by decide) rfl (Nat.le_of_ble_eq_true rfl) rfl rfl (fun r σ2 h => ?_)
  cases h
  refine aw_ishr K dJ0_length_8abf5_9 ?_
  rw [z]
  exact aw_iret dJ0_length_8abf5_10
theorem aw_slength (K : CX P G cc own k nL) {l : Launch} {idx w : Nat} (d : decode cc pc = .ok (.invokevirtual idx, 3)) (hw : Cond.methodLink own idx yJ0_length_8abf5 ∈ TBL) (hg : gl G = l) (hk : 2 ≤ k) (hr : (st.map fun v => v.category).sum ≤ 8) (hn : w < nS) (n : AW P G nL E X σ (pc + 3) lv (.int (slen w) :: st)) : AW P G nL E X σ pc lv (.ref (pK P w) :: st) := by
  have q := aw_callJI (E := E) (rest := st) (lv := lv) (σ := σ) (Kf := fun _ _ => X) (F := some (slen w, σ)) K d hn rfl (jn_r20 _ (List.mem_of_getElem? (i := 10) rfl)) hw (jn_r20 _ (List.mem_of_getElem? (i := 7) rfl)) (jn_r20 _ (List.mem_of_getElem? (i := 8) rfl)) (jn_r20 _ (List.mem_of_getElem? (i := 9) rfl)) (by decide) (by decide +kernel) (c_slength l hn) hg hk rfl hr rfl rfl (fun r σ' h => by cases h; exact n)
  exact q
set_option maxRecDepth 100000 in
set_option maxHeartbeats 4000000 in
theorem c_isLatin1 (l : Launch) {w : Nat} (hn : w < nS) : CTI l 0 yJ0_isLatin1_aae02 cJ0_isLatin1_aae02 1 (some .boolean) (fun P => [.ref (pK P w)]) (fun σ => some ((1 : Int32), σ)) := by
  refine met_Z rfl rfl rfl (fun P => Nat.le_of_ble_eq_true rfl) (fun P G K hg σ => ?_)
  change AW P G 1 (EZ P G cJ0_isLatin1_aae02) (some ((1 : Int32), σ)) σ 0 [(0, .ref (pK P w))] []
  refine aw_getsZ K dJ0_isLatin1_aae02_0 (jn_r20 _ (List.mem_of_getElem? (i := 16) rfl)) ?_
  rw [show (some ((1 : Int32), σ)) = (if (1 : Int32) = 0 then some ((1 : Int32), σ) else some ((1 : Int32), σ)) by rw [ite_self]]
  refine aw_if_eq K 17 dJ0_isLatin1_aae02_3 (by decide) (fun h => absurd h (by decide)) (fun _ => ?_)
  refine aw_aload_n K 0 dJ0_isLatin1_aae02_6 rfl ?_
  refine aw_getSC K hn dJ0_isLatin1_aae02_7 (jn_r20 _ (List.mem_of_getElem? (i := 17) rfl)) ?_
  rw [show (some ((1 : Int32), σ)) = (if ¬ (0 : Int32) = 0 then some ((1 : Int32), σ) else some ((1 : Int32), σ)) by rw [ite_self]]
  refine aw_if_ne K 17 dJ0_isLatin1_aae02_10 (by decide) (fun h => absurd rfl h) (fun _ => ?_)
  refine aw_iconst K (x := 1) dJ0_isLatin1_aae02_13 (by decide) ?_
  refine aw_goto K 18 dJ0_isLatin1_aae02_14 (by decide) ?_
  exact aw_zret dJ0_isLatin1_aae02_18 (by decide)
set_option maxRecDepth 100000 in
set_option maxHeartbeats 4000000 in
theorem c_preIndex (l : Launch) {i m : Int32} {v : Value} (hv : v = .null ∨ ∃ t, v = .ref t) (h0 : ¬ i < 0) (h1 : i < m) : CTI l 0 yJ3_checkIndex_8e157 cJ3_checkIndex_8e157 3 (some .int) (fun P => [.int i, .int m, v]) (fun σ => some (i, σ)) := by
  have hc : v.category = 1 := by rcases hv with rfl | ⟨t, rfl⟩ <;> rfl
  refine met_I rfl rfl rfl (fun P => by rcases hv with rfl | ⟨t, rfl⟩ <;> exact Nat.le_of_ble_eq_true rfl) (fun P G K hg σ => ?_)
  change AW P G 3 (EI P G cJ3_checkIndex_8e157) (some (i, σ)) σ 0 [(0, .int i), (1, .int m), (2, v)] []
  refine aw_iload_n K 0 dJ3_checkIndex_8e157_0 rfl ?_
  rw [show (some (i, σ)) = (if i < 0 then some (i, σ) else some (i, σ)) by rw [ite_self]]
  refine aw_if_lt K 9 dJ3_checkIndex_8e157_1 (by decide) (fun h => absurd h h0) (fun _ => ?_)
  refine aw_iload_n K 0 dJ3_checkIndex_8e157_4 rfl ?_
  refine aw_iload_n K 1 dJ3_checkIndex_8e157_5 rfl ?_
  rw [show (some (i, σ)) = (if i < m then some (i, σ) else some (i, σ)) by rw [ite_self]]
  refine aw_icmp_lt K 16 dJ3_checkIndex_8e157_6 (by decide) (fun _ => ?_) (fun h => absurd h1 h)
  refine aw_iload_n K 0 dJ3_checkIndex_8e157_16 rfl ?_
  exact aw_iret dJ3_checkIndex_8e157_17
set_option maxRecDepth 100000 in
set_option maxHeartbeats 4000000 in
theorem c_chkIndex (l : Launch) {i m : Int32} (h0 : ¬ i < 0) (h1 : i < m) : CTV l 1 yJ0_checkIndex_df160 cJ0_checkIndex_df160 2 none (fun P => [.int i, .int m]) (fun σ => some ((), σ)) := by
  refine met_V rfl rfl rfl (fun P => Nat.le_of_ble_eq_true rfl) (fun P G K hg σ => ?_)
  change AW P G 2 (EV P G cJ0_checkIndex_df160) (some ((), σ)) σ 0 [(0, .int i), (1, .int m)] []
  refine aw_iload_n K 0 dJ0_checkIndex_df160_0 rfl ?_
  refine aw_iload_n K 1 dJ0_checkIndex_df160_1 rfl ?_
  refine aw_getsF K dJ0_checkIndex_df160_2 (jn_r21 _ (List.mem_of_getElem? (i := 9) rfl)) (fun v hv => ?_)
  have vw : VWS "java/lang/String" 1059 yJ3_checkIndex_8e157 cJ3_checkIndex_8e157 3 (some .int) 3 := ⟨(jn_r21 _ (List.mem_of_getElem? (i := 13) rfl)), (jn_r21 _ (List.mem_of_getElem? (i := 10) rfl)), (jn_r21 _ (List.mem_of_getElem? (i := 11) rfl)), (jn_r21 _ (List.mem_of_getElem? (i := 12) rfl)), by decide, ⟨by decide +kernel, by decide +kernel, by decide +kernel⟩⟩
  refine aw_callSI (Kf := fun _ _ => some ((), σ)) (F := some (i, σ)) K dJ0_checkIndex_df160_5 vw (c_preIndex l hv h0 h1) hg (by decide) rfl (Nat.le_of_ble_eq_true rfl) rfl rfl (fun r σ2 h => ?_)
  cases h
  refine aw_pop K dJ0_checkIndex_df160_8 rfl ?_
  exact aw_vret dJ0_checkIndex_df160_9
theorem sc_chr_ok : ∀ w, w < nS → ∀ j, j < slenN w → ((schr w j &&& 255).toUInt32 % 65536).toInt32 = schr w j ∧ narrow .char (.int (schr w j)) = .int (schr w j) := by decide +kernel
theorem sc_len_ok : ∀ w, w < nS → (Int32.ofNat (slenN w)).toInt = (slenN w : Int) := by decide +kernel
theorem sc_ix_lt {w : Nat} {i : Int32} (hn : w < nS) (h : ix i (slenN w)) : i < slen w := by
  have e := sc_len_ok w hn
  have a : ¬ i.toInt < 0 := fun z => h (Or.inl (Int32.lt_iff_toInt_lt.mpr z))
  have b : i.toNatClampNeg < slenN w := ix_lt h
  have b2 : i.toInt.toNat < slenN w := b
  rw [Int32.lt_iff_toInt_lt]
  show i.toInt < (Int32.ofNat (slenN w)).toInt
  rw [e]
  omega
set_option maxRecDepth 100000 in
set_option maxHeartbeats 4000000 in
theorem c_latAt (l : Launch) {w : Nat} {i : Int32} (hn : w < nS) (hi : ix i (slenN w)) : CTI l 2 yJ1_charAt_3b067 cJ1_charAt_3b067 2 (some .char) (fun P => [.ref (pV P w), .int i]) (fun σ => some (schr w (nx i), σ)) := by
  refine met_N rfl rfl rfl (fun P => Nat.le_of_ble_eq_true rfl) (fun P G K hg σ => ?_)
  change AW P G 2 (EN .char P G cJ1_charAt_3b067) (some (schr w (nx i), σ)) σ 0 [(0, .ref (pV P w)), (1, .int i)] []
  refine aw_iload_n K 1 dJ1_charAt_3b067_0 rfl ?_
  refine aw_aload_n K 0 dJ1_charAt_3b067_1 rfl ?_
  refine aw_lenSV K hn dJ1_charAt_3b067_2 ?_
  have vw : VWS "java/lang/StringLatin1" 9 yJ0_checkIndex_df160 cJ0_checkIndex_df160 2 none 2 := ⟨(jn_r21 _ (List.mem_of_getElem? (i := 8) rfl)), (jn_r21 _ (List.mem_of_getElem? (i := 6) rfl)), (jn_r21 _ (List.mem_of_getElem? (i := 7) rfl)), (jn_r20 _ (List.mem_of_getElem? (i := 9) rfl)), by decide, ⟨by decide +kernel, by decide +kernel, by decide +kernel⟩⟩
  refine aw_callSV (Kf := fun _ _ => some (schr w (nx i), σ)) (F := some ((), σ)) K dJ1_charAt_3b067_3 vw (c_chkIndex l (fun z => hi (Or.inl z)) (sc_ix_lt hn hi)) hg (by decide) rfl (Nat.le_of_ble_eq_true rfl) rfl rfl (fun r σ2 h => ?_)
  cases h
  refine aw_aload_n K 0 dJ1_charAt_3b067_6 rfl ?_
  refine aw_iload_n K 1 dJ1_charAt_3b067_7 rfl ?_
  refine aw_ldSV K hn hi dJ1_charAt_3b067_8 ?_
  refine aw_sipush K (x := 255) dJ1_charAt_3b067_9 (by decide) ?_
  refine aw_iand K dJ1_charAt_3b067_12 ?_
  refine aw_i2c K dJ1_charAt_3b067_13 (sc_chr_ok w hn _ (ix_lt hi)).1 ?_
  exact aw_nret dJ1_charAt_3b067_14 (sc_chr_ok w hn _ (ix_lt hi)).2
set_option maxRecDepth 100000 in
set_option maxHeartbeats 4000000 in
theorem c_scharAt (l : Launch) {w : Nat} {i : Int32} (hn : w < nS) (hi : ix i (slenN w)) : CTI l 3 yJ0_charAt_5068e cJ0_charAt_5068e 2 (some .char) (fun P => [.ref (pK P w), .int i]) (fun σ => some (schr w (nx i), σ)) := by
  refine met_N rfl rfl rfl (fun P => Nat.le_of_ble_eq_true rfl) (fun P G K hg σ => ?_)
  change AW P G 2 (EN .char P G cJ0_charAt_5068e) (some (schr w (nx i), σ)) σ 0 [(0, .ref (pK P w)), (1, .int i)] []
  refine aw_aload_n K 0 dJ0_charAt_5068e_0 rfl ?_
  refine aw_callJI (Kf := fun _ _ => some (schr w (nx i), σ)) (F := some ((1 : Int32), σ)) K dJ0_charAt_5068e_1 hn rfl (jn_r21 _ (List.mem_of_getElem? (i := 1) rfl)) (jn_r20 _ (List.mem_of_getElem? (i := 22) rfl)) (jn_r20 _ (List.mem_of_getElem? (i := 23) rfl)) (jn_r21 _ (List.mem_of_getElem? (i := 0) rfl)) (jn_r20 _ (List.mem_of_getElem? (i := 9) rfl)) (by decide) (by decide +kernel) (c_isLatin1 l hn) hg (by decide) rfl (Nat.le_of_ble_eq_true rfl) rfl rfl (fun r σ2 h => ?_)
  cases h
  rw [show (some (schr w (nx i), σ)) = (if (1 : Int32) = 0 then some (schr w (nx i), σ) else some (schr w (nx i), σ)) by rw [ite_self]]
  refine aw_if_eq K 16 dJ0_charAt_5068e_4 (by decide) (fun h => absurd h (by decide)) (fun _ => ?_)
  refine aw_aload_n K 0 dJ0_charAt_5068e_7 rfl ?_
  refine aw_getSV K hn dJ0_charAt_5068e_8 (jn_r20 _ (List.mem_of_getElem? (i := 11) rfl)) ?_
  refine aw_iload_n K 1 dJ0_charAt_5068e_11 rfl ?_
  have vw : VWS "java/lang/String" 495 yJ1_charAt_3b067 cJ1_charAt_3b067 2 (some .char) 2 := ⟨(jn_r21 _ (List.mem_of_getElem? (i := 5) rfl)), (jn_r21 _ (List.mem_of_getElem? (i := 2) rfl)), (jn_r21 _ (List.mem_of_getElem? (i := 3) rfl)), (jn_r21 _ (List.mem_of_getElem? (i := 4) rfl)), by decide, ⟨by decide +kernel, by decide +kernel, by decide +kernel⟩⟩
  refine aw_callSI (Kf := fun _ _ => some (schr w (nx i), σ)) (F := some (schr w (nx i), σ)) K dJ0_charAt_5068e_12 vw (c_latAt l hn hi) hg (by decide) rfl (Nat.le_of_ble_eq_true rfl) rfl rfl (fun r σ2 h => ?_)
  cases h
  exact aw_nret dJ0_charAt_5068e_15 (sc_chr_ok w hn _ (ix_lt hi)).2
theorem aw_scharAt (K : CX P G cc own k nL) {l : Launch} {idx w : Nat} {i : Int32} (d : decode cc pc = .ok (.invokevirtual idx, 3)) (hw : Cond.methodLink own idx yJ0_charAt_5068e ∈ TBL) (hg : gl G = l) (hk : 5 ≤ k) (hr : (st.map fun v => v.category).sum ≤ 8) (hn : w < nS ∧ ix i (slenN w)) (n : AW P G nL E X σ (pc + 3) lv (.int (schr w (nx i)) :: st)) : AW P G nL E X σ pc lv (.int i :: .ref (pK P w) :: st) := by
  have q := aw_callJI (np := 1) (E := E) (rest := st) (lv := lv) (σ := σ) (Kf := fun _ _ => X) (F := some (schr w (nx i), σ)) K d hn.1 rfl (jn_r20 _ (List.mem_of_getElem? (i := 21) rfl)) hw (jn_r20 _ (List.mem_of_getElem? (i := 19) rfl)) (jn_r20 _ (List.mem_of_getElem? (i := 20) rfl)) (jn_r20 _ (List.mem_of_getElem? (i := 9) rfl)) (by decide) (by decide +kernel) (c_scharAt l hn.1 hn.2) hg (Nat.le_trans (by decide) hk) rfl hr rfl rfl (fun r σ' h => by cases h; exact n)
  exact q
/-- what is filled up to a place -/
theorem flI_step {σ : SG} {c : Nat} {v : Int32} (j : Nat) : uI (flI σ c j v) c j v = flI σ c (j + 1) v := by
  unfold uI flI
  refine Prod.ext (funext fun c' => funext fun i => ?_) rfl
  dsimp only
  by_cases h : c' = c
  · by_cases h2 : i = j
    · rw [if_pos ⟨h, h2⟩, if_pos ⟨h, by omega⟩]
    · rw [if_neg (fun z => h2 z.2)]
      by_cases h3 : i < j
      · rw [if_pos ⟨h, h3⟩, if_pos ⟨h, by omega⟩]
      · rw [if_neg (fun z => h3 z.2), if_neg (fun z => h3 (by omega))]
  · rw [if_neg (fun z => h z.1), if_neg (fun z => h z.1), if_neg (fun z => h z.1)]
theorem flI_0 {σ : SG} {c : Nat} {v : Int32} : flI σ c 0 v = σ := by
  unfold flI
  refine Prod.ext (funext fun c' => funext fun i => ?_) rfl
  exact if_neg (fun z => absurd z.2 (Nat.not_lt_zero _))
set_option maxRecDepth 100000 in
set_option maxHeartbeats 4000000 in
theorem a_fill (l : Launch) {c m : Nat} (ha : AD c 0 m 0) (hm : m < 2 ^ 31) {v : Int32} {P : PT} {G : GT} (K : CX P G cJ7_fill_53178 "java/util/Arrays" 0 4) {σ : SG} : ∀ (n j : Nat), j + n = m → AW P G 4 (EV P G cJ7_fill_53178) (some ((), flI σ c m v)) (flI σ c j v) 5 [(3, .int (nI m)), (2, .int (nI j)), (0, rf P c), (1, .int v)] [] := by
  intro n
  induction n with
  | zero =>
    intro j hj
    have e : j = m := by omega
    subst e
    refine aw_iload_n K 1 dJ7_fill_53178_5 rfl ?_
    refine aw_iload_n K 0 dJ7_fill_53178_6 rfl ?_
    rw [show (some ((), flI σ c j v)) = (if nI j ≤ nI j then some ((), flI σ c j v) else some ((), flI σ c j v)) by rw [ite_self]]
    refine aw_icmp_ge K 20 dJ7_fill_53178_7 (by decide) (fun _ => ?_) (fun h => absurd (Int32.le_refl _) h)
    exact aw_vret dJ7_fill_53178_20
  | succ n ih =>
    intro j hj
    refine aw_iload_n K 1 dJ7_fill_53178_5 rfl ?_
    refine aw_iload_n K 0 dJ7_fill_53178_6 rfl ?_
    have hlt : ¬ nI m ≤ nI j := nI_ge (by omega) hm
    rw [show (some ((), flI σ c m v)) = (if nI m ≤ nI j then some ((), flI σ c m v) else sx (uI (flI σ c j v) c (nx (nI j)) v) (fun _ => some ((), flI σ c m v))) by rw [if_neg hlt]; rfl]
    refine aw_icmp_ge K 20 dJ7_fill_53178_7 (by decide) (fun h => absurd h hlt) (fun _ => ?_)
    refine aw_aload_n K 2 dJ7_fill_53178_10 rfl ?_
    refine aw_iload_n K 1 dJ7_fill_53178_11 rfl ?_
    refine aw_iload_n K 3 dJ7_fill_53178_12 rfl ?_
    have hx : ix (nI j) m := vp_in_nI (by omega) (by omega)
    have hq : nx (nI j) = j := nI_clamp (by omega)
    refine aw_astE K dJ7_fill_53178_13 ha hx hq ?_
    rw [flI_step]
    refine aw_iincE K (lv' := [(2, .int (nI (j + 1))), (3, .int (nI m)), (0, rf P c), (1, .int v)]) 1 dJ7_fill_53178_14 rfl (nI_succ j).symm (Nat.le_of_ble_eq_true rfl) rfl ?_
    refine aw_goto K 5 dJ7_fill_53178_17 (by decide) ?_
    refine aw_lv [1, 0, 2, 3] rfl ?_
    exact ih (j + 1) (by omega)
theorem ad_lt {c m : Nat} (ha : AD c 0 m 0) : m < 2 ^ 31 := by
  have h : ∀ c, c < MM → (match lay c with | .inr (_, n, _) => n | _ => 0) ≤ 4096 := by decide +kernel
  have h2 := h c ha.1
  rw [ha.2] at h2
  have h3 : m ≤ 4096 := h2
  omega
set_option maxRecDepth 100000 in
set_option maxHeartbeats 4000000 in
theorem c_fill (l : Launch) {c m : Nat} (ha : AD c 0 m 0) (v : Int32) : CTV l 0 yJ7_fill_53178 cJ7_fill_53178 4 none (fun P => [rf P c, .int v]) (fun σ => some ((), flI σ c m v)) := by
  refine met_V rfl rfl rfl (fun P => Nat.le_of_ble_eq_true rfl) (fun P G K hg σ => ?_)
  change AW P G 4 (EV P G cJ7_fill_53178) (some ((), flI σ c m v)) σ 0 [(0, rf P c), (1, .int v)] []
  refine aw_iconst K (x := 0) dJ7_fill_53178_0 (by decide) ?_
  refine aw_istore_n K (i := 2) (lv' := [(2, .int 0), (0, rf P c), (1, .int v)]) dJ7_fill_53178_1 rfl (Nat.le_of_ble_eq_true rfl) rfl ?_
  refine aw_aload_n K 1 dJ7_fill_53178_2 rfl ?_
  refine aw_alen (v := nI m) K dJ7_fill_53178_3 ha (by decide) rfl ?_
  refine aw_istore_n K (i := 3) (lv' := [(3, .int (nI m)), (2, .int 0), (0, rf P c), (1, .int v)]) dJ7_fill_53178_4 rfl (Nat.le_of_ble_eq_true rfl) rfl ?_
  have q := a_fill l ha (ad_lt ha) (v := v) K (σ := σ) m 0 (by omega)
  rw [flI_0] at q
  exact q
theorem aw_fill (K : CX P G cc own k nL) {l : Launch} {idx c m : Nat} {x : Int32} {Kf : SG → Option (ρ × SG)} (d : decode cc pc = .ok (.invokestatic idx, 3)) (hw : Cond.methodLink own idx yJ7_fill_53178 ∈ TBL) (hg : gl G = l) (hk : 1 ≤ k) (hr : (st.map fun v => v.category).sum ≤ 8) (ha : AD c 0 m 0) (n : ∀ σ', AW P G nL E (Kf σ') σ' (pc + 3) lv st) : AW P G nL E (sx (flI σ c m x) Kf) σ pc lv (.int x :: rf P c :: st) := by
  have vw : VWS own idx yJ7_fill_53178 cJ7_fill_53178 4 none 2 := ⟨(jn_r51 _ (List.mem_of_getElem? (i := 22) rfl)), hw, (jn_r51 _ (List.mem_of_getElem? (i := 20) rfl)), (jn_r51 _ (List.mem_of_getElem? (i := 21) rfl)), by decide, ⟨by decide +kernel, by decide +kernel, by decide +kernel⟩⟩
  have q := aw_callSV (E := E) (rest := st) (lv := lv) (σ := σ) (Kf := fun _ σ' => Kf σ') K d vw (c_fill l ha x) hg hk rfl hr rfl (F := some ((), flI σ c m x)) rfl (fun r σ' _ => n σ')
  exact q
theorem cy_sub {vm : Vm} {a b : ClassId} {k : Class} (hk : vm.classes[a]? = some k) (hs : k.super = some b) : vm.isSubclass a b = true := by
  have h0 : a < vm.classes.size := (Array.getElem?_eq_some_iff.mp hk).1
  unfold Vm.isSubclass
  obtain ⟨q, hq⟩ : ∃ q, vm.classes.size = q + 1 := ⟨vm.classes.size - 1, (Nat.succ_pred_eq_of_pos (Nat.lt_of_le_of_lt (Nat.zero_le _) h0)).symm⟩
  rw [hq]
  simp [Vm.isSubclassAux, hk, hs]
def VWY (own : String) (idx ci : Nat) (sup : String) (y : MethodName) (cy : ByteArray) (n : Nat) (ret : Option FieldType) (np : Nat) : Prop := ∃ (C : String) (T : u_T) (N : Nat), vwCl[ci]? = some (C, T, N) ∧ Cond.code y cy n ret ∈ TBL ∧ Cond.methodLink own idx ⟨sup, y.name, y.desc⟩ ∈ TBL ∧ Cond.sameMethod sup y.cls y.name y.desc ∈ TBL ∧ Cond.superclass own sup ∈ TBL ∧ Cond.superclass sup y.cls ∈ TBL ∧ Cond.instanceMethod y ∈ TBL ∧ Cond.initialized y.cls ∈ TBL ∧ n ≤ 81 ∧ (y.name ≠ "<init>" ∧ (parseMethodDescriptor y.desc).map (fun d => d.parameters.length) = some np)
theorem aw_callYI (K : CX P G cc own k nL) {l : Launch} {idx np n2 k2 c ci : Nat} {sup : String} {y : MethodName} {cy : ByteArray} {ret : Option FieldType} {As : PT → List Value} {rest : List Value} {f : SG → Option (Int32 × SG)} {F : Option (Int32 × SG)} {Kf : Int32 → SG → Option (ρ × SG)} (d : decode cc pc = .ok (.invokespecial idx, 3)) (vw : VWY own idx ci sup y cy n2 ret np) (hM : CTI l k2 y cy n2 ret (fun P => rf P c :: As P) f) (hl : gl G = l) (hk : k2 + 1 ≤ k) (hc : c < MM ∧ ∃ fs, lay c = .inl (ci, fs)) (hn : (As P).length = np) (hr : (rest.map fun v => v.category).sum ≤ 8) (hst : st = (As P).reverse ++ rf P c :: rest) (hF : F = f σ) (n : ∀ r σ', F = some (r, σ') → AW P G nL E (Kf r σ') σ' (pc + 3) lv (.int r :: rest)) : AW P G nL E (bnd F Kf) σ pc lv st := by
  intro r0 σ0 hX hE H locs ls hR hS hL
  subst hst
  subst hl
  subst hF
  cases hf : f σ with
  | none => rw [hf] at hX; cases hX
  | some q =>
    obtain ⟨r1, σ1⟩ := q
    rw [hf] at hX
    obtain ⟨C, T, N, v1, v3, v4, v5, v6, v6b, v7, v7b, v8, v9, v10⟩ := vw
    have hG := wY_good (z := y) (ws := []) v3 (by simp)
    have hw : ∀ w, w ∈ TBL → w.before (ga G) (gs G) = true := fun w h => K.2.2.2.2.1 w h
    have hroom := cx_room K hk v8
    have hBk : Back (gl G) (gR G) (gp G) (ge G) (gb G) (gs G) (ga G) y 3 8 (PreOf (gR G) 0 0 (va_Pc (rf P c :: As P) (PRE P σ))) (PostOf (va_Qi (fun (r' : Int32) (_ : Unit) => r' = r1) (fun _ t => RP P σ1 t.heap) (AA P)) 0 0 (AA P)) :=
      back_of (bytes := cy) (maxL := n2) (ret := ret) (hM P σ r1 σ1 hf) pre_blind rfl rfl hroom.1 hroom.2 (pay_in K.2.2.2.2.1 (fun w h => hG w (by simpa using h))) List.mem_cons_self (fun a' U hW => word_at hW (Or.inl (by first | rfl | simp [Cond.onTables, Cond.keeps, Cond.steady])) (hw _ v7b))
    obtain ⟨mk, methM, hnamed, hmethM, hstM, habM⟩ := Cond.instanceMethod_spec (hw _ v7)
    obtain ⟨methM', cM, hmethM', -, -, -, -, -, -, hsigM⟩ := Cond.code_spec hnamed (hw _ v3)
    cases hmethM.symm.trans hmethM'
    obtain ⟨ps, dk, kp, hps, hdk, hkp, hsuper, -, -, hnid⟩ := Cond.superclass_spec K.2.2.2.1 (hw _ v6)
    obtain ⟨ps2, dk2, kp2, hps2, hdk2, hkp2, hsuper2, -, -, -⟩ := Cond.superclass_spec hps (hw _ v6b)
    have hn0 : (gs G).methodNamed? ⟨y.cls, y.name, y.desc⟩ = some mk := hnamed
    have hpm : ps2 = mk.cls := Option.some.inj (hps2.symm.trans (findClass_of_methodNamed hnamed))
    have hsub : (gs G).vm.isSubclass ps mk.cls = true := by rw [← hpm]; exact cy_sub hdk2 hsuper2
    obtain ⟨cellB, hcB, hoB, hclB⟩ := rp_recv K hR hc.1 hc.2 v1
    obtain ⟨hfc, kB, hkB, -⟩ := (K.2.2.2.2.2.1.1.1 ci _ v1).2
    have ecl := Option.some.inj (hfc.symm.trans hclB)
    rw [ecl] at hkB
    have hrun : va_Run (gp G) (gl G) (ge G) (gR G) (gs G) (gm G) (ga G) (gb G) (gt G) (gc G) H locs (gn G).1 (gn G).2 0 0 (F0 (gm G) pc ls ((As P).reverse ++ rf P c :: rest)) rest (va_Qi (fun (r' : Int32) (_ : Unit) => r' = r1) (fun _ t => RP P σ1 t.heap) (AA P) (rf P c :: As P).toArray) (AA P) := by
      intro T0 hT0 X0
      obtain ⟨vm₁, X₁, hstep₁⟩ := X0.invokespecialUp K.1 K.2.2.2.1 (hw _ v4) (hw _ v5) hn0 hmethM hstM habM v9 hdk hnid hps hsuper hsub (a := pb P + c) (cell := cellB) (by rw [hT0]; exact hcB)
        (fun z h => by rw [h] at hoB; cases hoB) hkB (g := F0 (gm G) pc ls ((As P).reverse ++ rf P c :: rest)) rfl (argsL := As P) (rest := rest) (by rw [hn]; have h2 := v10; rw [hsigM] at h2; exact (Option.some.inj h2).symm) rfl (by rw [K.2.1]; exact d)
      obtain ⟨v, ⟨U', l2, c2, s2⟩, X', ⟨g', mk', t, L, e1, e2, hq, h1, hL2, h2, h3⟩, st⟩ := hBk (gm G) (gt G) (gc G) ⟨T0.setVm vm₁, locs, (gn G).1, (gn G).2⟩ (F0 (gm G) pc ls rest) (.invokespecial idx) mk (Value.ref (pb P + c) :: As P).toArray X₁ rfl (hL.1.trans K.2.2.1.symm) (by rw [K.2.1]; exact d) (lv_room hr) (X₁.named hnamed) ⟨(cx_free K).1, (cx_free K).2, ⟨rfl, pre_at K hR hS hT0 X₁.warmed⟩⟩
      dsimp only [Pt.U, Pt.locs, Pt.cells, Pt.slots] at X' e1 e2 h1 h2 h3 st
      subst h1; subst h2; subst h3
      exact ⟨v, (T0.setVm vm₁).calling g' mk' (Value.ref (pb P + c) :: As P).toArray, t, U', L, hT0, X', hL2, e1, e2, hq, fun target h => hstep₁ _ (by rw [doInvoke_state]; exact st.trans h)⟩
    refine va_calli hrun hS (fun _ _ h => h) (fun _ h => h) (fun r u t H1 locs1 ht _ hw hBt _ _ hS1 => ?_)
    subst hw
    subst ht
    exact n _ σ1 hf r0 σ0 hX hE _ _ ls hBt hS1 hL
end AWB
