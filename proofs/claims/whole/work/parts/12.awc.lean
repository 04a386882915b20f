/-! CONTRACTS: a function of the memory, and the method that it is -/
def PRE (P : PT) (σ : SG) (U : State) : Prop := RP P σ U.heap ∧ KK P U U.heap
def CTI (l : Launch) (k : Nat) (y : MethodName) (cc : ByteArray) (n : Nat) (ret : Option FieldType) (av : PT → List Value) (f : SG → Option (Int32 × SG)) : Prop :=
  ∀ (P : PT) (σ : SG) (r : Int32) (σ' : SG), f σ = some (r, σ') → Met l y (wY y cc n ret) (rmk k) (va_Pc (av P) (PRE P σ)) (va_Qi (fun (r' : Int32) (_ : Unit) => r' = r) (fun _ t => RP P σ' t.heap) (AA P)) 0 0 (AA P)
def CTL (l : Launch) (k : Nat) (y : MethodName) (cc : ByteArray) (n : Nat) (ret : Option FieldType) (av : PT → List Value) (f : SG → Option (Int64 × SG)) : Prop :=
  ∀ (P : PT) (σ : SG) (r : Int64) (σ' : SG), f σ = some (r, σ') → Met l y (wY y cc n ret) (rmk k) (va_Pc (av P) (PRE P σ)) (va_Ql (fun (r' : Int64) (_ : Unit) => r' = r) (fun _ t => RP P σ' t.heap) (AA P)) 0 0 (AA P)
def CTV (l : Launch) (k : Nat) (y : MethodName) (cc : ByteArray) (n : Nat) (ret : Option FieldType) (av : PT → List Value) (f : SG → Option (Unit × SG)) : Prop :=
  ∀ (P : PT) (σ : SG) (r : Unit) (σ' : SG), f σ = some (r, σ') → Met l y (wY y cc n ret) (rmk k) (va_Pc (av P) (PRE P σ)) (va_Qv (fun (_ : Unit) => True) (fun _ t => RP P σ' t.heap) (AA P)) 0 0 (AA P)
def CTS (l : Launch) (k : Nat) (y : MethodName) (cc : ByteArray) (n : Nat) (ret : Option FieldType) (av : PT → List Value) (f : SG → Option (Nat × SG)) : Prop :=
  ∀ (P : PT) (σ : SG) (r : Nat) (σ' : SG), f σ = some (r, σ') → Met l y (wY y cc n ret) (rmk k) (va_Pc (av P) (PRE P σ)) (va_Qr (fun (_ : Unit) => True) (fun _ a t => a = pK P r ∧ RP P σ' t.heap) (AA P)) 0 0 (AA P)
/-! how a method ends -/
def EI (P : PT) (G : GT) (cc : ByteArray) (r : Int32) (σ' : SG) : Prop := ∀ (H : Heap) (locs : List Loc) (ls : Array Slot) (pc : Nat), RP P σ' H → va_S (AA P) (gs G).heap H locs → decode cc pc = .ok (.ireturn, 1) → WG G H locs (F0 (gm G) pc ls [.int r])
def EZ (P : PT) (G : GT) (cc : ByteArray) (r : Int32) (σ' : SG) : Prop := (r = 0 ∨ r = 1) → EI P G cc r σ'
def EL (P : PT) (G : GT) (cc : ByteArray) (r : Int64) (σ' : SG) : Prop := ∀ (H : Heap) (locs : List Loc) (ls : Array Slot) (pc : Nat), RP P σ' H → va_S (AA P) (gs G).heap H locs → decode cc pc = .ok (.lreturn, 1) → WG G H locs (F0 (gm G) pc ls [.long r])
def EV (P : PT) (G : GT) (cc : ByteArray) (_ : Unit) (σ' : SG) : Prop := ∀ (H : Heap) (locs : List Loc) (ls : Array Slot) (pc : Nat), RP P σ' H → va_S (AA P) (gs G).heap H locs → decode cc pc = .ok (.return_, 1) → WG G H locs (F0 (gm G) pc ls [])
def ES (P : PT) (G : GT) (cc : ByteArray) (r : Nat) (σ' : SG) : Prop := ∀ (H : Heap) (locs : List Loc) (ls : Array Slot) (pc : Nat), RP P σ' H → va_S (AA P) (gs G).heap H locs → decode cc pc = .ok (.areturn, 1) → WG G H locs (F0 (gm G) pc ls [.ref (pK P r)])
section AWC
variable {ρ : Type} {P : PT} {G : GT} {cc : ByteArray} {own : String} {k nL : Nat} {E : ρ → SG → Prop} {X Y : Option (ρ × SG)} {σ : SG} {pc pc' : Nat} {lv : List (Nat × Value)} {st st' : List Value}
theorem aw_iret {x : Int32} (d : decode cc pc = .ok (.ireturn, 1)) : AW P G nL (EI P G cc) (some (x, σ)) σ pc lv [.int x] := by
  intro r σ' hX hE H locs ls hR hS hL
  cases hX
  exact hE H locs ls pc hR hS d
theorem aw_zret {x : Int32} (d : decode cc pc = .ok (.ireturn, 1)) (hx : x = 0 ∨ x = 1) : AW P G nL (EZ P G cc) (some (x, σ)) σ pc lv [.int x] := by
  intro r σ' hX hE H locs ls hR hS hL
  cases hX
  exact hE hx H locs ls pc hR hS d
theorem aw_lret {x : Int64} (d : decode cc pc = .ok (.lreturn, 1)) : AW P G nL (EL P G cc) (some (x, σ)) σ pc lv [.long x] := by
  intro r σ' hX hE H locs ls hR hS hL
  cases hX
  exact hE H locs ls pc hR hS d
theorem aw_vret (d : decode cc pc = .ok (.return_, 1)) : AW P G nL (EV P G cc) (some ((), σ)) σ pc lv [] := by
  intro r σ' hX hE H locs ls hR hS hL
  cases hX
  exact hE H locs ls pc hR hS d
theorem aw_sret {x : Nat} (d : decode cc pc = .ok (.areturn, 1)) : AW P G nL (ES P G cc) (some (x, σ)) σ pc lv [.ref (pK P x)] := by
  intro r σ' hX hE H locs ls hR hS hL
  cases hX
  exact hE H locs ls pc hR hS d
theorem met_I {l : Launch} {y : MethodName} {n : Nat} {own : String} {ret : Option FieldType} {av : PT → List Value} {f : SG → Option (Int32 × SG)} (hy : plainName y.cls = true) (how : y.cls = own) (hret : ret = some .int) (hav : ∀ P, (lg_sl (av P)).length ≤ n) (body : ∀ (P : PT) (G : GT), CX P G cc own k n → gl G = l → ∀ σ : SG, AW P G n (EI P G cc) (f σ) σ 0 (lv_args 0 (av P)) []) : CTI l k y cc n ret av f := by
  intro P σ r σ' hf
  subst how
  refine Met.ofW (cc := cc) (maxL := n) (ret := ret) hy rfl ?_
  intro p e s m args below meth c s₁ B hml hv
  obtain ⟨rfl, hR, hK⟩ := hv
  have hts := atoms_spec (ws := wY y cc n ret) B.pre
  have hown : s.vm.findClass y.cls = some m.cls := findClass_of_methodNamed B.named
  have hlocks := B.notSynchronized
  have hr := B.returns
  rw [lg_entry_eq]
  refine body P ((0, 0), p, l, e, rmk k, s, m, (av P).toArray, below, meth, c, _) ⟨B.exec, B.bytes, hml, hown, fun w hw => hts w (List.mem_cons_of_mem _ hw), hK, Nat.le_refl _, Nat.le_refl _, Nat.le_refl _, Nat.le_refl _⟩ rfl σ r σ' hf ?_ s.heap [] _ hR va_S.rf (lv_entry (av P) (hav P))
  intro H locs ls pc hR2 hS hd
  exact W.iret B.exec B.bytes (by rw [hr, hret]) (fun t ht hW => ⟨⟨r, (), rfl, rfl, by show RP P σ' t.heap; rw [ht]; exact hR2⟩, hS.F ht⟩) hS.2.2 hd hlocks
theorem met_Z {l : Launch} {y : MethodName} {n : Nat} {own : String} {ret : Option FieldType} {av : PT → List Value} {f : SG → Option (Int32 × SG)} (hy : plainName y.cls = true) (how : y.cls = own) (hret : ret = some .boolean) (hav : ∀ P, (lg_sl (av P)).length ≤ n) (body : ∀ (P : PT) (G : GT), CX P G cc own k n → gl G = l → ∀ σ : SG, AW P G n (EZ P G cc) (f σ) σ 0 (lv_args 0 (av P)) []) : CTI l k y cc n ret av f := by
  intro P σ r σ' hf
  subst how
  refine Met.ofW (cc := cc) (maxL := n) (ret := ret) hy rfl ?_
  intro p e s m args below meth c s₁ B hml hv
  obtain ⟨rfl, hR, hK⟩ := hv
  have hts := atoms_spec (ws := wY y cc n ret) B.pre
  have hown : s.vm.findClass y.cls = some m.cls := findClass_of_methodNamed B.named
  have hlocks := B.notSynchronized
  have hr := B.returns
  rw [lg_entry_eq]
  refine body P ((0, 0), p, l, e, rmk k, s, m, (av P).toArray, below, meth, c, _) ⟨B.exec, B.bytes, hml, hown, fun w hw => hts w (List.mem_cons_of_mem _ hw), hK, Nat.le_refl _, Nat.le_refl _, Nat.le_refl _, Nat.le_refl _⟩ rfl σ r σ' hf ?_ s.heap [] _ hR va_S.rf (lv_entry (av P) (hav P))
  intro hx H locs ls pc hR2 hS hd
  exact W.zret B.exec B.bytes (by rw [hr, hret]) (by rcases hx with rfl | rfl <;> rfl) (fun t ht hW => ⟨⟨r, (), rfl, rfl, by show RP P σ' t.heap; rw [ht]; exact hR2⟩, hS.F ht⟩) hS.2.2 hd hlocks
theorem met_L {l : Launch} {y : MethodName} {n : Nat} {own : String} {ret : Option FieldType} {av : PT → List Value} {f : SG → Option (Int64 × SG)} (hy : plainName y.cls = true) (how : y.cls = own) (hret : ret = some .long) (hav : ∀ P, (lg_sl (av P)).length ≤ n) (body : ∀ (P : PT) (G : GT), CX P G cc own k n → gl G = l → ∀ σ : SG, AW P G n (EL P G cc) (f σ) σ 0 (lv_args 0 (av P)) []) : CTL l k y cc n ret av f := by
  intro P σ r σ' hf
  subst how
  refine Met.ofW (cc := cc) (maxL := n) (ret := ret) hy rfl ?_
  intro p e s m args below meth c s₁ B hml hv
  obtain ⟨rfl, hR, hK⟩ := hv
  have hts := atoms_spec (ws := wY y cc n ret) B.pre
  have hown : s.vm.findClass y.cls = some m.cls := findClass_of_methodNamed B.named
  have hlocks := B.notSynchronized
  have hr := B.returns
  rw [lg_entry_eq]
  refine body P ((0, 0), p, l, e, rmk k, s, m, (av P).toArray, below, meth, c, _) ⟨B.exec, B.bytes, hml, hown, fun w hw => hts w (List.mem_cons_of_mem _ hw), hK, Nat.le_refl _, Nat.le_refl _, Nat.le_refl _, Nat.le_refl _⟩ rfl σ r σ' hf ?_ s.heap [] _ hR va_S.rf (lv_entry (av P) (hav P))
  intro H locs ls pc hR2 hS hd
  exact W.lret B.exec B.bytes (by rw [hr, hret]) (fun t ht hW => ⟨⟨r, (), rfl, rfl, by show RP P σ' t.heap; rw [ht]; exact hR2⟩, hS.F ht⟩) hS.2.2 hd hlocks
theorem met_V {l : Launch} {y : MethodName} {n : Nat} {own : String} {ret : Option FieldType} {av : PT → List Value} {f : SG → Option (Unit × SG)} (hy : plainName y.cls = true) (how : y.cls = own) (hret : ret = none) (hav : ∀ P, (lg_sl (av P)).length ≤ n) (body : ∀ (P : PT) (G : GT), CX P G cc own k n → gl G = l → ∀ σ : SG, AW P G n (EV P G cc) (f σ) σ 0 (lv_args 0 (av P)) []) : CTV l k y cc n ret av f := by
  intro P σ r σ' hf
  subst how
  refine Met.ofW (cc := cc) (maxL := n) (ret := ret) hy rfl ?_
  intro p e s m args below meth c s₁ B hml hv
  obtain ⟨rfl, hR, hK⟩ := hv
  have hts := atoms_spec (ws := wY y cc n ret) B.pre
  have hown : s.vm.findClass y.cls = some m.cls := findClass_of_methodNamed B.named
  have hlocks := B.notSynchronized
  have hr := B.returns
  rw [lg_entry_eq]
  refine body P ((0, 0), p, l, e, rmk k, s, m, (av P).toArray, below, meth, c, _) ⟨B.exec, B.bytes, hml, hown, fun w hw => hts w (List.mem_cons_of_mem _ hw), hK, Nat.le_refl _, Nat.le_refl _, Nat.le_refl _, Nat.le_refl _⟩ rfl σ r σ' hf ?_ s.heap [] _ hR va_S.rf (lv_entry (av P) (hav P))
  intro H locs ls pc hR2 hS hd
  exact W.vret B.exec B.bytes (by rw [hr, hret]) (fun t ht hW => ⟨⟨(), rfl, trivial, by show RP P σ' t.heap; rw [ht]; exact hR2⟩, hS.F ht⟩) hS.2.2 hd hlocks
theorem met_S {l : Launch} {y : MethodName} {n : Nat} {own : String} {ret : Option FieldType} {av : PT → List Value} {f : SG → Option (Nat × SG)} (hy : plainName y.cls = true) (how : y.cls = own) (hret : ret = some (.object "java/lang/String")) (hav : ∀ P, (lg_sl (av P)).length ≤ n) (body : ∀ (P : PT) (G : GT), CX P G cc own k n → gl G = l → ∀ σ : SG, AW P G n (ES P G cc) (f σ) σ 0 (lv_args 0 (av P)) []) : CTS l k y cc n ret av f := by
  intro P σ r σ' hf
  subst how
  refine Met.ofW (cc := cc) (maxL := n) (ret := ret) hy rfl ?_
  intro p e s m args below meth c s₁ B hml hv
  obtain ⟨rfl, hR, hK⟩ := hv
  have hts := atoms_spec (ws := wY y cc n ret) B.pre
  have hown : s.vm.findClass y.cls = some m.cls := findClass_of_methodNamed B.named
  have hlocks := B.notSynchronized
  have hr := B.returns
  rw [lg_entry_eq]
  refine body P ((0, 0), p, l, e, rmk k, s, m, (av P).toArray, below, meth, c, _) ⟨B.exec, B.bytes, hml, hown, fun w hw => hts w (List.mem_cons_of_mem _ hw), hK, Nat.le_refl _, Nat.le_refl _, Nat.le_refl _, Nat.le_refl _⟩ rfl σ r σ' hf ?_ s.heap [] _ hR va_S.rf (lv_entry (av P) (hav P))
  intro H locs ls pc hR2 hS hd
  exact W.aret B.exec B.bytes (by rw [hr, hret]) (Or.inl ⟨_, rfl⟩) (Or.inr ⟨_, rfl⟩) (fun t ht hW => ⟨⟨(), _, rfl, trivial, rfl, by show RP P σ' t.heap; rw [ht]; exact hR2⟩, hS.F ht⟩) hS.2.2 hd hlocks
/-! the callee's start, from the caller's -/
theorem pre_blind {av : List Value} : FrameBlind (va_Pc av (PRE P σ)) := fun a U g mk q => by
  obtain ⟨q1, q2, q3⟩ := q
  exact ⟨q1, q2, KK.same (u := U) (U := U.calling g mk a) rfl q3⟩
theorem pre_at (K : CX P G cc own k nL) {H : Heap} {locs : List Loc} (hR : RP P σ H) (hS : va_S (AA P) (gs G).heap H locs) {U : State} (hU : U.heap = H) (hW : (gs G).WarmedH U.vm) : PRE P σ U := by
  subst hU
  exact ⟨hR, KK.warm hW (fun a h1 h2 => hS.2.1 a h1 h2) K.2.2.2.2.2.1⟩
/-- the words of a call that all methods share -/
theorem tb_good : ∀ w ∈ TBL, goodWord w = true := List.all_eq_true.mp TBL_all
theorem wY_good {z : MethodName} {cz : ByteArray} {nz : Nat} {rz : Option FieldType} {ws : List Cond} (hz : Cond.code z cz nz rz ∈ TBL) (hw : ∀ w ∈ ws, w ∈ TBL) : GoodIn TBL (ws ++ wY z cz nz rz) := by
  intro w h
  have hm : w ∈ TBL := by
    rcases List.mem_append.mp h with h | h
    · exact hw w h
    · rcases List.mem_cons.mp h with h | h
      · rw [h]
        exact hz
      · exact h
  exact ⟨hm, good_of_word (tb_good w hm)⟩
theorem cx_fix (K : CX P G cc own k nL) : CallFix (gp G) (gm G) (gc G) cc nL (gs G) (ga G) TBL own := ⟨K.1, K.2.1, K.2.2.1, K.2.2.2.1, K.2.2.2.2.1⟩
theorem cx_room (K : CX P G cc own k nL) {k' n' : Nat} (hk : k' + 1 ≤ k) (hn : n' ≤ 81) : (rmk k').frames + 1 ≤ (gR G).frames ∧ 8 + (n' + 11) + (rmk k').locals ≤ (gR G).locals := by
  have e := K.2.2.2.2.2.2
  refine ⟨Nat.le_trans hk e.1, ?_⟩
  have := e.2.1
  show 8 + (n' + 11) + 100 * k' ≤ (gR G).locals
  omega
theorem cx_free (K : CX P G cc own k nL) : (gn G).1 + 0 ≤ (gR G).cells ∧ (gn G).2 + 0 ≤ (gR G).slots := K.2.2.2.2.2.2.2.2
theorem rp_recv (K : CX P G cc own k nL) {H : Heap} (hR : RP P σ H) {c ci : Nat} {C : String} {T : u_T} {N : Nat} (hc : c < MM) (hl : ∃ fs, lay c = .inl (ci, fs)) (hv : vwCl[ci]? = some (C, T, N)) : ∃ cell : Cell, H[pb P + c]? = some cell ∧ cell.vm.isStatics = false ∧ (gs G).vm.findClass C = some cell.cls := by
  obtain ⟨fs, e⟩ := hl
  exact va_recv K.2.2.2.2.2.1.1 hR hv (wd_at hc e)
/-- what a call site is: virtual, of a class's own method; by a subclass's name; overriding; of a superclass; static; a nest mate's static -/
def VWV (own : String) (idx ci : Nat) (y : MethodName) (cy : ByteArray) (n : Nat) (ret : Option FieldType) (np : Nat) : Prop := ∃ (C : String) (T : u_T) (N : Nat), vwCl[ci]? = some (C, T, N) ∧ y.cls = C ∧ Cond.code y cy n ret ∈ TBL ∧ Cond.methodLink own idx y ∈ TBL ∧ Cond.instanceMethod y ∈ TBL ∧ Cond.selects C y y ∈ TBL ∧ Cond.initialized C ∈ TBL ∧ n ≤ 81 ∧ (y.cls = C ∧ y.cls ≠ "java/lang/invoke/MethodHandle" ∧ y.cls ≠ "java/lang/invoke/VarHandle" ∧ (parseMethodDescriptor y.desc).map (fun d => d.parameters.length) = some np)
def VWU (own : String) (idx ci : Nat) (owner : String) (x y : MethodName) (cy : ByteArray) (n : Nat) (ret : Option FieldType) (np : Nat) : Prop := ∃ (C : String) (T : u_T) (N : Nat), vwCl[ci]? = some (C, T, N) ∧ Cond.code y cy n ret ∈ TBL ∧ Cond.methodLink own idx x ∈ TBL ∧ Cond.sameMethod x.cls owner x.name x.desc ∈ TBL ∧ Cond.selects C x y ∈ TBL ∧ Cond.instanceMethod y ∈ TBL ∧ Cond.initialized y.cls ∈ TBL ∧ n ≤ 81 ∧ y = ⟨owner, x.name, x.desc⟩ ∧ (owner ≠ "java/lang/invoke/MethodHandle" ∧ owner ≠ "java/lang/invoke/VarHandle" ∧ (parseMethodDescriptor x.desc).map (fun d => d.parameters.length) = some np)
def VWO (own : String) (idx ci : Nat) (owner : String) (x y : MethodName) (cy : ByteArray) (n : Nat) (ret : Option FieldType) (np : Nat) : Prop := ∃ (C : String) (T : u_T) (N : Nat) (b0 : ByteArray) (m0 : Nat) (r0 : Option FieldType), vwCl[ci]? = some (C, T, N) ∧ Cond.code y cy n ret ∈ TBL ∧ Cond.methodLink own idx x ∈ TBL ∧ Cond.sameMethod x.cls owner x.name x.desc ∈ TBL ∧ Cond.instanceMethod ⟨owner, x.name, x.desc⟩ ∈ TBL ∧ Cond.selects C x y ∈ TBL ∧ Cond.instanceMethod y ∈ TBL ∧ Cond.initialized y.cls ∈ TBL ∧ n ≤ 81 ∧ Cond.code ⟨owner, x.name, x.desc⟩ b0 m0 r0 ∈ TBL ∧ (owner ≠ "java/lang/invoke/MethodHandle" ∧ owner ≠ "java/lang/invoke/VarHandle" ∧ (parseMethodDescriptor x.desc).map (fun d => d.parameters.length) = some np)
def VWX (own : String) (idx ci : Nat) (y : MethodName) (cy : ByteArray) (n : Nat) (ret : Option FieldType) (np : Nat) : Prop := ∃ (C : String) (T : u_T) (N : Nat), vwCl[ci]? = some (C, T, N) ∧ Cond.code y cy n ret ∈ TBL ∧ Cond.methodLink own idx y ∈ TBL ∧ Cond.sameMethod y.cls y.cls y.name y.desc ∈ TBL ∧ Cond.superclass own y.cls ∈ TBL ∧ Cond.instanceMethod y ∈ TBL ∧ Cond.initialized y.cls ∈ TBL ∧ n ≤ 81 ∧ (y.name ≠ "<init>" ∧ (parseMethodDescriptor y.desc).map (fun d => d.parameters.length) = some np)
def VWS (own : String) (idx : Nat) (y : MethodName) (cy : ByteArray) (n : Nat) (ret : Option FieldType) (np : Nat) : Prop := Cond.code y cy n ret ∈ TBL ∧ Cond.methodLink own idx y ∈ TBL ∧ Cond.static y ∈ TBL ∧ Cond.initialized y.cls ∈ TBL ∧ n ≤ 81 ∧ (y.cls ≠ "java/lang/invoke/MethodHandle" ∧ y.cls ≠ "java/lang/invoke/VarHandle" ∧ (parseMethodDescriptor y.desc).map (fun d => d.parameters.length) = some np)
def VWN (own : String) (idx : Nat) (y : MethodName) (cy : ByteArray) (n : Nat) (ret : Option FieldType) (np : Nat) : Prop := ∃ host : String, Cond.code y cy n ret ∈ TBL ∧ Cond.methodLinkNest own idx y host ∈ NWS ∧ Cond.static y ∈ TBL ∧ Cond.initialized y.cls ∈ TBL ∧ n ≤ 81 ∧ (y.cls ≠ "java/lang/invoke/MethodHandle" ∧ y.cls ≠ "java/lang/invoke/VarHandle" ∧ (parseMethodDescriptor y.desc).map (fun d => d.parameters.length) = some np)
theorem aw_callVI (K : CX P G cc own k nL) {l : Launch} {idx np n2 k2 c ci : Nat} {y : MethodName} {cy : ByteArray} {ret : Option FieldType} {As : PT → List Value} {rest : List Value} {f : SG → Option (Int32 × SG)} {F : Option (Int32 × SG)} {Kf : Int32 → SG → Option (ρ × SG)} (d : decode cc pc = .ok (.invokevirtual idx, 3)) (vw : VWV own idx ci y cy n2 ret np) (hM : CTI l k2 y cy n2 ret (fun P => rf P c :: As P) f) (hl : gl G = l) (hk : k2 + 1 ≤ k) (hc : c < MM ∧ ∃ fs, lay c = .inl (ci, fs)) (hn : (As P).length = np) (hr : (rest.map fun v => v.category).sum ≤ 8) (hst : st = (As P).reverse ++ rf P c :: rest) (hF : F = f σ) (n : ∀ r σ', F = some (r, σ') → AW P G nL E (Kf r σ') σ' (pc + 3) lv (.int r :: rest)) : AW P G nL E (bnd F Kf) σ pc lv st := by
  intro r0 σ0 hX hE H locs ls hR hS hL
  subst hst
  subst hl
  subst hF
  cases hf : f σ with
  | none => rw [hf] at hX; cases hX
  | some q =>
    obtain ⟨r1, σ1⟩ := q
    rw [hf] at hX
    obtain ⟨C, T, N, v1, v2, v3, v4, v5, v6, v7, v8, v9⟩ := vw
    have cw := cwV (R := gR G) np K.2.2.2.2.1 (own := own) (index := idx) (C := C) (wY_good (ws := [.methodLink own idx y, .instanceMethod y, .selects C y y, .initialized C]) v3 (by simp [v4, v5, v6, v7])) rfl (rm := rmk k2) rfl rfl v9 (cx_room K hk v8)
    refine va_calli (va_runV (As := As P) (b := pb P + c) (rest := rest) (cx_fix K) (hM P σ r1 σ1 hf) cw ⟨pre_blind, rp_recv K hR hc.1 hc.2 v1, fun U hU hW => ⟨rfl, pre_at K hR hS hU hW⟩⟩ rfl hn hL.1 rfl (lv_room hr) d (cx_free K)) hS (fun _ _ h => h) (fun _ h => h) (fun r u t H1 locs1 ht _ hw hB _ _ hS1 => ?_)
    subst hw
    subst ht
    exact n _ σ1 hf r0 σ0 hX hE _ _ ls hB hS1 hL
theorem aw_callVV (K : CX P G cc own k nL) {l : Launch} {idx np n2 k2 c ci : Nat} {y : MethodName} {cy : ByteArray} {ret : Option FieldType} {As : PT → List Value} {rest : List Value} {f : SG → Option (Unit × SG)} {F : Option (Unit × SG)} {Kf : Unit → SG → Option (ρ × SG)} (d : decode cc pc = .ok (.invokevirtual idx, 3)) (vw : VWV own idx ci y cy n2 ret np) (hM : CTV l k2 y cy n2 ret (fun P => rf P c :: As P) f) (hl : gl G = l) (hk : k2 + 1 ≤ k) (hc : c < MM ∧ ∃ fs, lay c = .inl (ci, fs)) (hn : (As P).length = np) (hr : (rest.map fun v => v.category).sum ≤ 8) (hst : st = (As P).reverse ++ rf P c :: rest) (hF : F = f σ) (n : ∀ (r : Unit) (σ' : SG), F = some (r, σ') → AW P G nL E (Kf r σ') σ' (pc + 3) lv rest) : AW P G nL E (bnd F Kf) σ pc lv st := by
  intro r0 σ0 hX hE H locs ls hR hS hL
  subst hst
  subst hl
  subst hF
  cases hf : f σ with
  | none => rw [hf] at hX; cases hX
  | some q =>
    obtain ⟨r1, σ1⟩ := q
    rw [hf] at hX
    obtain ⟨C, T, N, v1, v2, v3, v4, v5, v6, v7, v8, v9⟩ := vw
    have cw := cwV (R := gR G) np K.2.2.2.2.1 (own := own) (index := idx) (C := C) (wY_good (ws := [.methodLink own idx y, .instanceMethod y, .selects C y y, .initialized C]) v3 (by simp [v4, v5, v6, v7])) rfl (rm := rmk k2) rfl rfl v9 (cx_room K hk v8)
    refine va_callv (va_runV (As := As P) (b := pb P + c) (rest := rest) (cx_fix K) (hM P σ r1 σ1 hf) cw ⟨pre_blind, rp_recv K hR hc.1 hc.2 v1, fun U hU hW => ⟨rfl, pre_at K hR hS hU hW⟩⟩ rfl hn hL.1 rfl (lv_room hr) d (cx_free K)) hS (fun _ _ h => h) (fun _ h => h) (fun u t H1 locs1 ht _ hw hB _ _ hS1 => ?_)
    subst ht
    exact n _ σ1 hf r0 σ0 hX hE _ _ ls hB hS1 hL
theorem aw_callVL (K : CX P G cc own k nL) {l : Launch} {idx np n2 k2 c ci : Nat} {y : MethodName} {cy : ByteArray} {ret : Option FieldType} {As : PT → List Value} {rest : List Value} {f : SG → Option (Int64 × SG)} {F : Option (Int64 × SG)} {Kf : Int64 → SG → Option (ρ × SG)} (d : decode cc pc = .ok (.invokevirtual idx, 3)) (vw : VWV own idx ci y cy n2 ret np) (hM : CTL l k2 y cy n2 ret (fun P => rf P c :: As P) f) (hl : gl G = l) (hk : k2 + 1 ≤ k) (hc : c < MM ∧ ∃ fs, lay c = .inl (ci, fs)) (hn : (As P).length = np) (hr : (rest.map fun v => v.category).sum ≤ 8) (hst : st = (As P).reverse ++ rf P c :: rest) (hF : F = f σ) (n : ∀ r σ', F = some (r, σ') → AW P G nL E (Kf r σ') σ' (pc + 3) lv (.long r :: rest)) : AW P G nL E (bnd F Kf) σ pc lv st := by
  intro r0 σ0 hX hE H locs ls hR hS hL
  subst hst
  subst hl
  subst hF
  cases hf : f σ with
  | none => rw [hf] at hX; cases hX
  | some q =>
    obtain ⟨r1, σ1⟩ := q
    rw [hf] at hX
    obtain ⟨C, T, N, v1, v2, v3, v4, v5, v6, v7, v8, v9⟩ := vw
    have cw := cwV (R := gR G) np K.2.2.2.2.1 (own := own) (index := idx) (C := C) (wY_good (ws := [.methodLink own idx y, .instanceMethod y, .selects C y y, .initialized C]) v3 (by simp [v4, v5, v6, v7])) rfl (rm := rmk k2) rfl rfl v9 (cx_room K hk v8)
    refine va_calll (va_runV (As := As P) (b := pb P + c) (rest := rest) (cx_fix K) (hM P σ r1 σ1 hf) cw ⟨pre_blind, rp_recv K hR hc.1 hc.2 v1, fun U hU hW => ⟨rfl, pre_at K hR hS hU hW⟩⟩ rfl hn hL.1 rfl (lv_room hr) d (cx_free K)) hS (fun _ _ h => h) (fun _ h => h) (fun r u t H1 locs1 ht _ hw hB _ _ hS1 => ?_)
    subst hw
    subst ht
    exact n _ σ1 hf r0 σ0 hX hE _ _ ls hB hS1 hL
theorem aw_callUI (K : CX P G cc own k nL) {l : Launch} {idx np n2 k2 c ci : Nat} {y : MethodName} {owner : String} {x : MethodName} {cy : ByteArray} {ret : Option FieldType} {As : PT → List Value} {rest : List Value} {f : SG → Option (Int32 × SG)} {F : Option (Int32 × SG)} {Kf : Int32 → SG → Option (ρ × SG)} (d : decode cc pc = .ok (.invokevirtual idx, 3)) (vw : VWU own idx ci owner x y cy n2 ret np) (hM : CTI l k2 y cy n2 ret (fun P => rf P c :: As P) f) (hl : gl G = l) (hk : k2 + 1 ≤ k) (hc : c < MM ∧ ∃ fs, lay c = .inl (ci, fs)) (hn : (As P).length = np) (hr : (rest.map fun v => v.category).sum ≤ 8) (hst : st = (As P).reverse ++ rf P c :: rest) (hF : F = f σ) (n : ∀ r σ', F = some (r, σ') → AW P G nL E (Kf r σ') σ' (pc + 3) lv (.int r :: rest)) : AW P G nL E (bnd F Kf) σ pc lv st := by
  intro r0 σ0 hX hE H locs ls hR hS hL
  subst hst
  subst hl
  subst hF
  cases hf : f σ with
  | none => rw [hf] at hX; cases hX
  | some q =>
    obtain ⟨r1, σ1⟩ := q
    rw [hf] at hX
    obtain ⟨C, T, N, v1, v3, v4, v5, v6, v7, v7b, v8, v9, v10⟩ := vw
    have cw := va_cwU (R := gR G) np K.2.2.2.2.1 (own := own) (index := idx) (C := C) (wY_good (ws := [.methodLink own idx x, .sameMethod x.cls owner x.name x.desc, .selects C x y, .instanceMethod y, .initialized y.cls]) v3 (by simp [v4, v5, v6, v7, v7b])) rfl (rm := rmk k2) rfl rfl v9 v10 (cx_room K hk v8)
    refine va_calli (va_runU (As := As P) (b := pb P + c) (rest := rest) (cx_fix K) (hM P σ r1 σ1 hf) cw ⟨pre_blind, rp_recv K hR hc.1 hc.2 v1, fun U hU hW => ⟨rfl, pre_at K hR hS hU hW⟩⟩ rfl hn hL.1 rfl (lv_room hr) d (cx_free K)) hS (fun _ _ h => h) (fun _ h => h) (fun r u t H1 locs1 ht _ hw hB _ _ hS1 => ?_)
    subst hw
    subst ht
    exact n _ σ1 hf r0 σ0 hX hE _ _ ls hB hS1 hL
theorem aw_callOI (K : CX P G cc own k nL) {l : Launch} {idx np n2 k2 c ci : Nat} {y : MethodName} {owner : String} {x : MethodName} {cy : ByteArray} {ret : Option FieldType} {As : PT → List Value} {rest : List Value} {f : SG → Option (Int32 × SG)} {F : Option (Int32 × SG)} {Kf : Int32 → SG → Option (ρ × SG)} (d : decode cc pc = .ok (.invokevirtual idx, 3)) (vw : VWO own idx ci owner x y cy n2 ret np) (hM : CTI l k2 y cy n2 ret (fun P => rf P c :: As P) f) (hl : gl G = l) (hk : k2 + 1 ≤ k) (hc : c < MM ∧ ∃ fs, lay c = .inl (ci, fs)) (hn : (As P).length = np) (hr : (rest.map fun v => v.category).sum ≤ 8) (hst : st = (As P).reverse ++ rf P c :: rest) (hF : F = f σ) (n : ∀ r σ', F = some (r, σ') → AW P G nL E (Kf r σ') σ' (pc + 3) lv (.int r :: rest)) : AW P G nL E (bnd F Kf) σ pc lv st := by
  intro r0 σ0 hX hE H locs ls hR hS hL
  subst hst
  subst hl
  subst hF
  cases hf : f σ with
  | none => rw [hf] at hX; cases hX
  | some q =>
    obtain ⟨r1, σ1⟩ := q
    rw [hf] at hX
    obtain ⟨C, T, N, b0, m0, r0x, v1, v3, v4, v5, v5b, v6, v7, v7b, v8, v9, v10⟩ := vw
    have cw := va_cwO (R := gR G) np K.2.2.2.2.1 (own := own) (index := idx) (C := C) (wY_good (ws := [.methodLink own idx x, .sameMethod x.cls owner x.name x.desc, .instanceMethod ⟨owner, x.name, x.desc⟩, .selects C x y, .instanceMethod y, .initialized y.cls]) v3 (by simp [v4, v5, v5b, v6, v7, v7b])) rfl (rm := rmk k2) rfl rfl v9 v10 (cx_room K hk v8)
    refine va_calli (va_runU (As := As P) (b := pb P + c) (rest := rest) (cx_fix K) (hM P σ r1 σ1 hf) cw ⟨pre_blind, rp_recv K hR hc.1 hc.2 v1, fun U hU hW => ⟨rfl, pre_at K hR hS hU hW⟩⟩ rfl hn hL.1 rfl (lv_room hr) d (cx_free K)) hS (fun _ _ h => h) (fun _ h => h) (fun r u t H1 locs1 ht _ hw hB _ _ hS1 => ?_)
    subst hw
    subst ht
    exact n _ σ1 hf r0 σ0 hX hE _ _ ls hB hS1 hL
theorem aw_callXI (K : CX P G cc own k nL) {l : Launch} {idx np n2 k2 c ci : Nat} {y : MethodName} {cy : ByteArray} {ret : Option FieldType} {As : PT → List Value} {rest : List Value} {f : SG → Option (Int32 × SG)} {F : Option (Int32 × SG)} {Kf : Int32 → SG → Option (ρ × SG)} (d : decode cc pc = .ok (.invokespecial idx, 3)) (vw : VWX own idx ci y cy n2 ret np) (hM : CTI l k2 y cy n2 ret (fun P => rf P c :: As P) f) (hl : gl G = l) (hk : k2 + 1 ≤ k) (hc : c < MM ∧ ∃ fs, lay c = .inl (ci, fs)) (hn : (As P).length = np) (hr : (rest.map fun v => v.category).sum ≤ 8) (hst : st = (As P).reverse ++ rf P c :: rest) (hF : F = f σ) (n : ∀ r σ', F = some (r, σ') → AW P G nL E (Kf r σ') σ' (pc + 3) lv (.int r :: rest)) : AW P G nL E (bnd F Kf) σ pc lv st := by
  intro r0 σ0 hX hE H locs ls hR hS hL
  subst hst
  subst hl
  subst hF
  cases hf : f σ with
  | none => rw [hf] at hX; cases hX
  | some q =>
    obtain ⟨r1, σ1⟩ := q
    rw [hf] at hX
    obtain ⟨C, T, N, v1, v3, v4, v5, v6, v7, v7b, v8, v9⟩ := vw
    have cw := va_cwSU (R := gR G) np K.2.2.2.2.1 (own := own) (index := idx) (wY_good (ws := [.methodLink own idx y, .sameMethod y.cls y.cls y.name y.desc, .superclass own y.cls, .instanceMethod y, .initialized y.cls]) v3 (by simp [v4, v5, v6, v7, v7b])) rfl (rm := rmk k2) rfl rfl v9 (cx_room K hk v8)
    refine va_calli (va_runSU (As := As P) (b := pb P + c) (rest := rest) (K.2.2.2.2.2.1.1.1 ci _ v1).2 (cx_fix K) (hM P σ r1 σ1 hf) cw ⟨pre_blind, rp_recv K hR hc.1 hc.2 v1, fun U hU hW => ⟨rfl, pre_at K hR hS hU hW⟩⟩ rfl hn hL.1 rfl (lv_room hr) d (cx_free K)) hS (fun _ _ h => h) (fun _ h => h) (fun r u t H1 locs1 ht _ hw hB _ _ hS1 => ?_)
    subst hw
    subst ht
    exact n _ σ1 hf r0 σ0 hX hE _ _ ls hB hS1 hL
theorem aw_callSI (K : CX P G cc own k nL) {l : Launch} {idx np n2 k2 : Nat} {y : MethodName} {cy : ByteArray} {ret : Option FieldType} {As : PT → List Value} {rest : List Value} {f : SG → Option (Int32 × SG)} {F : Option (Int32 × SG)} {Kf : Int32 → SG → Option (ρ × SG)} (d : decode cc pc = .ok (.invokestatic idx, 3)) (vw : VWS own idx y cy n2 ret np) (hM : CTI l k2 y cy n2 ret (fun P => As P) f) (hl : gl G = l) (hk : k2 + 1 ≤ k) (hn : (As P).length = np) (hr : (rest.map fun v => v.category).sum ≤ 8) (hst : st = (As P).reverse ++ rest) (hF : F = f σ) (n : ∀ r σ', F = some (r, σ') → AW P G nL E (Kf r σ') σ' (pc + 3) lv (.int r :: rest)) : AW P G nL E (bnd F Kf) σ pc lv st := by
  intro r0 σ0 hX hE H locs ls hR hS hL
  subst hst
  subst hl
  subst hF
  cases hf : f σ with
  | none => rw [hf] at hX; cases hX
  | some q =>
    obtain ⟨r1, σ1⟩ := q
    rw [hf] at hX
    obtain ⟨v3, v4, v5, v7b, v8, v9⟩ := vw
    have cw := va_cwS (R := gR G) np K.2.2.2.2.1 (own := own) (index := idx) (wY_good (ws := [.methodLink own idx y, .static y, .initialized y.cls]) v3 (by simp [v4, v5, v7b])) rfl (rm := rmk k2) rfl rfl v9 (cx_room K hk v8)
    refine va_calli (va_runS (As := As P) (rest := rest) (cx_fix K) (hM P σ r1 σ1 hf) cw ⟨pre_blind, fun U hU hW => ⟨rfl, pre_at K hR hS hU hW⟩⟩ rfl hn hL.1 rfl (lv_room hr) d (cx_free K)) hS (fun _ _ h => h) (fun _ h => h) (fun r u t H1 locs1 ht _ hw hB _ _ hS1 => ?_)
    subst hw
    subst ht
    exact n _ σ1 hf r0 σ0 hX hE _ _ ls hB hS1 hL
theorem aw_callSV (K : CX P G cc own k nL) {l : Launch} {idx np n2 k2 : Nat} {y : MethodName} {cy : ByteArray} {ret : Option FieldType} {As : PT → List Value} {rest : List Value} {f : SG → Option (Unit × SG)} {F : Option (Unit × SG)} {Kf : Unit → SG → Option (ρ × SG)} (d : decode cc pc = .ok (.invokestatic idx, 3)) (vw : VWS own idx y cy n2 ret np) (hM : CTV l k2 y cy n2 ret (fun P => As P) f) (hl : gl G = l) (hk : k2 + 1 ≤ k) (hn : (As P).length = np) (hr : (rest.map fun v => v.category).sum ≤ 8) (hst : st = (As P).reverse ++ rest) (hF : F = f σ) (n : ∀ (r : Unit) (σ' : SG), F = some (r, σ') → AW P G nL E (Kf r σ') σ' (pc + 3) lv rest) : AW P G nL E (bnd F Kf) σ pc lv st := by
  intro r0 σ0 hX hE H locs ls hR hS hL
  subst hst
  subst hl
  subst hF
  cases hf : f σ with
  | none => rw [hf] at hX; cases hX
  | some q =>
    obtain ⟨r1, σ1⟩ := q
    rw [hf] at hX
    obtain ⟨v3, v4, v5, v7b, v8, v9⟩ := vw
    have cw := va_cwS (R := gR G) np K.2.2.2.2.1 (own := own) (index := idx) (wY_good (ws := [.methodLink own idx y, .static y, .initialized y.cls]) v3 (by simp [v4, v5, v7b])) rfl (rm := rmk k2) rfl rfl v9 (cx_room K hk v8)
    refine va_callv (va_runS (As := As P) (rest := rest) (cx_fix K) (hM P σ r1 σ1 hf) cw ⟨pre_blind, fun U hU hW => ⟨rfl, pre_at K hR hS hU hW⟩⟩ rfl hn hL.1 rfl (lv_room hr) d (cx_free K)) hS (fun _ _ h => h) (fun _ h => h) (fun u t H1 locs1 ht _ hw hB _ _ hS1 => ?_)
    subst ht
    exact n _ σ1 hf r0 σ0 hX hE _ _ ls hB hS1 hL
theorem aw_callSR (K : CX P G cc own k nL) {l : Launch} {idx np n2 k2 : Nat} {y : MethodName} {cy : ByteArray} {ret : Option FieldType} {As : PT → List Value} {rest : List Value} {f : SG → Option (Nat × SG)} {F : Option (Nat × SG)} {Kf : Nat → SG → Option (ρ × SG)} (d : decode cc pc = .ok (.invokestatic idx, 3)) (vw : VWS own idx y cy n2 ret np) (hM : CTS l k2 y cy n2 ret (fun P => As P) f) (hl : gl G = l) (hk : k2 + 1 ≤ k) (hn : (As P).length = np) (hr : (rest.map fun v => v.category).sum ≤ 8) (hst : st = (As P).reverse ++ rest) (hF : F = f σ) (n : ∀ r σ', F = some (r, σ') → AW P G nL E (Kf r σ') σ' (pc + 3) lv (.ref (pK P r) :: rest)) : AW P G nL E (bnd F Kf) σ pc lv st := by
  intro r0 σ0 hX hE H locs ls hR hS hL
  subst hst
  subst hl
  subst hF
  cases hf : f σ with
  | none => rw [hf] at hX; cases hX
  | some q =>
    obtain ⟨r1, σ1⟩ := q
    rw [hf] at hX
    obtain ⟨v3, v4, v5, v7b, v8, v9⟩ := vw
    have cw := va_cwS (R := gR G) np K.2.2.2.2.1 (own := own) (index := idx) (wY_good (ws := [.methodLink own idx y, .static y, .initialized y.cls]) v3 (by simp [v4, v5, v7b])) rfl (rm := rmk k2) rfl rfl v9 (cx_room K hk v8)
    refine va_callr (va_runS (As := As P) (rest := rest) (cx_fix K) (hM P σ r1 σ1 hf) cw ⟨pre_blind, fun U hU hW => ⟨rfl, pre_at K hR hS hU hW⟩⟩ rfl hn hL.1 rfl (lv_room hr) d (cx_free K)) hS (fun _ _ h => h) (fun _ h => h) (fun u ra t H1 locs1 ht _ hw hB _ _ hS1 => ?_)
    subst ht
    obtain ⟨ha, hB⟩ := hB
    subst ha
    exact n _ σ1 hf r0 σ0 hX hE _ _ ls hB hS1 hL
theorem aw_callNI (K : CX P G cc own k nL) {l : Launch} {idx np n2 k2 : Nat} {y : MethodName} {cy : ByteArray} {ret : Option FieldType} {As : PT → List Value} {rest : List Value} {f : SG → Option (Int32 × SG)} {F : Option (Int32 × SG)} {Kf : Int32 → SG → Option (ρ × SG)} (d : decode cc pc = .ok (.invokestatic idx, 3)) (vw : VWN own idx y cy n2 ret np) (hM : CTI l k2 y cy n2 ret (fun P => As P) f) (hl : gl G = l) (hk : k2 + 1 ≤ k) (hn : (As P).length = np) (hr : (rest.map fun v => v.category).sum ≤ 8) (hst : st = (As P).reverse ++ rest) (hF : F = f σ) (n : ∀ r σ', F = some (r, σ') → AW P G nL E (Kf r σ') σ' (pc + 3) lv (.int r :: rest)) : AW P G nL E (bnd F Kf) σ pc lv st := by
  intro r0 σ0 hX hE H locs ls hR hS hL
  subst hst
  subst hl
  subst hF
  cases hf : f σ with
  | none => rw [hf] at hX; cases hX
  | some q =>
    obtain ⟨r1, σ1⟩ := q
    rw [hf] at hX
    obtain ⟨host, v3, v4, v5, v7b, v8, v9⟩ := vw
    have cw : va_CN (gR G) (gs G) (ga G) own idx y host cy n2 ret (wY y cy n2 ret) (rmk k2) 0 0 np ∧ (Cond.static y).before (ga G) (gs G) = true ∧ True := ⟨va_cnB (R := gR G) np K.2.2.2.2.1 (wY_good (ws := []) v3 (by simp)) rfl (rm := rmk k2) rfl rfl (K.2.2.2.2.2.1.2.2.2.2 _ v4) (K.2.2.2.2.1 _ v7b) v9 (cx_room K hk v8), K.2.2.2.2.1 _ v5, trivial⟩
    refine va_calli (va_runSN (As := As P) (rest := rest) (cx_fix K) (hM P σ r1 σ1 hf) cw ⟨pre_blind, fun U hU hW => ⟨rfl, pre_at K hR hS hU hW⟩⟩ rfl hn hL.1 rfl (lv_room hr) d (cx_free K)) hS (fun _ _ h => h) (fun _ h => h) (fun r u t H1 locs1 ht _ hw hB _ _ hS1 => ?_)
    subst hw
    subst ht
    exact n _ σ1 hf r0 σ0 hX hE _ _ ls hB hS1 hL
end AWC
