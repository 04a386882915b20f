/-! CONSTRUCTORS: cells that come one behind the other, all from pb P on -/
abbrev nwB (P : PT) : Nat → Prop := fun q => pb P ≤ q
def nwW (P : PT) (K : Nat) (ρ : Nat → va_E) : va_W := (List.range K).map fun k => (pb P + k, ρ k)
/-- what the cells hold, but e in the cell i -/
def upC (ρ : Nat → va_E) (i : Nat) (e : va_E) : Nat → va_E := fun k => if k = i then e else ρ k
/-- .. but e0 in the cell i and e in the n cells behind it -/
def upR (ρ : Nat → va_E) (i n : Nat) (e0 e : va_E) : Nat → va_E := fun k => if k = i then e0 else if i < k ∧ k < i + 1 + n then e else ρ k
theorem upC_eq {ρ : Nat → va_E} {i : Nat} {e : va_E} : upC ρ i e i = e := if_pos rfl
theorem upC_ne {ρ : Nat → va_E} {i k : Nat} {e : va_E} (h : k ≠ i) : upC ρ i e k = ρ k := if_neg h
theorem upR_eq {ρ : Nat → va_E} {i n : Nat} {e0 e : va_E} : upR ρ i n e0 e i = e0 := if_pos rfl
theorem upR_in {ρ : Nat → va_E} {i n k : Nat} {e0 e : va_E} (h : i < k ∧ k < i + 1 + n) : upR ρ i n e0 e k = e := (if_neg (by omega)).trans (if_pos h)
theorem upR_ne {ρ : Nat → va_E} {i n k : Nat} {e0 e : va_E} (h : k < i ∨ i + n < k) : upR ρ i n e0 e k = ρ k := (if_neg (by omega)).trans (if_neg (by omega))
theorem nwW_at {P : PT} {K c : Nat} {ρ : Nat → va_E} (h : c < K) : (nwW P K ρ)[c]? = some (pb P + c, ρ c) := by
  unfold nwW
  rw [List.getElem?_map, List.getElem?_range h]
  rfl
theorem nwW_len {P : PT} {K : Nat} {ρ : Nat → va_E} : (nwW P K ρ).length = K := by unfold nwW; rw [List.length_map, List.length_range]
theorem nwW_of {P : PT} {K k : Nat} {ρ : Nat → va_E} {q : Nat × va_E} (h : (nwW P K ρ)[k]? = some q) : k < K ∧ q = (pb P + k, ρ k) := by
  have hk : k < K := by rw [← nwW_len (P := P) (K := K) (ρ := ρ)]; exact (List.getElem?_eq_some_iff.mp h).1
  rw [nwW_at hk] at h
  exact ⟨hk, (Option.some.inj h).symm⟩
theorem nwW_snoc {P : PT} {K : Nat} {ρ : Nat → va_E} {e : va_E} : nwW P K ρ ++ [(pb P + K, e)] = nwW P (K + 1) (upC ρ K e) := by
  unfold nwW
  rw [List.range_succ, List.map_append]
  congr 1
  · exact List.map_congr_left fun k hk => by rw [upC_ne (Nat.ne_of_lt (List.mem_range.mp hk))]
  · show _ = [(pb P + K, upC ρ K e K)]
    rw [upC_eq]
theorem nwW_set {P : PT} {K c : Nat} {ρ : Nat → va_E} {e : va_E} : (nwW P K ρ).set c (pb P + c, e) = nwW P K (upC ρ c e) := by
  apply List.ext_getElem?
  intro j
  rw [List.getElem?_set, nwW_len]
  by_cases hj : j < K
  · rw [nwW_at hj, nwW_at hj]
    by_cases h : c = j
    · subst h
      rw [if_pos rfl, if_pos hj, upC_eq]
    · rw [if_neg h, upC_ne (fun z => h z.symm)]
  · rw [List.getElem?_eq_none (by rw [nwW_len]; omega), List.getElem?_eq_none (by rw [nwW_len]; omega)]
    by_cases h : c = j
    · rw [if_pos h, if_neg (by omega)]
    · rw [if_neg h]
theorem nwW_D {P : PT} {K : Nat} {ρ : Nat → va_E} : va_D (nwB P) (nwW P K ρ) := by
  refine ⟨fun i j p q hi hj h => ?_, fun k q hk => ?_⟩
  · have h1 := (nwW_of hi).2
    have h2 := (nwW_of hj).2
    rw [h1, h2] at h
    have h : pb P + i = pb P + j := h
    omega
  · rw [(nwW_of hk).2]
    exact Nat.le_add_right _ _
def nwS (P : PT) (K : Nat) (ρ : Nat → va_E) (H : Heap) : Prop := va_P (pD P) vwCl (nwW P K ρ) H
theorem nwS.size {P : PT} {K : Nat} {ρ : Nat → va_E} {H : Heap} (h : nwS P K ρ H) (hK : 0 < K) : pb P + K ≤ H.size := by
  have h1 : pb P + (K - 1) < H.size := (h (K - 1) _ (nwW_at (by omega))).lt
  omega
/-- a new cell is the next one -/
theorem nw_q {P : PT} {K q : Nat} {ρ : Nat → va_E} {e : va_E} {H1 : Heap} (hP : va_P (pD P) vwCl (nwW P K ρ ++ [(q, e)]) H1) (hD : va_D (nwB P) (nwW P K ρ ++ [(q, e)])) (hz : H1.size ≤ pb P + K + 1) : q = pb P + K := by
  have hl : (nwW P K ρ ++ [(q, e)])[K]? = some (q, e) := by
    rw [List.getElem?_append_right (Nat.le_of_eq nwW_len), nwW_len, Nat.sub_self]
    rfl
  have h1 : q < H1.size := (hP _ _ hl).lt
  have h2 : pb P ≤ q := hD.2 _ _ hl
  by_cases h : q < pb P + K
  · have hk : q - pb P < K := by omega
    have hi : (nwW P K ρ ++ [(q, e)])[q - pb P]? = some (pb P + (q - pb P), ρ (q - pb P)) := by
      rw [List.getElem?_append_left (by rw [nwW_len]; exact hk)]
      exact nwW_at hk
    have := hD.1 _ _ _ _ hi hl (by show pb P + (q - pb P) = q; omega)
    omega
  · omega
/-! what the tables say beyond TBL, that constructors need -/
def NWC : List Cond := [.methodLinkNest RX11 9 yX1_init "HadForVoice", .methodLinkNest RX11 62 yX6_init "HadForVoice", .methodLinkNest RX6 23 yX7_init "HadForVoice", .methodLinkNest RX9 11 yX7_init "HadForVoice", .castable RX2 RX4, .castable RX3 RX4, .castable RX10 RX4, .castable RX5 RX4, .castable RX0 RX4]
theorem nw_overS {t : FieldType} {u : State} (h : va_Nw (.arrayOver (.array t)) u) : ∃ comp c k, u.vm.findClass (FieldType.array t).toString = some comp ∧ (u.vm.classes.findIdx? fun (x : Class) => match x.kind with | .array component _ => component == comp | _ => false) = some c ∧ u.vm.classes[c]? = some k ∧ k.kind = .array comp (.array t) ∧ u.vm.findClass ("[" ++ (FieldType.array t).toString) = some c := by
  have h : (Cond.arrayOver (.array t)).holds #[] u none u [] = true := h
  simp only [Cond.holds, Cond.value, beq_iff_eq] at h
  cases hc : u.vm.findClass (FieldType.array t).toString with
  | none => simp [hc] at h
  | some comp =>
    simp only [hc, Option.bind_some, Option.bind_eq_some_iff, Option.map_eq_some_iff] at h
    obtain ⟨c, hi, k, hk, hb⟩ := h
    obtain ⟨hlt, hp, -⟩ := Array.findIdx?_eq_some_iff_getElem.mp hi
    have hkk : u.vm.classes[c] = k := (Array.getElem?_eq_some_iff.mp hk).2
    rw [hkk] at hp
    cases hkind : k.kind with
    | array component ty =>
      rw [hkind] at hb hp
      simp at hb hp
      exact ⟨comp, c, k, rfl, hi, hk, by rw [hkind, hp, hb.1], hb.2⟩
    | _ => rw [hkind] at hb; simp at hb
theorem nw_over {t : FieldType} {u U : State} (hvm : u.vm.Alike U.vm) (h : va_Nw (.arrayOver (.array t)) u) : va_Nw (.arrayOver (.array t)) U := by
  obtain ⟨comp, c, k, h1, h2, h3, h4, h5⟩ := nw_overS h
  obtain ⟨k', hk', he⟩ := hvm.2.2 _ _ h3
  have hi : (U.vm.classes.findIdx? fun (x : Class) => match x.kind with | .array component _ => component == comp | _ => false) = some c := by
    have e1 := va_idx_bare U.vm comp
    have e0 := va_idx_bare u.vm comp
    have eb : U.vm.bare = u.vm.bare := by first | exact hvm.bare_eq | exact hvm.bare_eq.symm
    rw [eb] at e1
    exact e1.symm.trans (e0.trans h2)
  have hkind : k'.kind = .array comp (.array t) := by rw [he]; exact h4
  have f1 : U.vm.findClass (FieldType.array t).toString = some comp := by rw [hvm.findClass]; exact h1
  have f2 : U.vm.findClass ("[" ++ (FieldType.array t).toString) = some c := by rw [hvm.findClass]; exact h5
  show (Cond.arrayOver (.array t)).holds _ _ _ _ _ = true
  unfold Cond.holds
  simp only [Cond.value]
  rw [f1, Option.bind_some]
  refine (congrArg (fun o : Option Nat => (o.bind (fun c => (U.vm.classes[c]?).map fun (k : Class) => match k.kind with | .array _ ty => decide (ty = FieldType.array t) && decide (U.vm.findClass ("[" ++ (FieldType.array t).toString) = some c) | _ => false) == some true)) hi).trans ?_
  simp [hk', hkind, f2]
def nwN (P : PT) (U : State) : Prop := va_K (pD P) vwCl (tysP P) U ∧ (∀ w ∈ NWC, va_Nw w U) ∧ va_AO "HadForVoice$Person" U ∧ va_Nw (.arrayOver (.array .int)) U
theorem NWC_warm {s U : State} (hW : s.WarmedH U.vm) : ∀ w ∈ NWC, va_Nw w s → va_Nw w U := by
  intro w hw h
  simp only [NWC, List.mem_cons, List.not_mem_nil, or_false] at hw
  rcases hw with rfl | rfl | rfl | rfl | rfl | rfl | rfl | rfl | rfl
  · exact va_Nw.warmM hW h
  · exact va_Nw.warmM hW h
  · exact va_Nw.warmM hW h
  · exact va_Nw.warmM hW h
  · exact va_Nw.warmC hW h
  · exact va_Nw.warmC hW h
  · exact va_Nw.warmC hW h
  · exact va_Nw.warmC hW h
  · exact va_Nw.warmC hW h
theorem NWC_ok : ∀ w ∈ NWC, w.onTables = true := by
  intro w hw
  simp only [NWC, List.mem_cons, List.not_mem_nil, or_false] at hw
  rcases hw with rfl | rfl | rfl | rfl | rfl | rfl | rfl | rfl | rfl <;> rfl
theorem nwN.warm {P : PT} {s U : State} (hW : s.WarmedH U.vm) (h : nwN P s) : nwN P U := ⟨va_K.moved hW.alike h.1, fun w hw => NWC_warm hW w hw (h.2.1 w hw), va_AO.moved hW.alike h.2.2.1, nw_over hW.alike h.2.2.2⟩
theorem nwN.same {P : PT} {u U : State} (hv : U.vm = u.vm) (h : nwN P u) : nwN P U := by
  have hA : u.vm.Alike U.vm := by rw [hv]; exact Vm.Alike.refl _
  exact ⟨va_K.moved hA h.1, fun w hw => va_Nw.same (NWC_ok w hw) hv.symm (h.2.1 w hw), va_AO.moved hA h.2.2.1, nw_over hA h.2.2.2⟩
def nwC (P : PT) (G : GT) (cc : ByteArray) (own : String) (k nL mc ms : Nat) : Prop :=
  (gp G).tables.exec = Jvm.exec ∧ (gc G).code = cc ∧ (gc G).maxLocals = nL ∧ (gs G).vm.findClass own = some (gm G).cls ∧ (∀ w ∈ TBL, w.before (ga G) (gs G) = true) ∧ nwN P (gs G) ∧ (k ≤ (gR G).frames ∧ 100 * k ≤ (gR G).locals) ∧ (mc ≤ (gR G).cells ∧ ms ≤ (gR G).slots) ∧ pb P ≤ (gs G).heap.size
def nwA (P : PT) (G : GT) (nL K : Nat) (ρ : Nat → va_E) (cells slots pc : Nat) (lv : List (Nat × Value)) (st : List Value) : Prop :=
  (gs G).heap.size + cells = pb P + K → ∀ (H : Heap) (locs : List Loc) (ls : Array Slot), nwS P K ρ H → va_S (nwB P) (gs G).heap H locs → lv_has ls nL lv → W (gp G) (gl G) (ge G) (gR G) (gs G) (gm G) (ga G) (gb G) (gt G) (gc G) H locs cells slots (gQ G) (F0 (gm G) pc ls st)
def nwE (P : PT) (G : GT) (cc : ByteArray) (K : Nat) (ρ : Nat → va_E) (cells slots : Nat) : Prop :=
  ∀ (H : Heap) (locs : List Loc) (ls : Array Slot) (pc : Nat), nwS P K ρ H → va_S (nwB P) (gs G).heap H locs → decode cc pc = .ok (.return_, 1) → W (gp G) (gl G) (ge G) (gR G) (gs G) (gm G) (ga G) (gb G) (gt G) (gc G) H locs cells slots (gQ G) (F0 (gm G) pc ls [])
/-- a constructor's contract: K cells stand, holding ρ; behind it K + mc, holding ρ' -/
def nwM (l : Launch) (k : Nat) (y : MethodName) (cc : ByteArray) (n mc ms K : Nat) (av : List Value) (P : PT) (ρ ρ' : Nat → va_E) : Prop :=
  Met l y (wY y cc n none) { frames := k, cells := mc, slots := ms, locals := 100 * k } (va_Pc av (fun U => U.heap.size = pb P + K ∧ nwS P K ρ U.heap ∧ nwN P U)) (va_Qv (fun (_ : Unit) => True) (fun _ t => nwS P (K + mc) ρ' t.heap) (nwB P)) mc ms (nwB P)
theorem nw_met {l : Launch} {k n mc ms K : Nat} {y : MethodName} {cc : ByteArray} {own : String} {av : List Value} {P : PT} {ρ ρ' : Nat → va_E} (hy : plainName y.cls = true) (how : y.cls = own) (hin : y.name = "<init>") (hav : (lg_sl av).length ≤ n) (body : ∀ G : GT, nwC P G cc own k n mc ms → gl G = l → (gt G).name = "<init>" → nwE P G cc (K + mc) ρ' mc ms → nwA P G n K ρ 0 0 0 (lv_args 0 av) []) : nwM l k y cc n mc ms K av P ρ ρ' := by
  subst how
  refine Met.ofW (cc := cc) (maxL := n) (ret := none) hy rfl ?_
  intro p e s m args below meth c s₁ B hml hv
  obtain ⟨rfl, hz, hP, hN⟩ := hv
  have hts := atoms_spec (ws := wY y cc n none) B.pre
  have hown : s.vm.findClass y.cls = some m.cls := findClass_of_methodNamed B.named
  have hlocks := B.notSynchronized
  have hr := B.returns
  have hname : meth.name = "<init>" := (name_of_methodNamed B.named B.method).1.trans hin
  rw [lg_entry_eq]
  refine body ((0, 0), p, l, e, { frames := k, cells := mc, slots := ms, locals := 100 * k }, s, m, av.toArray, below, meth, c, _) ⟨B.exec, B.bytes, hml, hown, fun w hw => hts w (List.mem_cons_of_mem _ hw), hN, ⟨Nat.le_refl _, Nat.le_refl _⟩, ⟨Nat.le_refl _, Nat.le_refl _⟩, by show pb P ≤ s.heap.size; omega⟩ rfl hname ?_ hz s.heap [] _ hP va_S.rf (lv_entry av hav)
  intro H locs ls pc hP2 hS hd
  exact W.vret B.exec B.bytes hr (fun t ht hW => ⟨⟨(), rfl, trivial, by show nwS P (K + mc) ρ' t.heap; rw [ht]; exact hP2⟩, hS.F ht⟩) hS.2.2 hd hlocks
section NWR
variable {P : PT} {G : GT} {cc : ByteArray} {own : String} {k nL mc ms : Nat} {K : Nat} {ρ : Nat → va_E} {cells slots pc : Nat} {lv : List (Nat × Value)} {st : List Value}
theorem nw_map {pc' : Nat} {st' : List Value} (h : ∀ (H : Heap) (locs : List Loc) (ls : Array Slot), lv_has ls nL lv → W (gp G) (gl G) (ge G) (gR G) (gs G) (gm G) (ga G) (gb G) (gt G) (gc G) H locs cells slots (gQ G) (F0 (gm G) pc' ls st') → W (gp G) (gl G) (ge G) (gR G) (gs G) (gm G) (ga G) (gb G) (gt G) (gc G) H locs cells slots (gQ G) (F0 (gm G) pc ls st)) (n : nwA P G nL K ρ cells slots pc' lv st') : nwA P G nL K ρ cells slots pc lv st :=
  fun hE H locs ls a b c => h H locs ls c (n hE H locs ls a b c)
theorem nw_iconst (C : nwC P G cc own k nL mc ms) {v : Int} {x : Int32} (d : decode cc pc = .ok (.iconst v, 1)) (hv : Int32.ofInt v = x) (n : nwA P G nL K ρ cells slots (pc + 1) lv (.int x :: st)) : nwA P G nL K ρ cells slots pc lv st := nw_map (fun _ _ _ _ w => lv_iconst C.1 C.2.1 d hv w) n
theorem nw_bipush (C : nwC P G cc own k nL mc ms) {v : Int} {x : Int32} (d : decode cc pc = .ok (.bipush v, 2)) (hv : (Int8.ofInt v).toInt32 = x) (n : nwA P G nL K ρ cells slots (pc + 2) lv (.int x :: st)) : nwA P G nL K ρ cells slots pc lv st := nw_map (fun _ _ _ _ w => lv_bipush C.1 C.2.1 d hv w) n
theorem nw_sipush (C : nwC P G cc own k nL mc ms) {v : Int} {x : Int32} (d : decode cc pc = .ok (.sipush v, 3)) (hv : (Int16.ofInt v).toInt32 = x) (n : nwA P G nL K ρ cells slots (pc + 3) lv (.int x :: st)) : nwA P G nL K ρ cells slots pc lv st := nw_map (fun _ _ _ _ w => lv_sipush C.1 C.2.1 d hv w) n
theorem nw_aload_n (C : nwC P G cc own k nL mc ms) {q : Fin 4} {x : Nat} (j : Nat) (d : decode cc pc = .ok (.aload_n q, 1)) (hl : lv[j]? = some ((q : Nat), .ref x)) (n : nwA P G nL K ρ cells slots (pc + 1) lv (.ref x :: st)) : nwA P G nL K ρ cells slots pc lv st := nw_map (fun _ _ _ hL w => lv_aload_n C.1 C.2.1 d rfl (lv_at hL j hl) w) n
theorem nw_dup (C : nwC P G cc own k nL mc ms) {x : Value} (d : decode cc pc = .ok (.dup, 1)) (hc : x.category = 1) (n : nwA P G nL K ρ cells slots (pc + 1) lv (x :: x :: st)) : nwA P G nL K ρ cells slots pc lv (x :: st) := nw_map (fun _ _ _ _ w => lv_dup C.1 C.2.1 d hc w) n
theorem nw_astore_n (C : nwC P G cc own k nL mc ms) {q : Fin 4} {i : Nat} {x : Nat} {lv' : List (Nat × Value)} (d : decode cc pc = .ok (.astore_n q, 1)) (hi : (q : Nat) = i) (hn : i < nL) (hl : (i, Value.ref x) :: lv.filter (fun q => !(q.1 == i) && !(q.1 + 1 == i && q.2.category == 2)) = lv') (n : nwA P G nL K ρ cells slots (pc + 1) lv' st) : nwA P G nL K ρ cells slots pc lv (.ref x :: st) := by
  intro hE H locs ls hP hS hL
  exact lv_astore_n C.1 C.2.1 d hi hL hn hl (fun ls2 hL2 => n hE H locs ls2 hP hS hL2)
theorem nw_istore_n (C : nwC P G cc own k nL mc ms) {q : Fin 4} {i : Nat} {x : Int32} {lv' : List (Nat × Value)} (d : decode cc pc = .ok (.istore_n q, 1)) (hi : (q : Nat) = i) (hn : i < nL) (hl : (i, Value.int x) :: lv.filter (fun q => !(q.1 == i) && !(q.1 + 1 == i && q.2.category == 2)) = lv') (n : nwA P G nL K ρ cells slots (pc + 1) lv' st) : nwA P G nL K ρ cells slots pc lv (.int x :: st) := by
  intro hE H locs ls hP hS hL
  exact lv_istore_n C.1 C.2.1 d hi hL hn hl (fun ls2 hL2 => n hE H locs ls2 hP hS hL2)
theorem nw_vret (E : nwE P G cc K ρ cells slots) (d : decode cc pc = .ok (.return_, 1)) : nwA P G nL K ρ cells slots pc lv [] := fun _ H locs ls hP hS _ => E H locs ls pc hP hS d
theorem nw_obj (C : nwC P G cc own k nL mc ms) {idx c : Nat} (d : decode cc pc = .ok (.invokespecial idx, 3)) (h1 : Cond.methodLink own idx objectInit ∈ TBL) (h2 : Cond.instanceMethod objectInit ∈ TBL) (h3 : Cond.code objectInit ⟨#[0xb1]⟩ 1 none ∈ TBL) (hk : 1 ≤ k) (n : nwA P G nL K ρ cells slots (pc + 3) lv []) : nwA P G nL K ρ cells slots pc lv [rf P c] := by
  intro hE H locs ls hP hS hL
  obtain ⟨hx, hb, hml, hown, hts, -, hR, -⟩ := C
  refine W.objInit hx hb hown (hts _ h1) (hts _ h2) (hts _ h3) rfl (by rw [hml]; exact hL.1) rfl d (Nat.le_trans hk hR.1) ?_ (W.eq (g2 := F0 (gm G) (pc + 3) ls []) rfl (n hE H locs ls hP hS hL))
  show 2 * 0 + 0 + 12 ≤ (gR G).locals
  have := hR.2
  omega
theorem nw_hA (C : nwC P G cc own k nL mc ms) : ∀ q, (gs G).heap.size ≤ q → nwB P q := fun _ h => Nat.le_trans C.2.2.2.2.2.2.2.2 h
theorem nw_newc (C : nwC P G cc own k nL mc ms) {C1 : String} {T : u_T} {N ci idx K' c' s' : Nat} {ty : Nat → FieldType} {fs : List Value} (d : decode cc pc = .ok (.new idx, 3)) (hc : vwCl[ci]? = some (C1, T, N)) (hin : ∀ w ∈ u_ws C1 T N, w ∈ TBL) (hty : ∀ k, k < N → parseFieldDescriptor (T k).2.2.1 = some (ty k)) (hfs : ∀ j, j < N → defaultValue (ty j) = vp_V fs j) (hw : Cond.classLink own idx C1 ∈ TBL ∧ Cond.instantiable C1 N ∈ TBL ∧ Cond.initialized C1 ∈ TBL) (hK : K + 1 = K') (hc' : cells + 1 = c') (hs' : slots + N = s') (hb : c' ≤ mc ∧ s' ≤ ms) (n : nwA P G nL K' (upC ρ K (.inr (ci, fs))) c' s' (pc + 3) lv (rf P K :: st)) : nwA P G nL K ρ cells slots pc lv st := by
  subst hK
  subst hc'
  subst hs'
  intro hE H locs ls hP hS hL
  have hts := C.2.2.2.2.1
  refine va_new (ci := ci) (fs := fs) C.1 C.2.1 (Ts := TBL) hts hin ty hty C.2.2.2.1 (hts _ hw.1) (hts _ hw.2.1) (hts _ hw.2.2) C.2.2.2.2.2.1.1 hP nwW_D hS (nw_hA C) hc hfs (Nat.le_trans hb.1 C.2.2.2.2.2.2.2.1.1) (Nat.le_trans hb.2 C.2.2.2.2.2.2.2.1.2) d (fun q H1 hP1 hD1 hS1 => ?_)
  refine nw_size (fun z1 z2 => ?_)
  have hq : q = pb P + K := nw_q hP1 hD1 (by omega)
  subst hq
  rw [nwW_snoc] at hP1
  exact n (by omega) H1 locs ls hP1 hS1 hL
theorem nw_one {t : FieldType} {cA : ClassId} {i : Nat} {s : State} (hK : va_K (pD P) vwCl (tysP P) s) (hK2 : va_K (pD P) vwCl (tysP P ++ [(cA, t)]) s) (hi : (tysP P)[i]? = some (pY P i, t)) (ht : ∀ c, va_RA s c t → s.vm.findClass ("[" ++ t.toString) = some c) : cA = pY P i := by
  have h1 := ht _ (hK.2 i _ hi).2
  have h2 := ht _ (hK2.2 4 (cA, t) rfl).2
  exact Option.some.inj (h2.symm.trans h1)
theorem nw_newi (C : nwC P G cc own k nL mc ms) {x : Int32} {N K' c' s' : Nat} (d : decode cc pc = .ok (.newarray .int, 2)) (hx : ¬ x < 0 ∧ x.toNatClampNeg = N ∧ N * componentBytes .int ≤ 536870912) (hw : Cond.arrayClass .int ∈ TBL) (hK : K + 1 = K') (hc' : cells + 1 = c') (hs' : slots + N = s') (hb : c' ≤ mc ∧ s' ≤ ms) (n : nwA P G nL K' (upC ρ K (.inl (pY P 0, N, .inl (fun _ => 0)))) c' s' (pc + 2) lv (rf P K :: st)) : nwA P G nL K ρ cells slots pc lv (.int x :: st) := by
  subst hK
  subst hc'
  subst hs'
  intro hE H locs ls hP hS hL
  refine va_newa (atype := .int) (a0 := (N, .inl (fun _ => 0))) C.1 C.2.1 (C.2.2.2.2.1 _ hw) rfl C.2.2.2.2.2.1.1 hP nwW_D hS (nw_hA C) (fun _ => rfl) hx.1 hx.2.1 hx.2.2 (Nat.le_trans hb.1 C.2.2.2.2.2.2.2.1.1) (Nat.le_trans hb.2 C.2.2.2.2.2.2.2.1.2) d (fun q cA H1 hK1 hP1 hD1 hS1 => ?_)
  have hA : cA = pY P 0 := nw_one (i := 0) C.2.2.2.2.2.1.1 hK1 rfl (fun _ h => h)
  subst hA
  refine nw_size (fun z1 z2 => ?_)
  have hq : q = pb P + K := nw_q hP1 hD1 (by omega)
  subst hq
  rw [nwW_snoc] at hP1
  exact n (by omega) H1 locs ls hP1 hS1 hL
theorem nw_newl (C : nwC P G cc own k nL mc ms) {x : Int32} {N K' c' s' : Nat} (d : decode cc pc = .ok (.newarray .long, 2)) (hx : ¬ x < 0 ∧ x.toNatClampNeg = N ∧ N * componentBytes .long ≤ 536870912) (hw : Cond.arrayClass .long ∈ TBL) (hK : K + 1 = K') (hc' : cells + 1 = c') (hs' : slots + N = s') (hb : c' ≤ mc ∧ s' ≤ ms) (n : nwA P G nL K' (upC ρ K (.inl (pY P 1, N, .inr (.inl (fun _ => 0))))) c' s' (pc + 2) lv (rf P K :: st)) : nwA P G nL K ρ cells slots pc lv (.int x :: st) := by
  subst hK
  subst hc'
  subst hs'
  intro hE H locs ls hP hS hL
  refine va_newa (atype := .long) (a0 := (N, .inr (.inl (fun _ => 0)))) C.1 C.2.1 (C.2.2.2.2.1 _ hw) rfl C.2.2.2.2.2.1.1 hP nwW_D hS (nw_hA C) (fun _ => rfl) hx.1 hx.2.1 hx.2.2 (Nat.le_trans hb.1 C.2.2.2.2.2.2.2.1.1) (Nat.le_trans hb.2 C.2.2.2.2.2.2.2.1.2) d (fun q cA H1 hK1 hP1 hD1 hS1 => ?_)
  have hA : cA = pY P 1 := nw_one (i := 1) C.2.2.2.2.2.1.1 hK1 rfl (fun _ h => h)
  subst hA
  refine nw_size (fun z1 z2 => ?_)
  have hq : q = pb P + K := nw_q hP1 hD1 (by omega)
  subst hq
  rw [nwW_snoc] at hP1
  exact n (by omega) H1 locs ls hP1 hS1 hL
theorem nw_newp (C : nwC P G cc own k nL mc ms) {x : Int32} {N K' c' s' idx : Nat} (d : decode cc pc = .ok (.anewarray idx, 3)) (hx : ¬ x < 0 ∧ x.toNatClampNeg = N ∧ N * 4 ≤ 536870912) (hw : Cond.classLink own idx "HadForVoice$Person" ∈ TBL) (hK : K + 1 = K') (hc' : cells + 1 = c') (hs' : slots + N = s') (hb : c' ≤ mc ∧ s' ≤ ms) (n : nwA P G nL K' (upC ρ K (.inl (pY P 3, N, .inr (.inr (.inr (.inr (fun _ => none))))))) c' s' (pc + 3) lv (rf P K :: st)) : nwA P G nL K ρ cells slots pc lv (.int x :: st) := by
  subst hK
  subst hc'
  subst hs'
  intro hE H locs ls hP hS hL
  refine va_newq C.1 C.2.1 C.2.2.2.1 (C.2.2.2.2.1 _ hw) C.2.2.2.2.2.1.2.2.1 C.2.2.2.2.2.1.1 hP nwW_D hS (nw_hA C) hx.1 hx.2.1 hx.2.2 (Nat.le_trans hb.1 C.2.2.2.2.2.2.2.1.1) (Nat.le_trans hb.2 C.2.2.2.2.2.2.2.1.2) d (fun q cA H1 hK1 hP1 hD1 hS1 => ?_)
  have hA : cA = pY P 3 := nw_one (i := 3) C.2.2.2.2.2.1.1 hK1 rfl (fun _ h => by
    obtain ⟨_, _, _, _, _, h4⟩ := h
    exact h4)
  subst hA
  refine nw_size (fun z1 z2 => ?_)
  have hq : q = pb P + K := nw_q hP1 hD1 (by omega)
  subst hq
  rw [nwW_snoc] at hP1
  exact n (by omega) H1 locs ls hP1 hS1 hL
theorem nw_ext {cA : ClassId} {N : Nat} {f g : Nat → Option Nat} (h : ∀ j, j < N → f j = g j) : vp_cell cA (N, .inr (.inr (.inr (.inr f)))) = vp_cell cA (N, .inr (.inr (.inr (.inr g)))) := by
  rw [vp_cell_q, vp_cell_q]
  unfold arrV
  congr 1
  refine congrArg Array.ofFn (funext fun j => ?_)
  show va_rf (f j.val) = va_rf (g j.val)
  rw [h j.val j.isLt]
theorem nw_newm (C : nwC P G cc own k nL mc ms) {x y : Int32} {N M K' c' s' idx : Nat} (d : decode cc pc = .ok (.multianewarray idx 2, 4)) (hx : ¬ x < 0 ∧ x.toNatClampNeg = N ∧ N * 4 ≤ 536870912) (hy : ¬ y < 0 ∧ y.toNatClampNeg = M ∧ M * componentBytes .int ≤ 536870912 ∧ M ≤ 536870912) (hw : Cond.classLink own idx "[[I" ∈ TBL ∧ Cond.arrayClass .int ∈ TBL) (hK0 : 0 < K) (hK : K + 1 + N = K') (hc' : cells + 1 + N = c') (hs' : slots + N + N * M = s') (hb : c' ≤ mc ∧ s' ≤ ms) (n : nwA P G nL K' (upR ρ K N (.inl (pY P 2, N, .inr (.inr (.inr (.inr (fun j => some (pb P + (K + 1 + j)))))))) (.inl (pY P 0, M, .inl (fun _ => 0)))) c' s' (pc + 4) lv (rf P K :: st)) : nwA P G nL K ρ cells slots pc lv (.int y :: .int x :: st) := by
  subst hK
  subst hc'
  subst hs'
  intro hE H locs ls hP hS hL
  have hcy : (gs G).vm.findClass (FieldType.array .int).toString = some (pY P 0) := (C.2.2.2.2.2.1.1.2 0 _ rfl).2
  have hsz := nwS.size hP hK0
  refine nw_size (fun z1 z2 => ?_)
  have hH : H.size = pb P + K := by omega
  refine nw_mna (ty := .int) (z := (M, .inl (fun _ => 0))) C.1 C.2.1 C.2.2.2.1 (C.2.2.2.2.1 _ hw.1) C.2.2.2.2.2.1.2.2.2 (C.2.2.2.2.1 _ hw.2) hcy C.2.2.2.2.2.1.1 hP nwW_D hS (nw_hA C) hx.1 hy.1 hx.2.1 hy.2.1 hx.2.2 hy.2.2.1 hy.2.2.2 rfl rfl ?_ ?_ (fun c => ?_) d (fun cA H1 hz1 hK1 hP1 hD1 hS1 => ?_)
  · have := C.2.2.2.2.2.2.2.1.1
    have := hb.1
    omega
  · have := C.2.2.2.2.2.2.2.1.2
    have := hb.2
    omega
  · rw [vp_cell_i]
    exact arrV_new c M (.int 0)
  have hA : cA = pY P 2 := nw_one (i := 2) C.2.2.2.2.2.1.1 hK1 rfl (fun _ h => h)
  subst hA
  rw [hH] at hP1 ⊢
  refine n (by omega) H1 locs ls ?_ hS1 hL
  intro j q hq
  obtain ⟨hj, rfl⟩ := nwW_of hq
  by_cases h1 : j < K
  · rw [upR_ne (Or.inl h1)]
    exact hP1 j _ (by rw [List.getElem?_append_left (by rw [nwW_len]; exact h1)]; exact nwW_at h1)
  · have h0 : (nwW P K ρ ++ nw_rows (pb P + K) N (pY P 2) (pY P 0) (M, .inl (fun _ => 0)))[j]? = (nw_rows (pb P + K) N (pY P 2) (pY P 0) (M, .inl (fun _ => 0)))[j - K]? := by
      rw [List.getElem?_append_right (by rw [nwW_len]; omega), nwW_len]
    by_cases h2 : j = K
    · subst h2
      rw [upR_eq]
      have h3 := hP1 j _ (by rw [h0, Nat.sub_self]; rfl)
      have h4 : H1[pb P + j]? = some (vp_cell (pY P 2) (N, .inr (.inr (.inr (.inr (fun i => if i < N then some (pb P + j + 1 + i) else none)))))) := h3
      show H1[pb P + j]? = some (vp_cell _ _)
      rw [h4]
      refine congrArg some (nw_ext fun i hi => ?_)
      rw [if_pos hi]
      exact congrArg some (by omega)
    · rw [upR_in (by omega)]
      have h3 : (nw_rows (pb P + K) N (pY P 2) (pY P 0) (M, .inl (fun _ => 0)))[j - K]? = some (pb P + j, .inl (pY P 0, M, .inl (fun _ => 0))) := by
        obtain ⟨i, hi⟩ : ∃ i, j = K + 1 + i := ⟨j - K - 1, by omega⟩
        subst hi
        rw [show K + 1 + i - K = i + 1 by omega]
        show ((List.range N).map (fun i => ((pb P + K + 1 + i, .inl (pY P 0, M, .inl (fun _ => 0))) : Nat × va_E)))[i]? = _
        rw [List.getElem?_map, List.getElem?_range (by omega)]
        exact congrArg (fun x => some ((x, _) : Nat × va_E)) (by omega)
      exact hP1 j _ (h0.trans h3)
/-- a final field of the constructor's own class -/
def LKF (own : String) (idx ci j : Nat) (ty : FieldType) : Prop := ∃ (C : String) (T : u_T) (N : Nat) (t0 : Nat → FieldType), vwCl[ci]? = some (C, T, N) ∧ (∀ w ∈ u_ws C T N, w ∈ TBL) ∧ j < N ∧ Cond.fieldLink own idx (T j).1 (T j).2.1 (T j).2.2.1 ∈ TBL ∧ (∀ q, q < N → parseFieldDescriptor (T q).2.2.1 = some (t0 q)) ∧ (∀ a, a < N → ∀ b, b < N → a ≠ b → (T a).2.1 ≠ (T b).2.1) ∧ (T j).2.2.2 = true ∧ (T j).1 = own ∧ parseFieldDescriptor (T j).2.2.1 = some ty
theorem nw_putF (C : nwC P G cc own k nL mc ms) (hname : (gt G).name = "<init>") {idx ci j c : Nat} {ty : FieldType} {x : Value} {fs fs' : List Value} (d : decode cc pc = .ok (.putfield idx, 3)) (hl : LKF own idx ci j ty) (hc : c < K) (he : ρ c = .inr (ci, fs)) (hn : narrow ty x = x) (hfit : fits ty x = true) (hj : j < fs.length) (hfs : fs.set j x = fs') (n : nwA P G nL K (upC ρ c (.inr (ci, fs'))) cells slots (pc + 3) lv st) : nwA P G nL K ρ cells slots pc lv (x :: rf P c :: st) := by
  subst hfs
  obtain ⟨C1, T, N, t0, h1, h2, h3, h4, h5, h6, h7, h8, h9⟩ := hl
  intro hE H locs ls hP hS hL
  refine va_putF (Ts := TBL) C.1 C.2.1 C.2.2.2.2.1 h2 t0 h5 h6 C.2.2.2.1 C.2.2.2.2.2.1.1 hP nwW_D hS c (by rw [nwW_at hc, he]) h1 j h3 (C.2.2.2.2.1 _ h4) (fun _ q => q) h7 hname h8 h9 hn hfit hj d (fun H1 locs1 hP1 hD1 hS1 => ?_)
  rw [nwW_set] at hP1
  exact n hE H1 locs1 ls hP1 hS1 hL
theorem nw_put (C : nwC P G cc own k nL mc ms) {idx ci j c : Nat} {ty : FieldType} {x : Value} {fs fs' : List Value} (d : decode cc pc = .ok (.putfield idx, 3)) (hl : LKP own idx ci j ty) (hc : c < K) (he : ρ c = .inr (ci, fs)) (hn : narrow ty x = x) (hfit : fits ty x = true) (hj : j < fs.length) (hfs : fs.set j x = fs') (n : nwA P G nL K (upC ρ c (.inr (ci, fs'))) cells slots (pc + 3) lv st) : nwA P G nL K ρ cells slots pc lv (x :: rf P c :: st) := by
  subst hfs
  obtain ⟨C1, T, N, ref, t0, h1, h2, h3, h4, h5, h6, h7, h8, h9⟩ := hl
  intro hE H locs ls hP hS hL
  have hsame : ∀ x, (gs G).fieldFound? (T j).1 (T j).2.1 (T j).2.2.1 = some x → (gs G).fieldFound? ref (T j).2.1 (T j).2.2.1 = some x := by
    rcases h5 with h | h
    · rw [h]
      exact fun _ q => q
    · exact fun x q => u_same (C.2.2.2.2.1 _ h) x q
  refine va_put (Ts := TBL) C.1 C.2.1 C.2.2.2.2.1 h2 t0 h6 h7 C.2.2.2.1 C.2.2.2.2.2.1.1 hP nwW_D hS c (by rw [nwW_at hc, he]) h1 j h3 (C.2.2.2.2.1 _ h4) hsame h8 h9 hn hfit hj d (fun H1 locs1 hP1 hD1 hS1 => ?_)
  rw [nwW_set] at hP1
  exact n hE H1 locs1 ls hP1 hS1 hL
theorem nw_get (C : nwC P G cc own k nL mc ms) {idx ci j c : Nat} {x : Value} {fs : List Value} (d : decode cc pc = .ok (.getfield idx, 3)) (hl : LKI own idx ci j) (hc : c < K) (he : ρ c = .inr (ci, fs)) (hx : fs[j]? = some x) (n : nwA P G nL K ρ cells slots (pc + 3) lv (x :: st)) : nwA P G nL K ρ cells slots pc lv (rf P c :: st) := by
  obtain ⟨C1, T, N, ref, h1, h2, h3, h4, h5⟩ := hl
  intro hE H locs ls hP hS hL
  have hsame : ∀ x, (gs G).fieldFound? (T j).1 (T j).2.1 (T j).2.2.1 = some x → (gs G).fieldFound? ref (T j).2.1 (T j).2.2.1 = some x := by
    rcases h5 with h | h
    · rw [h]
      exact fun _ q => q
    · exact fun x q => u_same (C.2.2.2.2.1 _ h) x q
  exact va_get (Ts := TBL) C.1 C.2.1 C.2.2.2.2.1 h2 C.2.2.2.1 C.2.2.2.2.2.1.1 hP c (by rw [nwW_at hc, he]) h1 j h3 (C.2.2.2.2.1 _ h4) hsame hx d (n hE H locs ls hP hS hL)
theorem nw_iast (C : nwC P G cc own k nL mc ms) {c N i' : Nat} {i x : Int32} {f : Nat → Int32} (d : decode cc pc = .ok (.iastore, 1)) (hc : c < K) (he : ρ c = .inl (pY P 0, N, .inl f)) (hi : vp_in i N) (hi' : i.toNatClampNeg = i') (n : nwA P G nL K (upC ρ c (.inl (pY P 0, N, .inl (upd f i' x)))) cells slots (pc + 1) lv st) : nwA P G nL K ρ cells slots pc lv (.int x :: .int i :: rf P c :: st) := by
  subst hi'
  intro hE H locs ls hP hS hL
  refine va_iast C.1 C.2.1 C.2.2.2.2.2.1.1 hP nwW_D hS c 0 (by rw [nwW_at hc, he]) rfl hi d (fun H1 locs1 hP1 hD1 hS1 => ?_)
  rw [nwW_set] at hP1
  exact n hE H1 locs1 ls hP1 hS1 hL
/-- a thing's class may be stored in a row of persons -/
def nwT (ci : Nat) : Prop := ∃ (C : String) (T : u_T) (N : Nat), vwCl[ci]? = some (C, T, N) ∧ (C = "HadForVoice$Person" ∨ Cond.castable C RX4 ∈ NWC)
theorem nw_aast (C : nwC P G cc own k nL mc ms) {c v N i' ci : Nat} {i : Int32} {f : Nat → Option Nat} {vs : List Value} (d : decode cc pc = .ok (.aastore, 1)) (hc : c < K) (he : ρ c = .inl (pY P 3, N, .inr (.inr (.inr (.inr f))))) (hv : v < K) (hev : ρ v = .inr (ci, vs)) (hT : nwT ci) (hi : vp_in i N) (hi' : i.toNatClampNeg = i') (n : nwA P G nL K (upC ρ c (.inl (pY P 3, N, .inr (.inr (.inr (.inr (va_up f i' (some (pb P + v)))))))) ) cells slots (pc + 1) lv st) : nwA P G nL K ρ cells slots pc lv (rf P v :: .int i :: rf P c :: st) := by
  subst hi'
  intro hE H locs ls hP hS hL
  obtain ⟨C1, T, N1, h1, h2⟩ := hT
  have hr := va_recv (tys := tysP P) C.2.2.2.2.2.1.1 hP h1 (q0 := v) (by rw [nwW_at hv, hev])
  refine vb_astq (E := "HadForVoice$Person") (C := C1) C.1 C.2.1 C.2.2.2.2.2.1.1 hP nwW_D hS c 3 (by rw [nwW_at hc, he]) rfl hr ?_ hi d (fun H1 locs1 hP1 hD1 hS1 => ?_)
  · rcases h2 with h | h
    · subst h
      exact fun comp c0 a b => vb_asgS comp c0 a b
    · exact vb_asgC (C.2.2.2.2.2.1.2.1 _ h)
  · rw [nwW_set] at hP1
    exact n hE H1 locs1 ls hP1 hS1 hL
theorem nw_blind {av : List Value} {K : Nat} {ρ : Nat → va_E} : FrameBlind (va_Pc av (fun U => U.heap.size = pb P + K ∧ nwS P K ρ U.heap ∧ nwN P U)) := fun a U g mk q => by
  obtain ⟨q1, q2, q3, q4⟩ := q
  exact ⟨q1, q2, q3, nwN.same (u := U) (U := U.calling g mk a) rfl q4⟩
/-- a call of a constructor -/
def VWI (own : String) (idx : Nat) (y : MethodName) (cy : ByteArray) (n np : Nat) : Prop := Cond.code y cy n none ∈ TBL ∧ Cond.methodLink own idx y ∈ TBL ∧ Cond.instanceMethod y ∈ TBL ∧ Cond.initialized y.cls ∈ TBL ∧ n ≤ 81 ∧ y.name = "<init>" ∧ (y.cls ≠ "java/lang/invoke/MethodHandle" ∧ y.cls ≠ "java/lang/invoke/VarHandle" ∧ (parseMethodDescriptor y.desc).map (fun d => d.parameters.length) = some np)
def VWM (own : String) (idx : Nat) (y : MethodName) (cy : ByteArray) (n np : Nat) : Prop := Cond.code y cy n none ∈ TBL ∧ Cond.methodLinkNest own idx y "HadForVoice" ∈ NWC ∧ Cond.instanceMethod y ∈ TBL ∧ Cond.initialized y.cls ∈ TBL ∧ n ≤ 81 ∧ y.name = "<init>" ∧ (y.cls ≠ "java/lang/invoke/MethodHandle" ∧ y.cls ≠ "java/lang/invoke/VarHandle" ∧ (parseMethodDescriptor y.desc).map (fun d => d.parameters.length) = some np)
theorem nw_good {z : MethodName} {cz : ByteArray} {nz : Nat} (hz : Cond.code z cz nz none ∈ TBL) : GoodIn TBL (wY z cz nz none) := wY_good (ws := []) hz (fun _ h => by cases h)
theorem nw_fix (C : nwC P G cc own k nL mc ms) : CallFix (gp G) (gm G) (gc G) cc nL (gs G) (ga G) TBL own := ⟨C.1, C.2.1, C.2.2.1, C.2.2.2.1, C.2.2.2.2.1⟩
theorem nw_room (C : nwC P G cc own k nL mc ms) {k2 n2 : Nat} (hk : k2 + 1 ≤ k) (hn : n2 ≤ 81) : k2 + 1 ≤ (gR G).frames ∧ 8 + (n2 + 11) + 100 * k2 ≤ (gR G).locals := by
  have e := C.2.2.2.2.2.2.1
  refine ⟨Nat.le_trans hk e.1, ?_⟩
  have := e.2
  omega
theorem nw_call (C : nwC P G cc own k nL mc ms) {l : Launch} {idx np n2 k2 m1 s1 c K' c' s' : Nat} {y : MethodName} {cy : ByteArray} {As rest : List Value} {ρ' : Nat → va_E} (d : decode cc pc = .ok (.invokespecial idx, 3)) (vw : VWI own idx y cy n2 np) (hM : nwM l k2 y cy n2 m1 s1 K (rf P c :: As) P ρ ρ') (hl : gl G = l) (hk : k2 + 1 ≤ k) (hn : As.length = np) (hr : (rest.map fun v => v.category).sum ≤ 8) (hst : st = As.reverse ++ rf P c :: rest) (hK0 : 0 < K) (hK : K + m1 = K') (hc' : cells + m1 = c') (hs' : slots + s1 = s') (hb : c' ≤ mc ∧ s' ≤ ms) (n : nwA P G nL K' ρ' c' s' (pc + 3) lv rest) : nwA P G nL K ρ cells slots pc lv st := by
  subst hst
  subst hl
  subst hK
  subst hc'
  subst hs'
  intro hE H locs ls hP hS hL
  obtain ⟨v1, v2, v3, v4, v5, v6, v7⟩ := vw
  have hts := C.2.2.2.2.1
  have hsz := nwS.size hP hK0
  refine nw_size (fun z1 z2 => ?_)
  have hH : H.size = pb P + K := by omega
  refine va_callv (va_runI (As := As) (b := pb P + c) (rest := rest) (nw_fix C) hM (cwI np hts (nw_good v1) rfl rfl rfl (hts _ v4) (hts _ v2) (hts _ v3) v6 v7 (nw_room C hk v5)) ⟨nw_blind, fun U hU hW => ⟨rfl, by rw [hU]; exact hH, by rw [hU]; exact hP, C.2.2.2.2.2.1.warm hW⟩⟩ rfl hn hL.1 rfl (lv_room hr) d ⟨Nat.le_trans hb.1 C.2.2.2.2.2.2.2.1.1, Nat.le_trans hb.2 C.2.2.2.2.2.2.2.1.2⟩) hS (fun _ _ h => h) (fun _ h => h) (fun u t H1 locs1 ht _ hw hB _ _ hS1 => ?_)
  exact n (by omega) H1 locs1 ls (by rw [← ht]; exact hB) hS1 hL
theorem nw_callN (C : nwC P G cc own k nL mc ms) {l : Launch} {idx np n2 k2 m1 s1 c K' c' s' : Nat} {y : MethodName} {cy : ByteArray} {As rest : List Value} {ρ' : Nat → va_E} (d : decode cc pc = .ok (.invokespecial idx, 3)) (vw : VWM own idx y cy n2 np) (hM : nwM l k2 y cy n2 m1 s1 K (rf P c :: As) P ρ ρ') (hl : gl G = l) (hk : k2 + 1 ≤ k) (hn : As.length = np) (hr : (rest.map fun v => v.category).sum ≤ 8) (hst : st = As.reverse ++ rf P c :: rest) (hK0 : 0 < K) (hK : K + m1 = K') (hc' : cells + m1 = c') (hs' : slots + s1 = s') (hb : c' ≤ mc ∧ s' ≤ ms) (n : nwA P G nL K' ρ' c' s' (pc + 3) lv rest) : nwA P G nL K ρ cells slots pc lv st := by
  subst hst
  subst hl
  subst hK
  subst hc'
  subst hs'
  intro hE H locs ls hP hS hL
  obtain ⟨v1, v2, v3, v4, v5, v6, v7⟩ := vw
  have hts := C.2.2.2.2.1
  have hsz := nwS.size hP hK0
  refine nw_size (fun z1 z2 => ?_)
  have hH : H.size = pb P + K := by omega
  refine va_callv (va_runIN (As := As) (b := pb P + c) (rest := rest) (nw_fix C) hM ⟨va_cnB np hts (nw_good v1) rfl rfl rfl (C.2.2.2.2.2.1.2.1 _ v2) (hts _ v4) v7 (nw_room C hk v5), v6, hts _ v3⟩ ⟨nw_blind, fun U hU hW => ⟨rfl, by rw [hU]; exact hH, by rw [hU]; exact hP, C.2.2.2.2.2.1.warm hW⟩⟩ rfl hn hL.1 rfl (lv_room hr) d ⟨Nat.le_trans hb.1 C.2.2.2.2.2.2.2.1.1, Nat.le_trans hb.2 C.2.2.2.2.2.2.2.1.2⟩) hS (fun _ _ h => h) (fun _ h => h) (fun u t H1 locs1 ht _ hw hB _ _ hS1 => ?_)
  exact n (by omega) H1 locs1 ls (by rw [← ht]; exact hB) hS1 hL
end NWR
