/-! THE FLAT MEMORY: cells of ints and of longs, by cell and place (own work) -/
abbrev SG : Type := (Nat → Nat → Int32) × (Nat → Nat → Int64)
abbrev nx (i : Int32) : Nat := i.toNatClampNeg
abbrev ix (i : Int32) (n : Nat) : Prop := ¬ (i < 0 ∨ n ≤ i.toNatClampNeg)
def gd {α : Type} (c : Prop) [Decidable c] (x : Option α) : Option α := if c then x else none
def bnd {ρ α : Type} (x : Option (ρ × SG)) (K : ρ → SG → Option α) : Option α := match x with
  | none => none
  | some q => K q.1 q.2
def sx {α : Type} (σ : SG) (K : SG → Option α) : Option α := K σ
def lx {α β : Type} (x : β) (K : β → Option α) : Option α := K x
def uI (σ : SG) (c i : Nat) (v : Int32) : SG := (fun c' i' => if c' = c ∧ i' = i then v else σ.1 c' i', σ.2)
def uL (σ : SG) (c i : Nat) (v : Int64) : SG := (σ.1, fun c' i' => if c' = c ∧ i' = i then v else σ.2 c' i')
def cpI (σ : SG) (a b : Nat) (sp dp n : Int32) : SG := (fun c i => if c = b ∧ nx dp ≤ i ∧ i < nx dp + nx n then σ.1 a (nx sp + (i - nx dp)) else σ.1 c i, σ.2)
abbrev cpOk (sp dp n : Int32) (n0 n1 : Nat) : Prop := ¬ sp < 0 ∧ ¬ dp < 0 ∧ ¬ n < 0 ∧ nx sp + nx n ≤ n0 ∧ nx dp + nx n ≤ n1
def flI (σ : SG) (c n : Nat) (v : Int32) : SG := (fun c' i => if c' = c ∧ i < n then v else σ.1 c' i, σ.2)
def ush (x y : Int32) : Int32 := (x.toUInt32 >>> (y.toUInt32 &&& Int32.toUInt32 31)).toInt32
def lsl (x : Int64) (y : Int32) : Int64 := x <<< (y.toInt64 &&& 63)
def lsr (x : Int64) (y : Int32) : Int64 := x >>> (y.toInt64 &&& 63)
def lus (x : Int64) (y : Int32) : Int64 := (x.toUInt64 >>> (y.toInt64.toUInt64 &&& Int64.toUInt64 63)).toInt64
/-! THE LAYOUT: an object: its class and of each place 0 (int), 1 (boolean), 2 (long), c + 3 (a reference to cell c); an array: its kind (0 int, 1 long, 2 rows, 3 things), its length, the cell of its first row -/
abbrev LY : Type := (Nat × List Nat) ⊕ (Nat × Nat × Nat)
def lay (k : Nat) : LY := LYS.getD k (.inr (0, 0, 0))
def fldV (b : Nat) (σ : SG) (k j : Nat) : Nat → Value
  | 0 => .int (σ.1 k j)
  | 1 => .int (σ.1 k j)
  | 2 => .long (σ.2 k j)
  | c + 3 => .ref (b + c)
def celE (cy : Nat → ClassId) (b : Nat) (σ : SG) (k : Nat) : LY → va_E
  | .inl (ci, fs) => .inr (ci, (List.range fs.length).map fun j => fldV b σ k j (fs.getD j 0))
  | .inr (0, n, _) => .inl (cy 0, n, .inl (σ.1 k))
  | .inr (1, n, _) => .inl (cy 1, n, .inr (.inl (σ.2 k)))
  | .inr (q + 2, n, f) => .inl (cy (q + 2), n, .inr (.inr (.inr (.inr (fun j => some (b + (f + j)))))))
/-- what a world is: classes, array classes, the first cell, Strings, static rows -/
abbrev PT : Type := va_G × (Nat → ClassId) × Nat × (Nat → Nat) × (Nat → Nat) × Nat × Nat
abbrev pD (P : PT) : va_G := P.1
abbrev pY (P : PT) : Nat → ClassId := P.2.1
abbrev pb (P : PT) : Nat := P.2.2.1
abbrev pK (P : PT) : Nat → Nat := P.2.2.2.1
abbrev pV (P : PT) : Nat → Nat := P.2.2.2.2.1
abbrev pC (P : PT) : Nat := P.2.2.2.2.2.1
abbrev pA (P : PT) : Nat := P.2.2.2.2.2.2
abbrev rf (P : PT) (c : Nat) : Value := .ref (pb P + c)
def AA (P : PT) : Nat → Prop := fun q => pb P ≤ q ∧ q < pb P + MM
def wd (P : PT) (σ : SG) : va_W := (List.range MM).map fun k => (pb P + k, celE (pY P) (pb P) σ k (lay k))
def RP (P : PT) (σ : SG) (H : Heap) : Prop := va_P (pD P) vwCl (wd P σ) H
abbrev tysP (P : PT) : List (ClassId × FieldType) := [(pY P 0, .int), (pY P 1, .long), (pY P 2, .array .int), (pY P 3, .object "HadForVoice$Person")]
def KK (P : PT) (U : State) (H : Heap) : Prop :=
  va_K (pD P) vwCl (tysP P) U ∧
  (va_Z "HadForVoice" "CHANGES" "[I" (.ref (pC P)) (AA P) U H ∧ va_Z "HadForVoice" "ABOVE" "[I" (.ref (pA P)) (AA P) U H ∧ va_Z "java/lang/String" "COMPACT_STRINGS" "Z" (.int 1) (AA P) U H ∧ va_Zq "jdk/internal/util/Preconditions" "SIOOBE_FORMATTER" "Ljava/util/function/BiFunction;" (AA P) U H) ∧
  (va_T .int (pC P) 21 (fun j => .int (tCHANGES j)) (AA P) U H ∧ va_T .int (pA P) 6 (fun j => .int (tABOVE j)) (AA P) U H) ∧
  ((∀ q ∈ SRS, vk_R "HadForVoice$RuleText" q.1 q.2.1 (pK P q.2.2) U) ∧ vk_S nS sLen sByt (pK P) (pV P) (AA P) U H) ∧
  (∀ w ∈ NWS, va_Nw w U)
theorem KK.same {P : PT} {u U : State} {H : Heap} (hv : U.vm = u.vm) (h : KK P u H) : KK P U H := by
  obtain ⟨h1, ⟨h2, h3, h4, h4b⟩, ⟨h5, h6⟩, ⟨h7, h8⟩, h9⟩ := h
  have hA : u.vm.Alike U.vm := by rw [hv]; exact Vm.Alike.refl _
  exact ⟨va_K.moved hA h1, ⟨va_Z.moved hA h2, va_Z.moved hA h3, va_Z.moved hA h4, va_Zq.moved hA h4b⟩, ⟨va_T.moved hA h5, va_T.moved hA h6⟩, ⟨fun q hq => vk_R.same hv (h7 q hq), vk_S.moved hA h8⟩, fun w hw => va_Nw.same (NWS_ok w hw) hv.symm (h9 w hw)⟩
theorem KK.warm {P : PT} {u U : State} {H H1 : Heap} (hW : u.WarmedH U.vm) (hq : ∀ a : Nat, a < H.size → ¬ AA P a → H1[a]? = H[a]?) (h : KK P u H) : KK P U H1 := by
  obtain ⟨h1, ⟨h2, h3, h4, h4b⟩, ⟨h5, h6⟩, ⟨h7, h8⟩, h9⟩ := h
  have hA : u.vm.Alike U.vm := hW.alike
  exact ⟨va_K.moved hA h1, ⟨va_Z.moved hA (h2.kept hq), va_Z.moved hA (h3.kept hq), va_Z.moved hA (h4.kept hq), va_Zq.moved hA (h4b.kept hq)⟩, ⟨va_T.moved hA (h5.kept hq), va_T.moved hA (h6.kept hq)⟩, ⟨fun q hq => vk_R.warm hW (h7 q hq), vk_S.moved hA (h8.kept hq)⟩, fun w hw => NWS_warm hW w hw (h9 w hw)⟩
theorem wd_at {P : PT} {σ : SG} {k : Nat} {L : LY} (hk : k < MM) (hl : lay k = L) : (wd P σ)[k]? = some (pb P + k, celE (pY P) (pb P) σ k L) := by
  subst hl
  unfold wd
  rw [List.getElem?_map, List.getElem?_range hk]
  rfl
theorem wd_D (P : PT) (σ : SG) : va_D (AA P) (wd P σ) := by
  have hg : ∀ (k : Nat) (q : Nat × va_E), (wd P σ)[k]? = some q → k < MM ∧ q.1 = pb P + k := by
    intro k q hq
    unfold wd at hq
    rw [List.getElem?_map] at hq
    by_cases h : k < MM
    · rw [List.getElem?_range h] at hq
      cases hq
      exact ⟨h, rfl⟩
    · rw [List.getElem?_eq_none (by rw [List.length_range]; omega)] at hq
      cases hq
  refine ⟨fun i j p q hi hj h => ?_, fun k q hk => ?_⟩
  · have h1 := hg i p hi
    have h2 := hg j q hj
    rw [h1.2, h2.2] at h
    omega
  · have h1 := hg k q hk
    rw [h1.2]
    exact ⟨by omega, by omega⟩
theorem wd_set {P : PT} {σ σ' : SG} {k : Nat} {e : va_E} (he : celE (pY P) (pb P) σ' k (lay k) = e) (ho : ∀ j, j ≠ k → ∀ L, celE (pY P) (pb P) σ' j L = celE (pY P) (pb P) σ j L) : (wd P σ).set k (pb P + k, e) = wd P σ' := by
  subst he
  apply List.ext_getElem?
  intro j
  unfold wd
  rw [List.getElem?_set, List.getElem?_map, List.getElem?_map, List.length_map, List.length_range]
  by_cases hj : j < MM
  · rw [List.getElem?_range hj]
    by_cases h : k = j
    · subst h
      simp [hj]
    · simp [h, ho j (fun q => h q.symm)]
  · rw [List.getElem?_eq_none (by rw [List.length_range]; omega)]
    by_cases h : k = j
    · subst h
      simp [hj]
    · simp [h]
theorem celE_uI {P : PT} {σ : SG} {c i : Nat} {v : Int32} {j : Nat} (h : j ≠ c) (L : LY) : celE (pY P) (pb P) (uI σ c i v) j L = celE (pY P) (pb P) σ j L := by
  have e : ∀ q, (uI σ c i v).1 j q = σ.1 j q := fun q => by simp [uI, h]
  match L with
  | .inl (ci, fs) =>
    have e2 : ∀ q t, fldV (pb P) (uI σ c i v) j q t = fldV (pb P) σ j q t := fun q t => by
      match t with
      | 0 => simp [fldV, e]
      | 1 => simp [fldV, e]
      | 2 => rfl
      | _ + 3 => rfl
    simp [celE, e2]
  | .inr (0, n, f) => simp only [celE]; rw [show (uI σ c i v).1 j = σ.1 j from funext e]
  | .inr (1, n, f) => rfl
  | .inr (q + 2, n, f) => rfl
theorem celE_uL {P : PT} {σ : SG} {c i : Nat} {v : Int64} {j : Nat} (h : j ≠ c) (L : LY) : celE (pY P) (pb P) (uL σ c i v) j L = celE (pY P) (pb P) σ j L := by
  have e : ∀ q, (uL σ c i v).2 j q = σ.2 j q := fun q => by simp [uL, h]
  match L with
  | .inl (ci, fs) =>
    have e2 : ∀ q t, fldV (pb P) (uL σ c i v) j q t = fldV (pb P) σ j q t := fun q t => by
      match t with
      | 0 => rfl
      | 1 => rfl
      | 2 => simp [fldV, e]
      | _ + 3 => rfl
    simp [celE, e2]
  | .inr (0, n, f) => rfl
  | .inr (1, n, f) => simp only [celE]; rw [show (uL σ c i v).2 j = σ.2 j from funext e]
  | .inr (q + 2, n, f) => rfl
/-! ROOM AND WORDS: the same for all methods -/
abbrev rmk (k : Nat) : Room := { frames := k, cells := 0, slots := 0, locals := 100 * k }
def EXW : List Cond := [.methodLink RX10 23 ⟨"HadForVoice$Miser", "gives", "(I)I"⟩, .sameMethod "HadForVoice$Miser" "HadForVoice$Person" "gives" "(I)I", .methodLink RX10 27 ⟨"HadForVoice$Miser", "owes", "(I)I"⟩, .sameMethod "HadForVoice$Miser" "HadForVoice$Person" "owes" "(I)I", .methodLink RX0 23 ⟨"HadForVoice$Prince", "takes", "(I)I"⟩, .sameMethod "HadForVoice$Prince" "HadForVoice$Person" "takes" "(I)I"]
def TBL : List Cond := EXW ++ wsL_law
theorem TBL_all : TBL.all goodWord = true := by decide +kernel
theorem inT0 : ∀ w ∈ wsX00, w ∈ TBL := fun w h => List.mem_append_right _ (inlX0 w h)
theorem inT1 : ∀ w ∈ wsX10, w ∈ TBL := fun w h => List.mem_append_right _ (inlX1 w h)
theorem inT2 : ∀ w ∈ wsX20, w ∈ TBL := fun w h => List.mem_append_right _ (inlX2 w h)
theorem inT3 : ∀ w ∈ wsX30, w ∈ TBL := fun w h => List.mem_append_right _ (inlX3 w h)
theorem inT4 : ∀ w ∈ wsX40, w ∈ TBL := fun w h => List.mem_append_right _ (inlX4 w h)
theorem inT5 : ∀ w ∈ wsX50, w ∈ TBL := fun w h => List.mem_append_right _ (inlX5 w h)
theorem inT6 : ∀ w ∈ wsX60, w ∈ TBL := fun w h => List.mem_append_right _ (inlX6 w h)
theorem inT7 : ∀ w ∈ wsX70, w ∈ TBL := fun w h => List.mem_append_right _ (inlX7 w h)
theorem inT8 : ∀ w ∈ wsX80, w ∈ TBL := fun w h => List.mem_append_right _ (inlX8 w h)
theorem inT9 : ∀ w ∈ wsX90, w ∈ TBL := fun w h => List.mem_append_right _ (inlX9 w h)
theorem inT10 : ∀ w ∈ wsX100, w ∈ TBL := fun w h => List.mem_append_right _ (inlX10 w h)
theorem inT11 : ∀ w ∈ wsX110, w ∈ TBL := fun w h => List.mem_append_right _ (inlX11 w h)
theorem inT12 : ∀ w ∈ wsX120, w ∈ TBL := fun w h => List.mem_append_right _ (inlX12 w h)
def wY (y : MethodName) (cc : ByteArray) (n : Nat) (ret : Option FieldType) : List Cond := .code y cc n ret :: TBL
/-! THE JUDGEMENT -/
abbrev GT : Type := (Nat × Nat) × Program × Launch × Env × Room × State × MethodId × Array Value × List Frame × Method × Code × (State → Prop)
abbrev gn (G : GT) : Nat × Nat := G.1
abbrev gp (G : GT) : Program := G.2.1
abbrev gl (G : GT) : Launch := G.2.2.1
abbrev ge (G : GT) : Env := G.2.2.2.1
abbrev gR (G : GT) : Room := G.2.2.2.2.1
abbrev gs (G : GT) : State := G.2.2.2.2.2.1
abbrev gm (G : GT) : MethodId := G.2.2.2.2.2.2.1
abbrev ga (G : GT) : Array Value := G.2.2.2.2.2.2.2.1
abbrev gb (G : GT) : List Frame := G.2.2.2.2.2.2.2.2.1
abbrev gt (G : GT) : Method := G.2.2.2.2.2.2.2.2.2.1
abbrev gc (G : GT) : Code := G.2.2.2.2.2.2.2.2.2.2.1
abbrev gQ (G : GT) : State → Prop := G.2.2.2.2.2.2.2.2.2.2.2
def WG (G : GT) (H : Heap) (locs : List Loc) (g : JFrame) : Prop := W (gp G) (gl G) (ge G) (gR G) (gs G) (gm G) (ga G) (gb G) (gt G) (gc G) H locs (gn G).1 (gn G).2 (gQ G) g
def CX (P : PT) (G : GT) (cc : ByteArray) (own : String) (k nL : Nat) : Prop :=
  (gp G).tables.exec = Jvm.exec ∧ (gc G).code = cc ∧ (gc G).maxLocals = nL ∧ (gs G).vm.findClass own = some (gm G).cls ∧ (∀ w ∈ TBL, w.before (ga G) (gs G) = true) ∧ KK P (gs G) (gs G).heap ∧ k ≤ (gR G).frames ∧ 100 * k ≤ (gR G).locals ∧ (gn G).1 ≤ (gR G).cells ∧ (gn G).2 ≤ (gR G).slots
def AW {ρ : Type} (P : PT) (G : GT) (nL : Nat) (E : ρ → SG → Prop) (X : Option (ρ × SG)) (σ : SG) (pc : Nat) (lv : List (Nat × Value)) (st : List Value) : Prop :=
  ∀ (r : ρ) (σ' : SG), X = some (r, σ') → E r σ' → ∀ (H : Heap) (locs : List Loc) (ls : Array Slot), RP P σ H → va_S (AA P) (gs G).heap H locs → lv_has ls nL lv → WG G H locs (F0 (gm G) pc ls st)
section AWR
variable {ρ : Type} {P : PT} {G : GT} {cc : ByteArray} {own : String} {k nL : Nat} {E : ρ → SG → Prop} {X Y : Option (ρ × SG)} {σ : SG} {pc pc' : Nat} {lv : List (Nat × Value)} {st st' : List Value}
theorem aw_map (h : ∀ (H : Heap) (locs : List Loc) (ls : Array Slot), RP P σ H → va_S (AA P) (gs G).heap H locs → lv_has ls nL lv → WG G H locs (F0 (gm G) pc' ls st') → WG G H locs (F0 (gm G) pc ls st)) (n : AW P G nL E X σ pc' lv st') : AW P G nL E X σ pc lv st :=
  fun r σ' hX hE H locs ls a b c => h H locs ls a b c (n r σ' hX hE H locs ls a b c)
theorem aw_none : AW P G nL E none σ pc lv st := fun _ _ h => by cases h
theorem aw_gd {c : Prop} [Decidable c] (n : c → AW P G nL E X σ pc lv st) : AW P G nL E (gd c X) σ pc lv st := by
  intro r σ' hX
  unfold gd at hX
  by_cases h : c
  · rw [if_pos h] at hX
    exact n h r σ' hX
  · rw [if_neg h] at hX
    cases hX
theorem aw_lv {lv' : List (Nat × Value)} (ks : List Nat) (hl : lv_pick lv ks = lv') (n : AW P G nL E X σ pc lv' st) : AW P G nL E X σ pc lv st :=
  fun r σ' hX hE H locs ls a b c => n r σ' hX hE H locs ls a b (lv_sub c ks hl)
theorem aw_iconst (K : CX P G cc own k nL) {v : Int} {x : Int32} (d : decode cc pc = .ok (.iconst v, 1)) (hv : Int32.ofInt v = x) (n : AW P G nL E X σ (pc + 1) lv (.int x :: st)) : AW P G nL E X σ pc lv (st) := aw_map (fun _ _ _ _ _ hL w => lv_iconst K.1 K.2.1 d hv w) n
theorem aw_bipush (K : CX P G cc own k nL) {v : Int} {x : Int32} (d : decode cc pc = .ok (.bipush v, 2)) (hv : (Int8.ofInt v).toInt32 = x) (n : AW P G nL E X σ (pc + 2) lv (.int x :: st)) : AW P G nL E X σ pc lv (st) := aw_map (fun _ _ _ _ _ hL w => lv_bipush K.1 K.2.1 d hv w) n
theorem aw_sipush (K : CX P G cc own k nL) {v : Int} {x : Int32} (d : decode cc pc = .ok (.sipush v, 3)) (hv : (Int16.ofInt v).toInt32 = x) (n : AW P G nL E X σ (pc + 3) lv (.int x :: st)) : AW P G nL E X σ pc lv (st) := aw_map (fun _ _ _ _ _ hL w => lv_sipush K.1 K.2.1 d hv w) n
theorem aw_lconst (K : CX P G cc own k nL) {v : Fin 2} {x : Int64} (d : decode cc pc = .ok (.lconst v, 1)) (hv : Int64.ofNat (v : Nat) = x) (n : AW P G nL E X σ (pc + 1) lv (.long x :: st)) : AW P G nL E X σ pc lv (st) := aw_map (fun _ _ _ _ _ hL w => lv_lconst K.1 K.2.1 d hv w) n
theorem aw_ldc (K : CX P G cc own k nL) {i : Nat} {x : Int32} (d : decode cc pc = .ok (.ldc i, 2)) (hw : Cond.constant own i x ∈ TBL) (n : AW P G nL E X σ (pc + 2) lv (.int x :: st)) : AW P G nL E X σ pc lv (st) := aw_map (fun _ _ _ _ _ hL w => lv_ldc K.1 K.2.1 K.2.2.2.1 (K.2.2.2.2.1 _ hw) d w) n
theorem aw_ldc2 (K : CX P G cc own k nL) {i : Nat} {x : Int64} (d : decode cc pc = .ok (.ldc2_w i, 3)) (hw : Cond.constantLong own i x ∈ TBL) (n : AW P G nL E X σ (pc + 3) lv (.long x :: st)) : AW P G nL E X σ pc lv (st) := aw_map (fun _ _ _ _ _ hL w => lv_ldc2 K.1 K.2.1 K.2.2.2.1 (K.2.2.2.2.1 _ hw) d w) n
theorem aw_iload_n (K : CX P G cc own k nL) {q : Fin 4} {x : Int32} (j : Nat) (d : decode cc pc = .ok (.iload_n q, 1)) (hl : lv[j]? = some ((q : Nat), .int x)) (n : AW P G nL E X σ (pc + 1) lv (.int x :: st)) : AW P G nL E X σ pc lv (st) := aw_map (fun _ _ _ _ _ hL w => lv_iload_n K.1 K.2.1 d rfl (lv_at hL j hl) w) n
theorem aw_iload (K : CX P G cc own k nL) {i : Nat} {x : Int32} (j : Nat) (d : decode cc pc = .ok (.iload i, 2)) (hl : lv[j]? = some (i, .int x)) (n : AW P G nL E X σ (pc + 2) lv (.int x :: st)) : AW P G nL E X σ pc lv (st) := aw_map (fun _ _ _ _ _ hL w => lv_iload K.1 K.2.1 d (lv_at hL j hl) w) n
theorem aw_lload_n (K : CX P G cc own k nL) {q : Fin 4} {x : Int64} (j : Nat) (d : decode cc pc = .ok (.lload_n q, 1)) (hl : lv[j]? = some ((q : Nat), .long x)) (n : AW P G nL E X σ (pc + 1) lv (.long x :: st)) : AW P G nL E X σ pc lv (st) := aw_map (fun _ _ _ _ _ hL w => lv_lload_n K.1 K.2.1 d rfl (lv_at hL j hl) w) n
theorem aw_lload (K : CX P G cc own k nL) {i : Nat} {x : Int64} (j : Nat) (d : decode cc pc = .ok (.lload i, 2)) (hl : lv[j]? = some (i, .long x)) (n : AW P G nL E X σ (pc + 2) lv (.long x :: st)) : AW P G nL E X σ pc lv (st) := aw_map (fun _ _ _ _ _ hL w => lv_lload K.1 K.2.1 d (lv_at hL j hl) w) n
theorem aw_aload_n (K : CX P G cc own k nL) {q : Fin 4} {x : Nat} (j : Nat) (d : decode cc pc = .ok (.aload_n q, 1)) (hl : lv[j]? = some ((q : Nat), .ref x)) (n : AW P G nL E X σ (pc + 1) lv (.ref x :: st)) : AW P G nL E X σ pc lv (st) := aw_map (fun _ _ _ _ _ hL w => lv_aload_n K.1 K.2.1 d rfl (lv_at hL j hl) w) n
theorem aw_aload (K : CX P G cc own k nL) {i : Nat} {x : Nat} (j : Nat) (d : decode cc pc = .ok (.aload i, 2)) (hl : lv[j]? = some (i, .ref x)) (n : AW P G nL E X σ (pc + 2) lv (.ref x :: st)) : AW P G nL E X σ pc lv (st) := aw_map (fun _ _ _ _ _ hL w => lv_aload K.1 K.2.1 d (lv_at hL j hl) w) n
theorem aw_istore_n (K : CX P G cc own k nL) {q : Fin 4} {i : Nat} {x : Int32} {lv' : List (Nat × Value)} (d : decode cc pc = .ok (.istore_n q, 1)) (hi : (q : Nat) = i) (hn : i < nL) (hl : (i, Value.int x) :: lv.filter (fun q => !(q.1 == i) && !(q.1 + 1 == i && q.2.category == 2)) = lv') (n : AW P G nL E X σ (pc + 1) lv' st) : AW P G nL E X σ pc lv (.int x :: st) := by
  intro r σ' hX hE H locs ls hR hS hL
  exact lv_istore_n K.1 K.2.1 d hi hL hn hl (fun ls2 hL2 => n r σ' hX hE H locs ls2 hR hS hL2)
theorem aw_istore (K : CX P G cc own k nL) {i : Nat} {x : Int32} {lv' : List (Nat × Value)} (d : decode cc pc = .ok (.istore i, 2)) (hn : i < nL) (hl : (i, Value.int x) :: lv.filter (fun q => !(q.1 == i) && !(q.1 + 1 == i && q.2.category == 2)) = lv') (n : AW P G nL E X σ (pc + 2) lv' st) : AW P G nL E X σ pc lv (.int x :: st) := by
  intro r σ' hX hE H locs ls hR hS hL
  exact lv_istore K.1 K.2.1 d hL hn hl (fun ls2 hL2 => n r σ' hX hE H locs ls2 hR hS hL2)
theorem aw_lstore_n (K : CX P G cc own k nL) {q : Fin 4} {i : Nat} {x : Int64} {lv' : List (Nat × Value)} (d : decode cc pc = .ok (.lstore_n q, 1)) (hi : (q : Nat) = i) (hn : i + 1 < nL) (hl : (i, Value.long x) :: lv.filter (fun q => !(q.1 == i) && (!(q.1 == i + 1) && !(q.1 + 1 == i && q.2.category == 2))) = lv') (n : AW P G nL E X σ (pc + 1) lv' st) : AW P G nL E X σ pc lv (.long x :: st) := by
  intro r σ' hX hE H locs ls hR hS hL
  exact lv_lstore_n K.1 K.2.1 d hi hL hn hl (fun ls2 hL2 => n r σ' hX hE H locs ls2 hR hS hL2)
theorem aw_lstore (K : CX P G cc own k nL) {i : Nat} {x : Int64} {lv' : List (Nat × Value)} (d : decode cc pc = .ok (.lstore i, 2)) (hn : i + 1 < nL) (hl : (i, Value.long x) :: lv.filter (fun q => !(q.1 == i) && (!(q.1 == i + 1) && !(q.1 + 1 == i && q.2.category == 2))) = lv') (n : AW P G nL E X σ (pc + 2) lv' st) : AW P G nL E X σ pc lv (.long x :: st) := by
  intro r σ' hX hE H locs ls hR hS hL
  exact lv_lstore K.1 K.2.1 d hL hn hl (fun ls2 hL2 => n r σ' hX hE H locs ls2 hR hS hL2)
theorem aw_astore_n (K : CX P G cc own k nL) {q : Fin 4} {i : Nat} {x : Nat} {lv' : List (Nat × Value)} (d : decode cc pc = .ok (.astore_n q, 1)) (hi : (q : Nat) = i) (hn : i < nL) (hl : (i, Value.ref x) :: lv.filter (fun q => !(q.1 == i) && !(q.1 + 1 == i && q.2.category == 2)) = lv') (n : AW P G nL E X σ (pc + 1) lv' st) : AW P G nL E X σ pc lv (.ref x :: st) := by
  intro r σ' hX hE H locs ls hR hS hL
  exact lv_astore_n K.1 K.2.1 d hi hL hn hl (fun ls2 hL2 => n r σ' hX hE H locs ls2 hR hS hL2)
theorem aw_astore (K : CX P G cc own k nL) {i : Nat} {x : Nat} {lv' : List (Nat × Value)} (d : decode cc pc = .ok (.astore i, 2)) (hn : i < nL) (hl : (i, Value.ref x) :: lv.filter (fun q => !(q.1 == i) && !(q.1 + 1 == i && q.2.category == 2)) = lv') (n : AW P G nL E X σ (pc + 2) lv' st) : AW P G nL E X σ pc lv (.ref x :: st) := by
  intro r σ' hX hE H locs ls hR hS hL
  exact lv_astore K.1 K.2.1 d hL hn hl (fun ls2 hL2 => n r σ' hX hE H locs ls2 hR hS hL2)
theorem aw_istoreX_n (K : CX P G cc own k nL) {q : Fin 4} {i : Nat} {x : Int32} {lv' : Int32 → List (Nat × Value)} {Kf : Int32 → Option (ρ × SG)} (d : decode cc pc = .ok (.istore_n q, 1)) (hi : (q : Nat) = i) (hn : i < nL) (hl : ∀ y, (i, Value.int y) :: lv.filter (fun q => !(q.1 == i) && !(q.1 + 1 == i && q.2.category == 2)) = lv' y) (n : ∀ y, AW P G nL E (Kf y) σ (pc + 1) (lv' y) st) : AW P G nL E (lx x Kf) σ pc lv (.int x :: st) := by
  intro r σ' hX hE H locs ls hR hS hL
  exact lv_istore_n K.1 K.2.1 d hi hL hn (hl x) (fun ls2 hL2 => n x r σ' hX hE H locs ls2 hR hS hL2)
theorem aw_istoreX (K : CX P G cc own k nL) {i : Nat} {x : Int32} {lv' : Int32 → List (Nat × Value)} {Kf : Int32 → Option (ρ × SG)} (d : decode cc pc = .ok (.istore i, 2)) (hn : i < nL) (hl : ∀ y, (i, Value.int y) :: lv.filter (fun q => !(q.1 == i) && !(q.1 + 1 == i && q.2.category == 2)) = lv' y) (n : ∀ y, AW P G nL E (Kf y) σ (pc + 2) (lv' y) st) : AW P G nL E (lx x Kf) σ pc lv (.int x :: st) := by
  intro r σ' hX hE H locs ls hR hS hL
  exact lv_istore K.1 K.2.1 d hL hn (hl x) (fun ls2 hL2 => n x r σ' hX hE H locs ls2 hR hS hL2)
theorem aw_lstoreX_n (K : CX P G cc own k nL) {q : Fin 4} {i : Nat} {x : Int64} {lv' : Int64 → List (Nat × Value)} {Kf : Int64 → Option (ρ × SG)} (d : decode cc pc = .ok (.lstore_n q, 1)) (hi : (q : Nat) = i) (hn : i + 1 < nL) (hl : ∀ y, (i, Value.long y) :: lv.filter (fun q => !(q.1 == i) && (!(q.1 == i + 1) && !(q.1 + 1 == i && q.2.category == 2))) = lv' y) (n : ∀ y, AW P G nL E (Kf y) σ (pc + 1) (lv' y) st) : AW P G nL E (lx x Kf) σ pc lv (.long x :: st) := by
  intro r σ' hX hE H locs ls hR hS hL
  exact lv_lstore_n K.1 K.2.1 d hi hL hn (hl x) (fun ls2 hL2 => n x r σ' hX hE H locs ls2 hR hS hL2)
theorem aw_lstoreX (K : CX P G cc own k nL) {i : Nat} {x : Int64} {lv' : Int64 → List (Nat × Value)} {Kf : Int64 → Option (ρ × SG)} (d : decode cc pc = .ok (.lstore i, 2)) (hn : i + 1 < nL) (hl : ∀ y, (i, Value.long y) :: lv.filter (fun q => !(q.1 == i) && (!(q.1 == i + 1) && !(q.1 + 1 == i && q.2.category == 2))) = lv' y) (n : ∀ y, AW P G nL E (Kf y) σ (pc + 2) (lv' y) st) : AW P G nL E (lx x Kf) σ pc lv (.long x :: st) := by
  intro r σ' hX hE H locs ls hR hS hL
  exact lv_lstore K.1 K.2.1 d hL hn (hl x) (fun ls2 hL2 => n x r σ' hX hE H locs ls2 hR hS hL2)
theorem aw_iinc (K : CX P G cc own k nL) {i : Nat} {v : Int} {x w : Int32} {lv' : Int32 → List (Nat × Value)} {Kf : Int32 → Option (ρ × SG)} (j : Nat) (d : decode cc pc = .ok (.iinc i v, 3)) (hj : lv[j]? = some (i, .int x)) (hv : Int32.ofInt v = w) (hn : i < nL) (hl : ∀ y, (i, Value.int y) :: lv.filter (fun q => !(q.1 == i) && !(q.1 + 1 == i && q.2.category == 2)) = lv' y) (n : ∀ y, AW P G nL E (Kf y) σ (pc + 3) (lv' y) st) : AW P G nL E (lx (x + w) Kf) σ pc lv st := by
  intro r σ' hX hE H locs ls hR hS hL
  subst hv
  exact lv_iinc K.1 K.2.1 d hL hj rfl hn (hl _) (fun ls2 hL2 => n _ r σ' hX hE H locs ls2 hR hS hL2)
theorem aw_iincW (K : CX P G cc own k nL) {i : Nat} {v : Int} {x w : Int32} {lv' : Int32 → List (Nat × Value)} {Kf : Int32 → Option (ρ × SG)} (j : Nat) (d : decode cc pc = .ok (.iinc i v, 6)) (hj : lv[j]? = some (i, .int x)) (hv : Int32.ofInt v = w) (hn : i < nL) (hl : ∀ y, (i, Value.int y) :: lv.filter (fun q => !(q.1 == i) && !(q.1 + 1 == i && q.2.category == 2)) = lv' y) (n : ∀ y, AW P G nL E (Kf y) σ (pc + 6) (lv' y) st) : AW P G nL E (lx (x + w) Kf) σ pc lv st := by
  intro r σ' hX hE H locs ls hR hS hL
  subst hv
  exact lv_iincW K.1 K.2.1 d hL hj rfl hn (hl _) (fun ls2 hL2 => n _ r σ' hX hE H locs ls2 hR hS hL2)
theorem aw_iadd (K : CX P G cc own k nL) {x y : Int32} (d : decode cc pc = .ok (.iadd, 1)) (n : AW P G nL E X σ (pc + 1) lv (.int (x + y) :: st)) : AW P G nL E X σ pc lv (.int y :: .int x :: st) := aw_map (fun _ _ _ _ _ hL w => lv_iadd K.1 K.2.1 d w) n
theorem aw_isub (K : CX P G cc own k nL) {x y : Int32} (d : decode cc pc = .ok (.isub, 1)) (n : AW P G nL E X σ (pc + 1) lv (.int (x - y) :: st)) : AW P G nL E X σ pc lv (.int y :: .int x :: st) := aw_map (fun _ _ _ _ _ hL w => lv_isub K.1 K.2.1 d w) n
theorem aw_imul (K : CX P G cc own k nL) {x y : Int32} (d : decode cc pc = .ok (.imul, 1)) (n : AW P G nL E X σ (pc + 1) lv (.int (x * y) :: st)) : AW P G nL E X σ pc lv (.int y :: .int x :: st) := aw_map (fun _ _ _ _ _ hL w => lv_imul K.1 K.2.1 d w) n
theorem aw_iand (K : CX P G cc own k nL) {x y : Int32} (d : decode cc pc = .ok (.iand, 1)) (n : AW P G nL E X σ (pc + 1) lv (.int (x &&& y) :: st)) : AW P G nL E X σ pc lv (.int y :: .int x :: st) := aw_map (fun _ _ _ _ _ hL w => lv_iand K.1 K.2.1 d w) n
theorem aw_ior (K : CX P G cc own k nL) {x y : Int32} (d : decode cc pc = .ok (.ior, 1)) (n : AW P G nL E X σ (pc + 1) lv (.int (x ||| y) :: st)) : AW P G nL E X σ pc lv (.int y :: .int x :: st) := aw_map (fun _ _ _ _ _ hL w => lv_ior K.1 K.2.1 d w) n
theorem aw_ixor (K : CX P G cc own k nL) {x y : Int32} (d : decode cc pc = .ok (.ixor, 1)) (n : AW P G nL E X σ (pc + 1) lv (.int (x ^^^ y) :: st)) : AW P G nL E X σ pc lv (.int y :: .int x :: st) := aw_map (fun _ _ _ _ _ hL w => lv_ixor K.1 K.2.1 d w) n
theorem aw_ladd (K : CX P G cc own k nL) {x y : Int64} (d : decode cc pc = .ok (.ladd, 1)) (n : AW P G nL E X σ (pc + 1) lv (.long (x + y) :: st)) : AW P G nL E X σ pc lv (.long y :: .long x :: st) := aw_map (fun _ _ _ _ _ hL w => lv_ladd K.1 K.2.1 d w) n
theorem aw_lsub (K : CX P G cc own k nL) {x y : Int64} (d : decode cc pc = .ok (.lsub, 1)) (n : AW P G nL E X σ (pc + 1) lv (.long (x - y) :: st)) : AW P G nL E X σ pc lv (.long y :: .long x :: st) := aw_map (fun _ _ _ _ _ hL w => lv_lsub K.1 K.2.1 d w) n
theorem aw_lmul (K : CX P G cc own k nL) {x y : Int64} (d : decode cc pc = .ok (.lmul, 1)) (n : AW P G nL E X σ (pc + 1) lv (.long (x * y) :: st)) : AW P G nL E X σ pc lv (.long y :: .long x :: st) := aw_map (fun _ _ _ _ _ hL w => lv_lmul K.1 K.2.1 d w) n
theorem aw_land (K : CX P G cc own k nL) {x y : Int64} (d : decode cc pc = .ok (.land, 1)) (n : AW P G nL E X σ (pc + 1) lv (.long (x &&& y) :: st)) : AW P G nL E X σ pc lv (.long y :: .long x :: st) := aw_map (fun _ _ _ _ _ hL w => lv_land K.1 K.2.1 d w) n
theorem aw_lor (K : CX P G cc own k nL) {x y : Int64} (d : decode cc pc = .ok (.lor, 1)) (n : AW P G nL E X σ (pc + 1) lv (.long (x ||| y) :: st)) : AW P G nL E X σ pc lv (.long y :: .long x :: st) := aw_map (fun _ _ _ _ _ hL w => lv_lor K.1 K.2.1 d w) n
theorem aw_lxor (K : CX P G cc own k nL) {x y : Int64} (d : decode cc pc = .ok (.lxor, 1)) (n : AW P G nL E X σ (pc + 1) lv (.long (x ^^^ y) :: st)) : AW P G nL E X σ pc lv (.long y :: .long x :: st) := aw_map (fun _ _ _ _ _ hL w => lv_lxor K.1 K.2.1 d w) n
theorem aw_idiv (K : CX P G cc own k nL) {x y : Int32} (d : decode cc pc = .ok (.idiv, 1)) (hz : ¬ y = 0) (n : AW P G nL E X σ (pc + 1) lv (.int (x / y) :: st)) : AW P G nL E X σ pc lv (.int y :: .int x :: st) := aw_map (fun _ _ _ _ _ hL w => lv_idiv K.1 K.2.1 d hz w) n
theorem aw_irem (K : CX P G cc own k nL) {x y : Int32} (d : decode cc pc = .ok (.irem, 1)) (hz : ¬ y = 0) (n : AW P G nL E X σ (pc + 1) lv (.int (x - x / y * y) :: st)) : AW P G nL E X σ pc lv (.int y :: .int x :: st) := aw_map (fun _ _ _ _ _ hL w => lv_irem K.1 K.2.1 d hz w) n
theorem aw_ineg (K : CX P G cc own k nL) {x : Int32} (d : decode cc pc = .ok (.ineg, 1)) (n : AW P G nL E X σ (pc + 1) lv (.int (-x) :: st)) : AW P G nL E X σ pc lv (.int x :: st) := aw_map (fun _ _ _ _ _ hL w => lv_ineg K.1 K.2.1 d w) n
theorem aw_ishl (K : CX P G cc own k nL) {x y : Int32} (d : decode cc pc = .ok (.ishl, 1)) (n : AW P G nL E X σ (pc + 1) lv (.int (x <<< (y &&& 31)) :: st)) : AW P G nL E X σ pc lv (.int y :: .int x :: st) := aw_map (fun _ _ _ _ _ hL w => lv_ishl K.1 K.2.1 d w) n
theorem aw_ishr (K : CX P G cc own k nL) {x y : Int32} (d : decode cc pc = .ok (.ishr, 1)) (n : AW P G nL E X σ (pc + 1) lv (.int (x >>> (y &&& 31)) :: st)) : AW P G nL E X σ pc lv (.int y :: .int x :: st) := aw_map (fun _ _ _ _ _ hL w => lv_ishr K.1 K.2.1 d w) n
theorem aw_iushr (K : CX P G cc own k nL) {x y : Int32} (d : decode cc pc = .ok (.iushr, 1)) (n : AW P G nL E X σ (pc + 1) lv (.int (ush x y) :: st)) : AW P G nL E X σ pc lv (.int y :: .int x :: st) := aw_map (fun _ _ _ _ _ hL w => lv_iushr K.1 K.2.1 d rfl w) n
theorem aw_lshl (K : CX P G cc own k nL) {x : Int64} {y : Int32} (d : decode cc pc = .ok (.lshl, 1)) (n : AW P G nL E X σ (pc + 1) lv (.long (lsl x y) :: st)) : AW P G nL E X σ pc lv (.int y :: .long x :: st) := aw_map (fun _ _ _ _ _ hL w => lv_lshl K.1 K.2.1 d rfl w) n
theorem aw_lshr (K : CX P G cc own k nL) {x : Int64} {y : Int32} (d : decode cc pc = .ok (.lshr, 1)) (n : AW P G nL E X σ (pc + 1) lv (.long (lsr x y) :: st)) : AW P G nL E X σ pc lv (.int y :: .long x :: st) := aw_map (fun _ _ _ _ _ hL w => lv_lshr K.1 K.2.1 d rfl w) n
theorem aw_lushr (K : CX P G cc own k nL) {x : Int64} {y : Int32} (d : decode cc pc = .ok (.lushr, 1)) (n : AW P G nL E X σ (pc + 1) lv (.long (lus x y) :: st)) : AW P G nL E X σ pc lv (.int y :: .long x :: st) := aw_map (fun _ _ _ _ _ hL w => lv_lushr K.1 K.2.1 d rfl w) n
theorem aw_i2l (K : CX P G cc own k nL) {x : Int32} (d : decode cc pc = .ok (.i2l, 1)) (n : AW P G nL E X σ (pc + 1) lv (.long x.toInt64 :: st)) : AW P G nL E X σ pc lv (.int x :: st) := aw_map (fun _ _ _ _ _ hL w => lv_i2l K.1 K.2.1 d rfl w) n
theorem aw_l2i (K : CX P G cc own k nL) {x : Int64} (d : decode cc pc = .ok (.l2i, 1)) (n : AW P G nL E X σ (pc + 1) lv (.int x.toInt32 :: st)) : AW P G nL E X σ pc lv (.long x :: st) := aw_map (fun _ _ _ _ _ hL w => lv_l2i K.1 K.2.1 d rfl w) n
theorem aw_i2b (K : CX P G cc own k nL) {x : Int32} (d : decode cc pc = .ok (.i2b, 1)) (n : AW P G nL E X σ (pc + 1) lv (.int x.toInt8.toInt32 :: st)) : AW P G nL E X σ pc lv (.int x :: st) := aw_map (fun _ _ _ _ _ hL w => lv_i2b K.1 K.2.1 d rfl w) n
theorem aw_i2s (K : CX P G cc own k nL) {x : Int32} (d : decode cc pc = .ok (.i2s, 1)) (n : AW P G nL E X σ (pc + 1) lv (.int x.toInt16.toInt32 :: st)) : AW P G nL E X σ pc lv (.int x :: st) := aw_map (fun _ _ _ _ _ hL w => lv_i2s K.1 K.2.1 d rfl w) n
theorem aw_lcmp (K : CX P G cc own k nL) {x y : Int64} (d : decode cc pc = .ok (.lcmp, 1)) (n : AW P G nL E X σ (pc + 1) lv (.int (lg_cmp x y) :: st)) : AW P G nL E X σ pc lv (.long y :: .long x :: st) := aw_map (fun _ _ _ _ _ hL w => W.lcmp K.1 K.2.1 d w) n
theorem aw_dup (K : CX P G cc own k nL) {x : Value} (d : decode cc pc = .ok (.dup, 1)) (hc : x.category = 1) (n : AW P G nL E X σ (pc + 1) lv (x :: x :: st)) : AW P G nL E X σ pc lv (x :: st) := aw_map (fun _ _ _ _ _ hL w => lv_dup K.1 K.2.1 d hc w) n
theorem aw_pop (K : CX P G cc own k nL) {x : Value} (d : decode cc pc = .ok (.pop, 1)) (hc : x.category = 1) (n : AW P G nL E X σ (pc + 1) lv (st)) : AW P G nL E X σ pc lv (x :: st) := aw_map (fun _ _ _ _ _ hL w => lv_pop K.1 K.2.1 d hc w) n
theorem aw_dup_x1 (K : CX P G cc own k nL) {x y : Value} (d : decode cc pc = .ok (.dup_x1, 1)) (hc : x.category = 1) (hd : y.category = 1) (n : AW P G nL E X σ (pc + 1) lv (x :: y :: x :: st)) : AW P G nL E X σ pc lv (x :: y :: st) := aw_map (fun _ _ _ _ _ hL w => lv_dup_x1 K.1 K.2.1 d hc hd w) n
theorem aw_dup2_11 (K : CX P G cc own k nL) {x y : Value} (d : decode cc pc = .ok (.dup2, 1)) (hc : x.category = 1) (hd : y.category = 1) (n : AW P G nL E X σ (pc + 1) lv (x :: y :: x :: y :: st)) : AW P G nL E X σ pc lv (x :: y :: st) := aw_map (fun _ _ _ _ _ hL w => lv_dup2_11 K.1 K.2.1 d hc hd w) n
theorem aw_dup2_2 (K : CX P G cc own k nL) {x : Value} (d : decode cc pc = .ok (.dup2, 1)) (hc : x.category = 2) (n : AW P G nL E X σ (pc + 1) lv (x :: x :: st)) : AW P G nL E X σ pc lv (x :: st) := aw_map (fun _ _ _ _ _ hL w => lv_dup2_2 K.1 K.2.1 d hc w) n
theorem aw_if_eq (K : CX P G cc own k nL) {x : Int32} {off : Int} (tgt : Nat) (d : decode cc pc = .ok (.ifCond .eq off, 3)) (ht : (pc : Int) + off = (tgt : Int)) (n1 : x = 0 → AW P G nL E X σ tgt lv st) (n2 : ¬ (x = 0) → AW P G nL E Y σ (pc + 3) lv st) : AW P G nL E (if x = 0 then X else Y) σ pc lv (.int x :: st) := by
  intro r σ' hX hE H locs ls hR hS hL
  refine lv_if_eq K.1 K.2.1 d ht (fun q => n1 q r σ' (by rw [← hX, if_pos q]) hE H locs ls hR hS hL) (fun q => n2 q r σ' (by rw [← hX, if_neg q]) hE H locs ls hR hS hL)
theorem aw_icmp_eq (K : CX P G cc own k nL) {x y : Int32} {off : Int} (tgt : Nat) (d : decode cc pc = .ok (.if_icmp .eq off, 3)) (ht : (pc : Int) + off = (tgt : Int)) (n1 : x = y → AW P G nL E X σ tgt lv st) (n2 : ¬ (x = y) → AW P G nL E Y σ (pc + 3) lv st) : AW P G nL E (if x = y then X else Y) σ pc lv (.int y :: .int x :: st) := by
  intro r σ' hX hE H locs ls hR hS hL
  refine lv_icmp_eq K.1 K.2.1 d ht (fun q => n1 q r σ' (by rw [← hX, if_pos q]) hE H locs ls hR hS hL) (fun q => n2 q r σ' (by rw [← hX, if_neg q]) hE H locs ls hR hS hL)
theorem aw_if_ne (K : CX P G cc own k nL) {x : Int32} {off : Int} (tgt : Nat) (d : decode cc pc = .ok (.ifCond .ne off, 3)) (ht : (pc : Int) + off = (tgt : Int)) (n1 : ¬ x = 0 → AW P G nL E X σ tgt lv st) (n2 : x = 0 → AW P G nL E Y σ (pc + 3) lv st) : AW P G nL E (if ¬ x = 0 then X else Y) σ pc lv (.int x :: st) := by
  intro r σ' hX hE H locs ls hR hS hL
  refine lv_if_ne K.1 K.2.1 d ht (fun q => n1 q r σ' (by rw [← hX, if_pos q]) hE H locs ls hR hS hL) (fun q => n2 q r σ' (by rw [← hX, if_neg (fun z => z q)]) hE H locs ls hR hS hL)
theorem aw_icmp_ne (K : CX P G cc own k nL) {x y : Int32} {off : Int} (tgt : Nat) (d : decode cc pc = .ok (.if_icmp .ne off, 3)) (ht : (pc : Int) + off = (tgt : Int)) (n1 : ¬ x = y → AW P G nL E X σ tgt lv st) (n2 : x = y → AW P G nL E Y σ (pc + 3) lv st) : AW P G nL E (if ¬ x = y then X else Y) σ pc lv (.int y :: .int x :: st) := by
  intro r σ' hX hE H locs ls hR hS hL
  refine lv_icmp_ne K.1 K.2.1 d ht (fun q => n1 q r σ' (by rw [← hX, if_pos q]) hE H locs ls hR hS hL) (fun q => n2 q r σ' (by rw [← hX, if_neg (fun z => z q)]) hE H locs ls hR hS hL)
theorem aw_if_lt (K : CX P G cc own k nL) {x : Int32} {off : Int} (tgt : Nat) (d : decode cc pc = .ok (.ifCond .lt off, 3)) (ht : (pc : Int) + off = (tgt : Int)) (n1 : x < 0 → AW P G nL E X σ tgt lv st) (n2 : ¬ (x < 0) → AW P G nL E Y σ (pc + 3) lv st) : AW P G nL E (if x < 0 then X else Y) σ pc lv (.int x :: st) := by
  intro r σ' hX hE H locs ls hR hS hL
  refine lv_if_lt K.1 K.2.1 d ht (fun q => n1 q r σ' (by rw [← hX, if_pos q]) hE H locs ls hR hS hL) (fun q => n2 q r σ' (by rw [← hX, if_neg q]) hE H locs ls hR hS hL)
theorem aw_icmp_lt (K : CX P G cc own k nL) {x y : Int32} {off : Int} (tgt : Nat) (d : decode cc pc = .ok (.if_icmp .lt off, 3)) (ht : (pc : Int) + off = (tgt : Int)) (n1 : x < y → AW P G nL E X σ tgt lv st) (n2 : ¬ (x < y) → AW P G nL E Y σ (pc + 3) lv st) : AW P G nL E (if x < y then X else Y) σ pc lv (.int y :: .int x :: st) := by
  intro r σ' hX hE H locs ls hR hS hL
  refine lv_icmp_lt K.1 K.2.1 d ht (fun q => n1 q r σ' (by rw [← hX, if_pos q]) hE H locs ls hR hS hL) (fun q => n2 q r σ' (by rw [← hX, if_neg q]) hE H locs ls hR hS hL)
theorem aw_if_ge (K : CX P G cc own k nL) {x : Int32} {off : Int} (tgt : Nat) (d : decode cc pc = .ok (.ifCond .ge off, 3)) (ht : (pc : Int) + off = (tgt : Int)) (n1 : 0 ≤ x → AW P G nL E X σ tgt lv st) (n2 : ¬ (0 ≤ x) → AW P G nL E Y σ (pc + 3) lv st) : AW P G nL E (if 0 ≤ x then X else Y) σ pc lv (.int x :: st) := by
  intro r σ' hX hE H locs ls hR hS hL
  refine lv_if_ge K.1 K.2.1 d ht (fun q => n1 q r σ' (by rw [← hX, if_pos q]) hE H locs ls hR hS hL) (fun q => n2 q r σ' (by rw [← hX, if_neg q]) hE H locs ls hR hS hL)
theorem aw_icmp_ge (K : CX P G cc own k nL) {x y : Int32} {off : Int} (tgt : Nat) (d : decode cc pc = .ok (.if_icmp .ge off, 3)) (ht : (pc : Int) + off = (tgt : Int)) (n1 : y ≤ x → AW P G nL E X σ tgt lv st) (n2 : ¬ (y ≤ x) → AW P G nL E Y σ (pc + 3) lv st) : AW P G nL E (if y ≤ x then X else Y) σ pc lv (.int y :: .int x :: st) := by
  intro r σ' hX hE H locs ls hR hS hL
  refine lv_icmp_ge K.1 K.2.1 d ht (fun q => n1 q r σ' (by rw [← hX, if_pos q]) hE H locs ls hR hS hL) (fun q => n2 q r σ' (by rw [← hX, if_neg q]) hE H locs ls hR hS hL)
theorem aw_if_gt (K : CX P G cc own k nL) {x : Int32} {off : Int} (tgt : Nat) (d : decode cc pc = .ok (.ifCond .gt off, 3)) (ht : (pc : Int) + off = (tgt : Int)) (n1 : 0 < x → AW P G nL E X σ tgt lv st) (n2 : ¬ (0 < x) → AW P G nL E Y σ (pc + 3) lv st) : AW P G nL E (if 0 < x then X else Y) σ pc lv (.int x :: st) := by
  intro r σ' hX hE H locs ls hR hS hL
  refine lv_if_gt K.1 K.2.1 d ht (fun q => n1 q r σ' (by rw [← hX, if_pos q]) hE H locs ls hR hS hL) (fun q => n2 q r σ' (by rw [← hX, if_neg q]) hE H locs ls hR hS hL)
theorem aw_icmp_gt (K : CX P G cc own k nL) {x y : Int32} {off : Int} (tgt : Nat) (d : decode cc pc = .ok (.if_icmp .gt off, 3)) (ht : (pc : Int) + off = (tgt : Int)) (n1 : y < x → AW P G nL E X σ tgt lv st) (n2 : ¬ (y < x) → AW P G nL E Y σ (pc + 3) lv st) : AW P G nL E (if y < x then X else Y) σ pc lv (.int y :: .int x :: st) := by
  intro r σ' hX hE H locs ls hR hS hL
  refine lv_icmp_gt K.1 K.2.1 d ht (fun q => n1 q r σ' (by rw [← hX, if_pos q]) hE H locs ls hR hS hL) (fun q => n2 q r σ' (by rw [← hX, if_neg q]) hE H locs ls hR hS hL)
theorem aw_if_le (K : CX P G cc own k nL) {x : Int32} {off : Int} (tgt : Nat) (d : decode cc pc = .ok (.ifCond .le off, 3)) (ht : (pc : Int) + off = (tgt : Int)) (n1 : x ≤ 0 → AW P G nL E X σ tgt lv st) (n2 : ¬ (x ≤ 0) → AW P G nL E Y σ (pc + 3) lv st) : AW P G nL E (if x ≤ 0 then X else Y) σ pc lv (.int x :: st) := by
  intro r σ' hX hE H locs ls hR hS hL
  refine lv_if_le K.1 K.2.1 d ht (fun q => n1 q r σ' (by rw [← hX, if_pos q]) hE H locs ls hR hS hL) (fun q => n2 q r σ' (by rw [← hX, if_neg q]) hE H locs ls hR hS hL)
theorem aw_icmp_le (K : CX P G cc own k nL) {x y : Int32} {off : Int} (tgt : Nat) (d : decode cc pc = .ok (.if_icmp .le off, 3)) (ht : (pc : Int) + off = (tgt : Int)) (n1 : x ≤ y → AW P G nL E X σ tgt lv st) (n2 : ¬ (x ≤ y) → AW P G nL E Y σ (pc + 3) lv st) : AW P G nL E (if x ≤ y then X else Y) σ pc lv (.int y :: .int x :: st) := by
  intro r σ' hX hE H locs ls hR hS hL
  refine lv_icmp_le K.1 K.2.1 d ht (fun q => n1 q r σ' (by rw [← hX, if_pos q]) hE H locs ls hR hS hL) (fun q => n2 q r σ' (by rw [← hX, if_neg q]) hE H locs ls hR hS hL)
theorem aw_goto (K : CX P G cc own k nL) {off : Int} (tgt : Nat) (d : decode cc pc = .ok (.goto off, 3)) (ht : (pc : Int) + off = (tgt : Int)) (n : AW P G nL E X σ tgt lv st) : AW P G nL E X σ pc lv st := aw_map (fun _ _ _ _ _ _ w => lv_goto K.1 K.2.1 d ht w) n
theorem aw_ite {c : Prop} [Decidable c] (n1 : c → AW P G nL E X σ pc lv st) (n2 : ¬ c → AW P G nL E Y σ pc lv st) : AW P G nL E (if c then X else Y) σ pc lv st := by
  intro r σ' hX
  by_cases h : c
  · rw [if_pos h] at hX
    exact n1 h r σ' hX
  · rw [if_neg h] at hX
    exact n2 h r σ' hX
theorem aw_tabIn (K : CX P G cc own k nL) {dflt lo hi : Int} {offs : Array Int} {len : Nat} {x : Int32} {off : Int} (tgt : Nat) (v : Int) (d : decode cc pc = .ok (.tableswitch dflt lo hi offs, len)) (hx : x.toInt = v) (h1 : ¬ v < lo) (h2 : ¬ hi < v) (ho : offs[(v - lo).toNat]? = some off) (ht : (pc : Int) + off = (tgt : Int)) (n : AW P G nL E X σ tgt lv st) : AW P G nL E X σ pc lv (.int x :: st) := by
  subst hx
  exact aw_map (fun _ _ _ _ _ _ w => lv_tableIn K.1 K.2.1 d h1 h2 ho ht w) n
theorem aw_tabOut (K : CX P G cc own k nL) {dflt lo hi : Int} {offs : Array Int} {len : Nat} {x : Int32} (tgt : Nat) (d : decode cc pc = .ok (.tableswitch dflt lo hi offs, len)) (h : x.toInt < lo ∨ hi < x.toInt) (ht : (pc : Int) + dflt = (tgt : Int)) (n : AW P G nL E X σ tgt lv st) : AW P G nL E X σ pc lv (.int x :: st) := aw_map (fun _ _ _ _ _ _ w => lv_tableOut K.1 K.2.1 d h ht w) n
theorem aw_look (K : CX P G cc own k nL) {dflt : Int} {ps : Array (Int × Int)} {len : Nat} {x : Int32} {off : Int} (tgt : Nat) (d : decode cc pc = .ok (.lookupswitch dflt ps, len)) (hp : (ps.toList.zip (ps.toList.drop 1)).all (fun (a, next) => a.1 < next.1) = true) (ho : Op.lookupswitch.offset ps.toList dflt x.toInt = off) (ht : (pc : Int) + off = (tgt : Int)) (n : AW P G nL E X σ tgt lv st) : AW P G nL E X σ pc lv (.int x :: st) := aw_map (fun _ _ _ _ _ _ w => lv_lookup K.1 K.2.1 d hp ho ht w) n
end AWR
