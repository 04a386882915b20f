/-! A ROW OF ROWS made, its addresses told -/
/-- the row of rows behind i rows' making -/
theorem nw_outer (c : ClassId) (N h0 : Nat) (i : Nat) : Jvm.Free.Multi.outerC c N h0 i = arrV c N (fun j => va_rf (if j < i then some (h0 + 1 + j) else none)) := by
  induction i with
  | zero =>
    show ({ cls := c, slots := Array.replicate N .null, vm := .none } : Cell) = _
    rw [arrV_new]
    exact congrArg (arrV c N) (funext fun j => by simp [va_rf])
  | succ i ih =>
    show (Jvm.Free.Multi.outerC c N h0 i).setSlot i (.ref (h0 + 1 + i)) = _
    rw [ih, arrV_store]
    refine congrArg (arrV c N) (funext fun j => ?_)
    by_cases e : j = i
    · subst e
      simp [updV, va_rf]
    · by_cases h : j < i
      · simp [updV, e, h, Nat.lt_succ_of_lt h]
      · simp [updV, e, h, show ¬ j < i + 1 by omega]
section GRW
variable {p : Program} {l : Launch} {e : Env} {R : Room} {s : State} {m : MethodId} {args : Array Value} {below : List Frame} {meth : Method} {c : Code} {H : Heap} {locs : List Loc} {cells slots : Nat} {Q : State → Prop}
variable {cc : ByteArray} {pc : Nat} {ls : Array Slot} {rest : List Value} {D : va_G} {cl : List vw_C} {A : Nat → Prop} {tys : List (ClassId × FieldType)} {ws : va_W} {H0 : Heap}
/-- the row of rows, and the rows behind it -/
def nw_rows (h N : Nat) (cA cy : ClassId) (z : vp_A) : va_W := (h, .inl (cA, N, .inr (.inr (.inr (.inr (fun i => if i < N then some (h + 1 + i) else none)))))) :: (List.range N).map (fun i => (h + 1 + i, .inl (cy, z)))
theorem nw_rows_at {h N : Nat} {cA cy : ClassId} {z : vp_A} : ∀ (j : Nat) (x : Nat × va_E), (nw_rows h N cA cy z)[j]? = some x → x.1 = h + j ∧ j ≤ N ∧ (1 ≤ j → x.2 = .inl (cy, z)) := by
  intro j x hx
  cases j with
  | zero => cases hx; exact ⟨rfl, Nat.zero_le _, fun q => absurd q (by decide)⟩
  | succ j =>
    have hx2 : ((List.range N).map (fun i => ((h + 1 + i, .inl (cy, z)) : Nat × va_E)))[j]? = some x := hx
    rw [List.getElem?_map] at hx2
    by_cases hj : j < N
    · rw [List.getElem?_range hj] at hx2
      cases hx2
      exact ⟨by show h + 1 + j = h + (j + 1); omega, by omega, fun _ => rfl⟩
    · rw [List.getElem?_eq_none (by rw [List.length_range]; omega)] at hx2
      cases hx2
theorem nw_mna (hexec : p.tables.exec = Jvm.exec) (hb : c.code = cc) {own : String} {index : Nat} {ty : FieldType} {cy : ClassId} (hown : s.vm.findClass own = some m.cls) (hclink : (Cond.classLink own index ("[" ++ (FieldType.array ty).toString)).before args s = true) (hover : (Cond.arrayOver (.array ty)).before args s = true) (harr : (Cond.arrayClass ty).before args s = true) (hcy : s.vm.findClass (FieldType.array ty).toString = some cy) (hK : va_K D cl tys s) (hP : va_P D cl ws H) (hD : va_D A ws) (hS : va_S A H0 H locs) (hA : ∀ q, H0.size ≤ q → A q) {n k : Int32} {N' K' : Nat} {z : vp_A} (hn : ¬ n < 0) (hk : ¬ k < 0) (hN : n.toNatClampNeg = N') (hM : k.toNatClampNeg = K') (hb1 : N' * 4 ≤ 536870912) (hb2 : K' * componentBytes ty ≤ 536870912) (hb3 : K' ≤ 536870912) (hdf : fits ty (defaultValue ty) = true) (hdd : (defaultValue ty).isDefault = true) (hcells : cells + (1 + N') ≤ R.cells) (hslots : slots + (N' + N' * K') ≤ R.slots) (hz : ∀ c : ClassId, Jvm.Free.Multi.innerC c K' (defaultValue ty) = vp_cell c z) (hdg : decode cc pc = .ok (.multianewarray index 2, 4))
    (kk : ∀ (cA : ClassId) (H1 : Heap), H1.size = H.size + 1 + N' → va_K D cl (tys ++ [(cA, .array ty)]) s → va_P D cl (ws ++ nw_rows H.size N' cA cy z) H1 → va_D A (ws ++ nw_rows H.size N' cA cy z) → va_S A H0 H1 locs → W p l e R s m args below meth c H1 locs (cells + 1 + N') (slots + N' + N' * K') Q (F0 m (pc + 4) ls (.ref H.size :: rest))) : W p l e R s m args below meth c H locs cells slots Q (F0 m pc ls (.int k :: .int n :: rest)) := by
  subst hN
  subst hM
  intro T hT Xs
  obtain ⟨vm₁, cA, comp, -, fA, fC, hO, -, X', step⟩ := Xs.multianewarray2F hexec hown hclink hover harr (g := F0 m pc ls (.int k :: .int n :: rest)) rfl (by rw [hb]; exact hdg) rfl hn hk hb1 hb2 hb3 hdf hdd hcells hslots
  have ec : some cy = some comp := hcy.symm.trans fC
  cases ec
  have hTh : (T.setVm vm₁).heap = H := hT
  obtain ⟨f1, f2, -, -⟩ := Jvm.Free.Multi.fill_facts (T.setVm vm₁) cA cy n.toNatClampNeg k.toNatClampNeg (defaultValue ty) n.toNatClampNeg
  have hold := fun (x : Nat) (hx : x < H.size) => Jvm.Free.Multi.fill_old (T.setVm vm₁) cA cy n.toNatClampNeg k.toNatClampNeg (defaultValue ty) (a := x) (by rw [hTh]; exact hx) n.toNatClampNeg
  have hrow := fun (j : Nat) (hj : j < n.toNatClampNeg) => Jvm.Free.Multi.fill_inner (T.setVm vm₁) cA cy n.toNatClampNeg k.toNatClampNeg (defaultValue ty) n.toNatClampNeg j hj
  generalize Jvm.Free.Multi.fill (T.setVm vm₁) cA cy n.toNatClampNeg k.toNatClampNeg (defaultValue ty) n.toNatClampNeg = F at X' step f1 f2 hold hrow
  rw [hTh] at f1 f2
  simp only [hTh] at hold hrow
  have hout : Jvm.Free.Multi.outerC cA n.toNatClampNeg H.size n.toNatClampNeg = vp_cell cA (n.toNatClampNeg, .inr (.inr (.inr (.inr (fun i => if i < n.toNatClampNeg then some (H.size + 1 + i) else none))))) := by
    rw [vp_cell_q]
    exact nw_outer cA n.toNatClampNeg H.size n.toNatClampNeg
  rw [hout] at f2
  have hPr : va_P D cl (nw_rows H.size n.toNatClampNeg cA cy z) F.heap := by
    intro j x hx
    obtain ⟨a1, a2, a3⟩ := nw_rows_at j x hx
    cases j with
    | zero => cases hx; exact f2
    | succ j =>
      obtain ⟨x1, x2⟩ := x
      have a1 : x1 = H.size + (j + 1) := a1
      have a3 : x2 = .inl (cy, z) := a3 (by omega)
      rw [a1, a3]
      have h9 := hrow j (by omega)
      rw [hz, show H.size + 1 + j = H.size + (j + 1) by omega] at h9
      exact h9
  have hDr : va_D A (nw_rows H.size n.toNatClampNeg cA cy z) := ⟨fun i j x y hi hj hxy => by
    have a := (nw_rows_at i x hi).1
    have b := (nw_rows_at j y hj).1
    omega, fun j x hx => by
    rw [(nw_rows_at j x hx).1]
    exact hA _ (by have := hS.1; omega)⟩
  have hP2 : va_P D cl (ws ++ nw_rows H.size n.toNatClampNeg cA cy z) F.heap := (hP.kept (fun k9 x hx => hold x.1 ((hP k9 x hx).lt))).app hPr
  have hD2 : va_D A (ws ++ nw_rows H.size n.toNatClampNeg cA cy z) := hD.app hDr (fun i j x y hi hj => by
    have a := (hP i x hi).lt
    have b := (nw_rows_at j y hj).1
    omega)
  have hAr : ArrOfT s cA (.array ty) := fun N9 z9 => by
    obtain ⟨-, k9, hk9, cm9, hkk9⟩ := (hO 0 0 0).1
    exact ⟨(fun q hq => by cases hq), k9, hk9, cm9, hkk9⟩
  have hK2 : va_K D cl (tys ++ [(cA, .array ty)]) s := ⟨hK.1, fun k9 x hx => by
    by_cases hl : k9 < tys.length
    · rw [List.getElem?_append_left hl] at hx
      exact hK.2 k9 x hx
    · rw [List.getElem?_append_right (by omega)] at hx
      have h0 : k9 - tys.length < 1 := (List.getElem?_eq_some_iff.mp hx).1
      rw [show k9 - tys.length = 0 by omega] at hx
      cases hx
      exact ⟨hAr, fA⟩⟩
  obtain ⟨t, a1, b1⟩ := kk cA F.heap f1 hK2 hP2 hD2 ⟨by rw [f1]; have := hS.1; omega, fun x h1 h2 => (hold x (Nat.lt_of_lt_of_le h1 hS.1)).trans (hS.2.1 x h1 h2), hS.2.2⟩ F rfl X'
  refine ⟨t, step t ?_, b1⟩
  have e9 : T.heap.size = H.size := by rw [hT]
  rw [e9]
  exact a1
end GRW
