/-! CELLS THAT COME: their addresses, one behind the other -/
section GROW
variable {p : Program} {l : Launch} {e : Env} {R : Room} {s : State} {m : MethodId} {args : Array Value} {below : List Frame} {meth : Method} {c : Code} {H : Heap} {locs : List Loc} {cells slots : Nat} {Q : State → Prop}
variable {pc : Nat} {ls : Array Slot} {rest : List Value} {D : va_G} {cl : List vw_C} {A : Nat → Prop} {tys : List (ClassId × FieldType)} {ws : va_W} {H0 : Heap}
/-- how many cells there are at most, and at least -/
theorem nw_size {g : JFrame} (kk : s.heap.size ≤ H.size → H.size ≤ s.heap.size + cells → W p l e R s m args below meth c H locs cells slots Q g) : W p l e R s m args below meth c H locs cells slots Q g := fun T hT X => kk (by rw [← hT]; exact X.same.2.1) (by rw [← hT]; exact X.same.2.2.1) T hT X
/-- so a new one is the next -/
theorem nw_addr {q : Nat} {x : va_E} {H1 : Heap} {sz k : Nat} (hP : va_P D cl (ws ++ [(q, x)]) H1) (hD : va_D A (ws ++ [(q, x)])) (hq : sz ≤ q) (hn : ∀ j, j < k → ∃ (i : Nat) (y : va_E), ws[i]? = some (sz + j, y)) (hz : H1.size ≤ sz + k + 1) : q = sz + k := by
  have hl : (ws ++ [(q, x)])[ws.length]? = some (q, x) := by rw [List.getElem?_append_right (Nat.le_refl _), Nat.sub_self]; rfl
  have h1 : q < H1.size := (hP _ _ hl).lt
  by_cases h : q < sz + k
  · obtain ⟨i, y, hi⟩ := hn (q - sz) (by omega)
    have hlt : i < ws.length := (List.getElem?_eq_some_iff.mp hi).1
    have := hD.1 i ws.length _ _ (by rw [List.getElem?_append_left hlt]; exact hi) hl (by show sz + (q - sz) = q; omega)
    omega
  · omega
theorem nw_new {q h0 sz : Nat} {x y : va_E} {i0 : Nat} (h0i : ws[i0]? = some (h0, y)) (hD : va_D (va_A [(h0, y)] sz) (ws ++ [(q, x)])) : sz ≤ q := by
  have hl : (ws ++ [(q, x)])[ws.length]? = some (q, x) := by rw [List.getElem?_append_right (Nat.le_refl _), Nat.sub_self]; rfl
  rcases hD.2 _ _ hl with ⟨k, z, hk⟩ | h
  · have hk1 : k < 1 := (List.getElem?_eq_some_iff.mp hk).1
    rw [show k = 0 by omega] at hk
    have e : h0 = q := congrArg Prod.fst (Option.some.inj hk)
    have hlt : i0 < ws.length := (List.getElem?_eq_some_iff.mp h0i).1
    have := hD.1 i0 ws.length _ _ (by rw [List.getElem?_append_left hlt]; exact h0i) hl e
    omega
  · exact h
end GROW
