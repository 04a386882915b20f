/-! WHAT THE STATEMENT GIVES OF THE START -/
abbrev nsG : List Cond := flatC (Jvm.Cond.and given_1 narrow_1)
def nsP : List Nat := [42, 49, 58, 69, 81, 95, 110, 124, 140, 157, 176, 195, 212, 232, 253, 275, 296, 319, 343]
abbrev nsT (i : Nat) : Term := .string "HadForVoice$RuleText" (78 + 2 * i)
theorem ns_ex : ∀ i, i < 19 → nsG[nsP.getD i 0]? = some (Cond.exactly (nsT i) "java/lang/String") := by decide +kernel
theorem ns_co : ∀ i, i < 19 → nsG[nsP.getD i 0 + 1]? = some (Cond.eq (.field (nsT i) "java/lang/String" "coder" "B") (.int 0)) := by decide +kernel
theorem ns_ar : ∀ i, i < 19 → nsG[nsP.getD i 0 + 2]? = some (Cond.arrayOf (.field (nsT i) "java/lang/String" "value" "[B") .byte) := by decide +kernel
theorem ns_le : ∀ i, i < 19 → nsG[nsP.getD i 0 + 3]? = some (Cond.eq (.length (.field (nsT i) "java/lang/String" "value" "[B")) (.int (Int32.ofNat (sLen.getD i 0)))) := by decide +kernel
theorem ns_el : ∀ i, i < 19 → ∀ j, j < sLen.getD i 0 → nsG[nsP.getD i 0 + (4 + j)]? = some (Cond.eq (.elem (.field (nsT i) "java/lang/String" "value" "[B") (.int (Int32.ofNat j))) (.int ((sByt.getD i []).getD j 0))) := by decide +kernel
theorem ns_ne : ∀ i, i < 19 → ∀ j, j < i → nsG[nsP.getD i 0 + (4 + sLen.getD i 0 + j)]? = some (Cond.not (Cond.eq (nsT j) (nsT i))) := by decide +kernel
theorem ns_ln : ∀ i, i < 19 → sLen.getD i 0 < 2 ^ 31 := by decide +kernel
theorem ns_ch : ∀ j, j < 21 → nsG[21 + j]? = some (Cond.eq (.elem (.static "HadForVoice" "CHANGES" "[I") (.int (Int32.ofNat j))) (.int (tCHANGES j))) := by decide +kernel
theorem ns_ab : ∀ j, j < 6 → nsG[7 + j]? = some (Cond.eq (.elem (.static "HadForVoice" "ABOVE" "[I") (.int (Int32.ofNat j))) (.int (tABOVE j))) := by decide +kernel
theorem ns_sr : ∀ i, i < 19 → lw_tbl[606 + i]? = some (Cond.stringRef "HadForVoice$RuleText" (78 + 2 * i) ((SRS.getD i (0, "", 0)).2.1)) := by decide +kernel
theorem ns_sr1 : ∀ i, i < 19 → SRS[i]? = some (78 + 2 * i, (SRS.getD i (0, "", 0)).2.1, i) := by decide +kernel
theorem ns_srs : ∀ q ∈ SRS, ∃ i, i < 19 ∧ q = (78 + 2 * i, (SRS.getD i (0, "", 0)).2.1, i) := by
  intro q hq
  obtain ⟨i, hi⟩ := List.getElem?_of_mem hq
  have hl : i < 19 := (List.getElem?_eq_some_iff.mp hi).1
  exact ⟨i, hl, Option.some.inj (hi.symm.trans (ns_sr1 i hl))⟩
theorem ns_cls {args : Array Value} {s : State} (hts : ∀ w ∈ lw_tbl, w.before args s = true) : ∃ (dC : Nat → ClassId) (dI : Nat → Nat → Nat), ∀ (k : Nat) (q : vw_C), vwCl[k]? = some q → u_Kn s q.1 q.2.1 q.2.2 (dC k) (dI k) := by
  have h : ∀ k : Nat, ∃ x : ClassId × (Nat → Nat), ∀ q : vw_C, vwCl[k]? = some q → u_Kn s q.1 q.2.1 q.2.2 x.1 x.2 := fun k => match k, (trivial : True) with
    | 0, _ => by
      obtain ⟨cC, iS, h⟩ := u_known (C := RX0) (T := TX0) (N := 3) (n := 3) hts nt_x0 (hts (.instantiable "HadForVoice$Beast" 3) (List.mem_of_getElem? (i := 243) (by decide +kernel)))
      exact ⟨(cC, iS), fun q hq => by cases hq; exact h⟩
    | 1, _ => by
      obtain ⟨cC, iS, h⟩ := u_known (C := RX1) (T := TX1) (N := 9) (n := 9) hts nt_x1 (hts (.instantiable "HadForVoice$Host" 9) (List.mem_of_getElem? (i := 121) (by decide +kernel)))
      exact ⟨(cC, iS), fun q hq => by cases hq; exact h⟩
    | 2, _ => by
      obtain ⟨cC, iS, h⟩ := u_known (C := RX2) (T := TX2) (N := 3) (n := 3) hts nt_x2 (hts (.instantiable "HadForVoice$Maid" 3) (List.mem_of_getElem? (i := 203) (by decide +kernel)))
      exact ⟨(cC, iS), fun q hq => by cases hq; exact h⟩
    | 3, _ => by
      obtain ⟨cC, iS, h⟩ := u_known (C := RX3) (T := TX3) (N := 3) (n := 3) hts nt_x3 (hts (.instantiable "HadForVoice$Miser" 3) (List.mem_of_getElem? (i := 213) (by decide +kernel)))
      exact ⟨(cC, iS), fun q hq => by cases hq; exact h⟩
    | 4, _ => by
      obtain ⟨cC, iS, h⟩ := u_known (C := RX4) (T := TX4) (N := 3) (n := 3) hts nt_x4 (hts (.instantiable "HadForVoice$Person" 3) (List.mem_of_getElem? (i := 169) (by decide +kernel)))
      exact ⟨(cC, iS), fun q hq => by cases hq; exact h⟩
    | 5, _ => by
      obtain ⟨cC, iS, h⟩ := u_known (C := RX5) (T := TX5) (N := 3) (n := 3) hts nt_x5 (hts (.instantiable "HadForVoice$Prince" 3) (List.mem_of_getElem? (i := 233) (by decide +kernel)))
      exact ⟨(cC, iS), fun q hq => by cases hq; exact h⟩
    | 6, _ => by
      obtain ⟨cC, iS, h⟩ := u_known (C := RX6) (T := TX6) (N := 6) (n := 6) hts nt_x6 (hts (.instantiable "HadForVoice$RuleText" 6) (List.mem_of_getElem? (i := 406) (by decide +kernel)))
      exact ⟨(cC, iS), fun q hq => by cases hq; exact h⟩
    | 7, _ => by
      obtain ⟨cC, iS, h⟩ := u_known (C := RX7) (T := TX7) (N := 8) (n := 8) hts nt_x7 (hts (.instantiable "HadForVoice$Rules" 8) (List.mem_of_getElem? (i := 259) (by decide +kernel)))
      exact ⟨(cC, iS), fun q hq => by cases hq; exact h⟩
    | 8, _ => by
      obtain ⟨cC, iS, h⟩ := u_known (C := RX8) (T := TX8) (N := 8) (n := 8) hts nt_x8 (hts (.instantiable "HadForVoice$Search" 8) (List.mem_of_getElem? (i := 373) (by decide +kernel)))
      exact ⟨(cC, iS), fun q hq => by cases hq; exact h⟩
    | 9, _ => by
      obtain ⟨cC, iS, h⟩ := u_known (C := RX9) (T := TX9) (N := 18) (n := 18) hts nt_x9 (hts (.instantiable "HadForVoice$Town" 18) (List.mem_of_getElem? (i := 253) (by decide +kernel)))
      exact ⟨(cC, iS), fun q hq => by cases hq; exact h⟩
    | 10, _ => by
      obtain ⟨cC, iS, h⟩ := u_known (C := RX10) (T := TX10) (N := 3) (n := 3) hts nt_x10 (hts (.instantiable "HadForVoice$Widow" 3) (List.mem_of_getElem? (i := 223) (by decide +kernel)))
      exact ⟨(cC, iS), fun q hq => by cases hq; exact h⟩
    | 11, _ => by
      obtain ⟨cC, iS, h⟩ := u_known (C := RX11) (T := TX11) (N := 9) (n := 9) hts nt_x11 (hts (.instantiable "HadForVoice" 9) (List.mem_of_getElem? (i := 113) (by decide +kernel)))
      exact ⟨(cC, iS), fun q hq => by cases hq; exact h⟩
    | 12, _ => by
      obtain ⟨cC, iS, h⟩ := u_known (C := RX12) (T := TX12) (N := 45) (n := 45) hts nt_x12 (hts (.instantiable "HadForVoiceModel" 45) (List.mem_of_getElem? (i := 1183) (by decide +kernel)))
      exact ⟨(cC, iS), fun q hq => by cases hq; exact h⟩
    | k + 13, _ => ⟨(0, fun _ => 0), fun q hq => by cases hq⟩
  obtain ⟨f, hf⟩ := Classical.axiomOfChoice h
  exact ⟨fun k => (f k).1, fun k => (f k).2, fun k q hq => hf k q hq⟩
theorem ns_arr {args : Array Value} {s : State} (hts : ∀ w ∈ lw_tbl, w.before args s = true) : ∃ pY : Nat → ClassId, ∀ (k : Nat) (q : ClassId × FieldType), ([(pY 0, .int), (pY 1, .long), (pY 2, .array .int), (pY 3, .object "HadForVoice$Person")] : List (ClassId × FieldType))[k]? = some q → ArrOfT s q.1 q.2 ∧ va_RA s q.1 q.2 := by
  obtain ⟨c0, k0, m0, f0, h0, e0⟩ := Cond.arrayClass_spec (hts (.arrayClass .int) (List.mem_of_getElem? (i := 166) (by decide +kernel)))
  obtain ⟨c1, k1, m1, f1, h1, e1⟩ := Cond.arrayClass_spec (hts (.arrayClass .long) (List.mem_of_getElem? (i := 404) (by decide +kernel)))
  obtain ⟨m2, c2, k2, a2, -, h2, e2, f2⟩ := nw_overS (t := .int) (u := s) (hts (.arrayOver (.array .int)) (List.mem_of_getElem? (i := 127) (by decide +kernel)))
  obtain ⟨m3, c3, k3, a3, -, h3, e3, f3⟩ := Cond.arrayOver_spec (hts (.arrayOver (.object "HadForVoice$Person")) (List.mem_of_getElem? (i := 168) (by decide +kernel)))
  refine ⟨fun k => if k = 0 then c0 else if k = 1 then c1 else if k = 2 then c2 else c3, fun k q hq => ?_⟩
  match k, hq with
  | 0, hq => cases hq; exact ⟨fun _ _ => ⟨(fun _ z => by cases z), k0, h0, m0, e0⟩, f0⟩
  | 1, hq => cases hq; exact ⟨fun _ _ => ⟨(fun _ z => by cases z), k1, h1, m1, e1⟩, f1⟩
  | 2, hq => cases hq; exact ⟨fun _ _ => ⟨(fun _ z => by cases z), k2, h2, m2, e2⟩, f2⟩
  | 3, hq => cases hq; exact ⟨fun _ _ => ⟨(fun _ z => by cases z), k3, h3, m3, e3⟩, k3, m3, h3, e3, a3, f3⟩
  | k + 4, hq => cases hq
theorem ns_start {args : Array Value} {s : State} (hts : ∀ w ∈ lw_tbl, w.before args s = true) (hgv : (Jvm.Cond.and given_1 narrow_1).before args s = true) : ∃ P : PT, pb P = s.heap.size ∧ nwN P s ∧ KK P s s.heap := by
  have hgf : ∀ w ∈ nsG, w.before args s = true := flat_of_before _ hgv
  obtain ⟨dC, dI, hC⟩ := ns_cls hts
  obtain ⟨py, hY⟩ := ns_arr hts
  have hA : ∀ a : Nat, a < s.heap.size → ¬ (fun q : Nat => s.heap.size ≤ q ∧ q < s.heap.size + MM) a := fun a h z => absurd z.1 (Nat.not_le.mpr h)
  obtain ⟨tC, vC, TC⟩ := va_Tof (tm := .static "HadForVoice" "CHANGES" "[I") (ty := .int) (f := fun j => .int (tCHANGES j)) (N := 21) (by decide) (hgf _ (List.mem_of_getElem? (i := 19) (by decide +kernel))) (va_eqt (hgf _ (List.mem_of_getElem? (i := 20) (by decide +kernel)))) (fun j hj => va_eqt (hgf _ (List.mem_of_getElem? (ns_ch j hj)))) hA
  obtain ⟨tA, vA, TA⟩ := va_Tof (tm := .static "HadForVoice" "ABOVE" "[I") (ty := .int) (f := fun j => .int (tABOVE j)) (N := 6) (by decide) (hgf _ (List.mem_of_getElem? (i := 5) (by decide +kernel))) (va_eqt (hgf _ (List.mem_of_getElem? (i := 6) (by decide +kernel)))) (fun j hj => va_eqt (hgf _ (List.mem_of_getElem? (ns_ab j hj)))) hA
  obtain ⟨adK, adV, hS, hE⟩ := vk_Sof (N := 19) (tm := nsT) (len := sLen) (byt := sByt) ns_ln (fun i hi => hgf _ (List.mem_of_getElem? (ns_ex i hi))) (fun i hi => hgf _ (List.mem_of_getElem? (ns_co i hi))) (fun i hi => hgf _ (List.mem_of_getElem? (ns_ar i hi))) (fun i hi => hgf _ (List.mem_of_getElem? (ns_le i hi))) (fun i hi j hj => hgf _ (List.mem_of_getElem? (ns_el i hi j hj))) (fun i j hi hj hn => by
    rcases Nat.lt_or_ge i j with h | h
    · exact Or.inl (hgf _ (List.mem_of_getElem? (ns_ne j hj i h)))
    · exact Or.inr (hgf _ (List.mem_of_getElem? (ns_ne i hi j (by omega))))) hA
  refine ⟨((dC, dI), py, s.heap.size, adK, adV, tC, tA), rfl, ⟨⟨hC, hY⟩, fun w hw => va_Nw.of (NWC_ok w hw) (hts w (nt_nwc w hw)), va_AO.of (hts (.arrayOver (.object "HadForVoice$Person")) (List.mem_of_getElem? (i := 168) (by decide +kernel))), (hts (.arrayOver (.array .int)) (List.mem_of_getElem? (i := 127) (by decide +kernel)))⟩, ⟨hC, hY⟩, ⟨?_, ?_, ?_, ?_⟩, ⟨TC, TA⟩, ⟨fun q hq => ?_, hS⟩, fun w hw => va_Nw.of (NWS_ok w hw) (hts w (nt_nws w hw))⟩
  · exact va_Zref (hts (.laysStatic "HadForVoice" "CHANGES" "[I") (List.mem_of_getElem? (i := 730) (by decide +kernel))) (hts (.initialized "HadForVoice") (List.mem_of_getElem? (i := 91) (by decide +kernel))) vC hA
  · exact va_Zref (hts (.laysStatic "HadForVoice" "ABOVE" "[I") (List.mem_of_getElem? (i := 508) (by decide +kernel))) (hts (.initialized "HadForVoice") (List.mem_of_getElem? (i := 91) (by decide +kernel))) vA hA
  · exact va_Zof (hts (.laysStatic "java/lang/String" "COMPACT_STRINGS" "Z") (List.mem_of_getElem? (i := 638) (by decide +kernel))) (hts (.initialized "java/lang/String") (List.mem_of_getElem? (i := 105) (by decide +kernel))) (va_eqi (hgf _ (List.mem_of_getElem? (i := 13) (by decide +kernel)))) hA
  · exact va_Zqof (hts (.laysStatic "jdk/internal/util/Preconditions" "SIOOBE_FORMATTER" "Ljava/util/function/BiFunction;") (List.mem_of_getElem? (i := 654) (by decide +kernel))) (hts (.initialized "jdk/internal/util/Preconditions") (List.mem_of_getElem? (i := 107) (by decide +kernel))) (hgf _ (List.mem_of_getElem? (i := 14) (by decide +kernel))) hA
  · obtain ⟨i, hi, rfl⟩ := ns_srs q hq
    exact vk_R.of (hts _ (List.mem_of_getElem? (ns_sr i hi))) (hE i hi)
