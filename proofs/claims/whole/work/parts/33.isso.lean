theorem fctM.fr {fx : Nat → Int32} {p : Int32} {σ σ' : SG} (h : fctM fx p σ) (hf : fr (fun c => c = 152) σ σ') : fctM fx p σ' := fun τ ht v hv => h τ (hf.tr ht) v hv
theorem stk_keep {σ σ' : SG} {st : List Bool} {k : Nat} {v : Int32} (h : stkM σ st) (hk : st.length ≤ k) (e : σ' = uI σ 152 k v) : stkM σ' st := by
  subst e
  intro j b hb
  have hj : j < st.length := by
    have := (List.getElem?_eq_some_iff.mp hb).1
    rw [List.length_reverse] at this
    exact this
  rw [uI_i (by omega)]
  exact h j b hb
theorem stk_push {σ : SG} {r : List Bool} {b : Bool} (h : stkM σ r) : stkM (uI σ 152 r.length (nI b.toNat)) (b :: r) := by
  intro j c hc
  rw [List.reverse_cons] at hc
  by_cases hj : j < r.reverse.length
  · rw [List.getElem?_append_left hj] at hc
    rw [List.length_reverse] at hj
    rw [uI_i (by omega)]
    exact h j c hc
  · rw [List.getElem?_append_right (by omega)] at hc
    rw [List.length_reverse] at hj hc
    have hz : j - r.length < 1 := (List.getElem?_eq_some_iff.mp hc).1
    have e : j = r.length := by omega
    subst e
    rw [Nat.sub_self] at hc
    cases hc
    exact uI_same
theorem stk_tail {σ : SG} {r : List Bool} {b : Bool} (h : stkM σ (b :: r)) : stkM σ r ∧ σ.1 152 r.length = nI b.toNat := by
  refine ⟨fun j c hc => h j c ?_, h r.length b ?_⟩
  · rw [List.reverse_cons, List.getElem?_append_left (List.getElem?_eq_some_iff.mp hc).1]
    exact hc
  · rw [List.reverse_cons, List.getElem?_append_right (by rw [List.length_reverse]; omega), List.length_reverse, Nat.sub_self]
    rfl
theorem fr152 {σ : SG} {k : Nat} {v : Int32} : fr (fun c => c = 152) σ (uI σ 152 k v) := fr.uI rfl
theorem st01 (b : Bool) {σ : SG} {k : Nat} {Y : SG → Option (Int32 × SG)} : (if nI b.toNat = 0 then sx (uI σ 152 k (0 : Int32)) Y else sx (uI σ 152 k (1 : Int32)) Y) = Y (uI σ 152 k (nI b.toNat)) := by
  cases b
  · exact if_pos rfl
  · exact if_neg (by decide)
theorem m_isSo_l {fx : Nat → Int32} {p : Int32} : ∀ (R : List IT) (st : List Bool) (pos to f d : Nat) (σ : SG), (∀ i ∈ R, okI i) → dptA R st.length = some d → d ≤ 1 → st.length ≤ 9 → pos + (R.flatMap expM).length = to → to ≤ 202 → (R.flatMap expM).length < f → (∀ j x, (R.flatMap expM)[j]? = some x → σ.1 149 (138 + (pos + j)) = x) → stkM σ st → fctM fx p σ → ∃ σ', f_M_isSo_6 f (nI to) p (nI st.length) (nI pos) σ = some (bI (topA (evalA fx R st) = true), σ') ∧ fr (fun c => c = 152) σ σ' := by
  intro R
  induction R with
  | nil =>
    intro st pos to f d σ _ hd hd1 hl hp ht hfu _ hs _
    obtain ⟨f, rfl⟩ : ∃ g, f = g + 1 := ⟨f - 1, by omega⟩
    have e : pos = to := hp
    subst e
    refine ⟨σ, ?_, fr.rf⟩
    rw [f_M_isSo_6, if_pos (Int32.le_refl _)]
    rw [dptA] at hd
    have hd := Option.some.inj hd
    match st, hd, hs with
    | [], _, _ => exact if_pos rfl
    | [b], _, hs =>
      rw [if_neg (show ¬ nI [b].length = 0 by show ¬ nI 1 = 0; decide), show σ.1 152 0 = nI b.toNat from (stk_tail hs).2]
      cases b <;> rfl
    | _ :: _ :: _, hd, _ => simp at hd; omega
  | cons i R ih =>
    intro st pos to f d σ hok hd hd1 hl hp ht hfu hc hs hf
    have hi := hok i List.mem_cons_self
    have hok2 : ∀ i ∈ R, okI i := fun q hq => hok q (List.mem_cons_of_mem _ hq)
    rw [List.flatMap_cons] at hp hfu hc
    rw [List.length_append] at hp hfu
    have hle := expM_len hi
    have e1 : ∀ q : Nat, nI q + (1 : Int32) = nI (q + 1) := nI_1
    have hcR : ∀ j x, (R.flatMap expM)[j]? = some x → σ.1 149 (138 + (pos + (expM i).length + j)) = x := fun j x h => by
      have := hc ((expM i).length + j) x (by rw [List.getElem?_append_right (by omega)]; rw [Nat.add_sub_cancel_left]; exact h)
      rw [show pos + (expM i).length + j = pos + ((expM i).length + j) by omega]
      exact this
    have hc0 : ∀ j x, (expM i)[j]? = some x → σ.1 149 (138 + (pos + j)) = x := fun j x h => hc j x (by rw [List.getElem?_append_left (List.getElem?_eq_some_iff.mp h).1]; exact h)
    have hix : ∀ q, q < 202 → ix ((138 : Int32) + nI q) 340 ∧ nx ((138 : Int32) + nI q) = 138 + q := fun q hq => by
      rw [show (138 : Int32) = nI 138 from rfl, n_add]
      exact ⟨ix_nI (by omega) (by decide), nx_nI (by omega)⟩
    rw [evalA]
    rw [dptA] at hd
    have next : ∀ (τ : SG) (st2 : List Bool) (g : Nat), fr (fun c => c = 152) σ τ → dptA R st2.length = some d → st2.length ≤ 9 → stkM τ st2 → (R.flatMap expM).length < g → ∃ σ', f_M_isSo_6 g (nI to) p (nI st2.length) (nI (pos + (expM i).length)) τ = some (bI (topA (evalA fx R st2) = true), σ') ∧ fr (fun c => c = 152) σ σ' := by
      intro τ st2 g h1 h2 h3 h4 h5
      obtain ⟨σ', q1, q2⟩ := ih st2 (pos + (expM i).length) to g d τ hok2 h2 hd1 h3 (by omega) ht h5 (fun j x h => by rw [h1.at (by decide)]; exact hcR j x h) h4 (hf.fr h1)
      exact ⟨σ', q1, h1.tr q2⟩
    by_cases s2 : i.1 ≤ 2
    · -- a comparison: three codes
      rw [if_neg (by omega), if_neg (by omega)] at hd
      have hlen : st.length < 9 := by
        by_cases h : st.length < 9
        · exact h
        · rw [if_neg h] at hd
          cases hd
      rw [if_pos hlen] at hd
      rw [if_pos s2] at hle
      have ee : expM i = [vM i.2.1, vM i.2.2, sgM i.1] := by
        unfold expM
        rw [if_neg (by omega), if_neg (by omega), if_neg (by omega)]
      have es : stepA fx i st = cmpA i.1 (valA fx i.2.1) (valA fx i.2.2) :: st := by
        unfold stepA
        rw [if_neg (by omega), if_neg (by omega), if_neg (by omega)]
      rw [es]
      obtain ⟨f, rfl⟩ : ∃ g, f = g + 3 := ⟨f - 3, by omega⟩
      have c0 := hc0 0 (vM i.2.1) (by rw [ee]; rfl)
      have c1 := hc0 1 (vM i.2.2) (by rw [ee]; rfl)
      have c2 := hc0 2 (sgM i.1) (by rw [ee]; rfl)
      rw [show pos + 0 = pos from rfl] at c0
      rw [f_M_isSo_6, if_neg (nI_ge (by omega) (by omega)), gd_pos (hix pos (by omega)).1, (hix pos (by omega)).2]
      show ∃ σ', (if σ.1 149 (138 + pos) ≤ (-10 : Int32) then _ else _) = some (_, σ') ∧ _
      rw [c0, if_neg (vM_big hi.2.1), hf σ fr.rf _ hi.2.1, bnd_some, gd_pos (ix_nI (by omega) (by decide)), nx_nI (by omega)]
      show ∃ σ', f_M_isSo_6 (f + 2) (nI to) p (nI st.length + 1) (nI pos + 1) (uI σ 152 st.length (valA fx i.2.1)) = some (_, σ') ∧ _
      rw [e1, e1]
      generalize hτ1 : uI σ 152 st.length (valA fx i.2.1) = τ1
      have fr1 : fr (fun c => c = 152) σ τ1 := hτ1 ▸ fr152
      have a1 : τ1.1 152 st.length = valA fx i.2.1 := hτ1 ▸ uI_same
      have k1 : stkM τ1 st := stk_keep hs (Nat.le_refl _) hτ1.symm
      rw [f_M_isSo_6, if_neg (nI_ge (by omega) (by omega)), gd_pos (hix (pos + 1) (by omega)).1, (hix (pos + 1) (by omega)).2]
      show ∃ σ', (if τ1.1 149 (138 + (pos + 1)) ≤ (-10 : Int32) then _ else _) = some (_, σ') ∧ _
      rw [fr1.at (by decide), c1, if_neg (vM_big hi.2.2), hf τ1 fr1 _ hi.2.2, bnd_some, gd_pos (ix_nI (by omega) (by decide)), nx_nI (by omega)]
      show ∃ σ', f_M_isSo_6 (f + 1) (nI to) p (nI (st.length + 1) + 1) (nI (pos + 1) + 1) (uI τ1 152 (st.length + 1) (valA fx i.2.2)) = some (_, σ') ∧ _
      rw [e1, e1]
      generalize hτ2 : uI τ1 152 (st.length + 1) (valA fx i.2.2) = τ2
      have fr2 : fr (fun c => c = 152) σ τ2 := fr1.tr (hτ2 ▸ fr152)
      have a2 : τ2.1 152 (st.length + 1) = valA fx i.2.2 := hτ2 ▸ uI_same
      have a3 : τ2.1 152 st.length = valA fx i.2.1 := by rw [← hτ2, uI_i (by omega), a1]
      have k2 : stkM τ2 st := stk_keep k1 (Nat.le_succ _) hτ2.symm
      rw [f_M_isSo_6, if_neg (nI_ge (by omega) (by omega)), gd_pos (hix (pos + 1 + 1) (by omega)).1, (hix (pos + 1 + 1) (by omega)).2]
      show ∃ σ', (if τ2.1 149 (138 + (pos + 1 + 1)) ≤ (-10 : Int32) then _ else _) = some (_, σ') ∧ _
      have hsg : ∀ s, s ≤ 2 → sgM s ≤ (-10 : Int32) ∧ ¬ sgM s = (-20 : Int32) := by decide
      rw [fr2.at (by decide), show pos + 1 + 1 = pos + 2 from rfl, c2, if_pos (hsg _ s2).1, if_pos (hsg _ s2).2]
      rw [lx_eq]
      have e2 : nI (st.length + 1 + 1) + (-1 : Int32) = nI (st.length + 1) := by rw [← Int32.sub_eq_add_neg]; exact nI_pred _
      have e3 : nI (st.length + 1) - (1 : Int32) = nI st.length := nI_pred _
      rw [e2, e3, gd_pos (ix_nI (by omega) (by decide)), gd_pos (ix_nI (by omega) (by decide)), nx_nI (by omega), nx_nI (by omega), a3, a2, m_hold s2, bnd_some, gd_pos (ix_nI (by omega) (by decide)), gd_pos (ix_nI (by omega) (by decide)), st01]
      show ∃ σ', f_M_isSo_6 f (nI to) p (nI (st.length + 1)) (nI (pos + 2) + 1) (uI τ2 152 st.length (nI (cmpA i.1 (valA fx i.2.1) (valA fx i.2.2)).toNat)) = some (_, σ') ∧ _
      rw [e1, show pos + 2 + 1 = pos + (expM i).length by rw [hle]]
      exact next _ (cmpA i.1 (valA fx i.2.1) (valA fx i.2.2) :: st) f (fr2.tr fr152) (by simpa using hd) (by simp; omega) (stk_push k2) (by omega)
    · rw [if_neg s2] at hle
      obtain ⟨f, rfl⟩ : ∃ g, f = g + 1 := ⟨f - 1, by omega⟩
      rw [f_M_isSo_6, if_neg (nI_ge (by omega) (by omega)), gd_pos (hix pos (by omega)).1, (hix pos (by omega)).2]
      by_cases s5 : i.1 = 5
      · rw [if_neg (by omega), if_pos s5] at hd
        have hlen : 1 ≤ st.length := by
          by_cases h : 1 ≤ st.length
          · exact h
          · rw [if_neg h] at hd
            cases hd
        rw [if_pos hlen] at hd
        have c0 := hc0 0 (-20) (by unfold expM; rw [if_neg (by omega), if_neg (by omega), if_pos s5]; rfl)
        rw [show pos + 0 = pos from rfl] at c0
        match st, hlen, hd, hl, hs with
        | a :: r, _, hd, hl, hs =>
          have es : stepA fx i (a :: r) = (!a) :: r := by unfold stepA; rw [if_neg (by omega), if_neg (by omega), if_pos s5]
          rw [es]
          show ∃ σ', (if σ.1 149 (138 + pos) ≤ (-10 : Int32) then _ else _) = some (_, σ') ∧ _
          have hlr : (a :: r).length = r.length + 1 := rfl
          have e3 : nI (a :: r).length - (1 : Int32) = nI r.length := nI_pred _
          have hl9 : r.length + 1 ≤ 9 := hl
          rw [c0, if_pos (show (-20 : Int32) ≤ -10 by decide), if_neg (show ¬ ¬ (-20 : Int32) = -20 by decide), e3, gd_pos (ix_nI (by omega) (by decide)), gd_pos (ix_nI (by omega) (by decide)), nx_nI (by omega), (stk_tail hs).2]
          have e4 : (1 : Int32) - nI a.toNat = nI (!a).toNat := by cases a <;> decide
          rw [e4]
          show ∃ σ', f_M_isSo_6 f (nI to) p (nI (a :: r).length) (nI pos + 1) (uI σ 152 r.length (nI (!a).toNat)) = some (_, σ') ∧ _
          rw [e1, show pos + 1 = pos + (expM i).length by rw [hle]]
          exact next _ ((!a) :: r) f fr152 (by simpa using hd) (by simpa using hl) (stk_push (stk_tail hs).1) (by omega)
      · have s34 : i.1 = 3 ∨ i.1 = 4 := by have := hi.1; omega
        rw [if_pos s34] at hd
        have hlen : 2 ≤ st.length := by
          by_cases h : 2 ≤ st.length
          · exact h
          · rw [if_neg h] at hd
            cases hd
        rw [if_pos hlen] at hd
        match st, hlen, hd, hl, hs with
        | a :: b :: r, _, hd, hl, hs =>
          have hl9 : r.length + 1 + 1 ≤ 9 := hl
          have e2 : nI (a :: b :: r).length + (-1 : Int32) = nI (r.length + 1) := by rw [← Int32.sub_eq_add_neg]; exact nI_pred _
          have e3 : nI (r.length + 1) - (1 : Int32) = nI r.length := nI_pred _
          have t1 := stk_tail hs
          have t2 := stk_tail t1.1
          have t1b : σ.1 152 (r.length + 1) = nI a.toNat := t1.2
          have go : ∀ (c : Int32) (v : Bool), (expM i)[0]? = some c → c ≤ (-10 : Int32) → ¬ c = (-20 : Int32) → f_M_isHolding c (nI b.toNat) (nI a.toNat) σ = some (nI v.toNat, σ) → stepA fx i (a :: b :: r) = v :: r → ∃ σ', (lx (σ.1 149 (138 + pos)) (fun y1 => if y1 ≤ (-10 : Int32) then (if ¬ y1 = (-20 : Int32) then lx (nI (a :: b :: r).length + (-1 : Int32)) (fun y2 => gd (ix (y2 - (1 : Int32)) 200) (gd (ix y2 200) (bnd (f_M_isHolding y1 (σ.1 152 (nx (y2 - (1 : Int32)))) (σ.1 152 (nx y2)) σ) (fun r4 σ3 => if r4 = 0 then gd (ix (y2 - (1 : Int32)) 200) (sx (uI σ3 152 (nx (y2 - (1 : Int32))) (0 : Int32)) (fun σ5 => lx (nI pos + (1 : Int32)) (fun y6 => f_M_isSo_6 f (nI to) p y2 y6 σ5))) else gd (ix (y2 - (1 : Int32)) 200) (sx (uI σ3 152 (nx (y2 - (1 : Int32))) (1 : Int32)) (fun σ7 => lx (nI pos + (1 : Int32)) (fun y8 => f_M_isSo_6 f (nI to) p y2 y8 σ7))))))) else gd (ix (nI (a :: b :: r).length - (1 : Int32)) 200) (gd (ix (nI (a :: b :: r).length - (1 : Int32)) 200) (sx (uI σ 152 (nx (nI (a :: b :: r).length - (1 : Int32))) ((1 : Int32) - σ.1 152 (nx (nI (a :: b :: r).length - (1 : Int32))))) (fun σ9 => lx (nI pos + (1 : Int32)) (fun y10 => f_M_isSo_6 f (nI to) p (nI (a :: b :: r).length) y10 σ9))))) else bnd (f_M_fact y1 p σ) (fun r12 σ11 => gd (ix (nI (a :: b :: r).length) 200) (sx (uI σ11 152 (nx (nI (a :: b :: r).length)) r12) (fun σ13 => lx (nI (a :: b :: r).length + (1 : Int32)) (fun y14 => lx (nI pos + (1 : Int32)) (fun y15 => f_M_isSo_6 f (nI to) p y14 y15 σ13)))))) = some (bI (topA (evalA fx R (stepA fx i (a :: b :: r))) = true), σ')) ∧ fr (fun c => c = 152) σ σ' := by
            intro c v hc1 hc2 hc3 hh es
            have c0 := hc0 0 c hc1
            rw [show pos + 0 = pos from rfl] at c0
            rw [c0, es]
            show ∃ σ', (if c ≤ (-10 : Int32) then _ else _) = some (_, σ') ∧ _
            rw [if_pos hc2, if_pos hc3]
            rw [lx_eq]
            rw [e2, e3, gd_pos (ix_nI (by omega) (by decide)), gd_pos (ix_nI (by omega) (by decide)), nx_nI (by omega), nx_nI (by omega), t2.2, t1b, hh, bnd_some, gd_pos (ix_nI (by omega) (by decide)), gd_pos (ix_nI (by omega) (by decide)), st01]
            show ∃ σ', f_M_isSo_6 f (nI to) p (nI (r.length + 1)) (nI pos + 1) (uI σ 152 r.length (nI v.toNat)) = some (_, σ') ∧ _
            rw [e1, show pos + 1 = pos + (expM i).length by rw [hle]]
            exact next _ (v :: r) f fr152 (by simpa using hd) (by simp; omega) (stk_push t2.1) (by omega)
          rcases s34 with s3 | s4
          · exact go (-21) (b && a) (by unfold expM; rw [if_pos s3]; rfl) (by decide) (by decide) (m_holdB a b σ).1 (by unfold stepA; rw [if_pos s3])
          · exact go (-22) (b || a) (by unfold expM; rw [if_neg (by omega), if_pos s4]; rfl) (by decide) (by decide) (m_holdB a b σ).2 (by unfold stepA; rw [if_neg (by omega), if_pos s4])
