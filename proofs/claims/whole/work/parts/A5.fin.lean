/-! THE MEMORY AT THE START: what the constructors leave is σ0 -/
def nwFin (P : PT) (ρ : Nat → va_E) : Nat → va_E := nwp_X12 P 149 148 (upC (nwp_X11 P 1 0 (upC ρ 0 (.inr (11, [.null, .null, .null, .int 0, .null, .null, .null, .null, .int 0])))) 148 (.inr (12, [.null, .null, .null, .int 0, .int 0, .null, .int 0, .int 0, .null, .null, .null, .int 0, .int 0, .int 0, .int 0, .int 0, .null, .null, .int 0, .int 0, .int 0, .int 0, .int 0, .null, .int 0, .null, .int 0, .int 0, .int 0, .int 0, .int 0, .int 0, .int 0, .null, .null, .null, .null, .null, .null, .null, .int 0, .int 0, .int 0, .int 0, .int 0])))
theorem nwf_m1 : (upd (upd (upd (upd (fun _ => 0) 0 (-1)) 1 (-1)) 2 (-1)) 3 (-1) : Nat → Int32) = σ0.1 2 := by
  funext i
  by_cases h3 : i = 3
  · subst h3; rfl
  · by_cases h2 : i = 2
    · subst h2; rfl
    · by_cases h1 : i = 1
      · subst h1; rfl
      · by_cases h0 : i = 0
        · subst h0; rfl
        · have e : σ0.1 2 i = 0 := by rw [z0_i, if_neg (by omega), if_neg (by omega), if_neg (by omega), if_neg (by omega)]
          rw [e]
          unfold upd
          simp [h0, h1, h2, h3]
theorem nwf_m2 : (upd (upd (upd (upd (fun _ => 0) 0 (-1)) 1 (-1)) 2 (-1)) 3 (-1) : Nat → Int32) = σ0.1 160 := by
  rw [nwf_m1]
  funext i
  rw [z0_i, z0_i]
  by_cases h : i < 4
  · rw [if_pos ⟨Or.inl rfl, h⟩, if_pos ⟨Or.inr rfl, h⟩]
  · rw [if_neg (by omega), if_neg (by omega), if_neg (by omega), if_neg (by omega), if_neg (by omega), if_neg (by omega), if_neg (by omega), if_neg (by omega)]
theorem nwf_s : (upd (fun _ => 0) 5 1 : Nat → Int32) = σ0.1 149 := by
  funext i
  by_cases h : i = 5
  · subst h; rfl
  · have e : σ0.1 149 i = 0 := by rw [z0_i, if_neg (by omega), if_neg (by omega), if_neg (by omega), if_neg (by omega)]
    rw [e]
    unfold upd
    simp [h]
set_option maxRecDepth 100000 in
set_option maxHeartbeats 4000000 in
theorem nwf_0 {P : PT} {ρ : Nat → va_E} : nwFin P ρ 0 = celE (pY P) (pb P) σ0 0 (lay 0) := rfl
set_option maxRecDepth 100000 in
set_option maxHeartbeats 4000000 in
theorem nwf_1 {P : PT} {ρ : Nat → va_E} : nwFin P ρ 1 = celE (pY P) (pb P) σ0 1 (lay 1) := rfl
set_option maxRecDepth 100000 in
set_option maxHeartbeats 4000000 in
theorem nwf_2 {P : PT} {ρ : Nat → va_E} : nwFin P ρ 2 = celE (pY P) (pb P) σ0 2 (lay 2) := (show nwFin P ρ 2 = .inl (pY P 0, 4, .inl (upd (upd (upd (upd (fun _ => 0) 0 (-1)) 1 (-1)) 2 (-1)) 3 (-1))) from rfl).trans (congrArg (fun f => (Sum.inl (pY P 0, 4, Sum.inl f) : va_E)) nwf_m1)
set_option maxRecDepth 100000 in
set_option maxHeartbeats 4000000 in
theorem nwf_3 {P : PT} {ρ : Nat → va_E} : nwFin P ρ 3 = celE (pY P) (pb P) σ0 3 (lay 3) := rfl
set_option maxRecDepth 100000 in
set_option maxHeartbeats 4000000 in
theorem nwf_4 {P : PT} {ρ : Nat → va_E} : nwFin P ρ 4 = celE (pY P) (pb P) σ0 4 (lay 4) := rfl
set_option maxRecDepth 100000 in
set_option maxHeartbeats 4000000 in
theorem nwf_5 {P : PT} {ρ : Nat → va_E} : nwFin P ρ 5 = celE (pY P) (pb P) σ0 5 (lay 5) := rfl
set_option maxRecDepth 100000 in
set_option maxHeartbeats 4000000 in
theorem nwf_6 {P : PT} {ρ : Nat → va_E} : nwFin P ρ 6 = celE (pY P) (pb P) σ0 6 (lay 6) := rfl
set_option maxRecDepth 100000 in
set_option maxHeartbeats 4000000 in
theorem nwf_7 {P : PT} {ρ : Nat → va_E} : nwFin P ρ 7 = celE (pY P) (pb P) σ0 7 (lay 7) := rfl
set_option maxRecDepth 100000 in
set_option maxHeartbeats 4000000 in
theorem nwf_8 {P : PT} {ρ : Nat → va_E} : nwFin P ρ 8 = celE (pY P) (pb P) σ0 8 (lay 8) := rfl
set_option maxRecDepth 100000 in
set_option maxHeartbeats 4000000 in
theorem nwf_9 {P : PT} {ρ : Nat → va_E} : nwFin P ρ 9 = celE (pY P) (pb P) σ0 9 (lay 9) := rfl
set_option maxRecDepth 100000 in
set_option maxHeartbeats 4000000 in
theorem nwf_10 {P : PT} {ρ : Nat → va_E} : nwFin P ρ 10 = celE (pY P) (pb P) σ0 10 (lay 10) := rfl
set_option maxRecDepth 100000 in
set_option maxHeartbeats 4000000 in
theorem nwf_11 {P : PT} {ρ : Nat → va_E} : nwFin P ρ 11 = celE (pY P) (pb P) σ0 11 (lay 11) := rfl
set_option maxRecDepth 100000 in
set_option maxHeartbeats 4000000 in
theorem nwf_12 {P : PT} {ρ : Nat → va_E} : nwFin P ρ 12 = celE (pY P) (pb P) σ0 12 (lay 12) := rfl
set_option maxRecDepth 100000 in
set_option maxHeartbeats 4000000 in
theorem nwf_14 {P : PT} {ρ : Nat → va_E} : nwFin P ρ 14 = celE (pY P) (pb P) σ0 14 (lay 14) := rfl
set_option maxRecDepth 100000 in
set_option maxHeartbeats 4000000 in
theorem nwf_15 {P : PT} {ρ : Nat → va_E} : nwFin P ρ 15 = celE (pY P) (pb P) σ0 15 (lay 15) := rfl
set_option maxRecDepth 100000 in
set_option maxHeartbeats 4000000 in
theorem nwf_16 {P : PT} {ρ : Nat → va_E} : nwFin P ρ 16 = celE (pY P) (pb P) σ0 16 (lay 16) := rfl
set_option maxRecDepth 100000 in
set_option maxHeartbeats 4000000 in
theorem nwf_17 {P : PT} {ρ : Nat → va_E} : nwFin P ρ 17 = celE (pY P) (pb P) σ0 17 (lay 17) := rfl
set_option maxRecDepth 100000 in
set_option maxHeartbeats 4000000 in
theorem nwf_18 {P : PT} {ρ : Nat → va_E} : nwFin P ρ 18 = celE (pY P) (pb P) σ0 18 (lay 18) := rfl
set_option maxRecDepth 100000 in
set_option maxHeartbeats 4000000 in
theorem nwf_19 {P : PT} {ρ : Nat → va_E} : nwFin P ρ 19 = celE (pY P) (pb P) σ0 19 (lay 19) := rfl
set_option maxRecDepth 100000 in
set_option maxHeartbeats 4000000 in
theorem nwf_20 {P : PT} {ρ : Nat → va_E} : nwFin P ρ 20 = celE (pY P) (pb P) σ0 20 (lay 20) := rfl
set_option maxRecDepth 100000 in
set_option maxHeartbeats 4000000 in
theorem nwf_21 {P : PT} {ρ : Nat → va_E} : nwFin P ρ 21 = celE (pY P) (pb P) σ0 21 (lay 21) := rfl
set_option maxRecDepth 100000 in
set_option maxHeartbeats 4000000 in
theorem nwf_22 {P : PT} {ρ : Nat → va_E} : nwFin P ρ 22 = celE (pY P) (pb P) σ0 22 (lay 22) := rfl
set_option maxRecDepth 100000 in
set_option maxHeartbeats 4000000 in
theorem nwf_23 {P : PT} {ρ : Nat → va_E} : nwFin P ρ 23 = celE (pY P) (pb P) σ0 23 (lay 23) := rfl
set_option maxRecDepth 100000 in
set_option maxHeartbeats 4000000 in
theorem nwf_24 {P : PT} {ρ : Nat → va_E} : nwFin P ρ 24 = celE (pY P) (pb P) σ0 24 (lay 24) := rfl
set_option maxRecDepth 100000 in
set_option maxHeartbeats 4000000 in
theorem nwf_25 {P : PT} {ρ : Nat → va_E} : nwFin P ρ 25 = celE (pY P) (pb P) σ0 25 (lay 25) := rfl
set_option maxRecDepth 100000 in
set_option maxHeartbeats 4000000 in
theorem nwf_26 {P : PT} {ρ : Nat → va_E} : nwFin P ρ 26 = celE (pY P) (pb P) σ0 26 (lay 26) := rfl
set_option maxRecDepth 100000 in
set_option maxHeartbeats 4000000 in
theorem nwf_27 {P : PT} {ρ : Nat → va_E} : nwFin P ρ 27 = celE (pY P) (pb P) σ0 27 (lay 27) := rfl
set_option maxRecDepth 100000 in
set_option maxHeartbeats 4000000 in
theorem nwf_28 {P : PT} {ρ : Nat → va_E} : nwFin P ρ 28 = celE (pY P) (pb P) σ0 28 (lay 28) := rfl
set_option maxRecDepth 100000 in
set_option maxHeartbeats 4000000 in
theorem nwf_29 {P : PT} {ρ : Nat → va_E} : nwFin P ρ 29 = celE (pY P) (pb P) σ0 29 (lay 29) := rfl
set_option maxRecDepth 100000 in
set_option maxHeartbeats 4000000 in
theorem nwf_30 {P : PT} {ρ : Nat → va_E} : nwFin P ρ 30 = celE (pY P) (pb P) σ0 30 (lay 30) := rfl
set_option maxRecDepth 100000 in
set_option maxHeartbeats 4000000 in
theorem nwf_31 {P : PT} {ρ : Nat → va_E} : nwFin P ρ 31 = celE (pY P) (pb P) σ0 31 (lay 31) := rfl
set_option maxRecDepth 100000 in
set_option maxHeartbeats 4000000 in
theorem nwf_32 {P : PT} {ρ : Nat → va_E} : nwFin P ρ 32 = celE (pY P) (pb P) σ0 32 (lay 32) := rfl
set_option maxRecDepth 100000 in
set_option maxHeartbeats 4000000 in
theorem nwf_33 {P : PT} {ρ : Nat → va_E} : nwFin P ρ 33 = celE (pY P) (pb P) σ0 33 (lay 33) := rfl
set_option maxRecDepth 100000 in
set_option maxHeartbeats 4000000 in
theorem nwf_34 {P : PT} {ρ : Nat → va_E} : nwFin P ρ 34 = celE (pY P) (pb P) σ0 34 (lay 34) := rfl
set_option maxRecDepth 100000 in
set_option maxHeartbeats 4000000 in
theorem nwf_35 {P : PT} {ρ : Nat → va_E} : nwFin P ρ 35 = celE (pY P) (pb P) σ0 35 (lay 35) := rfl
set_option maxRecDepth 100000 in
set_option maxHeartbeats 4000000 in
theorem nwf_36 {P : PT} {ρ : Nat → va_E} : nwFin P ρ 36 = celE (pY P) (pb P) σ0 36 (lay 36) := rfl
set_option maxRecDepth 100000 in
set_option maxHeartbeats 4000000 in
theorem nwf_37 {P : PT} {ρ : Nat → va_E} : nwFin P ρ 37 = celE (pY P) (pb P) σ0 37 (lay 37) := rfl
set_option maxRecDepth 100000 in
set_option maxHeartbeats 4000000 in
theorem nwf_38 {P : PT} {ρ : Nat → va_E} : nwFin P ρ 38 = celE (pY P) (pb P) σ0 38 (lay 38) := rfl
set_option maxRecDepth 100000 in
set_option maxHeartbeats 4000000 in
theorem nwf_39 {P : PT} {ρ : Nat → va_E} : nwFin P ρ 39 = celE (pY P) (pb P) σ0 39 (lay 39) := rfl
set_option maxRecDepth 100000 in
set_option maxHeartbeats 4000000 in
theorem nwf_40 {P : PT} {ρ : Nat → va_E} : nwFin P ρ 40 = celE (pY P) (pb P) σ0 40 (lay 40) := rfl
set_option maxRecDepth 100000 in
set_option maxHeartbeats 4000000 in
theorem nwf_41 {P : PT} {ρ : Nat → va_E} : nwFin P ρ 41 = celE (pY P) (pb P) σ0 41 (lay 41) := rfl
set_option maxRecDepth 100000 in
set_option maxHeartbeats 4000000 in
theorem nwf_42 {P : PT} {ρ : Nat → va_E} : nwFin P ρ 42 = celE (pY P) (pb P) σ0 42 (lay 42) := rfl
set_option maxRecDepth 100000 in
set_option maxHeartbeats 4000000 in
theorem nwf_43 {P : PT} {ρ : Nat → va_E} : nwFin P ρ 43 = celE (pY P) (pb P) σ0 43 (lay 43) := rfl
set_option maxRecDepth 100000 in
set_option maxHeartbeats 4000000 in
theorem nwf_44 {P : PT} {ρ : Nat → va_E} : nwFin P ρ 44 = celE (pY P) (pb P) σ0 44 (lay 44) := rfl
set_option maxRecDepth 100000 in
set_option maxHeartbeats 4000000 in
theorem nwf_45 {P : PT} {ρ : Nat → va_E} : nwFin P ρ 45 = celE (pY P) (pb P) σ0 45 (lay 45) := rfl
set_option maxRecDepth 100000 in
set_option maxHeartbeats 4000000 in
theorem nwf_46 {P : PT} {ρ : Nat → va_E} : nwFin P ρ 46 = celE (pY P) (pb P) σ0 46 (lay 46) := rfl
set_option maxRecDepth 100000 in
set_option maxHeartbeats 4000000 in
theorem nwf_47 {P : PT} {ρ : Nat → va_E} : nwFin P ρ 47 = celE (pY P) (pb P) σ0 47 (lay 47) := rfl
set_option maxRecDepth 100000 in
set_option maxHeartbeats 4000000 in
theorem nwf_48 {P : PT} {ρ : Nat → va_E} : nwFin P ρ 48 = celE (pY P) (pb P) σ0 48 (lay 48) := rfl
set_option maxRecDepth 100000 in
set_option maxHeartbeats 4000000 in
theorem nwf_49 {P : PT} {ρ : Nat → va_E} : nwFin P ρ 49 = celE (pY P) (pb P) σ0 49 (lay 49) := rfl
set_option maxRecDepth 100000 in
set_option maxHeartbeats 4000000 in
theorem nwf_50 {P : PT} {ρ : Nat → va_E} : nwFin P ρ 50 = celE (pY P) (pb P) σ0 50 (lay 50) := rfl
set_option maxRecDepth 100000 in
set_option maxHeartbeats 4000000 in
theorem nwf_51 {P : PT} {ρ : Nat → va_E} : nwFin P ρ 51 = celE (pY P) (pb P) σ0 51 (lay 51) := rfl
set_option maxRecDepth 100000 in
set_option maxHeartbeats 4000000 in
theorem nwf_52 {P : PT} {ρ : Nat → va_E} : nwFin P ρ 52 = celE (pY P) (pb P) σ0 52 (lay 52) := rfl
set_option maxRecDepth 100000 in
set_option maxHeartbeats 4000000 in
theorem nwf_53 {P : PT} {ρ : Nat → va_E} : nwFin P ρ 53 = celE (pY P) (pb P) σ0 53 (lay 53) := rfl
set_option maxRecDepth 100000 in
set_option maxHeartbeats 4000000 in
theorem nwf_54 {P : PT} {ρ : Nat → va_E} : nwFin P ρ 54 = celE (pY P) (pb P) σ0 54 (lay 54) := rfl
set_option maxRecDepth 100000 in
set_option maxHeartbeats 4000000 in
theorem nwf_55 {P : PT} {ρ : Nat → va_E} : nwFin P ρ 55 = celE (pY P) (pb P) σ0 55 (lay 55) := rfl
set_option maxRecDepth 100000 in
set_option maxHeartbeats 4000000 in
theorem nwf_56 {P : PT} {ρ : Nat → va_E} : nwFin P ρ 56 = celE (pY P) (pb P) σ0 56 (lay 56) := rfl
set_option maxRecDepth 100000 in
set_option maxHeartbeats 4000000 in
theorem nwf_57 {P : PT} {ρ : Nat → va_E} : nwFin P ρ 57 = celE (pY P) (pb P) σ0 57 (lay 57) := rfl
set_option maxRecDepth 100000 in
set_option maxHeartbeats 4000000 in
theorem nwf_58 {P : PT} {ρ : Nat → va_E} : nwFin P ρ 58 = celE (pY P) (pb P) σ0 58 (lay 58) := rfl
set_option maxRecDepth 100000 in
set_option maxHeartbeats 4000000 in
theorem nwf_59 {P : PT} {ρ : Nat → va_E} : nwFin P ρ 59 = celE (pY P) (pb P) σ0 59 (lay 59) := rfl
set_option maxRecDepth 100000 in
set_option maxHeartbeats 4000000 in
theorem nwf_60 {P : PT} {ρ : Nat → va_E} : nwFin P ρ 60 = celE (pY P) (pb P) σ0 60 (lay 60) := rfl
set_option maxRecDepth 100000 in
set_option maxHeartbeats 4000000 in
theorem nwf_61 {P : PT} {ρ : Nat → va_E} : nwFin P ρ 61 = celE (pY P) (pb P) σ0 61 (lay 61) := rfl
set_option maxRecDepth 100000 in
set_option maxHeartbeats 4000000 in
theorem nwf_62 {P : PT} {ρ : Nat → va_E} : nwFin P ρ 62 = celE (pY P) (pb P) σ0 62 (lay 62) := rfl
set_option maxRecDepth 100000 in
set_option maxHeartbeats 4000000 in
theorem nwf_63 {P : PT} {ρ : Nat → va_E} : nwFin P ρ 63 = celE (pY P) (pb P) σ0 63 (lay 63) := rfl
set_option maxRecDepth 100000 in
set_option maxHeartbeats 4000000 in
theorem nwf_64 {P : PT} {ρ : Nat → va_E} : nwFin P ρ 64 = celE (pY P) (pb P) σ0 64 (lay 64) := rfl
set_option maxRecDepth 100000 in
set_option maxHeartbeats 4000000 in
theorem nwf_65 {P : PT} {ρ : Nat → va_E} : nwFin P ρ 65 = celE (pY P) (pb P) σ0 65 (lay 65) := rfl
set_option maxRecDepth 100000 in
set_option maxHeartbeats 4000000 in
theorem nwf_66 {P : PT} {ρ : Nat → va_E} : nwFin P ρ 66 = celE (pY P) (pb P) σ0 66 (lay 66) := rfl
set_option maxRecDepth 100000 in
set_option maxHeartbeats 4000000 in
theorem nwf_67 {P : PT} {ρ : Nat → va_E} : nwFin P ρ 67 = celE (pY P) (pb P) σ0 67 (lay 67) := rfl
set_option maxRecDepth 100000 in
set_option maxHeartbeats 4000000 in
theorem nwf_68 {P : PT} {ρ : Nat → va_E} : nwFin P ρ 68 = celE (pY P) (pb P) σ0 68 (lay 68) := rfl
set_option maxRecDepth 100000 in
set_option maxHeartbeats 4000000 in
theorem nwf_69 {P : PT} {ρ : Nat → va_E} : nwFin P ρ 69 = celE (pY P) (pb P) σ0 69 (lay 69) := rfl
set_option maxRecDepth 100000 in
set_option maxHeartbeats 4000000 in
theorem nwf_70 {P : PT} {ρ : Nat → va_E} : nwFin P ρ 70 = celE (pY P) (pb P) σ0 70 (lay 70) := rfl
set_option maxRecDepth 100000 in
set_option maxHeartbeats 4000000 in
theorem nwf_71 {P : PT} {ρ : Nat → va_E} : nwFin P ρ 71 = celE (pY P) (pb P) σ0 71 (lay 71) := rfl
set_option maxRecDepth 100000 in
set_option maxHeartbeats 4000000 in
theorem nwf_72 {P : PT} {ρ : Nat → va_E} : nwFin P ρ 72 = celE (pY P) (pb P) σ0 72 (lay 72) := rfl
set_option maxRecDepth 100000 in
set_option maxHeartbeats 4000000 in
theorem nwf_73 {P : PT} {ρ : Nat → va_E} : nwFin P ρ 73 = celE (pY P) (pb P) σ0 73 (lay 73) := rfl
set_option maxRecDepth 100000 in
set_option maxHeartbeats 4000000 in
theorem nwf_74 {P : PT} {ρ : Nat → va_E} : nwFin P ρ 74 = celE (pY P) (pb P) σ0 74 (lay 74) := rfl
set_option maxRecDepth 100000 in
set_option maxHeartbeats 4000000 in
theorem nwf_75 {P : PT} {ρ : Nat → va_E} : nwFin P ρ 75 = celE (pY P) (pb P) σ0 75 (lay 75) := rfl
set_option maxRecDepth 100000 in
set_option maxHeartbeats 4000000 in
theorem nwf_76 {P : PT} {ρ : Nat → va_E} : nwFin P ρ 76 = celE (pY P) (pb P) σ0 76 (lay 76) := rfl
set_option maxRecDepth 100000 in
set_option maxHeartbeats 4000000 in
theorem nwf_77 {P : PT} {ρ : Nat → va_E} : nwFin P ρ 77 = celE (pY P) (pb P) σ0 77 (lay 77) := rfl
set_option maxRecDepth 100000 in
set_option maxHeartbeats 4000000 in
theorem nwf_78 {P : PT} {ρ : Nat → va_E} : nwFin P ρ 78 = celE (pY P) (pb P) σ0 78 (lay 78) := rfl
set_option maxRecDepth 100000 in
set_option maxHeartbeats 4000000 in
theorem nwf_79 {P : PT} {ρ : Nat → va_E} : nwFin P ρ 79 = celE (pY P) (pb P) σ0 79 (lay 79) := rfl
set_option maxRecDepth 100000 in
set_option maxHeartbeats 4000000 in
theorem nwf_80 {P : PT} {ρ : Nat → va_E} : nwFin P ρ 80 = celE (pY P) (pb P) σ0 80 (lay 80) := rfl
set_option maxRecDepth 100000 in
set_option maxHeartbeats 4000000 in
theorem nwf_81 {P : PT} {ρ : Nat → va_E} : nwFin P ρ 81 = celE (pY P) (pb P) σ0 81 (lay 81) := rfl
set_option maxRecDepth 100000 in
set_option maxHeartbeats 4000000 in
theorem nwf_82 {P : PT} {ρ : Nat → va_E} : nwFin P ρ 82 = celE (pY P) (pb P) σ0 82 (lay 82) := rfl
set_option maxRecDepth 100000 in
set_option maxHeartbeats 4000000 in
theorem nwf_83 {P : PT} {ρ : Nat → va_E} : nwFin P ρ 83 = celE (pY P) (pb P) σ0 83 (lay 83) := rfl
set_option maxRecDepth 100000 in
set_option maxHeartbeats 4000000 in
theorem nwf_84 {P : PT} {ρ : Nat → va_E} : nwFin P ρ 84 = celE (pY P) (pb P) σ0 84 (lay 84) := rfl
set_option maxRecDepth 100000 in
set_option maxHeartbeats 4000000 in
theorem nwf_85 {P : PT} {ρ : Nat → va_E} : nwFin P ρ 85 = celE (pY P) (pb P) σ0 85 (lay 85) := rfl
set_option maxRecDepth 100000 in
set_option maxHeartbeats 4000000 in
theorem nwf_86 {P : PT} {ρ : Nat → va_E} : nwFin P ρ 86 = celE (pY P) (pb P) σ0 86 (lay 86) := rfl
set_option maxRecDepth 100000 in
set_option maxHeartbeats 4000000 in
theorem nwf_87 {P : PT} {ρ : Nat → va_E} : nwFin P ρ 87 = celE (pY P) (pb P) σ0 87 (lay 87) := rfl
set_option maxRecDepth 100000 in
set_option maxHeartbeats 4000000 in
theorem nwf_88 {P : PT} {ρ : Nat → va_E} : nwFin P ρ 88 = celE (pY P) (pb P) σ0 88 (lay 88) := rfl
set_option maxRecDepth 100000 in
set_option maxHeartbeats 4000000 in
theorem nwf_89 {P : PT} {ρ : Nat → va_E} : nwFin P ρ 89 = celE (pY P) (pb P) σ0 89 (lay 89) := rfl
set_option maxRecDepth 100000 in
set_option maxHeartbeats 4000000 in
theorem nwf_90 {P : PT} {ρ : Nat → va_E} : nwFin P ρ 90 = celE (pY P) (pb P) σ0 90 (lay 90) := rfl
set_option maxRecDepth 100000 in
set_option maxHeartbeats 4000000 in
theorem nwf_91 {P : PT} {ρ : Nat → va_E} : nwFin P ρ 91 = celE (pY P) (pb P) σ0 91 (lay 91) := rfl
set_option maxRecDepth 100000 in
set_option maxHeartbeats 4000000 in
theorem nwf_92 {P : PT} {ρ : Nat → va_E} : nwFin P ρ 92 = celE (pY P) (pb P) σ0 92 (lay 92) := rfl
set_option maxRecDepth 100000 in
set_option maxHeartbeats 4000000 in
theorem nwf_93 {P : PT} {ρ : Nat → va_E} : nwFin P ρ 93 = celE (pY P) (pb P) σ0 93 (lay 93) := rfl
set_option maxRecDepth 100000 in
set_option maxHeartbeats 4000000 in
theorem nwf_94 {P : PT} {ρ : Nat → va_E} : nwFin P ρ 94 = celE (pY P) (pb P) σ0 94 (lay 94) := rfl
set_option maxRecDepth 100000 in
set_option maxHeartbeats 4000000 in
theorem nwf_95 {P : PT} {ρ : Nat → va_E} : nwFin P ρ 95 = celE (pY P) (pb P) σ0 95 (lay 95) := rfl
set_option maxRecDepth 100000 in
set_option maxHeartbeats 4000000 in
theorem nwf_96 {P : PT} {ρ : Nat → va_E} : nwFin P ρ 96 = celE (pY P) (pb P) σ0 96 (lay 96) := rfl
set_option maxRecDepth 100000 in
set_option maxHeartbeats 4000000 in
theorem nwf_97 {P : PT} {ρ : Nat → va_E} : nwFin P ρ 97 = celE (pY P) (pb P) σ0 97 (lay 97) := rfl
set_option maxRecDepth 100000 in
set_option maxHeartbeats 4000000 in
theorem nwf_98 {P : PT} {ρ : Nat → va_E} : nwFin P ρ 98 = celE (pY P) (pb P) σ0 98 (lay 98) := rfl
set_option maxRecDepth 100000 in
set_option maxHeartbeats 4000000 in
theorem nwf_99 {P : PT} {ρ : Nat → va_E} : nwFin P ρ 99 = celE (pY P) (pb P) σ0 99 (lay 99) := rfl
set_option maxRecDepth 100000 in
set_option maxHeartbeats 4000000 in
theorem nwf_100 {P : PT} {ρ : Nat → va_E} : nwFin P ρ 100 = celE (pY P) (pb P) σ0 100 (lay 100) := rfl
set_option maxRecDepth 100000 in
set_option maxHeartbeats 4000000 in
theorem nwf_101 {P : PT} {ρ : Nat → va_E} : nwFin P ρ 101 = celE (pY P) (pb P) σ0 101 (lay 101) := rfl
set_option maxRecDepth 100000 in
set_option maxHeartbeats 4000000 in
theorem nwf_102 {P : PT} {ρ : Nat → va_E} : nwFin P ρ 102 = celE (pY P) (pb P) σ0 102 (lay 102) := rfl
set_option maxRecDepth 100000 in
set_option maxHeartbeats 4000000 in
theorem nwf_103 {P : PT} {ρ : Nat → va_E} : nwFin P ρ 103 = celE (pY P) (pb P) σ0 103 (lay 103) := rfl
set_option maxRecDepth 100000 in
set_option maxHeartbeats 4000000 in
theorem nwf_104 {P : PT} {ρ : Nat → va_E} : nwFin P ρ 104 = celE (pY P) (pb P) σ0 104 (lay 104) := rfl
set_option maxRecDepth 100000 in
set_option maxHeartbeats 4000000 in
theorem nwf_105 {P : PT} {ρ : Nat → va_E} : nwFin P ρ 105 = celE (pY P) (pb P) σ0 105 (lay 105) := rfl
set_option maxRecDepth 100000 in
set_option maxHeartbeats 4000000 in
theorem nwf_106 {P : PT} {ρ : Nat → va_E} : nwFin P ρ 106 = celE (pY P) (pb P) σ0 106 (lay 106) := rfl
set_option maxRecDepth 100000 in
set_option maxHeartbeats 4000000 in
theorem nwf_107 {P : PT} {ρ : Nat → va_E} : nwFin P ρ 107 = celE (pY P) (pb P) σ0 107 (lay 107) := rfl
set_option maxRecDepth 100000 in
set_option maxHeartbeats 4000000 in
theorem nwf_108 {P : PT} {ρ : Nat → va_E} : nwFin P ρ 108 = celE (pY P) (pb P) σ0 108 (lay 108) := rfl
set_option maxRecDepth 100000 in
set_option maxHeartbeats 4000000 in
theorem nwf_109 {P : PT} {ρ : Nat → va_E} : nwFin P ρ 109 = celE (pY P) (pb P) σ0 109 (lay 109) := rfl
set_option maxRecDepth 100000 in
set_option maxHeartbeats 4000000 in
theorem nwf_110 {P : PT} {ρ : Nat → va_E} : nwFin P ρ 110 = celE (pY P) (pb P) σ0 110 (lay 110) := rfl
set_option maxRecDepth 100000 in
set_option maxHeartbeats 4000000 in
theorem nwf_111 {P : PT} {ρ : Nat → va_E} : nwFin P ρ 111 = celE (pY P) (pb P) σ0 111 (lay 111) := rfl
set_option maxRecDepth 100000 in
set_option maxHeartbeats 4000000 in
theorem nwf_112 {P : PT} {ρ : Nat → va_E} : nwFin P ρ 112 = celE (pY P) (pb P) σ0 112 (lay 112) := rfl
set_option maxRecDepth 100000 in
set_option maxHeartbeats 4000000 in
theorem nwf_113 {P : PT} {ρ : Nat → va_E} : nwFin P ρ 113 = celE (pY P) (pb P) σ0 113 (lay 113) := rfl
set_option maxRecDepth 100000 in
set_option maxHeartbeats 4000000 in
theorem nwf_114 {P : PT} {ρ : Nat → va_E} : nwFin P ρ 114 = celE (pY P) (pb P) σ0 114 (lay 114) := rfl
set_option maxRecDepth 100000 in
set_option maxHeartbeats 4000000 in
theorem nwf_115 {P : PT} {ρ : Nat → va_E} : nwFin P ρ 115 = celE (pY P) (pb P) σ0 115 (lay 115) := rfl
set_option maxRecDepth 100000 in
set_option maxHeartbeats 4000000 in
theorem nwf_116 {P : PT} {ρ : Nat → va_E} : nwFin P ρ 116 = celE (pY P) (pb P) σ0 116 (lay 116) := rfl
set_option maxRecDepth 100000 in
set_option maxHeartbeats 4000000 in
theorem nwf_117 {P : PT} {ρ : Nat → va_E} : nwFin P ρ 117 = celE (pY P) (pb P) σ0 117 (lay 117) := rfl
set_option maxRecDepth 100000 in
set_option maxHeartbeats 4000000 in
theorem nwf_118 {P : PT} {ρ : Nat → va_E} : nwFin P ρ 118 = celE (pY P) (pb P) σ0 118 (lay 118) := rfl
set_option maxRecDepth 100000 in
set_option maxHeartbeats 4000000 in
theorem nwf_119 {P : PT} {ρ : Nat → va_E} : nwFin P ρ 119 = celE (pY P) (pb P) σ0 119 (lay 119) := rfl
set_option maxRecDepth 100000 in
set_option maxHeartbeats 4000000 in
theorem nwf_120 {P : PT} {ρ : Nat → va_E} : nwFin P ρ 120 = celE (pY P) (pb P) σ0 120 (lay 120) := rfl
set_option maxRecDepth 100000 in
set_option maxHeartbeats 4000000 in
theorem nwf_121 {P : PT} {ρ : Nat → va_E} : nwFin P ρ 121 = celE (pY P) (pb P) σ0 121 (lay 121) := rfl
set_option maxRecDepth 100000 in
set_option maxHeartbeats 4000000 in
theorem nwf_122 {P : PT} {ρ : Nat → va_E} : nwFin P ρ 122 = celE (pY P) (pb P) σ0 122 (lay 122) := rfl
set_option maxRecDepth 100000 in
set_option maxHeartbeats 4000000 in
theorem nwf_123 {P : PT} {ρ : Nat → va_E} : nwFin P ρ 123 = celE (pY P) (pb P) σ0 123 (lay 123) := rfl
set_option maxRecDepth 100000 in
set_option maxHeartbeats 4000000 in
theorem nwf_124 {P : PT} {ρ : Nat → va_E} : nwFin P ρ 124 = celE (pY P) (pb P) σ0 124 (lay 124) := rfl
set_option maxRecDepth 100000 in
set_option maxHeartbeats 4000000 in
theorem nwf_125 {P : PT} {ρ : Nat → va_E} : nwFin P ρ 125 = celE (pY P) (pb P) σ0 125 (lay 125) := rfl
set_option maxRecDepth 100000 in
set_option maxHeartbeats 4000000 in
theorem nwf_126 {P : PT} {ρ : Nat → va_E} : nwFin P ρ 126 = celE (pY P) (pb P) σ0 126 (lay 126) := rfl
set_option maxRecDepth 100000 in
set_option maxHeartbeats 4000000 in
theorem nwf_127 {P : PT} {ρ : Nat → va_E} : nwFin P ρ 127 = celE (pY P) (pb P) σ0 127 (lay 127) := rfl
set_option maxRecDepth 100000 in
set_option maxHeartbeats 4000000 in
theorem nwf_128 {P : PT} {ρ : Nat → va_E} : nwFin P ρ 128 = celE (pY P) (pb P) σ0 128 (lay 128) := rfl
set_option maxRecDepth 100000 in
set_option maxHeartbeats 4000000 in
theorem nwf_129 {P : PT} {ρ : Nat → va_E} : nwFin P ρ 129 = celE (pY P) (pb P) σ0 129 (lay 129) := rfl
set_option maxRecDepth 100000 in
set_option maxHeartbeats 4000000 in
theorem nwf_130 {P : PT} {ρ : Nat → va_E} : nwFin P ρ 130 = celE (pY P) (pb P) σ0 130 (lay 130) := rfl
set_option maxRecDepth 100000 in
set_option maxHeartbeats 4000000 in
theorem nwf_131 {P : PT} {ρ : Nat → va_E} : nwFin P ρ 131 = celE (pY P) (pb P) σ0 131 (lay 131) := rfl
set_option maxRecDepth 100000 in
set_option maxHeartbeats 4000000 in
theorem nwf_132 {P : PT} {ρ : Nat → va_E} : nwFin P ρ 132 = celE (pY P) (pb P) σ0 132 (lay 132) := rfl
set_option maxRecDepth 100000 in
set_option maxHeartbeats 4000000 in
theorem nwf_133 {P : PT} {ρ : Nat → va_E} : nwFin P ρ 133 = celE (pY P) (pb P) σ0 133 (lay 133) := rfl
set_option maxRecDepth 100000 in
set_option maxHeartbeats 4000000 in
theorem nwf_134 {P : PT} {ρ : Nat → va_E} : nwFin P ρ 134 = celE (pY P) (pb P) σ0 134 (lay 134) := rfl
set_option maxRecDepth 100000 in
set_option maxHeartbeats 4000000 in
theorem nwf_135 {P : PT} {ρ : Nat → va_E} : nwFin P ρ 135 = celE (pY P) (pb P) σ0 135 (lay 135) := rfl
set_option maxRecDepth 100000 in
set_option maxHeartbeats 4000000 in
theorem nwf_136 {P : PT} {ρ : Nat → va_E} : nwFin P ρ 136 = celE (pY P) (pb P) σ0 136 (lay 136) := rfl
set_option maxRecDepth 100000 in
set_option maxHeartbeats 4000000 in
theorem nwf_137 {P : PT} {ρ : Nat → va_E} : nwFin P ρ 137 = celE (pY P) (pb P) σ0 137 (lay 137) := rfl
set_option maxRecDepth 100000 in
set_option maxHeartbeats 4000000 in
theorem nwf_138 {P : PT} {ρ : Nat → va_E} : nwFin P ρ 138 = celE (pY P) (pb P) σ0 138 (lay 138) := rfl
set_option maxRecDepth 100000 in
set_option maxHeartbeats 4000000 in
theorem nwf_139 {P : PT} {ρ : Nat → va_E} : nwFin P ρ 139 = celE (pY P) (pb P) σ0 139 (lay 139) := rfl
set_option maxRecDepth 100000 in
set_option maxHeartbeats 4000000 in
theorem nwf_140 {P : PT} {ρ : Nat → va_E} : nwFin P ρ 140 = celE (pY P) (pb P) σ0 140 (lay 140) := rfl
set_option maxRecDepth 100000 in
set_option maxHeartbeats 4000000 in
theorem nwf_141 {P : PT} {ρ : Nat → va_E} : nwFin P ρ 141 = celE (pY P) (pb P) σ0 141 (lay 141) := rfl
set_option maxRecDepth 100000 in
set_option maxHeartbeats 4000000 in
theorem nwf_142 {P : PT} {ρ : Nat → va_E} : nwFin P ρ 142 = celE (pY P) (pb P) σ0 142 (lay 142) := rfl
set_option maxRecDepth 100000 in
set_option maxHeartbeats 4000000 in
theorem nwf_143 {P : PT} {ρ : Nat → va_E} : nwFin P ρ 143 = celE (pY P) (pb P) σ0 143 (lay 143) := rfl
set_option maxRecDepth 100000 in
set_option maxHeartbeats 4000000 in
theorem nwf_144 {P : PT} {ρ : Nat → va_E} : nwFin P ρ 144 = celE (pY P) (pb P) σ0 144 (lay 144) := rfl
set_option maxRecDepth 100000 in
set_option maxHeartbeats 4000000 in
theorem nwf_145 {P : PT} {ρ : Nat → va_E} : nwFin P ρ 145 = celE (pY P) (pb P) σ0 145 (lay 145) := rfl
set_option maxRecDepth 100000 in
set_option maxHeartbeats 4000000 in
theorem nwf_146 {P : PT} {ρ : Nat → va_E} : nwFin P ρ 146 = celE (pY P) (pb P) σ0 146 (lay 146) := rfl
set_option maxRecDepth 100000 in
set_option maxHeartbeats 4000000 in
theorem nwf_147 {P : PT} {ρ : Nat → va_E} : nwFin P ρ 147 = celE (pY P) (pb P) σ0 147 (lay 147) := rfl
set_option maxRecDepth 100000 in
set_option maxHeartbeats 4000000 in
theorem nwf_148 {P : PT} {ρ : Nat → va_E} : nwFin P ρ 148 = celE (pY P) (pb P) σ0 148 (lay 148) := rfl
set_option maxRecDepth 100000 in
set_option maxHeartbeats 4000000 in
theorem nwf_149 {P : PT} {ρ : Nat → va_E} : nwFin P ρ 149 = celE (pY P) (pb P) σ0 149 (lay 149) := (show nwFin P ρ 149 = .inl (pY P 0, 340, .inl (upd (fun _ => 0) 5 1)) from rfl).trans (congrArg (fun f => (Sum.inl (pY P 0, 340, Sum.inl f) : va_E)) nwf_s)
set_option maxRecDepth 100000 in
set_option maxHeartbeats 4000000 in
theorem nwf_150 {P : PT} {ρ : Nat → va_E} : nwFin P ρ 150 = celE (pY P) (pb P) σ0 150 (lay 150) := rfl
set_option maxRecDepth 100000 in
set_option maxHeartbeats 4000000 in
theorem nwf_151 {P : PT} {ρ : Nat → va_E} : nwFin P ρ 151 = celE (pY P) (pb P) σ0 151 (lay 151) := rfl
set_option maxRecDepth 100000 in
set_option maxHeartbeats 4000000 in
theorem nwf_152 {P : PT} {ρ : Nat → va_E} : nwFin P ρ 152 = celE (pY P) (pb P) σ0 152 (lay 152) := rfl
set_option maxRecDepth 100000 in
set_option maxHeartbeats 4000000 in
theorem nwf_153 {P : PT} {ρ : Nat → va_E} : nwFin P ρ 153 = celE (pY P) (pb P) σ0 153 (lay 153) := rfl
set_option maxRecDepth 100000 in
set_option maxHeartbeats 4000000 in
theorem nwf_154 {P : PT} {ρ : Nat → va_E} : nwFin P ρ 154 = celE (pY P) (pb P) σ0 154 (lay 154) := rfl
set_option maxRecDepth 100000 in
set_option maxHeartbeats 4000000 in
theorem nwf_155 {P : PT} {ρ : Nat → va_E} : nwFin P ρ 155 = celE (pY P) (pb P) σ0 155 (lay 155) := rfl
set_option maxRecDepth 100000 in
set_option maxHeartbeats 4000000 in
theorem nwf_156 {P : PT} {ρ : Nat → va_E} : nwFin P ρ 156 = celE (pY P) (pb P) σ0 156 (lay 156) := rfl
set_option maxRecDepth 100000 in
set_option maxHeartbeats 4000000 in
theorem nwf_157 {P : PT} {ρ : Nat → va_E} : nwFin P ρ 157 = celE (pY P) (pb P) σ0 157 (lay 157) := rfl
set_option maxRecDepth 100000 in
set_option maxHeartbeats 4000000 in
theorem nwf_158 {P : PT} {ρ : Nat → va_E} : nwFin P ρ 158 = celE (pY P) (pb P) σ0 158 (lay 158) := rfl
set_option maxRecDepth 100000 in
set_option maxHeartbeats 4000000 in
theorem nwf_159 {P : PT} {ρ : Nat → va_E} : nwFin P ρ 159 = celE (pY P) (pb P) σ0 159 (lay 159) := rfl
set_option maxRecDepth 100000 in
set_option maxHeartbeats 4000000 in
theorem nwf_160 {P : PT} {ρ : Nat → va_E} : nwFin P ρ 160 = celE (pY P) (pb P) σ0 160 (lay 160) := (show nwFin P ρ 160 = .inl (pY P 0, 4, .inl (upd (upd (upd (upd (fun _ => 0) 0 (-1)) 1 (-1)) 2 (-1)) 3 (-1))) from rfl).trans (congrArg (fun f => (Sum.inl (pY P 0, 4, Sum.inl f) : va_E)) nwf_m2)
set_option maxRecDepth 100000 in
set_option maxHeartbeats 4000000 in
theorem nwf_161 {P : PT} {ρ : Nat → va_E} : nwFin P ρ 161 = celE (pY P) (pb P) σ0 161 (lay 161) := rfl
set_option maxRecDepth 100000 in
set_option maxHeartbeats 4000000 in
theorem nwf_162 {P : PT} {ρ : Nat → va_E} : nwFin P ρ 162 = celE (pY P) (pb P) σ0 162 (lay 162) := rfl
set_option maxRecDepth 100000 in
set_option maxHeartbeats 4000000 in
theorem nwf_163 {P : PT} {ρ : Nat → va_E} : nwFin P ρ 163 = celE (pY P) (pb P) σ0 163 (lay 163) := rfl
set_option maxRecDepth 100000 in
set_option maxHeartbeats 4000000 in
theorem nwf_164 {P : PT} {ρ : Nat → va_E} : nwFin P ρ 164 = celE (pY P) (pb P) σ0 164 (lay 164) := rfl
set_option maxRecDepth 100000 in
set_option maxHeartbeats 4000000 in
theorem nwf_165 {P : PT} {ρ : Nat → va_E} : nwFin P ρ 165 = celE (pY P) (pb P) σ0 165 (lay 165) := rfl
set_option maxRecDepth 100000 in
set_option maxHeartbeats 4000000 in
theorem nwf_166 {P : PT} {ρ : Nat → va_E} : nwFin P ρ 166 = celE (pY P) (pb P) σ0 166 (lay 166) := rfl
theorem nwf_at {P : PT} {ρ : Nat → va_E} : ∀ k, k < 167 → k ≠ 13 → nwFin P ρ k = celE (pY P) (pb P) σ0 k (lay k)
  | 0, _, _ => nwf_0
  | 1, _, _ => nwf_1
  | 2, _, _ => nwf_2
  | 3, _, _ => nwf_3
  | 4, _, _ => nwf_4
  | 5, _, _ => nwf_5
  | 6, _, _ => nwf_6
  | 7, _, _ => nwf_7
  | 8, _, _ => nwf_8
  | 9, _, _ => nwf_9
  | 10, _, _ => nwf_10
  | 11, _, _ => nwf_11
  | 12, _, _ => nwf_12
  | 13, _, h => absurd rfl h
  | 14, _, _ => nwf_14
  | 15, _, _ => nwf_15
  | 16, _, _ => nwf_16
  | 17, _, _ => nwf_17
  | 18, _, _ => nwf_18
  | 19, _, _ => nwf_19
  | 20, _, _ => nwf_20
  | 21, _, _ => nwf_21
  | 22, _, _ => nwf_22
  | 23, _, _ => nwf_23
  | 24, _, _ => nwf_24
  | 25, _, _ => nwf_25
  | 26, _, _ => nwf_26
  | 27, _, _ => nwf_27
  | 28, _, _ => nwf_28
  | 29, _, _ => nwf_29
  | 30, _, _ => nwf_30
  | 31, _, _ => nwf_31
  | 32, _, _ => nwf_32
  | 33, _, _ => nwf_33
  | 34, _, _ => nwf_34
  | 35, _, _ => nwf_35
  | 36, _, _ => nwf_36
  | 37, _, _ => nwf_37
  | 38, _, _ => nwf_38
  | 39, _, _ => nwf_39
  | 40, _, _ => nwf_40
  | 41, _, _ => nwf_41
  | 42, _, _ => nwf_42
  | 43, _, _ => nwf_43
  | 44, _, _ => nwf_44
  | 45, _, _ => nwf_45
  | 46, _, _ => nwf_46
  | 47, _, _ => nwf_47
  | 48, _, _ => nwf_48
  | 49, _, _ => nwf_49
  | 50, _, _ => nwf_50
  | 51, _, _ => nwf_51
  | 52, _, _ => nwf_52
  | 53, _, _ => nwf_53
  | 54, _, _ => nwf_54
  | 55, _, _ => nwf_55
  | 56, _, _ => nwf_56
  | 57, _, _ => nwf_57
  | 58, _, _ => nwf_58
  | 59, _, _ => nwf_59
  | 60, _, _ => nwf_60
  | 61, _, _ => nwf_61
  | 62, _, _ => nwf_62
  | 63, _, _ => nwf_63
  | 64, _, _ => nwf_64
  | 65, _, _ => nwf_65
  | 66, _, _ => nwf_66
  | 67, _, _ => nwf_67
  | 68, _, _ => nwf_68
  | 69, _, _ => nwf_69
  | 70, _, _ => nwf_70
  | 71, _, _ => nwf_71
  | 72, _, _ => nwf_72
  | 73, _, _ => nwf_73
  | 74, _, _ => nwf_74
  | 75, _, _ => nwf_75
  | 76, _, _ => nwf_76
  | 77, _, _ => nwf_77
  | 78, _, _ => nwf_78
  | 79, _, _ => nwf_79
  | 80, _, _ => nwf_80
  | 81, _, _ => nwf_81
  | 82, _, _ => nwf_82
  | 83, _, _ => nwf_83
  | 84, _, _ => nwf_84
  | 85, _, _ => nwf_85
  | 86, _, _ => nwf_86
  | 87, _, _ => nwf_87
  | 88, _, _ => nwf_88
  | 89, _, _ => nwf_89
  | 90, _, _ => nwf_90
  | 91, _, _ => nwf_91
  | 92, _, _ => nwf_92
  | 93, _, _ => nwf_93
  | 94, _, _ => nwf_94
  | 95, _, _ => nwf_95
  | 96, _, _ => nwf_96
  | 97, _, _ => nwf_97
  | 98, _, _ => nwf_98
  | 99, _, _ => nwf_99
  | 100, _, _ => nwf_100
  | 101, _, _ => nwf_101
  | 102, _, _ => nwf_102
  | 103, _, _ => nwf_103
  | 104, _, _ => nwf_104
  | 105, _, _ => nwf_105
  | 106, _, _ => nwf_106
  | 107, _, _ => nwf_107
  | 108, _, _ => nwf_108
  | 109, _, _ => nwf_109
  | 110, _, _ => nwf_110
  | 111, _, _ => nwf_111
  | 112, _, _ => nwf_112
  | 113, _, _ => nwf_113
  | 114, _, _ => nwf_114
  | 115, _, _ => nwf_115
  | 116, _, _ => nwf_116
  | 117, _, _ => nwf_117
  | 118, _, _ => nwf_118
  | 119, _, _ => nwf_119
  | 120, _, _ => nwf_120
  | 121, _, _ => nwf_121
  | 122, _, _ => nwf_122
  | 123, _, _ => nwf_123
  | 124, _, _ => nwf_124
  | 125, _, _ => nwf_125
  | 126, _, _ => nwf_126
  | 127, _, _ => nwf_127
  | 128, _, _ => nwf_128
  | 129, _, _ => nwf_129
  | 130, _, _ => nwf_130
  | 131, _, _ => nwf_131
  | 132, _, _ => nwf_132
  | 133, _, _ => nwf_133
  | 134, _, _ => nwf_134
  | 135, _, _ => nwf_135
  | 136, _, _ => nwf_136
  | 137, _, _ => nwf_137
  | 138, _, _ => nwf_138
  | 139, _, _ => nwf_139
  | 140, _, _ => nwf_140
  | 141, _, _ => nwf_141
  | 142, _, _ => nwf_142
  | 143, _, _ => nwf_143
  | 144, _, _ => nwf_144
  | 145, _, _ => nwf_145
  | 146, _, _ => nwf_146
  | 147, _, _ => nwf_147
  | 148, _, _ => nwf_148
  | 149, _, _ => nwf_149
  | 150, _, _ => nwf_150
  | 151, _, _ => nwf_151
  | 152, _, _ => nwf_152
  | 153, _, _ => nwf_153
  | 154, _, _ => nwf_154
  | 155, _, _ => nwf_155
  | 156, _, _ => nwf_156
  | 157, _, _ => nwf_157
  | 158, _, _ => nwf_158
  | 159, _, _ => nwf_159
  | 160, _, _ => nwf_160
  | 161, _, _ => nwf_161
  | 162, _, _ => nwf_162
  | 163, _, _ => nwf_163
  | 164, _, _ => nwf_164
  | 165, _, _ => nwf_165
  | 166, _, _ => nwf_166
  | k + 167, h, _ => absurd h (by omega)
set_option maxRecDepth 100000 in
set_option maxHeartbeats 4000000 in
theorem nwf_13 {P : PT} {ρ : Nat → va_E} : ∃ f : Nat → Option Nat, nwFin P ρ 13 = .inl (pY P 3, 6, .inr (.inr (.inr (.inr f)))) ∧ ∀ j, j < 6 → f j = some (pb P + (14 + j)) := ⟨_, rfl, fun j hj => match j, hj with
  | 0, _ => rfl
  | 1, _ => rfl
  | 2, _ => rfl
  | 3, _ => rfl
  | 4, _ => rfl
  | 5, _ => rfl
  | j + 6, h => absurd h (by omega)⟩
theorem nwf_RP {P : PT} {ρ : Nat → va_E} {H : Heap} (h : nwS P 167 (nwFin P ρ) H) : RP P σ0 H := by
  intro k q hq
  have hk : k < 167 := by
    have h1 := (List.getElem?_eq_some_iff.mp hq).1
    unfold wd at h1
    rw [List.length_map, List.length_range] at h1
    exact h1
  rw [wd_at hk rfl] at hq
  cases hq
  have h1 := h k _ (nwW_at hk)
  by_cases h13 : k = 13
  · subst h13
    obtain ⟨f, e, hf⟩ := nwf_13 (P := P) (ρ := ρ)
    rw [e] at h1
    have h2 : H[pb P + 13]? = some (vp_cell (pY P 3) (6, .inr (.inr (.inr (.inr f))))) := h1
    show H[pb P + 13]? = some (vp_cell (pY P 3) (6, .inr (.inr (.inr (.inr (fun j => some (pb P + (14 + j))))))))
    rw [h2]
    exact congrArg some (nw_ext fun j hj => hf j hj)
  · rw [nwf_at k hk h13] at h1
    exact h1
