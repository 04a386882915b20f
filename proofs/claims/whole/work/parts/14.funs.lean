def FU : Nat := 2000
def DP : Nat := 12
def f_H_isIn (x0 : Int32) (x1 : Int32) (x2 : Int32) (σ : SG) : Option (Int32 × SG) :=
  if x0 < x1 then (
    some ((0 : Int32), σ))
  else (
    if x2 < x0 then (
      some ((0 : Int32), σ))
    else (
      some ((1 : Int32), σ)))
def f_H_isThing (x0 : Int32) (σ : SG) : Option (Int32 × SG) :=
  bnd (f_H_isIn x0 (0 : Int32) (7 : Int32) σ) (fun r2 σ1 =>
  gd (r2 = 0 ∨ r2 = 1) (some (r2, σ1)))
def f_To_mark (t : Nat) (x1 : Int32) (σ : SG) : Option (Unit × SG) :=
  gd (ix x1 6) (
  gd (ix x1 6) (
  if ¬ (σ.1 (t + 9) (nx x1)) = (σ.1 (t + 10) (nx x1)) then (
    sx (uI σ t 8 ((σ.1 t 8) &&& (((1 : Int32) <<< (x1 &&& 31)) ^^^ (-1 : Int32)))) (fun σ1 =>
    some ((), σ1)))
  else (
    sx (uI σ t 8 ((σ.1 t 8) ||| ((1 : Int32) <<< (x1 &&& 31)))) (fun σ2 =>
    some ((), σ2)))))
def f_H_person (x1 : Int32) (x2 : Int32) (x3 : Int32) (x4 : Int32) (σ : SG) : Option (Int32 × SG) :=
  bnd (f_H_isIn x1 (1 : Int32) (5 : Int32) σ) (fun r2 σ1 =>
  if r2 = 0 then (
    some ((-1 : Int32), σ1))
  else (
    bnd (f_H_isThing x2 σ1) (fun r4 σ3 =>
    if r4 = 0 then (
      some ((-1 : Int32), σ3))
    else (
      bnd (f_H_isThing x3 σ3) (fun r6 σ5 =>
      if r6 = 0 then (
        some ((-1 : Int32), σ5))
      else (
        bnd (f_H_isIn x4 (0 : Int32) (999 : Int32) σ5) (fun r8 σ7 =>
        if ¬ r8 = 0 then (
          if (σ7.1 20 2) < (6 : Int32) then (
            lx (σ7.1 20 2) (fun y9 =>
            sx (uI σ7 20 2 ((σ7.1 20 2) + (1 : Int32))) (fun σ10 =>
            gd (ix y9 6) (
            sx (uI σ10 28 (nx y9) x1) (fun σ11 =>
            gd (ix y9 6) (
            sx (uI σ11 29 (nx y9) x2) (fun σ12 =>
            gd (ix y9 6) (
            sx (uI σ12 30 (nx y9) x3) (fun σ13 =>
            gd (ix y9 6) (
            sx (uI σ13 31 (nx y9) x4) (fun σ14 =>
            gd (ix y9 6) (
            sx (uI σ14 32 (nx y9) (0 : Int32)) (fun σ15 =>
            bnd (f_To_mark 20 y9 σ15) (fun _ σ16 =>
            some (y9, σ16)))))))))))))))
          else (
            some ((-2 : Int32), σ7)))
        else (
          some ((-1 : Int32), σ7)))))))))
def f_To_isPerson (t : Nat) (x1 : Int32) (σ : SG) : Option (Int32 × SG) :=
  if x1 < 0 then (
    some ((0 : Int32), σ))
  else (
    if (σ.1 t 2) ≤ x1 then (
      some ((0 : Int32), σ))
    else (
      some ((1 : Int32), σ)))
def f_Pe_isAsked (x1 : Int32) (x2 : Int32) (x3 : Int32) (σ : SG) : Option (Int32 × SG) :=
  some (x1, σ)
def f_Pe_isAsked_15 (x1 : Int32) (x2 : Int32) (x3 : Int32) (σ : SG) : Option (Int32 × SG) :=
  some (x1, σ)
def f_Mi_isAsked (x1 : Int32) (x2 : Int32) (x3 : Int32) (σ : SG) : Option (Int32 × SG) :=
  lx (x2 / (10 : Int32)) (fun y1 =>
  if x1 ≤ y1 then (
    some ((0 : Int32), σ))
  else (
    some (x1 - y1, σ)))
def f_Mi_isAsked_17 (x1 : Int32) (x2 : Int32) (x3 : Int32) (σ : SG) : Option (Int32 × SG) :=
  lx (x2 / (10 : Int32)) (fun y1 =>
  if x1 ≤ y1 then (
    some ((0 : Int32), σ))
  else (
    some (x1 - y1, σ)))
def f_Wi_isAsked (x1 : Int32) (x2 : Int32) (x3 : Int32) (σ : SG) : Option (Int32 × SG) :=
  bnd (f_Mi_isAsked_17 x1 x2 x3 σ) (fun r2 σ1 =>
  if x3 = 0 then (
    some (r2, σ1))
  else (
    some (r2 / (2 : Int32), σ1)))
def f_Pr_isAsked (x1 : Int32) (x2 : Int32) (x3 : Int32) (σ : SG) : Option (Int32 × SG) :=
  some ((2 : Int32) * x1, σ)
def f_Pr_isAsked_19 (x1 : Int32) (x2 : Int32) (x3 : Int32) (σ : SG) : Option (Int32 × SG) :=
  some ((2 : Int32) * x1, σ)
def f_Be_isAsked (x1 : Int32) (x2 : Int32) (x3 : Int32) (σ : SG) : Option (Int32 × SG) :=
  bnd (f_Pr_isAsked_19 x1 x2 x3 σ) (fun r2 σ1 =>
  if r2 ≤ (7 : Int32) then (
    some ((0 : Int32), σ1))
  else (
    some (r2 - (7 : Int32), σ1)))
def f_Ru_look (t : Nat) (x1 : Int32) (x2 : Int32) (x3 : Int32) (x4 : Int32) (x5 : Int32) (σ : SG) : Option (Unit × SG) :=
  sx (uI σ (t + 6) 0 x1) (fun σ1 =>
  sx (uI σ1 (t + 6) 1 x2) (fun σ2 =>
  sx (uI σ2 (t + 6) 2 x3) (fun σ3 =>
  sx (uI σ3 (t + 6) 3 x4) (fun σ4 =>
  sx (uI σ4 (t + 6) 4 x5) (fun σ5 =>
  some ((), σ5))))))
def f_H_isUnder (x0 : Int32) (x1 : Int32) (σ : SG) : Option (Int32 × SG) :=
  if x1 = 0 then (
    some ((1 : Int32), σ))
  else (
    if x0 = x1 then (
      some ((1 : Int32), σ))
    else (
      gd (ix x0 6) (
      if ¬ (tABOVE (nx x0)) = x1 then (
        some ((0 : Int32), σ))
      else (
        some ((1 : Int32), σ)))))
def f_Ru_holds_201 (t : Nat) (K5 : Int32 → Int32 → Int32 → SG → Option (Int32 × SG)) (x2 : Int32) (x3 : Int32) (x4 : Int32) (xs0 : Int32) (σ : SG) : Option (Int32 × SG) :=
  if xs0 = 0 then (
    lx ((x3 <<< ((1 : Int32) &&& 31)) ||| (0 : Int32)) (fun y1 =>
    lx (x4 + (1 : Int32)) (fun y2 =>
    K5 x2 y1 y2 σ)))
  else (
    lx ((x3 <<< ((1 : Int32) &&& 31)) ||| (1 : Int32)) (fun y3 =>
    lx (x4 + (1 : Int32)) (fun y4 =>
    K5 x2 y3 y4 σ)))
def f_Ru_holds_139 (t : Nat) (K5 : Int32 → Int32 → Int32 → SG → Option (Int32 × SG)) (x2 : Int32) (x3 : Int32) (x4 : Int32) (x5 : Int32) (x8 : Int32) (xs0 : Int32) (σ : SG) : Option (Int32 × SG) :=
  lx (x5 >>> ((28 : Int32) &&& 31)) (fun y1 =>
  if ¬ y1 = 0 then (
    if ¬ y1 = (1 : Int32) then (
      if x8 ≤ xs0 then (
        f_Ru_holds_201 t K5 x2 x3 x4 (0 : Int32) σ)
      else (
        f_Ru_holds_201 t K5 x2 x3 x4 (1 : Int32) σ))
    else (
      if ¬ x8 = xs0 then (
        f_Ru_holds_201 t K5 x2 x3 x4 (0 : Int32) σ)
      else (
        f_Ru_holds_201 t K5 x2 x3 x4 (1 : Int32) σ)))
  else (
    if xs0 ≤ x8 then (
      f_Ru_holds_201 t K5 x2 x3 x4 (0 : Int32) σ)
    else (
      f_Ru_holds_201 t K5 x2 x3 x4 (1 : Int32) σ)))
def f_Ru_holds_5 (t : Nat) : Nat → Int32 → Int32 → Int32 → SG → Option (Int32 × SG)
  | 0, _, _, _, _ => none
  | n + 1, x2, x3, x4, σ =>
    if x2 ≤ x4 then (
      if ¬ (x3 &&& (1 : Int32)) = (1 : Int32) then (
        some ((0 : Int32), σ))
      else (
        some ((1 : Int32), σ)))
    else (
      gd (ix x4 200) (
      lx (σ.1 (t + 5) (nx x4)) (fun y1 =>
      if ¬ y1 = (-3 : Int32) then (
        if ¬ y1 = (-1 : Int32) then (
          if ¬ y1 = (-2 : Int32) then (
            lx ((y1 >>> ((14 : Int32) &&& 31)) &&& (16383 : Int32)) (fun y2 =>
            lx (y1 &&& (16383 : Int32)) (fun y3 =>
            if (10000 : Int32) ≤ y2 then (
              gd (ix (y2 - (10000 : Int32)) 5) (
              lx (σ.1 (t + 6) (nx (y2 - (10000 : Int32)))) (fun y4 =>
              if (10000 : Int32) ≤ y3 then (
                gd (ix (y3 - (10000 : Int32)) 5) (
                f_Ru_holds_139 t (f_Ru_holds_5 t n) x2 x3 x4 y1 y4 (σ.1 (t + 6) (nx (y3 - (10000 : Int32)))) σ))
              else (
                f_Ru_holds_139 t (f_Ru_holds_5 t n) x2 x3 x4 y1 y4 y3 σ))))
            else (
              if (10000 : Int32) ≤ y3 then (
                gd (ix (y3 - (10000 : Int32)) 5) (
                f_Ru_holds_139 t (f_Ru_holds_5 t n) x2 x3 x4 y1 y2 (σ.1 (t + 6) (nx (y3 - (10000 : Int32)))) σ))
              else (
                f_Ru_holds_139 t (f_Ru_holds_5 t n) x2 x3 x4 y1 y2 y3 σ)))))
          else (
            lx ((x3 >>> ((1 : Int32) &&& 31)) ||| (x3 &&& (1 : Int32))) (fun y5 =>
            lx (x4 + (1 : Int32)) (fun y6 =>
            f_Ru_holds_5 t n x2 y5 y6 σ))))
        else (
          lx ((x3 >>> ((1 : Int32) &&& 31)) &&& (x3 ||| (-2 : Int32))) (fun y7 =>
          lx (x4 + (1 : Int32)) (fun y8 =>
          f_Ru_holds_5 t n x2 y7 y8 σ))))
      else (
        lx (x3 ^^^ (1 : Int32)) (fun y9 =>
        lx (x4 + (1 : Int32)) (fun y10 =>
        f_Ru_holds_5 t n x2 y9 y10 σ))))))
def f_Ru_holds (t : Nat) (x1 : Int32) (x2 : Int32) (σ : SG) : Option (Int32 × SG) :=
  f_Ru_holds_5 t FU x2 (1 : Int32) x1 σ
def f_Ru_changed_5 (t : Nat) : Nat → Int32 → Int32 → Int32 → Int32 → SG → Option (Int32 × SG)
  | 0, _, _, _, _, _ => none
  | n + 1, x1, x2, x3, x4, σ =>
    if (σ.1 t 0) ≤ x4 then (
      some (x1, σ))
    else (
      gd (ix x4 8) (
      bnd (f_H_isUnder x2 (σ.1 (t + 1) (nx x4)) σ) (fun r2 σ1 =>
      if r2 = 0 then (
        gd (ix x4 8) (
        lx (σ1.1 (t + 4) (nx x4)) (fun y3 =>
        lx (x4 + (1 : Int32)) (fun y4 =>
        f_Ru_changed_5 t n x1 x2 y3 y4 σ1))))
      else (
        gd (ix x4 8) (
        bnd (f_Ru_holds t x3 (σ1.1 (t + 4) (nx x4)) σ1) (fun r6 σ5 =>
        if r6 = 0 then (
          gd (ix x4 8) (
          lx (σ5.1 (t + 4) (nx x4)) (fun y7 =>
          lx (x4 + (1 : Int32)) (fun y8 =>
          f_Ru_changed_5 t n x1 x2 y7 y8 σ5))))
        else (
          gd (ix x4 8) (
          if (σ5.1 (t + 2) (nx x4)) = (10012 : Int32) then (
            gd (ix x4 8) (
            some (x1 + (σ5.1 (t + 3) (nx x4)), σ5)))
          else if (σ5.1 (t + 2) (nx x4)) = (10013 : Int32) then (
            gd (ix x4 8) (
            if x1 ≤ (σ5.1 (t + 3) (nx x4)) then (
              some ((0 : Int32), σ5))
            else (
              gd (ix x4 8) (
              some (x1 - (σ5.1 (t + 3) (nx x4)), σ5)))))
          else (
            some ((0 : Int32), σ5))))))))))
def f_Ru_changed (t : Nat) (x1 : Int32) (x2 : Int32) (σ : SG) : Option (Int32 × SG) :=
  f_Ru_changed_5 t FU x1 x2 (0 : Int32) (0 : Int32) σ
def f_To_asks_107 (t : Nat) (x1 : Int32) (x4 : Int32) (x5 : Int32) (σ : SG) : Option (Int32 × SG) :=
  gd (ix x1 6) (
  gd (ix (σ.1 (t + 8) (nx x1)) 6) (
  if (σ.1 (t + 8) (nx x1)) = (0 : Int32) then (
    gd (ix x1 6) (
    if ¬ x5 = 0 then (
      bnd (f_Pe_isAsked x4 (σ.1 (t + 11) (nx x1)) (0 : Int32) σ) (fun r2 σ1 =>
      some (r2, σ1)))
    else (
      bnd (f_Pe_isAsked x4 (σ.1 (t + 11) (nx x1)) (1 : Int32) σ) (fun r4 σ3 =>
      some (r4, σ3)))))
  else if (σ.1 (t + 8) (nx x1)) = (1 : Int32) then (
    gd (ix x1 6) (
    if ¬ x5 = 0 then (
      bnd (f_Pe_isAsked_15 x4 (σ.1 (t + 11) (nx x1)) (0 : Int32) σ) (fun r6 σ5 =>
      some (r6, σ5)))
    else (
      bnd (f_Pe_isAsked_15 x4 (σ.1 (t + 11) (nx x1)) (1 : Int32) σ) (fun r8 σ7 =>
      some (r8, σ7)))))
  else if (σ.1 (t + 8) (nx x1)) = (2 : Int32) then (
    gd (ix x1 6) (
    if ¬ x5 = 0 then (
      bnd (f_Mi_isAsked x4 (σ.1 (t + 11) (nx x1)) (0 : Int32) σ) (fun r10 σ9 =>
      some (r10, σ9)))
    else (
      bnd (f_Mi_isAsked x4 (σ.1 (t + 11) (nx x1)) (1 : Int32) σ) (fun r12 σ11 =>
      some (r12, σ11)))))
  else if (σ.1 (t + 8) (nx x1)) = (3 : Int32) then (
    gd (ix x1 6) (
    if ¬ x5 = 0 then (
      bnd (f_Wi_isAsked x4 (σ.1 (t + 11) (nx x1)) (0 : Int32) σ) (fun r14 σ13 =>
      some (r14, σ13)))
    else (
      bnd (f_Wi_isAsked x4 (σ.1 (t + 11) (nx x1)) (1 : Int32) σ) (fun r16 σ15 =>
      some (r16, σ15)))))
  else if (σ.1 (t + 8) (nx x1)) = (4 : Int32) then (
    gd (ix x1 6) (
    if ¬ x5 = 0 then (
      bnd (f_Pr_isAsked x4 (σ.1 (t + 11) (nx x1)) (0 : Int32) σ) (fun r18 σ17 =>
      some (r18, σ17)))
    else (
      bnd (f_Pr_isAsked x4 (σ.1 (t + 11) (nx x1)) (1 : Int32) σ) (fun r20 σ19 =>
      some (r20, σ19)))))
  else (
    gd (ix x1 6) (
    if ¬ x5 = 0 then (
      bnd (f_Be_isAsked x4 (σ.1 (t + 11) (nx x1)) (0 : Int32) σ) (fun r22 σ21 =>
      some (r22, σ21)))
    else (
      bnd (f_Be_isAsked x4 (σ.1 (t + 11) (nx x1)) (1 : Int32) σ) (fun r24 σ23 =>
      some (r24, σ23)))))))
def f_To_asks_44 (t : Nat) (x1 : Int32) (x2 : Int32) (x3 : Int32) (xs0 : Int32) (σ : SG) : Option (Int32 × SG) :=
  lx ((σ.1 t 8) &&& ((σ.1 t 9) ^^^ (-1 : Int32))) (fun y1 =>
  if (σ.1 (t + 1) 0) ≤ 0 then (
    f_To_asks_107 t x1 xs0 y1 σ)
  else (
    gd (ix x1 6) (
    bnd (f_Ru_look (t + 1) x2 x3 (σ.1 (t + 11) (nx x1)) (bcn y1) x1 σ) (fun _ σ3 =>
    gd (ix x1 6) (
    bnd (f_Ru_changed (t + 1) xs0 (σ3.1 (t + 8) (nx x1)) σ3) (fun r5 σ4 =>
    f_To_asks_107 t x1 r5 y1 σ4))))))
def f_To_asks (t : Nat) (x1 : Int32) (σ : SG) : Option (Int32 × SG) :=
  gd (ix x1 6) (
  gd (ix (σ.1 (t + 9) (nx x1)) 8) (
  lx (σ.1 (t + 13) (nx (σ.1 (t + 9) (nx x1)))) (fun y1 =>
  gd (ix x1 6) (
  gd (ix (σ.1 (t + 10) (nx x1)) 8) (
  lx (σ.1 (t + 13) (nx (σ.1 (t + 10) (nx x1)))) (fun y2 =>
  if y2 ≤ y1 then (
    f_To_asks_44 t x1 y1 y2 (σ.1 t 12) σ)
  else (
    f_To_asks_44 t x1 y1 y2 ((y2 - y1) + (σ.1 t 12)) σ)))))))
def f_H_personOf (x1 : Int32) (x2 : Int32) (σ : SG) : Option (Int32 × SG) :=
  bnd (f_To_isPerson 20 x1 σ) (fun r2 σ1 =>
  if ¬ r2 = 0 then (
    if x2 = (0 : Int32) then (
      gd (ix x1 6) (
      some (σ1.1 28 (nx x1), σ1)))
    else if x2 = (1 : Int32) then (
      gd (ix x1 6) (
      some (σ1.1 29 (nx x1), σ1)))
    else if x2 = (2 : Int32) then (
      gd (ix x1 6) (
      some (σ1.1 30 (nx x1), σ1)))
    else if x2 = (3 : Int32) then (
      gd (ix x1 6) (
      some (σ1.1 31 (nx x1), σ1)))
    else if x2 = (4 : Int32) then (
      bnd (f_To_asks 20 x1 σ1) (fun r4 σ3 =>
      some (r4, σ3)))
    else if x2 = (5 : Int32) then (
      some (((σ1.1 20 8) >>> (x1 &&& 31)) &&& (1 : Int32), σ1))
    else if x2 = (6 : Int32) then (
      gd (ix x1 6) (
      some (σ1.1 32 (nx x1), σ1)))
    else (
      some ((-1 : Int32), σ1)))
  else (
    some ((-1 : Int32), σ1)))
def f_H_change_35 (x1 : Int32) (x2 : Int32) (x3 : Int32) (xs0 : Int32) (xs1 : Int32) (xs2 : Int32) (σ : SG) : Option (Int32 × SG) :=
  bnd (f_H_isIn xs2 xs1 xs0 σ) (fun r2 σ1 =>
  if ¬ r2 = 0 then (
    if ¬ x2 = (1 : Int32) then (
      if ¬ x2 = (2 : Int32) then (
        gd (ix x1 6) (
        lx (σ1.1 31 (nx x1)) (fun y3 =>
        gd (ix x1 6) (
        sx (uI σ1 31 (nx x1) x3) (fun σ4 =>
        bnd (f_To_mark 20 x1 σ4) (fun _ σ5 =>
        some (y3, σ5)))))))
      else (
        gd (ix x1 6) (
        lx (σ1.1 30 (nx x1)) (fun y6 =>
        gd (ix x1 6) (
        sx (uI σ1 30 (nx x1) x3) (fun σ7 =>
        bnd (f_To_mark 20 x1 σ7) (fun _ σ8 =>
        some (y6, σ8))))))))
    else (
      gd (ix x1 6) (
      lx (σ1.1 29 (nx x1)) (fun y9 =>
      gd (ix x1 6) (
      sx (uI σ1 29 (nx x1) x3) (fun σ10 =>
      bnd (f_To_mark 20 x1 σ10) (fun _ σ11 =>
      some (y9, σ11))))))))
  else (
    some ((-1 : Int32), σ1)))
def f_H_change (x1 : Int32) (x2 : Int32) (x3 : Int32) (σ : SG) : Option (Int32 × SG) :=
  bnd (f_To_isPerson 20 x1 σ) (fun r2 σ1 =>
  if r2 = 0 then (
    some ((-1 : Int32), σ1))
  else (
    bnd (f_H_isIn x2 (1 : Int32) (3 : Int32) σ1) (fun r4 σ3 =>
    if r4 = 0 then (
      some ((-1 : Int32), σ3))
    else (
      if ¬ x2 = (3 : Int32) then (
        f_H_change_35 x1 x2 x3 (7 : Int32) (0 : Int32) x3 σ3)
      else (
        f_H_change_35 x1 x2 x3 (999 : Int32) (0 : Int32) x3 σ3)))))
def f_H_remake (x1 : Int32) (x2 : Int32) (σ : SG) : Option (Int32 × SG) :=
  bnd (f_To_isPerson 20 x1 σ) (fun r2 σ1 =>
  if r2 = 0 then (
    some ((-1 : Int32), σ1))
  else (
    bnd (f_H_isIn x2 (1 : Int32) (5 : Int32) σ1) (fun r4 σ3 =>
    if ¬ r4 = 0 then (
      gd (ix x1 6) (
      lx (σ3.1 28 (nx x1)) (fun y5 =>
      gd (ix x1 6) (
      sx (uI σ3 28 (nx x1) x2) (fun σ6 =>
      some (y5, σ6))))))
    else (
      some ((-1 : Int32), σ3)))))
def f_H_meets (x1 : Int32) (x2 : Int32) (x3 : Int32) (σ : SG) : Option (Int32 × SG) :=
  bnd (f_To_isPerson 20 x1 σ) (fun r2 σ1 =>
  if r2 = 0 then (
    some ((-1 : Int32), σ1))
  else (
    bnd (f_To_isPerson 20 x2 σ1) (fun r4 σ3 =>
    if r4 = 0 then (
      some ((-1 : Int32), σ3))
    else (
      if ¬ x1 = x2 then (
        gd (ix x1 6) (
        lx (((σ3.1 32 (nx x1)) >>> (x2 &&& 31)) &&& (1 : Int32)) (fun y5 =>
        if x3 = 0 then (
          gd (ix x1 6) (
          gd (ix x1 6) (
          sx (uI σ3 32 (nx x1) ((σ3.1 32 (nx x1)) &&& (((1 : Int32) <<< (x2 &&& 31)) ^^^ (-1 : Int32)))) (fun σ6 =>
          gd (ix x2 6) (
          gd (ix x2 6) (
          sx (uI σ6 32 (nx x2) ((σ6.1 32 (nx x2)) &&& (((1 : Int32) <<< (x1 &&& 31)) ^^^ (-1 : Int32)))) (fun σ7 =>
          some (y5, σ7))))))))
        else (
          gd (ix x1 6) (
          gd (ix x1 6) (
          sx (uI σ3 32 (nx x1) ((σ3.1 32 (nx x1)) ||| ((1 : Int32) <<< (x2 &&& 31)))) (fun σ8 =>
          gd (ix x2 6) (
          gd (ix x2 6) (
          sx (uI σ8 32 (nx x2) ((σ8.1 32 (nx x2)) ||| ((1 : Int32) <<< (x1 &&& 31)))) (fun σ9 =>
          some (y5, σ9)))))))))))
      else (
        some ((-1 : Int32), σ3))))))
def f_H_worth (x1 : Int32) (x2 : Int32) (σ : SG) : Option (Int32 × SG) :=
  bnd (f_H_isThing x1 σ) (fun r2 σ1 =>
  if r2 = 0 then (
    some ((-1 : Int32), σ1))
  else (
    bnd (f_H_isIn x2 (0 : Int32) (99 : Int32) σ1) (fun r4 σ3 =>
    if ¬ r4 = 0 then (
      gd (ix x1 8) (
      lx (σ3.1 33 (nx x1)) (fun y5 =>
      gd (ix x1 8) (
      sx (uI σ3 33 (nx x1) x2) (fun σ6 =>
      some (y5, σ6))))))
    else (
      some ((-1 : Int32), σ3)))))
def f_H_jar (x1 : Int32) (x2 : Int32) (σ : SG) : Option (Int32 × SG) :=
  bnd (f_H_isThing x1 σ) (fun r2 σ1 =>
  if r2 = 0 then (
    some ((-1 : Int32), σ1))
  else (
    bnd (f_H_isIn x2 (0 : Int32) (9 : Int32) σ1) (fun r4 σ3 =>
    if ¬ r4 = 0 then (
      gd (ix x1 8) (
      lx (σ3.1 34 (nx x1)) (fun y5 =>
      gd (ix x1 8) (
      sx (uI σ3 34 (nx x1) x2) (fun σ6 =>
      some (y5, σ6))))))
    else (
      some ((-1 : Int32), σ3)))))
def f_H_fee (x1 : Int32) (σ : SG) : Option (Int32 × SG) :=
  bnd (f_H_isIn x1 (0 : Int32) (50 : Int32) σ) (fun r2 σ1 =>
  if ¬ r2 = 0 then (
    lx (σ1.1 20 12) (fun y3 =>
    sx (uI σ1 20 12 x1) (fun σ4 =>
    some (y3, σ4))))
  else (
    some ((-1 : Int32), σ1)))
def f_To_thoseWith_5 (t : Nat) (a1 : Nat) : Nat → Int32 → Int32 → Int32 → SG → Option (Int32 × SG)
  | 0, _, _, _, _ => none
  | n + 1, x2, x3, x4, σ =>
    if (σ.1 t 2) ≤ x4 then (
      some (x3, σ))
    else (
      gd (ix x4 6) (
      if ¬ (σ.1 a1 (nx x4)) = x2 then (
        lx (x4 + (1 : Int32)) (fun y1 =>
        f_To_thoseWith_5 t a1 n x2 x3 y1 σ))
      else (
        lx (x3 ||| ((1 : Int32) <<< (x4 &&& 31))) (fun y2 =>
        lx (x4 + (1 : Int32)) (fun y3 =>
        f_To_thoseWith_5 t a1 n x2 y2 y3 σ)))))
def f_To_thoseWith (t : Nat) (a1 : Nat) (x2 : Int32) (σ : SG) : Option (Int32 × SG) :=
  f_To_thoseWith_5 t a1 FU x2 (0 : Int32) (0 : Int32) σ
def f_H_thing (x1 : Int32) (x2 : Int32) (σ : SG) : Option (Int32 × SG) :=
  bnd (f_H_isThing x1 σ) (fun r2 σ1 =>
  if ¬ r2 = 0 then (
    if x2 = (0 : Int32) then (
      gd (ix x1 8) (
      some (σ1.1 33 (nx x1), σ1)))
    else if x2 = (1 : Int32) then (
      gd (ix x1 8) (
      some (σ1.1 34 (nx x1), σ1)))
    else if x2 = (2 : Int32) then (
      bnd (f_To_thoseWith 20 29 x1 σ1) (fun r4 σ3 =>
      some (r4, σ3)))
    else if x2 = (3 : Int32) then (
      bnd (f_To_thoseWith 20 30 x1 σ1) (fun r6 σ5 =>
      some (r6, σ5)))
    else (
      some ((-1 : Int32), σ1)))
  else (
    some ((-1 : Int32), σ1)))
def f_To_coinsOfAll_4 (t : Nat) : Nat → Int32 → Int32 → SG → Option (Int32 × SG)
  | 0, _, _, _ => none
  | n + 1, x1, x2, σ =>
    if (σ.1 t 2) ≤ x2 then (
      some (x1, σ))
    else (
      gd (ix x2 6) (
      lx (x1 + (σ.1 (t + 11) (nx x2))) (fun y1 =>
      lx (x2 + (1 : Int32)) (fun y2 =>
      f_To_coinsOfAll_4 t n y1 y2 σ))))
def f_To_coinsOfAll (t : Nat) (σ : SG) : Option (Int32 × SG) :=
  f_To_coinsOfAll_4 t FU (0 : Int32) (0 : Int32) σ
def f_H_state (x1 : Int32) (σ : SG) : Option (Int32 × SG) :=
  if x1 = (0 : Int32) then (
    some (σ.1 20 8, σ))
  else if x1 = (1 : Int32) then (
    bnd (f_To_coinsOfAll 20 σ) (fun r2 σ1 =>
    some (r2, σ1)))
  else if x1 = (2 : Int32) then (
    some (σ.1 20 12, σ))
  else if x1 = (3 : Int32) then (
    some (σ.1 20 14, σ))
  else (
    some ((-1 : Int32), σ))
def f_H_feed_33  : Nat → Int64 → Int32 → Int32 → SG → Option (Int32 × SG)
  | 0, _, _, _, _ => none
  | n + 1, x1, x3, x4, σ =>
    if x3 ≤ x4 then (
      some (σ.1 130 1, σ))
    else (
      gd (ix (σ.1 130 1) 200) (
      sx (uI σ 131 (nx (σ.1 130 1)) (((lus x1 ((8 : Int32) * x4)).toInt32) &&& (255 : Int32))) (fun σ1 =>
      sx (uI σ1 130 1 ((σ1.1 130 1) + (1 : Int32))) (fun σ2 =>
      lx (x4 + (1 : Int32)) (fun y3 =>
      f_H_feed_33 n x1 x3 y3 σ2)))))
def f_H_feed (x1 : Int64) (x3 : Int32) (σ : SG) : Option (Int32 × SG) :=
  bnd (f_H_isIn x3 (1 : Int32) (8 : Int32) σ) (fun r2 σ1 =>
  if ¬ r2 = 0 then (
    if ((σ1.1 130 1) + x3) ≤ (200 : Int32) then (
      f_H_feed_33 FU x1 x3 (0 : Int32) σ1)
    else (
      some ((-2 : Int32), σ1)))
  else (
    some ((-1 : Int32), σ1)))
def f_Ru_close (t : Nat) (x1 : Int32) (x2 : Int32) (x3 : Int32) (σ : SG) : Option (Unit × SG) :=
  if (8 : Int32) ≤ (σ.1 t 0) then (
    some ((), σ))
  else (
    gd (ix (σ.1 t 0) 8) (
    sx (uI σ (t + 1) (nx (σ.1 t 0)) x1) (fun σ1 =>
    gd (ix (σ1.1 t 0) 8) (
    sx (uI σ1 (t + 2) (nx (σ1.1 t 0)) x2) (fun σ2 =>
    gd (ix (σ2.1 t 0) 8) (
    sx (uI σ2 (t + 3) (nx (σ2.1 t 0)) x3) (fun σ3 =>
    gd (ix (σ3.1 t 0) 8) (
    sx (uI σ3 (t + 4) (nx (σ3.1 t 0)) (σ3.1 t 5)) (fun σ4 =>
    sx (uI σ4 t 0 ((σ4.1 t 0) + (1 : Int32))) (fun σ5 =>
    some ((), σ5)))))))))))
def f_Rt_isValue (x0 : Int32) (σ : SG) : Option (Int32 × SG) :=
  if (10005 : Int32) ≤ x0 then (
    some ((0 : Int32), σ))
  else (
    some ((1 : Int32), σ))
def f_Ru_add (t : Nat) (x1 : Int32) (σ : SG) : Option (Unit × SG) :=
  if (200 : Int32) ≤ (σ.1 t 5) then (
    some ((), σ))
  else (
    gd (ix (σ.1 t 5) 200) (
    sx (uI σ (t + 5) (nx (σ.1 t 5)) x1) (fun σ1 =>
    sx (uI σ1 t 5 ((σ1.1 t 5) + (1 : Int32))) (fun σ2 =>
    some ((), σ2)))))
def f_Rt_readComparison  (σ : SG) : Option (Int32 × SG) :=
  gd (ix (σ.1 130 4) 201) (
  lx (σ.1 132 (nx (σ.1 130 4))) (fun y1 =>
  bnd (f_Rt_isValue y1 σ) (fun r3 σ2 =>
  if ¬ r3 = 0 then (
    sx (uI σ2 130 4 ((σ2.1 130 4) + (1 : Int32))) (fun σ4 =>
    gd (ix (σ4.1 130 4) 201) (
    lx ((σ4.1 132 (nx (σ4.1 130 4))) - (20060 : Int32)) (fun y5 =>
    bnd (f_H_isIn y5 (0 : Int32) (2 : Int32) σ4) (fun r7 σ6 =>
    if ¬ r7 = 0 then (
      sx (uI σ6 130 4 ((σ6.1 130 4) + (1 : Int32))) (fun σ8 =>
      gd (ix (σ8.1 130 4) 201) (
      lx (σ8.1 132 (nx (σ8.1 130 4))) (fun y9 =>
      bnd (f_Rt_isValue y9 σ8) (fun r11 σ10 =>
      if ¬ r11 = 0 then (
        sx (uI σ10 130 4 ((σ10.1 130 4) + (1 : Int32))) (fun σ12 =>
        bnd (f_Ru_add 134 (((y5 <<< ((28 : Int32) &&& 31)) ||| (y1 <<< ((14 : Int32) &&& 31))) ||| y9) σ12) (fun _ σ13 =>
        some ((1 : Int32), σ13))))
      else (
        some ((0 : Int32), σ10)))))))
    else (
      some ((0 : Int32), σ6)))))))
  else (
    some ((0 : Int32), σ2)))))
def f_Rt_readInner (fR : Int32 → SG → Option (Int32 × SG)) (x1 : Int32) (σ : SG) : Option (Int32 × SG) :=
  if x1 < (3 : Int32) then (
    sx (uI σ 130 4 ((σ.1 130 4) + (1 : Int32))) (fun σ1 =>
    bnd (fR (x1 + (1 : Int32)) σ1) (fun r3 σ2 =>
    if r3 = 0 then (
      some ((0 : Int32), σ2))
    else (
      gd (ix (σ2.1 130 4) 201) (
      if (σ2.1 132 (nx (σ2.1 130 4))) = (20041 : Int32) then (
        sx (uI σ2 130 4 ((σ2.1 130 4) + (1 : Int32))) (fun σ4 =>
        some ((1 : Int32), σ4)))
      else (
        some ((0 : Int32), σ2)))))))
  else (
    some ((0 : Int32), σ))
def f_Rt_readOne_52 (fR : Int32 → SG → Option (Int32 × SG)) (x1 : Int32) (x2 : Int32) (σ : SG) : Option (Int32 × SG) :=
  gd (ix (σ.1 130 4) 201) (
  if ¬ (σ.1 132 (nx (σ.1 130 4))) = (20040 : Int32) then (
    bnd (f_Rt_readComparison σ) (fun r2 σ1 =>
    if x2 = 0 then (
      gd (r2 = 0 ∨ r2 = 1) (some (r2, σ1)))
    else (
      bnd (f_Ru_add 134 (-3 : Int32) σ1) (fun _ σ3 =>
      gd (r2 = 0 ∨ r2 = 1) (some (r2, σ3))))))
  else (
    bnd (f_Rt_readInner fR x1 σ) (fun r5 σ4 =>
    if x2 = 0 then (
      gd (r5 = 0 ∨ r5 = 1) (some (r5, σ4)))
    else (
      bnd (f_Ru_add 134 (-3 : Int32) σ4) (fun _ σ6 =>
      gd (r5 = 0 ∨ r5 = 1) (some (r5, σ6)))))))
def f_Rt_readOne_4 (fR : Int32 → SG → Option (Int32 × SG)) : Nat → Int32 → Int32 → Int32 → SG → Option (Int32 × SG)
  | 0, _, _, _, _ => none
  | n + 1, x1, x2, x3, σ =>
    if (200 : Int32) ≤ x3 then (
      f_Rt_readOne_52 fR x1 x2 σ)
    else (
      gd (ix (σ.1 130 4) 201) (
      if ¬ (σ.1 132 (nx (σ.1 130 4))) = (10017 : Int32) then (
        f_Rt_readOne_52 fR x1 x2 σ)
      else (
        sx (uI σ 130 4 ((σ.1 130 4) + (1 : Int32))) (fun σ1 =>
        if ¬ x2 = 0 then (
          lx (x3 + (1 : Int32)) (fun y2 =>
          f_Rt_readOne_4 fR n x1 (0 : Int32) y2 σ1))
        else (
          lx (x3 + (1 : Int32)) (fun y3 =>
          f_Rt_readOne_4 fR n x1 (1 : Int32) y3 σ1))))))
def f_Rt_readOne (fR : Int32 → SG → Option (Int32 × SG)) (x1 : Int32) (σ : SG) : Option (Int32 × SG) :=
  f_Rt_readOne_4 fR FU x1 (0 : Int32) (0 : Int32) σ
def f_Rt_readAll_8 (fR : Int32 → SG → Option (Int32 × SG)) : Nat → Int32 → Int32 → Int32 → SG → Option (Int32 × SG)
  | 0, _, _, _, _ => none
  | n + 1, x1, x2, x3, σ =>
    if (200 : Int32) ≤ x3 then (
      gd (x2 = 0 ∨ x2 = 1) (some (x2, σ)))
    else (
      if x2 = 0 then (
        gd (x2 = 0 ∨ x2 = 1) (some (x2, σ)))
      else (
        gd (ix (σ.1 130 4) 201) (
        if ¬ (σ.1 132 (nx (σ.1 130 4))) = (10016 : Int32) then (
          gd (x2 = 0 ∨ x2 = 1) (some (x2, σ)))
        else (
          sx (uI σ 130 4 ((σ.1 130 4) + (1 : Int32))) (fun σ1 =>
          bnd (f_Rt_readOne fR x1 σ1) (fun r3 σ2 =>
          bnd (f_Ru_add 134 (-1 : Int32) σ2) (fun _ σ4 =>
          lx (x3 + (1 : Int32)) (fun y5 =>
          f_Rt_readAll_8 fR n x1 r3 y5 σ4))))))))
def f_Rt_readAll (fR : Int32 → SG → Option (Int32 × SG)) (x1 : Int32) (σ : SG) : Option (Int32 × SG) :=
  bnd (f_Rt_readOne fR x1 σ) (fun r2 σ1 =>
  f_Rt_readAll_8 fR FU x1 r2 (0 : Int32) σ1)
def f_Rt_readCondition_S_8 (fR : Int32 → SG → Option (Int32 × SG)) : Nat → Int32 → Int32 → Int32 → SG → Option (Int32 × SG)
  | 0, _, _, _, _ => none
  | n + 1, x1, x2, x3, σ =>
    if (200 : Int32) ≤ x3 then (
      gd (x2 = 0 ∨ x2 = 1) (some (x2, σ)))
    else (
      if x2 = 0 then (
        gd (x2 = 0 ∨ x2 = 1) (some (x2, σ)))
      else (
        gd (ix (σ.1 130 4) 201) (
        if ¬ (σ.1 132 (nx (σ.1 130 4))) = (10015 : Int32) then (
          gd (x2 = 0 ∨ x2 = 1) (some (x2, σ)))
        else (
          sx (uI σ 130 4 ((σ.1 130 4) + (1 : Int32))) (fun σ1 =>
          bnd (f_Rt_readAll fR x1 σ1) (fun r3 σ2 =>
          bnd (f_Ru_add 134 (-2 : Int32) σ2) (fun _ σ4 =>
          lx (x3 + (1 : Int32)) (fun y5 =>
          f_Rt_readCondition_S_8 fR n x1 r3 y5 σ4))))))))
def f_Rt_readCondition_S (fR : Int32 → SG → Option (Int32 × SG)) (x1 : Int32) (σ : SG) : Option (Int32 × SG) :=
  bnd (f_Rt_readAll fR x1 σ) (fun r2 σ1 =>
  f_Rt_readCondition_S_8 fR FU x1 r2 (0 : Int32) σ1)
def f_Rt_readCondition : Nat → Int32 → SG → Option (Int32 × SG)
  | 0, _, _ => none
  | d + 1, x0, σ => f_Rt_readCondition_S (f_Rt_readCondition d) x0 σ
def f_Rt_readRule_154 (x1 : Int32) (x2 : Int32) (x3 : Int32) (σ : SG) : Option (Int32 × SG) :=
  gd (ix (σ.1 130 4) 201) (
  if (σ.1 132 (nx (σ.1 130 4))) = (20059 : Int32) then (
    sx (uI σ 130 4 ((σ.1 130 4) + (1 : Int32))) (fun σ1 =>
    bnd (f_Ru_close 134 x1 x2 x3 σ1) (fun _ σ2 =>
    some ((1 : Int32), σ2))))
  else (
    some ((0 : Int32), σ)))
def f_Rt_readRule_103 (x1 : Int32) (x2 : Int32) (σ : SG) : Option (Int32 × SG) :=
  sx (uI σ 130 4 ((σ.1 130 4) + (1 : Int32))) (fun σ1 =>
  if x2 = (10014 : Int32) then (
    f_Rt_readRule_154 x1 x2 (0 : Int32) σ1)
  else (
    gd (ix (σ1.1 130 4) 201) (
    lx (σ1.1 132 (nx (σ1.1 130 4))) (fun y2 =>
    bnd (f_H_isIn y2 (0 : Int32) (99 : Int32) σ1) (fun r4 σ3 =>
    if ¬ r4 = 0 then (
      sx (uI σ3 130 4 ((σ3.1 130 4) + (1 : Int32))) (fun σ5 =>
      f_Rt_readRule_154 x1 x2 y2 σ5))
    else (
      some ((0 : Int32), σ3)))))))
def f_Rt_readRule_70 (x1 : Int32) (σ : SG) : Option (Int32 × SG) :=
  gd (ix (σ.1 130 4) 201) (
  lx (σ.1 132 (nx (σ.1 130 4))) (fun y1 =>
  if y1 = (10012 : Int32) then (
    f_Rt_readRule_103 x1 y1 σ)
  else (
    if y1 = (10013 : Int32) then (
      f_Rt_readRule_103 x1 y1 σ)
    else (
      if y1 = (10014 : Int32) then (
        f_Rt_readRule_103 x1 y1 σ)
      else (
        some ((0 : Int32), σ))))))
def f_Rt_readRule  (σ : SG) : Option (Int32 × SG) :=
  gd (ix (σ.1 130 4) 201) (
  lx ((σ.1 132 (nx (σ.1 130 4))) - (10005 : Int32)) (fun y1 =>
  bnd (f_H_isIn y1 (0 : Int32) (5 : Int32) σ) (fun r3 σ2 =>
  if ¬ r3 = 0 then (
    sx (uI σ2 130 4 ((σ2.1 130 4) + (1 : Int32))) (fun σ4 =>
    gd (ix (σ4.1 130 4) 201) (
    if ¬ (σ4.1 132 (nx (σ4.1 130 4))) = (10011 : Int32) then (
      f_Rt_readRule_70 y1 σ4)
    else (
      sx (uI σ4 130 4 ((σ4.1 130 4) + (1 : Int32))) (fun σ5 =>
      bnd (f_Rt_readCondition DP (0 : Int32) σ5) (fun r7 σ6 =>
      if ¬ r7 = 0 then (
        f_Rt_readRule_70 y1 σ6)
      else (
        some ((0 : Int32), σ6))))))))
  else (
    some ((0 : Int32), σ2)))))
def f_Rt_isLetter (x0 : Int32) (σ : SG) : Option (Int32 × SG) :=
  if x0 < (97 : Int32) then (
    some ((0 : Int32), σ))
  else (
    if (122 : Int32) < x0 then (
      some ((0 : Int32), σ))
    else (
      some ((1 : Int32), σ)))
def f_Rt_isDigit (x0 : Int32) (σ : SG) : Option (Int32 × SG) :=
  if x0 < (48 : Int32) then (
    some ((0 : Int32), σ))
  else (
    if (57 : Int32) < x0 then (
      some ((0 : Int32), σ))
    else (
      some ((1 : Int32), σ)))
def f_Rt_endOf_16  : Nat → Int32 → SG → Option (Int32 × SG)
  | 0, _, _ => none
  | n + 1, x2, σ =>
    if (σ.1 130 1) ≤ x2 then (
      some (x2, σ))
    else (
      gd (ix x2 200) (
      bnd (f_Rt_isLetter (σ.1 131 (nx x2)) σ) (fun r2 σ1 =>
      if r2 = 0 then (
        some (x2, σ1))
      else (
        lx (x2 + (1 : Int32)) (fun y3 =>
        f_Rt_endOf_16 n y3 σ1)))))
def f_Rt_endOf_54  : Nat → Int32 → SG → Option (Int32 × SG)
  | 0, _, _ => none
  | n + 1, x2, σ =>
    if (σ.1 130 1) ≤ x2 then (
      some (x2, σ))
    else (
      gd (ix x2 200) (
      bnd (f_Rt_isDigit (σ.1 131 (nx x2)) σ) (fun r2 σ1 =>
      if r2 = 0 then (
        some (x2, σ1))
      else (
        lx (x2 + (1 : Int32)) (fun y3 =>
        f_Rt_endOf_54 n y3 σ1)))))
def f_Rt_endOf (x1 : Int32) (σ : SG) : Option (Int32 × SG) :=
  lx (x1 + (1 : Int32)) (fun y1 =>
  gd (ix x1 200) (
  bnd (f_Rt_isLetter (σ.1 131 (nx x1)) σ) (fun r3 σ2 =>
  if r3 = 0 then (
    gd (ix x1 200) (
    bnd (f_Rt_isDigit (σ2.1 131 (nx x1)) σ2) (fun r5 σ4 =>
    if r5 = 0 then (
      some (y1, σ4))
    else (
      f_Rt_endOf_54 FU y1 σ4))))
  else (
    f_Rt_endOf_16 FU y1 σ2))))
def f_Rt_wordOf (x0 : Int32) (σ : SG) : Option (Nat × SG) :=
  if x0 = (10000 : Int32) then (
    some (0, σ))
  else if x0 = (10001 : Int32) then (
    some (1, σ))
  else if x0 = (10002 : Int32) then (
    some (2, σ))
  else if x0 = (10003 : Int32) then (
    some (3, σ))
  else if x0 = (10004 : Int32) then (
    some (4, σ))
  else if x0 = (10005 : Int32) then (
    some (5, σ))
  else if x0 = (10006 : Int32) then (
    some (6, σ))
  else if x0 = (10007 : Int32) then (
    some (7, σ))
  else if x0 = (10008 : Int32) then (
    some (8, σ))
  else if x0 = (10009 : Int32) then (
    some (9, σ))
  else if x0 = (10010 : Int32) then (
    some (10, σ))
  else if x0 = (10011 : Int32) then (
    some (11, σ))
  else if x0 = (10012 : Int32) then (
    some (12, σ))
  else if x0 = (10013 : Int32) then (
    some (13, σ))
  else if x0 = (10014 : Int32) then (
    some (14, σ))
  else if x0 = (10015 : Int32) then (
    some (15, σ))
  else if x0 = (10016 : Int32) then (
    some (16, σ))
  else if x0 = (10017 : Int32) then (
    some (17, σ))
  else (
    some (18, σ))
def f_Rt_isSame_15  : Nat → Nat → Int32 → Int32 → Int32 → SG → Option (Int32 × SG)
  | 0, _, _, _, _, _ => none
  | n + 1, w1, x2, x3, x4, σ =>
    if x3 ≤ x4 then (
      some ((1 : Int32), σ))
    else (
      gd (w1 < nS ∧ ix (x4 - x2) (slenN w1)) (
      gd (ix x4 200) (
      if (schr w1 (nx (x4 - x2))) = (σ.1 131 (nx x4)) then (
        lx (x4 + (1 : Int32)) (fun y2 =>
        f_Rt_isSame_15 n w1 x2 x3 y2 σ))
      else (
        some ((0 : Int32), σ)))))
def f_Rt_isSame (w1 : Nat) (x2 : Int32) (x3 : Int32) (σ : SG) : Option (Int32 × SG) :=
  gd (w1 < nS) (
  if (slen w1) = (x3 - x2) then (
    f_Rt_isSame_15 FU w1 x2 x3 x2 σ)
  else (
    some ((0 : Int32), σ)))
def f_Rt_codeOf_16  : Nat → Int32 → Int32 → Int32 → SG → Option (Int32 × SG)
  | 0, _, _, _, _ => none
  | n + 1, x1, x2, x3, σ =>
    if (10018 : Int32) ≤ x3 then (
      some ((30001 : Int32), σ))
    else (
      bnd (f_Rt_wordOf x3 σ) (fun r2 σ1 =>
      bnd (f_Rt_isSame r2 x1 x2 σ1) (fun r4 σ3 =>
      if r4 = 0 then (
        lx (x3 + (1 : Int32)) (fun y5 =>
        f_Rt_codeOf_16 n x1 x2 y5 σ3))
      else (
        some (x3, σ3)))))
def f_Rt_codeOf_87  : Nat → Int32 → Int32 → Int32 → SG → Option (Int32 × SG)
  | 0, _, _, _, _ => none
  | n + 1, x2, x3, x4, σ =>
    if x2 ≤ x4 then (
      some (x3, σ))
    else (
      gd (ix x4 200) (
      lx (((x3 * (10 : Int32)) + (σ.1 131 (nx x4))) - (48 : Int32)) (fun y1 =>
      lx (x4 + (1 : Int32)) (fun y2 =>
      f_Rt_codeOf_87 n x2 y1 y2 σ))))
def f_Rt_codeOf (x1 : Int32) (x2 : Int32) (σ : SG) : Option (Int32 × SG) :=
  gd (ix x1 200) (
  bnd (f_Rt_isLetter (σ.1 131 (nx x1)) σ) (fun r2 σ1 =>
  if r2 = 0 then (
    gd (ix x1 200) (
    bnd (f_Rt_isDigit (σ1.1 131 (nx x1)) σ1) (fun r4 σ3 =>
    if ¬ r4 = 0 then (
      if (x2 - x1) ≤ (4 : Int32) then (
        f_Rt_codeOf_87 FU x2 (0 : Int32) x1 σ3)
      else (
        some ((30001 : Int32), σ3)))
    else (
      gd (ix x1 200) (
      some ((20000 : Int32) + (σ3.1 131 (nx x1)), σ3))))))
  else (
    f_Rt_codeOf_16 FU x1 x2 (10000 : Int32) σ1)))
def f_Rt_cut_6  : Nat → Int32 → Int32 → Int32 → SG → Option (Unit × SG)
  | 0, _, _, _, _ => none
  | n + 1, x1, x2, x3, σ =>
    if (200 : Int32) ≤ x3 then (
      gd (ix x1 201) (
      sx (uI σ 132 (nx x1) (30000 : Int32)) (fun σ1 =>
      gd (ix x1 201) (
      sx (uI σ1 133 (nx x1) (σ1.1 130 1)) (fun σ2 =>
      some ((), σ2))))))
    else (
      if (σ.1 130 1) ≤ x2 then (
        gd (ix x1 201) (
        sx (uI σ 132 (nx x1) (30000 : Int32)) (fun σ3 =>
        gd (ix x1 201) (
        sx (uI σ3 133 (nx x1) (σ3.1 130 1)) (fun σ4 =>
        some ((), σ4))))))
      else (
        bnd (f_Rt_endOf x2 σ) (fun r6 σ5 =>
        gd (ix x2 200) (
        if (σ5.1 131 (nx x2)) = (32 : Int32) then (
          lx (x3 + (1 : Int32)) (fun y7 =>
          f_Rt_cut_6 n x1 r6 y7 σ5))
        else (
          bnd (f_Rt_codeOf x2 r6 σ5) (fun r9 σ8 =>
          gd (ix x1 201) (
          sx (uI σ8 132 (nx x1) r9) (fun σ10 =>
          gd (ix x1 201) (
          sx (uI σ10 133 (nx x1) x2) (fun σ11 =>
          lx (x1 + (1 : Int32)) (fun y12 =>
          lx (x3 + (1 : Int32)) (fun y13 =>
          f_Rt_cut_6 n y12 r6 y13 σ11))))))))))))
def f_Rt_cut  (σ : SG) : Option (Unit × SG) :=
  f_Rt_cut_6 FU (0 : Int32) (0 : Int32) (0 : Int32) σ
def f_Ru_clear (t : Nat) (σ : SG) : Option (Unit × SG) :=
  sx (uI σ t 0 (0 : Int32)) (fun σ1 =>
  sx (uI σ1 t 5 (0 : Int32)) (fun σ2 =>
  some ((), σ2)))
def f_Rt_read_61 (x1 : Int32) (σ : SG) : Option (Int32 × SG) :=
  if x1 = 0 then (
    gd (ix (σ.1 130 4) 201) (
    some (σ.1 133 (nx (σ.1 130 4)), σ)))
  else (
    gd (ix (σ.1 130 4) 201) (
    if ¬ (σ.1 132 (nx (σ.1 130 4))) = (30000 : Int32) then (
      gd (ix (σ.1 130 4) 201) (
      some (σ.1 133 (nx (σ.1 130 4)), σ)))
    else (
      some ((-3 : Int32), σ))))
def f_Rt_read_25  : Nat → Int32 → Int32 → SG → Option (Int32 × SG)
  | 0, _, _, _ => none
  | n + 1, x1, x2, σ =>
    if (8 : Int32) ≤ x2 then (
      f_Rt_read_61 x1 σ)
    else (
      if x1 = 0 then (
        f_Rt_read_61 x1 σ)
      else (
        gd (ix (σ.1 130 4) 201) (
        if (σ.1 132 (nx (σ.1 130 4))) = (30000 : Int32) then (
          f_Rt_read_61 x1 σ)
        else (
          bnd (f_Rt_readRule σ) (fun r2 σ1 =>
          lx (x2 + (1 : Int32)) (fun y3 =>
          f_Rt_read_25 n r2 y3 σ1))))))
def f_Rt_read  (σ : SG) : Option (Int32 × SG) :=
  bnd (f_Rt_cut σ) (fun _ σ1 =>
  sx (uI σ1 130 1 (0 : Int32)) (fun σ2 =>
  sx (uI σ2 130 4 (0 : Int32)) (fun σ3 =>
  bnd (f_Ru_clear 134 σ3) (fun _ σ4 =>
  f_Rt_read_25 FU (1 : Int32) (0 : Int32) σ4))))
def f_Ru_copyFrom (t : Nat) (a1 : Nat) (σ : SG) : Option (Unit × SG) :=
  sx (uI σ t 0 (σ.1 a1 0)) (fun σ1 =>
  sx (uI σ1 t 5 (σ1.1 a1 5)) (fun σ2 =>
  gd (cpOk (0 : Int32) (0 : Int32) (σ2.1 t 0) 8 8) (
  sx (cpI σ2 (a1 + 1) (t + 1) (0 : Int32) (0 : Int32) (σ2.1 t 0)) (fun σ3 =>
  gd (cpOk (0 : Int32) (0 : Int32) (σ3.1 t 0) 8 8) (
  sx (cpI σ3 (a1 + 2) (t + 2) (0 : Int32) (0 : Int32) (σ3.1 t 0)) (fun σ4 =>
  gd (cpOk (0 : Int32) (0 : Int32) (σ4.1 t 0) 8 8) (
  sx (cpI σ4 (a1 + 3) (t + 3) (0 : Int32) (0 : Int32) (σ4.1 t 0)) (fun σ5 =>
  gd (cpOk (0 : Int32) (0 : Int32) (σ5.1 t 0) 8 8) (
  sx (cpI σ5 (a1 + 4) (t + 4) (0 : Int32) (0 : Int32) (σ5.1 t 0)) (fun σ6 =>
  gd (cpOk (0 : Int32) (0 : Int32) (σ6.1 t 5) 200 200) (
  sx (cpI σ6 (a1 + 5) (t + 5) (0 : Int32) (0 : Int32) (σ6.1 t 5)) (fun σ7 =>
  some ((), σ7)))))))))))))
def f_H_rules  (σ : SG) : Option (Int32 × SG) :=
  bnd (f_Rt_read σ) (fun r2 σ1 =>
  if r2 < 0 then (
    bnd (f_Ru_copyFrom 21 134 σ1) (fun _ σ3 =>
    some (σ3.1 21 0, σ3)))
  else (
    some ((-100 : Int32) - r2, σ1)))
def f_To_isFree (t : Nat) (x1 : Int32) (σ : SG) : Option (Int32 × SG) :=
  bnd (f_To_isPerson t x1 σ) (fun r2 σ1 =>
  if r2 = 0 then (
    some ((0 : Int32), σ1))
  else (
    if ¬ ((((σ1.1 t 8) ||| (σ1.1 t 9)) >>> (x1 &&& 31)) &&& (1 : Int32)) = 0 then (
      some ((0 : Int32), σ1))
    else (
      some ((1 : Int32), σ1))))
def f_To_canBe (t : Nat) (x1 : Int32) (σ : SG) : Option (Int32 × SG) :=
  if 0 ≤ x1 then (
    lx (x1 / (10 : Int32)) (fun y1 =>
    lx (x1 - x1 / (10 : Int32) * (10 : Int32)) (fun y2 =>
    bnd (f_To_isFree t y1 σ) (fun r4 σ3 =>
    if ¬ r4 = 0 then (
      if ¬ y2 = (9 : Int32) then (
        if y2 ≤ y1 then (
          some ((0 : Int32), σ3))
        else (
          bnd (f_To_isFree t y2 σ3) (fun r6 σ5 =>
          if r6 = 0 then (
            some ((0 : Int32), σ5))
          else (
            gd (ix y1 6) (
            if ¬ (((σ5.1 (t + 12) (nx y1)) >>> (y2 &&& 31)) &&& (1 : Int32)) = (1 : Int32) then (
              some ((0 : Int32), σ5))
            else (
              gd (ix y1 6) (
              gd (ix y2 6) (
              if (σ5.1 (t + 10) (nx y1)) = (σ5.1 (t + 9) (nx y2)) then (
                some ((1 : Int32), σ5))
              else (
                gd (ix y2 6) (
                gd (ix y1 6) (
                if ¬ (σ5.1 (t + 10) (nx y2)) = (σ5.1 (t + 9) (nx y1)) then (
                  some ((0 : Int32), σ5))
                else (
                  some ((1 : Int32), σ5)))))))))))))
      else (
        gd (ix y1 6) (
        gd (ix (σ3.1 (t + 10) (nx y1)) 8) (
        if (σ3.1 (t + 14) (nx (σ3.1 (t + 10) (nx y1)))) ≤ 0 then (
          some ((0 : Int32), σ3))
        else (
          gd (ix y1 6) (
          gd (ix (σ3.1 (t + 9) (nx y1)) 8) (
          if (99 : Int32) ≤ (σ3.1 (t + 14) (nx (σ3.1 (t + 9) (nx y1)))) then (
            some ((0 : Int32), σ3))
          else (
            gd (ix y1 6) (
            bnd (f_To_asks t y1 σ3) (fun r8 σ7 =>
            if (σ3.1 (t + 11) (nx y1)) < r8 then (
              some ((0 : Int32), σ7))
            else (
              some ((1 : Int32), σ7))))))))))))
    else (
      some ((0 : Int32), σ3))))))
  else (
    some ((0 : Int32), σ))
def f_H_cans_17  : Nat → Int32 → Int32 → Int32 → SG → Option (Int32 × SG)
  | 0, _, _, _, _ => none
  | n + 1, x1, x3, x4, σ =>
    if x3 ≤ x4 then (
      some ((-3 : Int32), σ))
    else (
      gd (ix x4 21) (
      lx (tCHANGES (nx x4)) (fun y1 =>
      if y1 ≤ x1 then (
        lx (x4 + (1 : Int32)) (fun y2 =>
        f_H_cans_17 n x1 x3 y2 σ))
      else (
        bnd (f_To_canBe 20 y1 σ) (fun r4 σ3 =>
        if r4 = 0 then (
          lx (x4 + (1 : Int32)) (fun y5 =>
          f_H_cans_17 n x1 x3 y5 σ3))
        else (
          some (y1, σ3)))))))
def f_H_cans (x1 : Int32) (σ : SG) : Option (Int32 × SG) :=
  if (-1 : Int32) ≤ x1 then (
    f_H_cans_17 FU x1 (21 : Int32) (0 : Int32) σ)
  else (
    some ((-1 : Int32), σ))
def f_To_swap (t : Nat) (x1 : Int32) (x2 : Int32) (σ : SG) : Option (Unit × SG) :=
  gd (ix x1 6) (
  lx (σ.1 (t + 9) (nx x1)) (fun y1 =>
  gd (ix x2 6) (
  gd (ix x1 6) (
  sx (uI σ (t + 9) (nx x1) (σ.1 (t + 9) (nx x2))) (fun σ2 =>
  gd (ix x2 6) (
  sx (uI σ2 (t + 9) (nx x2) y1) (fun σ3 =>
  bnd (f_To_mark t x1 σ3) (fun _ σ4 =>
  bnd (f_To_mark t x2 σ4) (fun _ σ5 =>
  some ((), σ5))))))))))
def f_To_step (t : Nat) (x1 : Int32) (σ : SG) : Option (Int32 × SG) :=
  lx (x1 / (10 : Int32)) (fun y1 =>
  lx (x1 - x1 / (10 : Int32) * (10 : Int32)) (fun y2 =>
  if y2 = (9 : Int32) then (
    bnd (f_To_asks t y1 σ) (fun r4 σ3 =>
    gd (ix y1 6) (
    gd (ix y1 6) (
    sx (uI σ3 (t + 11) (nx y1) ((σ3.1 (t + 11) (nx y1)) - r4)) (fun σ5 =>
    gd (ix y1 6) (
    gd (ix (σ5.1 (t + 9) (nx y1)) 8) (
    gd (ix (σ5.1 (t + 9) (nx y1)) 8) (
    sx (uI σ5 (t + 14) (nx (σ5.1 (t + 9) (nx y1))) ((σ5.1 (t + 14) (nx (σ5.1 (t + 9) (nx y1)))) + (1 : Int32))) (fun σ6 =>
    gd (ix y1 6) (
    gd (ix (σ6.1 (t + 10) (nx y1)) 8) (
    gd (ix (σ6.1 (t + 10) (nx y1)) 8) (
    sx (uI σ6 (t + 14) (nx (σ6.1 (t + 10) (nx y1))) ((σ6.1 (t + 14) (nx (σ6.1 (t + 10) (nx y1)))) - (1 : Int32))) (fun σ7 =>
    gd (ix y1 6) (
    gd (ix y1 6) (
    sx (uI σ7 (t + 9) (nx y1) (σ7.1 (t + 10) (nx y1))) (fun σ8 =>
    bnd (f_To_mark t y1 σ8) (fun _ σ9 =>
    some (r4, σ9))))))))))))))))))
  else (
    bnd (f_To_swap t y1 y2 σ) (fun _ σ10 =>
    some ((0 : Int32), σ10)))))
def f_To_enter_49 (t : Nat) (x1 : Int32) (σ : SG) : Option (Int32 × SG) :=
  lx (x1 / (10 : Int32)) (fun y1 =>
  gd (ix (σ.1 t 14) 12) (
  sx (uI σ t 14 ((σ.1 t 14) + (1 : Int32))) (fun σ2 =>
  sx (uI σ2 (t + 15 + 1 + nx (σ.1 t 14)) 0 x1) (fun σ3 =>
  gd (ix y1 6) (
  sx (uI σ3 (t + 15 + 1 + nx (σ.1 t 14)) 1 (σ3.1 (t + 9) (nx y1))) (fun σ4 =>
  bnd (f_To_step t x1 σ4) (fun r6 σ5 =>
  gd (ix y1 6) (
  sx (uI σ5 (t + 15 + 1 + nx (σ.1 t 14)) 2 (σ5.1 (t + 9) (nx y1))) (fun σ7 =>
  some (r6, σ7))))))))))
def f_To_enter_11 (t : Nat) (K49 : Int32 → SG → Option (Int32 × SG)) : Nat → Int32 → Int32 → SG → Option (Int32 × SG)
  | 0, _, _, _ => none
  | n + 1, x1, x2, σ =>
    if (12 : Int32) ≤ x2 then (
      sx (uI σ t 14 (11 : Int32)) (fun σ1 =>
      K49 x1 σ1))
    else (
      gd (ix x2 12) (
      gd (ix (x2 - (1 : Int32)) 12) (
      gd (cpOk (0 : Int32) (0 : Int32) (3 : Int32) 3 3) (
      sx (cpI σ (t + 15 + 1 + nx x2) (t + 15 + 1 + nx (x2 - (1 : Int32))) (0 : Int32) (0 : Int32) (3 : Int32)) (fun σ2 =>
      lx (x2 + (1 : Int32)) (fun y3 =>
      f_To_enter_11 t K49 n x1 y3 σ2))))))
def f_To_enter (t : Nat) (x1 : Int32) (σ : SG) : Option (Int32 × SG) :=
  if (σ.1 t 14) < (12 : Int32) then (
    f_To_enter_49 t x1 σ)
  else (
    f_To_enter_11 t (f_To_enter_49 t) FU x1 (1 : Int32) σ)
def f_H_make_35 (x1 : Int32) (x2 : Int32) (σ : SG) : Option (Int32 × SG) :=
  lx (((10 : Int32) * x1) + x2) (fun y1 =>
  bnd (f_To_canBe 20 y1 σ) (fun r3 σ2 =>
  if r3 = 0 then (
    some ((-4 : Int32), σ2))
  else (
    bnd (f_To_enter 20 y1 σ2) (fun r5 σ4 =>
    some (r5, σ4)))))
def f_H_make (x1 : Int32) (x2 : Int32) (σ : SG) : Option (Int32 × SG) :=
  bnd (f_To_isPerson 20 x1 σ) (fun r2 σ1 =>
  if r2 = 0 then (
    some ((-1 : Int32), σ1))
  else (
    if x2 = (9 : Int32) then (
      f_H_make_35 x1 x2 σ1)
    else (
      if x2 ≤ x1 then (
        some ((-1 : Int32), σ1))
      else (
        bnd (f_To_isPerson 20 x2 σ1) (fun r4 σ3 =>
        if ¬ r4 = 0 then (
          f_H_make_35 x1 x2 σ3)
        else (
          some ((-1 : Int32), σ3)))))))
def f_To_stepBack (t : Nat) (x1 : Int32) (x2 : Int32) (x3 : Int32) (σ : SG) : Option (Unit × SG) :=
  lx (x1 / (10 : Int32)) (fun y1 =>
  lx (x1 - x1 / (10 : Int32) * (10 : Int32)) (fun y2 =>
  if y2 = (9 : Int32) then (
    gd (ix y1 6) (
    gd (ix y1 6) (
    sx (uI σ (t + 11) (nx y1) ((σ.1 (t + 11) (nx y1)) + x3)) (fun σ3 =>
    gd (ix y1 6) (
    gd (ix (σ3.1 (t + 9) (nx y1)) 8) (
    gd (ix (σ3.1 (t + 9) (nx y1)) 8) (
    sx (uI σ3 (t + 14) (nx (σ3.1 (t + 9) (nx y1))) ((σ3.1 (t + 14) (nx (σ3.1 (t + 9) (nx y1)))) + (1 : Int32))) (fun σ4 =>
    gd (ix x2 8) (
    gd (ix x2 8) (
    sx (uI σ4 (t + 14) (nx x2) ((σ4.1 (t + 14) (nx x2)) - (1 : Int32))) (fun σ5 =>
    gd (ix y1 6) (
    sx (uI σ5 (t + 9) (nx y1) x2) (fun σ6 =>
    bnd (f_To_mark t y1 σ6) (fun _ σ7 =>
    some ((), σ7)))))))))))))))
  else (
    bnd (f_To_swap t y1 y2 σ) (fun _ σ8 =>
    some ((), σ8)))))
def f_To_takeBack_115 (t : Nat) (x2 : Int32) (x5 : Int32) (xs0 : Int32) (σ : SG) : Option (Int32 × SG) :=
  if ¬ xs0 = 0 then (
    bnd (f_To_stepBack t x2 x5 (0 : Int32) σ) (fun _ σ1 =>
    sx (uI σ1 t 14 ((σ1.1 t 14) - (1 : Int32))) (fun σ2 =>
    some (x2, σ2))))
  else (
    some ((-4 : Int32), σ))
def f_To_takeBack (t : Nat) (σ : SG) : Option (Int32 × SG) :=
  if 0 < (σ.1 t 14) then (
    gd (ix ((σ.1 t 14) - (1 : Int32)) 12) (
    lx (σ.1 (t + 15 + 1 + nx ((σ.1 t 14) - (1 : Int32))) 0) (fun y1 =>
    lx (y1 / (10 : Int32)) (fun y2 =>
    lx (y1 - y1 / (10 : Int32) * (10 : Int32)) (fun y3 =>
    lx (σ.1 (t + 15 + 1 + nx ((σ.1 t 14) - (1 : Int32))) 1) (fun y4 =>
    lx (σ.1 (t + 15 + 1 + nx ((σ.1 t 14) - (1 : Int32))) 2) (fun y5 =>
    gd (ix y2 6) (
    if (σ.1 (t + 9) (nx y2)) = y5 then (
      if ¬ y3 = (9 : Int32) then (
        gd (ix y3 6) (
        if ¬ (σ.1 (t + 9) (nx y3)) = y4 then (
          f_To_takeBack_115 t y1 y4 (0 : Int32) σ)
        else (
          f_To_takeBack_115 t y1 y4 (1 : Int32) σ)))
      else (
        gd (ix y4 8) (
        if (σ.1 (t + 14) (nx y4)) ≤ 0 then (
          f_To_takeBack_115 t y1 y4 (0 : Int32) σ)
        else (
          gd (ix y5 8) (
          if (99 : Int32) ≤ (σ.1 (t + 14) (nx y5)) then (
            f_To_takeBack_115 t y1 y4 (0 : Int32) σ)
          else (
            f_To_takeBack_115 t y1 y4 (1 : Int32) σ))))))
    else (
      some ((-4 : Int32), σ))))))))))
  else (
    some ((-3 : Int32), σ))
def f_H_back  (σ : SG) : Option (Int32 × SG) :=
  bnd (f_To_takeBack 20 σ) (fun r2 σ1 =>
  some (r2, σ1))
def f_Se_atFirst  (σ : SG) : Option (Int32 × SG) :=
  if (σ.1 125 4) = (1 : Int32) then (
    some ((0 : Int32), σ))
  else if (σ.1 125 4) = (2 : Int32) then (
    some (bcn (σ.1 90 8), σ))
  else if (σ.1 125 4) = (3 : Int32) then (
    some ((1000000 : Int32), σ))
  else if (σ.1 125 4) = (4 : Int32) then (
    some ((-1 : Int32), σ))
  else (
    some ((1000000 : Int32), σ))
def f_Se_joinedWith (fR : Int32 → SG → Option (Int32 × SG)) (x1 : Int32) (x2 : Int32) (x3 : Int32) (σ : SG) : Option (Int32 × SG) :=
  gd (ix (x1 / (10 : Int32)) 6) (
  lx (σ.1 99 (nx (x1 / (10 : Int32)))) (fun y1 =>
  bnd (f_To_step 90 x1 σ) (fun r3 σ2 =>
  bnd (fR (x2 - (1 : Int32)) σ2) (fun r5 σ4 =>
  bnd (f_To_stepBack 90 x1 y1 r3 σ4) (fun _ σ6 =>
  if (σ6.1 125 4) = (1 : Int32) then (
    some (x3 + r5, σ6))
  else if (σ6.1 125 4) = (2 : Int32) then (
    some (if x3 < r5 then r5 else x3, σ6))
  else if (σ6.1 125 4) = (3 : Int32) then (
    some (if (r5 + r3) < x3 then (r5 + r3) else x3, σ6))
  else if (σ6.1 125 4) = (4 : Int32) then (
    some (if x3 < (-r5) then (-r5) else x3, σ6))
  else (
    some (if (r5 + (1 : Int32)) < x3 then (r5 + (1 : Int32)) else x3, σ6)))))))
def f_To_isDone (t : Nat) (σ : SG) : Option (Int32 × SG) :=
  if ¬ ((σ.1 t 8) ||| (σ.1 t 9)) = (((1 : Int32) <<< ((σ.1 t 2) &&& 31)) - (1 : Int32)) then (
    some ((0 : Int32), σ))
  else (
    some ((1 : Int32), σ))
def f_Se_atEnd (x1 : Int32) (σ : SG) : Option (Int32 × SG) :=
  if (σ.1 125 4) = (1 : Int32) then (
    bnd (f_To_isDone 90 σ) (fun r2 σ1 =>
    if r2 = 0 then (
      some ((0 : Int32), σ1))
    else (
      some ((1 : Int32), σ1))))
  else if (σ.1 125 4) = (2 : Int32) then (
    some (bcn (σ.1 90 8), σ))
  else if (σ.1 125 4) = (3 : Int32) then (
    bnd (f_To_isDone 90 σ) (fun r5 σ4 =>
    if r5 = 0 then (
      some ((1000000 : Int32), σ4))
    else (
      some ((0 : Int32), σ4))))
  else if (σ.1 125 4) = (4 : Int32) then (
    if 0 < x1 then (
      some ((-1 : Int32), σ))
    else (
      some ((0 : Int32), σ)))
  else (
    bnd (f_To_isDone 90 σ) (fun r7 σ6 =>
    if r7 = 0 then (
      some ((1000000 : Int32), σ6))
    else (
      some ((0 : Int32), σ6))))
def f_Se_key_13  : Nat → Int64 → Int32 → SG → Option (Int64 × SG)
  | 0, _, _, _ => none
  | n + 1, x2, x4, σ =>
    if (6 : Int32) ≤ x4 then (
      some (x2, σ))
    else (
      gd (ix x4 6) (
      lx ((lsl x2 (3 : Int32)) ||| ((σ.1 99 (nx x4)).toInt64)) (fun y1 =>
      lx (x4 + (1 : Int32)) (fun y2 =>
      f_Se_key_13 n y1 y2 σ))))
def f_Se_key (x1 : Int32) (σ : SG) : Option (Int64 × SG) :=
  lx ((lsl (σ.2 125 5) (3 : Int32)) ||| x1.toInt64) (fun y1 =>
  f_Se_key_13 FU y1 (0 : Int32) σ)
def f_Se_solve_S_76 (fR : Int32 → SG → Option (Int32 × SG)) : Nat → Int32 → Int64 → Int32 → Int32 → Int32 → Int32 → SG → Option (Int32 × SG)
  | 0, _, _, _, _, _, _, _ => none
  | n + 1, x1, x2, x4, x5, x7, x8, σ =>
    if x7 ≤ x8 then (
      gd (ix x4 2048) (
      sx (uL σ 128 (nx x4) x2) (fun σ1 =>
      gd (ix x4 2048) (
      sx (uI σ1 129 (nx x4) x5) (fun σ2 =>
      some (x5, σ2))))))
    else (
      gd (ix x8 21) (
      lx (tCHANGES (nx x8)) (fun y3 =>
      bnd (f_To_canBe 90 y3 σ) (fun r5 σ4 =>
      if r5 = 0 then (
        lx (x8 + (1 : Int32)) (fun y6 =>
        f_Se_solve_S_76 fR n x1 x2 x4 x5 x7 y6 σ4))
      else (
        bnd (f_Se_joinedWith fR y3 x1 x5 σ4) (fun r8 σ7 =>
        lx (x8 + (1 : Int32)) (fun y9 =>
        f_Se_solve_S_76 fR n x1 x2 x4 r8 x7 y9 σ7)))))))
def f_Se_solve_S (fR : Int32 → SG → Option (Int32 × SG)) (x1 : Int32) (σ : SG) : Option (Int32 × SG) :=
  if x1 ≤ 0 then (
    bnd (f_Se_atEnd x1 σ) (fun r2 σ1 =>
    some (r2, σ1)))
  else (
    bnd (f_To_isDone 90 σ) (fun r4 σ3 =>
    if r4 = 0 then (
      bnd (f_Se_key x1 σ3) (fun r6 σ5 =>
      lx ((lus (r6 * (-7046029254386353131 : Int64)) (53 : Int32)).toInt32) (fun y7 =>
      gd (ix y7 2048) (
      if ¬ (lg_cmp (σ5.2 128 (nx y7)) r6) = 0 then (
        bnd (f_Se_atFirst σ5) (fun r9 σ8 =>
        f_Se_solve_S_76 fR FU x1 r6 y7 r9 (21 : Int32) (0 : Int32) σ8))
      else (
        gd (ix y7 2048) (
        some (σ5.1 129 (nx y7), σ5)))))))
    else (
      bnd (f_Se_atEnd x1 σ3) (fun r11 σ10 =>
      some (r11, σ10)))))
def f_Se_solve : Nat → Int32 → SG → Option (Int32 × SG)
  | 0, _, _ => none
  | d + 1, x0, σ => f_Se_solve_S (f_Se_solve d) x0 σ
def f_To_copyPlayFrom (t : Nat) (a1 : Nat) (σ : SG) : Option (Unit × SG) :=
  bnd (f_Ru_copyFrom (t + 1) (a1 + 1) σ) (fun _ σ1 =>
  sx (uI σ1 t 2 (σ1.1 a1 2)) (fun σ2 =>
  gd (cpOk (0 : Int32) (0 : Int32) (6 : Int32) 6 6) (
  sx (cpI σ2 (a1 + 8) (t + 8) (0 : Int32) (0 : Int32) (6 : Int32)) (fun σ3 =>
  gd (cpOk (0 : Int32) (0 : Int32) (6 : Int32) 6 6) (
  sx (cpI σ3 (a1 + 9) (t + 9) (0 : Int32) (0 : Int32) (6 : Int32)) (fun σ4 =>
  gd (cpOk (0 : Int32) (0 : Int32) (6 : Int32) 6 6) (
  sx (cpI σ4 (a1 + 10) (t + 10) (0 : Int32) (0 : Int32) (6 : Int32)) (fun σ5 =>
  gd (cpOk (0 : Int32) (0 : Int32) (6 : Int32) 6 6) (
  sx (cpI σ5 (a1 + 11) (t + 11) (0 : Int32) (0 : Int32) (6 : Int32)) (fun σ6 =>
  gd (cpOk (0 : Int32) (0 : Int32) (6 : Int32) 6 6) (
  sx (cpI σ6 (a1 + 12) (t + 12) (0 : Int32) (0 : Int32) (6 : Int32)) (fun σ7 =>
  sx (uI σ7 t 8 (σ7.1 a1 8)) (fun σ8 =>
  sx (uI σ8 t 9 (σ8.1 a1 9)) (fun σ9 =>
  gd (cpOk (0 : Int32) (0 : Int32) (8 : Int32) 8 8) (
  sx (cpI σ9 (a1 + 13) (t + 13) (0 : Int32) (0 : Int32) (8 : Int32)) (fun σ10 =>
  gd (cpOk (0 : Int32) (0 : Int32) (8 : Int32) 8 8) (
  sx (cpI σ10 (a1 + 14) (t + 14) (0 : Int32) (0 : Int32) (8 : Int32)) (fun σ11 =>
  sx (uI σ11 t 12 (σ11.1 a1 12)) (fun σ12 =>
  some ((), σ12))))))))))))))))))))
def f_Se_ask (x1 : Int32) (σ : SG) : Option (Unit × SG) :=
  sx (uI σ 125 4 x1) (fun σ1 =>
  sx (uL σ1 125 5 ((σ1.2 125 5) + (1 : Int64))) (fun σ2 =>
  some ((), σ2)))
def f_Se_first_127 (a1 : Nat) (K32 : Int32 → Int32 → SG → Option (Int32 × SG)) (x4 : Int32) (x5 : Int32) (x7 : Int32) (σ : SG) : Option (Int32 × SG) :=
  if 0 ≤ x7 then (
    bnd (f_To_step 90 x7 σ) (fun r2 σ1 =>
    gd (ix x4 6) (
    sx (uI σ1 126 (nx x4) x7) (fun σ3 =>
    lx (x4 + (1 : Int32)) (fun y4 =>
    lx (x5 + (-1 : Int32)) (fun y5 =>
    K32 y4 y5 σ3))))))
  else (
    some (x4, σ))
def f_Se_first_62 (a1 : Nat) (K32 : Int32 → Int32 → SG → Option (Int32 × SG)) : Nat → Int32 → Int32 → Int32 → Int32 → Int32 → SG → Option (Int32 × SG)
  | 0, _, _, _, _, _, _ => none
  | n + 1, x4, x5, x6, x7, x8, σ =>
    if (21 : Int32) ≤ x8 then (
      f_Se_first_127 a1 K32 x4 x5 x7 σ)
    else (
      if 0 ≤ x7 then (
        f_Se_first_127 a1 K32 x4 x5 x7 σ)
      else (
        gd (ix x8 21) (
        bnd (f_To_canBe 90 (tCHANGES (nx x8)) σ) (fun r2 σ1 =>
        if r2 = 0 then (
          lx (x8 + (1 : Int32)) (fun y3 =>
          f_Se_first_62 a1 K32 n x4 x5 x6 x7 y3 σ1))
        else (
          gd (ix x8 21) (
          bnd (f_Se_atFirst σ1) (fun r5 σ4 =>
          bnd (f_Se_joinedWith (f_Se_solve DP) (tCHANGES (nx x8)) x5 r5 σ4) (fun r7 σ6 =>
          if ¬ r7 = x6 then (
            lx (x8 + (1 : Int32)) (fun y8 =>
            f_Se_first_62 a1 K32 n x4 x5 x6 x7 y8 σ6))
          else (
            gd (ix x8 21) (
            lx (tCHANGES (nx x8)) (fun y9 =>
            lx (x8 + (1 : Int32)) (fun y10 =>
            f_Se_first_62 a1 K32 n x4 x5 x6 y9 y10 σ6))))))))))))
def f_Se_first_32 (a1 : Nat) : Nat → Int32 → Int32 → SG → Option (Int32 × SG)
  | 0, _, _, _ => none
  | n + 1, x4, x5, σ =>
    if x5 ≤ 0 then (
      some (x4, σ))
    else (
      if (6 : Int32) ≤ x4 then (
        some (x4, σ))
      else (
        bnd (f_Se_solve DP x5 σ) (fun r2 σ1 =>
        f_Se_first_62 a1 (f_Se_first_32 a1 n) FU x4 x5 r2 (-3 : Int32) (0 : Int32) σ1)))
def f_Se_first (a1 : Nat) (x2 : Int32) (x3 : Int32) (σ : SG) : Option (Int32 × SG) :=
  bnd (f_To_copyPlayFrom 90 a1 σ) (fun _ σ1 =>
  bnd (f_Se_ask x2 σ1) (fun _ σ2 =>
  bnd (f_Se_solve DP x3 σ2) (fun r4 σ3 =>
  if r4 < (1000000 : Int32) then (
    f_Se_first_32 a1 FU (0 : Int32) x3 σ3)
  else (
    some ((-3 : Int32), σ3)))))
def f_H_fewest  (σ : SG) : Option (Int32 × SG) :=
  bnd (f_Se_first 20 (0 : Int32) (6 : Int32) σ) (fun r2 σ1 =>
  some (r2, σ1))
def f_H_ith (x1 : Int32) (σ : SG) : Option (Int32 × SG) :=
  bnd (f_H_isIn x1 (0 : Int32) (5 : Int32) σ) (fun r2 σ1 =>
  if ¬ r2 = 0 then (
    bnd (f_Se_first 20 (0 : Int32) (6 : Int32) σ1) (fun r4 σ3 =>
    if r4 ≤ x1 then (
      some ((-3 : Int32), σ3))
    else (
      gd (ix x1 6) (
      some (σ3.1 126 (nx x1), σ3)))))
  else (
    some ((-1 : Int32), σ1)))
def f_Se_told (a1 : Nat) (x2 : Int32) (x3 : Int32) (σ : SG) : Option (Int32 × SG) :=
  bnd (f_To_copyPlayFrom 90 a1 σ) (fun _ σ1 =>
  bnd (f_Se_ask x2 σ1) (fun _ σ2 =>
  bnd (f_Se_solve DP x3 σ2) (fun r4 σ3 =>
  some (r4, σ3))))
def f_H_ways (x1 : Int32) (σ : SG) : Option (Int32 × SG) :=
  bnd (f_H_isIn x1 (0 : Int32) (6 : Int32) σ) (fun r2 σ1 =>
  if r2 = 0 then (
    some ((-1 : Int32), σ1))
  else (
    bnd (f_Se_told 20 (1 : Int32) x1 σ1) (fun r4 σ3 =>
    some (r4, σ3))))
def f_H_most (x1 : Int32) (σ : SG) : Option (Int32 × SG) :=
  bnd (f_H_isIn x1 (0 : Int32) (6 : Int32) σ) (fun r2 σ1 =>
  if r2 = 0 then (
    some ((-1 : Int32), σ1))
  else (
    bnd (f_Se_told 20 (2 : Int32) x1 σ1) (fun r4 σ3 =>
    some (r4, σ3))))
def f_H_cheapest (x1 : Int32) (σ : SG) : Option (Int32 × SG) :=
  bnd (f_H_isIn x1 (0 : Int32) (6 : Int32) σ) (fun r2 σ1 =>
  if ¬ r2 = 0 then (
    bnd (f_Se_told 20 (3 : Int32) x1 σ1) (fun r4 σ3 =>
    if (1000000 : Int32) ≤ r4 then (
      some ((-3 : Int32), σ3))
    else (
      some (r4, σ3))))
  else (
    some ((-1 : Int32), σ1)))
def f_H_cheaply (x1 : Int32) (x2 : Int32) (σ : SG) : Option (Int32 × SG) :=
  bnd (f_H_isIn x1 (0 : Int32) (6 : Int32) σ) (fun r2 σ1 =>
  if r2 = 0 then (
    some ((-1 : Int32), σ1))
  else (
    bnd (f_H_isIn x2 (0 : Int32) (5 : Int32) σ1) (fun r4 σ3 =>
    if ¬ r4 = 0 then (
      bnd (f_Se_first 20 (3 : Int32) x1 σ3) (fun r6 σ5 =>
      if r6 ≤ x2 then (
        some ((-3 : Int32), σ5))
      else (
        gd (ix x2 6) (
        some (σ5.1 126 (nx x2), σ5)))))
    else (
      some ((-1 : Int32), σ3)))))
def f_Se_whoBars_30 (a1 : Nat) : Nat → Int32 → Int32 → SG → Option (Int32 × SG)
  | 0, _, _, _ => none
  | n + 1, x2, x3, σ =>
    if (σ.1 90 2) ≤ x3 then (
      sx (uI σ 90 9 (0 : Int32)) (fun σ1 =>
      some (x2, σ1)))
    else (
      sx (uI σ 90 9 ((1 : Int32) <<< (x3 &&& 31))) (fun σ2 =>
      bnd (f_Se_ask (0 : Int32) σ2) (fun _ σ3 =>
      bnd (f_Se_solve DP (6 : Int32) σ3) (fun r5 σ4 =>
      if (1000000 : Int32) ≤ r5 then (
        lx (x3 + (1 : Int32)) (fun y6 =>
        f_Se_whoBars_30 a1 n x2 y6 σ4))
      else (
        lx (x2 ||| (σ4.1 90 9)) (fun y7 =>
        lx (x3 + (1 : Int32)) (fun y8 =>
        f_Se_whoBars_30 a1 n y7 y8 σ4)))))))
def f_Se_whoBars (a1 : Nat) (σ : SG) : Option (Int32 × SG) :=
  bnd (f_To_copyPlayFrom 90 a1 σ) (fun _ σ1 =>
  bnd (f_Se_ask (0 : Int32) σ1) (fun _ σ2 =>
  bnd (f_Se_solve DP (6 : Int32) σ2) (fun r4 σ3 =>
  if (1000000 : Int32) ≤ r4 then (
    f_Se_whoBars_30 a1 FU (0 : Int32) (0 : Int32) σ3)
  else (
    some ((0 : Int32), σ3)))))
def f_H_bars  (σ : SG) : Option (Int32 × SG) :=
  bnd (f_Se_whoBars 20 σ) (fun r2 σ1 =>
  some (r2, σ1))
def f_Se_whichJar_26 (a1 : Nat) : Nat → Int32 → Int32 → Int32 → SG → Option (Int32 × SG)
  | 0, _, _, _, _ => none
  | n + 1, x2, x3, x4, σ =>
    if (8 : Int32) ≤ x4 then (
      some (x3, σ))
    else (
      if (σ.1 90 2) ≤ x2 then (
        some (x3, σ))
      else (
        gd (ix x4 8) (
        gd (ix x4 8) (
        sx (uI σ 104 (nx x4) ((σ.1 104 (nx x4)) + (1 : Int32))) (fun σ1 =>
        bnd (f_Se_ask (2 : Int32) σ1) (fun _ σ2 =>
        bnd (f_Se_solve DP (6 : Int32) σ2) (fun r4 σ3 =>
        gd (ix x4 8) (
        gd (ix x4 8) (
        sx (uI σ3 104 (nx x4) ((σ3.1 104 (nx x4)) - (1 : Int32))) (fun σ5 =>
        if r4 ≤ x2 then (
          lx (x4 + (1 : Int32)) (fun y6 =>
          f_Se_whichJar_26 a1 n x2 x3 y6 σ5))
        else (
          lx (x4 + (1 : Int32)) (fun y7 =>
          f_Se_whichJar_26 a1 n r4 x4 y7 σ5))))))))))))
def f_Se_whichJar (a1 : Nat) (σ : SG) : Option (Int32 × SG) :=
  bnd (f_To_copyPlayFrom 90 a1 σ) (fun _ σ1 =>
  bnd (f_Se_ask (2 : Int32) σ1) (fun _ σ2 =>
  bnd (f_Se_solve DP (6 : Int32) σ2) (fun r4 σ3 =>
  f_Se_whichJar_26 a1 FU r4 (-3 : Int32) (0 : Int32) σ3)))
def f_H_jars  (σ : SG) : Option (Int32 × SG) :=
  bnd (f_Se_whichJar 20 σ) (fun r2 σ1 =>
  some (r2, σ1))
def f_Se_greatestFee_17 (a1 : Nat) : Nat → Int32 → Int32 → Int32 → Int32 → SG → Option (Int32 × SG)
  | 0, _, _, _, _, _ => none
  | n + 1, x2, x3, x4, x5, σ =>
    if (50 : Int32) < x5 then (
      if 0 ≤ x3 then (
        some (x3, σ))
      else (
        some ((-3 : Int32), σ)))
    else (
      if (x4 - x3) ≤ (1 : Int32) then (
        if 0 ≤ x3 then (
          some (x3, σ))
        else (
          some ((-3 : Int32), σ)))
      else (
        sx (uI σ 90 12 ((x3 + x4) / (2 : Int32))) (fun σ1 =>
        bnd (f_Se_ask (0 : Int32) σ1) (fun _ σ2 =>
        bnd (f_Se_solve DP x2 σ2) (fun r4 σ3 =>
        if (1000000 : Int32) ≤ r4 then (
          lx (σ3.1 90 12) (fun y5 =>
          lx (x5 + (1 : Int32)) (fun y6 =>
          f_Se_greatestFee_17 a1 n x2 x3 y5 y6 σ3)))
        else (
          lx (σ3.1 90 12) (fun y7 =>
          lx (x5 + (1 : Int32)) (fun y8 =>
          f_Se_greatestFee_17 a1 n x2 y7 x4 y8 σ3))))))))
def f_Se_greatestFee (a1 : Nat) (x2 : Int32) (σ : SG) : Option (Int32 × SG) :=
  bnd (f_To_copyPlayFrom 90 a1 σ) (fun _ σ1 =>
  f_Se_greatestFee_17 a1 FU x2 (-1 : Int32) (51 : Int32) (0 : Int32) σ1)
def f_H_feeFor (x1 : Int32) (σ : SG) : Option (Int32 × SG) :=
  bnd (f_H_isIn x1 (1 : Int32) (6 : Int32) σ) (fun r2 σ1 =>
  if r2 = 0 then (
    some ((-1 : Int32), σ1))
  else (
    bnd (f_Se_greatestFee 20 x1 σ1) (fun r4 σ3 =>
    some (r4, σ3))))
def f_Se_isNext (x1 : Int32) (x2 : Int32) (σ : SG) : Option (Int32 × SG) :=
  if ¬ (((σ.1 90 8) >>> (x2 &&& 31)) &&& (1 : Int32)) = 0 then (
    some ((0 : Int32), σ))
  else (
    gd (ix x1 6) (
    if ¬ (((σ.1 102 (nx x1)) >>> (x2 &&& 31)) &&& (1 : Int32)) = (1 : Int32) then (
      some ((0 : Int32), σ))
    else (
      gd (ix x1 6) (
      gd (ix x2 6) (
      if ¬ (σ.1 100 (nx x1)) = (σ.1 99 (nx x2)) then (
        some ((0 : Int32), σ))
      else (
        some ((1 : Int32), σ)))))))
def f_Se_isOnPath_2  : Nat → Int32 → Int32 → Int32 → SG → Option (Int32 × SG)
  | 0, _, _, _, _ => none
  | n + 1, x1, x2, x3, σ =>
    if x2 ≤ x3 then (
      some ((0 : Int32), σ))
    else (
      gd (ix x3 6) (
      if ¬ (σ.1 127 (nx x3)) = x1 then (
        lx (x3 + (1 : Int32)) (fun y1 =>
        f_Se_isOnPath_2 n x1 x2 y1 σ))
      else (
        some ((1 : Int32), σ))))
def f_Se_isOnPath (x1 : Int32) (x2 : Int32) (σ : SG) : Option (Int32 × SG) :=
  f_Se_isOnPath_2 FU x1 x2 (0 : Int32) σ
def f_Se_lookOn_9 (fR : Int32 → Int32 → Int32 → SG → Option (Unit × SG)) : Nat → Int32 → Int32 → Int32 → SG → Option (Unit × SG)
  | 0, _, _, _, _ => none
  | n + 1, x1, x2, x3, σ =>
    if (σ.1 90 2) ≤ x3 then (
      some ((), σ))
    else (
      gd (ix (x1 - (1 : Int32)) 6) (
      bnd (f_Se_isNext (σ.1 127 (nx (x1 - (1 : Int32)))) x3 σ) (fun r2 σ1 =>
      if r2 = 0 then (
        lx (x3 + (1 : Int32)) (fun y3 =>
        f_Se_lookOn_9 fR n x1 x2 y3 σ1))
      else (
        bnd (f_Se_isOnPath x3 x1 σ1) (fun r5 σ4 =>
        if ¬ r5 = 0 then (
          lx (x3 + (1 : Int32)) (fun y6 =>
          f_Se_lookOn_9 fR n x1 x2 y6 σ4))
        else (
          bnd (fR x3 x1 x2 σ4) (fun _ σ7 =>
          lx (x3 + (1 : Int32)) (fun y8 =>
          f_Se_lookOn_9 fR n x1 x2 y8 σ7))))))))
def f_Se_lookOn (fR : Int32 → Int32 → Int32 → SG → Option (Unit × SG)) (x1 : Int32) (x2 : Int32) (σ : SG) : Option (Unit × SG) :=
  lx ((σ.1 127 0) + (1 : Int32)) (fun y1 =>
  f_Se_lookOn_9 fR FU x1 x2 y1 σ)
def f_Se_goOn_S (fR : Int32 → Int32 → Int32 → SG → Option (Unit × SG)) (x1 : Int32) (x2 : Int32) (x3 : Int32) (σ : SG) : Option (Unit × SG) :=
  gd (ix x2 6) (
  sx (uI σ 127 (nx x2) x1) (fun σ1 =>
  if x3 ≤ (x2 + (1 : Int32)) then (
    bnd (f_Se_isNext x1 (σ1.1 127 0) σ1) (fun r3 σ2 =>
    if r3 = 0 then (
      some ((), σ2))
    else (
      if ¬ (σ2.1 125 3) = 0 then (
        sx (uI σ2 125 3 ((σ2.1 125 3) + (1 : Int32))) (fun σ4 =>
        some ((), σ4)))
      else (
        gd (cpOk (0 : Int32) (0 : Int32) x3 6 6) (
        sx (cpI σ2 127 126 (0 : Int32) (0 : Int32) x3) (fun σ5 =>
        sx (uI σ5 125 3 ((σ5.1 125 3) + (1 : Int32))) (fun σ6 =>
        some ((), σ6))))))))
  else (
    bnd (f_Se_lookOn fR (x2 + (1 : Int32)) x3 σ1) (fun _ σ7 =>
    some ((), σ7)))))
def f_Se_goOn : Nat → Int32 → Int32 → Int32 → SG → Option (Unit × SG)
  | 0, _, _, _, _ => none
  | d + 1, x0, x1, x2, σ => f_Se_goOn_S (f_Se_goOn d) x0 x1 x2 σ
def f_Se_ringsOf_15 (a1 : Nat) : Nat → Int32 → Int32 → SG → Option (Int32 × SG)
  | 0, _, _, _ => none
  | n + 1, x2, x3, σ =>
    if (σ.1 90 2) ≤ x3 then (
      some (σ.1 125 3, σ))
    else (
      bnd (f_Se_goOn DP x3 (0 : Int32) x2 σ) (fun _ σ1 =>
      lx (x3 + (1 : Int32)) (fun y2 =>
      f_Se_ringsOf_15 a1 n x2 y2 σ1)))
def f_Se_ringsOf (a1 : Nat) (x2 : Int32) (σ : SG) : Option (Int32 × SG) :=
  bnd (f_To_copyPlayFrom 90 a1 σ) (fun _ σ1 =>
  sx (uI σ1 125 3 (0 : Int32)) (fun σ2 =>
  f_Se_ringsOf_15 a1 FU x2 (0 : Int32) σ2))
def f_H_rings (x1 : Int32) (σ : SG) : Option (Int32 × SG) :=
  bnd (f_H_isIn x1 (2 : Int32) (6 : Int32) σ) (fun r2 σ1 =>
  if r2 = 0 then (
    some ((-1 : Int32), σ1))
  else (
    bnd (f_Se_ringsOf 20 x1 σ1) (fun r4 σ3 =>
    some (r4, σ3))))
def f_H_ring (x1 : Int32) (x2 : Int32) (σ : SG) : Option (Int32 × SG) :=
  bnd (f_H_isIn x1 (2 : Int32) (6 : Int32) σ) (fun r2 σ1 =>
  if r2 = 0 then (
    some ((-1 : Int32), σ1))
  else (
    bnd (f_H_isIn x2 (0 : Int32) (x1 - (1 : Int32)) σ1) (fun r4 σ3 =>
    if ¬ r4 = 0 then (
      bnd (f_Se_ringsOf 20 x1 σ3) (fun r6 σ5 =>
      if r6 ≤ 0 then (
        some ((-3 : Int32), σ5))
      else (
        gd (ix x2 6) (
        some (σ5.1 126 (nx x2), σ5)))))
    else (
      some ((-1 : Int32), σ3)))))
def f_Se_bartersWith (fR : Int32 → Int32 → SG → Option (Int32 × SG)) (x1 : Int32) (x2 : Int32) (x3 : Int32) (σ : SG) : Option (Int32 × SG) :=
  gd (ix x1 6) (
  lx (σ.1 99 (nx x1)) (fun y1 =>
  gd (ix x2 6) (
  lx (σ.1 99 (nx x2)) (fun y2 =>
  if y1 = y2 then (
    some ((0 : Int32), σ))
  else (
    gd (ix y1 8) (
    gd (ix y2 8) (
    if (σ.1 103 (nx y2)) ≤ (σ.1 103 (nx y1)) then (
      bnd (f_To_swap 90 x1 x2 σ) (fun _ σ3 =>
      bnd (fR x1 (x3 - (1 : Int32)) σ3) (fun r5 σ4 =>
      bnd (f_To_swap 90 x1 x2 σ4) (fun _ σ6 =>
      some (r5, σ6)))))
    else (
      some ((0 : Int32), σ)))))))))
def f_Se_barters_S_15 (fR : Int32 → Int32 → SG → Option (Int32 × SG)) : Nat → Int32 → Int32 → Int32 → Int32 → SG → Option (Int32 × SG)
  | 0, _, _, _, _, _ => none
  | n + 1, x1, x2, x3, x4, σ =>
    if (σ.1 90 2) ≤ x4 then (
      some (x3, σ))
    else (
      if x2 ≤ 0 then (
        some (x3, σ))
      else (
        gd (ix x1 6) (
        if ¬ (((σ.1 102 (nx x1)) >>> (x4 &&& 31)) &&& (1 : Int32)) = (1 : Int32) then (
          lx (x4 + (1 : Int32)) (fun y1 =>
          f_Se_barters_S_15 fR n x1 x2 x3 y1 σ))
        else (
          bnd (f_Se_bartersWith fR x1 x4 x2 σ) (fun r3 σ2 =>
          lx (x3 ||| r3) (fun y4 =>
          lx (x4 + (1 : Int32)) (fun y5 =>
          f_Se_barters_S_15 fR n x1 x2 y4 y5 σ2)))))))
def f_Se_barters_S (fR : Int32 → Int32 → SG → Option (Int32 × SG)) (x1 : Int32) (x2 : Int32) (σ : SG) : Option (Int32 × SG) :=
  gd (ix x1 6) (
  lx ((1 : Int32) <<< ((σ.1 99 (nx x1)) &&& 31)) (fun y1 =>
  f_Se_barters_S_15 fR FU x1 x2 y1 (0 : Int32) σ))
def f_Se_barters : Nat → Int32 → Int32 → SG → Option (Int32 × SG)
  | 0, _, _, _ => none
  | d + 1, x0, x1, σ => f_Se_barters_S (f_Se_barters d) x0 x1 σ
def f_Se_bartered (a1 : Nat) (x2 : Int32) (x3 : Int32) (σ : SG) : Option (Int32 × SG) :=
  bnd (f_To_copyPlayFrom 90 a1 σ) (fun _ σ1 =>
  bnd (f_Se_barters DP x2 x3 σ1) (fun r3 σ2 =>
  some (r3, σ2)))
def f_H_comes (x1 : Int32) (x2 : Int32) (σ : SG) : Option (Int32 × SG) :=
  bnd (f_To_isPerson 20 x1 σ) (fun r2 σ1 =>
  if r2 = 0 then (
    some ((-1 : Int32), σ1))
  else (
    bnd (f_H_isIn x2 (0 : Int32) (4 : Int32) σ1) (fun r4 σ3 =>
    if r4 = 0 then (
      some ((-1 : Int32), σ3))
    else (
      bnd (f_Se_bartered 20 x1 x2 σ3) (fun r6 σ5 =>
      some (r6, σ5))))))
def f_H_dearest_51  : Nat → Int32 → Int32 → Int32 → SG → Option (Int32 × SG)
  | 0, _, _, _, _ => none
  | n + 1, x3, x4, x5, σ =>
    if x5 < 0 then (
      some (x4, σ))
    else (
      if ¬ ((x3 >>> (x5 &&& 31)) &&& (1 : Int32)) = (1 : Int32) then (
        lx (x5 + (-1 : Int32)) (fun y1 =>
        f_H_dearest_51 n x3 x4 y1 σ))
      else (
        gd (ix x5 8) (
        gd (ix x4 8) (
        if (σ.1 33 (nx x5)) < (σ.1 33 (nx x4)) then (
          lx (x5 + (-1 : Int32)) (fun y2 =>
          f_H_dearest_51 n x3 x4 y2 σ))
        else (
          lx (x5 + (-1 : Int32)) (fun y3 =>
          f_H_dearest_51 n x3 x5 y3 σ))))))
def f_H_dearest (x1 : Int32) (x2 : Int32) (σ : SG) : Option (Int32 × SG) :=
  bnd (f_To_isPerson 20 x1 σ) (fun r2 σ1 =>
  if r2 = 0 then (
    some ((-1 : Int32), σ1))
  else (
    bnd (f_H_isIn x2 (0 : Int32) (4 : Int32) σ1) (fun r4 σ3 =>
    if ¬ r4 = 0 then (
      bnd (f_Se_bartered 20 x1 x2 σ3) (fun r6 σ5 =>
      gd (ix x1 6) (
      lx (σ5.1 29 (nx x1)) (fun y7 =>
      f_H_dearest_51 FU r6 y7 (7 : Int32) σ5))))
    else (
      some ((-1 : Int32), σ3)))))
def f_H_game (x1 : Int32) (σ : SG) : Option (Int32 × SG) :=
  bnd (f_H_isIn x1 (1 : Int32) (6 : Int32) σ) (fun r2 σ1 =>
  if ¬ r2 = 0 then (
    bnd (f_Se_told 20 (4 : Int32) x1 σ1) (fun r4 σ3 =>
    if r4 ≤ 0 then (
      if 0 ≤ r4 then (
        some ((2 : Int32), σ3))
      else (
        some ((1 : Int32), σ3)))
    else (
      some ((0 : Int32), σ3))))
  else (
    some ((-1 : Int32), σ1)))
def f_H_play (x1 : Int32) (σ : SG) : Option (Int32 × SG) :=
  bnd (f_H_isIn x1 (1 : Int32) (6 : Int32) σ) (fun r2 σ1 =>
  if ¬ r2 = 0 then (
    bnd (f_Se_first 20 (4 : Int32) x1 σ1) (fun r4 σ3 =>
    if r4 ≤ 0 then (
      some ((-3 : Int32), σ3))
    else (
      some (σ3.1 126 0, σ3))))
  else (
    some ((-1 : Int32), σ1)))
def f_H_report (x1 : Int32) (x2 : Int32) (x3 : Int32) (σ : SG) : Option (Int32 × SG) :=
  bnd (f_H_isIn x1 (0 : Int32) (99 : Int32) σ) (fun r2 σ1 =>
  if r2 = 0 then (
    some ((-1 : Int32), σ1))
  else (
    bnd (f_H_isIn x2 (0 : Int32) (99 : Int32) σ1) (fun r4 σ3 =>
    if r4 = 0 then (
      some ((-1 : Int32), σ3))
    else (
      bnd (f_H_isIn x3 (0 : Int32) (999 : Int32) σ3) (fun r6 σ5 =>
      if ¬ r6 = 0 then (
        if (σ5.1 20 16) < (6 : Int32) then (
          gd (ix (σ5.1 20 16) 6) (
          sx (uI σ5 (48 + 1 + nx (σ5.1 20 16)) 0 x1) (fun σ7 =>
          sx (uI σ7 (48 + 1 + nx (σ5.1 20 16)) 1 x2) (fun σ8 =>
          sx (uI σ8 (48 + 1 + nx (σ5.1 20 16)) 2 x3) (fun σ9 =>
          sx (uI σ9 20 16 ((σ9.1 20 16) + (1 : Int32))) (fun σ10 =>
          some ((σ10.1 20 16) - (1 : Int32), σ10)))))))
        else (
          some ((-2 : Int32), σ5)))
      else (
        some ((-1 : Int32), σ5)))))))
def f_H_forget  (σ : SG) : Option (Int32 × SG) :=
  lx (σ.1 20 16) (fun y1 =>
  sx (uI σ 20 16 (0 : Int32)) (fun σ2 =>
  some (y1, σ2)))
def f_To_fits_3 (t : Nat) : Nat → Int32 → Int32 → Int32 → Int32 → SG → Option (Int32 × SG)
  | 0, _, _, _, _, _ => none
  | n + 1, x1, x2, x3, x4, σ =>
    if (σ.1 t 16) ≤ x4 then (
      some ((1 : Int32), σ))
    else (
      gd (ix x4 6) (
      gd (ix x4 6) (
      lx (if (0 : Int32) < ((σ.1 (t + 28 + 1 + nx x4) 1) - (σ.1 (t + 28 + 1 + nx x4) 0)) then ((σ.1 (t + 28 + 1 + nx x4) 1) - (σ.1 (t + 28 + 1 + nx x4) 0)) else (0 : Int32)) (fun y2 =>
      if x4 = x3 then (
        lx (x4 + (1 : Int32)) (fun y3 =>
        f_To_fits_3 t n x1 x2 x3 y3 σ))
      else (
        gd (ix x4 6) (
        if ((x1 * y2) + x2) = (σ.1 (t + 28 + 1 + nx x4) 2) then (
          lx (x4 + (1 : Int32)) (fun y4 =>
          f_To_fits_3 t n x1 x2 x3 y4 σ))
        else (
          some ((0 : Int32), σ))))))))
def f_To_fits (t : Nat) (x1 : Int32) (x2 : Int32) (x3 : Int32) (σ : SG) : Option (Int32 × SG) :=
  f_To_fits_3 t FU x1 x2 x3 (0 : Int32) σ
def f_To_firstLaw_9 (t : Nat) (K2 : Int32 → Int32 → SG → Option (Int32 × SG)) : Nat → Int32 → Int32 → Int32 → SG → Option (Int32 × SG)
  | 0, _, _, _, _ => none
  | n + 1, x1, x2, x3, σ =>
    if (50 : Int32) < x3 then (
      lx (x2 + (1 : Int32)) (fun y1 =>
      K2 x1 y1 σ))
    else (
      bnd (f_To_fits t x2 x3 x1 σ) (fun r3 σ2 =>
      if r3 = 0 then (
        lx (x3 + (1 : Int32)) (fun y4 =>
        f_To_firstLaw_9 t K2 n x1 x2 y4 σ2))
      else (
        some ((x2 * (51 : Int32)) + x3, σ2))))
def f_To_firstLaw_2 (t : Nat) : Nat → Int32 → Int32 → SG → Option (Int32 × SG)
  | 0, _, _, _ => none
  | n + 1, x1, x2, σ =>
    if (3 : Int32) < x2 then (
      some ((-3 : Int32), σ))
    else (
      f_To_firstLaw_9 t (f_To_firstLaw_2 t n) FU x1 x2 (0 : Int32) σ)
def f_To_firstLaw (t : Nat) (x1 : Int32) (σ : SG) : Option (Int32 × SG) :=
  f_To_firstLaw_2 t FU x1 (0 : Int32) σ
def f_To_lawsThatFit_11 (t : Nat) (K4 : Int32 → Int32 → SG → Option (Int32 × SG)) : Nat → Int32 → Int32 → Int32 → SG → Option (Int32 × SG)
  | 0, _, _, _, _ => none
  | n + 1, x1, x2, x3, σ =>
    if (50 : Int32) < x3 then (
      lx (x2 + (1 : Int32)) (fun y1 =>
      K4 x1 y1 σ))
    else (
      bnd (f_To_fits t x2 x3 (-3 : Int32) σ) (fun r3 σ2 =>
      if r3 = 0 then (
        lx (x3 + (1 : Int32)) (fun y4 =>
        f_To_lawsThatFit_11 t K4 n x1 x2 y4 σ2))
      else (
        lx (x1 + (1 : Int32)) (fun y5 =>
        lx (x3 + (1 : Int32)) (fun y6 =>
        f_To_lawsThatFit_11 t K4 n y5 x2 y6 σ2)))))
def f_To_lawsThatFit_4 (t : Nat) : Nat → Int32 → Int32 → SG → Option (Int32 × SG)
  | 0, _, _, _ => none
  | n + 1, x1, x2, σ =>
    if (3 : Int32) < x2 then (
      some (x1, σ))
    else (
      f_To_lawsThatFit_11 t (f_To_lawsThatFit_4 t n) FU x1 x2 (0 : Int32) σ)
def f_To_lawsThatFit (t : Nat) (σ : SG) : Option (Int32 × SG) :=
  f_To_lawsThatFit_4 t FU (0 : Int32) (0 : Int32) σ
def f_H_span (x1 : Int32) (σ : SG) : Option (Int32 × SG) :=
  bnd (f_H_isIn x1 (0 : Int32) (2 : Int32) σ) (fun r2 σ1 =>
  if ¬ r2 = 0 then (
    if ¬ x1 = 0 then (
      bnd (f_To_firstLaw 20 (-3 : Int32) σ1) (fun r4 σ3 =>
      if 0 ≤ r4 then (
        if ¬ x1 = (1 : Int32) then (
          some (r4 - r4 / (51 : Int32) * (51 : Int32), σ3))
        else (
          some (r4 / (51 : Int32), σ3)))
      else (
        some ((-3 : Int32), σ3))))
    else (
      bnd (f_To_lawsThatFit 20 σ1) (fun r6 σ5 =>
      some (r6, σ5))))
  else (
    some ((-1 : Int32), σ1)))
def f_H_liar_17  : Nat → Int32 → SG → Option (Int32 × SG)
  | 0, _, _ => none
  | n + 1, x1, σ =>
    if (σ.1 20 16) ≤ x1 then (
      some ((-3 : Int32), σ))
    else (
      bnd (f_To_firstLaw 20 x1 σ) (fun r2 σ1 =>
      if r2 < 0 then (
        lx (x1 + (1 : Int32)) (fun y3 =>
        f_H_liar_17 n y3 σ1))
      else (
        some (x1, σ1))))
def f_H_liar  (σ : SG) : Option (Int32 × SG) :=
  bnd (f_To_firstLaw 20 (-3 : Int32) σ) (fun r2 σ1 =>
  if r2 < 0 then (
    f_H_liar_17 FU (0 : Int32) σ1)
  else (
    some ((-3 : Int32), σ1)))
def f_H_seed (x1 : Int32) (σ : SG) : Option (Int32 × SG) :=
  lx (σ.1 20 13) (fun y1 =>
  sx (uI σ 20 13 x1) (fun σ2 =>
  some (y1, σ2)))
def f_To_drawn_85 (t : Nat) : Nat → Int32 → Int32 → Int32 → SG → Option (Int32 × SG)
  | 0, _, _, _, _ => none
  | n + 1, x2, x4, x5, σ =>
    if x4 ≤ x5 then (
      some ((-3 : Int32), σ))
    else (
      gd (ix x5 21) (
      lx (tCHANGES (nx x5)) (fun y1 =>
      bnd (f_To_canBe t y1 σ) (fun r3 σ2 =>
      if r3 = 0 then (
        lx (x5 + (1 : Int32)) (fun y4 =>
        f_To_drawn_85 t n x2 x4 y4 σ2))
      else (
        if ¬ x2 = 0 then (
          lx (x2 + (-1 : Int32)) (fun y5 =>
          lx (x5 + (1 : Int32)) (fun y6 =>
          f_To_drawn_85 t n y5 x4 y6 σ2)))
        else (
          bnd (f_To_enter t y1 σ2) (fun r8 σ7 =>
          some (y1, σ7))))))))
def f_To_drawn_12 (t : Nat) : Nat → Int32 → Int32 → Int32 → SG → Option (Int32 × SG)
  | 0, _, _, _, _ => none
  | n + 1, x1, x3, x4, σ =>
    if x3 ≤ x4 then (
      if ¬ x1 = 0 then (
        sx (uI σ t 13 (((σ.1 t 13) * (1103515245 : Int32)) + (12345 : Int32))) (fun σ1 =>
        gd (¬ x1 = 0) (
        lx ((ush (σ1.1 t 13) (16 : Int32)) - (ush (σ1.1 t 13) (16 : Int32)) / x1 * x1) (fun y2 =>
        f_To_drawn_85 t FU y2 (21 : Int32) (0 : Int32) σ1))))
      else (
        some ((-3 : Int32), σ)))
    else (
      gd (ix x4 21) (
      lx (tCHANGES (nx x4)) (fun y3 =>
      bnd (f_To_canBe t y3 σ) (fun r5 σ4 =>
      if r5 = 0 then (
        lx (x4 + (1 : Int32)) (fun y6 =>
        f_To_drawn_12 t n x1 x3 y6 σ4))
      else (
        lx (x1 + (1 : Int32)) (fun y7 =>
        lx (x4 + (1 : Int32)) (fun y8 =>
        f_To_drawn_12 t n y7 x3 y8 σ4)))))))
def f_To_drawn (t : Nat) (σ : SG) : Option (Int32 × SG) :=
  f_To_drawn_12 t FU (0 : Int32) (21 : Int32) (0 : Int32) σ
def f_H_draw  (σ : SG) : Option (Int32 × SG) :=
  bnd (f_To_drawn 20 σ) (fun r2 σ1 =>
  some (r2, σ1))
def f_To_runOut_3 (t : Nat) : Nat → Int32 → SG → Option (Unit × SG)
  | 0, _, _ => none
  | n + 1, x1, σ =>
    if x1 ≤ 0 then (
      some ((), σ))
    else (
      bnd (f_To_drawn t σ) (fun r2 σ1 =>
      if r2 < 0 then (
        some ((), σ1))
      else (
        lx (x1 + (-1 : Int32)) (fun y3 =>
        f_To_runOut_3 t n y3 σ1))))
def f_To_runOut (t : Nat) (σ : SG) : Option (Unit × SG) :=
  f_To_runOut_3 t FU (6 : Int32) σ
def f_To_copyRows_2 (a0 : Nat) (a1 : Nat) : Nat → Int32 → SG → Option (Unit × SG)
  | 0, _, _ => none
  | n + 1, x2, σ =>
    if (12 : Int32) ≤ x2 then (
      some ((), σ))
    else (
      if (12 : Int32) ≤ x2 then (
        some ((), σ))
      else (
        gd (ix x2 12) (
        gd (ix x2 12) (
        gd (cpOk (0 : Int32) (0 : Int32) (3 : Int32) 3 3) (
        sx (cpI σ (a0 + 1 + nx x2) (a1 + 1 + nx x2) (0 : Int32) (0 : Int32) (3 : Int32)) (fun σ1 =>
        lx (x2 + (1 : Int32)) (fun y2 =>
        f_To_copyRows_2 a0 a1 n y2 σ1)))))))
def f_To_copyRows (a0 : Nat) (a1 : Nat) (σ : SG) : Option (Unit × SG) :=
  f_To_copyRows_2 a0 a1 FU (0 : Int32) σ
def f_To_copyRows_v1_2 (a0 : Nat) (a1 : Nat) : Nat → Int32 → SG → Option (Unit × SG)
  | 0, _, _ => none
  | n + 1, x2, σ =>
    if (6 : Int32) ≤ x2 then (
      some ((), σ))
    else (
      if (6 : Int32) ≤ x2 then (
        some ((), σ))
      else (
        gd (ix x2 6) (
        gd (ix x2 6) (
        gd (cpOk (0 : Int32) (0 : Int32) (3 : Int32) 3 3) (
        sx (cpI σ (a0 + 1 + nx x2) (a1 + 1 + nx x2) (0 : Int32) (0 : Int32) (3 : Int32)) (fun σ1 =>
        lx (x2 + (1 : Int32)) (fun y2 =>
        f_To_copyRows_v1_2 a0 a1 n y2 σ1)))))))
def f_To_copyRows_v1 (a0 : Nat) (a1 : Nat) (σ : SG) : Option (Unit × SG) :=
  f_To_copyRows_v1_2 a0 a1 FU (0 : Int32) σ
def f_To_copyFrom (t : Nat) (a1 : Nat) (σ : SG) : Option (Unit × SG) :=
  bnd (f_To_copyPlayFrom t a1 σ) (fun _ σ1 =>
  sx (uI σ1 t 13 (σ1.1 a1 13)) (fun σ2 =>
  sx (uI σ2 t 14 (σ2.1 a1 14)) (fun σ3 =>
  bnd (f_To_copyRows (a1 + 15) (t + 15) σ3) (fun _ σ4 =>
  sx (uI σ4 t 16 (σ4.1 a1 16)) (fun σ5 =>
  bnd (f_To_copyRows_v1 (a1 + 28) (t + 28) σ5) (fun _ σ6 =>
  some ((), σ6)))))))
def f_H_often_27  : Nat → Int32 → Int32 → Int32 → SG → Option (Int32 × SG)
  | 0, _, _, _, _ => none
  | n + 1, x1, x2, x3, σ =>
    if x1 ≤ x3 then (
      some (x2, σ))
    else (
      bnd (f_To_copyPlayFrom 90 20 σ) (fun _ σ1 =>
      bnd (f_To_runOut 90 σ1) (fun _ σ2 =>
      bnd (f_To_isDone 90 σ2) (fun r4 σ3 =>
      if r4 = 0 then (
        lx (x3 + (1 : Int32)) (fun y5 =>
        f_H_often_27 n x1 x2 y5 σ3))
      else (
        lx (x2 + (1 : Int32)) (fun y6 =>
        lx (x3 + (1 : Int32)) (fun y7 =>
        f_H_often_27 n x1 y6 y7 σ3)))))))
def f_H_often (x1 : Int32) (σ : SG) : Option (Int32 × SG) :=
  bnd (f_H_isIn x1 (1 : Int32) (60 : Int32) σ) (fun r2 σ1 =>
  if ¬ r2 = 0 then (
    bnd (f_To_copyFrom 90 20 σ1) (fun _ σ3 =>
    f_H_often_27 FU x1 (0 : Int32) (0 : Int32) σ3))
  else (
    some ((-1 : Int32), σ1)))
def f_H_prove_40  : Nat → Int32 → Int32 → SG → Option (Int32 × SG)
  | 0, _, _, _ => none
  | n + 1, x1, x2, σ =>
    if x1 ≤ x2 then (
      some (x1, σ))
    else (
      gd (ix x2 6) (
      bnd (f_To_step 90 (σ.1 126 (nx x2)) σ) (fun r2 σ1 =>
      gd (ix x2 6) (
      gd (ix x2 6) (
      sx (uI σ1 (141 + 1 + nx x2) 0 (σ1.1 126 (nx x2))) (fun σ3 =>
      gd (ix x2 6) (
      bnd (f_To_coinsOfAll 90 σ3) (fun r5 σ4 =>
      sx (uI σ4 (141 + 1 + nx x2) 1 r5) (fun σ6 =>
      gd (ix x2 6) (
      sx (uI σ6 (141 + 1 + nx x2) 2 (σ6.1 90 8)) (fun σ7 =>
      lx (x2 + (1 : Int32)) (fun y8 =>
      f_H_prove_40 n x1 y8 σ7))))))))))))
def f_H_prove  (σ : SG) : Option (Int32 × SG) :=
  bnd (f_Se_first 20 (0 : Int32) (6 : Int32) σ) (fun r2 σ1 =>
  if 0 ≤ r2 then (
    bnd (f_To_copyPlayFrom 90 20 σ1) (fun _ σ3 =>
    sx (uI σ3 0 8 r2) (fun σ4 =>
    f_H_prove_40 FU r2 (0 : Int32) σ4)))
  else (
    some ((-3 : Int32), σ1)))
def f_H_row (x1 : Int32) (x2 : Int32) (σ : SG) : Option (Int32 × SG) :=
  bnd (f_H_isIn x1 (0 : Int32) ((σ.1 0 8) - (1 : Int32)) σ) (fun r2 σ1 =>
  if r2 = 0 then (
    some ((-9 : Int32), σ1))
  else (
    bnd (f_H_isIn x2 (0 : Int32) (2 : Int32) σ1) (fun r4 σ3 =>
    if r4 = 0 then (
      some ((-9 : Int32), σ3))
    else (
      gd (ix x1 6) (
      gd (ix x2 3) (
      some (σ3.1 (141 + 1 + nx x1) (nx x2), σ3)))))))
def f_H_alterRow (x1 : Int32) (x2 : Int32) (x3 : Int32) (σ : SG) : Option (Int32 × SG) :=
  bnd (f_H_isIn x1 (0 : Int32) ((σ.1 0 8) - (1 : Int32)) σ) (fun r2 σ1 =>
  if r2 = 0 then (
    some ((-9 : Int32), σ1))
  else (
    bnd (f_H_isIn x2 (0 : Int32) (2 : Int32) σ1) (fun r4 σ3 =>
    if ¬ r4 = 0 then (
      gd (ix x1 6) (
      gd (ix x2 3) (
      lx (σ3.1 (141 + 1 + nx x1) (nx x2)) (fun y5 =>
      gd (ix x1 6) (
      gd (ix x2 3) (
      sx (uI σ3 (141 + 1 + nx x1) (nx x2) x3) (fun σ6 =>
      some (y5, σ6))))))))
    else (
      some ((-9 : Int32), σ3)))))
def f_H_judge_100 (K13 : Int32 → SG → Option (Int32 × SG)) (x1 : Int32) (xs0 : Int32) (σ : SG) : Option (Int32 × SG) :=
  if xs0 = 0 then (
    some (x1 + (1 : Int32), σ))
  else (
    if ¬ x1 = ((σ.1 0 8) - (1 : Int32)) then (
      lx (x1 + (1 : Int32)) (fun y1 =>
      K13 y1 σ))
    else (
      bnd (f_To_isDone 90 σ) (fun r3 σ2 =>
      if ¬ r3 = 0 then (
        lx (x1 + (1 : Int32)) (fun y4 =>
        K13 y4 σ2))
      else (
        some (x1 + (1 : Int32), σ2)))))
def f_H_judge_13  : Nat → Int32 → SG → Option (Int32 × SG)
  | 0, _, _ => none
  | n + 1, x1, σ =>
    if (σ.1 0 8) ≤ x1 then (
      some ((0 : Int32), σ))
    else (
      gd (ix x1 6) (
      bnd (f_To_canBe 90 (σ.1 (141 + 1 + nx x1) 0) σ) (fun r2 σ1 =>
      if ¬ r2 = 0 then (
        gd (ix x1 6) (
        bnd (f_To_step 90 (σ1.1 (141 + 1 + nx x1) 0) σ1) (fun r4 σ3 =>
        gd (ix x1 6) (
        bnd (f_To_coinsOfAll 90 σ3) (fun r6 σ5 =>
        if ¬ (σ3.1 (141 + 1 + nx x1) 1) = r6 then (
          f_H_judge_100 (f_H_judge_13 n) x1 (0 : Int32) σ5)
        else (
          gd (ix x1 6) (
          if ¬ (σ5.1 (141 + 1 + nx x1) 2) = (σ5.1 90 8) then (
            f_H_judge_100 (f_H_judge_13 n) x1 (0 : Int32) σ5)
          else (
            f_H_judge_100 (f_H_judge_13 n) x1 (1 : Int32) σ5))))))))
      else (
        some (x1 + (1 : Int32), σ1)))))
def f_H_judge  (σ : SG) : Option (Int32 × SG) :=
  bnd (f_To_copyPlayFrom 90 20 σ) (fun _ σ1 =>
  f_H_judge_13 FU (0 : Int32) σ1)
def f_H_isSheet (x0 : Int32) (σ : SG) : Option (Int32 × SG) :=
  bnd (f_H_isIn x0 (0 : Int32) (3 : Int32) σ) (fun r2 σ1 =>
  gd (r2 = 0 ∨ r2 = 1) (some (r2, σ1)))
def f_H_sheet_28 (x1 : Int32) (x2 : Int32) (xs0 : Int32) (σ : SG) : Option (Int32 × SG) :=
  if xs0 ≤ (40 : Int32) then (
    if 0 ≤ xs0 then (
      gd (ix x1 4) (
      sx (uI σ 2 (nx x1) x2) (fun σ1 =>
      gd (ix x1 4) (
      sx (uI σ1 3 (nx x1) xs0) (fun σ2 =>
      gd (ix x1 4) (
      sx (flI σ2 (4 + 1 + nx x1) 40 (0 : Int32)) (fun σ3 =>
      some ((1 : Int32), σ3))))))))
    else (
      some ((-14 : Int32), σ)))
  else (
    some ((-1 : Int32), σ))
def f_H_sheet (x1 : Int32) (x2 : Int32) (x3 : Int32) (σ : SG) : Option (Int32 × SG) :=
  bnd (f_H_isSheet x1 σ) (fun r2 σ1 =>
  if r2 = 0 then (
    some ((-1 : Int32), σ1))
  else (
    bnd (f_H_isIn x2 (-1 : Int32) (4 : Int32) σ1) (fun r4 σ3 =>
    if ¬ r4 = 0 then (
      if ¬ x2 = (-1 : Int32) then (
        f_H_sheet_28 x1 x2 x3 σ3)
      else (
        f_H_sheet_28 x1 x2 (0 : Int32) σ3))
    else (
      some ((-1 : Int32), σ3)))))
def f_Ho_isPlace (x1 : Int32) (x2 : Int32) (σ : SG) : Option (Int32 × SG) :=
  if x2 < 0 then (
    some ((0 : Int32), σ))
  else (
    gd (ix x1 4) (
    if (σ.1 3 (nx x1)) ≤ x2 then (
      some ((0 : Int32), σ))
    else (
      some ((1 : Int32), σ))))
def f_Ho_narrowed (x1 : Int32) (x2 : Int32) (σ : SG) : Option (Int32 × SG) :=
  if x1 = (0 : Int32) then (
    some (x2.toInt8.toInt32, σ))
  else if x1 = (1 : Int32) then (
    some (x2.toInt16.toInt32, σ))
  else if x1 = (2 : Int32) then (
    some (x2, σ))
  else if x1 = (3 : Int32) then (
    some (x2, σ))
  else if x1 = (4 : Int32) then (
    if x2 = 0 then (
      some ((0 : Int32), σ))
    else (
      some ((1 : Int32), σ)))
  else (
    some (x2, σ))
def f_H_write (x1 : Int32) (x2 : Int32) (x3 : Int32) (σ : SG) : Option (Int32 × SG) :=
  bnd (f_H_isSheet x1 σ) (fun r2 σ1 =>
  if ¬ r2 = 0 then (
    gd (ix x1 4) (
    if ¬ (σ1.1 2 (nx x1)) = (-1 : Int32) then (
      bnd (f_Ho_isPlace x1 x2 σ1) (fun r4 σ3 =>
      if ¬ r4 = 0 then (
        gd (ix x1 4) (
        gd (ix x1 4) (
        bnd (f_Ho_narrowed (σ3.1 2 (nx x1)) x3 σ3) (fun r6 σ5 =>
        gd (ix x2 40) (
        sx (uI σ5 (4 + 1 + nx x1) (nx x2) r6) (fun σ7 =>
        some ((1 : Int32), σ7)))))))
      else (
        some ((-12 : Int32), σ3))))
    else (
      some ((-11 : Int32), σ1))))
  else (
    some ((-1 : Int32), σ1)))
def f_Ho_refusal (x1 : Int32) (x2 : Int32) (σ : SG) : Option (Int32 × SG) :=
  gd (ix x1 4) (
  if ¬ (σ.1 2 (nx x1)) = (-1 : Int32) then (
    gd (ix x1 4) (
    if ¬ (σ.1 2 (nx x1)) = x2 then (
      some ((-13 : Int32), σ))
    else (
      some ((0 : Int32), σ))))
  else (
    some ((-11 : Int32), σ)))
def f_H_item (x1 : Int32) (x2 : Int32) (x3 : Int32) (σ : SG) : Option (Int32 × SG) :=
  bnd (f_H_isSheet x1 σ) (fun r2 σ1 =>
  if r2 = 0 then (
    some ((-1 : Int32), σ1))
  else (
    bnd (f_H_isIn x2 (0 : Int32) (4 : Int32) σ1) (fun r4 σ3 =>
    if ¬ r4 = 0 then (
      bnd (f_Ho_refusal x1 x2 σ3) (fun r6 σ5 =>
      if r6 = 0 then (
        bnd (f_Ho_isPlace x1 x3 σ5) (fun r8 σ7 =>
        if r8 = 0 then (
          some ((-12 : Int32), σ7))
        else (
          gd (ix x1 4) (
          gd (ix x3 40) (
          some (σ7.1 (4 + 1 + nx x1) (nx x3), σ7))))))
      else (
        some (r6, σ5))))
    else (
      some ((-1 : Int32), σ3)))))
def f_H_makeAll_44  : Nat → Int32 → Int32 → Int32 → Int32 → Int32 → SG → Option (Int32 × SG)
  | 0, _, _, _, _, _, _ => none
  | n + 1, x1, x2, x3, x5, x6, σ =>
    if x3 ≤ x6 then (
      some (x5, σ))
    else (
      bnd (f_Ho_isPlace x1 (x2 + x6) σ) (fun r2 σ1 =>
      if ¬ r2 = 0 then (
        gd (ix x1 4) (
        gd (ix (x2 + x6) 40) (
        lx (σ1.1 (4 + 1 + nx x1) (nx (x2 + x6))) (fun y3 =>
        bnd (f_To_canBe 20 y3 σ1) (fun r5 σ4 =>
        if r5 = 0 then (
          lx (x6 + (1 : Int32)) (fun y6 =>
          f_H_makeAll_44 n x1 x2 x3 x5 y6 σ4))
        else (
          bnd (f_To_enter 20 y3 σ4) (fun r8 σ7 =>
          lx (x5 + (1 : Int32)) (fun y9 =>
          lx (x6 + (1 : Int32)) (fun y10 =>
          f_H_makeAll_44 n x1 x2 x3 y9 y10 σ7)))))))))
      else (
        some ((-12 : Int32), σ1))))
def f_H_makeAll (x1 : Int32) (x2 : Int32) (x3 : Int32) (σ : SG) : Option (Int32 × SG) :=
  bnd (f_H_isSheet x1 σ) (fun r2 σ1 =>
  if r2 = 0 then (
    some ((-1 : Int32), σ1))
  else (
    bnd (f_H_isIn x3 (0 : Int32) (20 : Int32) σ1) (fun r4 σ3 =>
    if ¬ r4 = 0 then (
      bnd (f_Ho_refusal x1 (0 : Int32) σ3) (fun r6 σ5 =>
      if r6 = 0 then (
        f_H_makeAll_44 FU x1 x2 x3 (0 : Int32) (0 : Int32) σ5)
      else (
        some (r6, σ5))))
    else (
      some ((-1 : Int32), σ3)))))
def f_H_wouldCost_55  : Nat → Int32 → Int32 → Int32 → Int32 → Int32 → SG → Option (Int32 × SG)
  | 0, _, _, _, _, _, _ => none
  | n + 1, x1, x2, x3, x5, x6, σ =>
    if x3 ≤ x6 then (
      some (x5, σ))
    else (
      bnd (f_Ho_isPlace x1 (x2 + x6) σ) (fun r2 σ1 =>
      if ¬ r2 = 0 then (
        gd (ix x1 4) (
        gd (ix (x2 + x6) 40) (
        lx (σ1.1 (4 + 1 + nx x1) (nx (x2 + x6))) (fun y3 =>
        bnd (f_To_canBe 90 y3 σ1) (fun r5 σ4 =>
        if ¬ r5 = 0 then (
          bnd (f_To_step 90 y3 σ4) (fun r7 σ6 =>
          lx (x5 + r7) (fun y8 =>
          lx (x6 + (1 : Int32)) (fun y9 =>
          f_H_wouldCost_55 n x1 x2 x3 y8 y9 σ6))))
        else (
          some ((-4 : Int32), σ4)))))))
      else (
        some ((-12 : Int32), σ1))))
def f_H_wouldCost (x1 : Int32) (x2 : Int32) (x3 : Int32) (σ : SG) : Option (Int32 × SG) :=
  bnd (f_H_isSheet x1 σ) (fun r2 σ1 =>
  if r2 = 0 then (
    some ((-1 : Int32), σ1))
  else (
    bnd (f_H_isIn x3 (0 : Int32) (20 : Int32) σ1) (fun r4 σ3 =>
    if ¬ r4 = 0 then (
      bnd (f_Ho_refusal x1 (0 : Int32) σ3) (fun r6 σ5 =>
      if r6 = 0 then (
        bnd (f_To_copyPlayFrom 90 20 σ5) (fun _ σ7 =>
        f_H_wouldCost_55 FU x1 x2 x3 (0 : Int32) (0 : Int32) σ7))
      else (
        some (r6, σ5))))
    else (
      some ((-1 : Int32), σ3)))))
def f_Ho_hold (x1 : Int32) (x2 : Int32) (x3 : Int32) (x4 : Int32) (σ : SG) : Option (Int32 × SG) :=
  gd (ix x1 4) (
  sx (uI σ 9 (nx x1) x2) (fun σ1 =>
  gd (ix x1 4) (
  sx (uI σ1 10 (nx x1) x3) (fun σ2 =>
  gd (ix x1 4) (
  sx (uI σ2 11 (nx x1) x4) (fun σ3 =>
  some ((1 : Int32), σ3)))))))
def f_Ho_holdRow (x1 : Int32) (x2 : Int32) (σ : SG) : Option (Int32 × SG) :=
  gd (ix x2 4) (
  if ¬ (σ.1 2 (nx x2)) = (-1 : Int32) then (
    gd (ix x2 4) (
    gd (ix x2 4) (
    bnd (f_Ho_hold x1 (2 : Int32) (σ.1 2 (nx x2)) (σ.1 3 (nx x2)) σ) (fun r2 σ1 =>
    some (r2, σ1)))))
  else (
    gd (ix x2 4) (
    gd (ix x2 4) (
    bnd (f_Ho_hold x1 (0 : Int32) (σ.1 2 (nx x2)) (σ.1 3 (nx x2)) σ) (fun r4 σ3 =>
    some (r4, σ3))))))
def f_H_shelf (x1 : Int32) (x2 : Int32) (x3 : Int32) (σ : SG) : Option (Int32 × SG) :=
  bnd (f_H_isSheet x1 σ) (fun r2 σ1 =>
  if ¬ r2 = 0 then (
    if x2 = (0 : Int32) then (
      bnd (f_To_isPerson 20 x3 σ1) (fun r4 σ3 =>
      if r4 = 0 then (
        some ((-1 : Int32), σ3))
      else (
        bnd (f_Ho_hold x1 (1 : Int32) x3 (0 : Int32) σ3) (fun r6 σ5 =>
        some (r6, σ5)))))
    else if x2 = (1 : Int32) then (
      bnd (f_H_isSheet x3 σ1) (fun r8 σ7 =>
      if r8 = 0 then (
        some ((-1 : Int32), σ7))
      else (
        bnd (f_Ho_holdRow x1 x3 σ7) (fun r10 σ9 =>
        some (r10, σ9)))))
    else if x2 = (2 : Int32) then (
      bnd (f_Ho_hold x1 (0 : Int32) (0 : Int32) (0 : Int32) σ1) (fun r12 σ11 =>
      some (r12, σ11)))
    else (
      some ((-1 : Int32), σ1)))
  else (
    some ((-1 : Int32), σ1)))
def f_H_personOn (x1 : Int32) (σ : SG) : Option (Int32 × SG) :=
  bnd (f_H_isSheet x1 σ) (fun r2 σ1 =>
  if r2 = 0 then (
    some ((-3 : Int32), σ1))
  else (
    gd (ix x1 4) (
    if ¬ (σ1.1 9 (nx x1)) = (1 : Int32) then (
      some ((-3 : Int32), σ1))
    else (
      gd (ix x1 4) (
      bnd (f_To_isPerson 20 (σ1.1 10 (nx x1)) σ1) (fun r4 σ3 =>
      if ¬ r4 = 0 then (
        gd (ix x1 4) (
        some (σ3.1 10 (nx x1), σ3)))
      else (
        some ((-3 : Int32), σ3))))))))
def f_H_taken_31 (x1 : Int32) (x2 : Int32) (x3 : Int32) (σ : SG) : Option (Int32 × SG) :=
  gd (ix x1 4) (
  if ¬ (σ.1 9 (nx x1)) = (2 : Int32) then (
    bnd (f_H_personOn x1 σ) (fun r2 σ1 =>
    if 0 ≤ r2 then (
      if ¬ x3 = 0 then (
        some ((-13 : Int32), σ1))
      else (
        gd (ix r2 6) (
        bnd (f_H_isUnder (σ1.1 28 (nx r2)) x2 σ1) (fun r4 σ3 =>
        if r4 = 0 then (
          some ((-13 : Int32), σ3))
        else (
          some (r2, σ3))))))
    else (
      some ((-11 : Int32), σ1))))
  else (
    if x3 = 0 then (
      some ((-13 : Int32), σ))
    else (
      gd (ix x1 4) (
      if ¬ (σ.1 10 (nx x1)) = (x2 - (10 : Int32)) then (
        some ((-13 : Int32), σ))
      else (
        gd (ix x1 4) (
        some (σ.1 11 (nx x1), σ)))))))
def f_H_taken (x1 : Int32) (x2 : Int32) (σ : SG) : Option (Int32 × SG) :=
  bnd (f_H_isIn x2 (10 : Int32) (14 : Int32) σ) (fun r2 σ1 =>
  bnd (f_H_isSheet x1 σ1) (fun r4 σ3 =>
  if r4 = 0 then (
    some ((-1 : Int32), σ3))
  else (
    if ¬ r2 = 0 then (
      f_H_taken_31 x1 x2 r2 σ3)
    else (
      bnd (f_H_isIn x2 (0 : Int32) (5 : Int32) σ3) (fun r6 σ5 =>
      if ¬ r6 = 0 then (
        f_H_taken_31 x1 x2 r2 σ5)
      else (
        some ((-1 : Int32), σ5)))))))
def f_Ho_startTrace  (σ : SG) : Option (Unit × SG) :=
  sx (uI σ 1 6 (0 : Int32)) (fun σ1 =>
  sx (uI σ1 1 8 (0 : Int32)) (fun σ2 =>
  some ((), σ2)))
def f_Ho_began (x1 : Int32) (σ : SG) : Option (Unit × SG) :=
  if ¬ (σ.1 1 8) = 0 then (
    some ((), σ))
  else (
    if (30 : Int32) ≤ (σ.1 1 6) then (
      some ((), σ))
    else (
      gd (ix (σ.1 1 6) 30) (
      sx (uI σ 12 (nx (σ.1 1 6)) x1) (fun σ1 =>
      sx (uI σ1 1 6 ((σ1.1 1 6) + (1 : Int32))) (fun σ2 =>
      some ((), σ2))))))
def f_Pe_gives (x1 : Int32) (σ : SG) : Option (Int32 × SG) :=
  bnd (f_Ho_began (10 : Int32) σ) (fun _ σ1 =>
  some (x1 + (σ1.1 14 2), σ1))
def f_Pe_takes (x1 : Int32) (σ : SG) : Option (Int32 × SG) :=
  bnd (f_Ho_began (11 : Int32) σ) (fun _ σ1 =>
  bnd (f_Pe_gives x1 σ1) (fun r3 σ2 =>
  some (r3 - (σ2.1 14 1), σ2)))
def f_Pe_halves (x1 : Int32) (σ : SG) : Option (Int32 × SG) :=
  bnd (f_Ho_began (12 : Int32) σ) (fun _ σ1 =>
  if ¬ (σ1.1 14 2) = (σ1.1 14 1) then (
    gd (¬ ((σ1.1 14 2) - (σ1.1 14 1)) = 0) (
    some (x1 / ((σ1.1 14 2) - (σ1.1 14 1)), σ1)))
  else (
    sx (uI σ1 1 8 (1 : Int32)) (fun σ2 =>
    some ((0 : Int32), σ2))))
def f_Pe_owes (x1 : Int32) (σ : SG) : Option (Int32 × SG) :=
  bnd (f_Ho_began (13 : Int32) σ) (fun _ σ1 =>
  bnd (f_Pe_takes x1 σ1) (fun r3 σ2 =>
  some (r3 ^^^ (σ2.1 14 2), σ2)))
def f_Pe_gives_15 (x1 : Int32) (σ : SG) : Option (Int32 × SG) :=
  bnd (f_Ho_began (10 : Int32) σ) (fun _ σ1 =>
  some (x1 + (σ1.1 15 2), σ1))
def f_Ma_gives (x1 : Int32) (σ : SG) : Option (Int32 × SG) :=
  bnd (f_Ho_began (20 : Int32) σ) (fun _ σ1 =>
  bnd (f_Pe_gives_15 x1 σ1) (fun r3 σ2 =>
  some (r3 * (2 : Int32), σ2)))
def f_Pe_takes_15 (x1 : Int32) (σ : SG) : Option (Int32 × SG) :=
  bnd (f_Ho_began (11 : Int32) σ) (fun _ σ1 =>
  bnd (f_Ma_gives x1 σ1) (fun r3 σ2 =>
  some (r3 - (σ2.1 15 1), σ2)))
def f_Pe_halves_15 (x1 : Int32) (σ : SG) : Option (Int32 × SG) :=
  bnd (f_Ho_began (12 : Int32) σ) (fun _ σ1 =>
  if ¬ (σ1.1 15 2) = (σ1.1 15 1) then (
    gd (¬ ((σ1.1 15 2) - (σ1.1 15 1)) = 0) (
    some (x1 / ((σ1.1 15 2) - (σ1.1 15 1)), σ1)))
  else (
    sx (uI σ1 1 8 (1 : Int32)) (fun σ2 =>
    some ((0 : Int32), σ2))))
def f_Pe_owes_15 (x1 : Int32) (σ : SG) : Option (Int32 × SG) :=
  bnd (f_Ho_began (13 : Int32) σ) (fun _ σ1 =>
  bnd (f_Pe_takes_15 x1 σ1) (fun r3 σ2 =>
  some (r3 ^^^ (σ2.1 15 2), σ2)))
def f_Pe_gives_16 (x1 : Int32) (σ : SG) : Option (Int32 × SG) :=
  bnd (f_Ho_began (10 : Int32) σ) (fun _ σ1 =>
  some (x1 + (σ1.1 16 2), σ1))
def f_Pe_takes_16 (x1 : Int32) (σ : SG) : Option (Int32 × SG) :=
  bnd (f_Ho_began (11 : Int32) σ) (fun _ σ1 =>
  bnd (f_Pe_gives_16 x1 σ1) (fun r3 σ2 =>
  some (r3 - (σ2.1 16 1), σ2)))
def f_Mi_takes (x1 : Int32) (σ : SG) : Option (Int32 × SG) :=
  bnd (f_Ho_began (30 : Int32) σ) (fun _ σ1 =>
  bnd (f_Pe_takes_16 x1 σ1) (fun r3 σ2 =>
  some (r3 ^^^ (σ2.1 16 1), σ2)))
def f_Pe_halves_16 (x1 : Int32) (σ : SG) : Option (Int32 × SG) :=
  bnd (f_Ho_began (12 : Int32) σ) (fun _ σ1 =>
  if ¬ (σ1.1 16 2) = (σ1.1 16 1) then (
    gd (¬ ((σ1.1 16 2) - (σ1.1 16 1)) = 0) (
    some (x1 / ((σ1.1 16 2) - (σ1.1 16 1)), σ1)))
  else (
    sx (uI σ1 1 8 (1 : Int32)) (fun σ2 =>
    some ((0 : Int32), σ2))))
def f_Pe_owes_16 (x1 : Int32) (σ : SG) : Option (Int32 × SG) :=
  bnd (f_Ho_began (13 : Int32) σ) (fun _ σ1 =>
  bnd (f_Mi_takes x1 σ1) (fun r3 σ2 =>
  some (r3 ^^^ (σ2.1 16 2), σ2)))
def f_Pe_gives_17 (x1 : Int32) (σ : SG) : Option (Int32 × SG) :=
  bnd (f_Ho_began (10 : Int32) σ) (fun _ σ1 =>
  some (x1 + (σ1.1 17 2), σ1))
def f_Wi_gives (x1 : Int32) (σ : SG) : Option (Int32 × SG) :=
  bnd (f_Ho_began (50 : Int32) σ) (fun _ σ1 =>
  bnd (f_Pe_gives_17 x1 σ1) (fun r3 σ2 =>
  some (r3 - (1 : Int32), σ2)))
def f_Pe_takes_17 (x1 : Int32) (σ : SG) : Option (Int32 × SG) :=
  bnd (f_Ho_began (11 : Int32) σ) (fun _ σ1 =>
  bnd (f_Wi_gives x1 σ1) (fun r3 σ2 =>
  some (r3 - (σ2.1 17 1), σ2)))
def f_Mi_takes_17 (x1 : Int32) (σ : SG) : Option (Int32 × SG) :=
  bnd (f_Ho_began (30 : Int32) σ) (fun _ σ1 =>
  bnd (f_Pe_takes_17 x1 σ1) (fun r3 σ2 =>
  some (r3 ^^^ (σ2.1 17 1), σ2)))
def f_Pe_halves_17 (x1 : Int32) (σ : SG) : Option (Int32 × SG) :=
  bnd (f_Ho_began (12 : Int32) σ) (fun _ σ1 =>
  if ¬ (σ1.1 17 2) = (σ1.1 17 1) then (
    gd (¬ ((σ1.1 17 2) - (σ1.1 17 1)) = 0) (
    some (x1 / ((σ1.1 17 2) - (σ1.1 17 1)), σ1)))
  else (
    sx (uI σ1 1 8 (1 : Int32)) (fun σ2 =>
    some ((0 : Int32), σ2))))
def f_Pe_owes_17 (x1 : Int32) (σ : SG) : Option (Int32 × SG) :=
  bnd (f_Ho_began (13 : Int32) σ) (fun _ σ1 =>
  bnd (f_Mi_takes_17 x1 σ1) (fun r3 σ2 =>
  some (r3 ^^^ (σ2.1 17 2), σ2)))
def f_Wi_owes (x1 : Int32) (σ : SG) : Option (Int32 × SG) :=
  bnd (f_Ho_began (51 : Int32) σ) (fun _ σ1 =>
  bnd (f_Pe_owes_17 x1 σ1) (fun r3 σ2 =>
  bnd (f_Pe_halves_17 (σ2.1 17 2) σ2) (fun r5 σ4 =>
  some (r3 + r5, σ4))))
def f_Pe_gives_18 (x1 : Int32) (σ : SG) : Option (Int32 × SG) :=
  bnd (f_Ho_began (10 : Int32) σ) (fun _ σ1 =>
  some (x1 + (σ1.1 18 2), σ1))
def f_Pe_takes_18 (x1 : Int32) (σ : SG) : Option (Int32 × SG) :=
  bnd (f_Ho_began (11 : Int32) σ) (fun _ σ1 =>
  bnd (f_Pe_gives_18 x1 σ1) (fun r3 σ2 =>
  some (r3 - (σ2.1 18 1), σ2)))
def f_Pe_halves_18 (x1 : Int32) (σ : SG) : Option (Int32 × SG) :=
  bnd (f_Ho_began (12 : Int32) σ) (fun _ σ1 =>
  if ¬ (σ1.1 18 2) = (σ1.1 18 1) then (
    gd (¬ ((σ1.1 18 2) - (σ1.1 18 1)) = 0) (
    some (x1 / ((σ1.1 18 2) - (σ1.1 18 1)), σ1)))
  else (
    sx (uI σ1 1 8 (1 : Int32)) (fun σ2 =>
    some ((0 : Int32), σ2))))
def f_Pr_halves (x1 : Int32) (σ : SG) : Option (Int32 × SG) :=
  bnd (f_Ho_began (40 : Int32) σ) (fun _ σ1 =>
  bnd (f_Pe_halves_18 (x1 - (3 : Int32)) σ1) (fun r3 σ2 =>
  some (r3, σ2)))
def f_Pe_owes_18 (x1 : Int32) (σ : SG) : Option (Int32 × SG) :=
  bnd (f_Ho_began (13 : Int32) σ) (fun _ σ1 =>
  bnd (f_Pe_takes_18 x1 σ1) (fun r3 σ2 =>
  some (r3 ^^^ (σ2.1 18 2), σ2)))
def f_Pe_gives_19 (x1 : Int32) (σ : SG) : Option (Int32 × SG) :=
  bnd (f_Ho_began (10 : Int32) σ) (fun _ σ1 =>
  some (x1 + (σ1.1 19 2), σ1))
def f_Pe_takes_19 (x1 : Int32) (σ : SG) : Option (Int32 × SG) :=
  bnd (f_Ho_began (11 : Int32) σ) (fun _ σ1 =>
  bnd (f_Pe_gives_19 x1 σ1) (fun r3 σ2 =>
  some (r3 - (σ2.1 19 1), σ2)))
def f_Be_takes (x1 : Int32) (σ : SG) : Option (Int32 × SG) :=
  bnd (f_Ho_began (60 : Int32) σ) (fun _ σ1 =>
  bnd (f_Pe_takes_19 x1 σ1) (fun r3 σ2 =>
  some ((0 : Int32) - r3, σ2)))
def f_Pe_halves_19 (x1 : Int32) (σ : SG) : Option (Int32 × SG) :=
  bnd (f_Ho_began (12 : Int32) σ) (fun _ σ1 =>
  if ¬ (σ1.1 19 2) = (σ1.1 19 1) then (
    gd (¬ ((σ1.1 19 2) - (σ1.1 19 1)) = 0) (
    some (x1 / ((σ1.1 19 2) - (σ1.1 19 1)), σ1)))
  else (
    sx (uI σ1 1 8 (1 : Int32)) (fun σ2 =>
    some ((0 : Int32), σ2))))
def f_Pr_halves_19 (x1 : Int32) (σ : SG) : Option (Int32 × SG) :=
  bnd (f_Ho_began (40 : Int32) σ) (fun _ σ1 =>
  bnd (f_Pe_halves_19 (x1 - (3 : Int32)) σ1) (fun r3 σ2 =>
  some (r3, σ2)))
def f_Be_halves (x1 : Int32) (σ : SG) : Option (Int32 × SG) :=
  bnd (f_Ho_began (61 : Int32) σ) (fun _ σ1 =>
  bnd (f_Pr_halves_19 x1 σ1) (fun r3 σ2 =>
  bnd (f_Pe_gives_19 (σ2.1 19 1) σ2) (fun r5 σ4 =>
  some (r3 - r5, σ4))))
def f_Pe_owes_19 (x1 : Int32) (σ : SG) : Option (Int32 × SG) :=
  bnd (f_Ho_began (13 : Int32) σ) (fun _ σ1 =>
  bnd (f_Be_takes x1 σ1) (fun r3 σ2 =>
  some (r3 ^^^ (σ2.1 19 2), σ2)))
def f_H_act (x1 : Int32) (x2 : Int32) (x3 : Int32) (σ : SG) : Option (Int32 × SG) :=
  bnd (f_Ho_startTrace σ) (fun _ σ1 =>
  bnd (f_H_personOn x1 σ1) (fun r3 σ2 =>
  if r3 < 0 then (
    some ((0 : Int32), σ2))
  else (
    bnd (f_H_isIn x2 (0 : Int32) (3 : Int32) σ2) (fun r5 σ4 =>
    if ¬ r5 = 0 then (
      gd (ix r3 6) (
      gd (ix (σ4.1 28 (nx r3)) 6) (
      if (σ4.1 28 (nx r3)) = (0 : Int32) then (
        sx (uI σ4 14 1 r3) (fun σ6 =>
        gd (ix r3 6) (
        sx (uI σ6 14 2 (σ6.1 30 (nx r3))) (fun σ7 =>
        if x2 = (0 : Int32) then (
          bnd (f_Pe_gives x3 σ7) (fun r9 σ8 =>
          if (σ8.1 1 8) = 0 then (
            some (r9, σ8))
          else (
            some ((-15 : Int32), σ8))))
        else if x2 = (1 : Int32) then (
          bnd (f_Pe_takes x3 σ7) (fun r11 σ10 =>
          if (σ10.1 1 8) = 0 then (
            some (r11, σ10))
          else (
            some ((-15 : Int32), σ10))))
        else if x2 = (2 : Int32) then (
          bnd (f_Pe_halves x3 σ7) (fun r13 σ12 =>
          if (σ12.1 1 8) = 0 then (
            some (r13, σ12))
          else (
            some ((-15 : Int32), σ12))))
        else (
          bnd (f_Pe_owes x3 σ7) (fun r15 σ14 =>
          if (σ14.1 1 8) = 0 then (
            some (r15, σ14))
          else (
            some ((-15 : Int32), σ14))))))))
      else if (σ4.1 28 (nx r3)) = (1 : Int32) then (
        sx (uI σ4 15 1 r3) (fun σ16 =>
        gd (ix r3 6) (
        sx (uI σ16 15 2 (σ16.1 30 (nx r3))) (fun σ17 =>
        if x2 = (0 : Int32) then (
          bnd (f_Ma_gives x3 σ17) (fun r19 σ18 =>
          if (σ18.1 1 8) = 0 then (
            some (r19, σ18))
          else (
            some ((-15 : Int32), σ18))))
        else if x2 = (1 : Int32) then (
          bnd (f_Pe_takes_15 x3 σ17) (fun r21 σ20 =>
          if (σ20.1 1 8) = 0 then (
            some (r21, σ20))
          else (
            some ((-15 : Int32), σ20))))
        else if x2 = (2 : Int32) then (
          bnd (f_Pe_halves_15 x3 σ17) (fun r23 σ22 =>
          if (σ22.1 1 8) = 0 then (
            some (r23, σ22))
          else (
            some ((-15 : Int32), σ22))))
        else (
          bnd (f_Pe_owes_15 x3 σ17) (fun r25 σ24 =>
          if (σ24.1 1 8) = 0 then (
            some (r25, σ24))
          else (
            some ((-15 : Int32), σ24))))))))
      else if (σ4.1 28 (nx r3)) = (2 : Int32) then (
        sx (uI σ4 16 1 r3) (fun σ26 =>
        gd (ix r3 6) (
        sx (uI σ26 16 2 (σ26.1 30 (nx r3))) (fun σ27 =>
        if x2 = (0 : Int32) then (
          bnd (f_Pe_gives_16 x3 σ27) (fun r29 σ28 =>
          if (σ28.1 1 8) = 0 then (
            some (r29, σ28))
          else (
            some ((-15 : Int32), σ28))))
        else if x2 = (1 : Int32) then (
          bnd (f_Mi_takes x3 σ27) (fun r31 σ30 =>
          if (σ30.1 1 8) = 0 then (
            some (r31, σ30))
          else (
            some ((-15 : Int32), σ30))))
        else if x2 = (2 : Int32) then (
          bnd (f_Pe_halves_16 x3 σ27) (fun r33 σ32 =>
          if (σ32.1 1 8) = 0 then (
            some (r33, σ32))
          else (
            some ((-15 : Int32), σ32))))
        else (
          bnd (f_Pe_owes_16 x3 σ27) (fun r35 σ34 =>
          if (σ34.1 1 8) = 0 then (
            some (r35, σ34))
          else (
            some ((-15 : Int32), σ34))))))))
      else if (σ4.1 28 (nx r3)) = (3 : Int32) then (
        sx (uI σ4 17 1 r3) (fun σ36 =>
        gd (ix r3 6) (
        sx (uI σ36 17 2 (σ36.1 30 (nx r3))) (fun σ37 =>
        if x2 = (0 : Int32) then (
          bnd (f_Wi_gives x3 σ37) (fun r39 σ38 =>
          if (σ38.1 1 8) = 0 then (
            some (r39, σ38))
          else (
            some ((-15 : Int32), σ38))))
        else if x2 = (1 : Int32) then (
          bnd (f_Mi_takes_17 x3 σ37) (fun r41 σ40 =>
          if (σ40.1 1 8) = 0 then (
            some (r41, σ40))
          else (
            some ((-15 : Int32), σ40))))
        else if x2 = (2 : Int32) then (
          bnd (f_Pe_halves_17 x3 σ37) (fun r43 σ42 =>
          if (σ42.1 1 8) = 0 then (
            some (r43, σ42))
          else (
            some ((-15 : Int32), σ42))))
        else (
          bnd (f_Wi_owes x3 σ37) (fun r45 σ44 =>
          if (σ44.1 1 8) = 0 then (
            some (r45, σ44))
          else (
            some ((-15 : Int32), σ44))))))))
      else if (σ4.1 28 (nx r3)) = (4 : Int32) then (
        sx (uI σ4 18 1 r3) (fun σ46 =>
        gd (ix r3 6) (
        sx (uI σ46 18 2 (σ46.1 30 (nx r3))) (fun σ47 =>
        if x2 = (0 : Int32) then (
          bnd (f_Pe_gives_18 x3 σ47) (fun r49 σ48 =>
          if (σ48.1 1 8) = 0 then (
            some (r49, σ48))
          else (
            some ((-15 : Int32), σ48))))
        else if x2 = (1 : Int32) then (
          bnd (f_Pe_takes_18 x3 σ47) (fun r51 σ50 =>
          if (σ50.1 1 8) = 0 then (
            some (r51, σ50))
          else (
            some ((-15 : Int32), σ50))))
        else if x2 = (2 : Int32) then (
          bnd (f_Pr_halves x3 σ47) (fun r53 σ52 =>
          if (σ52.1 1 8) = 0 then (
            some (r53, σ52))
          else (
            some ((-15 : Int32), σ52))))
        else (
          bnd (f_Pe_owes_18 x3 σ47) (fun r55 σ54 =>
          if (σ54.1 1 8) = 0 then (
            some (r55, σ54))
          else (
            some ((-15 : Int32), σ54))))))))
      else (
        sx (uI σ4 19 1 r3) (fun σ56 =>
        gd (ix r3 6) (
        sx (uI σ56 19 2 (σ56.1 30 (nx r3))) (fun σ57 =>
        if x2 = (0 : Int32) then (
          bnd (f_Pe_gives_19 x3 σ57) (fun r59 σ58 =>
          if (σ58.1 1 8) = 0 then (
            some (r59, σ58))
          else (
            some ((-15 : Int32), σ58))))
        else if x2 = (1 : Int32) then (
          bnd (f_Be_takes x3 σ57) (fun r61 σ60 =>
          if (σ60.1 1 8) = 0 then (
            some (r61, σ60))
          else (
            some ((-15 : Int32), σ60))))
        else if x2 = (2 : Int32) then (
          bnd (f_Be_halves x3 σ57) (fun r63 σ62 =>
          if (σ62.1 1 8) = 0 then (
            some (r63, σ62))
          else (
            some ((-15 : Int32), σ62))))
        else (
          bnd (f_Pe_owes_19 x3 σ57) (fun r65 σ64 =>
          if (σ64.1 1 8) = 0 then (
            some (r65, σ64))
          else (
            some ((-15 : Int32), σ64)))))))))))
    else (
      some ((0 : Int32), σ4))))))
def f_H_trace (x1 : Int32) (σ : SG) : Option (Int32 × SG) :=
  bnd (f_H_isIn x1 (0 : Int32) ((σ.1 1 6) - (1 : Int32)) σ) (fun r2 σ1 =>
  if r2 = 0 then (
    some ((-3 : Int32), σ1))
  else (
    gd (ix x1 30) (
    some (σ1.1 12 (nx x1), σ1))))
def f_H_many (x1 : Int32) (σ : SG) : Option (Int32 × SG) :=
  if x1 = (0 : Int32) then (
    some (σ.1 20 2, σ))
  else if x1 = (1 : Int32) then (
    some (σ.1 21 0, σ))
  else if x1 = (2 : Int32) then (
    some (σ.1 20 14, σ))
  else if x1 = (3 : Int32) then (
    some (σ.1 20 16, σ))
  else if x1 = (4 : Int32) then (
    some (σ.1 0 8, σ))
  else if x1 = (5 : Int32) then (
    some (σ.1 130 1, σ))
  else if x1 = (6 : Int32) then (
    some (σ.1 1 6, σ))
  else (
    some ((-1 : Int32), σ))
def f_H_keep  (σ : SG) : Option (Int32 × SG) :=
  bnd (f_To_copyFrom 55 20 σ) (fun _ σ1 =>
  sx (uI σ1 0 3 (1 : Int32)) (fun σ2 =>
  some ((1 : Int32), σ2)))
def f_H_again  (σ : SG) : Option (Int32 × SG) :=
  if ¬ (σ.1 0 3) = 0 then (
    bnd (f_To_copyFrom 20 55 σ) (fun _ σ1 =>
    some (σ1.1 20 2, σ1)))
  else (
    some ((-3 : Int32), σ))
def f_M_in (x0 : Int64) (x2 : Int64) (x4 : Int64) (σ : SG) : Option (Int32 × SG) :=
  if (lg_cmp x0 x2) < 0 then (
    some ((0 : Int32), σ))
  else (
    if 0 < (lg_cmp x0 x4) then (
      some ((0 : Int32), σ))
    else (
      some ((1 : Int32), σ)))
def f_M_isKind (x0 : Int32) (σ : SG) : Option (Int32 × SG) :=
  bnd (f_M_in x0.toInt64 (1 : Int64) (5 : Int64) σ) (fun r2 σ1 =>
  gd (r2 = 0 ∨ r2 = 1) (some (r2, σ1)))
def f_M_isThing (x0 : Int32) (σ : SG) : Option (Int32 × SG) :=
  bnd (f_M_in x0.toInt64 (0 : Int64) (7 : Int64) σ) (fun r2 σ1 =>
  gd (r2 = 0 ∨ r2 = 1) (some (r2, σ1)))
def f_M_isPart_10 (x0 : Int32) (x1 : Int32) (σ : SG) : Option (Int32 × SG) :=
  bnd (f_M_isThing x1 σ) (fun r2 σ1 =>
  if ¬ r2 = 0 then (
    some ((1 : Int32), σ1))
  else (
    if ¬ x0 = (3 : Int32) then (
      some ((0 : Int32), σ1))
    else (
      bnd (f_M_in x1.toInt64 (0 : Int64) (999 : Int64) σ1) (fun r4 σ3 =>
      if r4 = 0 then (
        some ((0 : Int32), σ3))
      else (
        some ((1 : Int32), σ3))))))
def f_M_isPart (x0 : Int32) (x1 : Int32) (σ : SG) : Option (Int32 × SG) :=
  if x0 = (1 : Int32) then (
    f_M_isPart_10 x0 x1 σ)
  else (
    if ¬ x0 = (2 : Int32) then (
      if ¬ x0 = (3 : Int32) then (
        some ((0 : Int32), σ))
      else (
        bnd (f_M_in x1.toInt64 (0 : Int64) (999 : Int64) σ) (fun r2 σ1 =>
        if r2 = 0 then (
          some ((0 : Int32), σ1))
        else (
          some ((1 : Int32), σ1)))))
    else (
      f_M_isPart_10 x0 x1 σ))
def f_M_at (x0 : Int32) (x1 : Int32) (σ : SG) : Option (Int32 × SG) :=
  some (((22 : Int32) + ((5 : Int32) * x0)) + x1, σ)
def f_M_person (x1 : Int32) (x2 : Int32) (x3 : Int32) (x4 : Int32) (σ : SG) : Option (Int32 × SG) :=
  bnd (f_M_isKind x1 σ) (fun r2 σ1 =>
  if r2 = 0 then (
    some ((-1 : Int32), σ1))
  else (
    bnd (f_M_isThing x2 σ1) (fun r4 σ3 =>
    if r4 = 0 then (
      some ((-1 : Int32), σ3))
    else (
      bnd (f_M_isThing x3 σ3) (fun r6 σ5 =>
      if r6 = 0 then (
        some ((-1 : Int32), σ5))
      else (
        bnd (f_M_isPart (3 : Int32) x4 σ5) (fun r8 σ7 =>
        if ¬ r8 = 0 then (
          if ¬ (σ7.1 149 0) = (6 : Int32) then (
            lx (σ7.1 149 0) (fun y9 =>
            bnd (f_M_at y9 (0 : Int32) σ7) (fun r11 σ10 =>
            gd (ix r11 340) (
            sx (uI σ10 149 (nx r11) x1) (fun σ12 =>
            bnd (f_M_at y9 (1 : Int32) σ12) (fun r14 σ13 =>
            gd (ix r14 340) (
            sx (uI σ13 149 (nx r14) x2) (fun σ15 =>
            bnd (f_M_at y9 (2 : Int32) σ15) (fun r17 σ16 =>
            gd (ix r17 340) (
            sx (uI σ16 149 (nx r17) x3) (fun σ18 =>
            bnd (f_M_at y9 (3 : Int32) σ18) (fun r20 σ19 =>
            gd (ix r20 340) (
            sx (uI σ19 149 (nx r20) x4) (fun σ21 =>
            bnd (f_M_at y9 (4 : Int32) σ21) (fun r23 σ22 =>
            gd (ix r23 340) (
            sx (uI σ22 149 (nx r23) (0 : Int32)) (fun σ24 =>
            sx (uI σ24 149 0 ((σ24.1 149 0) + (1 : Int32))) (fun σ25 =>
            some (y9, σ25)))))))))))))))))))
          else (
            some ((-2 : Int32), σ7)))
        else (
          some ((-1 : Int32), σ7)))))))))
def f_M_isPerson (x1 : Int32) (σ : SG) : Option (Int32 × SG) :=
  bnd (f_M_in x1.toInt64 (0 : Int64) (((σ.1 149 0) - (1 : Int32)).toInt64) σ) (fun r2 σ1 =>
  gd (r2 = 0 ∨ r2 = 1) (some (r2, σ1)))
def f_M_its (x1 : Int32) (x2 : Int32) (σ : SG) : Option (Int32 × SG) :=
  bnd (f_M_at x1 x2 σ) (fun r2 σ1 =>
  gd (ix r2 340) (
  some (σ1.1 149 (nx r2), σ1)))
def f_M_isWhole (x1 : Int32) (σ : SG) : Option (Int32 × SG) :=
  bnd (f_M_its x1 (1 : Int32) σ) (fun r2 σ1 =>
  bnd (f_M_its x1 (2 : Int32) σ1) (fun r4 σ3 =>
  if ¬ r2 = r4 then (
    some ((0 : Int32), σ3))
  else (
    some ((1 : Int32), σ3))))
def f_M_atLeast (x0 : Int32) (σ : SG) : Option (Int32 × SG) :=
  if 0 ≤ x0 then (
    some (x0, σ))
  else (
    some ((0 : Int32), σ))
def f_M_wholeSet_4  : Nat → Int32 → Int32 → SG → Option (Int32 × SG)
  | 0, _, _, _ => none
  | n + 1, x1, x2, σ =>
    if (σ.1 149 0) ≤ x2 then (
      some (x1, σ))
    else (
      if x2 = (σ.1 148 4) then (
        lx (x1 ||| (0 : Int32)) (fun y1 =>
        lx (x2 + (1 : Int32)) (fun y2 =>
        f_M_wholeSet_4 n y1 y2 σ)))
      else (
        bnd (f_M_isWhole x2 σ) (fun r4 σ3 =>
        if r4 = 0 then (
          lx (x1 ||| (0 : Int32)) (fun y5 =>
          lx (x2 + (1 : Int32)) (fun y6 =>
          f_M_wholeSet_4 n y5 y6 σ3)))
        else (
          lx (x1 ||| ((1 : Int32) <<< (x2 &&& 31))) (fun y7 =>
          lx (x2 + (1 : Int32)) (fun y8 =>
          f_M_wholeSet_4 n y7 y8 σ3))))))
def f_M_wholeSet  (σ : SG) : Option (Int32 × SG) :=
  f_M_wholeSet_4 FU (0 : Int32) (0 : Int32) σ
def f_M_isUnder (x0 : Int32) (x1 : Int32) (σ : SG) : Option (Int32 × SG) :=
  if x1 = 0 then (
    some ((1 : Int32), σ))
  else (
    if x0 = x1 then (
      some ((1 : Int32), σ))
    else (
      if ¬ x1 = (2 : Int32) then (
        if ¬ x1 = (4 : Int32) then (
          some ((0 : Int32), σ))
        else (
          if ¬ x0 = (5 : Int32) then (
            some ((0 : Int32), σ))
          else (
            some ((1 : Int32), σ))))
      else (
        if x0 = (3 : Int32) then (
          some ((1 : Int32), σ))
        else (
          if ¬ x1 = (4 : Int32) then (
            some ((0 : Int32), σ))
          else (
            if ¬ x0 = (5 : Int32) then (
              some ((0 : Int32), σ))
            else (
              some ((1 : Int32), σ)))))))
def f_M_isHolding (x0 : Int32) (x1 : Int32) (x2 : Int32) (σ : SG) : Option (Int32 × SG) :=
  if x0 = (-21 : Int32) then (
    if ¬ x1 = (1 : Int32) then (
      some ((0 : Int32), σ))
    else (
      if ¬ x2 = (1 : Int32) then (
        some ((0 : Int32), σ))
      else (
        some ((1 : Int32), σ))))
  else if x0 = (-13 : Int32) then (
    if x1 ≤ x2 then (
      some ((0 : Int32), σ))
    else (
      some ((1 : Int32), σ)))
  else if x0 = (-12 : Int32) then (
    if ¬ x1 = x2 then (
      some ((0 : Int32), σ))
    else (
      some ((1 : Int32), σ)))
  else if x0 = (-11 : Int32) then (
    if x2 ≤ x1 then (
      some ((0 : Int32), σ))
    else (
      some ((1 : Int32), σ)))
  else (
    if x1 = (1 : Int32) then (
      some ((1 : Int32), σ))
    else (
      if ¬ x2 = (1 : Int32) then (
        some ((0 : Int32), σ))
      else (
        some ((1 : Int32), σ))))
def f_M_ones_4  : Nat → Int32 → Int32 → SG → Option (Int32 × SG)
  | 0, _, _, _ => none
  | n + 1, x1, x2, σ =>
    if x2 = 0 then (
      some (x1, σ))
    else (
      lx (x1 + (1 : Int32)) (fun y1 =>
      lx (x2 &&& (x2 - (1 : Int32))) (fun y2 =>
      f_M_ones_4 n y1 y2 σ)))
def f_M_ones (x0 : Int32) (σ : SG) : Option (Int32 × SG) :=
  f_M_ones_4 FU (0 : Int32) x0 σ
def f_M_fact (x1 : Int32) (x2 : Int32) (σ : SG) : Option (Int32 × SG) :=
  if x1 = (-5 : Int32) then (
    some (x2, σ))
  else if x1 = (-4 : Int32) then (
    bnd (f_M_wholeSet σ) (fun r2 σ1 =>
    bnd (f_M_ones r2 σ1) (fun r4 σ3 =>
    some (r4, σ3))))
  else if x1 = (-3 : Int32) then (
    bnd (f_M_its x2 (3 : Int32) σ) (fun r6 σ5 =>
    some (r6, σ5)))
  else if x1 = (-2 : Int32) then (
    bnd (f_M_its x2 (2 : Int32) σ) (fun r8 σ7 =>
    gd (ix ((6 : Int32) + r8) 340) (
    some (σ7.1 149 (nx ((6 : Int32) + r8)), σ7))))
  else if x1 = (-1 : Int32) then (
    bnd (f_M_its x2 (1 : Int32) σ) (fun r10 σ9 =>
    gd (ix ((6 : Int32) + r10) 340) (
    some (σ9.1 149 (nx ((6 : Int32) + r10)), σ9))))
  else (
    some (x1, σ))
def f_M_isSo_6  : Nat → Int32 → Int32 → Int32 → Int32 → SG → Option (Int32 × SG)
  | 0, _, _, _, _, _ => none
  | n + 1, x2, x3, x4, x5, σ =>
    if x2 ≤ x5 then (
      if x4 = 0 then (
        some ((1 : Int32), σ))
      else (
        if ¬ (σ.1 152 0) = (1 : Int32) then (
          some ((0 : Int32), σ))
        else (
          some ((1 : Int32), σ))))
    else (
      gd (ix ((138 : Int32) + x5) 340) (
      lx (σ.1 149 (nx ((138 : Int32) + x5))) (fun y1 =>
      if y1 ≤ (-10 : Int32) then (
        if ¬ y1 = (-20 : Int32) then (
          lx (x4 + (-1 : Int32)) (fun y2 =>
          gd (ix (y2 - (1 : Int32)) 200) (
          gd (ix y2 200) (
          bnd (f_M_isHolding y1 (σ.1 152 (nx (y2 - (1 : Int32)))) (σ.1 152 (nx y2)) σ) (fun r4 σ3 =>
          if r4 = 0 then (
            gd (ix (y2 - (1 : Int32)) 200) (
            sx (uI σ3 152 (nx (y2 - (1 : Int32))) (0 : Int32)) (fun σ5 =>
            lx (x5 + (1 : Int32)) (fun y6 =>
            f_M_isSo_6 n x2 x3 y2 y6 σ5))))
          else (
            gd (ix (y2 - (1 : Int32)) 200) (
            sx (uI σ3 152 (nx (y2 - (1 : Int32))) (1 : Int32)) (fun σ7 =>
            lx (x5 + (1 : Int32)) (fun y8 =>
            f_M_isSo_6 n x2 x3 y2 y8 σ7)))))))))
        else (
          gd (ix (x4 - (1 : Int32)) 200) (
          gd (ix (x4 - (1 : Int32)) 200) (
          sx (uI σ 152 (nx (x4 - (1 : Int32))) ((1 : Int32) - (σ.1 152 (nx (x4 - (1 : Int32)))))) (fun σ9 =>
          lx (x5 + (1 : Int32)) (fun y10 =>
          f_M_isSo_6 n x2 x3 x4 y10 σ9))))))
      else (
        bnd (f_M_fact y1 x3 σ) (fun r12 σ11 =>
        gd (ix x4 200) (
        sx (uI σ11 152 (nx x4) r12) (fun σ13 =>
        lx (x4 + (1 : Int32)) (fun y14 =>
        lx (x5 + (1 : Int32)) (fun y15 =>
        f_M_isSo_6 n x2 x3 y14 y15 σ13)))))))))
def f_M_isSo (x1 : Int32) (x2 : Int32) (x3 : Int32) (σ : SG) : Option (Int32 × SG) :=
  f_M_isSo_6 FU x2 x3 (0 : Int32) x1 σ
def f_M_asked_217 (x1 : Int32) (x2 : Int32) (xs0 : Int32) (σ : SG) : Option (Int32 × SG) :=
  bnd (f_M_its x1 (3 : Int32) σ) (fun r2 σ1 =>
  bnd (f_M_atLeast (xs0 - (r2 / (10 : Int32))) σ1) (fun r4 σ3 =>
  if x2 = (2 : Int32) then (
    some (r4, σ3))
  else if x2 = (3 : Int32) then (
    bnd (f_M_wholeSet σ3) (fun r6 σ5 =>
    if ¬ r6 = 0 then (
      some (r4, σ5))
    else (
      some (r4 / (2 : Int32), σ5))))
  else if x2 = (4 : Int32) then (
    some ((2 : Int32) * xs0, σ3))
  else if x2 = (5 : Int32) then (
    bnd (f_M_atLeast (((2 : Int32) * xs0) - (7 : Int32)) σ3) (fun r8 σ7 =>
    some (r8, σ7)))
  else (
    some (xs0, σ3))))
def f_M_asked_132 (x1 : Int32) (x2 : Int32) (x5 : Int32) (xs0 : Int32) (σ : SG) : Option (Int32 × SG) :=
  bnd (f_M_its x1 (2 : Int32) σ) (fun r2 σ1 =>
  gd (ix ((6 : Int32) + r2) 340) (
  bnd (f_M_its x1 (1 : Int32) σ1) (fun r4 σ3 =>
  gd (ix ((6 : Int32) + r4) 340) (
  bnd (f_M_atLeast ((σ1.1 149 (nx ((6 : Int32) + r2))) - (σ3.1 149 (nx ((6 : Int32) + r4)))) σ3) (fun r6 σ5 =>
  lx (r6 + (σ5.1 149 2)) (fun y7 =>
  if ¬ x5 = 0 then (
    if ¬ x5 = (1 : Int32) then (
      if ¬ x5 = (2 : Int32) then (
        f_M_asked_217 x1 x2 y7 σ5)
      else (
        f_M_asked_217 x1 x2 (0 : Int32) σ5))
    else (
      bnd (f_M_atLeast (y7 - xs0) σ5) (fun r9 σ8 =>
      f_M_asked_217 x1 x2 r9 σ8)))
  else (
    f_M_asked_217 x1 x2 (y7 + xs0) σ5)))))))
def f_M_asked_98 (x1 : Int32) (x2 : Int32) (x3 : Int32) (σ : SG) : Option (Int32 × SG) :=
  if 0 ≤ x3 then (
    gd (ix (x3 + (1 : Int32)) 340) (
    lx (σ.1 149 (nx (x3 + (1 : Int32)))) (fun y1 =>
    if 0 ≤ x3 then (
      gd (ix (x3 + (2 : Int32)) 340) (
      f_M_asked_132 x1 x2 y1 (σ.1 149 (nx (x3 + (2 : Int32)))) σ))
    else (
      f_M_asked_132 x1 x2 y1 (0 : Int32) σ))))
  else (
    if 0 ≤ x3 then (
      gd (ix (x3 + (2 : Int32)) 340) (
      f_M_asked_132 x1 x2 (-1 : Int32) (σ.1 149 (nx (x3 + (2 : Int32)))) σ))
    else (
      f_M_asked_132 x1 x2 (-1 : Int32) (0 : Int32) σ))
def f_M_asked_15  : Nat → Int32 → Int32 → Int32 → Int32 → Int32 → SG → Option (Int32 × SG)
  | 0, _, _, _, _, _, _ => none
  | n + 1, x1, x2, x3, x4, x5, σ =>
    if (σ.1 149 1) ≤ x5 then (
      f_M_asked_98 x1 x2 x3 σ)
    else (
      if 0 ≤ x3 then (
        f_M_asked_98 x1 x2 x3 σ)
      else (
        lx ((106 : Int32) + ((4 : Int32) * x5)) (fun y1 =>
        gd (ix (y1 + (0 : Int32)) 340) (
        bnd (f_M_isUnder x2 (σ.1 149 (nx (y1 + (0 : Int32)))) σ) (fun r3 σ2 =>
        if r3 = 0 then (
          gd (ix (y1 + (3 : Int32)) 340) (
          lx (σ2.1 149 (nx (y1 + (3 : Int32)))) (fun y4 =>
          lx (x5 + (1 : Int32)) (fun y5 =>
          f_M_asked_15 n x1 x2 (-1 : Int32) y4 y5 σ2))))
        else (
          gd (ix (y1 + (3 : Int32)) 340) (
          bnd (f_M_isSo x4 (σ2.1 149 (nx (y1 + (3 : Int32)))) x1 σ2) (fun r7 σ6 =>
          if r7 = 0 then (
            gd (ix (y1 + (3 : Int32)) 340) (
            lx (σ6.1 149 (nx (y1 + (3 : Int32)))) (fun y8 =>
            lx (x5 + (1 : Int32)) (fun y9 =>
            f_M_asked_15 n x1 x2 (-1 : Int32) y8 y9 σ6))))
          else (
            gd (ix (y1 + (3 : Int32)) 340) (
            lx (σ6.1 149 (nx (y1 + (3 : Int32)))) (fun y10 =>
            lx (x5 + (1 : Int32)) (fun y11 =>
            f_M_asked_15 n x1 x2 y1 y10 y11 σ6))))))))))))
def f_M_asked (x1 : Int32) (σ : SG) : Option (Int32 × SG) :=
  bnd (f_M_its x1 (0 : Int32) σ) (fun r2 σ1 =>
  f_M_asked_15 FU x1 r2 (-1 : Int32) (0 : Int32) (0 : Int32) σ1)
def f_M_personOf (x1 : Int32) (x2 : Int32) (σ : SG) : Option (Int32 × SG) :=
  bnd (f_M_isPerson x1 σ) (fun r2 σ1 =>
  if r2 = 0 then (
    some ((-1 : Int32), σ1))
  else (
    bnd (f_M_in x2.toInt64 (0 : Int64) (6 : Int64) σ1) (fun r4 σ3 =>
    if ¬ r4 = 0 then (
      if ¬ x2 = (4 : Int32) then (
        if ¬ x2 = (5 : Int32) then (
          if ¬ x2 = (6 : Int32) then (
            bnd (f_M_its x1 x2 σ3) (fun r6 σ5 =>
            some (r6, σ5)))
          else (
            bnd (f_M_its x1 (4 : Int32) σ3) (fun r8 σ7 =>
            some (r8, σ7))))
        else (
          bnd (f_M_isWhole x1 σ3) (fun r10 σ9 =>
          if r10 = 0 then (
            some ((0 : Int32), σ9))
          else (
            some ((1 : Int32), σ9)))))
      else (
        bnd (f_M_asked x1 σ3) (fun r12 σ11 =>
        some (r12, σ11))))
    else (
      some ((-1 : Int32), σ3)))))
def f_M_becomes (x1 : Int32) (x2 : Int32) (σ : SG) : Option (Int32 × SG) :=
  gd (ix x1 340) (
  lx (σ.1 149 (nx x1)) (fun y1 =>
  gd (ix x1 340) (
  sx (uI σ 149 (nx x1) x2) (fun σ2 =>
  some (y1, σ2)))))
def f_M_change (x1 : Int32) (x2 : Int32) (x3 : Int32) (σ : SG) : Option (Int32 × SG) :=
  bnd (f_M_isPerson x1 σ) (fun r2 σ1 =>
  if r2 = 0 then (
    some ((-1 : Int32), σ1))
  else (
    bnd (f_M_isPart x2 x3 σ1) (fun r4 σ3 =>
    if r4 = 0 then (
      some ((-1 : Int32), σ3))
    else (
      bnd (f_M_at x1 x2 σ3) (fun r6 σ5 =>
      bnd (f_M_becomes r6 x3 σ5) (fun r8 σ7 =>
      some (r8, σ7)))))))
def f_M_remake (x1 : Int32) (x2 : Int32) (σ : SG) : Option (Int32 × SG) :=
  bnd (f_M_isPerson x1 σ) (fun r2 σ1 =>
  if r2 = 0 then (
    some ((-1 : Int32), σ1))
  else (
    bnd (f_M_isKind x2 σ1) (fun r4 σ3 =>
    if r4 = 0 then (
      some ((-1 : Int32), σ3))
    else (
      bnd (f_M_at x1 (0 : Int32) σ3) (fun r6 σ5 =>
      bnd (f_M_becomes r6 x2 σ5) (fun r8 σ7 =>
      some (r8, σ7)))))))
def f_M_doMeet (x1 : Int32) (x2 : Int32) (σ : SG) : Option (Int32 × SG) :=
  bnd (f_M_its x1 (4 : Int32) σ) (fun r2 σ1 =>
  if ¬ ((r2 >>> (x2 &&& 31)) &&& (1 : Int32)) = (1 : Int32) then (
    some ((0 : Int32), σ1))
  else (
    some ((1 : Int32), σ1)))
def f_M_lets (x1 : Int32) (x2 : Int32) (x3 : Int32) (σ : SG) : Option (Unit × SG) :=
  bnd (f_M_its x1 (4 : Int32) σ) (fun r2 σ1 =>
  bnd (f_M_at x1 (4 : Int32) σ1) (fun r4 σ3 =>
  if x3 = 0 then (
    gd (ix r4 340) (
    sx (uI σ3 149 (nx r4) (r2 &&& (((1 : Int32) <<< (x2 &&& 31)) ^^^ (-1 : Int32)))) (fun σ5 =>
    some ((), σ5))))
  else (
    gd (ix r4 340) (
    sx (uI σ3 149 (nx r4) (r2 ||| ((1 : Int32) <<< (x2 &&& 31)))) (fun σ6 =>
    some ((), σ6))))))
def f_M_meets (x1 : Int32) (x2 : Int32) (x3 : Int32) (σ : SG) : Option (Int32 × SG) :=
  bnd (f_M_isPerson x1 σ) (fun r2 σ1 =>
  if r2 = 0 then (
    some ((-1 : Int32), σ1))
  else (
    bnd (f_M_isPerson x2 σ1) (fun r4 σ3 =>
    if r4 = 0 then (
      some ((-1 : Int32), σ3))
    else (
      if ¬ x1 = x2 then (
        bnd (f_M_doMeet x1 x2 σ3) (fun r6 σ5 =>
        if r6 = 0 then (
          bnd (f_M_lets x1 x2 x3 σ5) (fun _ σ7 =>
          bnd (f_M_lets x2 x1 x3 σ7) (fun _ σ8 =>
          some ((0 : Int32), σ8))))
        else (
          bnd (f_M_lets x1 x2 x3 σ5) (fun _ σ9 =>
          bnd (f_M_lets x2 x1 x3 σ9) (fun _ σ10 =>
          some ((1 : Int32), σ10))))))
      else (
        some ((-1 : Int32), σ3))))))
def f_M_worth (x1 : Int32) (x2 : Int32) (σ : SG) : Option (Int32 × SG) :=
  bnd (f_M_isThing x1 σ) (fun r2 σ1 =>
  if r2 = 0 then (
    some ((-1 : Int32), σ1))
  else (
    bnd (f_M_in x2.toInt64 (0 : Int64) (99 : Int64) σ1) (fun r4 σ3 =>
    if r4 = 0 then (
      some ((-1 : Int32), σ3))
    else (
      bnd (f_M_becomes ((6 : Int32) + x1) x2 σ3) (fun r6 σ5 =>
      some (r6, σ5))))))
def f_M_jar (x1 : Int32) (x2 : Int32) (σ : SG) : Option (Int32 × SG) :=
  bnd (f_M_isThing x1 σ) (fun r2 σ1 =>
  if r2 = 0 then (
    some ((-1 : Int32), σ1))
  else (
    bnd (f_M_in x2.toInt64 (0 : Int64) (9 : Int64) σ1) (fun r4 σ3 =>
    if r4 = 0 then (
      some ((-1 : Int32), σ3))
    else (
      bnd (f_M_becomes ((14 : Int32) + x1) x2 σ3) (fun r6 σ5 =>
      some (r6, σ5))))))
def f_M_fee (x1 : Int32) (σ : SG) : Option (Int32 × SG) :=
  bnd (f_M_in x1.toInt64 (0 : Int64) (50 : Int64) σ) (fun r2 σ1 =>
  if r2 = 0 then (
    some ((-1 : Int32), σ1))
  else (
    bnd (f_M_becomes (2 : Int32) x1 σ1) (fun r4 σ3 =>
    some (r4, σ3))))
def f_M_whoWith_5  : Nat → Int32 → Int32 → Int32 → Int32 → SG → Option (Int32 × SG)
  | 0, _, _, _, _, _ => none
  | n + 1, x1, x2, x3, x4, σ =>
    if (σ.1 149 0) ≤ x4 then (
      some (x3, σ))
    else (
      bnd (f_M_its x4 x1 σ) (fun r2 σ1 =>
      if ¬ r2 = x2 then (
        lx (x3 ||| (0 : Int32)) (fun y3 =>
        lx (x4 + (1 : Int32)) (fun y4 =>
        f_M_whoWith_5 n x1 x2 y3 y4 σ1)))
      else (
        lx (x3 ||| ((1 : Int32) <<< (x4 &&& 31))) (fun y5 =>
        lx (x4 + (1 : Int32)) (fun y6 =>
        f_M_whoWith_5 n x1 x2 y5 y6 σ1)))))
def f_M_whoWith (x1 : Int32) (x2 : Int32) (σ : SG) : Option (Int32 × SG) :=
  f_M_whoWith_5 FU x1 x2 (0 : Int32) (0 : Int32) σ
def f_M_thing (x1 : Int32) (x2 : Int32) (σ : SG) : Option (Int32 × SG) :=
  bnd (f_M_isThing x1 σ) (fun r2 σ1 =>
  if ¬ r2 = 0 then (
    if x2 = (0 : Int32) then (
      gd (ix ((6 : Int32) + x1) 340) (
      some (σ1.1 149 (nx ((6 : Int32) + x1)), σ1)))
    else if x2 = (1 : Int32) then (
      gd (ix ((14 : Int32) + x1) 340) (
      some (σ1.1 149 (nx ((14 : Int32) + x1)), σ1)))
    else if x2 = (2 : Int32) then (
      bnd (f_M_whoWith (1 : Int32) x1 σ1) (fun r4 σ3 =>
      some (r4, σ3)))
    else if x2 = (3 : Int32) then (
      bnd (f_M_whoWith (2 : Int32) x1 σ1) (fun r6 σ5 =>
      some (r6, σ5)))
    else (
      some ((-1 : Int32), σ1)))
  else (
    some ((-1 : Int32), σ1)))
def f_M_coinsAll_4  : Nat → Int32 → Int32 → SG → Option (Int32 × SG)
  | 0, _, _, _ => none
  | n + 1, x1, x2, σ =>
    if (σ.1 149 0) ≤ x2 then (
      some (x1, σ))
    else (
      bnd (f_M_its x2 (3 : Int32) σ) (fun r2 σ1 =>
      lx (x1 + r2) (fun y3 =>
      lx (x2 + (1 : Int32)) (fun y4 =>
      f_M_coinsAll_4 n y3 y4 σ1))))
def f_M_coinsAll  (σ : SG) : Option (Int32 × SG) :=
  f_M_coinsAll_4 FU (0 : Int32) (0 : Int32) σ
def f_M_state (x1 : Int32) (σ : SG) : Option (Int32 × SG) :=
  if x1 = (0 : Int32) then (
    bnd (f_M_wholeSet σ) (fun r2 σ1 =>
    some (r2, σ1)))
  else if x1 = (1 : Int32) then (
    bnd (f_M_coinsAll σ) (fun r4 σ3 =>
    some (r4, σ3)))
  else if x1 = (2 : Int32) then (
    some (σ.1 149 2, σ))
  else if x1 = (3 : Int32) then (
    some (σ.1 149 4, σ))
  else (
    some ((-1 : Int32), σ))
def f_M_isChange (x1 : Int32) (x2 : Int32) (σ : SG) : Option (Int32 × SG) :=
  bnd (f_M_isPerson x1 σ) (fun r2 σ1 =>
  if r2 = 0 then (
    some ((0 : Int32), σ1))
  else (
    if x2 = (9 : Int32) then (
      some ((1 : Int32), σ1))
    else (
      if x2 ≤ x1 then (
        some ((0 : Int32), σ1))
      else (
        bnd (f_M_isPerson x2 σ1) (fun r4 σ3 =>
        if r4 = 0 then (
          some ((0 : Int32), σ3))
        else (
          some ((1 : Int32), σ3)))))))
def f_M_isNumber (x1 : Int32) (σ : SG) : Option (Int32 × SG) :=
  if x1 < 0 then (
    some ((0 : Int32), σ))
  else (
    bnd (f_M_isChange (x1 / (10 : Int32)) (x1 - x1 / (10 : Int32) * (10 : Int32)) σ) (fun r2 σ1 =>
    if r2 = 0 then (
      some ((0 : Int32), σ1))
    else (
      some ((1 : Int32), σ1))))
def f_M_isThere (x1 : Int32) (σ : SG) : Option (Int32 × SG) :=
  if x1 = (σ.1 148 4) then (
    some ((0 : Int32), σ))
  else (
    bnd (f_M_isWhole x1 σ) (fun r2 σ1 =>
    if ¬ r2 = 0 then (
      some ((0 : Int32), σ1))
    else (
      some ((1 : Int32), σ1))))
def f_M_canBe (x1 : Int32) (σ : SG) : Option (Int32 × SG) :=
  lx (x1 / (10 : Int32)) (fun y1 =>
  lx (x1 - x1 / (10 : Int32) * (10 : Int32)) (fun y2 =>
  bnd (f_M_isThere y1 σ) (fun r4 σ3 =>
  if ¬ r4 = 0 then (
    if ¬ y2 = (9 : Int32) then (
      bnd (f_M_isThere y2 σ3) (fun r6 σ5 =>
      if r6 = 0 then (
        some ((0 : Int32), σ5))
      else (
        bnd (f_M_doMeet y1 y2 σ5) (fun r8 σ7 =>
        if r8 = 0 then (
          some ((0 : Int32), σ7))
        else (
          bnd (f_M_its y1 (1 : Int32) σ7) (fun r10 σ9 =>
          bnd (f_M_its y2 (2 : Int32) σ9) (fun r12 σ11 =>
          if r10 = r12 then (
            some ((1 : Int32), σ11))
          else (
            bnd (f_M_its y2 (1 : Int32) σ11) (fun r14 σ13 =>
            bnd (f_M_its y1 (2 : Int32) σ13) (fun r16 σ15 =>
            if ¬ r14 = r16 then (
              some ((0 : Int32), σ15))
            else (
              some ((1 : Int32), σ15))))))))))))
    else (
      bnd (f_M_its y1 (2 : Int32) σ3) (fun r18 σ17 =>
      gd (ix ((14 : Int32) + r18) 340) (
      if (σ17.1 149 (nx ((14 : Int32) + r18))) ≤ 0 then (
        some ((0 : Int32), σ17))
      else (
        bnd (f_M_its y1 (1 : Int32) σ17) (fun r20 σ19 =>
        gd (ix ((14 : Int32) + r20) 340) (
        if (99 : Int32) ≤ (σ19.1 149 (nx ((14 : Int32) + r20))) then (
          some ((0 : Int32), σ19))
        else (
          bnd (f_M_its y1 (3 : Int32) σ19) (fun r22 σ21 =>
          bnd (f_M_asked y1 σ21) (fun r24 σ23 =>
          if r22 < r24 then (
            some ((0 : Int32), σ23))
          else (
            some ((1 : Int32), σ23))))))))))))
  else (
    some ((0 : Int32), σ3)))))
def f_M_nextChange_14  : Nat → Int32 → Int32 → Int32 → SG → Option (Int32 × SG)
  | 0, _, _, _, _ => none
  | n + 1, x1, x2, x3, σ =>
    if x2 ≤ x1 then (
      some ((-1 : Int32), σ))
    else (
      if x2 ≤ x3 then (
        some ((-1 : Int32), σ))
      else (
        bnd (f_M_isNumber x3 σ) (fun r2 σ1 =>
        if r2 = 0 then (
          lx (x3 + (1 : Int32)) (fun y3 =>
          f_M_nextChange_14 n x1 x2 y3 σ1))
        else (
          bnd (f_M_canBe x3 σ1) (fun r5 σ4 =>
          if r5 = 0 then (
            lx (x3 + (1 : Int32)) (fun y6 =>
            f_M_nextChange_14 n x1 x2 y6 σ4))
          else (
            some (x3, σ4)))))))
def f_M_nextChange (x1 : Int32) (σ : SG) : Option (Int32 × SG) :=
  lx ((10 : Int32) * (σ.1 149 0)) (fun y1 =>
  lx (x1 + (1 : Int32)) (fun y2 =>
  f_M_nextChange_14 FU x1 y1 y2 σ))
def f_M_cans (x1 : Int32) (σ : SG) : Option (Int32 × SG) :=
  if (-1 : Int32) ≤ x1 then (
    bnd (f_M_nextChange x1 σ) (fun r2 σ1 =>
    if 0 ≤ r2 then (
      some (r2, σ1))
    else (
      some ((-3 : Int32), σ1))))
  else (
    some ((-1 : Int32), σ))
def f_M_swaps (x1 : Int32) (x2 : Int32) (σ : SG) : Option (Unit × SG) :=
  bnd (f_M_its x1 (1 : Int32) σ) (fun r2 σ1 =>
  bnd (f_M_at x1 (1 : Int32) σ1) (fun r4 σ3 =>
  bnd (f_M_its x2 (1 : Int32) σ3) (fun r6 σ5 =>
  gd (ix r4 340) (
  sx (uI σ5 149 (nx r4) r6) (fun σ7 =>
  bnd (f_M_at x2 (1 : Int32) σ7) (fun r9 σ8 =>
  gd (ix r9 340) (
  sx (uI σ8 149 (nx r9) r2) (fun σ10 =>
  some ((), σ10)))))))))
def f_M_does (x1 : Int32) (σ : SG) : Option (Unit × SG) :=
  lx (x1 / (10 : Int32)) (fun y1 =>
  lx (x1 - x1 / (10 : Int32) * (10 : Int32)) (fun y2 =>
  bnd (f_M_its y1 (1 : Int32) σ) (fun r4 σ3 =>
  sx (uI σ3 148 6 r4) (fun σ5 =>
  sx (uI σ5 148 7 (0 : Int32)) (fun σ6 =>
  if ¬ y2 = (9 : Int32) then (
    bnd (f_M_swaps y1 y2 σ6) (fun _ σ7 =>
    some ((), σ7)))
  else (
    bnd (f_M_asked y1 σ6) (fun r9 σ8 =>
    sx (uI σ8 148 7 r9) (fun σ10 =>
    gd (ix ((14 : Int32) + (σ10.1 148 6)) 340) (
    gd (ix ((14 : Int32) + (σ10.1 148 6)) 340) (
    sx (uI σ10 149 (nx ((14 : Int32) + (σ10.1 148 6))) ((σ10.1 149 (nx ((14 : Int32) + (σ10.1 148 6)))) + (1 : Int32))) (fun σ11 =>
    bnd (f_M_its y1 (2 : Int32) σ11) (fun r13 σ12 =>
    gd (ix ((14 : Int32) + r13) 340) (
    gd (ix ((14 : Int32) + r13) 340) (
    sx (uI σ12 149 (nx ((14 : Int32) + r13)) ((σ12.1 149 (nx ((14 : Int32) + r13))) - (1 : Int32))) (fun σ14 =>
    bnd (f_M_at y1 (1 : Int32) σ14) (fun r16 σ15 =>
    bnd (f_M_its y1 (2 : Int32) σ15) (fun r18 σ17 =>
    gd (ix r16 340) (
    sx (uI σ17 149 (nx r16) r18) (fun σ19 =>
    bnd (f_M_at y1 (3 : Int32) σ19) (fun r21 σ20 =>
    gd (ix r21 340) (
    gd (ix r21 340) (
    sx (uI σ20 149 (nx r21) ((σ20.1 149 (nx r21)) - (σ20.1 148 7))) (fun σ22 =>
    some ((), σ22))))))))))))))))))))))))
def f_M_makes_55 (x1 : Int32) (σ : SG) : Option (Unit × SG) :=
  lx ((70 : Int32) + ((3 : Int32) * (σ.1 149 4))) (fun y1 =>
  lx (x1 - x1 / (10 : Int32) * (10 : Int32)) (fun y2 =>
  gd (ix y1 340) (
  sx (uI σ 149 (nx y1) x1) (fun σ3 =>
  bnd (f_M_its (x1 / (10 : Int32)) (1 : Int32) σ3) (fun r5 σ4 =>
  gd (ix (y1 + (1 : Int32)) 340) (
  sx (uI σ4 149 (nx (y1 + (1 : Int32))) r5) (fun σ6 =>
  if ¬ y2 = (9 : Int32) then (
    bnd (f_M_its y2 (1 : Int32) σ6) (fun r8 σ7 =>
    gd (ix (y1 + (2 : Int32)) 340) (
    sx (uI σ7 149 (nx (y1 + (2 : Int32))) r8) (fun σ9 =>
    sx (uI σ9 149 4 ((σ9.1 149 4) + (1 : Int32))) (fun σ10 =>
    some ((), σ10))))))
  else (
    gd (ix (y1 + (2 : Int32)) 340) (
    sx (uI σ6 149 (nx (y1 + (2 : Int32))) (σ6.1 148 6)) (fun σ11 =>
    sx (uI σ11 149 4 ((σ11.1 149 4) + (1 : Int32))) (fun σ12 =>
    some ((), σ12))))))))))))
def f_M_makes_19 (K55 : Int32 → SG → Option (Unit × SG)) : Nat → Int32 → Int32 → SG → Option (Unit × SG)
  | 0, _, _, _ => none
  | n + 1, x1, x2, σ =>
    if (103 : Int32) ≤ x2 then (
      sx (uI σ 149 4 ((σ.1 149 4) - (1 : Int32))) (fun σ1 =>
      K55 x1 σ1))
    else (
      gd (ix (x2 + (3 : Int32)) 340) (
      gd (ix x2 340) (
      sx (uI σ 149 (nx x2) (σ.1 149 (nx (x2 + (3 : Int32))))) (fun σ2 =>
      lx (x2 + (1 : Int32)) (fun y3 =>
      f_M_makes_19 K55 n x1 y3 σ2)))))
def f_M_makes (x1 : Int32) (σ : SG) : Option (Unit × SG) :=
  bnd (f_M_does x1 σ) (fun _ σ1 =>
  if ¬ (σ1.1 149 4) = (12 : Int32) then (
    f_M_makes_55 x1 σ1)
  else (
    f_M_makes_19 (f_M_makes_55) FU x1 (70 : Int32) σ1))
def f_M_make (x1 : Int32) (x2 : Int32) (σ : SG) : Option (Int32 × SG) :=
  bnd (f_M_isChange x1 x2 σ) (fun r2 σ1 =>
  if ¬ r2 = 0 then (
    bnd (f_M_canBe (((10 : Int32) * x1) + x2) σ1) (fun r4 σ3 =>
    if ¬ r4 = 0 then (
      bnd (f_M_makes (((10 : Int32) * x1) + x2) σ3) (fun _ σ5 =>
      some (σ5.1 148 7, σ5)))
    else (
      some ((-4 : Int32), σ3))))
  else (
    some ((-1 : Int32), σ1)))
def f_M_undoes (x1 : Int32) (x2 : Int32) (x3 : Int32) (σ : SG) : Option (Unit × SG) :=
  lx (x1 / (10 : Int32)) (fun y1 =>
  lx (x1 - x1 / (10 : Int32) * (10 : Int32)) (fun y2 =>
  if ¬ y2 = (9 : Int32) then (
    bnd (f_M_swaps y1 y2 σ) (fun _ σ3 =>
    some ((), σ3)))
  else (
    bnd (f_M_its y1 (1 : Int32) σ) (fun r5 σ4 =>
    gd (ix ((14 : Int32) + r5) 340) (
    gd (ix ((14 : Int32) + r5) 340) (
    sx (uI σ4 149 (nx ((14 : Int32) + r5)) ((σ4.1 149 (nx ((14 : Int32) + r5))) + (1 : Int32))) (fun σ6 =>
    gd (ix ((14 : Int32) + x2) 340) (
    gd (ix ((14 : Int32) + x2) 340) (
    sx (uI σ6 149 (nx ((14 : Int32) + x2)) ((σ6.1 149 (nx ((14 : Int32) + x2))) - (1 : Int32))) (fun σ7 =>
    bnd (f_M_at y1 (1 : Int32) σ7) (fun r9 σ8 =>
    gd (ix r9 340) (
    sx (uI σ8 149 (nx r9) x2) (fun σ10 =>
    bnd (f_M_at y1 (3 : Int32) σ10) (fun r12 σ11 =>
    gd (ix r12 340) (
    gd (ix r12 340) (
    sx (uI σ11 149 (nx r12) ((σ11.1 149 (nx r12)) + x3)) (fun σ13 =>
    some ((), σ13))))))))))))))))))
def f_M_back_66 (x1 : Int32) (x2 : Int32) (x3 : Int32) (x4 : Int32) (xs0 : Int32) (σ : SG) : Option (Int32 × SG) :=
  if ¬ x4 = (9 : Int32) then (
    if xs0 = 0 then (
      some ((-4 : Int32), σ))
    else (
      bnd (f_M_its x4 (1 : Int32) σ) (fun r2 σ1 =>
      gd (ix (x1 + (2 : Int32)) 340) (
      if r2 = (σ1.1 149 (nx (x1 + (2 : Int32)))) then (
        bnd (f_M_swaps x3 x4 σ1) (fun _ σ3 =>
        sx (uI σ3 149 4 ((σ3.1 149 4) - (1 : Int32))) (fun σ4 =>
        some (x2, σ4))))
      else (
        some ((-4 : Int32), σ1))))))
  else (
    gd (ix (x1 + (2 : Int32)) 340) (
    lx (σ.1 149 (nx (x1 + (2 : Int32)))) (fun y5 =>
    if xs0 = 0 then (
      some ((-4 : Int32), σ))
    else (
      gd (ix ((14 : Int32) + y5) 340) (
      if (σ.1 149 (nx ((14 : Int32) + y5))) = 0 then (
        some ((-4 : Int32), σ))
      else (
        bnd (f_M_its x3 (1 : Int32) σ) (fun r7 σ6 =>
        gd (ix ((14 : Int32) + r7) 340) (
        if ¬ (σ6.1 149 (nx ((14 : Int32) + r7))) = (99 : Int32) then (
          bnd (f_M_undoes x2 y5 (0 : Int32) σ6) (fun _ σ8 =>
          sx (uI σ8 149 4 ((σ8.1 149 4) - (1 : Int32))) (fun σ9 =>
          some (x2, σ9))))
        else (
          some ((-4 : Int32), σ6))))))))))
def f_M_back  (σ : SG) : Option (Int32 × SG) :=
  if ¬ (σ.1 149 4) = 0 then (
    lx (((70 : Int32) + ((3 : Int32) * (σ.1 149 4))) - (3 : Int32)) (fun y1 =>
    gd (ix y1 340) (
    lx (σ.1 149 (nx y1)) (fun y2 =>
    lx (y2 / (10 : Int32)) (fun y3 =>
    lx (y2 - y2 / (10 : Int32) * (10 : Int32)) (fun y4 =>
    bnd (f_M_its y3 (1 : Int32) σ) (fun r6 σ5 =>
    gd (ix (y1 + (1 : Int32)) 340) (
    if ¬ r6 = (σ5.1 149 (nx (y1 + (1 : Int32)))) then (
      f_M_back_66 y1 y2 y3 y4 (0 : Int32) σ5)
    else (
      f_M_back_66 y1 y2 y3 y4 (1 : Int32) σ5)))))))))
  else (
    some ((-3 : Int32), σ))
def f_M_thereSet  (σ : SG) : Option (Int32 × SG) :=
  lx (((1 : Int32) <<< ((σ.1 149 0) &&& 31)) - (1 : Int32)) (fun y1 =>
  if 0 ≤ (σ.1 148 4) then (
    some (y1 &&& (((1 : Int32) <<< ((σ.1 148 4) &&& 31)) ^^^ (-1 : Int32)), σ))
  else (
    some (y1, σ)))
def f_M_keeps_82  : Nat → Int32 → Int32 → SG → Option (Unit × SG)
  | 0, _, _, _ => none
  | n + 1, x1, x3, σ =>
    if x1 ≤ x3 then (
      some ((), σ))
    else (
      gd (ix x3 6) (
      gd (ix x3 6) (
      sx (uI σ 155 (nx x3) (σ.1 153 (nx x3))) (fun σ1 =>
      lx (x3 + (1 : Int32)) (fun y2 =>
      f_M_keeps_82 n x1 y2 σ1)))))
def f_M_keeps_55 (x1 : Int32) (x2 : Int32) (σ : SG) : Option (Unit × SG) :=
  if (σ.1 148 14) < 0 then (
    sx (uI σ 148 14 x2) (fun σ1 =>
    sx (uI σ1 148 15 x1) (fun σ2 =>
    f_M_keeps_82 FU x1 (0 : Int32) σ2)))
  else (
    if (σ.1 148 14) ≤ x2 then (
      some ((), σ))
    else (
      sx (uI σ 148 14 x2) (fun σ3 =>
      sx (uI σ3 148 15 x1) (fun σ4 =>
      f_M_keeps_82 FU x1 (0 : Int32) σ4))))
def f_M_keeps_32 (K55 : Int32 → Int32 → SG → Option (Unit × SG)) : Nat → Int32 → Int32 → Int32 → SG → Option (Unit × SG)
  | 0, _, _, _, _ => none
  | n + 1, x1, x2, x3, σ =>
    if x1 ≤ x3 then (
      K55 x1 x2 σ)
    else (
      gd (ix x3 6) (
      gd (ix x3 6) (
      sx (uI σ 154 (nx x3) (σ.1 153 (nx x3))) (fun σ1 =>
      lx (x3 + (1 : Int32)) (fun y2 =>
      f_M_keeps_32 K55 n x1 x2 y2 σ1)))))
def f_M_keeps (x1 : Int32) (x2 : Int32) (σ : SG) : Option (Unit × SG) :=
  sx (uI σ 148 11 ((σ.1 148 11) + (1 : Int32))) (fun σ1 =>
  if (σ1.1 148 13) < 0 then (
    sx (uI σ1 148 13 x1) (fun σ2 =>
    f_M_keeps_32 (f_M_keeps_55) FU x1 x2 (0 : Int32) σ2))
  else (
    if (σ1.1 148 13) ≤ x1 then (
      f_M_keeps_55 x1 x2 σ1)
    else (
      sx (uI σ1 148 13 x1) (fun σ3 =>
      f_M_keeps_32 (f_M_keeps_55) FU x1 x2 (0 : Int32) σ3))))
def f_M_goes_S_64 (fR : Int32 → Int32 → Int32 → SG → Option (Unit × SG)) : Nat → Int32 → Int32 → Int32 → Int32 → SG → Option (Unit × SG)
  | 0, _, _, _, _, _ => none
  | n + 1, x1, x2, x3, x6, σ =>
    if x6 < 0 then (
      some ((), σ))
    else (
      bnd (f_M_does x6 σ) (fun _ σ1 =>
      lx (σ1.1 148 6) (fun y2 =>
      lx (σ1.1 148 7) (fun y3 =>
      gd (ix x1 6) (
      sx (uI σ1 153 (nx x1) x6) (fun σ4 =>
      bnd (fR (x1 + (1 : Int32)) x2 (x3 + y3) σ4) (fun _ σ5 =>
      bnd (f_M_undoes x6 y2 y3 σ5) (fun _ σ6 =>
      bnd (f_M_nextChange x6 σ6) (fun r8 σ7 =>
      f_M_goes_S_64 fR n x1 x2 x3 r8 σ7)))))))))
def f_M_goes_S_32 (fR : Int32 → Int32 → Int32 → SG → Option (Unit × SG)) (x1 : Int32) (x2 : Int32) (x3 : Int32) (x4 : Int32) (xs0 : Int32) (σ : SG) : Option (Unit × SG) :=
  sx (uI σ 148 12 xs0) (fun σ1 =>
  bnd (f_M_thereSet σ1) (fun r3 σ2 =>
  if ¬ x4 = r3 then (
    if ¬ x1 = x2 then (
      bnd (f_M_nextChange (-1 : Int32) σ2) (fun r5 σ4 =>
      f_M_goes_S_64 fR FU x1 x2 x3 r5 σ4))
    else (
      some ((), σ2)))
  else (
    bnd (f_M_keeps x1 x3 σ2) (fun _ σ6 =>
    some ((), σ6)))))
def f_M_goes_S (fR : Int32 → Int32 → Int32 → SG → Option (Unit × SG)) (x1 : Int32) (x2 : Int32) (x3 : Int32) (σ : SG) : Option (Unit × SG) :=
  bnd (f_M_wholeSet σ) (fun r2 σ1 =>
  bnd (f_M_ones r2 σ1) (fun r4 σ3 =>
  if r4 ≤ (σ3.1 148 12) then (
    f_M_goes_S_32 fR x1 x2 x3 r2 (σ3.1 148 12) σ3)
  else (
    f_M_goes_S_32 fR x1 x2 x3 r2 r4 σ3)))
def f_M_goes : Nat → Int32 → Int32 → Int32 → SG → Option (Unit × SG)
  | 0, _, _, _, _ => none
  | d + 1, x0, x1, x2, σ => f_M_goes_S (f_M_goes d) x0 x1 x2 σ
def f_M_goesAll (x1 : Int32) (σ : SG) : Option (Unit × SG) :=
  sx (uI σ 148 11 (0 : Int32)) (fun σ1 =>
  sx (uI σ1 148 12 (0 : Int32)) (fun σ2 =>
  sx (uI σ2 148 13 (-1 : Int32)) (fun σ3 =>
  sx (uI σ3 148 14 (-1 : Int32)) (fun σ4 =>
  bnd (f_M_goes DP (0 : Int32) x1 (0 : Int32) σ4) (fun _ σ5 =>
  some ((), σ5))))))
def f_M_fewest  (σ : SG) : Option (Int32 × SG) :=
  bnd (f_M_goesAll (6 : Int32) σ) (fun _ σ1 =>
  if 0 ≤ (σ1.1 148 13) then (
    some (σ1.1 148 13, σ1))
  else (
    some ((-3 : Int32), σ1)))
def f_M_isPlace (x0 : Int32) (σ : SG) : Option (Int32 × SG) :=
  bnd (f_M_in x0.toInt64 (0 : Int64) (5 : Int64) σ) (fun r2 σ1 =>
  gd (r2 = 0 ∨ r2 = 1) (some (r2, σ1)))
def f_M_ith (x1 : Int32) (σ : SG) : Option (Int32 × SG) :=
  bnd (f_M_isPlace x1 σ) (fun r2 σ1 =>
  if ¬ r2 = 0 then (
    bnd (f_M_goesAll (6 : Int32) σ1) (fun _ σ3 =>
    if (σ3.1 148 13) ≤ x1 then (
      some ((-3 : Int32), σ3))
    else (
      gd (ix x1 6) (
      some (σ3.1 154 (nx x1), σ3)))))
  else (
    some ((-1 : Int32), σ1)))
def f_M_isLong (x0 : Int32) (σ : SG) : Option (Int32 × SG) :=
  bnd (f_M_in x0.toInt64 (0 : Int64) (6 : Int64) σ) (fun r2 σ1 =>
  gd (r2 = 0 ∨ r2 = 1) (some (r2, σ1)))
def f_M_ways (x1 : Int32) (σ : SG) : Option (Int32 × SG) :=
  bnd (f_M_isLong x1 σ) (fun r2 σ1 =>
  if ¬ r2 = 0 then (
    bnd (f_M_goesAll x1 σ1) (fun _ σ3 =>
    some (σ3.1 148 11, σ3)))
  else (
    some ((-1 : Int32), σ1)))
def f_M_most (x1 : Int32) (σ : SG) : Option (Int32 × SG) :=
  bnd (f_M_isLong x1 σ) (fun r2 σ1 =>
  if ¬ r2 = 0 then (
    bnd (f_M_goesAll x1 σ1) (fun _ σ3 =>
    some (σ3.1 148 12, σ3)))
  else (
    some ((-1 : Int32), σ1)))
def f_M_cheapest (x1 : Int32) (σ : SG) : Option (Int32 × SG) :=
  bnd (f_M_isLong x1 σ) (fun r2 σ1 =>
  if ¬ r2 = 0 then (
    bnd (f_M_goesAll x1 σ1) (fun _ σ3 =>
    if 0 ≤ (σ3.1 148 14) then (
      some (σ3.1 148 14, σ3))
    else (
      some ((-3 : Int32), σ3))))
  else (
    some ((-1 : Int32), σ1)))
def f_M_cheaply (x1 : Int32) (x2 : Int32) (σ : SG) : Option (Int32 × SG) :=
  bnd (f_M_isLong x1 σ) (fun r2 σ1 =>
  if r2 = 0 then (
    some ((-1 : Int32), σ1))
  else (
    bnd (f_M_isPlace x2 σ1) (fun r4 σ3 =>
    if ¬ r4 = 0 then (
      bnd (f_M_goesAll x1 σ3) (fun _ σ5 =>
      if (σ5.1 148 14) < 0 then (
        some ((-3 : Int32), σ5))
      else (
        if (σ5.1 148 15) ≤ x2 then (
          some ((-3 : Int32), σ5))
        else (
          gd (ix x2 6) (
          some (σ5.1 155 (nx x2), σ5))))))
    else (
      some ((-1 : Int32), σ3)))))
def f_M_bars_10  : Nat → Int32 → Int32 → SG → Option (Int32 × SG)
  | 0, _, _, _ => none
  | n + 1, x1, x2, σ =>
    if (σ.1 149 0) ≤ x2 then (
      some (x1, σ))
    else (
      if ¬ (σ.1 148 11) = 0 then (
        some (x1, σ))
      else (
        sx (uI σ 148 4 x2) (fun σ1 =>
        bnd (f_M_goesAll (6 : Int32) σ1) (fun _ σ2 =>
        if (σ2.1 148 11) ≤ 0 then (
          lx (x1 ||| (0 : Int32)) (fun y3 =>
          sx (uI σ2 148 4 (-1 : Int32)) (fun σ4 =>
          sx (uI σ4 148 11 (0 : Int32)) (fun σ5 =>
          lx (x2 + (1 : Int32)) (fun y6 =>
          f_M_bars_10 n y3 y6 σ5)))))
        else (
          lx (x1 ||| ((1 : Int32) <<< (x2 &&& 31))) (fun y7 =>
          sx (uI σ2 148 4 (-1 : Int32)) (fun σ8 =>
          sx (uI σ8 148 11 (0 : Int32)) (fun σ9 =>
          lx (x2 + (1 : Int32)) (fun y10 =>
          f_M_bars_10 n y7 y10 σ9)))))))))
def f_M_bars  (σ : SG) : Option (Int32 × SG) :=
  bnd (f_M_goesAll (6 : Int32) σ) (fun _ σ1 =>
  f_M_bars_10 FU (0 : Int32) (0 : Int32) σ1)
def f_M_jars_67 (K16 : Int32 → Int32 → Int32 → SG → Option (Int32 × SG)) (x1 : Int32) (x3 : Int32) (xs0 : Int32) (σ : SG) : Option (Int32 × SG) :=
  if (σ.1 148 12) ≤ x1 then (
    lx (x3 + (1 : Int32)) (fun y1 =>
    K16 x1 xs0 y1 σ))
  else (
    lx (σ.1 148 12) (fun y2 =>
    lx (x3 + (1 : Int32)) (fun y3 =>
    K16 y2 xs0 y3 σ)))
def f_M_jars_16  : Nat → Int32 → Int32 → Int32 → SG → Option (Int32 × SG)
  | 0, _, _, _, _ => none
  | n + 1, x1, x2, x3, σ =>
    if (8 : Int32) ≤ x3 then (
      some (x2, σ))
    else (
      gd (ix ((14 : Int32) + x3) 340) (
      gd (ix ((14 : Int32) + x3) 340) (
      sx (uI σ 149 (nx ((14 : Int32) + x3)) ((σ.1 149 (nx ((14 : Int32) + x3))) + (1 : Int32))) (fun σ1 =>
      bnd (f_M_goesAll (6 : Int32) σ1) (fun _ σ2 =>
      gd (ix ((14 : Int32) + x3) 340) (
      gd (ix ((14 : Int32) + x3) 340) (
      sx (uI σ2 149 (nx ((14 : Int32) + x3)) ((σ2.1 149 (nx ((14 : Int32) + x3))) - (1 : Int32))) (fun σ3 =>
      if (σ3.1 148 12) ≤ x1 then (
        f_M_jars_67 (f_M_jars_16 n) x1 x3 x2 σ3)
      else (
        f_M_jars_67 (f_M_jars_16 n) x1 x3 x3 σ3)))))))))
def f_M_jars  (σ : SG) : Option (Int32 × SG) :=
  bnd (f_M_goesAll (6 : Int32) σ) (fun _ σ1 =>
  lx (σ1.1 148 12) (fun y2 =>
  f_M_jars_16 FU y2 (-3 : Int32) (0 : Int32) σ1))
def f_M_feeFor_28  : Nat → Int32 → Int32 → Int32 → Int32 → SG → Option (Int32 × SG)
  | 0, _, _, _, _, _ => none
  | n + 1, x1, x2, x3, x4, σ =>
    if x4 < 0 then (
      sx (uI σ 149 2 x2) (fun σ1 =>
      some (x3, σ1)))
    else (
      if 0 ≤ x3 then (
        sx (uI σ 149 2 x2) (fun σ2 =>
        some (x3, σ2)))
      else (
        sx (uI σ 149 2 x4) (fun σ3 =>
        bnd (f_M_goesAll x1 σ3) (fun _ σ4 =>
        if (σ4.1 148 11) ≤ 0 then (
          lx (x4 + (-1 : Int32)) (fun y5 =>
          f_M_feeFor_28 n x1 x2 (-3 : Int32) y5 σ4))
        else (
          lx (x4 + (-1 : Int32)) (fun y6 =>
          f_M_feeFor_28 n x1 x2 x4 y6 σ4))))))
def f_M_feeFor (x1 : Int32) (σ : SG) : Option (Int32 × SG) :=
  bnd (f_M_in x1.toInt64 (1 : Int64) (6 : Int64) σ) (fun r2 σ1 =>
  if ¬ r2 = 0 then (
    lx (σ1.1 149 2) (fun y3 =>
    f_M_feeFor_28 FU x1 y3 (-3 : Int32) (50 : Int32) σ1))
  else (
    some ((-1 : Int32), σ1)))
def f_M_isLink (x1 : Int32) (x2 : Int32) (σ : SG) : Option (Int32 × SG) :=
  bnd (f_M_doMeet x1 x2 σ) (fun r2 σ1 =>
  if r2 = 0 then (
    some ((0 : Int32), σ1))
  else (
    bnd (f_M_its x1 (2 : Int32) σ1) (fun r4 σ3 =>
    bnd (f_M_its x2 (1 : Int32) σ3) (fun r6 σ5 =>
    if ¬ r4 = r6 then (
      some ((0 : Int32), σ5))
    else (
      some ((1 : Int32), σ5))))))
def f_M_circles_S_33 (fR : Int32 → Int32 → Int32 → SG → Option (Unit × SG)) : Nat → Int32 → Int32 → SG → Option (Unit × SG)
  | 0, _, _, _ => none
  | n + 1, x3, x5, σ =>
    if x3 ≤ x5 then (
      sx (uI σ 148 18 ((σ.1 148 18) + (1 : Int32))) (fun σ1 =>
      some ((), σ1)))
    else (
      if ¬ (σ.1 148 18) = 0 then (
        sx (uI σ 148 18 ((σ.1 148 18) + (1 : Int32))) (fun σ2 =>
        some ((), σ2)))
      else (
        gd (ix x5 6) (
        gd (ix x5 6) (
        sx (uI σ 157 (nx x5) (σ.1 156 (nx x5))) (fun σ3 =>
        lx (x5 + (1 : Int32)) (fun y4 =>
        f_M_circles_S_33 fR n x3 y4 σ3))))))
def f_M_circles_S_87 (fR : Int32 → Int32 → Int32 → SG → Option (Unit × SG)) : Nat → Int32 → Int32 → Int32 → Int32 → Int32 → SG → Option (Unit × SG)
  | 0, _, _, _, _, _, _ => none
  | n + 1, x1, x2, x3, x4, x5, σ =>
    if (σ.1 149 0) ≤ x5 then (
      some ((), σ))
    else (
      if ¬ ((x2 >>> (x5 &&& 31)) &&& (1 : Int32)) = 0 then (
        lx (x5 + (1 : Int32)) (fun y1 =>
        f_M_circles_S_87 fR n x1 x2 x3 x4 y1 σ))
      else (
        bnd (f_M_isWhole x5 σ) (fun r3 σ2 =>
        if ¬ r3 = 0 then (
          lx (x5 + (1 : Int32)) (fun y4 =>
          f_M_circles_S_87 fR n x1 x2 x3 x4 y4 σ2))
        else (
          bnd (f_M_isLink x4 x5 σ2) (fun r6 σ5 =>
          if r6 = 0 then (
            lx (x5 + (1 : Int32)) (fun y7 =>
            f_M_circles_S_87 fR n x1 x2 x3 x4 y7 σ5))
          else (
            gd (ix x1 6) (
            sx (uI σ5 156 (nx x1) x5) (fun σ8 =>
            bnd (fR (x1 + (1 : Int32)) (x2 ||| ((1 : Int32) <<< (x5 &&& 31))) x3 σ8) (fun _ σ9 =>
            lx (x5 + (1 : Int32)) (fun y10 =>
            f_M_circles_S_87 fR n x1 x2 x3 x4 y10 σ9))))))))))
def f_M_circles_S (fR : Int32 → Int32 → Int32 → SG → Option (Unit × SG)) (x1 : Int32) (x2 : Int32) (x3 : Int32) (σ : SG) : Option (Unit × SG) :=
  gd (ix (x1 - (1 : Int32)) 6) (
  lx (σ.1 156 (nx (x1 - (1 : Int32)))) (fun y1 =>
  if ¬ x1 = x3 then (
    lx ((σ.1 156 0) + (1 : Int32)) (fun y2 =>
    f_M_circles_S_87 fR FU x1 x2 x3 y1 y2 σ))
  else (
    bnd (f_M_isLink y1 (σ.1 156 0) σ) (fun r4 σ3 =>
    if r4 = 0 then (
      some ((), σ3))
    else (
      f_M_circles_S_33 fR FU x3 (0 : Int32) σ3)))))
def f_M_circles : Nat → Int32 → Int32 → Int32 → SG → Option (Unit × SG)
  | 0, _, _, _, _ => none
  | d + 1, x0, x1, x2, σ => f_M_circles_S (f_M_circles d) x0 x1 x2 σ
def f_M_findRings_7  : Nat → Int32 → Int32 → SG → Option (Unit × SG)
  | 0, _, _, _ => none
  | n + 1, x1, x2, σ =>
    if (σ.1 149 0) ≤ x2 then (
      some ((), σ))
    else (
      bnd (f_M_isWhole x2 σ) (fun r2 σ1 =>
      if ¬ r2 = 0 then (
        lx (x2 + (1 : Int32)) (fun y3 =>
        f_M_findRings_7 n x1 y3 σ1))
      else (
        sx (uI σ1 156 0 x2) (fun σ4 =>
        bnd (f_M_circles DP (1 : Int32) ((1 : Int32) <<< (x2 &&& 31)) x1 σ4) (fun _ σ5 =>
        lx (x2 + (1 : Int32)) (fun y6 =>
        f_M_findRings_7 n x1 y6 σ5))))))
def f_M_findRings (x1 : Int32) (σ : SG) : Option (Unit × SG) :=
  sx (uI σ 148 18 (0 : Int32)) (fun σ1 =>
  f_M_findRings_7 FU x1 (0 : Int32) σ1)
def f_M_rings (x1 : Int32) (σ : SG) : Option (Int32 × SG) :=
  bnd (f_M_in x1.toInt64 (2 : Int64) (6 : Int64) σ) (fun r2 σ1 =>
  if ¬ r2 = 0 then (
    bnd (f_M_findRings x1 σ1) (fun _ σ3 =>
    some (σ3.1 148 18, σ3)))
  else (
    some ((-1 : Int32), σ1)))
def f_M_ring (x1 : Int32) (x2 : Int32) (σ : SG) : Option (Int32 × SG) :=
  bnd (f_M_in x1.toInt64 (2 : Int64) (6 : Int64) σ) (fun r2 σ1 =>
  if r2 = 0 then (
    some ((-1 : Int32), σ1))
  else (
    bnd (f_M_in x2.toInt64 (0 : Int64) ((x1 - (1 : Int32)).toInt64) σ1) (fun r4 σ3 =>
    if ¬ r4 = 0 then (
      bnd (f_M_findRings x1 σ3) (fun _ σ5 =>
      if ¬ (σ5.1 148 18) = 0 then (
        gd (ix x2 6) (
        some (σ5.1 157 (nx x2), σ5)))
      else (
        some ((-3 : Int32), σ5))))
    else (
      some ((-1 : Int32), σ3)))))
def f_M_isBarter (x1 : Int32) (x2 : Int32) (σ : SG) : Option (Int32 × SG) :=
  bnd (f_M_isPerson x1 σ) (fun r2 σ1 =>
  if r2 = 0 then (
    some ((0 : Int32), σ1))
  else (
    bnd (f_M_in x2.toInt64 (0 : Int64) (4 : Int64) σ1) (fun r4 σ3 =>
    if r4 = 0 then (
      some ((0 : Int32), σ3))
    else (
      some ((1 : Int32), σ3)))))
def f_M_barters_S_22 (fR : Int32 → Int32 → SG → Option (Unit × SG)) : Nat → Int32 → Int32 → Int32 → Int32 → SG → Option (Unit × SG)
  | 0, _, _, _, _, _ => none
  | n + 1, x1, x2, x3, x4, σ =>
    if (σ.1 149 0) ≤ x4 then (
      some ((), σ))
    else (
      if x2 ≤ 0 then (
        some ((), σ))
      else (
        bnd (f_M_its x4 (1 : Int32) σ) (fun r2 σ1 =>
        bnd (f_M_doMeet x1 x4 σ1) (fun r4 σ3 =>
        if r4 = 0 then (
          lx (x4 + (1 : Int32)) (fun y5 =>
          f_M_barters_S_22 fR n x1 x2 x3 y5 σ3))
        else (
          if r2 = x3 then (
            lx (x4 + (1 : Int32)) (fun y6 =>
            f_M_barters_S_22 fR n x1 x2 x3 y6 σ3))
          else (
            gd (ix ((6 : Int32) + x3) 340) (
            gd (ix ((6 : Int32) + r2) 340) (
            if (σ3.1 149 (nx ((6 : Int32) + x3))) < (σ3.1 149 (nx ((6 : Int32) + r2))) then (
              lx (x4 + (1 : Int32)) (fun y7 =>
              f_M_barters_S_22 fR n x1 x2 x3 y7 σ3))
            else (
              bnd (f_M_swaps x1 x4 σ3) (fun _ σ8 =>
              bnd (fR x1 (x2 - (1 : Int32)) σ8) (fun _ σ9 =>
              bnd (f_M_swaps x1 x4 σ9) (fun _ σ10 =>
              lx (x4 + (1 : Int32)) (fun y11 =>
              f_M_barters_S_22 fR n x1 x2 x3 y11 σ10)))))))))))))
def f_M_barters_S (fR : Int32 → Int32 → SG → Option (Unit × SG)) (x1 : Int32) (x2 : Int32) (σ : SG) : Option (Unit × SG) :=
  bnd (f_M_its x1 (1 : Int32) σ) (fun r2 σ1 =>
  sx (uI σ1 148 19 ((σ1.1 148 19) ||| ((1 : Int32) <<< (r2 &&& 31)))) (fun σ3 =>
  f_M_barters_S_22 fR FU x1 x2 r2 (0 : Int32) σ3))
def f_M_barters : Nat → Int32 → Int32 → SG → Option (Unit × SG)
  | 0, _, _, _ => none
  | d + 1, x0, x1, σ => f_M_barters_S (f_M_barters d) x0 x1 σ
def f_M_comes (x1 : Int32) (x2 : Int32) (σ : SG) : Option (Int32 × SG) :=
  bnd (f_M_isBarter x1 x2 σ) (fun r2 σ1 =>
  if ¬ r2 = 0 then (
    sx (uI σ1 148 19 (0 : Int32)) (fun σ3 =>
    bnd (f_M_barters DP x1 x2 σ3) (fun _ σ4 =>
    some (σ4.1 148 19, σ4))))
  else (
    some ((-1 : Int32), σ1)))
def f_M_dearest_27  : Nat → Int32 → Int32 → SG → Option (Int32 × SG)
  | 0, _, _, _ => none
  | n + 1, x3, x4, σ =>
    if (8 : Int32) ≤ x4 then (
      some (x3, σ))
    else (
      if ¬ (((σ.1 148 19) >>> (x4 &&& 31)) &&& (1 : Int32)) = (1 : Int32) then (
        lx (x4 + (1 : Int32)) (fun y1 =>
        f_M_dearest_27 n x3 y1 σ))
      else (
        if x3 < 0 then (
          lx (x4 + (1 : Int32)) (fun y2 =>
          f_M_dearest_27 n x4 y2 σ))
        else (
          gd (ix ((6 : Int32) + x4) 340) (
          gd (ix ((6 : Int32) + x3) 340) (
          if (σ.1 149 (nx ((6 : Int32) + x4))) ≤ (σ.1 149 (nx ((6 : Int32) + x3))) then (
            lx (x4 + (1 : Int32)) (fun y3 =>
            f_M_dearest_27 n x3 y3 σ))
          else (
            lx (x4 + (1 : Int32)) (fun y4 =>
            f_M_dearest_27 n x4 y4 σ)))))))
def f_M_dearest (x1 : Int32) (x2 : Int32) (σ : SG) : Option (Int32 × SG) :=
  bnd (f_M_isBarter x1 x2 σ) (fun r2 σ1 =>
  if ¬ r2 = 0 then (
    sx (uI σ1 148 19 (0 : Int32)) (fun σ3 =>
    bnd (f_M_barters DP x1 x2 σ3) (fun _ σ4 =>
    f_M_dearest_27 FU (-1 : Int32) (0 : Int32) σ4)))
  else (
    some ((-1 : Int32), σ1)))
def f_M_isGame (x0 : Int32) (σ : SG) : Option (Int32 × SG) :=
  bnd (f_M_in x0.toInt64 (1 : Int64) (6 : Int64) σ) (fun r2 σ1 =>
  gd (r2 = 0 ∨ r2 = 1) (some (r2, σ1)))
def f_M_turned (x0 : Int32) (σ : SG) : Option (Int32 × SG) :=
  if ¬ x0 = (2 : Int32) then (
    some ((1 : Int32) - x0, σ))
  else (
    some ((2 : Int32), σ))
def f_M_valueBy (fR : Int32 → SG → Option (Int32 × SG)) (x1 : Int32) (x2 : Int32) (σ : SG) : Option (Int32 × SG) :=
  bnd (f_M_does x1 σ) (fun _ σ1 =>
  lx (σ1.1 148 6) (fun y2 =>
  lx (σ1.1 148 7) (fun y3 =>
  bnd (fR (x2 - (1 : Int32)) σ1) (fun r5 σ4 =>
  bnd (f_M_turned r5 σ4) (fun r7 σ6 =>
  bnd (f_M_undoes x1 y2 y3 σ6) (fun _ σ8 =>
  some (r7, σ8)))))))
def f_M_valueOf_S_14 (fR : Int32 → SG → Option (Int32 × SG)) : Nat → Int32 → Int32 → Int32 → SG → Option (Int32 × SG)
  | 0, _, _, _, _ => none
  | n + 1, x1, x2, x3, σ =>
    if x3 < 0 then (
      some (x2, σ))
    else (
      if x2 = 0 then (
        some (x2, σ))
      else (
        bnd (f_M_valueBy fR x3 x1 σ) (fun r2 σ1 =>
        if ¬ r2 = 0 then (
          if ¬ r2 = (2 : Int32) then (
            bnd (f_M_nextChange x3 σ1) (fun r4 σ3 =>
            f_M_valueOf_S_14 fR n x1 x2 r4 σ3))
          else (
            bnd (f_M_nextChange x3 σ1) (fun r6 σ5 =>
            f_M_valueOf_S_14 fR n x1 (2 : Int32) r6 σ5)))
        else (
          bnd (f_M_nextChange x3 σ1) (fun r8 σ7 =>
          f_M_valueOf_S_14 fR n x1 (0 : Int32) r8 σ7)))))
def f_M_valueOf_S (fR : Int32 → SG → Option (Int32 × SG)) (x1 : Int32) (σ : SG) : Option (Int32 × SG) :=
  if ¬ x1 = 0 then (
    bnd (f_M_nextChange (-1 : Int32) σ) (fun r2 σ1 =>
    f_M_valueOf_S_14 fR FU x1 (1 : Int32) r2 σ1))
  else (
    some ((2 : Int32), σ))
def f_M_valueOf : Nat → Int32 → SG → Option (Int32 × SG)
  | 0, _, _ => none
  | d + 1, x0, σ => f_M_valueOf_S (f_M_valueOf d) x0 σ
def f_M_game (x1 : Int32) (σ : SG) : Option (Int32 × SG) :=
  bnd (f_M_isGame x1 σ) (fun r2 σ1 =>
  if r2 = 0 then (
    some ((-1 : Int32), σ1))
  else (
    bnd (f_M_valueOf DP x1 σ1) (fun r4 σ3 =>
    some (r4, σ3))))
def f_M_play_21  : Nat → Int32 → Int32 → Int32 → SG → Option (Int32 × SG)
  | 0, _, _, _, _ => none
  | n + 1, x1, x2, x3, σ =>
    if x3 < 0 then (
      some ((-3 : Int32), σ))
    else (
      bnd (f_M_valueBy (f_M_valueOf DP) x3 x1 σ) (fun r2 σ1 =>
      if ¬ r2 = x2 then (
        bnd (f_M_nextChange x3 σ1) (fun r4 σ3 =>
        f_M_play_21 n x1 x2 r4 σ3))
      else (
        some (x3, σ1))))
def f_M_play (x1 : Int32) (σ : SG) : Option (Int32 × SG) :=
  bnd (f_M_isGame x1 σ) (fun r2 σ1 =>
  if ¬ r2 = 0 then (
    bnd (f_M_valueOf DP x1 σ1) (fun r4 σ3 =>
    bnd (f_M_nextChange (-1 : Int32) σ3) (fun r6 σ5 =>
    f_M_play_21 FU x1 r4 r6 σ5)))
  else (
    some ((-1 : Int32), σ1)))
def f_M_report (x1 : Int32) (x2 : Int32) (x3 : Int32) (σ : SG) : Option (Int32 × SG) :=
  bnd (f_M_in x1.toInt64 (0 : Int64) (99 : Int64) σ) (fun r2 σ1 =>
  if r2 = 0 then (
    some ((-1 : Int32), σ1))
  else (
    bnd (f_M_in x2.toInt64 (0 : Int64) (99 : Int64) σ1) (fun r4 σ3 =>
    if r4 = 0 then (
      some ((-1 : Int32), σ3))
    else (
      bnd (f_M_in x3.toInt64 (0 : Int64) (999 : Int64) σ3) (fun r6 σ5 =>
      if ¬ r6 = 0 then (
        if ¬ (σ5.1 149 3) = (6 : Int32) then (
          lx ((52 : Int32) + ((3 : Int32) * (σ5.1 149 3))) (fun y7 =>
          gd (ix y7 340) (
          sx (uI σ5 149 (nx y7) x1) (fun σ8 =>
          gd (ix (y7 + (1 : Int32)) 340) (
          sx (uI σ8 149 (nx (y7 + (1 : Int32))) x2) (fun σ9 =>
          gd (ix (y7 + (2 : Int32)) 340) (
          sx (uI σ9 149 (nx (y7 + (2 : Int32))) x3) (fun σ10 =>
          sx (uI σ10 149 3 ((σ10.1 149 3) + (1 : Int32))) (fun σ11 =>
          some ((σ11.1 149 3) - (1 : Int32), σ11))))))))))
        else (
          some ((-2 : Int32), σ5)))
      else (
        some ((-1 : Int32), σ5)))))))
def f_M_forget  (σ : SG) : Option (Int32 × SG) :=
  bnd (f_M_becomes (3 : Int32) (0 : Int32) σ) (fun r2 σ1 =>
  some (r2, σ1))
def f_M_isFit_3  : Nat → Int32 → Int32 → Int32 → Int32 → SG → Option (Int32 × SG)
  | 0, _, _, _, _, _ => none
  | n + 1, x1, x2, x3, x4, σ =>
    if (σ.1 149 3) ≤ x4 then (
      some ((1 : Int32), σ))
    else (
      lx ((52 : Int32) + ((3 : Int32) * x4)) (fun y1 =>
      if x4 = x3 then (
        lx (x4 + (1 : Int32)) (fun y2 =>
        f_M_isFit_3 n x1 x2 x3 y2 σ))
      else (
        gd (ix (y1 + (1 : Int32)) 340) (
        gd (ix y1 340) (
        bnd (f_M_atLeast ((σ.1 149 (nx (y1 + (1 : Int32)))) - (σ.1 149 (nx y1))) σ) (fun r4 σ3 =>
        gd (ix (y1 + (2 : Int32)) 340) (
        if ((x1 * r4) + x2) = (σ3.1 149 (nx (y1 + (2 : Int32)))) then (
          lx (x4 + (1 : Int32)) (fun y5 =>
          f_M_isFit_3 n x1 x2 x3 y5 σ3))
        else (
          some ((0 : Int32), σ3)))))))))
def f_M_isFit (x1 : Int32) (x2 : Int32) (x3 : Int32) (σ : SG) : Option (Int32 × SG) :=
  f_M_isFit_3 FU x1 x2 x3 (0 : Int32) σ
def f_M_findFits_46 (K14 : Int32 → Int32 → Int32 → SG → Option (Unit × SG)) (x1 : Int32) (x2 : Int32) (x3 : Int32) (xs0 : Int32) (σ : SG) : Option (Unit × SG) :=
  sx (uI σ 148 21 xs0) (fun σ1 =>
  if ¬ (σ1.1 148 20) = 0 then (
    sx (uI σ1 148 22 (σ1.1 148 22)) (fun σ2 =>
    sx (uI σ2 148 20 ((σ2.1 148 20) + (1 : Int32))) (fun σ3 =>
    lx (x3 + (1 : Int32)) (fun y4 =>
    K14 x1 x2 y4 σ3))))
  else (
    sx (uI σ1 148 22 x3) (fun σ5 =>
    sx (uI σ5 148 20 ((σ5.1 148 20) + (1 : Int32))) (fun σ6 =>
    lx (x3 + (1 : Int32)) (fun y7 =>
    K14 x1 x2 y7 σ6)))))
def f_M_findFits_14 (K7 : Int32 → Int32 → SG → Option (Unit × SG)) : Nat → Int32 → Int32 → Int32 → SG → Option (Unit × SG)
  | 0, _, _, _, _ => none
  | n + 1, x1, x2, x3, σ =>
    if (50 : Int32) < x3 then (
      lx (x2 + (1 : Int32)) (fun y1 =>
      K7 x1 y1 σ))
    else (
      bnd (f_M_isFit x2 x3 x1 σ) (fun r3 σ2 =>
      if r3 = 0 then (
        lx (x3 + (1 : Int32)) (fun y4 =>
        f_M_findFits_14 K7 n x1 x2 y4 σ2))
      else (
        if ¬ (σ2.1 148 20) = 0 then (
          f_M_findFits_46 (f_M_findFits_14 K7 n) x1 x2 x3 (σ2.1 148 21) σ2)
        else (
          f_M_findFits_46 (f_M_findFits_14 K7 n) x1 x2 x3 x2 σ2))))
def f_M_findFits_7  : Nat → Int32 → Int32 → SG → Option (Unit × SG)
  | 0, _, _, _ => none
  | n + 1, x1, x2, σ =>
    if (4 : Int32) ≤ x2 then (
      some ((), σ))
    else (
      f_M_findFits_14 (f_M_findFits_7 n) FU x1 x2 (0 : Int32) σ)
def f_M_findFits (x1 : Int32) (σ : SG) : Option (Unit × SG) :=
  sx (uI σ 148 20 (0 : Int32)) (fun σ1 =>
  f_M_findFits_7 FU x1 (0 : Int32) σ1)
def f_M_span (x1 : Int32) (σ : SG) : Option (Int32 × SG) :=
  bnd (f_M_in x1.toInt64 (0 : Int64) (2 : Int64) σ) (fun r2 σ1 =>
  if ¬ r2 = 0 then (
    bnd (f_M_findFits (-1 : Int32) σ1) (fun _ σ3 =>
    if ¬ x1 = 0 then (
      if ¬ (σ3.1 148 20) = 0 then (
        if ¬ x1 = (1 : Int32) then (
          some (σ3.1 148 22, σ3))
        else (
          some (σ3.1 148 21, σ3)))
      else (
        some ((-3 : Int32), σ3)))
    else (
      some (σ3.1 148 20, σ3))))
  else (
    some ((-1 : Int32), σ1)))
def f_M_liar_20  : Nat → Int32 → Int32 → SG → Option (Int32 × SG)
  | 0, _, _, _ => none
  | n + 1, x1, x2, σ =>
    if (σ.1 149 3) ≤ x2 then (
      some ((-3 : Int32), σ))
    else (
      if x1 = 0 then (
        some ((-3 : Int32), σ))
      else (
        bnd (f_M_findFits x2 σ) (fun _ σ1 =>
        if (σ1.1 148 20) ≤ 0 then (
          lx (x2 + (1 : Int32)) (fun y2 =>
          f_M_liar_20 n x1 y2 σ1))
        else (
          some (x2, σ1)))))
def f_M_liar  (σ : SG) : Option (Int32 × SG) :=
  bnd (f_M_findFits (-1 : Int32) σ) (fun _ σ1 =>
  if ¬ (σ1.1 148 20) = 0 then (
    f_M_liar_20 FU (0 : Int32) (0 : Int32) σ1)
  else (
    f_M_liar_20 FU (1 : Int32) (0 : Int32) σ1))
def f_M_seed (x1 : Int32) (σ : SG) : Option (Int32 × SG) :=
  lx (σ.1 149 5) (fun y1 =>
  sx (uI σ 149 5 x1) (fun σ2 =>
  some (y1, σ2)))
def f_M_drawn_68  : Nat → Int32 → Int32 → SG → Option (Int32 × SG)
  | 0, _, _, _ => none
  | n + 1, x2, x3, σ =>
    if x2 ≤ 0 then (
      some (x3, σ))
    else (
      bnd (f_M_nextChange x3 σ) (fun r2 σ1 =>
      lx (x2 + (-1 : Int32)) (fun y3 =>
      f_M_drawn_68 n y3 r2 σ1)))
def f_M_drawn_8  : Nat → Int32 → Int32 → SG → Option (Int32 × SG)
  | 0, _, _, _ => none
  | n + 1, x1, x2, σ =>
    if x2 < 0 then (
      if ¬ x1 = 0 then (
        sx (uI σ 149 5 (((σ.1 149 5) * (1103515245 : Int32)) + (12345 : Int32))) (fun σ1 =>
        gd (¬ x1 = 0) (
        lx ((ush (σ1.1 149 5) (16 : Int32)) - (ush (σ1.1 149 5) (16 : Int32)) / x1 * x1) (fun y2 =>
        bnd (f_M_nextChange (-1 : Int32) σ1) (fun r4 σ3 =>
        f_M_drawn_68 FU y2 r4 σ3)))))
      else (
        some ((-1 : Int32), σ)))
    else (
      lx (x1 + (1 : Int32)) (fun y5 =>
      bnd (f_M_nextChange x2 σ) (fun r7 σ6 =>
      f_M_drawn_8 n y5 r7 σ6)))
def f_M_drawn  (σ : SG) : Option (Int32 × SG) :=
  bnd (f_M_nextChange (-1 : Int32) σ) (fun r2 σ1 =>
  f_M_drawn_8 FU (0 : Int32) r2 σ1)
def f_M_draw  (σ : SG) : Option (Int32 × SG) :=
  bnd (f_M_drawn σ) (fun r2 σ1 =>
  if 0 ≤ r2 then (
    bnd (f_M_makes r2 σ1) (fun _ σ3 =>
    some (r2, σ3)))
  else (
    some ((-3 : Int32), σ1)))
def f_M_putsBack_2  : Nat → Int32 → SG → Option (Unit × SG)
  | 0, _, _ => none
  | n + 1, x1, σ =>
    if (340 : Int32) ≤ x1 then (
      some ((), σ))
    else (
      gd (ix x1 340) (
      gd (ix x1 340) (
      sx (uI σ 149 (nx x1) (σ.1 151 (nx x1))) (fun σ1 =>
      lx (x1 + (1 : Int32)) (fun y2 =>
      f_M_putsBack_2 n y2 σ1)))))
def f_M_putsBack  (σ : SG) : Option (Unit × SG) :=
  f_M_putsBack_2 FU (0 : Int32) σ
def f_M_puts_2  : Nat → Int32 → SG → Option (Unit × SG)
  | 0, _, _ => none
  | n + 1, x1, σ =>
    if (340 : Int32) ≤ x1 then (
      some ((), σ))
    else (
      gd (ix x1 340) (
      gd (ix x1 340) (
      sx (uI σ 151 (nx x1) (σ.1 149 (nx x1))) (fun σ1 =>
      lx (x1 + (1 : Int32)) (fun y2 =>
      f_M_puts_2 n y2 σ1)))))
def f_M_puts  (σ : SG) : Option (Unit × SG) :=
  f_M_puts_2 FU (0 : Int32) σ
def f_M_often_70 (K22 : Int32 → Int32 → Int32 → SG → Option (Int32 × SG)) (x1 : Int32) (x3 : Int32) (xs0 : Int32) (xs1 : Int32) (σ : SG) : Option (Int32 × SG) :=
  lx (xs1 + xs0) (fun y1 =>
  lx (σ.1 149 5) (fun y2 =>
  bnd (f_M_putsBack σ) (fun _ σ3 =>
  sx (uI σ3 149 5 y2) (fun σ4 =>
  lx (x3 + (1 : Int32)) (fun y5 =>
  K22 x1 y1 y5 σ4)))))
def f_M_often_33 (K22 : Int32 → Int32 → Int32 → SG → Option (Int32 × SG)) : Nat → Int32 → Int32 → Int32 → Int32 → SG → Option (Int32 × SG)
  | 0, _, _, _, _, _ => none
  | n + 1, x1, x2, x3, x4, σ =>
    if x4 < 0 then (
      bnd (f_M_wholeSet σ) (fun r2 σ1 =>
      bnd (f_M_thereSet σ1) (fun r4 σ3 =>
      if ¬ r2 = r4 then (
        f_M_often_70 K22 x1 x3 (0 : Int32) x2 σ3)
      else (
        f_M_often_70 K22 x1 x3 (1 : Int32) x2 σ3))))
    else (
      bnd (f_M_does x4 σ) (fun _ σ5 =>
      bnd (f_M_drawn σ5) (fun r7 σ6 =>
      f_M_often_33 K22 n x1 x2 x3 r7 σ6)))
def f_M_often_22  : Nat → Int32 → Int32 → Int32 → SG → Option (Int32 × SG)
  | 0, _, _, _, _ => none
  | n + 1, x1, x2, x3, σ =>
    if x1 ≤ x3 then (
      bnd (f_M_putsBack σ) (fun _ σ1 =>
      some (x2, σ1)))
    else (
      bnd (f_M_drawn σ) (fun r3 σ2 =>
      f_M_often_33 (f_M_often_22 n) FU x1 x2 x3 r3 σ2))
def f_M_often (x1 : Int32) (σ : SG) : Option (Int32 × SG) :=
  bnd (f_M_in x1.toInt64 (1 : Int64) (60 : Int64) σ) (fun r2 σ1 =>
  if ¬ r2 = 0 then (
    bnd (f_M_puts σ1) (fun _ σ3 =>
    f_M_often_22 FU x1 (0 : Int32) (0 : Int32) σ3))
  else (
    some ((-1 : Int32), σ1)))
def f_M_prove_30  : Nat → Int32 → SG → Option (Int32 × SG)
  | 0, _, _ => none
  | n + 1, x1, σ =>
    if (σ.1 148 24) ≤ x1 then (
      bnd (f_M_putsBack σ) (fun _ σ1 =>
      some (σ1.1 148 24, σ1)))
    else (
      gd (ix x1 6) (
      bnd (f_M_does (σ.1 154 (nx x1)) σ) (fun _ σ2 =>
      gd (ix x1 6) (
      gd (ix ((3 : Int32) * x1) 18) (
      sx (uI σ2 158 (nx ((3 : Int32) * x1)) (σ2.1 154 (nx x1))) (fun σ3 =>
      bnd (f_M_coinsAll σ3) (fun r5 σ4 =>
      gd (ix (((3 : Int32) * x1) + (1 : Int32)) 18) (
      sx (uI σ4 158 (nx (((3 : Int32) * x1) + (1 : Int32))) r5) (fun σ6 =>
      bnd (f_M_wholeSet σ6) (fun r8 σ7 =>
      gd (ix (((3 : Int32) * x1) + (2 : Int32)) 18) (
      sx (uI σ7 158 (nx (((3 : Int32) * x1) + (2 : Int32))) r8) (fun σ9 =>
      lx (x1 + (1 : Int32)) (fun y10 =>
      f_M_prove_30 n y10 σ9)))))))))))))
def f_M_prove  (σ : SG) : Option (Int32 × SG) :=
  bnd (f_M_goesAll (6 : Int32) σ) (fun _ σ1 =>
  if 0 ≤ (σ1.1 148 13) then (
    bnd (f_M_puts σ1) (fun _ σ2 =>
    sx (uI σ2 148 24 (σ2.1 148 13)) (fun σ3 =>
    f_M_prove_30 FU (0 : Int32) σ3)))
  else (
    some ((-3 : Int32), σ1)))
def f_M_isRow (x1 : Int32) (x2 : Int32) (σ : SG) : Option (Int32 × SG) :=
  bnd (f_M_in x1.toInt64 (0 : Int64) (((σ.1 148 24) - (1 : Int32)).toInt64) σ) (fun r2 σ1 =>
  if r2 = 0 then (
    some ((0 : Int32), σ1))
  else (
    bnd (f_M_in x2.toInt64 (0 : Int64) (2 : Int64) σ1) (fun r4 σ3 =>
    if r4 = 0 then (
      some ((0 : Int32), σ3))
    else (
      some ((1 : Int32), σ3)))))
def f_M_row (x1 : Int32) (x2 : Int32) (σ : SG) : Option (Int32 × SG) :=
  bnd (f_M_isRow x1 x2 σ) (fun r2 σ1 =>
  if r2 = 0 then (
    some ((-9 : Int32), σ1))
  else (
    gd (ix (((3 : Int32) * x1) + x2) 18) (
    some (σ1.1 158 (nx (((3 : Int32) * x1) + x2)), σ1))))
def f_M_alterRow (x1 : Int32) (x2 : Int32) (x3 : Int32) (σ : SG) : Option (Int32 × SG) :=
  bnd (f_M_isRow x1 x2 σ) (fun r2 σ1 =>
  if ¬ r2 = 0 then (
    gd (ix (((3 : Int32) * x1) + x2) 18) (
    lx (σ1.1 158 (nx (((3 : Int32) * x1) + x2))) (fun y3 =>
    gd (ix (((3 : Int32) * x1) + x2) 18) (
    sx (uI σ1 158 (nx (((3 : Int32) * x1) + x2)) x3) (fun σ4 =>
    some (y3, σ4))))))
  else (
    some ((-9 : Int32), σ1)))
def f_M_judge_127 (K8 : Int32 → Int32 → SG → Option (Int32 × SG)) (x2 : Int32) (σ : SG) : Option (Int32 × SG) :=
  if (1 : Int32) = 0 then (
    lx (x2 + (1 : Int32)) (fun y1 =>
    lx (x2 + (1 : Int32)) (fun y2 =>
    K8 y1 y2 σ)))
  else (
    lx (x2 + (1 : Int32)) (fun y3 =>
    K8 (0 : Int32) y3 σ))
def f_M_judge_131 (K8 : Int32 → Int32 → SG → Option (Int32 × SG)) (x2 : Int32) (σ : SG) : Option (Int32 × SG) :=
  if (0 : Int32) = 0 then (
    lx (x2 + (1 : Int32)) (fun y1 =>
    lx (x2 + (1 : Int32)) (fun y2 =>
    K8 y1 y2 σ)))
  else (
    lx (x2 + (1 : Int32)) (fun y3 =>
    K8 (0 : Int32) y3 σ))
def f_M_judge_55 (K8 : Int32 → Int32 → SG → Option (Int32 × SG)) (x2 : Int32) (xs0 : Int32) (σ : SG) : Option (Int32 × SG) :=
  if xs0 = 0 then (
    if xs0 = 0 then (
      lx (x2 + (1 : Int32)) (fun y1 =>
      lx (x2 + (1 : Int32)) (fun y2 =>
      K8 y1 y2 σ)))
    else (
      lx (x2 + (1 : Int32)) (fun y3 =>
      K8 (0 : Int32) y3 σ)))
  else (
    gd (ix ((3 : Int32) * x2) 18) (
    bnd (f_M_does (σ.1 158 (nx ((3 : Int32) * x2))) σ) (fun _ σ4 =>
    gd (ix (((3 : Int32) * x2) + (1 : Int32)) 18) (
    bnd (f_M_coinsAll σ4) (fun r6 σ5 =>
    if ¬ (σ4.1 158 (nx (((3 : Int32) * x2) + (1 : Int32)))) = r6 then (
      f_M_judge_131 K8 x2 σ5)
    else (
      gd (ix (((3 : Int32) * x2) + (2 : Int32)) 18) (
      bnd (f_M_wholeSet σ5) (fun r8 σ7 =>
      if ¬ (σ5.1 158 (nx (((3 : Int32) * x2) + (2 : Int32)))) = r8 then (
        f_M_judge_131 K8 x2 σ7)
      else (
        if x2 < ((σ7.1 148 24) - (1 : Int32)) then (
          f_M_judge_127 K8 x2 σ7)
        else (
          bnd (f_M_wholeSet σ7) (fun r10 σ9 =>
          bnd (f_M_thereSet σ9) (fun r12 σ11 =>
          if ¬ r10 = r12 then (
            f_M_judge_131 K8 x2 σ11)
          else (
            f_M_judge_127 K8 x2 σ11)))))))))))))
def f_M_judge_8  : Nat → Int32 → Int32 → SG → Option (Int32 × SG)
  | 0, _, _, _ => none
  | n + 1, x1, x2, σ =>
    if (σ.1 148 24) ≤ x2 then (
      bnd (f_M_putsBack σ) (fun _ σ1 =>
      some (x1, σ1)))
    else (
      if ¬ x1 = 0 then (
        bnd (f_M_putsBack σ) (fun _ σ2 =>
        some (x1, σ2)))
      else (
        gd (ix ((3 : Int32) * x2) 18) (
        bnd (f_M_isNumber (σ.1 158 (nx ((3 : Int32) * x2))) σ) (fun r4 σ3 =>
        if r4 = 0 then (
          f_M_judge_55 (f_M_judge_8 n) x2 (0 : Int32) σ3)
        else (
          gd (ix ((3 : Int32) * x2) 18) (
          bnd (f_M_canBe (σ3.1 158 (nx ((3 : Int32) * x2))) σ3) (fun r6 σ5 =>
          if r6 = 0 then (
            f_M_judge_55 (f_M_judge_8 n) x2 (0 : Int32) σ5)
          else (
            f_M_judge_55 (f_M_judge_8 n) x2 (1 : Int32) σ5))))))))
def f_M_judge  (σ : SG) : Option (Int32 × SG) :=
  bnd (f_M_puts σ) (fun _ σ1 =>
  f_M_judge_8 FU (0 : Int32) (0 : Int32) σ1)
def f_M_feed_32  : Nat → Int64 → Int32 → Int32 → SG → Option (Int32 × SG)
  | 0, _, _, _, _ => none
  | n + 1, x1, x3, x4, σ =>
    if x3 ≤ x4 then (
      some (σ.1 148 26, σ))
    else (
      gd (ix (σ.1 148 26) 200) (
      sx (uI σ 159 (nx (σ.1 148 26)) (((lsr x1 ((8 : Int32) * x4)) &&& (255 : Int64)).toInt32)) (fun σ1 =>
      sx (uI σ1 148 26 ((σ1.1 148 26) + (1 : Int32))) (fun σ2 =>
      lx (x4 + (1 : Int32)) (fun y3 =>
      f_M_feed_32 n x1 x3 y3 σ2)))))
def f_M_feed (x1 : Int64) (x3 : Int32) (σ : SG) : Option (Int32 × SG) :=
  bnd (f_M_in x3.toInt64 (1 : Int64) (8 : Int64) σ) (fun r2 σ1 =>
  if ¬ r2 = 0 then (
    if ((σ1.1 148 26) + x3) ≤ (200 : Int32) then (
      f_M_feed_32 FU x1 x3 (0 : Int32) σ1)
    else (
      some ((-2 : Int32), σ1)))
  else (
    some ((-1 : Int32), σ1)))
def f_M_byteAt (x1 : Int32) (σ : SG) : Option (Int32 × SG) :=
  if (σ.1 148 26) ≤ x1 then (
    some ((-1 : Int32), σ))
  else (
    gd (ix x1 200) (
    some (σ.1 159 (nx x1), σ)))
def f_M_isDigit (x0 : Int32) (σ : SG) : Option (Int32 × SG) :=
  bnd (f_M_in x0.toInt64 (48 : Int64) (57 : Int64) σ) (fun r2 σ1 =>
  gd (r2 = 0 ∨ r2 = 1) (some (r2, σ1)))
def f_M_isLetter (x0 : Int32) (σ : SG) : Option (Int32 × SG) :=
  bnd (f_M_in x0.toInt64 (97 : Int64) (122 : Int64) σ) (fun r2 σ1 =>
  gd (r2 = 0 ∨ r2 = 1) (some (r2, σ1)))
def f_M_token_104 (K86 : Int32 → Int32 → SG → Option (Unit × SG)) (x1 : Int32) (x2 : Int32) (σ : SG) : Option (Unit × SG) :=
  if x2 = 0 then (
    some ((), σ))
  else (
    bnd (f_M_byteAt (σ.1 148 28) σ) (fun r2 σ1 =>
    bnd (f_M_isDigit r2 σ1) (fun r4 σ3 =>
    if r4 = 0 then (
      some ((), σ3))
    else (
      sx (uI σ3 148 28 ((σ3.1 148 28) + (1 : Int32))) (fun σ5 =>
      K86 x1 x2 σ5)))))
def f_M_token_86  : Nat → Int32 → Int32 → SG → Option (Unit × SG)
  | 0, _, _, _ => none
  | n + 1, x1, x2, σ =>
    if x1 = 0 then (
      f_M_token_104 (f_M_token_86 n) x1 x2 σ)
    else (
      bnd (f_M_byteAt (σ.1 148 28) σ) (fun r2 σ1 =>
      bnd (f_M_isLetter r2 σ1) (fun r4 σ3 =>
      if ¬ r4 = 0 then (
        sx (uI σ3 148 28 ((σ3.1 148 28) + (1 : Int32))) (fun σ5 =>
        f_M_token_86 n x1 x2 σ5))
      else (
        f_M_token_104 (f_M_token_86 n) x1 x2 σ3))))
def f_M_token_8  : Nat → SG → Option (Unit × SG)
  | 0, _ => none
  | n + 1, σ =>
    bnd (f_M_byteAt (σ.1 148 27) σ) (fun r2 σ1 =>
    if ¬ r2 = (32 : Int32) then (
      bnd (f_M_byteAt (σ1.1 148 27) σ1) (fun r4 σ3 =>
      bnd (f_M_isLetter r4 σ3) (fun r6 σ5 =>
      bnd (f_M_byteAt (σ5.1 148 27) σ5) (fun r8 σ7 =>
      bnd (f_M_isDigit r8 σ7) (fun r10 σ9 =>
      if (σ9.1 148 26) ≤ (σ9.1 148 27) then (
        sx (uI σ9 148 28 (σ9.1 148 27)) (fun σ11 =>
        f_M_token_86 FU r6 r10 σ11))
      else (
        sx (uI σ9 148 28 ((σ9.1 148 27) + (1 : Int32))) (fun σ12 =>
        f_M_token_86 FU r6 r10 σ12)))))))
    else (
      sx (uI σ1 148 27 ((σ1.1 148 27) + (1 : Int32))) (fun σ13 =>
      f_M_token_8 n σ13)))
def f_M_token  (σ : SG) : Option (Unit × SG) :=
  sx (uI σ 148 27 (σ.1 148 28)) (fun σ1 =>
  f_M_token_8 FU σ1)
def f_M_wants (x1 : Int32) (σ : SG) : Option (Unit × SG) :=
  if ¬ (σ.1 148 32) = 0 then (
    sx (uI σ 148 32 (1 : Int32)) (fun σ1 =>
    if ¬ (σ1.1 148 32) = 0 then (
      some ((), σ1))
    else (
      bnd (f_M_token σ1) (fun _ σ2 =>
      some ((), σ2)))))
  else (
    if ¬ x1 = 0 then (
      sx (uI σ 148 32 (0 : Int32)) (fun σ3 =>
      if ¬ (σ3.1 148 32) = 0 then (
        some ((), σ3))
      else (
        bnd (f_M_token σ3) (fun _ σ4 =>
        some ((), σ4)))))
    else (
      sx (uI σ 148 32 (1 : Int32)) (fun σ5 =>
      if ¬ (σ5.1 148 32) = 0 then (
        some ((), σ5))
      else (
        bnd (f_M_token σ5) (fun _ σ6 =>
        some ((), σ6))))))
def f_M_number_82 (x1 : Int32) (x2 : Int32) (σ : SG) : Option (Unit × SG) :=
  if x2 = 0 then (
    bnd (f_M_wants (0 : Int32) σ) (fun _ σ1 =>
    some ((), σ1)))
  else (
    if x1 < (σ.1 148 29) then (
      bnd (f_M_wants (0 : Int32) σ) (fun _ σ2 =>
      some ((), σ2)))
    else (
      bnd (f_M_wants (1 : Int32) σ) (fun _ σ3 =>
      some ((), σ3))))
def f_M_number_43  : Nat → Int32 → Int32 → Int32 → SG → Option (Unit × SG)
  | 0, _, _, _, _ => none
  | n + 1, x1, x2, x3, σ =>
    if (σ.1 148 28) ≤ x3 then (
      f_M_number_82 x1 x2 σ)
    else (
      if x2 = 0 then (
        f_M_number_82 x1 x2 σ)
      else (
        gd (ix x3 200) (
        sx (uI σ 148 29 ((((10 : Int32) * (σ.1 148 29)) + (σ.1 159 (nx x3))) - (48 : Int32))) (fun σ1 =>
        lx (x3 + (1 : Int32)) (fun y2 =>
        f_M_number_43 n x1 x2 y2 σ1)))))
def f_M_number (x1 : Int32) (σ : SG) : Option (Unit × SG) :=
  bnd (f_M_byteAt (σ.1 148 27) σ) (fun r2 σ1 =>
  bnd (f_M_isDigit r2 σ1) (fun r4 σ3 =>
  if r4 = 0 then (
    sx (uI σ3 148 29 (0 : Int32)) (fun σ5 =>
    lx (σ5.1 148 27) (fun y6 =>
    f_M_number_43 FU x1 (0 : Int32) y6 σ5)))
  else (
    if (5 : Int32) ≤ ((σ3.1 148 28) - (σ3.1 148 27)) then (
      sx (uI σ3 148 29 (0 : Int32)) (fun σ7 =>
      lx (σ7.1 148 27) (fun y8 =>
      f_M_number_43 FU x1 (0 : Int32) y8 σ7)))
    else (
      sx (uI σ3 148 29 (0 : Int32)) (fun σ9 =>
      lx (σ9.1 148 27) (fun y10 =>
      f_M_number_43 FU x1 (1 : Int32) y10 σ9))))))
def f_M_word_7  : Nat → Int64 → Int32 → SG → Option (Int64 × SG)
  | 0, _, _, _ => none
  | n + 1, x1, x3, σ =>
    if (σ.1 148 28) ≤ x3 then (
      if ¬ (σ.1 148 32) = 0 then (
        some ((0 : Int64), σ))
      else (
        bnd (f_M_byteAt (σ.1 148 27) σ) (fun r2 σ1 =>
        bnd (f_M_isLetter r2 σ1) (fun r4 σ3 =>
        if ¬ r4 = 0 then (
          some (x1, σ3))
        else (
          some ((0 : Int64), σ3))))))
    else (
      if (lg_cmp x1 (36028797018963967 : Int64)) ≤ 0 then (
        gd (ix x3 200) (
        lx (((32 : Int64) * x1) + (((σ.1 159 (nx x3)) - (96 : Int32)).toInt64)) (fun y5 =>
        lx (x3 + (1 : Int32)) (fun y6 =>
        f_M_word_7 n y5 y6 σ))))
      else (
        lx (x3 + (1 : Int32)) (fun y7 =>
        f_M_word_7 n x1 y7 σ)))
def f_M_word  (σ : SG) : Option (Int64 × SG) :=
  lx (σ.1 148 27) (fun y1 =>
  f_M_word_7 FU (0 : Int64) y1 σ)
def f_M_kindHere  (σ : SG) : Option (Int32 × SG) :=
  bnd (f_M_word σ) (fun r2 σ1 =>
  if ¬ (lg_cmp r2 (542723566 : Int64)) = 0 then (
    if ¬ (lg_cmp r2 (427300 : Int64)) = 0 then (
      if ¬ (lg_cmp r2 (13946034 : Int64)) = 0 then (
        if ¬ (lg_cmp r2 (24416759 : Int64)) = 0 then (
          if ¬ (lg_cmp r2 (556054629 : Int64)) = 0 then (
            if ¬ (lg_cmp r2 (2262644 : Int64)) = 0 then (
              some ((-1 : Int32), σ1))
            else (
              some ((5 : Int32), σ1)))
          else (
            some ((4 : Int32), σ1)))
        else (
          some ((3 : Int32), σ1)))
      else (
        some ((2 : Int32), σ1)))
    else (
      some ((1 : Int32), σ1)))
  else (
    some ((0 : Int32), σ1)))
def f_M_writes (x1 : Int32) (σ : SG) : Option (Unit × SG) :=
  if ¬ (σ.1 148 32) = 0 then (
    some ((), σ))
  else (
    gd (ix ((138 : Int32) + (σ.1 148 31)) 340) (
    sx (uI σ 149 (nx ((138 : Int32) + (σ.1 148 31))) x1) (fun σ1 =>
    sx (uI σ1 148 31 ((σ1.1 148 31) + (1 : Int32))) (fun σ2 =>
    some ((), σ2)))))
def f_M_factHere  (σ : SG) : Option (Int32 × SG) :=
  bnd (f_M_word σ) (fun r2 σ1 =>
  if ¬ (lg_cmp r2 (8243 : Int64)) = 0 then (
    if ¬ (lg_cmp r2 (464036 : Int64)) = 0 then (
      if ¬ (lg_cmp r2 (3646931 : Int64)) = 0 then (
        if ¬ (lg_cmp r2 (24395141 : Int64)) = 0 then (
          if ¬ (lg_cmp r2 (492210354 : Int64)) = 0 then (
            some ((0 : Int32), σ1))
          else (
            some ((-5 : Int32), σ1)))
        else (
          some ((-4 : Int32), σ1)))
      else (
        some ((-3 : Int32), σ1)))
    else (
      some ((-2 : Int32), σ1)))
  else (
    some ((-1 : Int32), σ1)))
def f_M_valueHere  (σ : SG) : Option (Unit × SG) :=
  bnd (f_M_factHere σ) (fun r2 σ1 =>
  if 0 ≤ r2 then (
    if ¬ (σ1.1 148 32) = 0 then (
      some ((), σ1))
    else (
      bnd (f_M_number (9999 : Int32) σ1) (fun _ σ3 =>
      bnd (f_M_writes (σ3.1 148 29) σ3) (fun _ σ4 =>
      some ((), σ4)))))
  else (
    bnd (f_M_wants (1 : Int32) σ1) (fun _ σ5 =>
    bnd (f_M_writes r2 σ5) (fun _ σ6 =>
    some ((), σ6)))))
def f_M_comparison_48 (x1 : Int32) (xs0 : Int32) (σ : SG) : Option (Unit × SG) :=
  bnd (f_M_wants xs0 σ) (fun _ σ1 =>
  bnd (f_M_valueHere σ1) (fun _ σ2 =>
  if ¬ x1 = (60 : Int32) then (
    if ¬ x1 = (61 : Int32) then (
      bnd (f_M_writes (-13 : Int32) σ2) (fun _ σ3 =>
      some ((), σ3)))
    else (
      bnd (f_M_writes (-12 : Int32) σ2) (fun _ σ4 =>
      some ((), σ4))))
  else (
    bnd (f_M_writes (-11 : Int32) σ2) (fun _ σ5 =>
    some ((), σ5)))))
def f_M_comparison_23 (xs0 : Int32) (σ : SG) : Option (Unit × SG) :=
  if xs0 = (60 : Int32) then (
    f_M_comparison_48 xs0 (1 : Int32) σ)
  else (
    if xs0 = (61 : Int32) then (
      f_M_comparison_48 xs0 (1 : Int32) σ)
    else (
      if ¬ xs0 = (62 : Int32) then (
        f_M_comparison_48 xs0 (0 : Int32) σ)
      else (
        f_M_comparison_48 xs0 (1 : Int32) σ)))
def f_M_comparison  (σ : SG) : Option (Unit × SG) :=
  bnd (f_M_valueHere σ) (fun _ σ1 =>
  if (σ1.1 148 32) = 0 then (
    bnd (f_M_byteAt (σ1.1 148 27) σ1) (fun r3 σ2 =>
    f_M_comparison_23 r3 σ2))
  else (
    f_M_comparison_23 (-1 : Int32) σ1))
def f_M_one_65 (fR : SG → Option (Unit × SG)) (x1 : Int32) (xs0 : Int32) (σ : SG) : Option (Unit × SG) :=
  bnd (f_M_wants xs0 σ) (fun _ σ1 =>
  sx (uI σ1 148 30 ((σ1.1 148 30) + (1 : Int32))) (fun σ2 =>
  bnd (fR σ2) (fun _ σ3 =>
  sx (uI σ3 148 30 ((σ3.1 148 30) - (1 : Int32))) (fun σ4 =>
  if ¬ (σ4.1 148 32) = 0 then (
    bnd (f_M_wants (0 : Int32) σ4) (fun _ σ5 =>
    if x1 = 0 then (
      some ((), σ5))
    else (
      bnd (f_M_writes (-20 : Int32) σ5) (fun _ σ6 =>
      some ((), σ6)))))
  else (
    bnd (f_M_byteAt (σ4.1 148 27) σ4) (fun r8 σ7 =>
    if ¬ r8 = (41 : Int32) then (
      bnd (f_M_wants (0 : Int32) σ7) (fun _ σ9 =>
      if x1 = 0 then (
        some ((), σ9))
      else (
        bnd (f_M_writes (-20 : Int32) σ9) (fun _ σ10 =>
        some ((), σ10)))))
    else (
      bnd (f_M_wants (1 : Int32) σ7) (fun _ σ11 =>
      if x1 = 0 then (
        some ((), σ11))
      else (
        bnd (f_M_writes (-20 : Int32) σ11) (fun _ σ12 =>
        some ((), σ12)))))))))))
def f_M_one_2 (fR : SG → Option (Unit × SG)) : Nat → Int32 → SG → Option (Unit × SG)
  | 0, _, _ => none
  | n + 1, x1, σ =>
    bnd (f_M_word σ) (fun r2 σ1 =>
    if ¬ (lg_cmp r2 (14836 : Int64)) = 0 then (
      if ¬ (σ1.1 148 32) = 0 then (
        bnd (f_M_comparison σ1) (fun _ σ3 =>
        if x1 = 0 then (
          some ((), σ3))
        else (
          bnd (f_M_writes (-20 : Int32) σ3) (fun _ σ4 =>
          some ((), σ4)))))
      else (
        bnd (f_M_byteAt (σ1.1 148 27) σ1) (fun r6 σ5 =>
        if ¬ r6 = (40 : Int32) then (
          bnd (f_M_comparison σ5) (fun _ σ7 =>
          if x1 = 0 then (
            some ((), σ7))
          else (
            bnd (f_M_writes (-20 : Int32) σ7) (fun _ σ8 =>
            some ((), σ8)))))
        else (
          if (3 : Int32) ≤ (σ5.1 148 30) then (
            f_M_one_65 fR x1 (0 : Int32) σ5)
          else (
            f_M_one_65 fR x1 (1 : Int32) σ5)))))
    else (
      if ¬ x1 = 0 then (
        bnd (f_M_wants (1 : Int32) σ1) (fun _ σ9 =>
        f_M_one_2 fR n (0 : Int32) σ9))
      else (
        bnd (f_M_wants (1 : Int32) σ1) (fun _ σ10 =>
        f_M_one_2 fR n (1 : Int32) σ10))))
def f_M_one (fR : SG → Option (Unit × SG)) (σ : SG) : Option (Unit × SG) :=
  f_M_one_2 fR FU (0 : Int32) σ
def f_M_all_4 (fR : SG → Option (Unit × SG)) : Nat → SG → Option (Unit × SG)
  | 0, _ => none
  | n + 1, σ =>
    bnd (f_M_word σ) (fun r2 σ1 =>
    if ¬ (lg_cmp r2 (1476 : Int64)) = 0 then (
      some ((), σ1))
    else (
      bnd (f_M_wants (1 : Int32) σ1) (fun _ σ3 =>
      bnd (f_M_one fR σ3) (fun _ σ4 =>
      bnd (f_M_writes (-21 : Int32) σ4) (fun _ σ5 =>
      f_M_all_4 fR n σ5)))))
def f_M_all (fR : SG → Option (Unit × SG)) (σ : SG) : Option (Unit × SG) :=
  bnd (f_M_one fR σ) (fun _ σ1 =>
  f_M_all_4 fR FU σ1)
def f_M_condition_S_12 (fR : SG → Option (Unit × SG)) : Nat → SG → Option (Unit × SG)
  | 0, _ => none
  | n + 1, σ =>
    bnd (f_M_word σ) (fun r2 σ1 =>
    if ¬ (lg_cmp r2 (498 : Int64)) = 0 then (
      some ((), σ1))
    else (
      bnd (f_M_wants (1 : Int32) σ1) (fun _ σ3 =>
      bnd (f_M_all fR σ3) (fun _ σ4 =>
      bnd (f_M_writes (-22 : Int32) σ4) (fun _ σ5 =>
      f_M_condition_S_12 fR n σ5)))))
def f_M_condition_S (fR : SG → Option (Unit × SG)) (σ : SG) : Option (Unit × SG) :=
  if (σ.1 148 32) = 0 then (
    bnd (f_M_all fR σ) (fun _ σ1 =>
    f_M_condition_S_12 fR FU σ1))
  else (
    some ((), σ))
def f_M_condition : Nat → SG → Option (Unit × SG)
  | 0, _ => none
  | d + 1, σ => f_M_condition_S (f_M_condition d) σ
def f_M_rule_168 (x1 : Int32) (x4 : Int32) (x5 : Int32) (xs0 : Int32) (σ : SG) : Option (Unit × SG) :=
  bnd (f_M_wants xs0 σ) (fun _ σ1 =>
  if ¬ (σ1.1 148 32) = 0 then (
    some ((), σ1))
  else (
    lx ((106 : Int32) + ((4 : Int32) * (σ1.1 149 1))) (fun y2 =>
    gd (ix (y2 + (0 : Int32)) 340) (
    sx (uI σ1 149 (nx (y2 + (0 : Int32))) x1) (fun σ3 =>
    gd (ix (y2 + (1 : Int32)) 340) (
    sx (uI σ3 149 (nx (y2 + (1 : Int32))) x4) (fun σ4 =>
    gd (ix (y2 + (2 : Int32)) 340) (
    sx (uI σ4 149 (nx (y2 + (2 : Int32))) x5) (fun σ5 =>
    gd (ix (y2 + (3 : Int32)) 340) (
    sx (uI σ5 149 (nx (y2 + (3 : Int32))) (σ5.1 148 31)) (fun σ6 =>
    sx (uI σ6 149 1 ((σ6.1 149 1) + (1 : Int32))) (fun σ7 =>
    some ((), σ7)))))))))))))
def f_M_rule_136 (x1 : Int32) (x4 : Int32) (σ : SG) : Option (Unit × SG) :=
  lx (σ.1 148 29) (fun y1 =>
  if ¬ (σ.1 148 32) = 0 then (
    f_M_rule_168 x1 x4 y1 (0 : Int32) σ)
  else (
    bnd (f_M_byteAt (σ.1 148 27) σ) (fun r3 σ2 =>
    if ¬ r3 = (59 : Int32) then (
      f_M_rule_168 x1 x4 y1 (0 : Int32) σ2)
    else (
      f_M_rule_168 x1 x4 y1 (1 : Int32) σ2))))
def f_M_rule_104 (x1 : Int32) (x4 : Int32) (xs0 : Int32) (σ : SG) : Option (Unit × SG) :=
  bnd (f_M_wants xs0 σ) (fun _ σ1 =>
  sx (uI σ1 148 29 (0 : Int32)) (fun σ2 =>
  if x4 < 0 then (
    f_M_rule_136 x1 x4 σ2)
  else (
    if x4 = (2 : Int32) then (
      f_M_rule_136 x1 x4 σ2)
    else (
      if ¬ (σ2.1 148 32) = 0 then (
        f_M_rule_136 x1 x4 σ2)
      else (
        bnd (f_M_number (99 : Int32) σ2) (fun _ σ3 =>
        f_M_rule_136 x1 x4 σ3))))))
def f_M_rule_49 (x1 : Int32) (σ : SG) : Option (Unit × SG) :=
  bnd (f_M_word σ) (fun r2 σ1 =>
  if ¬ (lg_cmp r2 (441925 : Int64)) = 0 then (
    if ¬ (lg_cmp r2 (398963 : Int64)) = 0 then (
      if ¬ (lg_cmp r2 (215205 : Int64)) = 0 then (
        if (-1 : Int32) < 0 then (
          f_M_rule_104 x1 (-1 : Int32) (0 : Int32) σ1)
        else (
          f_M_rule_104 x1 (-1 : Int32) (1 : Int32) σ1))
      else (
        if (2 : Int32) < 0 then (
          f_M_rule_104 x1 (2 : Int32) (0 : Int32) σ1)
        else (
          f_M_rule_104 x1 (2 : Int32) (1 : Int32) σ1)))
    else (
      if (1 : Int32) < 0 then (
        f_M_rule_104 x1 (1 : Int32) (0 : Int32) σ1)
      else (
        f_M_rule_104 x1 (1 : Int32) (1 : Int32) σ1)))
  else (
    if (0 : Int32) < 0 then (
      f_M_rule_104 x1 (0 : Int32) (0 : Int32) σ1)
    else (
      f_M_rule_104 x1 (0 : Int32) (1 : Int32) σ1)))
def f_M_rule  (σ : SG) : Option (Unit × SG) :=
  bnd (f_M_kindHere σ) (fun r2 σ1 =>
  if r2 < 0 then (
    bnd (f_M_wants (0 : Int32) σ1) (fun _ σ3 =>
    bnd (f_M_word σ3) (fun r5 σ4 =>
    if ¬ (lg_cmp r5 (294 : Int64)) = 0 then (
      f_M_rule_49 r2 σ4)
    else (
      bnd (f_M_wants (1 : Int32) σ4) (fun _ σ6 =>
      bnd (f_M_condition DP σ6) (fun _ σ7 =>
      f_M_rule_49 r2 σ7))))))
  else (
    if (8 : Int32) ≤ (σ1.1 149 1) then (
      bnd (f_M_wants (0 : Int32) σ1) (fun _ σ8 =>
      bnd (f_M_word σ8) (fun r10 σ9 =>
      if ¬ (lg_cmp r10 (294 : Int64)) = 0 then (
        f_M_rule_49 r2 σ9)
      else (
        bnd (f_M_wants (1 : Int32) σ9) (fun _ σ11 =>
        bnd (f_M_condition DP σ11) (fun _ σ12 =>
        f_M_rule_49 r2 σ12))))))
    else (
      bnd (f_M_wants (1 : Int32) σ1) (fun _ σ13 =>
      bnd (f_M_word σ13) (fun r15 σ14 =>
      if ¬ (lg_cmp r15 (294 : Int64)) = 0 then (
        f_M_rule_49 r2 σ14)
      else (
        bnd (f_M_wants (1 : Int32) σ14) (fun _ σ16 =>
        bnd (f_M_condition DP σ16) (fun _ σ17 =>
        f_M_rule_49 r2 σ17))))))))
def f_M_rules_60  (σ : SG) : Option (Int32 × SG) :=
  sx (uI σ 148 26 (0 : Int32)) (fun σ1 =>
  if (σ1.1 148 32) = 0 then (
    some (σ1.1 149 1, σ1))
  else (
    bnd (f_M_putsBack σ1) (fun _ σ2 =>
    some ((-100 : Int32) - (σ2.1 148 27), σ2))))
def f_M_rules_35  : Nat → SG → Option (Int32 × SG)
  | 0, _ => none
  | n + 1, σ =>
    if ¬ (σ.1 148 32) = 0 then (
      f_M_rules_60 σ)
    else (
      if (σ.1 148 26) ≤ (σ.1 148 27) then (
        f_M_rules_60 σ)
      else (
        bnd (f_M_rule σ) (fun _ σ1 =>
        f_M_rules_35 n σ1)))
def f_M_rules  (σ : SG) : Option (Int32 × SG) :=
  bnd (f_M_puts σ) (fun _ σ1 =>
  sx (uI σ1 149 1 (0 : Int32)) (fun σ2 =>
  sx (uI σ2 148 31 (0 : Int32)) (fun σ3 =>
  sx (uI σ3 148 30 (0 : Int32)) (fun σ4 =>
  sx (uI σ4 148 28 (0 : Int32)) (fun σ5 =>
  sx (uI σ5 148 32 (0 : Int32)) (fun σ6 =>
  bnd (f_M_token σ6) (fun _ σ7 =>
  f_M_rules_35 FU σ7)))))))
def f_M_isOne (x0 : Int32) (σ : SG) : Option (Int32 × SG) :=
  bnd (f_M_in x0.toInt64 (0 : Int64) (3 : Int64) σ) (fun r2 σ1 =>
  gd (r2 = 0 ∨ r2 = 1) (some (r2, σ1)))
def f_M_sheet_69  : Nat → Int32 → Int32 → SG → Option (Int32 × SG)
  | 0, _, _, _ => none
  | n + 1, x1, x4, σ =>
    if (40 : Int32) ≤ x4 then (
      some ((1 : Int32), σ))
    else (
      gd (ix (((40 : Int32) * x1) + x4) 160) (
      sx (uI σ 162 (nx (((40 : Int32) * x1) + x4)) (0 : Int32)) (fun σ1 =>
      lx (x4 + (1 : Int32)) (fun y2 =>
      f_M_sheet_69 n x1 y2 σ1))))
def f_M_sheet_44 (x1 : Int32) (x2 : Int32) (x3 : Int32) (σ : SG) : Option (Int32 × SG) :=
  gd (ix x1 4) (
  sx (uI σ 160 (nx x1) x2) (fun σ1 =>
  if 0 ≤ x2 then (
    gd (ix x1 4) (
    sx (uI σ1 161 (nx x1) x3) (fun σ2 =>
    f_M_sheet_69 FU x1 (0 : Int32) σ2)))
  else (
    gd (ix x1 4) (
    sx (uI σ1 161 (nx x1) (0 : Int32)) (fun σ3 =>
    f_M_sheet_69 FU x1 (0 : Int32) σ3)))))
def f_M_sheet (x1 : Int32) (x2 : Int32) (x3 : Int32) (σ : SG) : Option (Int32 × SG) :=
  bnd (f_M_isOne x1 σ) (fun r2 σ1 =>
  if r2 = 0 then (
    some ((-1 : Int32), σ1))
  else (
    bnd (f_M_in x2.toInt64 (-1 : Int64) (4 : Int64) σ1) (fun r4 σ3 =>
    if r4 = 0 then (
      some ((-1 : Int32), σ3))
    else (
      if x2 < 0 then (
        if x2 < 0 then (
          f_M_sheet_44 x1 x2 x3 σ3)
        else (
          if 0 ≤ x3 then (
            f_M_sheet_44 x1 x2 x3 σ3)
          else (
            some ((-14 : Int32), σ3))))
      else (
        if x3 ≤ (40 : Int32) then (
          if x2 < 0 then (
            f_M_sheet_44 x1 x2 x3 σ3)
          else (
            if 0 ≤ x3 then (
              f_M_sheet_44 x1 x2 x3 σ3)
            else (
              some ((-14 : Int32), σ3))))
        else (
          some ((-1 : Int32), σ3)))))))
def f_M_narrowed (x0 : Int32) (x1 : Int32) (σ : SG) : Option (Int32 × SG) :=
  if ¬ x0 = 0 then (
    if ¬ x0 = (1 : Int32) then (
      if ¬ x0 = (4 : Int32) then (
        some (x1, σ))
      else (
        if ¬ x1 = 0 then (
          some ((1 : Int32), σ))
        else (
          some ((0 : Int32), σ))))
    else (
      some (x1.toInt16.toInt32, σ)))
  else (
    some (x1.toInt8.toInt32, σ))
def f_M_write (x1 : Int32) (x2 : Int32) (x3 : Int32) (σ : SG) : Option (Int32 × SG) :=
  bnd (f_M_isOne x1 σ) (fun r2 σ1 =>
  if ¬ r2 = 0 then (
    gd (ix x1 4) (
    if 0 ≤ (σ1.1 160 (nx x1)) then (
      gd (ix x1 4) (
      bnd (f_M_in x2.toInt64 (0 : Int64) (((σ1.1 161 (nx x1)) - (1 : Int32)).toInt64) σ1) (fun r4 σ3 =>
      if ¬ r4 = 0 then (
        gd (ix x1 4) (
        bnd (f_M_narrowed (σ3.1 160 (nx x1)) x3 σ3) (fun r6 σ5 =>
        gd (ix (((40 : Int32) * x1) + x2) 160) (
        sx (uI σ5 162 (nx (((40 : Int32) * x1) + x2)) r6) (fun σ7 =>
        some ((1 : Int32), σ7))))))
      else (
        some ((-12 : Int32), σ3)))))
    else (
      some ((-11 : Int32), σ1))))
  else (
    some ((-1 : Int32), σ1)))
def f_M_whyNot (x1 : Int32) (x2 : Int32) (σ : SG) : Option (Int32 × SG) :=
  gd (ix x1 4) (
  if 0 ≤ (σ.1 160 (nx x1)) then (
    gd (ix x1 4) (
    if (σ.1 160 (nx x1)) = x2 then (
      some ((0 : Int32), σ))
    else (
      some ((-13 : Int32), σ))))
  else (
    some ((-11 : Int32), σ)))
def f_M_item (x1 : Int32) (x2 : Int32) (x3 : Int32) (σ : SG) : Option (Int32 × SG) :=
  bnd (f_M_isOne x1 σ) (fun r2 σ1 =>
  if r2 = 0 then (
    some ((-1 : Int32), σ1))
  else (
    bnd (f_M_in x2.toInt64 (0 : Int64) (4 : Int64) σ1) (fun r4 σ3 =>
    if ¬ r4 = 0 then (
      bnd (f_M_whyNot x1 x2 σ3) (fun r6 σ5 =>
      if r6 = 0 then (
        gd (ix x1 4) (
        bnd (f_M_in x3.toInt64 (0 : Int64) (((σ5.1 161 (nx x1)) - (1 : Int32)).toInt64) σ5) (fun r8 σ7 =>
        if r8 = 0 then (
          some ((-12 : Int32), σ7))
        else (
          gd (ix (((40 : Int32) * x1) + x3) 160) (
          some (σ7.1 162 (nx (((40 : Int32) * x1) + x3)), σ7))))))
      else (
        some (r6, σ5))))
    else (
      some ((-1 : Int32), σ3)))))
def f_M_isItem (x1 : Int32) (x2 : Int64) (σ : SG) : Option (Int32 × SG) :=
  gd (ix x1 4) (
  bnd (f_M_in x2 (0 : Int64) (((σ.1 161 (nx x1)) - (1 : Int32)).toInt64) σ) (fun r2 σ1 =>
  gd (r2 = 0 ∨ r2 = 1) (some (r2, σ1))))
def f_M_isOnTurn (x1 : Int32) (x2 : Int32) (σ : SG) : Option (Int32 × SG) :=
  gd (ix (((40 : Int32) * x1) + x2) 160) (
  lx (σ.1 162 (nx (((40 : Int32) * x1) + x2))) (fun y1 =>
  bnd (f_M_isNumber y1 σ) (fun r3 σ2 =>
  if r3 = 0 then (
    some ((0 : Int32), σ2))
  else (
    bnd (f_M_canBe y1 σ2) (fun r5 σ4 =>
    if r5 = 0 then (
      some ((0 : Int32), σ4))
    else (
      some ((1 : Int32), σ4)))))))
def f_M_isSpan (x1 : Int32) (x2 : Int32) (σ : SG) : Option (Int32 × SG) :=
  bnd (f_M_isOne x1 σ) (fun r2 σ1 =>
  if r2 = 0 then (
    some ((0 : Int32), σ1))
  else (
    bnd (f_M_in x2.toInt64 (0 : Int64) (20 : Int64) σ1) (fun r4 σ3 =>
    if r4 = 0 then (
      some ((0 : Int32), σ3))
    else (
      some ((1 : Int32), σ3)))))
def f_M_makeAll_33  : Nat → Int32 → Int32 → Int32 → Int32 → Int32 → SG → Option (Int32 × SG)
  | 0, _, _, _, _, _, _ => none
  | n + 1, x1, x2, x3, x5, x6, σ =>
    if x3 ≤ x6 then (
      some (x5, σ))
    else (
      bnd (f_M_isItem x1 (x2.toInt64 + x6.toInt64) σ) (fun r2 σ1 =>
      if ¬ r2 = 0 then (
        bnd (f_M_isOnTurn x1 (x2 + x6) σ1) (fun r4 σ3 =>
        if r4 = 0 then (
          lx (x6 + (1 : Int32)) (fun y5 =>
          f_M_makeAll_33 n x1 x2 x3 x5 y5 σ3))
        else (
          gd (ix ((((40 : Int32) * x1) + x2) + x6) 160) (
          bnd (f_M_makes (σ3.1 162 (nx ((((40 : Int32) * x1) + x2) + x6))) σ3) (fun _ σ6 =>
          lx (x5 + (1 : Int32)) (fun y7 =>
          lx (x6 + (1 : Int32)) (fun y8 =>
          f_M_makeAll_33 n x1 x2 x3 y7 y8 σ6)))))))
      else (
        some ((-12 : Int32), σ1))))
def f_M_makeAll (x1 : Int32) (x2 : Int32) (x3 : Int32) (σ : SG) : Option (Int32 × SG) :=
  bnd (f_M_isSpan x1 x3 σ) (fun r2 σ1 =>
  if ¬ r2 = 0 then (
    bnd (f_M_whyNot x1 (0 : Int32) σ1) (fun r4 σ3 =>
    if r4 = 0 then (
      f_M_makeAll_33 FU x1 x2 x3 (0 : Int32) (0 : Int32) σ3)
    else (
      some (r4, σ3))))
  else (
    some ((-1 : Int32), σ1)))
def f_M_wouldCost_89 (K37 : Int32 → Int32 → Int32 → Int32 → Int32 → Int32 → SG → Option (Int32 × SG)) (x1 : Int32) (x2 : Int32) (x3 : Int32) (x5 : Int32) (x6 : Int32) (xs0 : Int32) (σ : SG) : Option (Int32 × SG) :=
  if ¬ xs0 = 0 then (
    lx (x6 + (1 : Int32)) (fun y1 =>
    K37 x1 x2 x3 xs0 x5 y1 σ))
  else (
    gd (ix ((((40 : Int32) * x1) + x2) + x6) 160) (
    bnd (f_M_does (σ.1 162 (nx ((((40 : Int32) * x1) + x2) + x6))) σ) (fun _ σ2 =>
    lx (x5 + (σ2.1 148 7)) (fun y3 =>
    lx (x6 + (1 : Int32)) (fun y4 =>
    K37 x1 x2 x3 xs0 y3 y4 σ2)))))
def f_M_wouldCost_37  : Nat → Int32 → Int32 → Int32 → Int32 → Int32 → Int32 → SG → Option (Int32 × SG)
  | 0, _, _, _, _, _, _, _ => none
  | n + 1, x1, x2, x3, x4, x5, x6, σ =>
    if x3 ≤ x6 then (
      bnd (f_M_putsBack σ) (fun _ σ1 =>
      if x4 = 0 then (
        some (x5, σ1))
      else (
        some (x4, σ1))))
    else (
      if ¬ x4 = 0 then (
        bnd (f_M_putsBack σ) (fun _ σ2 =>
        if x4 = 0 then (
          some (x5, σ2))
        else (
          some (x4, σ2))))
      else (
        bnd (f_M_isItem x1 (x2.toInt64 + x6.toInt64) σ) (fun r4 σ3 =>
        if ¬ r4 = 0 then (
          bnd (f_M_isOnTurn x1 (x2 + x6) σ3) (fun r6 σ5 =>
          if ¬ r6 = 0 then (
            f_M_wouldCost_89 (f_M_wouldCost_37 n) x1 x2 x3 x5 x6 (0 : Int32) σ5)
          else (
            f_M_wouldCost_89 (f_M_wouldCost_37 n) x1 x2 x3 x5 x6 (-4 : Int32) σ5)))
        else (
          f_M_wouldCost_89 (f_M_wouldCost_37 n) x1 x2 x3 x5 x6 (-12 : Int32) σ3))))
def f_M_wouldCost (x1 : Int32) (x2 : Int32) (x3 : Int32) (σ : SG) : Option (Int32 × SG) :=
  bnd (f_M_isSpan x1 x3 σ) (fun r2 σ1 =>
  if ¬ r2 = 0 then (
    bnd (f_M_whyNot x1 (0 : Int32) σ1) (fun r4 σ3 =>
    if r4 = 0 then (
      bnd (f_M_puts σ3) (fun _ σ5 =>
      f_M_wouldCost_37 FU x1 x2 x3 r4 (0 : Int32) (0 : Int32) σ5))
    else (
      some (r4, σ3))))
  else (
    some ((-1 : Int32), σ1)))
def f_M_shelf_106 (x1 : Int32) (x2 : Int32) (x3 : Int32) (xs0 : Int32) (xs1 : Int32) (σ : SG) : Option (Int32 × SG) :=
  gd (ix xs1 4) (
  sx (uI σ 164 (nx xs1) xs0) (fun σ1 =>
  if ¬ x2 = (1 : Int32) then (
    gd (ix x1 4) (
    sx (uI σ1 165 (nx x1) (0 : Int32)) (fun σ2 =>
    some ((1 : Int32), σ2))))
  else (
    gd (ix x3 4) (
    gd (ix x1 4) (
    sx (uI σ1 165 (nx x1) (σ1.1 160 (nx x3))) (fun σ3 =>
    some ((1 : Int32), σ3)))))))
def f_M_shelf_77 (x1 : Int32) (x2 : Int32) (x3 : Int32) (xs0 : Int32) (xs1 : Int32) (σ : SG) : Option (Int32 × SG) :=
  gd (ix xs1 4) (
  sx (uI σ 163 (nx xs1) xs0) (fun σ1 =>
  if ¬ x2 = 0 then (
    if ¬ x2 = (1 : Int32) then (
      f_M_shelf_106 x1 x2 x3 (0 : Int32) x1 σ1)
    else (
      gd (ix x3 4) (
      f_M_shelf_106 x1 x2 x3 (σ1.1 161 (nx x3)) x1 σ1)))
  else (
    f_M_shelf_106 x1 x2 x3 x3 x1 σ1)))
def f_M_shelf_45 (x1 : Int32) (x2 : Int32) (x3 : Int32) (σ : SG) : Option (Int32 × SG) :=
  if ¬ x2 = 0 then (
    if ¬ x2 = (1 : Int32) then (
      f_M_shelf_77 x1 x2 x3 (0 : Int32) x1 σ)
    else (
      gd (ix x3 4) (
      if (σ.1 160 (nx x3)) < 0 then (
        f_M_shelf_77 x1 x2 x3 (0 : Int32) x1 σ)
      else (
        f_M_shelf_77 x1 x2 x3 (2 : Int32) x1 σ))))
  else (
    f_M_shelf_77 x1 x2 x3 (1 : Int32) x1 σ)
def f_M_shelf (x1 : Int32) (x2 : Int32) (x3 : Int32) (σ : SG) : Option (Int32 × SG) :=
  bnd (f_M_isOne x1 σ) (fun r2 σ1 =>
  if r2 = 0 then (
    some ((-1 : Int32), σ1))
  else (
    bnd (f_M_in x2.toInt64 (0 : Int64) (2 : Int64) σ1) (fun r4 σ3 =>
    if r4 = 0 then (
      some ((-1 : Int32), σ3))
    else (
      if ¬ x2 = 0 then (
        if ¬ x2 = (1 : Int32) then (
          f_M_shelf_45 x1 x2 x3 σ3)
        else (
          bnd (f_M_isOne x3 σ3) (fun r6 σ5 =>
          if ¬ r6 = 0 then (
            f_M_shelf_45 x1 x2 x3 σ5)
          else (
            some ((-1 : Int32), σ5)))))
      else (
        bnd (f_M_isPerson x3 σ3) (fun r8 σ7 =>
        if r8 = 0 then (
          some ((-1 : Int32), σ7))
        else (
          if ¬ x2 = (1 : Int32) then (
            f_M_shelf_45 x1 x2 x3 σ7)
          else (
            bnd (f_M_isOne x3 σ7) (fun r10 σ9 =>
            if ¬ r10 = 0 then (
              f_M_shelf_45 x1 x2 x3 σ9)
            else (
              some ((-1 : Int32), σ9)))))))))))
def f_M_onShelf (x1 : Int32) (σ : SG) : Option (Int32 × SG) :=
  bnd (f_M_isOne x1 σ) (fun r2 σ1 =>
  if r2 = 0 then (
    some ((-1 : Int32), σ1))
  else (
    gd (ix x1 4) (
    if ¬ (σ1.1 163 (nx x1)) = (1 : Int32) then (
      some ((-1 : Int32), σ1))
    else (
      gd (ix x1 4) (
      bnd (f_M_isPerson (σ1.1 164 (nx x1)) σ1) (fun r4 σ3 =>
      if r4 = 0 then (
        some ((-1 : Int32), σ3))
      else (
        gd (ix x1 4) (
        some (σ3.1 164 (nx x1), σ3)))))))))
def f_M_taken_58 (x1 : Int32) (x2 : Int32) (x3 : Int32) (σ : SG) : Option (Int32 × SG) :=
  if x3 < 0 then (
    gd (ix x1 4) (
    if ¬ (x2 - (10 : Int32)) = (σ.1 165 (nx x1)) then (
      if (0 : Int32) = 0 then (
        some ((-13 : Int32), σ))
      else (
        gd (ix x1 4) (
        some (σ.1 164 (nx x1), σ))))
    else (
      if (1 : Int32) = 0 then (
        some ((-13 : Int32), σ))
      else (
        gd (ix x1 4) (
        some (σ.1 164 (nx x1), σ))))))
  else (
    if (6 : Int32) ≤ x2 then (
      if (0 : Int32) = 0 then (
        some ((-13 : Int32), σ))
      else (
        gd (ix x1 4) (
        some (σ.1 164 (nx x1), σ))))
    else (
      bnd (f_M_its x3 (0 : Int32) σ) (fun r2 σ1 =>
      bnd (f_M_isUnder r2 x2 σ1) (fun r4 σ3 =>
      if r4 = 0 then (
        if (0 : Int32) = 0 then (
          some ((-13 : Int32), σ3))
        else (
          gd (ix x1 4) (
          some (σ3.1 164 (nx x1), σ3))))
      else (
        if (1 : Int32) = 0 then (
          some ((-13 : Int32), σ3))
        else (
          gd (ix x1 4) (
          some (σ3.1 164 (nx x1), σ3))))))))
def f_M_taken (x1 : Int32) (x2 : Int32) (σ : SG) : Option (Int32 × SG) :=
  bnd (f_M_isOne x1 σ) (fun r2 σ1 =>
  if r2 = 0 then (
    some ((-1 : Int32), σ1))
  else (
    bnd (f_M_in x2.toInt64 (0 : Int64) (5 : Int64) σ1) (fun r4 σ3 =>
    if ¬ r4 = 0 then (
      bnd (f_M_onShelf x1 σ3) (fun r6 σ5 =>
      if 0 ≤ r6 then (
        f_M_taken_58 x1 x2 r6 σ5)
      else (
        gd (ix x1 4) (
        if (2 : Int32) ≤ (σ5.1 163 (nx x1)) then (
          f_M_taken_58 x1 x2 r6 σ5)
        else (
          some ((-11 : Int32), σ5))))))
    else (
      bnd (f_M_in x2.toInt64 (10 : Int64) (14 : Int64) σ3) (fun r8 σ7 =>
      if ¬ r8 = 0 then (
        bnd (f_M_onShelf x1 σ7) (fun r10 σ9 =>
        if 0 ≤ r10 then (
          f_M_taken_58 x1 x2 r10 σ9)
        else (
          gd (ix x1 4) (
          if (2 : Int32) ≤ (σ9.1 163 (nx x1)) then (
            f_M_taken_58 x1 x2 r10 σ9)
          else (
            some ((-11 : Int32), σ9))))))
      else (
        some ((-1 : Int32), σ7)))))))
def f_M_runs (x1 : Int32) (σ : SG) : Option (Unit × SG) :=
  if ¬ (σ.1 148 44) = 0 then (
    some ((), σ))
  else (
    if (30 : Int32) ≤ (σ.1 148 40) then (
      sx (uI σ 148 40 ((σ.1 148 40) + (1 : Int32))) (fun σ1 =>
      some ((), σ1)))
    else (
      gd (ix (σ.1 148 40) 30) (
      sx (uI σ 166 (nx (σ.1 148 40)) x1) (fun σ2 =>
      sx (uI σ2 148 40 ((σ2.1 148 40) + (1 : Int32))) (fun σ3 =>
      some ((), σ3))))))
def f_M_gives_28 (x1 : Int32) (σ : SG) : Option (Int32 × SG) :=
  bnd (f_M_runs (10 : Int32) σ) (fun _ σ1 =>
  lx (x1 + (σ1.1 148 42)) (fun y2 =>
  if ¬ (σ1.1 148 43) = (1 : Int32) then (
    if ¬ (σ1.1 148 43) = (3 : Int32) then (
      some (y2, σ1))
    else (
      some (y2 - (1 : Int32), σ1)))
  else (
    some (y2 * (2 : Int32), σ1))))
def f_M_gives (x1 : Int32) (σ : SG) : Option (Int32 × SG) :=
  if ¬ (σ.1 148 43) = (1 : Int32) then (
    if ¬ (σ.1 148 43) = (3 : Int32) then (
      f_M_gives_28 x1 σ)
    else (
      bnd (f_M_runs (50 : Int32) σ) (fun _ σ1 =>
      f_M_gives_28 x1 σ1)))
  else (
    bnd (f_M_runs (20 : Int32) σ) (fun _ σ2 =>
    if ¬ (σ2.1 148 43) = (3 : Int32) then (
      f_M_gives_28 x1 σ2)
    else (
      bnd (f_M_runs (50 : Int32) σ2) (fun _ σ3 =>
      f_M_gives_28 x1 σ3))))
def f_M_takes_46 (x1 : Int32) (x2 : Int32) (σ : SG) : Option (Int32 × SG) :=
  bnd (f_M_runs (11 : Int32) σ) (fun _ σ1 =>
  bnd (f_M_gives x1 σ1) (fun r3 σ2 =>
  lx (r3 - (σ2.1 148 41)) (fun y4 =>
  if x2 = 0 then (
    if ¬ (σ2.1 148 43) = (5 : Int32) then (
      some (y4, σ2))
    else (
      some ((0 : Int32) - y4, σ2)))
  else (
    some (y4 ^^^ (σ2.1 148 41), σ2)))))
def f_M_takes_21 (x1 : Int32) (xs0 : Int32) (σ : SG) : Option (Int32 × SG) :=
  if xs0 = 0 then (
    if ¬ (σ.1 148 43) = (5 : Int32) then (
      f_M_takes_46 x1 xs0 σ)
    else (
      bnd (f_M_runs (60 : Int32) σ) (fun _ σ1 =>
      f_M_takes_46 x1 xs0 σ1)))
  else (
    bnd (f_M_runs (30 : Int32) σ) (fun _ σ2 =>
    if ¬ (σ2.1 148 43) = (5 : Int32) then (
      f_M_takes_46 x1 xs0 σ2)
    else (
      bnd (f_M_runs (60 : Int32) σ2) (fun _ σ3 =>
      f_M_takes_46 x1 xs0 σ3))))
def f_M_takes (x1 : Int32) (σ : SG) : Option (Int32 × SG) :=
  if (σ.1 148 43) = (2 : Int32) then (
    f_M_takes_21 x1 (1 : Int32) σ)
  else (
    if ¬ (σ.1 148 43) = (3 : Int32) then (
      f_M_takes_21 x1 (0 : Int32) σ)
    else (
      f_M_takes_21 x1 (1 : Int32) σ))
def f_M_plainHalves (x1 : Int32) (σ : SG) : Option (Int32 × SG) :=
  bnd (f_M_runs (12 : Int32) σ) (fun _ σ1 =>
  if ¬ (σ1.1 148 42) = (σ1.1 148 41) then (
    gd (¬ ((σ1.1 148 42) - (σ1.1 148 41)) = 0) (
    some (x1 / ((σ1.1 148 42) - (σ1.1 148 41)), σ1)))
  else (
    sx (uI σ1 148 44 (1 : Int32)) (fun σ2 =>
    some ((0 : Int32), σ2))))
def f_M_halves (x1 : Int32) (σ : SG) : Option (Int32 × SG) :=
  if ¬ (σ.1 148 43) = (4 : Int32) then (
    if ¬ (σ.1 148 43) = (5 : Int32) then (
      bnd (f_M_plainHalves x1 σ) (fun r2 σ1 =>
      some (r2, σ1)))
    else (
      bnd (f_M_runs (61 : Int32) σ) (fun _ σ3 =>
      bnd (f_M_runs (40 : Int32) σ3) (fun _ σ4 =>
      bnd (f_M_plainHalves (x1 - (3 : Int32)) σ4) (fun r6 σ5 =>
      if (σ5.1 148 44) = 0 then (
        bnd (f_M_gives (σ5.1 148 41) σ5) (fun r8 σ7 =>
        some (r6 - r8, σ7)))
      else (
        some ((0 : Int32), σ5)))))))
  else (
    bnd (f_M_runs (40 : Int32) σ) (fun _ σ9 =>
    bnd (f_M_plainHalves (x1 - (3 : Int32)) σ9) (fun r11 σ10 =>
    some (r11, σ10))))
def f_M_owes_14 (x1 : Int32) (σ : SG) : Option (Int32 × SG) :=
  bnd (f_M_runs (13 : Int32) σ) (fun _ σ1 =>
  bnd (f_M_takes x1 σ1) (fun r3 σ2 =>
  lx (r3 ^^^ (σ2.1 148 42)) (fun y4 =>
  if ¬ (σ2.1 148 43) = (3 : Int32) then (
    some (y4, σ2))
  else (
    bnd (f_M_halves (σ2.1 148 42) σ2) (fun r6 σ5 =>
    some (y4 + r6, σ5))))))
def f_M_owes (x1 : Int32) (σ : SG) : Option (Int32 × SG) :=
  if ¬ (σ.1 148 43) = (3 : Int32) then (
    f_M_owes_14 x1 σ)
  else (
    bnd (f_M_runs (51 : Int32) σ) (fun _ σ1 =>
    f_M_owes_14 x1 σ1))
def f_M_act (x1 : Int32) (x2 : Int32) (x3 : Int32) (σ : SG) : Option (Int32 × SG) :=
  sx (uI σ 148 40 (0 : Int32)) (fun σ1 =>
  sx (uI σ1 148 44 (0 : Int32)) (fun σ2 =>
  bnd (f_M_onShelf x1 σ2) (fun r4 σ3 =>
  sx (uI σ3 148 41 r4) (fun σ5 =>
  if (σ5.1 148 41) < 0 then (
    some ((0 : Int32), σ5))
  else (
    bnd (f_M_in x2.toInt64 (0 : Int64) (3 : Int64) σ5) (fun r7 σ6 =>
    if ¬ r7 = 0 then (
      bnd (f_M_its (σ6.1 148 41) (2 : Int32) σ6) (fun r9 σ8 =>
      sx (uI σ8 148 42 r9) (fun σ10 =>
      bnd (f_M_its (σ10.1 148 41) (0 : Int32) σ10) (fun r12 σ11 =>
      sx (uI σ11 148 43 r12) (fun σ13 =>
      if ¬ x2 = 0 then (
        if ¬ x2 = (1 : Int32) then (
          if ¬ x2 = (2 : Int32) then (
            bnd (f_M_owes x3 σ13) (fun r15 σ14 =>
            if (σ14.1 148 44) = 0 then (
              some (r15, σ14))
            else (
              some ((-15 : Int32), σ14))))
          else (
            bnd (f_M_halves x3 σ13) (fun r17 σ16 =>
            if (σ16.1 148 44) = 0 then (
              some (r17, σ16))
            else (
              some ((-15 : Int32), σ16)))))
        else (
          bnd (f_M_takes x3 σ13) (fun r19 σ18 =>
          if (σ18.1 148 44) = 0 then (
            some (r19, σ18))
          else (
            some ((-15 : Int32), σ18)))))
      else (
        bnd (f_M_gives x3 σ13) (fun r21 σ20 =>
        if (σ20.1 148 44) = 0 then (
          some (r21, σ20))
        else (
          some ((-15 : Int32), σ20)))))))))
    else (
      some ((0 : Int32), σ6))))))))
def f_M_traced  (σ : SG) : Option (Int32 × SG) :=
  if (30 : Int32) ≤ (σ.1 148 40) then (
    some ((30 : Int32), σ))
  else (
    some (σ.1 148 40, σ))
def f_M_trace (x1 : Int32) (σ : SG) : Option (Int32 × SG) :=
  bnd (f_M_traced σ) (fun r2 σ1 =>
  bnd (f_M_in x1.toInt64 (0 : Int64) ((r2 - (1 : Int32)).toInt64) σ1) (fun r4 σ3 =>
  if r4 = 0 then (
    some ((-3 : Int32), σ3))
  else (
    gd (ix x1 30) (
    some (σ3.1 166 (nx x1), σ3)))))
def f_M_many (x1 : Int32) (σ : SG) : Option (Int32 × SG) :=
  if x1 = (0 : Int32) then (
    some (σ.1 149 0, σ))
  else if x1 = (1 : Int32) then (
    some (σ.1 149 1, σ))
  else if x1 = (2 : Int32) then (
    some (σ.1 149 4, σ))
  else if x1 = (3 : Int32) then (
    some (σ.1 149 3, σ))
  else if x1 = (4 : Int32) then (
    some (σ.1 148 24, σ))
  else if x1 = (5 : Int32) then (
    some (σ.1 148 26, σ))
  else if x1 = (6 : Int32) then (
    bnd (f_M_traced σ) (fun r2 σ1 =>
    some (r2, σ1)))
  else (
    some ((-1 : Int32), σ))
def f_M_keep_2  : Nat → Int32 → SG → Option (Int32 × SG)
  | 0, _, _ => none
  | n + 1, x1, σ =>
    if (340 : Int32) ≤ x1 then (
      sx (uI σ 148 3 (1 : Int32)) (fun σ1 =>
      some ((1 : Int32), σ1)))
    else (
      gd (ix x1 340) (
      gd (ix x1 340) (
      sx (uI σ 150 (nx x1) (σ.1 149 (nx x1))) (fun σ2 =>
      lx (x1 + (1 : Int32)) (fun y3 =>
      f_M_keep_2 n y3 σ2)))))
def f_M_keep  (σ : SG) : Option (Int32 × SG) :=
  f_M_keep_2 FU (0 : Int32) σ
def f_M_again_12  : Nat → Int32 → SG → Option (Int32 × SG)
  | 0, _, _ => none
  | n + 1, x1, σ =>
    if (340 : Int32) ≤ x1 then (
      some (σ.1 149 0, σ))
    else (
      gd (ix x1 340) (
      gd (ix x1 340) (
      sx (uI σ 149 (nx x1) (σ.1 150 (nx x1))) (fun σ1 =>
      lx (x1 + (1 : Int32)) (fun y2 =>
      f_M_again_12 n y2 σ1)))))
def f_M_again  (σ : SG) : Option (Int32 × SG) :=
  if ¬ (σ.1 148 3) = 0 then (
    f_M_again_12 FU (0 : Int32) σ)
  else (
    some ((-3 : Int32), σ))
def f_L_law_446 (N : Nat) (xs : Nat → Int32) (K18 : Int32 → SG → Option (Int32 × SG)) (x3 : Int32) (xs0 : Int32) (xs1 : Int32) (xs2 : Int32) (σ : SG) : Option (Int32 × SG) :=
  bnd (f_H_meets xs2 xs1 xs0 σ) (fun r2 σ1 =>
  gd (ix (x3 + (1 : Int32)) N) (
  gd (ix (x3 + (2 : Int32)) N) (
  gd (ix (x3 + (3 : Int32)) N) (
  if (xs (nx (x3 + (3 : Int32)))) = 0 then (
    bnd (f_M_meets (xs (nx (x3 + (1 : Int32)))) (xs (nx (x3 + (2 : Int32)))) (0 : Int32) σ1) (fun r4 σ3 =>
    if r2 = r4 then (
      lx (x3 + (5 : Int32)) (fun y5 =>
      K18 y5 σ3))
    else (
      some ((0 : Int32), σ3))))
  else (
    bnd (f_M_meets (xs (nx (x3 + (1 : Int32)))) (xs (nx (x3 + (2 : Int32)))) (1 : Int32) σ1) (fun r7 σ6 =>
    if r2 = r7 then (
      lx (x3 + (5 : Int32)) (fun y8 =>
      K18 y8 σ6))
    else (
      some ((0 : Int32), σ6))))))))
def f_L_law_18 (N : Nat) (xs : Nat → Int32) : Nat → Int32 → SG → Option (Int32 × SG)
  | 0, _, _ => none
  | n + 1, x3, σ =>
    if ((Int32.ofNat N) - (5 : Int32)) < x3 then (
      some ((1 : Int32), σ))
    else (
      gd (ix x3 N) (
      if ((xs (nx x3)) &&& (63 : Int32)) = (0 : Int32) then (
        gd (ix (x3 + (1 : Int32)) N) (
        gd (ix (x3 + (2 : Int32)) N) (
        gd (ix (x3 + (3 : Int32)) N) (
        gd (ix (x3 + (4 : Int32)) N) (
        bnd (f_H_person (xs (nx (x3 + (1 : Int32)))) (xs (nx (x3 + (2 : Int32)))) (xs (nx (x3 + (3 : Int32)))) (xs (nx (x3 + (4 : Int32)))) σ) (fun r2 σ1 =>
        gd (ix (x3 + (1 : Int32)) N) (
        gd (ix (x3 + (2 : Int32)) N) (
        gd (ix (x3 + (3 : Int32)) N) (
        gd (ix (x3 + (4 : Int32)) N) (
        bnd (f_M_person (xs (nx (x3 + (1 : Int32)))) (xs (nx (x3 + (2 : Int32)))) (xs (nx (x3 + (3 : Int32)))) (xs (nx (x3 + (4 : Int32)))) σ1) (fun r4 σ3 =>
        if r2 = r4 then (
          lx (x3 + (5 : Int32)) (fun y5 =>
          f_L_law_18 N xs n y5 σ3))
        else (
          some ((0 : Int32), σ3)))))))))))))
      else if ((xs (nx x3)) &&& (63 : Int32)) = (1 : Int32) then (
        gd (ix (x3 + (1 : Int32)) N) (
        gd (ix (x3 + (2 : Int32)) N) (
        bnd (f_H_personOf (xs (nx (x3 + (1 : Int32)))) (xs (nx (x3 + (2 : Int32)))) σ) (fun r7 σ6 =>
        gd (ix (x3 + (1 : Int32)) N) (
        gd (ix (x3 + (2 : Int32)) N) (
        bnd (f_M_personOf (xs (nx (x3 + (1 : Int32)))) (xs (nx (x3 + (2 : Int32)))) σ6) (fun r9 σ8 =>
        if r7 = r9 then (
          lx (x3 + (5 : Int32)) (fun y10 =>
          f_L_law_18 N xs n y10 σ8))
        else (
          some ((0 : Int32), σ8)))))))))
      else if ((xs (nx x3)) &&& (63 : Int32)) = (2 : Int32) then (
        gd (ix (x3 + (1 : Int32)) N) (
        gd (ix (x3 + (2 : Int32)) N) (
        gd (ix (x3 + (3 : Int32)) N) (
        bnd (f_H_change (xs (nx (x3 + (1 : Int32)))) (xs (nx (x3 + (2 : Int32)))) (xs (nx (x3 + (3 : Int32)))) σ) (fun r12 σ11 =>
        gd (ix (x3 + (1 : Int32)) N) (
        gd (ix (x3 + (2 : Int32)) N) (
        gd (ix (x3 + (3 : Int32)) N) (
        bnd (f_M_change (xs (nx (x3 + (1 : Int32)))) (xs (nx (x3 + (2 : Int32)))) (xs (nx (x3 + (3 : Int32)))) σ11) (fun r14 σ13 =>
        if r12 = r14 then (
          lx (x3 + (5 : Int32)) (fun y15 =>
          f_L_law_18 N xs n y15 σ13))
        else (
          some ((0 : Int32), σ13)))))))))))
      else if ((xs (nx x3)) &&& (63 : Int32)) = (3 : Int32) then (
        gd (ix (x3 + (1 : Int32)) N) (
        gd (ix (x3 + (2 : Int32)) N) (
        bnd (f_H_remake (xs (nx (x3 + (1 : Int32)))) (xs (nx (x3 + (2 : Int32)))) σ) (fun r17 σ16 =>
        gd (ix (x3 + (1 : Int32)) N) (
        gd (ix (x3 + (2 : Int32)) N) (
        bnd (f_M_remake (xs (nx (x3 + (1 : Int32)))) (xs (nx (x3 + (2 : Int32)))) σ16) (fun r19 σ18 =>
        if r17 = r19 then (
          lx (x3 + (5 : Int32)) (fun y20 =>
          f_L_law_18 N xs n y20 σ18))
        else (
          some ((0 : Int32), σ18)))))))))
      else if ((xs (nx x3)) &&& (63 : Int32)) = (4 : Int32) then (
        gd (ix (x3 + (1 : Int32)) N) (
        gd (ix (x3 + (2 : Int32)) N) (
        gd (ix (x3 + (3 : Int32)) N) (
        if (xs (nx (x3 + (3 : Int32)))) = 0 then (
          f_L_law_446 N xs (f_L_law_18 N xs n) x3 (0 : Int32) (xs (nx (x3 + (2 : Int32)))) (xs (nx (x3 + (1 : Int32)))) σ)
        else (
          f_L_law_446 N xs (f_L_law_18 N xs n) x3 (1 : Int32) (xs (nx (x3 + (2 : Int32)))) (xs (nx (x3 + (1 : Int32)))) σ)))))
      else if ((xs (nx x3)) &&& (63 : Int32)) = (5 : Int32) then (
        gd (ix (x3 + (1 : Int32)) N) (
        gd (ix (x3 + (2 : Int32)) N) (
        bnd (f_H_worth (xs (nx (x3 + (1 : Int32)))) (xs (nx (x3 + (2 : Int32)))) σ) (fun r22 σ21 =>
        gd (ix (x3 + (1 : Int32)) N) (
        gd (ix (x3 + (2 : Int32)) N) (
        bnd (f_M_worth (xs (nx (x3 + (1 : Int32)))) (xs (nx (x3 + (2 : Int32)))) σ21) (fun r24 σ23 =>
        if r22 = r24 then (
          lx (x3 + (5 : Int32)) (fun y25 =>
          f_L_law_18 N xs n y25 σ23))
        else (
          some ((0 : Int32), σ23)))))))))
      else if ((xs (nx x3)) &&& (63 : Int32)) = (6 : Int32) then (
        gd (ix (x3 + (1 : Int32)) N) (
        gd (ix (x3 + (2 : Int32)) N) (
        bnd (f_H_jar (xs (nx (x3 + (1 : Int32)))) (xs (nx (x3 + (2 : Int32)))) σ) (fun r27 σ26 =>
        gd (ix (x3 + (1 : Int32)) N) (
        gd (ix (x3 + (2 : Int32)) N) (
        bnd (f_M_jar (xs (nx (x3 + (1 : Int32)))) (xs (nx (x3 + (2 : Int32)))) σ26) (fun r29 σ28 =>
        if r27 = r29 then (
          lx (x3 + (5 : Int32)) (fun y30 =>
          f_L_law_18 N xs n y30 σ28))
        else (
          some ((0 : Int32), σ28)))))))))
      else if ((xs (nx x3)) &&& (63 : Int32)) = (7 : Int32) then (
        gd (ix (x3 + (1 : Int32)) N) (
        bnd (f_H_fee (xs (nx (x3 + (1 : Int32)))) σ) (fun r32 σ31 =>
        gd (ix (x3 + (1 : Int32)) N) (
        bnd (f_M_fee (xs (nx (x3 + (1 : Int32)))) σ31) (fun r34 σ33 =>
        if r32 = r34 then (
          lx (x3 + (5 : Int32)) (fun y35 =>
          f_L_law_18 N xs n y35 σ33))
        else (
          some ((0 : Int32), σ33)))))))
      else if ((xs (nx x3)) &&& (63 : Int32)) = (8 : Int32) then (
        gd (ix (x3 + (1 : Int32)) N) (
        gd (ix (x3 + (2 : Int32)) N) (
        bnd (f_H_thing (xs (nx (x3 + (1 : Int32)))) (xs (nx (x3 + (2 : Int32)))) σ) (fun r37 σ36 =>
        gd (ix (x3 + (1 : Int32)) N) (
        gd (ix (x3 + (2 : Int32)) N) (
        bnd (f_M_thing (xs (nx (x3 + (1 : Int32)))) (xs (nx (x3 + (2 : Int32)))) σ36) (fun r39 σ38 =>
        if r37 = r39 then (
          lx (x3 + (5 : Int32)) (fun y40 =>
          f_L_law_18 N xs n y40 σ38))
        else (
          some ((0 : Int32), σ38)))))))))
      else if ((xs (nx x3)) &&& (63 : Int32)) = (9 : Int32) then (
        gd (ix (x3 + (1 : Int32)) N) (
        bnd (f_H_state (xs (nx (x3 + (1 : Int32)))) σ) (fun r42 σ41 =>
        gd (ix (x3 + (1 : Int32)) N) (
        bnd (f_M_state (xs (nx (x3 + (1 : Int32)))) σ41) (fun r44 σ43 =>
        if r42 = r44 then (
          lx (x3 + (5 : Int32)) (fun y45 =>
          f_L_law_18 N xs n y45 σ43))
        else (
          some ((0 : Int32), σ43)))))))
      else if ((xs (nx x3)) &&& (63 : Int32)) = (10 : Int32) then (
        gd (ix (x3 + (1 : Int32)) N) (
        gd (ix (x3 + (2 : Int32)) N) (
        gd (ix (x3 + (3 : Int32)) N) (
        bnd (f_H_feed ((lsl ((xs (nx (x3 + (1 : Int32)))).toInt64) (32 : Int32)) ||| (((xs (nx (x3 + (2 : Int32)))).toInt64) &&& (4294967295 : Int64))) (xs (nx (x3 + (3 : Int32)))) σ) (fun r47 σ46 =>
        gd (ix (x3 + (1 : Int32)) N) (
        gd (ix (x3 + (2 : Int32)) N) (
        gd (ix (x3 + (3 : Int32)) N) (
        bnd (f_M_feed ((lsl ((xs (nx (x3 + (1 : Int32)))).toInt64) (32 : Int32)) ||| (((xs (nx (x3 + (2 : Int32)))).toInt64) &&& (4294967295 : Int64))) (xs (nx (x3 + (3 : Int32)))) σ46) (fun r49 σ48 =>
        if r47 = r49 then (
          lx (x3 + (5 : Int32)) (fun y50 =>
          f_L_law_18 N xs n y50 σ48))
        else (
          some ((0 : Int32), σ48)))))))))))
      else if ((xs (nx x3)) &&& (63 : Int32)) = (11 : Int32) then (
        bnd (f_H_rules σ) (fun r52 σ51 =>
        bnd (f_M_rules σ51) (fun r54 σ53 =>
        if r52 = r54 then (
          lx (x3 + (5 : Int32)) (fun y55 =>
          f_L_law_18 N xs n y55 σ53))
        else (
          some ((0 : Int32), σ53)))))
      else if ((xs (nx x3)) &&& (63 : Int32)) = (12 : Int32) then (
        gd (ix (x3 + (1 : Int32)) N) (
        bnd (f_H_cans (xs (nx (x3 + (1 : Int32)))) σ) (fun r57 σ56 =>
        gd (ix (x3 + (1 : Int32)) N) (
        bnd (f_M_cans (xs (nx (x3 + (1 : Int32)))) σ56) (fun r59 σ58 =>
        if r57 = r59 then (
          lx (x3 + (5 : Int32)) (fun y60 =>
          f_L_law_18 N xs n y60 σ58))
        else (
          some ((0 : Int32), σ58)))))))
      else if ((xs (nx x3)) &&& (63 : Int32)) = (13 : Int32) then (
        gd (ix (x3 + (1 : Int32)) N) (
        gd (ix (x3 + (2 : Int32)) N) (
        bnd (f_H_make (xs (nx (x3 + (1 : Int32)))) (xs (nx (x3 + (2 : Int32)))) σ) (fun r62 σ61 =>
        gd (ix (x3 + (1 : Int32)) N) (
        gd (ix (x3 + (2 : Int32)) N) (
        bnd (f_M_make (xs (nx (x3 + (1 : Int32)))) (xs (nx (x3 + (2 : Int32)))) σ61) (fun r64 σ63 =>
        if r62 = r64 then (
          lx (x3 + (5 : Int32)) (fun y65 =>
          f_L_law_18 N xs n y65 σ63))
        else (
          some ((0 : Int32), σ63)))))))))
      else if ((xs (nx x3)) &&& (63 : Int32)) = (14 : Int32) then (
        bnd (f_H_back σ) (fun r67 σ66 =>
        bnd (f_M_back σ66) (fun r69 σ68 =>
        if r67 = r69 then (
          lx (x3 + (5 : Int32)) (fun y70 =>
          f_L_law_18 N xs n y70 σ68))
        else (
          some ((0 : Int32), σ68)))))
      else if ((xs (nx x3)) &&& (63 : Int32)) = (15 : Int32) then (
        bnd (f_H_fewest σ) (fun r72 σ71 =>
        bnd (f_M_fewest σ71) (fun r74 σ73 =>
        if r72 = r74 then (
          lx (x3 + (5 : Int32)) (fun y75 =>
          f_L_law_18 N xs n y75 σ73))
        else (
          some ((0 : Int32), σ73)))))
      else if ((xs (nx x3)) &&& (63 : Int32)) = (16 : Int32) then (
        gd (ix (x3 + (1 : Int32)) N) (
        bnd (f_H_ith (xs (nx (x3 + (1 : Int32)))) σ) (fun r77 σ76 =>
        gd (ix (x3 + (1 : Int32)) N) (
        bnd (f_M_ith (xs (nx (x3 + (1 : Int32)))) σ76) (fun r79 σ78 =>
        if r77 = r79 then (
          lx (x3 + (5 : Int32)) (fun y80 =>
          f_L_law_18 N xs n y80 σ78))
        else (
          some ((0 : Int32), σ78)))))))
      else if ((xs (nx x3)) &&& (63 : Int32)) = (17 : Int32) then (
        gd (ix (x3 + (1 : Int32)) N) (
        bnd (f_H_ways (xs (nx (x3 + (1 : Int32)))) σ) (fun r82 σ81 =>
        gd (ix (x3 + (1 : Int32)) N) (
        bnd (f_M_ways (xs (nx (x3 + (1 : Int32)))) σ81) (fun r84 σ83 =>
        if r82 = r84 then (
          lx (x3 + (5 : Int32)) (fun y85 =>
          f_L_law_18 N xs n y85 σ83))
        else (
          some ((0 : Int32), σ83)))))))
      else if ((xs (nx x3)) &&& (63 : Int32)) = (18 : Int32) then (
        gd (ix (x3 + (1 : Int32)) N) (
        bnd (f_H_most (xs (nx (x3 + (1 : Int32)))) σ) (fun r87 σ86 =>
        gd (ix (x3 + (1 : Int32)) N) (
        bnd (f_M_most (xs (nx (x3 + (1 : Int32)))) σ86) (fun r89 σ88 =>
        if r87 = r89 then (
          lx (x3 + (5 : Int32)) (fun y90 =>
          f_L_law_18 N xs n y90 σ88))
        else (
          some ((0 : Int32), σ88)))))))
      else if ((xs (nx x3)) &&& (63 : Int32)) = (19 : Int32) then (
        gd (ix (x3 + (1 : Int32)) N) (
        bnd (f_H_cheapest (xs (nx (x3 + (1 : Int32)))) σ) (fun r92 σ91 =>
        gd (ix (x3 + (1 : Int32)) N) (
        bnd (f_M_cheapest (xs (nx (x3 + (1 : Int32)))) σ91) (fun r94 σ93 =>
        if r92 = r94 then (
          lx (x3 + (5 : Int32)) (fun y95 =>
          f_L_law_18 N xs n y95 σ93))
        else (
          some ((0 : Int32), σ93)))))))
      else if ((xs (nx x3)) &&& (63 : Int32)) = (20 : Int32) then (
        gd (ix (x3 + (1 : Int32)) N) (
        gd (ix (x3 + (2 : Int32)) N) (
        bnd (f_H_cheaply (xs (nx (x3 + (1 : Int32)))) (xs (nx (x3 + (2 : Int32)))) σ) (fun r97 σ96 =>
        gd (ix (x3 + (1 : Int32)) N) (
        gd (ix (x3 + (2 : Int32)) N) (
        bnd (f_M_cheaply (xs (nx (x3 + (1 : Int32)))) (xs (nx (x3 + (2 : Int32)))) σ96) (fun r99 σ98 =>
        if r97 = r99 then (
          lx (x3 + (5 : Int32)) (fun y100 =>
          f_L_law_18 N xs n y100 σ98))
        else (
          some ((0 : Int32), σ98)))))))))
      else if ((xs (nx x3)) &&& (63 : Int32)) = (21 : Int32) then (
        bnd (f_H_bars σ) (fun r102 σ101 =>
        bnd (f_M_bars σ101) (fun r104 σ103 =>
        if r102 = r104 then (
          lx (x3 + (5 : Int32)) (fun y105 =>
          f_L_law_18 N xs n y105 σ103))
        else (
          some ((0 : Int32), σ103)))))
      else if ((xs (nx x3)) &&& (63 : Int32)) = (22 : Int32) then (
        bnd (f_H_jars σ) (fun r107 σ106 =>
        bnd (f_M_jars σ106) (fun r109 σ108 =>
        if r107 = r109 then (
          lx (x3 + (5 : Int32)) (fun y110 =>
          f_L_law_18 N xs n y110 σ108))
        else (
          some ((0 : Int32), σ108)))))
      else if ((xs (nx x3)) &&& (63 : Int32)) = (23 : Int32) then (
        gd (ix (x3 + (1 : Int32)) N) (
        bnd (f_H_feeFor (xs (nx (x3 + (1 : Int32)))) σ) (fun r112 σ111 =>
        gd (ix (x3 + (1 : Int32)) N) (
        bnd (f_M_feeFor (xs (nx (x3 + (1 : Int32)))) σ111) (fun r114 σ113 =>
        if r112 = r114 then (
          lx (x3 + (5 : Int32)) (fun y115 =>
          f_L_law_18 N xs n y115 σ113))
        else (
          some ((0 : Int32), σ113)))))))
      else if ((xs (nx x3)) &&& (63 : Int32)) = (24 : Int32) then (
        gd (ix (x3 + (1 : Int32)) N) (
        bnd (f_H_rings (xs (nx (x3 + (1 : Int32)))) σ) (fun r117 σ116 =>
        gd (ix (x3 + (1 : Int32)) N) (
        bnd (f_M_rings (xs (nx (x3 + (1 : Int32)))) σ116) (fun r119 σ118 =>
        if r117 = r119 then (
          lx (x3 + (5 : Int32)) (fun y120 =>
          f_L_law_18 N xs n y120 σ118))
        else (
          some ((0 : Int32), σ118)))))))
      else if ((xs (nx x3)) &&& (63 : Int32)) = (25 : Int32) then (
        gd (ix (x3 + (1 : Int32)) N) (
        gd (ix (x3 + (2 : Int32)) N) (
        bnd (f_H_ring (xs (nx (x3 + (1 : Int32)))) (xs (nx (x3 + (2 : Int32)))) σ) (fun r122 σ121 =>
        gd (ix (x3 + (1 : Int32)) N) (
        gd (ix (x3 + (2 : Int32)) N) (
        bnd (f_M_ring (xs (nx (x3 + (1 : Int32)))) (xs (nx (x3 + (2 : Int32)))) σ121) (fun r124 σ123 =>
        if r122 = r124 then (
          lx (x3 + (5 : Int32)) (fun y125 =>
          f_L_law_18 N xs n y125 σ123))
        else (
          some ((0 : Int32), σ123)))))))))
      else if ((xs (nx x3)) &&& (63 : Int32)) = (26 : Int32) then (
        gd (ix (x3 + (1 : Int32)) N) (
        gd (ix (x3 + (2 : Int32)) N) (
        bnd (f_H_comes (xs (nx (x3 + (1 : Int32)))) (xs (nx (x3 + (2 : Int32)))) σ) (fun r127 σ126 =>
        gd (ix (x3 + (1 : Int32)) N) (
        gd (ix (x3 + (2 : Int32)) N) (
        bnd (f_M_comes (xs (nx (x3 + (1 : Int32)))) (xs (nx (x3 + (2 : Int32)))) σ126) (fun r129 σ128 =>
        if r127 = r129 then (
          lx (x3 + (5 : Int32)) (fun y130 =>
          f_L_law_18 N xs n y130 σ128))
        else (
          some ((0 : Int32), σ128)))))))))
      else if ((xs (nx x3)) &&& (63 : Int32)) = (27 : Int32) then (
        gd (ix (x3 + (1 : Int32)) N) (
        gd (ix (x3 + (2 : Int32)) N) (
        bnd (f_H_dearest (xs (nx (x3 + (1 : Int32)))) (xs (nx (x3 + (2 : Int32)))) σ) (fun r132 σ131 =>
        gd (ix (x3 + (1 : Int32)) N) (
        gd (ix (x3 + (2 : Int32)) N) (
        bnd (f_M_dearest (xs (nx (x3 + (1 : Int32)))) (xs (nx (x3 + (2 : Int32)))) σ131) (fun r134 σ133 =>
        if r132 = r134 then (
          lx (x3 + (5 : Int32)) (fun y135 =>
          f_L_law_18 N xs n y135 σ133))
        else (
          some ((0 : Int32), σ133)))))))))
      else if ((xs (nx x3)) &&& (63 : Int32)) = (28 : Int32) then (
        gd (ix (x3 + (1 : Int32)) N) (
        bnd (f_H_game (xs (nx (x3 + (1 : Int32)))) σ) (fun r137 σ136 =>
        gd (ix (x3 + (1 : Int32)) N) (
        bnd (f_M_game (xs (nx (x3 + (1 : Int32)))) σ136) (fun r139 σ138 =>
        if r137 = r139 then (
          lx (x3 + (5 : Int32)) (fun y140 =>
          f_L_law_18 N xs n y140 σ138))
        else (
          some ((0 : Int32), σ138)))))))
      else if ((xs (nx x3)) &&& (63 : Int32)) = (29 : Int32) then (
        gd (ix (x3 + (1 : Int32)) N) (
        bnd (f_H_play (xs (nx (x3 + (1 : Int32)))) σ) (fun r142 σ141 =>
        gd (ix (x3 + (1 : Int32)) N) (
        bnd (f_M_play (xs (nx (x3 + (1 : Int32)))) σ141) (fun r144 σ143 =>
        if r142 = r144 then (
          lx (x3 + (5 : Int32)) (fun y145 =>
          f_L_law_18 N xs n y145 σ143))
        else (
          some ((0 : Int32), σ143)))))))
      else if ((xs (nx x3)) &&& (63 : Int32)) = (30 : Int32) then (
        gd (ix (x3 + (1 : Int32)) N) (
        gd (ix (x3 + (2 : Int32)) N) (
        gd (ix (x3 + (3 : Int32)) N) (
        bnd (f_H_report (xs (nx (x3 + (1 : Int32)))) (xs (nx (x3 + (2 : Int32)))) (xs (nx (x3 + (3 : Int32)))) σ) (fun r147 σ146 =>
        gd (ix (x3 + (1 : Int32)) N) (
        gd (ix (x3 + (2 : Int32)) N) (
        gd (ix (x3 + (3 : Int32)) N) (
        bnd (f_M_report (xs (nx (x3 + (1 : Int32)))) (xs (nx (x3 + (2 : Int32)))) (xs (nx (x3 + (3 : Int32)))) σ146) (fun r149 σ148 =>
        if r147 = r149 then (
          lx (x3 + (5 : Int32)) (fun y150 =>
          f_L_law_18 N xs n y150 σ148))
        else (
          some ((0 : Int32), σ148)))))))))))
      else if ((xs (nx x3)) &&& (63 : Int32)) = (31 : Int32) then (
        bnd (f_H_forget σ) (fun r152 σ151 =>
        bnd (f_M_forget σ151) (fun r154 σ153 =>
        if r152 = r154 then (
          lx (x3 + (5 : Int32)) (fun y155 =>
          f_L_law_18 N xs n y155 σ153))
        else (
          some ((0 : Int32), σ153)))))
      else if ((xs (nx x3)) &&& (63 : Int32)) = (32 : Int32) then (
        gd (ix (x3 + (1 : Int32)) N) (
        bnd (f_H_span (xs (nx (x3 + (1 : Int32)))) σ) (fun r157 σ156 =>
        gd (ix (x3 + (1 : Int32)) N) (
        bnd (f_M_span (xs (nx (x3 + (1 : Int32)))) σ156) (fun r159 σ158 =>
        if r157 = r159 then (
          lx (x3 + (5 : Int32)) (fun y160 =>
          f_L_law_18 N xs n y160 σ158))
        else (
          some ((0 : Int32), σ158)))))))
      else if ((xs (nx x3)) &&& (63 : Int32)) = (33 : Int32) then (
        bnd (f_H_liar σ) (fun r162 σ161 =>
        bnd (f_M_liar σ161) (fun r164 σ163 =>
        if r162 = r164 then (
          lx (x3 + (5 : Int32)) (fun y165 =>
          f_L_law_18 N xs n y165 σ163))
        else (
          some ((0 : Int32), σ163)))))
      else if ((xs (nx x3)) &&& (63 : Int32)) = (34 : Int32) then (
        gd (ix (x3 + (1 : Int32)) N) (
        bnd (f_H_seed (xs (nx (x3 + (1 : Int32)))) σ) (fun r167 σ166 =>
        gd (ix (x3 + (1 : Int32)) N) (
        bnd (f_M_seed (xs (nx (x3 + (1 : Int32)))) σ166) (fun r169 σ168 =>
        if r167 = r169 then (
          lx (x3 + (5 : Int32)) (fun y170 =>
          f_L_law_18 N xs n y170 σ168))
        else (
          some ((0 : Int32), σ168)))))))
      else if ((xs (nx x3)) &&& (63 : Int32)) = (35 : Int32) then (
        bnd (f_H_draw σ) (fun r172 σ171 =>
        bnd (f_M_draw σ171) (fun r174 σ173 =>
        if r172 = r174 then (
          lx (x3 + (5 : Int32)) (fun y175 =>
          f_L_law_18 N xs n y175 σ173))
        else (
          some ((0 : Int32), σ173)))))
      else if ((xs (nx x3)) &&& (63 : Int32)) = (36 : Int32) then (
        gd (ix (x3 + (1 : Int32)) N) (
        bnd (f_H_often (xs (nx (x3 + (1 : Int32)))) σ) (fun r177 σ176 =>
        gd (ix (x3 + (1 : Int32)) N) (
        bnd (f_M_often (xs (nx (x3 + (1 : Int32)))) σ176) (fun r179 σ178 =>
        if r177 = r179 then (
          lx (x3 + (5 : Int32)) (fun y180 =>
          f_L_law_18 N xs n y180 σ178))
        else (
          some ((0 : Int32), σ178)))))))
      else if ((xs (nx x3)) &&& (63 : Int32)) = (37 : Int32) then (
        bnd (f_H_prove σ) (fun r182 σ181 =>
        bnd (f_M_prove σ181) (fun r184 σ183 =>
        if r182 = r184 then (
          lx (x3 + (5 : Int32)) (fun y185 =>
          f_L_law_18 N xs n y185 σ183))
        else (
          some ((0 : Int32), σ183)))))
      else if ((xs (nx x3)) &&& (63 : Int32)) = (38 : Int32) then (
        gd (ix (x3 + (1 : Int32)) N) (
        gd (ix (x3 + (2 : Int32)) N) (
        bnd (f_H_row (xs (nx (x3 + (1 : Int32)))) (xs (nx (x3 + (2 : Int32)))) σ) (fun r187 σ186 =>
        gd (ix (x3 + (1 : Int32)) N) (
        gd (ix (x3 + (2 : Int32)) N) (
        bnd (f_M_row (xs (nx (x3 + (1 : Int32)))) (xs (nx (x3 + (2 : Int32)))) σ186) (fun r189 σ188 =>
        if r187 = r189 then (
          lx (x3 + (5 : Int32)) (fun y190 =>
          f_L_law_18 N xs n y190 σ188))
        else (
          some ((0 : Int32), σ188)))))))))
      else if ((xs (nx x3)) &&& (63 : Int32)) = (39 : Int32) then (
        gd (ix (x3 + (1 : Int32)) N) (
        gd (ix (x3 + (2 : Int32)) N) (
        gd (ix (x3 + (3 : Int32)) N) (
        bnd (f_H_alterRow (xs (nx (x3 + (1 : Int32)))) (xs (nx (x3 + (2 : Int32)))) (xs (nx (x3 + (3 : Int32)))) σ) (fun r192 σ191 =>
        gd (ix (x3 + (1 : Int32)) N) (
        gd (ix (x3 + (2 : Int32)) N) (
        gd (ix (x3 + (3 : Int32)) N) (
        bnd (f_M_alterRow (xs (nx (x3 + (1 : Int32)))) (xs (nx (x3 + (2 : Int32)))) (xs (nx (x3 + (3 : Int32)))) σ191) (fun r194 σ193 =>
        if r192 = r194 then (
          lx (x3 + (5 : Int32)) (fun y195 =>
          f_L_law_18 N xs n y195 σ193))
        else (
          some ((0 : Int32), σ193)))))))))))
      else if ((xs (nx x3)) &&& (63 : Int32)) = (40 : Int32) then (
        bnd (f_H_judge σ) (fun r197 σ196 =>
        bnd (f_M_judge σ196) (fun r199 σ198 =>
        if r197 = r199 then (
          lx (x3 + (5 : Int32)) (fun y200 =>
          f_L_law_18 N xs n y200 σ198))
        else (
          some ((0 : Int32), σ198)))))
      else if ((xs (nx x3)) &&& (63 : Int32)) = (41 : Int32) then (
        gd (ix (x3 + (1 : Int32)) N) (
        gd (ix (x3 + (2 : Int32)) N) (
        gd (ix (x3 + (3 : Int32)) N) (
        bnd (f_H_sheet (xs (nx (x3 + (1 : Int32)))) (xs (nx (x3 + (2 : Int32)))) (xs (nx (x3 + (3 : Int32)))) σ) (fun r202 σ201 =>
        gd (ix (x3 + (1 : Int32)) N) (
        gd (ix (x3 + (2 : Int32)) N) (
        gd (ix (x3 + (3 : Int32)) N) (
        bnd (f_M_sheet (xs (nx (x3 + (1 : Int32)))) (xs (nx (x3 + (2 : Int32)))) (xs (nx (x3 + (3 : Int32)))) σ201) (fun r204 σ203 =>
        if r202 = r204 then (
          lx (x3 + (5 : Int32)) (fun y205 =>
          f_L_law_18 N xs n y205 σ203))
        else (
          some ((0 : Int32), σ203)))))))))))
      else if ((xs (nx x3)) &&& (63 : Int32)) = (42 : Int32) then (
        gd (ix (x3 + (1 : Int32)) N) (
        gd (ix (x3 + (2 : Int32)) N) (
        gd (ix (x3 + (3 : Int32)) N) (
        bnd (f_H_write (xs (nx (x3 + (1 : Int32)))) (xs (nx (x3 + (2 : Int32)))) (xs (nx (x3 + (3 : Int32)))) σ) (fun r207 σ206 =>
        gd (ix (x3 + (1 : Int32)) N) (
        gd (ix (x3 + (2 : Int32)) N) (
        gd (ix (x3 + (3 : Int32)) N) (
        bnd (f_M_write (xs (nx (x3 + (1 : Int32)))) (xs (nx (x3 + (2 : Int32)))) (xs (nx (x3 + (3 : Int32)))) σ206) (fun r209 σ208 =>
        if r207 = r209 then (
          lx (x3 + (5 : Int32)) (fun y210 =>
          f_L_law_18 N xs n y210 σ208))
        else (
          some ((0 : Int32), σ208)))))))))))
      else if ((xs (nx x3)) &&& (63 : Int32)) = (43 : Int32) then (
        gd (ix (x3 + (1 : Int32)) N) (
        gd (ix (x3 + (2 : Int32)) N) (
        gd (ix (x3 + (3 : Int32)) N) (
        bnd (f_H_item (xs (nx (x3 + (1 : Int32)))) (xs (nx (x3 + (2 : Int32)))) (xs (nx (x3 + (3 : Int32)))) σ) (fun r212 σ211 =>
        gd (ix (x3 + (1 : Int32)) N) (
        gd (ix (x3 + (2 : Int32)) N) (
        gd (ix (x3 + (3 : Int32)) N) (
        bnd (f_M_item (xs (nx (x3 + (1 : Int32)))) (xs (nx (x3 + (2 : Int32)))) (xs (nx (x3 + (3 : Int32)))) σ211) (fun r214 σ213 =>
        if r212 = r214 then (
          lx (x3 + (5 : Int32)) (fun y215 =>
          f_L_law_18 N xs n y215 σ213))
        else (
          some ((0 : Int32), σ213)))))))))))
      else if ((xs (nx x3)) &&& (63 : Int32)) = (44 : Int32) then (
        gd (ix (x3 + (1 : Int32)) N) (
        gd (ix (x3 + (2 : Int32)) N) (
        gd (ix (x3 + (3 : Int32)) N) (
        bnd (f_H_makeAll (xs (nx (x3 + (1 : Int32)))) (xs (nx (x3 + (2 : Int32)))) (xs (nx (x3 + (3 : Int32)))) σ) (fun r217 σ216 =>
        gd (ix (x3 + (1 : Int32)) N) (
        gd (ix (x3 + (2 : Int32)) N) (
        gd (ix (x3 + (3 : Int32)) N) (
        bnd (f_M_makeAll (xs (nx (x3 + (1 : Int32)))) (xs (nx (x3 + (2 : Int32)))) (xs (nx (x3 + (3 : Int32)))) σ216) (fun r219 σ218 =>
        if r217 = r219 then (
          lx (x3 + (5 : Int32)) (fun y220 =>
          f_L_law_18 N xs n y220 σ218))
        else (
          some ((0 : Int32), σ218)))))))))))
      else if ((xs (nx x3)) &&& (63 : Int32)) = (45 : Int32) then (
        gd (ix (x3 + (1 : Int32)) N) (
        gd (ix (x3 + (2 : Int32)) N) (
        gd (ix (x3 + (3 : Int32)) N) (
        bnd (f_H_wouldCost (xs (nx (x3 + (1 : Int32)))) (xs (nx (x3 + (2 : Int32)))) (xs (nx (x3 + (3 : Int32)))) σ) (fun r222 σ221 =>
        gd (ix (x3 + (1 : Int32)) N) (
        gd (ix (x3 + (2 : Int32)) N) (
        gd (ix (x3 + (3 : Int32)) N) (
        bnd (f_M_wouldCost (xs (nx (x3 + (1 : Int32)))) (xs (nx (x3 + (2 : Int32)))) (xs (nx (x3 + (3 : Int32)))) σ221) (fun r224 σ223 =>
        if r222 = r224 then (
          lx (x3 + (5 : Int32)) (fun y225 =>
          f_L_law_18 N xs n y225 σ223))
        else (
          some ((0 : Int32), σ223)))))))))))
      else if ((xs (nx x3)) &&& (63 : Int32)) = (46 : Int32) then (
        gd (ix (x3 + (1 : Int32)) N) (
        gd (ix (x3 + (2 : Int32)) N) (
        gd (ix (x3 + (3 : Int32)) N) (
        bnd (f_H_shelf (xs (nx (x3 + (1 : Int32)))) (xs (nx (x3 + (2 : Int32)))) (xs (nx (x3 + (3 : Int32)))) σ) (fun r227 σ226 =>
        gd (ix (x3 + (1 : Int32)) N) (
        gd (ix (x3 + (2 : Int32)) N) (
        gd (ix (x3 + (3 : Int32)) N) (
        bnd (f_M_shelf (xs (nx (x3 + (1 : Int32)))) (xs (nx (x3 + (2 : Int32)))) (xs (nx (x3 + (3 : Int32)))) σ226) (fun r229 σ228 =>
        if r227 = r229 then (
          lx (x3 + (5 : Int32)) (fun y230 =>
          f_L_law_18 N xs n y230 σ228))
        else (
          some ((0 : Int32), σ228)))))))))))
      else if ((xs (nx x3)) &&& (63 : Int32)) = (47 : Int32) then (
        gd (ix (x3 + (1 : Int32)) N) (
        gd (ix (x3 + (2 : Int32)) N) (
        bnd (f_H_taken (xs (nx (x3 + (1 : Int32)))) (xs (nx (x3 + (2 : Int32)))) σ) (fun r232 σ231 =>
        gd (ix (x3 + (1 : Int32)) N) (
        gd (ix (x3 + (2 : Int32)) N) (
        bnd (f_M_taken (xs (nx (x3 + (1 : Int32)))) (xs (nx (x3 + (2 : Int32)))) σ231) (fun r234 σ233 =>
        if r232 = r234 then (
          lx (x3 + (5 : Int32)) (fun y235 =>
          f_L_law_18 N xs n y235 σ233))
        else (
          some ((0 : Int32), σ233)))))))))
      else if ((xs (nx x3)) &&& (63 : Int32)) = (48 : Int32) then (
        gd (ix (x3 + (1 : Int32)) N) (
        gd (ix (x3 + (2 : Int32)) N) (
        gd (ix (x3 + (3 : Int32)) N) (
        bnd (f_H_act (xs (nx (x3 + (1 : Int32)))) (xs (nx (x3 + (2 : Int32)))) (xs (nx (x3 + (3 : Int32)))) σ) (fun r237 σ236 =>
        gd (ix (x3 + (1 : Int32)) N) (
        gd (ix (x3 + (2 : Int32)) N) (
        gd (ix (x3 + (3 : Int32)) N) (
        bnd (f_M_act (xs (nx (x3 + (1 : Int32)))) (xs (nx (x3 + (2 : Int32)))) (xs (nx (x3 + (3 : Int32)))) σ236) (fun r239 σ238 =>
        if r237 = r239 then (
          lx (x3 + (5 : Int32)) (fun y240 =>
          f_L_law_18 N xs n y240 σ238))
        else (
          some ((0 : Int32), σ238)))))))))))
      else if ((xs (nx x3)) &&& (63 : Int32)) = (49 : Int32) then (
        gd (ix (x3 + (1 : Int32)) N) (
        bnd (f_H_trace (xs (nx (x3 + (1 : Int32)))) σ) (fun r242 σ241 =>
        gd (ix (x3 + (1 : Int32)) N) (
        bnd (f_M_trace (xs (nx (x3 + (1 : Int32)))) σ241) (fun r244 σ243 =>
        if r242 = r244 then (
          lx (x3 + (5 : Int32)) (fun y245 =>
          f_L_law_18 N xs n y245 σ243))
        else (
          some ((0 : Int32), σ243)))))))
      else if ((xs (nx x3)) &&& (63 : Int32)) = (50 : Int32) then (
        gd (ix (x3 + (1 : Int32)) N) (
        bnd (f_H_many (xs (nx (x3 + (1 : Int32)))) σ) (fun r247 σ246 =>
        gd (ix (x3 + (1 : Int32)) N) (
        bnd (f_M_many (xs (nx (x3 + (1 : Int32)))) σ246) (fun r249 σ248 =>
        if r247 = r249 then (
          lx (x3 + (5 : Int32)) (fun y250 =>
          f_L_law_18 N xs n y250 σ248))
        else (
          some ((0 : Int32), σ248)))))))
      else if ((xs (nx x3)) &&& (63 : Int32)) = (51 : Int32) then (
        bnd (f_H_keep σ) (fun r252 σ251 =>
        bnd (f_M_keep σ251) (fun r254 σ253 =>
        if r252 = r254 then (
          lx (x3 + (5 : Int32)) (fun y255 =>
          f_L_law_18 N xs n y255 σ253))
        else (
          some ((0 : Int32), σ253)))))
      else if ((xs (nx x3)) &&& (63 : Int32)) = (52 : Int32) then (
        bnd (f_H_again σ) (fun r257 σ256 =>
        bnd (f_M_again σ256) (fun r259 σ258 =>
        if r257 = r259 then (
          lx (x3 + (5 : Int32)) (fun y260 =>
          f_L_law_18 N xs n y260 σ258))
        else (
          some ((0 : Int32), σ258)))))
      else (
        lx (x3 + (5 : Int32)) (fun y261 =>
        f_L_law_18 N xs n y261 σ))))
def f_L_law (N : Nat) (xs : Nat → Int32) (x3 : Int32) (σ : SG) : Option (Int32 × SG) :=
  f_L_law_18 N xs FU x3 σ
