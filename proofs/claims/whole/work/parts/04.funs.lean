/-! FUNS: what each method does, as a function of the numbers in the memory; none where it would throw -/
def F_X0_isA_b5 (M : z_M) : Nat → Int32 → Int32 → Int32 → Option Int32
  | 0, _, _, _ => none
  | n + 1, v2, v3, v4 =>
    if (6 : Int32) ≤ v4 then (
      some 0)
    else (
      if v3 < 0 then (
        some 0)
      else (
        if (6 : Int32) ≤ v3 then (
          some 0)
        else (
          if v3 = v2 then (
            some 1)
          else (
            z_grd (z_in v3 6) <|
            z_nmI (z_sv 0 v3.toNatClampNeg) fun x6 =>
            (F_X0_isA_b5 M n) v2 x6 (v4 + 1)))))
def F_X0_isA (a1 : Int32) (a2 : Int32) (M : z_M) : Option Int32 :=
  F_X0_isA_b5 M z_fuel a2 a1 0
def F_X0_nearest_b7 (j1 : Nat) (M : z_M) : Nat → Int32 → Int32 → Option Int32
  | 0, _, _ => none
  | n + 1, v2, v3 =>
    if (6 : Int32) ≤ v3 then (
      some 0)
    else (
      if v2 < 0 then (
        some 0)
      else (
        if (6 : Int32) ≤ v2 then (
          some 0)
        else (
          if v2 < (6 : Int32) then (
            z_grd (z_in v2 6) <|
            if (z_sv j1 v2.toNatClampNeg) = 0 then (
              z_grd (z_in v2 6) <|
              z_nmI (z_sv 0 v2.toNatClampNeg) fun x9 =>
              (F_X0_nearest_b7 j1 M n) x9 (v3 + 1))
            else (
              z_grd (z_in v2 6) <|
              some (z_sv j1 v2.toNatClampNeg)))
          else (
            some 0))))
def F_X0_nearest (j1 : Nat) (M : z_M) : Option Int32 :=
  z_nmI (z_gi M 19 0 3) fun x1 =>
  F_X0_nearest_b7 j1 M z_fuel x1 0
def F_X0_markAsked (B : Int32 → Int32 → z_M → Option (Int32 × z_M)) (a1 : Int32) (M : z_M) : Option (Int32 × z_M) :=
  (F_X0_nearest 2 M).bind fun q1 =>
  (B q1 a1 M).bind fun q3 =>
  some (q3.1, q3.2)
def F_X0_sizeAsked (B : Int32 → Int32 → z_M → Option (Int32 × z_M)) (a1 : Int32) (M : z_M) : Option (Int32 × z_M) :=
  (F_X0_nearest 1 M).bind fun q1 =>
  (B q1 a1 M).bind fun q3 =>
  some (q3.1, q3.2)
def F_X5_hasTread (i : Nat) (a1 : Int32) (M : z_M) : Option Int32 :=
  if a1 < 0 then (
    some 0)
  else (
    if (z_gi M 7 i 4) ≤ a1 then (
      some 0)
    else (
      some 1))
def F_X5_kindOf (i : Nat) (a1 : Int32) (M : z_M) : Option Int32 :=
  (F_X5_hasTread i a1 M).bind fun q1 =>
  if q1 = 0 then (
    some 0)
  else (
    z_grd (z_in a1 8) <|
    some (z_gi M 8 i a1.toNatClampNeg))
def F_X5_noteOf (i : Nat) (a1 : Int32) (M : z_M) : Option Int32 :=
  (F_X5_hasTread i a1 M).bind fun q1 =>
  if q1 = 0 then (
    some 0)
  else (
    z_grd (z_in a1 8) <|
    some (z_gi M 9 i a1.toNatClampNeg))
def F_X5_wornOf (i : Nat) (a1 : Int32) (M : z_M) : Option Int32 :=
  (F_X5_hasTread i a1 M).bind fun q1 =>
  if q1 = 0 then (
    some 0)
  else (
    z_grd (z_in a1 8) <|
    some (z_gi M 10 i a1.toNatClampNeg))
def F_X0_begin (a1 : Int32) (M : z_M) : Option z_M :=
  if (z_gi M 19 0 1) < 0 then (
    some M)
  else (
    if (16 : Int32) ≤ (z_gi M 19 0 1) then (
      some M)
    else (
      z_grd (z_in (z_gi M 19 0 1) 16) <|
      z_nmM (z_si M 20 0 (z_gi M 19 0 1).toNatClampNeg a1) fun M4 =>
      some (z_si M4 19 0 1 ((z_gi M4 19 0 1) + 1))))
def F_X0_body : Nat → Int32 → Int32 → z_M → Option (Int32 × z_M)
  | 0, _, _, _ => none
  | n + 1, a1, a2, M =>
    if a2 ≤ (8 : Int32) then (
      (F_X0_begin a1 M).bind fun q2 =>
      z_nmI (a2 + 1) fun x4 =>
      if a1 = 10 then (
        some (z_gi q2 19 0 4, q2))
      else if a1 = 11 then (
        (F_X0_body n (10 : Int32) x4 q2).bind fun q7 =>
        (F_X0_markAsked (F_X0_body n) x4 q7.2).bind fun q9 =>
        some (q7.1 + q9.1, q9.2))
      else if a1 = 12 then (
        (F_X0_body n (11 : Int32) x4 q2).bind fun q12 =>
        some (-q12.1, q12.2))
      else if a1 = 13 then (
        (F_X0_body n (10 : Int32) x4 q2).bind fun q15 =>
        some (q15.1 - 100, q15.2))
      else if a1 = 14 then (
        (F_X0_body n (13 : Int32) x4 q2).bind fun q18 =>
        some ((2 : Int32) * q18.1, q18.2))
      else if a1 = 15 then (
        some (0, q2))
      else if a1 = 16 then (
        some (0, q2))
      else if a1 = 17 then (
        some (0, q2))
      else if a1 = 18 then (
        some (0, q2))
      else if a1 = 19 then (
        some (0, q2))
      else if a1 = 20 then (
        some (z_gi q2 19 0 2, q2))
      else if a1 = 21 then (
        (F_X0_body n (20 : Int32) x4 q2).bind fun q27 =>
        some (q27.1 + (z_gi q27.2 19 0 5), q27.2))
      else if a1 = 22 then (
        (F_X0_body n (21 : Int32) x4 q2).bind fun q30 =>
        some (q30.1 - 1000, q30.2))
      else if a1 = 23 then (
        (F_X0_body n (20 : Int32) x4 q2).bind fun q33 =>
        (F_X0_sizeAsked (F_X0_body n) x4 q33.2).bind fun q35 =>
        some (q33.1 - q35.1, q35.2))
      else if a1 = 24 then (
        (F_X0_body n (21 : Int32) x4 q2).bind fun q38 =>
        some ((2 : Int32) * q38.1, q38.2))
      else (
        some (0, q2)))
    else (
      some (0, M))
def F_X0_answerOf (a2 : Int32) (a3 : Int32) (M : z_M) : Option (Int32 × z_M) :=
  (F_X5_kindOf 24 a2 (z_si M 19 0 2 a2)).bind fun q1 =>
  z_nmM (z_si M 19 0 2 a2) fun M3 =>
  (F_X5_noteOf 24 a2 (z_si M3 19 0 3 q1)).bind fun q4 =>
  z_nmM (z_si M3 19 0 3 q1) fun M6 =>
  (F_X5_wornOf 24 a2 (z_si M6 19 0 4 q4)).bind fun q7 =>
  z_nmM (z_si M6 19 0 4 q4) fun M9 =>
  z_nmM (z_si M9 19 0 5 q7) fun M10 =>
  if a3 = 0 then (
    (F_X0_sizeAsked (F_X0_body z_deep) (0 : Int32) (z_si M10 19 0 1 0)).bind fun q14 =>
    some (q14.1, q14.2))
  else (
    (F_X0_markAsked (F_X0_body z_deep) (0 : Int32) (z_si M10 19 0 1 0)).bind fun q12 =>
    some (q12.1, q12.2))
def F_X0_traceAt (a1 : Int32) (M : z_M) : Option Int32 :=
  if a1 < 0 then (
    some (-1000000))
  else (
    if (z_gi M 19 0 1) ≤ a1 then (
      some (-1000000))
    else (
      if (16 : Int32) ≤ a1 then (
        some (-1000000))
      else (
        z_grd (z_in a1 16) <|
        some (z_gi M 20 0 a1.toNatClampNeg))))
def F_X1_forget (M : z_M) : Option z_M :=
  some (z_si M 12 0 2 0)
def F_X1_keptCount (M : z_M) : Option Int32 :=
  some (z_gi M 12 0 2)
def F_X1_townAt (a1 : Int32) (M : z_M) : Option (Option Nat) :=
  if a1 < 0 then (
    some none)
  else (
    if (24 : Int32) ≤ a1 then (
      some none)
    else (
      z_grd (z_in a1 24) <|
      z_grd (0 + a1.toNatClampNeg < 29) <|
      some (some (0 + a1.toNatClampNeg))))
def F_X5_take (i : Nat) (o1 : Option Nat) (M : z_M) : Option z_M :=
  z_opt o1 (
    some M)
  (fun j1 =>
    z_grd (¬ (0 : Int32) < 0 ∧ ¬ (0 : Int32) < 0 ∧ ¬ (8 : Int32) < 0 ∧ (0 : Int32).toNatClampNeg + (8 : Int32).toNatClampNeg ≤ 8 ∧ (0 : Int32).toNatClampNeg + (8 : Int32).toNatClampNeg ≤ 8) <|
    z_grd (¬ (0 : Int32) < 0 ∧ ¬ (0 : Int32) < 0 ∧ ¬ (8 : Int32) < 0 ∧ (0 : Int32).toNatClampNeg + (8 : Int32).toNatClampNeg ≤ 8 ∧ (0 : Int32).toNatClampNeg + (8 : Int32).toNatClampNeg ≤ 8) <|
    z_nmM (z_cp M 8 j1 8 i (0 : Int32).toNatClampNeg (0 : Int32).toNatClampNeg (8 : Int32).toNatClampNeg) fun M3 =>
    z_grd (¬ (0 : Int32) < 0 ∧ ¬ (0 : Int32) < 0 ∧ ¬ (8 : Int32) < 0 ∧ (0 : Int32).toNatClampNeg + (8 : Int32).toNatClampNeg ≤ 8 ∧ (0 : Int32).toNatClampNeg + (8 : Int32).toNatClampNeg ≤ 8) <|
    z_nmM (z_cp M3 9 j1 9 i (0 : Int32).toNatClampNeg (0 : Int32).toNatClampNeg (8 : Int32).toNatClampNeg) fun M5 =>
    z_grd (¬ (0 : Int32) < 0 ∧ ¬ (0 : Int32) < 0 ∧ ¬ (20 : Int32) < 0 ∧ (0 : Int32).toNatClampNeg + (20 : Int32).toNatClampNeg ≤ 20 ∧ (0 : Int32).toNatClampNeg + (20 : Int32).toNatClampNeg ≤ 20) <|
    z_nmM (z_cp M5 10 j1 10 i (0 : Int32).toNatClampNeg (0 : Int32).toNatClampNeg (8 : Int32).toNatClampNeg) fun M7 =>
    z_nmM (z_cp M7 11 j1 11 i (0 : Int32).toNatClampNeg (0 : Int32).toNatClampNeg (20 : Int32).toNatClampNeg) fun M8 =>
    z_nmM (z_si M8 7 i 4 (z_gi M8 7 j1 4)) fun M9 =>
    z_nmM (z_si M9 7 i 5 (z_gi M9 7 j1 5)) fun M10 =>
    z_nmM (z_si M10 7 i 6 (z_gi M10 7 j1 6)) fun M11 =>
    z_nmM (z_si M11 7 i 7 (z_gi M11 7 j1 7)) fun M12 =>
    some (z_si M12 7 i 8 (z_gi M12 7 j1 8)))
def F_X1_keep_b41 (s0 : Int32) (M : z_M) : Option z_M :=
  z_nmM (z_si M 12 0 1 s0) fun M8 =>
  some (z_si M8 12 0 2 (z_min (24 : Int32) ((z_gi M8 12 0 2) + 1)))
def F_X1_keep (M : z_M) : Option z_M :=
  (F_X1_townAt (z_gi M 12 0 1) M).bind fun q1 =>
  z_opt q1 (
    some M)
  (fun j3 => z_grd (j3 < 29) <|
    (F_X5_take j3 (some 24) M).bind fun q5 =>
    if (24 : Int32) ≤ ((z_gi q5 12 0 1) + 1) then (
      F_X1_keep_b41 0 q5)
    else (
      F_X1_keep_b41 ((z_gi q5 12 0 1) + 1) q5))
def F_X1_takeBack_b34 (s0 : Int32) (M : z_M) : Option (Int32 × z_M) :=
  z_nmM (z_si M 12 0 1 s0) fun M3 =>
  (F_X1_townAt (z_gi M3 12 0 1) M3).bind fun q4 =>
  z_opt q4 (
    (F_X5_take 24 none M3).bind fun q7 =>
    z_nmM (z_si q7 12 0 2 ((z_gi q7 12 0 2) - 1)) fun M9 =>
    some (z_gi M9 12 0 2, M9))
  (fun j6 => z_grd (j6 < 29) <|
    (F_X5_take 24 (some j6) M3).bind fun q11 =>
    z_nmM (z_si q11 12 0 2 ((z_gi q11 12 0 2) - 1)) fun M13 =>
    some (z_gi M13 12 0 2, M13))
def F_X1_takeBack (M : z_M) : Option (Int32 × z_M) :=
  if (1 : Int32) ≤ (z_gi M 12 0 2) then (
    if (z_gi M 12 0 1) ≤ 0 then (
      F_X1_takeBack_b34 23 M)
    else (
      F_X1_takeBack_b34 ((z_gi M 12 0 1) - 1) M))
  else (
    some ((-1000002), M))
def F_X2_add (a1 : Int32) (M : z_M) : Option (Int32 × z_M) :=
  if (z_gi M 5 0 2) < (100 : Int32) then (
    z_grd (z_in (z_gi M 5 0 2) 100) <|
    z_nmM (z_si M 6 0 (z_gi M 5 0 2).toNatClampNeg a1) fun M3 =>
    z_nmM (z_si M3 5 0 2 ((z_gi M3 5 0 2) + 1)) fun M4 =>
    some (z_gi M4 5 0 2, M4))
  else (
    some ((-1000003), M))
def F_X2_byteCount (M : z_M) : Option Int32 :=
  some (z_gi M 5 0 2)
def F_X2_faultNumber (M : z_M) : Option Int32 :=
  some (z_gi M 5 0 4)
def F_X2_faultPlace (M : z_M) : Option Int32 :=
  some (z_gi M 5 0 5)
def F_X2_fail (a1 : Int32) (M : z_M) : Option (Int32 × z_M) :=
  z_nmM (z_si M 5 0 4 a1) fun M1 =>
  some (0, z_si M1 5 0 5 (z_gi M1 5 0 3))
def F_X2_readNumber_b96 (M : z_M) : Option (Int32 × z_M) :=
  (F_X2_fail (1 : Int32) M).bind fun q4 =>
  some ((-1), q4.2)
def F_X2_readNumber_b116 (M : z_M) : Option (Int32 × z_M) :=
  (F_X2_fail (2 : Int32) M).bind fun q8 =>
  some ((-1), q8.2)
def F_X2_readNumber_b86 (v1 : Int32) (v2 : Int32) (v3 : Int32) (v4 : Int32) (M : z_M) : Option (Int32 × z_M) :=
  if v3 < (1 : Int32) then (
    F_X2_readNumber_b96 M)
  else (
    if v3 ≤ (2 : Int32) then (
      if v4 < v1 then (
        F_X2_readNumber_b116 M)
      else (
        if v4 ≤ v2 then (
          some (v4, z_si M 5 0 3 ((z_gi M 5 0 3) + v3)))
        else (
          F_X2_readNumber_b116 M)))
    else (
      F_X2_readNumber_b96 M))
def F_X2_readNumber_b11 : Nat → Int32 → Int32 → Int32 → Int32 → Int32 → z_M → Option (Int32 × z_M)
  | 0, _, _, _, _, _, _ => none
  | n + 1, v1, v2, v3, v4, v5, M =>
    if (z_gi M 5 0 2) ≤ v5 then (
      F_X2_readNumber_b86 v1 v2 v3 v4 M)
    else (
      if (100 : Int32) ≤ v5 then (
        F_X2_readNumber_b86 v1 v2 v3 v4 M)
      else (
        if (3 : Int32) ≤ v3 then (
          F_X2_readNumber_b86 v1 v2 v3 v4 M)
        else (
          z_grd (z_in v5 100) <|
          if (z_gi M 6 0 v5.toNatClampNeg) < (48 : Int32) then (
            F_X2_readNumber_b86 v1 v2 v3 v4 M)
          else (
            z_grd (z_in v5 100) <|
            if (z_gi M 6 0 v5.toNatClampNeg) ≤ (57 : Int32) then (
              z_grd (z_in v5 100) <|
              z_nmI (((v4 * 10) + (z_gi M 6 0 v5.toNatClampNeg)) - 48) fun x18 =>
              (F_X2_readNumber_b11 n) v1 v2 (v3 + 1) x18 (v5 + 1) M)
            else (
              F_X2_readNumber_b86 v1 v2 v3 v4 M)))))
def F_X2_readNumber (a1 : Int32) (a2 : Int32) (M : z_M) : Option (Int32 × z_M) :=
  z_nmI (z_gi M 5 0 3) fun x1 =>
  F_X2_readNumber_b11 z_fuel a1 a2 0 0 x1 M
def F_X2_letter (M : z_M) : Option Int32 :=
  if (z_gi M 5 0 3) < 0 then (
    some (-1000000))
  else (
    if (z_gi M 5 0 2) ≤ (z_gi M 5 0 3) then (
      some (-1000000))
    else (
      if (100 : Int32) ≤ (z_gi M 5 0 3) then (
        some (-1000000))
      else (
        z_grd (z_in (z_gi M 5 0 3) 100) <|
        some (z_gi M 6 0 (z_gi M 5 0 3).toNatClampNeg))))
def F_X2_readSign (a1 : Int32) (M : z_M) : Option (Int32 × z_M) :=
  (F_X2_letter M).bind fun q1 =>
  if q1 = a1 then (
    some (1, z_si M 5 0 3 ((z_gi M 5 0 3) + 1)))
  else (
    (F_X2_fail (1 : Int32) M).bind fun q4 =>
    z_grd (q4.1 &&& 1 = q4.1) <|
    some (q4.1, q4.2))
def F_X5_begin (i : Nat) (a1 : Int32) (a2 : Int32) (M : z_M) : Option z_M :=
  z_nmM (z_si M 7 i 6 a1) fun M1 =>
  z_nmM (z_si M1 7 i 7 a2) fun M2 =>
  z_nmM (z_si M2 7 i 8 0) fun M3 =>
  z_nmM (z_si M3 7 i 4 0) fun M4 =>
  some (z_si M4 7 i 5 0)
def F_X2_readLaw (M : z_M) : Option (Int32 × z_M) :=
  (F_X2_readSign (116 : Int32) M).bind fun q1 =>
  if q1.1 = 0 then (
    some (0, q1.2))
  else (
    (F_X2_readNumber (0 : Int32) (15 : Int32) q1.2).bind fun q4 =>
    if q4.1 = ((-1) : Int32) then (
      some (0, q4.2))
    else (
      (F_X2_readSign (44 : Int32) q4.2).bind fun q7 =>
      if q7.1 = 0 then (
        some (0, q7.2))
      else (
        (F_X2_readNumber (0 : Int32) (9 : Int32) q7.2).bind fun q10 =>
        if q10.1 = ((-1) : Int32) then (
          some (0, q10.2))
        else (
          (F_X2_readSign (59 : Int32) q10.2).bind fun q13 =>
          if q13.1 = 0 then (
            some (0, q13.2))
          else (
            (F_X5_begin 28 q4.1 q10.1 q13.2).bind fun q16 =>
            some (1, q16))))))
def F_X2_kindOfSort (a1 : Int32) (M : z_M) : Option Int32 :=
  if a1 = 102 then (
    some 5)
  else if a1 = 103 then (
    some 0)
  else if a1 = 104 then (
    some 0)
  else if a1 = 105 then (
    some 0)
  else if a1 = 106 then (
    some 0)
  else if a1 = 107 then (
    some 0)
  else if a1 = 108 then (
    some 3)
  else if a1 = 109 then (
    some 0)
  else if a1 = 110 then (
    some 0)
  else if a1 = 111 then (
    some 0)
  else if a1 = 112 then (
    some 1)
  else if a1 = 113 then (
    some 0)
  else if a1 = 114 then (
    some 4)
  else if a1 = 115 then (
    some 2)
  else (
    some 0)
def F_X5_addTread (i : Nat) (a1 : Int32) (a2 : Int32) (M : z_M) : Option z_M :=
  if (z_gi M 7 i 4) < 0 then (
    some M)
  else (
    if (z_gi M 7 i 4) < (8 : Int32) then (
      z_grd (z_in (z_gi M 7 i 4) 8) <|
      z_nmM (z_si M 8 i (z_gi M 7 i 4).toNatClampNeg a1) fun M4 =>
      z_grd (z_in (z_gi M4 7 i 4) 8) <|
      z_nmM (z_si M4 9 i (z_gi M4 7 i 4).toNatClampNeg a2) fun M6 =>
      z_grd (z_in (z_gi M6 7 i 4) 8) <|
      z_nmM (z_si M6 10 i (z_gi M6 7 i 4).toNatClampNeg 0) fun M8 =>
      some (z_si M8 7 i 4 ((z_gi M8 7 i 4) + 1)))
    else (
      some M))
def F_X2_readTreads_b32 (M : z_M) : Option (Int32 × z_M) :=
  some (1, M)
def F_X2_readTreads_b2 : Nat → Int32 → z_M → Option (Int32 × z_M)
  | 0, _, _ => none
  | n + 1, v1, M =>
    if (8 : Int32) < v1 then (
      some (0, M))
    else (
      (F_X2_letter M).bind fun q2 =>
      (F_X2_kindOfSort q2 M).bind fun q4 =>
      if q4 = 0 then (
        if 0 < v1 then (
          F_X2_readTreads_b32 M)
        else (
          (F_X2_fail (1 : Int32) M).bind fun q20 =>
          if q20.1 = 0 then (
            some (0, q20.2))
          else (
            F_X2_readTreads_b32 q20.2)))
      else (
        if v1 = (8 : Int32) then (
          (F_X2_fail (3 : Int32) M).bind fun q16 =>
          z_grd (q16.1 &&& 1 = q16.1) <|
          some (q16.1, q16.2))
        else (
          (F_X2_readNumber (0 : Int32) (9 : Int32) (z_si M 5 0 3 ((z_gi M 5 0 3) + 1))).bind fun q8 =>
          if q8.1 = ((-1) : Int32) then (
            some (0, q8.2))
          else (
            (F_X2_readSign (59 : Int32) q8.2).bind fun q11 =>
            if q11.1 = 0 then (
              some (0, q11.2))
            else (
              (F_X5_addTread 28 q4 q8.1 q11.2).bind fun q14 =>
              (F_X2_readTreads_b2 n) (v1 + 1) q14)))))
def F_X2_readTreads (M : z_M) : Option (Int32 × z_M) :=
  F_X2_readTreads_b2 z_fuel 0 M
def F_X5_addWalker (i : Nat) (M : z_M) : Option z_M :=
  if (5 : Int32) ≤ (z_gi M 7 i 5) then (
    some M)
  else (
    some (z_si M 7 i 5 ((z_gi M 7 i 5) + 1)))
def F_X5_leastOf (i : Nat) (a1 : Int32) (M : z_M) : Option Int32 :=
  if a1 = (2 : Int32) then (
    some 1)
  else (
    some 0)
def F_X5_mostOf (i : Nat) (a1 : Int32) (M : z_M) : Option Int32 :=
  if a1 = 2 then (
    some 3)
  else if a1 = 3 then (
    some 20)
  else (
    some ((z_gi M 7 i 4) - 1))
def F_X5_hasWalker (i : Nat) (a1 : Int32) (M : z_M) : Option Int32 :=
  if a1 < 0 then (
    some 0)
  else (
    if (z_gi M 7 i 5) ≤ a1 then (
      some 0)
    else (
      some 1))
def F_X5_setPart (i : Nat) (a1 : Int32) (a2 : Int32) (a3 : Int32) (M : z_M) : Option z_M :=
  (F_X5_hasWalker i a1 M).bind fun q1 =>
  if q1 = 0 then (
    some M)
  else (
    if a2 < 0 then (
      some M)
    else (
      if (4 : Int32) ≤ a2 then (
        some M)
      else (
        z_grd (z_in ((a1 * 4) + a2) 20) <|
        some (z_si M 11 i ((a1 * 4) + a2).toNatClampNeg a3))))
def F_X2_readWalker_b53 (K9 : Int32 → Int32 → z_M → Option (Int32 × z_M)) (v1 : Int32) (v2 : Int32) (v3 : Int32) (s0 : Int32) (M : z_M) : Option (Int32 × z_M) :=
  (F_X2_readSign s0 M).bind fun q12 =>
  if q12.1 = 0 then (
    some (0, q12.2))
  else (
    (F_X5_setPart 28 v1 v2 v3 q12.2).bind fun q15 =>
    K9 v1 (v2 + 1) q15)
def F_X2_readWalker_b9 : Nat → Int32 → Int32 → z_M → Option (Int32 × z_M)
  | 0, _, _, _ => none
  | n + 1, v1, v2, M =>
    if (4 : Int32) ≤ v2 then (
      some (1, M))
    else (
      (F_X5_leastOf 28 v2 M).bind fun q4 =>
      (F_X5_mostOf 28 v2 M).bind fun q6 =>
      (F_X2_readNumber q4 q6 M).bind fun q8 =>
      if q8.1 = ((-1) : Int32) then (
        some (0, q8.2))
      else (
        if (3 : Int32) ≤ v2 then (
          F_X2_readWalker_b53 (F_X2_readWalker_b9 n) v1 v2 q8.1 59 q8.2)
        else (
          F_X2_readWalker_b53 (F_X2_readWalker_b9 n) v1 v2 q8.1 44 q8.2)))
def F_X2_readWalker (a1 : Int32) (M : z_M) : Option (Int32 × z_M) :=
  (F_X5_addWalker 28 M).bind fun q1 =>
  F_X2_readWalker_b9 z_fuel a1 0 q1
def F_X2_readWalkers_b24 (K2 : Int32 → z_M → Option (Int32 × z_M)) (v1 : Int32) (M : z_M) : Option (Int32 × z_M) :=
  (F_X2_letter M).bind fun q3 =>
  if q3 = (122 : Int32) then (
    if v1 = (5 : Int32) then (
      (F_X2_fail (3 : Int32) M).bind fun q10 =>
      z_grd (q10.1 &&& 1 = q10.1) <|
      some (q10.1, q10.2))
    else (
      (F_X2_readWalker v1 (z_si M 5 0 3 ((z_gi M 5 0 3) + 1))).bind fun q7 =>
      if q7.1 = 0 then (
        some (0, q7.2))
      else (
        K2 (v1 + 1) q7.2)))
  else (
    (F_X2_fail (1 : Int32) M).bind fun q13 =>
    z_grd (q13.1 &&& 1 = q13.1) <|
    some (q13.1, q13.2))
def F_X2_readWalkers_b2 : Nat → Int32 → z_M → Option (Int32 × z_M)
  | 0, _, _ => none
  | n + 1, v1, M =>
    if (5 : Int32) < v1 then (
      some (0, M))
    else (
      if v1 ≤ 0 then (
        F_X2_readWalkers_b24 (F_X2_readWalkers_b2 n) v1 M)
      else (
        if (z_gi M 5 0 3) < (z_gi M 5 0 2) then (
          F_X2_readWalkers_b24 (F_X2_readWalkers_b2 n) v1 M)
        else (
          some (1, M))))
def F_X2_readWalkers (M : z_M) : Option (Int32 × z_M) :=
  F_X2_readWalkers_b2 z_fuel 0 M
def F_X2_readTape_b31 (s0 : Int32) (M : z_M) : Option (Option Nat × z_M) :=
  if s0 = 0 then (
    some (none, z_si M 5 0 2 0))
  else (
    some ((some 28), z_si M 5 0 2 0))
def F_X2_readTape_b30 (M : z_M) : Option (Option Nat × z_M) :=
  F_X2_readTape_b31 0 M
def F_X2_readTape (M : z_M) : Option (Option Nat × z_M) :=
  (F_X2_readLaw (z_si M 5 0 3 0)).bind fun q1 =>
  if q1.1 = 0 then (
    F_X2_readTape_b30 q1.2)
  else (
    (F_X2_readTreads q1.2).bind fun q5 =>
    if q5.1 = 0 then (
      F_X2_readTape_b30 q5.2)
    else (
      (F_X2_readWalkers q5.2).bind fun q8 =>
      if q8.1 = 0 then (
        F_X2_readTape_b30 q8.2)
      else (
        F_X2_readTape_b31 1 q8.2)))
def F_X3_lookAt (M : z_M) : Option z_M :=
  (F_X5_take 27 (some 24) M).bind fun q1 =>
  some (z_si q1 15 0 4 0)
def F_X3_hearFrom (a1 : Int32) (M : z_M) : Option z_M :=
  if (z_gi M 15 0 4) < 0 then (
    some M)
  else (
    if (12 : Int32) ≤ (z_gi M 15 0 4) then (
      some M)
    else (
      z_grd (z_in (z_gi M 15 0 4) 12) <|
      z_nmM (z_si M 16 0 (z_gi M 15 0 4).toNatClampNeg a1) fun M4 =>
      some (z_si M4 15 0 4 ((z_gi M4 15 0 4) + 1))))
def F_X5_treadOf_b83 (i : Nat) (M : z_M) (v2 : Int32) (v3 : Int32) (v4 : Int32) (v5 : Int32) (v6 : Int32) : Option Int32 :=
  z_nmI (z_min (v2 * v5) v6) fun x14 =>
  if v4 ≤ v3 then (
    some (v3 - x14))
  else (
    some (v3 + x14))
def F_X5_treadOf (i : Nat) (a1 : Int32) (a2 : Int32) (M : z_M) : Option Int32 :=
  (F_X5_hasWalker i a1 M).bind fun q1 =>
  if q1 = 0 then (
    some (-1000000))
  else (
    if a2 < 0 then (
      some (-1000000))
    else (
      if a2 < (8 : Int32) then (
        z_grd (z_in ((a1 * 4) + 0) 20) <|
        z_nmI (z_gi M 11 i ((a1 * 4) + 0).toNatClampNeg) fun x7 =>
        z_grd (z_in ((a1 * 4) + 1) 20) <|
        z_nmI (z_gi M 11 i ((a1 * 4) + 1).toNatClampNeg) fun x9 =>
        z_grd (z_in ((a1 * 4) + 2) 20) <|
        z_nmI (z_gi M 11 i ((a1 * 4) + 2).toNatClampNeg) fun x11 =>
        z_nmI (z_abs (x9 - x7)) fun x12 =>
        if a2 ≤ 0 then (
          F_X5_treadOf_b83 i M a2 x7 x9 x11 x12)
        else (
          if ((a2 - 1) * x11) < x12 then (
            F_X5_treadOf_b83 i M a2 x7 x9 x11 x12)
          else (
            some (-1000000))))
      else (
        some (-1000000))))
def F_X5_longOf_b2 (i : Nat) (M : z_M) : Nat → Int32 → Int32 → Option Int32
  | 0, _, _ => none
  | n + 1, v1, v2 =>
    if (8 : Int32) ≤ v2 then (
      some 8)
    else (
      (F_X5_treadOf i v1 v2 M).bind fun q2 =>
      if q2 = ((-1000000) : Int32) then (
        some v2)
      else (
        (F_X5_longOf_b2 i M n) v1 (v2 + 1)))
def F_X5_longOf (i : Nat) (a1 : Int32) (M : z_M) : Option Int32 :=
  F_X5_longOf_b2 i M z_fuel a1 0
def F_X5_partOf (i : Nat) (a1 : Int32) (a2 : Int32) (M : z_M) : Option Int32 :=
  (F_X5_hasWalker i a1 M).bind fun q1 =>
  if q1 = 0 then (
    some (-1000000))
  else (
    if a2 < 0 then (
      some (-1000000))
    else (
      if (4 : Int32) ≤ a2 then (
        some (-1000000))
      else (
        z_grd (z_in ((a1 * 4) + a2) 20) <|
        some (z_gi M 11 i ((a1 * 4) + a2).toNatClampNeg))))
def F_X5_setWorn (i : Nat) (a1 : Int32) (a2 : Int32) (M : z_M) : Option z_M :=
  (F_X5_hasTread i a1 M).bind fun q1 =>
  if q1 = 0 then (
    some M)
  else (
    z_grd (z_in a1 8) <|
    some (z_si M 10 i a1.toNatClampNeg a2))
def F_X5_passDay_b64 (i : Nat) : Nat → Int32 → z_M → Option z_M
  | 0, _, _ => none
  | n + 1, v1, M =>
    if (z_gi M 7 i 5) ≤ v1 then (
      some (z_si M 7 i 8 ((z_gi M 7 i 8) + 1)))
    else (
      (F_X5_partOf i v1 (0 : Int32) M).bind fun q3 =>
      (F_X5_partOf i v1 (1 : Int32) M).bind fun q5 =>
      (F_X5_setPart i v1 (0 : Int32) q5 M).bind fun q7 =>
      (F_X5_setPart i v1 (1 : Int32) q3 q7).bind fun q9 =>
      (F_X5_passDay_b64 i n) (v1 + 1) q9)
def F_X5_passDay_b18 (i : Nat) (K2 : Int32 → z_M → Option z_M) : Nat → Int32 → Int32 → Int32 → z_M → Option z_M
  | 0, _, _, _, _ => none
  | n + 1, v1, v2, v3, M =>
    if v2 ≤ v3 then (
      K2 (v1 + 1) M)
    else (
      (F_X5_treadOf i v1 v3 M).bind fun q14 =>
      (F_X5_wornOf i q14 M).bind fun q16 =>
      (F_X5_setWorn i q14 (z_min (99 : Int32) (q16 + 1)) M).bind fun q18 =>
      (F_X5_passDay_b18 i K2 n) v1 v2 (v3 + 1) q18)
def F_X5_passDay_b2 (i : Nat) : Nat → Int32 → z_M → Option z_M
  | 0, _, _ => none
  | n + 1, v1, M =>
    if (z_gi M 7 i 5) ≤ v1 then (
      F_X5_passDay_b64 i z_fuel 0 M)
    else (
      (F_X5_longOf i v1 M).bind fun q11 =>
      F_X5_passDay_b18 i (F_X5_passDay_b2 i n) z_fuel v1 q11 0 M)
def F_X5_passDay (i : Nat) (M : z_M) : Option z_M :=
  F_X5_passDay_b2 i z_fuel 0 M
def F_X5_toneOf (i : Nat) (a1 : Int32) (M : z_M) : Option Int32 :=
  (F_X5_hasTread i a1 M).bind fun q1 =>
  if q1 = 0 then (
    some 0)
  else (
    z_grd (z_in a1 8) <|
    z_grd (z_in a1 8) <|
    some (z_max (0 : Int32) ((z_gi M 9 i a1.toNatClampNeg) - ((z_gi M 10 i a1.toNatClampNeg) / 10))))
def F_X3_treadIn_b3 : Nat → Int32 → Int32 → Int32 → Int32 → z_M → Option (Int32 × z_M)
  | 0, _, _, _, _, _ => none
  | n + 1, v1, v2, v3, v4, M =>
    if v2 ≤ v4 then (
      if v3 = 0 then (
        (F_X5_toneOf 27 v1 M).bind fun q5 =>
        some (q5, M))
      else (
        (F_X5_wornOf 27 v1 M).bind fun q3 =>
        some (q3, M)))
    else (
      (F_X5_passDay 27 M).bind fun q7 =>
      (F_X3_treadIn_b3 n) v1 v2 v3 (v4 + 1) q7)
def F_X3_treadIn (a1 : Int32) (a2 : Int32) (a3 : Int32) (M : z_M) : Option (Int32 × z_M) :=
  F_X3_treadIn_b3 z_fuel a1 a2 a3 0 M
def F_X5_placeIn (i : Nat) (a1 : Int32) (a2 : Int32) (M : z_M) : Option Int32 :=
  (F_X5_hasWalker i a1 M).bind fun q1 =>
  if q1 = 0 then (
    some (-1000000))
  else (
    (F_X5_partOf i a1 (3 : Int32) M).bind fun q4 =>
    (F_X5_treadOf i a1 (a2 - q4) M).bind fun q6 =>
    some q6)
def F_X3_meetingOf_b90 (M : z_M) (K10 : Int32 → Int32 → Int32 → Int32 → Int32 → Option Int32) (v1 : Int32) (v2 : Int32) (v5 : Int32) (v6 : Int32) (v7 : Int32) : Option Int32 :=
  K10 v1 v2 v6 v7 (v5 + 1)
def F_X3_meetingOf_b60 (M : z_M) (K10 : Int32 → Int32 → Int32 → Int32 → Int32 → Option Int32) (v1 : Int32) (v2 : Int32) (v3 : Int32) (v4 : Int32) (v5 : Int32) (v6 : Int32) (v7 : Int32) (s0 : Int32) : Option Int32 :=
  if s0 = 0 then (
    F_X3_meetingOf_b90 M K10 v1 v2 v5 v6 v7)
  else (
    if v6 = v7 then (
      some v5)
    else (
      if v6 = v4 then (
        if v7 = v3 then (
          some v5)
        else (
          F_X3_meetingOf_b90 M K10 v1 v2 v5 v6 v7))
      else (
        F_X3_meetingOf_b90 M K10 v1 v2 v5 v6 v7)))
def F_X3_meetingOf_b59 (M : z_M) (K10 : Int32 → Int32 → Int32 → Int32 → Int32 → Option Int32) (v1 : Int32) (v2 : Int32) (v3 : Int32) (v4 : Int32) (v5 : Int32) (v6 : Int32) (v7 : Int32) : Option Int32 :=
  F_X3_meetingOf_b60 M K10 v1 v2 v3 v4 v5 v6 v7 0
def F_X3_meetingOf_b10 (M : z_M) : Nat → Int32 → Int32 → Int32 → Int32 → Int32 → Option Int32
  | 0, _, _, _, _, _ => none
  | n + 1, v1, v2, v3, v4, v5 =>
    if (30 : Int32) ≤ v5 then (
      some (-1000000))
    else (
      (F_X5_placeIn 27 v1 v5 M).bind fun q2 =>
      (F_X5_placeIn 27 v2 v5 M).bind fun q4 =>
      if q2 = ((-1000000) : Int32) then (
        F_X3_meetingOf_b59 M (F_X3_meetingOf_b10 M n) v1 v2 v3 v4 v5 q2 q4)
      else (
        if q4 = ((-1000000) : Int32) then (
          F_X3_meetingOf_b59 M (F_X3_meetingOf_b10 M n) v1 v2 v3 v4 v5 q2 q4)
        else (
          F_X3_meetingOf_b60 M (F_X3_meetingOf_b10 M n) v1 v2 v3 v4 v5 q2 q4 1)))
def F_X3_meetingOf (a1 : Int32) (a2 : Int32) (M : z_M) : Option Int32 :=
  F_X3_meetingOf_b10 M z_fuel a1 a2 (-1000000) (-1000000) 0
def F_J6_bitCount_0f7a4 (a1 : Int32) (M : z_M) : Option Int32 :=
  z_nmI (a1 - ((z_ush a1 1) &&& 1431655765)) fun x1 =>
  z_nmI ((x1 &&& 858993459) + ((z_ush x1 2) &&& 858993459)) fun x2 =>
  z_nmI ((x2 + (z_ush x2 4)) &&& 252645135) fun x3 =>
  z_nmI (x3 + (z_ush x3 8)) fun x4 =>
  z_nmI (x4 + (z_ush x4 16)) fun x5 =>
  some (x5 &&& 63)
def F_X5_isWet (i : Nat) (M : z_M) : Option Int32 :=
  if (((z_gi M 7 i 6) >>> (((z_gi M 7 i 8) - (z_gi M 7 i 8) / 4 * 4) &&& 31)) &&& 1) = (1 : Int32) then (
    some 1)
  else (
    some 0)
def F_X5_soundAs (i : Nat) (a1 : Int32) (a2 : Int32) (a3 : Int32) (M : z_M) : Option Int32 :=
  if a1 = 1 then (
    some a2)
  else if a1 = 2 then (
    (F_X5_isWet i M).bind fun q3 =>
    if q3 = 0 then (
      some a2)
    else (
      some (z_max (0 : Int32) (a2 - 1))))
  else if a1 = 3 then (
    some (z_min (9 : Int32) ((a2 + a3) - 1)))
  else if a1 = 4 then (
    some 10)
  else if a1 = 5 then (
    if a3 = (3 : Int32) then (
      some (a2 / 2))
    else (
      some 10))
  else (
    some 10)
def F_X5_soundsIn_b98 (i : Nat) (M : z_M) (K6 : Int32 → Int32 → Int32 → Int32 → Int32 → Option Int32) (v1 : Int32) (v2 : Int32) (v3 : Int32) (v4 : Int32) (v5 : Int32) : Option Int32 :=
  K6 v1 v2 v3 v4 (v5 + 1)
def F_X5_soundsIn_b6 (i : Nat) (M : z_M) : Nat → Int32 → Int32 → Int32 → Int32 → Int32 → Option Int32
  | 0, _, _, _, _, _ => none
  | n + 1, v1, v2, v3, v4, v5 =>
    if (z_gi M 7 i 5) ≤ v5 then (
      some v4)
    else (
      (F_X5_partOf i v5 (3 : Int32) M).bind fun q2 =>
      (F_X5_treadOf i v5 (v1 - q2) M).bind fun q4 =>
      (F_X5_hasTread i q4 M).bind fun q6 =>
      if q6 = 0 then (
        F_X5_soundsIn_b98 i M (F_X5_soundsIn_b6 i M n) v1 v2 v3 v4 v5)
      else (
        if q4 < v2 then (
          F_X5_soundsIn_b98 i M (F_X5_soundsIn_b6 i M n) v1 v2 v3 v4 v5)
        else (
          if q4 ≤ v3 then (
            z_grd (z_in q4 8) <|
            (F_X5_toneOf i q4 M).bind fun q12 =>
            (F_X5_partOf i v5 (2 : Int32) M).bind fun q14 =>
            (F_X5_soundAs i (z_gi M 8 i q4.toNatClampNeg) q12 q14 M).bind fun q16 =>
            if q16 = (10 : Int32) then (
              F_X5_soundsIn_b98 i M (F_X5_soundsIn_b6 i M n) v1 v2 v3 v4 v5)
            else (
              z_nmI (v4 ||| ((1 : Int32) <<< (q16 &&& 31))) fun x19 =>
              F_X5_soundsIn_b98 i M (F_X5_soundsIn_b6 i M n) v1 v2 v3 x19 v5))
          else (
            F_X5_soundsIn_b98 i M (F_X5_soundsIn_b6 i M n) v1 v2 v3 v4 v5))))
def F_X5_soundsIn (i : Nat) (a1 : Int32) (a2 : Int32) (a3 : Int32) (M : z_M) : Option Int32 :=
  F_X5_soundsIn_b6 i M z_fuel a1 a2 a3 0 0
def F_X3_fullestMinute_b43 (M : z_M) (K7 : Int32 → Int32 → Int32 → Int32 → Option Int32) (v1 : Int32) (v2 : Int32) (v3 : Int32) (v4 : Int32) : Option Int32 :=
  K7 v1 v2 v3 (v4 + 1)
def F_X3_fullestMinute_b7 (M : z_M) : Nat → Int32 → Int32 → Int32 → Int32 → Option Int32
  | 0, _, _, _, _ => none
  | n + 1, v1, v2, v3, v4 =>
    if (30 : Int32) ≤ v4 then (
      if v1 = 0 then (
        some v2)
      else (
        some v3))
    else (
      (F_X5_soundsIn 27 v4 (0 : Int32) (8 : Int32) M).bind fun q3 =>
      (F_J6_bitCount_0f7a4 q3 M).bind fun q5 =>
      if q5 ≤ v3 then (
        F_X3_fullestMinute_b43 M (F_X3_fullestMinute_b7 M n) v1 v2 v3 v4)
      else (
        F_X3_fullestMinute_b43 M (F_X3_fullestMinute_b7 M n) v1 v4 q5 v4))
def F_X3_fullestMinute (a1 : Int32) (M : z_M) : Option Int32 :=
  F_X3_fullestMinute_b7 M z_fuel a1 0 0 0
def F_X5_tuneNumber_b13 (i : Nat) (M : z_M) : Nat → Int32 → Int64 → Int32 → Int32 → Option Int64
  | 0, _, _, _, _ => none
  | n + 1, v1, v2, v4, v5 =>
    if (8 : Int32) ≤ v5 then (
      some v2)
    else (
      (F_X5_treadOf i v1 v5 M).bind fun q4 =>
      (F_X5_hasTread i q4 M).bind fun q6 =>
      if q6 = 0 then (
        some v2)
      else (
        z_grd (z_in q4 8) <|
        (F_X5_toneOf i q4 M).bind fun q10 =>
        (F_X5_soundAs i (z_gi M 8 i q4.toNatClampNeg) q10 v4 M).bind fun q12 =>
        z_nmL ((v2 * 16) + q12.toInt64) fun x14 =>
        (F_X5_tuneNumber_b13 i M n) v1 x14 v4 (v5 + 1)))
def F_X5_tuneNumber (i : Nat) (a1 : Int32) (M : z_M) : Option Int64 :=
  (F_X5_partOf i a1 (2 : Int32) M).bind fun q1 =>
  F_X5_tuneNumber_b13 i M z_fuel a1 1 q1 0
def F_X5_walkerCount (i : Nat) (M : z_M) : Option Int32 :=
  some (z_gi M 7 i 5)
def F_X3_numberTunes_b14 : Nat → Int32 → Int32 → z_M → Option (Int32 × z_M)
  | 0, _, _, _ => none
  | n + 1, v1, v2, M =>
    if v1 ≤ v2 then (
      some (v1, M))
    else (
      (F_X5_tuneNumber 27 v2 M).bind fun q5 =>
      z_grd (z_in v2 5) <|
      (F_X3_numberTunes_b14 n) v1 (v2 + 1) (z_sl M v2.toNatClampNeg q5))
def F_X3_numberTunes (M : z_M) : Option (Int32 × z_M) :=
  (F_X5_walkerCount 27 M).bind fun q1 =>
  z_nmI (z_min q1 (5 : Int32)) fun x3 =>
  F_X3_numberTunes_b14 z_fuel x3 0 M
def F_X3_twinCount_b45 (K9 : Int32 → Int32 → Int32 → z_M → Option (Int32 × z_M)) (K19 : Int32 → Int32 → Int32 → Int32 → z_M → Option (Int32 × z_M)) (v1 : Int32) (v2 : Int32) (v3 : Int32) (v4 : Int32) (M : z_M) : Option (Int32 × z_M) :=
  K19 v1 v2 v3 (v4 + 1) M
def F_X3_twinCount_b19 (K9 : Int32 → Int32 → Int32 → z_M → Option (Int32 × z_M)) : Nat → Int32 → Int32 → Int32 → Int32 → z_M → Option (Int32 × z_M)
  | 0, _, _, _, _, _ => none
  | n + 1, v1, v2, v3, v4, M =>
    if v1 ≤ v4 then (
      K9 v1 v2 (v3 + 1) M)
    else (
      z_grd (z_in v3 5) <|
      z_grd (z_in v4 5) <|
      if (lg_cmp (z_gl M v3.toNatClampNeg) (z_gl M v4.toNatClampNeg)) = 0 then (
        F_X3_twinCount_b45 K9 (F_X3_twinCount_b19 K9 n) v1 (v2 + 1) v3 v4 M)
      else (
        F_X3_twinCount_b45 K9 (F_X3_twinCount_b19 K9 n) v1 v2 v3 v4 M))
def F_X3_twinCount_b9 : Nat → Int32 → Int32 → Int32 → z_M → Option (Int32 × z_M)
  | 0, _, _, _, _ => none
  | n + 1, v1, v2, v3, M =>
    if v1 ≤ v3 then (
      some (v2, M))
    else (
      z_nmI (v3 + 1) fun x4 =>
      F_X3_twinCount_b19 (F_X3_twinCount_b9 n) z_fuel v1 v2 v3 x4 M)
def F_X3_twinCount (M : z_M) : Option (Int32 × z_M) :=
  (F_X3_numberTunes M).bind fun q1 =>
  F_X3_twinCount_b9 z_fuel q1.1 0 0 q1.2
def F_X3_firstTwins_b16 (K7 : Int32 → Int32 → z_M → Option (Int32 × z_M)) : Nat → Int32 → Int32 → Int32 → z_M → Option (Int32 × z_M)
  | 0, _, _, _, _ => none
  | n + 1, v1, v2, v3, M =>
    if v1 ≤ v3 then (
      K7 v1 (v2 + 1) M)
    else (
      z_grd (z_in v2 5) <|
      z_grd (z_in v3 5) <|
      if (lg_cmp (z_gl M v2.toNatClampNeg) (z_gl M v3.toNatClampNeg)) = 0 then (
        some (((10 : Int32) * v2) + v3, M))
      else (
        (F_X3_firstTwins_b16 K7 n) v1 v2 (v3 + 1) M))
def F_X3_firstTwins_b7 : Nat → Int32 → Int32 → z_M → Option (Int32 × z_M)
  | 0, _, _, _ => none
  | n + 1, v1, v2, M =>
    if v1 ≤ v2 then (
      some ((-1000000), M))
    else (
      z_nmI (v2 + 1) fun x4 =>
      F_X3_firstTwins_b16 (F_X3_firstTwins_b7 n) z_fuel v1 v2 x4 M)
def F_X3_firstTwins (M : z_M) : Option (Int32 × z_M) :=
  (F_X3_numberTunes M).bind fun q1 =>
  F_X3_firstTwins_b7 z_fuel q1.1 0 q1.2
def F_X3_isSmaller_b17 (M : z_M) : Option Int32 :=
  some 1
def F_X3_isSmaller (a1 : Int32) (a2 : Int32) (M : z_M) : Option Int32 :=
  if a2 = ((-1000000) : Int32) then (
    F_X3_isSmaller_b17 M)
  else (
    (F_J6_bitCount_0f7a4 a1 M).bind fun q2 =>
    (F_J6_bitCount_0f7a4 a2 M).bind fun q4 =>
    if q4 ≤ q2 then (
      some 0)
    else (
      F_X3_isSmaller_b17 M))
def F_X5_isNear (i : Nat) (a1 : Int32) (a2 : Int32) (M : z_M) : Option Int32 :=
  (F_X5_hasTread i a1 M).bind fun q1 =>
  if q1 = 0 then (
    some 0)
  else (
    (F_X5_hasTread i a2 M).bind fun q4 =>
    if q4 = 0 then (
      some 0)
    else (
      if (z_gi M 7 i 7) < (z_abs (a1 - a2)) then (
        some 0)
      else (
        some 1)))
def F_X3_isUnheard_b101 (M : z_M) (K14 : Int32 → Int32 → Int32 → Int32 → Int32 → Option Int32) (v1 : Int32) (v2 : Int32) (v3 : Int32) (v4 : Int32) (v5 : Int32) : Option Int32 :=
  K14 v1 v2 v3 v4 (v5 + 1)
def F_X3_isUnheard_b72 (M : z_M) (K14 : Int32 → Int32 → Int32 → Int32 → Int32 → Option Int32) (v1 : Int32) (v2 : Int32) (v3 : Int32) (v4 : Int32) (v5 : Int32) (v6 : Int32) (s0 : Int32) : Option Int32 :=
  (F_X5_toneOf 27 v6 M).bind fun q12 =>
  (F_X5_soundAs 27 s0 q12 v4 M).bind fun q14 =>
  if q14 = (10 : Int32) then (
    F_X3_isUnheard_b101 M K14 v1 v2 v3 v4 v5)
  else (
    some 0)
def F_X3_isUnheard_b14 (M : z_M) : Nat → Int32 → Int32 → Int32 → Int32 → Int32 → Option Int32
  | 0, _, _, _, _, _ => none
  | n + 1, v1, v2, v3, v4, v5 =>
    if (8 : Int32) ≤ v5 then (
      some 1)
    else (
      (F_X5_treadOf 27 v1 v5 M).bind fun q4 =>
      (F_X5_isNear 27 q4 v2 M).bind fun q6 =>
      if q6 = 0 then (
        F_X3_isUnheard_b101 M (F_X3_isUnheard_b14 M n) v1 v2 v3 v4 v5)
      else (
        if ((v3 >>> (q4 &&& 31)) &&& 1) = (1 : Int32) then (
          F_X3_isUnheard_b72 M (F_X3_isUnheard_b14 M n) v1 v2 v3 v4 v5 q4 5)
        else (
          (F_X5_kindOf 27 q4 M).bind fun q10 =>
          F_X3_isUnheard_b72 M (F_X3_isUnheard_b14 M n) v1 v2 v3 v4 v5 q4 q10)))
def F_X3_isUnheard (a1 : Int32) (a2 : Int32) (a3 : Int32) (M : z_M) : Option Int32 :=
  (F_X5_partOf 27 a1 (2 : Int32) M).bind fun q1 =>
  F_X3_isUnheard_b14 M z_fuel a1 a2 a3 q1 0
def F_X3_sizeOf (a1 : Int32) (M : z_M) : Option Int32 :=
  if a1 = ((-1000000) : Int32) then (
    some (-1000000))
  else (
    (F_J6_bitCount_0f7a4 a1 M).bind fun q2 =>
    some q2)
def F_X5_treadCount (i : Nat) (M : z_M) : Option Int32 :=
  some (z_gi M 7 i 4)
def F_X3_fewestFelts_b50 (M : z_M) (K18 : Int32 → Int32 → Int32 → Int32 → Int32 → Int32 → Option Int32) (v1 : Int32) (v2 : Int32) (v3 : Int32) (v4 : Int32) (v5 : Int32) (v6 : Int32) : Option Int32 :=
  K18 v1 v2 v3 v4 v5 (v6 + 1)
def F_X3_fewestFelts_b18 (M : z_M) : Nat → Int32 → Int32 → Int32 → Int32 → Int32 → Int32 → Option Int32
  | 0, _, _, _, _, _, _ => none
  | n + 1, v1, v2, v3, v4, v5, v6 =>
    if v5 ≤ v6 then (
      if v3 = 0 then (
        (F_X3_sizeOf v4 M).bind fun q6 =>
        some q6)
      else (
        some v4))
    else (
      (F_X3_isSmaller v6 v4 M).bind fun q8 =>
      if q8 = 0 then (
        F_X3_fewestFelts_b50 M (F_X3_fewestFelts_b18 M n) v1 v2 v3 v4 v5 v6)
      else (
        (F_X3_isUnheard v1 v2 v6 M).bind fun q11 =>
        if q11 = 0 then (
          F_X3_fewestFelts_b50 M (F_X3_fewestFelts_b18 M n) v1 v2 v3 v4 v5 v6)
        else (
          F_X3_fewestFelts_b50 M (F_X3_fewestFelts_b18 M n) v1 v2 v3 v6 v5 v6)))
def F_X3_fewestFelts (a1 : Int32) (a2 : Int32) (a3 : Int32) (M : z_M) : Option Int32 :=
  (F_X5_treadCount 27 M).bind fun q1 =>
  z_nmI ((1 : Int32) <<< (q1 &&& 31)) fun x3 =>
  F_X3_fewestFelts_b18 M z_fuel a1 a2 a3 (-1000000) x3 0
def F_X3_doorsHearing_b31 (M : z_M) (K4 : Int32 → Int32 → Int32 → Option Int32) (v1 : Int32) (v2 : Int32) (v3 : Int32) : Option Int32 :=
  K4 v1 v2 (v3 + 1)
def F_X3_doorsHearing_b4 (M : z_M) : Nat → Int32 → Int32 → Int32 → Option Int32
  | 0, _, _, _ => none
  | n + 1, v1, v2, v3 =>
    (F_X5_treadCount 27 M).bind fun q1 =>
    if q1 ≤ v3 then (
      some v2)
    else (
      (F_X3_isUnheard v1 v3 (0 : Int32) M).bind fun q4 =>
      if q4 = 0 then (
        z_nmI (v2 ||| ((1 : Int32) <<< (v3 &&& 31))) fun x7 =>
        F_X3_doorsHearing_b31 M (F_X3_doorsHearing_b4 M n) v1 x7 v3)
      else (
        F_X3_doorsHearing_b31 M (F_X3_doorsHearing_b4 M n) v1 v2 v3))
def F_X3_doorsHearing (a1 : Int32) (M : z_M) : Option Int32 :=
  F_X3_doorsHearing_b4 M z_fuel a1 0 0
def F_X3_hearAll_b2 (M : z_M) : Nat → Int32 → Int32 → Int32 → Option Int32
  | 0, _, _, _ => none
  | n + 1, v1, v2, v3 =>
    if v2 ≤ v3 then (
      some 1)
    else (
      if (5 : Int32) ≤ v3 then (
        some 1)
      else (
        z_grd (z_in v3 5) <|
        if ((z_gi M 17 0 v3.toNatClampNeg) &&& v1) = 0 then (
          some 0)
        else (
          (F_X3_hearAll_b2 M n) v1 v2 (v3 + 1))))
def F_X3_hearAll (a1 : Int32) (a2 : Int32) (M : z_M) : Option Int32 :=
  F_X3_hearAll_b2 M z_fuel a1 a2 0
def F_X3_fewestDoors_b82 (K53 : Int32 → Int32 → Int32 → Int32 → Int32 → z_M → Option (Int32 × z_M)) (v1 : Int32) (v2 : Int32) (v3 : Int32) (v4 : Int32) (v5 : Int32) (M : z_M) : Option (Int32 × z_M) :=
  K53 v1 v2 v3 v4 (v5 + 1) M
def F_X3_fewestDoors_b53 : Nat → Int32 → Int32 → Int32 → Int32 → Int32 → z_M → Option (Int32 × z_M)
  | 0, _, _, _, _, _, _ => none
  | n + 1, v1, v2, v3, v4, v5, M =>
    if v4 ≤ v5 then (
      if v1 = 0 then (
        (F_X3_sizeOf v3 M).bind fun q10 =>
        some (q10, M))
      else (
        some (v3, M)))
    else (
      (F_X3_isSmaller v5 v3 M).bind fun q12 =>
      if q12 = 0 then (
        F_X3_fewestDoors_b82 (F_X3_fewestDoors_b53 n) v1 v2 v3 v4 v5 M)
      else (
        (F_X3_hearAll v5 v2 M).bind fun q15 =>
        if q15 = 0 then (
          F_X3_fewestDoors_b82 (F_X3_fewestDoors_b53 n) v1 v2 v3 v4 v5 M)
        else (
          F_X3_fewestDoors_b82 (F_X3_fewestDoors_b53 n) v1 v2 v5 v4 v5 M)))
def F_X3_fewestDoors_b14 : Nat → Int32 → Int32 → Int32 → z_M → Option (Int32 × z_M)
  | 0, _, _, _, _ => none
  | n + 1, v1, v2, v3, M =>
    if v2 ≤ v3 then (
      (F_X5_treadCount 27 M).bind fun q5 =>
      z_nmI ((1 : Int32) <<< (q5 &&& 31)) fun x7 =>
      F_X3_fewestDoors_b53 z_fuel v1 v2 (-1000000) x7 0 M)
    else (
      (F_X3_doorsHearing v3 M).bind fun q18 =>
      z_grd (z_in v3 5) <|
      (F_X3_fewestDoors_b14 n) v1 v2 (v3 + 1) (z_si M 17 0 v3.toNatClampNeg q18))
def F_X3_fewestDoors (a1 : Int32) (M : z_M) : Option (Int32 × z_M) :=
  (F_X5_walkerCount 27 M).bind fun q1 =>
  z_nmI (z_min q1 (5 : Int32)) fun x3 =>
  F_X3_fewestDoors_b14 z_fuel a1 x3 0 M
def F_X5_setNote (i : Nat) (a1 : Int32) (a2 : Int32) (M : z_M) : Option z_M :=
  (F_X5_hasTread i a1 M).bind fun q1 =>
  if q1 = 0 then (
    some M)
  else (
    z_grd (z_in a1 8) <|
    some (z_si M 9 i a1.toNatClampNeg a2))
def F_X5_planeTo (i : Nat) (a1 : Int32) (a2 : Int32) (M : z_M) : Option z_M :=
  (F_X5_setNote i a1 a2 M).bind fun q1 =>
  (F_X5_setWorn i a1 (0 : Int32) q1).bind fun q3 =>
  some q3
def F_X3_bestPlaning_b93 (K8 : Int32 → Int32 → Int32 → Int32 → z_M → Option (Int32 × z_M)) (K45 : Int32 → Int32 → Int32 → Int32 → Int32 → Int32 → Int32 → z_M → Option (Int32 × z_M)) (v1 : Int32) (v2 : Int32) (v3 : Int32) (v4 : Int32) (v5 : Int32) (v6 : Int32) (v7 : Int32) (M : z_M) : Option (Int32 × z_M) :=
  K45 v1 v2 v3 v4 v5 v6 (v7 + 1) M
def F_X3_bestPlaning_b81 (K8 : Int32 → Int32 → Int32 → Int32 → z_M → Option (Int32 × z_M)) (K45 : Int32 → Int32 → Int32 → Int32 → Int32 → Int32 → Int32 → z_M → Option (Int32 × z_M)) (v1 : Int32) (v4 : Int32) (v5 : Int32) (v6 : Int32) (v7 : Int32) (v8 : Int32) (M : z_M) : Option (Int32 × z_M) :=
  z_nmI (((10 : Int32) * v4) + v7) fun x19 =>
  F_X3_bestPlaning_b93 K8 K45 v1 x19 v8 v4 v5 v6 v7 M
def F_X3_bestPlaning_b45 (K8 : Int32 → Int32 → Int32 → Int32 → z_M → Option (Int32 × z_M)) : Nat → Int32 → Int32 → Int32 → Int32 → Int32 → Int32 → Int32 → z_M → Option (Int32 × z_M)
  | 0, _, _, _, _, _, _, _, _ => none
  | n + 1, v1, v2, v3, v4, v5, v6, v7, M =>
    if (9 : Int32) < v7 then (
      (F_X5_setNote 27 v4 v5 M).bind fun q10 =>
      (F_X5_setWorn 27 v4 v6 q10).bind fun q12 =>
      K8 v1 v2 v3 (v4 + 1) q12)
    else (
      (F_X5_planeTo 27 v4 v7 M).bind fun q14 =>
      (F_X3_twinCount q14).bind fun q16 =>
      if v2 = ((-1000000) : Int32) then (
        F_X3_bestPlaning_b81 K8 (F_X3_bestPlaning_b45 K8 n) v1 v4 v5 v6 v7 q16.1 q16.2)
      else (
        if v3 ≤ q16.1 then (
          F_X3_bestPlaning_b93 K8 (F_X3_bestPlaning_b45 K8 n) v1 v2 v3 v4 v5 v6 v7 q16.2)
        else (
          F_X3_bestPlaning_b81 K8 (F_X3_bestPlaning_b45 K8 n) v1 v4 v5 v6 v7 q16.1 q16.2)))
def F_X3_bestPlaning_b8 : Nat → Int32 → Int32 → Int32 → Int32 → z_M → Option (Int32 × z_M)
  | 0, _, _, _, _, _ => none
  | n + 1, v1, v2, v3, v4, M =>
    (F_X5_treadCount 27 M).bind fun q1 =>
    if q1 ≤ v4 then (
      if v1 = 0 then (
        some (v2, M))
      else (
        some (v3, M)))
    else (
      (F_X5_noteOf 27 v4 M).bind fun q5 =>
      (F_X5_wornOf 27 v4 M).bind fun q7 =>
      F_X3_bestPlaning_b45 (F_X3_bestPlaning_b8 n) z_fuel v1 v2 v3 v4 q5 q7 0 M)
def F_X3_bestPlaning (a1 : Int32) (M : z_M) : Option (Int32 × z_M) :=
  F_X3_bestPlaning_b8 z_fuel a1 (-1000000) 0 0 M
def F_X5_heardAt (i : Nat) (a1 : Int32) (a2 : Int32) (M : z_M) : Option Int32 :=
  (F_X5_soundsIn i a2 (a1 - (z_gi M 7 i 7)) (a1 + (z_gi M 7 i 7)) M).bind fun q1 =>
  some q1
def F_X3_isRise_b24 (M : z_M) : Nat → Int32 → Int32 → Int32 → Int32 → Int32 → Option Int32
  | 0, _, _, _, _, _ => none
  | n + 1, v2, v3, v4, v5, v6 =>
    if v5 ≤ v6 then (
      some 0)
    else (
      (F_X5_heardAt 27 v2 (v4 + v6) M).bind fun q6 =>
      (F_J6_bitCount_0f7a4 q6 M).bind fun q8 =>
      if q8 < v3 then (
        (F_X3_isRise_b24 M n) v2 v3 v4 v5 (v6 + 1))
      else (
        some 1))
def F_X3_isRise (a1 : Int32) (a2 : Int32) (a3 : Int32) (M : z_M) : Option Int32 :=
  (F_X5_partOf 27 a1 (3 : Int32) M).bind fun q1 =>
  (F_X5_longOf 27 a1 M).bind fun q3 =>
  F_X3_isRise_b24 M z_fuel a2 a3 q1 q3 0
def F_X3_risesOf_b81 (K10 : Int32 → Int32 → Int32 → Int32 → Int32 → Int32 → Int32 → z_M → Option (Int32 × z_M)) (K19 : Int32 → Int32 → Int32 → Int32 → Int32 → Int32 → Int32 → Int32 → z_M → Option (Int32 × z_M)) (v1 : Int32) (v2 : Int32) (v3 : Int32) (v4 : Int32) (v5 : Int32) (v6 : Int32) (v7 : Int32) (v8 : Int32) (M : z_M) : Option (Int32 × z_M) :=
  K19 v1 v2 v3 v4 v5 v6 v7 (v8 + 1) M
def F_X3_risesOf_b19 (K10 : Int32 → Int32 → Int32 → Int32 → Int32 → Int32 → Int32 → z_M → Option (Int32 × z_M)) : Nat → Int32 → Int32 → Int32 → Int32 → Int32 → Int32 → Int32 → Int32 → z_M → Option (Int32 × z_M)
  | 0, _, _, _, _, _, _, _, _, _ => none
  | n + 1, v1, v2, v3, v4, v5, v6, v7, v8, M =>
    if (20 : Int32) < v8 then (
      K10 v1 v2 v3 v4 v5 v6 (v7 + 1) M)
    else (
      (F_X5_setPart 27 v1 (2 : Int32) v7 M).bind fun q4 =>
      (F_X5_setPart 27 v1 (3 : Int32) v8 q4).bind fun q6 =>
      (F_X3_isRise v1 v2 v3 q6).bind fun q8 =>
      if q8 = 0 then (
        F_X3_risesOf_b81 K10 (F_X3_risesOf_b19 K10 n) v1 v2 v3 v4 v5 v6 v7 v8 q6)
      else (
        if v6 = ((-1000000) : Int32) then (
          z_nmI (((100 : Int32) * v7) + v8) fun x12 =>
          F_X3_risesOf_b81 K10 (F_X3_risesOf_b19 K10 n) v1 v2 v3 v4 (v5 + 1) x12 v7 v8 q6)
        else (
          F_X3_risesOf_b81 K10 (F_X3_risesOf_b19 K10 n) v1 v2 v3 v4 (v5 + 1) v6 v7 v8 q6)))
def F_X3_risesOf_b10 : Nat → Int32 → Int32 → Int32 → Int32 → Int32 → Int32 → Int32 → z_M → Option (Int32 × z_M)
  | 0, _, _, _, _, _, _, _, _ => none
  | n + 1, v1, v2, v3, v4, v5, v6, v7, M =>
    if (3 : Int32) < v7 then (
      if v4 = 0 then (
        some (v5, M))
      else (
        some (v6, M)))
    else (
      F_X3_risesOf_b19 (F_X3_risesOf_b10 n) z_fuel v1 v2 v3 v4 v5 v6 v7 0 M)
def F_X3_risesOf (a1 : Int32) (a2 : Int32) (a3 : Int32) (a4 : Int32) (M : z_M) : Option (Int32 × z_M) :=
  F_X3_risesOf_b10 z_fuel a1 a2 a3 a4 0 (-1000000) 1 M
def F_X3_isHeardSo_b2 (M : z_M) : Nat → Int32 → Int32 → Int32 → Option Int32
  | 0, _, _, _ => none
  | n + 1, v1, v2, v3 =>
    if (z_gi M 15 0 4) ≤ v3 then (
      some 1)
    else (
      if (12 : Int32) ≤ v3 then (
        some 1)
      else (
        z_grd (z_in v3 12) <|
        (F_X5_heardAt 27 v1 (v2 + v3) M).bind fun q4 =>
        if (z_gi M 16 0 v3.toNatClampNeg) = q4 then (
          (F_X3_isHeardSo_b2 M n) v1 v2 (v3 + 1))
        else (
          some 0)))
def F_X3_isHeardSo (a1 : Int32) (a2 : Int32) (M : z_M) : Option Int32 :=
  F_X3_isHeardSo_b2 M z_fuel a1 a2 0
def F_X5_setKind (i : Nat) (a1 : Int32) (a2 : Int32) (M : z_M) : Option z_M :=
  (F_X5_hasTread i a1 M).bind fun q1 =>
  if q1 = 0 then (
    some M)
  else (
    z_grd (z_in a1 8) <|
    some (z_si M 8 i a1.toNatClampNeg a2))
def F_X3_kindsBy_b40 (K6 : Int32 → Int32 → Int32 → Int32 → Int32 → z_M → Option (Int32 × z_M)) (v1 : Int32) (v2 : Int32) (v3 : Int32) (v4 : Int32) (v5 : Int32) (M : z_M) : Option (Int32 × z_M) :=
  K6 v1 v2 v3 v4 (v5 + 1) M
def F_X3_kindsBy_b6 : Nat → Int32 → Int32 → Int32 → Int32 → Int32 → z_M → Option (Int32 × z_M)
  | 0, _, _, _, _, _, _ => none
  | n + 1, v1, v2, v3, v4, v5, M =>
    if (5 : Int32) < v5 then (
      some (v4, M))
    else (
      (F_X5_setKind 27 v1 v5 M).bind fun q2 =>
      (F_X3_isHeardSo v2 v3 q2).bind fun q4 =>
      if q4 = 0 then (
        F_X3_kindsBy_b40 (F_X3_kindsBy_b6 n) v1 v2 v3 v4 v5 q2)
      else (
        z_nmI (v4 ||| ((1 : Int32) <<< (v5 &&& 31))) fun x7 =>
        F_X3_kindsBy_b40 (F_X3_kindsBy_b6 n) v1 v2 v3 x7 v5 q2))
def F_X3_kindsBy (a1 : Int32) (a2 : Int32) (a3 : Int32) (M : z_M) : Option (Int32 × z_M) :=
  F_X3_kindsBy_b6 z_fuel a1 a2 a3 0 1 M
def F_X3_notesBy_b41 (K6 : Int32 → Int32 → Int32 → Int32 → Int32 → z_M → Option (Int32 × z_M)) (v1 : Int32) (v2 : Int32) (v3 : Int32) (v4 : Int32) (v5 : Int32) (M : z_M) : Option (Int32 × z_M) :=
  K6 v1 v2 v3 v4 (v5 + 1) M
def F_X3_notesBy_b6 : Nat → Int32 → Int32 → Int32 → Int32 → Int32 → z_M → Option (Int32 × z_M)
  | 0, _, _, _, _, _, _ => none
  | n + 1, v1, v2, v3, v4, v5, M =>
    if (9 : Int32) < v5 then (
      some (v4, M))
    else (
      (F_X5_setNote 27 v1 v5 M).bind fun q2 =>
      (F_X3_isHeardSo v2 v3 q2).bind fun q4 =>
      if q4 = 0 then (
        F_X3_notesBy_b41 (F_X3_notesBy_b6 n) v1 v2 v3 v4 v5 q2)
      else (
        z_nmI (v4 ||| ((1 : Int32) <<< (v5 &&& 31))) fun x7 =>
        F_X3_notesBy_b41 (F_X3_notesBy_b6 n) v1 v2 v3 x7 v5 q2))
def F_X3_notesBy (a1 : Int32) (a2 : Int32) (a3 : Int32) (M : z_M) : Option (Int32 × z_M) :=
  F_X3_notesBy_b6 z_fuel a1 a2 a3 0 0 M
def F_X3_partsBy_b56 (K13 : Int32 → Int32 → Int32 → Int32 → Int32 → Int32 → z_M → Option (Int32 × z_M)) (v1 : Int32) (v2 : Int32) (v3 : Int32) (v4 : Int32) (v5 : Int32) (v6 : Int32) (M : z_M) : Option (Int32 × z_M) :=
  K13 v1 v2 v3 v4 v5 (v6 + 1) M
def F_X3_partsBy_b13 : Nat → Int32 → Int32 → Int32 → Int32 → Int32 → Int32 → z_M → Option (Int32 × z_M)
  | 0, _, _, _, _, _, _, _ => none
  | n + 1, v1, v2, v3, v4, v5, v6, M =>
    (F_X5_mostOf 27 v2 M).bind fun q3 =>
    if q3 < v6 then (
      some (v5, M))
    else (
      (F_X5_setPart 27 v1 v2 v6 M).bind fun q6 =>
      (F_X3_isHeardSo v3 v4 q6).bind fun q8 =>
      if q8 = 0 then (
        F_X3_partsBy_b56 (F_X3_partsBy_b13 n) v1 v2 v3 v4 v5 v6 q6)
      else (
        z_nmI (v5 ||| ((1 : Int32) <<< (v6 &&& 31))) fun x11 =>
        F_X3_partsBy_b56 (F_X3_partsBy_b13 n) v1 v2 v3 v4 x11 v6 q6))
def F_X3_partsBy (a1 : Int32) (a2 : Int32) (a3 : Int32) (a4 : Int32) (M : z_M) : Option (Int32 × z_M) :=
  (F_X5_leastOf 27 a2 M).bind fun q1 =>
  F_X3_partsBy_b13 z_fuel a1 a2 a3 a4 0 q1 M
def F_X3_commonDivisor_b9 (M : z_M) : Nat → Int64 → Int64 → Int32 → Option Int64
  | 0, _, _, _ => none
  | n + 1, v4, v6, v8 =>
    if (100 : Int32) ≤ v8 then (
      some v4)
    else (
      if (lg_cmp v6 0) = 0 then (
        some v4)
      else (
        z_grd (¬ v6 = 0) <|
        z_nmL (v4 - v4 / v6 * v6) fun x4 =>
        (F_X3_commonDivisor_b9 M n) v6 x4 (v8 + 1)))
def F_X3_commonDivisor (a1 : Int64) (a2 : Int64) (M : z_M) : Option Int64 :=
  F_X3_commonDivisor_b9 M z_fuel a1 a2 0
def F_X5_soundOf (i : Nat) (a1 : Int32) (a2 : Int32) (M : z_M) : Option Int32 :=
  (F_X5_treadOf i a1 a2 M).bind fun q1 =>
  (F_X5_hasTread i q1 M).bind fun q3 =>
  if q3 = 0 then (
    some (-1000000))
  else (
    z_grd (z_in q1 8) <|
    (F_X5_toneOf i q1 M).bind fun q7 =>
    (F_X5_partOf i a1 (2 : Int32) M).bind fun q9 =>
    (F_X5_soundAs i (z_gi M 8 i q1.toNatClampNeg) q7 q9 M).bind fun q11 =>
    some q11)
def F_X3_likelihood_b103 (M : z_M) (K9 : Int32 → Int32 → Int32 → Int32 → Int64 → Int64 → Int32 → Option Int64) (v1 : Int32) (v2 : Int32) (v3 : Int32) (v4 : Int32) (v5 : Int64) (v7 : Int64) (v9 : Int32) : Option Int64 :=
  K9 v1 v2 v3 v4 v5 v7 (v9 + 1)
def F_X3_likelihood_b85 (M : z_M) (K9 : Int32 → Int32 → Int32 → Int32 → Int64 → Int64 → Int32 → Option Int64) (v1 : Int32) (v2 : Int32) (v3 : Int32) (v4 : Int32) (v5 : Int64) (v7 : Int64) (v9 : Int32) : Option Int64 :=
  (F_X5_soundOf 27 v1 v9 M).bind fun q17 =>
  if q17 = (10 : Int32) then (
    F_X3_likelihood_b103 M K9 v1 v2 v3 v4 v5 v7 v9)
  else (
    F_X3_likelihood_b103 M K9 v1 v2 v3 v4 v5 0 v9)
def F_X3_likelihood_b9 (M : z_M) : Nat → Int32 → Int32 → Int32 → Int32 → Int64 → Int64 → Int32 → Option Int64
  | 0, _, _, _, _, _, _, _ => none
  | n + 1, v1, v2, v3, v4, v5, v7, v9 =>
    if (8 : Int32) ≤ v9 then (
      z_nmL (v5 - v7) fun x2 =>
      (F_X3_commonDivisor v5 x2 M).bind fun q3 =>
      if 0 ≤ (lg_cmp q3 1) then (
        if v4 = 0 then (
          z_grd (¬ q3 = 0) <|
          some (x2 / q3))
        else (
          z_grd (¬ q3 = 0) <|
          some (v5 / q3)))
      else (
        some (-1000000)))
    else (
      (F_X5_treadOf 27 v1 v9 M).bind fun q9 =>
      (F_X5_isNear 27 q9 v2 M).bind fun q11 =>
      if q11 = 0 then (
        F_X3_likelihood_b103 M (F_X3_likelihood_b9 M n) v1 v2 v3 v4 v5 v7 v9)
      else (
        (F_X5_kindOf 27 q9 M).bind fun q14 =>
        if q14 = (4 : Int32) then (
          F_X3_likelihood_b85 M (F_X3_likelihood_b9 M n) v1 v2 v3 v4 v5 v7 v9)
        else (
          if q14 = (5 : Int32) then (
            F_X3_likelihood_b85 M (F_X3_likelihood_b9 M n) v1 v2 v3 v4 v5 v7 v9)
          else (
            z_nmL (v5 * 10) fun x21 =>
            z_nmL (v7 * v3.toInt64) fun x22 =>
            F_X3_likelihood_b103 M (F_X3_likelihood_b9 M n) v1 v2 v3 v4 x21 x22 v9))))
def F_X3_likelihood (a1 : Int32) (a2 : Int32) (a3 : Int32) (a4 : Int32) (M : z_M) : Option Int64 :=
  F_X3_likelihood_b9 M z_fuel a1 a2 a3 a4 1 1 0
def F_X3_soundingSteps_b51 (M : z_M) (K4 : Int32 → Int32 → Option Int32) (K27 : Int32 → Int32 → Int32 → Int32 → Option Int32) (v1 : Int32) (v2 : Int32) (v3 : Int32) (v4 : Int32) : Option Int32 :=
  K27 v1 v2 v3 (v4 + 1)
def F_X3_soundingSteps_b27 (M : z_M) (K4 : Int32 → Int32 → Option Int32) : Nat → Int32 → Int32 → Int32 → Int32 → Option Int32
  | 0, _, _, _, _ => none
  | n + 1, v1, v2, v3, v4 =>
    if v3 ≤ v4 then (
      K4 v1 (v2 + 1))
    else (
      (F_X5_soundOf 27 v2 v4 M).bind fun q7 =>
      if q7 = (10 : Int32) then (
        F_X3_soundingSteps_b51 M K4 (F_X3_soundingSteps_b27 M K4 n) v1 v2 v3 v4)
      else (
        F_X3_soundingSteps_b51 M K4 (F_X3_soundingSteps_b27 M K4 n) (v1 + 1) v2 v3 v4))
def F_X3_soundingSteps_b4 (M : z_M) : Nat → Int32 → Int32 → Option Int32
  | 0, _, _ => none
  | n + 1, v1, v2 =>
    (F_X5_walkerCount 27 M).bind fun q1 =>
    if q1 ≤ v2 then (
      some v1)
    else (
      (F_X5_longOf 27 v2 M).bind fun q4 =>
      F_X3_soundingSteps_b27 M (F_X3_soundingSteps_b4 M n) z_fuel v1 v2 q4 0)
def F_X3_soundingSteps (M : z_M) : Option Int32 :=
  F_X3_soundingSteps_b4 M z_fuel 0 0
def F_X5_tonesTogether_b4 (i : Nat) (M : z_M) : Nat → Int32 → Int32 → Option Int32
  | 0, _, _ => none
  | n + 1, v1, v2 =>
    if (z_gi M 7 i 4) ≤ v2 then (
      some v1)
    else (
      (F_X5_toneOf i v2 M).bind fun q2 =>
      z_nmI (v1 + q2) fun x4 =>
      (F_X5_tonesTogether_b4 i M n) x4 (v2 + 1))
def F_X5_tonesTogether (i : Nat) (M : z_M) : Option Int32 :=
  F_X5_tonesTogether_b4 i M z_fuel 0 0
def F_X3_weeksBy_b126 (K43 : Int32 → Int32 → Int32 → Int32 → Int64 → Int32 → Int32 → z_M → Option (Int32 × z_M)) (v1 : Int32) (v3 : Int32) (v4 : Int32) (v5 : Int32) (v6 : Int64) (v8 : Int32) (v9 : Int32) (M : z_M) : Option (Int32 × z_M) :=
  (F_X3_soundingSteps M).bind fun q15 =>
  z_nmI (v8 + q15) fun x17 =>
  (F_X5_passDay 27 M).bind fun q18 =>
  K43 v1 v3 v4 v5 v6 x17 (v9 + 1) q18
def F_X3_weeksBy_b93 (K43 : Int32 → Int32 → Int32 → Int32 → Int64 → Int32 → Int32 → z_M → Option (Int32 × z_M)) (v1 : Int32) (v3 : Int32) (v4 : Int32) (v5 : Int32) (v6 : Int64) (v8 : Int32) (v9 : Int32) (M : z_M) : Option (Int32 × z_M) :=
  if (lg_cmp (v6 - v6 / 4 * 4) 0) = 0 then (
    z_grd (¬ v5.toInt64 = 0) <|
    (F_X5_setPart 27 ((v6 - v6 / v5.toInt64 * v5.toInt64).toInt32) (3 : Int32) ((v6 - v6 / 21 * 21).toInt32) M).bind fun q21 =>
    F_X3_weeksBy_b126 K43 v1 v3 v4 v5 v6 v8 v9 q21)
  else (
    F_X3_weeksBy_b126 K43 v1 v3 v4 v5 v6 v8 v9 M)
def F_X3_weeksBy_b43 : Nat → Int32 → Int32 → Int32 → Int32 → Int64 → Int32 → Int32 → z_M → Option (Int32 × z_M)
  | 0, _, _, _, _, _, _, _, _ => none
  | n + 1, v1, v3, v4, v5, v6, v8, v9, M =>
    if v1 ≤ v9 then (
      if v3 = 0 then (
        some (v8, M))
      else (
        (F_X5_tonesTogether 27 M).bind fun q10 =>
        some (q10, M)))
    else (
      z_nmL ((v6 * 16807) - (v6 * 16807) / 2147483647 * 2147483647) fun x12 =>
      if (lg_cmp (x12 - x12 / 3 * 3) 0) = 0 then (
        z_grd (¬ v4.toInt64 = 0) <|
        (F_X5_planeTo 27 ((x12 - x12 / v4.toInt64 * v4.toInt64).toInt32) ((x12 - x12 / 10 * 10).toInt32) M).bind fun q24 =>
        F_X3_weeksBy_b93 (F_X3_weeksBy_b43 n) v1 v3 v4 v5 x12 v8 v9 q24)
      else (
        F_X3_weeksBy_b93 (F_X3_weeksBy_b43 n) v1 v3 v4 v5 x12 v8 v9 M))
def F_X3_weeksBy (a1 : Int32) (a2 : Int32) (a3 : Int32) (M : z_M) : Option (Int32 × z_M) :=
  (F_X5_treadCount 27 M).bind fun q1 =>
  (F_X5_walkerCount 27 M).bind fun q3 =>
  if q1 < (1 : Int32) then (
    some ((-1000000), M))
  else (
    if (1 : Int32) ≤ q3 then (
      z_nmL (a2.toInt64) fun x7 =>
      F_X3_weeksBy_b43 z_fuel a1 a3 q1 q3 x7 0 0 M)
    else (
      some ((-1000000), M)))
def F_X4_isRow (a1 : Int32) (M : z_M) : Option Int32 :=
  if a1 < 0 then (
    some 0)
  else (
    if (8 : Int32) ≤ a1 then (
      some 0)
    else (
      some 1))
def F_X4_isLane (a1 : Int32) (M : z_M) : Option Int32 :=
  if a1 < 0 then (
    some 0)
  else (
    if (3 : Int32) ≤ a1 then (
      some 0)
    else (
      some 1))
def F_X4_isMissing_b17 (M : z_M) : Option Int32 :=
  some 1
def F_X4_isMissing (a1 : Int32) (M : z_M) : Option Int32 :=
  (F_X4_isRow a1 M).bind fun q1 =>
  if q1 = 0 then (
    F_X4_isMissing_b17 M)
  else (
    z_grd (z_in a1 8) <|
    if 0 ≤ (z_gi M 4 0 a1.toNatClampNeg) then (
      some 0)
    else (
      F_X4_isMissing_b17 M))
def F_X4_rowCount_b22 (M : z_M) (K4 : Int32 → Int32 → Option Int32) (v1 : Int32) (v2 : Int32) : Option Int32 :=
  K4 v1 (v2 + 1)
def F_X4_rowCount_b4 (M : z_M) : Nat → Int32 → Int32 → Option Int32
  | 0, _, _ => none
  | n + 1, v1, v2 =>
    if (8 : Int32) ≤ v2 then (
      some v1)
    else (
      z_grd (z_in v2 8) <|
      if (z_gi M 4 0 v2.toNatClampNeg) < 0 then (
        F_X4_rowCount_b22 M (F_X4_rowCount_b4 M n) v1 v2)
      else (
        F_X4_rowCount_b22 M (F_X4_rowCount_b4 M n) (v1 + 1) v2))
def F_X4_rowCount (M : z_M) : Option Int32 :=
  F_X4_rowCount_b4 M z_fuel 0 0
def F_X4_findingOf_b45 (M : z_M) (s0 : Int32) : Option Int32 :=
  if s0 = 0 then (
    some 2)
  else (
    some 0)
def F_X4_findingOf_b44 (M : z_M) : Option Int32 :=
  F_X4_findingOf_b45 M 0
def F_X4_findingOf (a1 : Int32) (a2 : Int32) (a3 : Int32) (M : z_M) : Option Int32 :=
  (F_X4_isMissing a1 M).bind fun q1 =>
  if q1 = 0 then (
    if a2 < 0 then (
      F_X4_findingOf_b44 M)
    else (
      if a3 < 0 then (
        F_X4_findingOf_b44 M)
      else (
        z_grd (z_in a1 8) <|
        if (z_gi M 4 0 a1.toNatClampNeg) < a3 then (
          F_X4_findingOf_b44 M)
        else (
          z_grd (z_in a1 8) <|
          if ((z_gi M 4 0 a1.toNatClampNeg) - a3) < a2 then (
            F_X4_findingOf_b44 M)
          else (
            F_X4_findingOf_b45 M 1)))))
  else (
    some 1)
def F_X4_findingOfCopy (a1 : Int32) (a2 : Int32) (a3 : Int32) (a4 : Int32) (a5 : Int32) (M : z_M) : Option Int32 :=
  (F_X4_isMissing a1 M).bind fun q1 =>
  if q1 = 0 then (
    (F_X4_isMissing a3 M).bind fun q4 =>
    if q4 = 0 then (
      z_grd (z_in a1 8) <|
      z_grd (z_in a3 8) <|
      if (z_gi M 3 0 a1.toNatClampNeg) = (z_gi M 3 0 a3.toNatClampNeg) then (
        (F_X4_findingOf a1 a2 a5 M).bind fun q10 =>
        if q10 = 0 then (
          (F_X4_findingOf a3 a4 a5 M).bind fun q13 =>
          some q13)
        else (
          some q10))
      else (
        some 5))
    else (
      some 1))
  else (
    some 1)
def F_X4_lay_b38 : Nat → Int32 → Int32 → Int32 → z_M → Option (Int32 × z_M)
  | 0, _, _, _, _ => none
  | n + 1, v1, v3, v4, M =>
    if v3 ≤ v4 then (
      some (v3, M))
    else (
      z_grd (z_in ((v1 * 40) + v4) 320) <|
      (F_X4_lay_b38 n) v1 v3 (v4 + 1) (z_si M 2 0 ((v1 * 40) + v4).toNatClampNeg 0))
def F_X4_lay (a1 : Int32) (a2 : Int32) (a3 : Int32) (M : z_M) : Option (Int32 × z_M) :=
  (F_X4_isRow a1 M).bind fun q1 =>
  if q1 = 0 then (
    some ((-1000001), M))
  else (
    if a3 < 0 then (
      some ((-1000001), M))
    else (
      if a3 ≤ (40 : Int32) then (
        z_grd (z_in a1 8) <|
        z_grd (z_in a1 8) <|
        z_nmM (z_si M 3 0 a1.toNatClampNeg a2) fun M8 =>
        F_X4_lay_b38 z_fuel a1 a3 0 (z_si M8 4 0 a1.toNatClampNeg a3))
      else (
        some ((-1000001), M))))
def F_X4_put_b46 (v1 : Int32) (v2 : Int32) (v4 : Int32) (M : z_M) : Option (Int32 × z_M) :=
  z_grd (z_in ((v1 * 40) + v2) 320) <|
  some (v4, z_si M 2 0 ((v1 * 40) + v2).toNatClampNeg v4)
def F_X4_put (a1 : Int32) (a2 : Int32) (a3 : Int32) (M : z_M) : Option (Int32 × z_M) :=
  (F_X4_findingOf a1 a2 (1 : Int32) M).bind fun q1 =>
  if q1 = 0 then (
    z_grd (z_in a1 8) <|
    if (z_gi M 3 0 a1.toNatClampNeg) = 0 then (
      z_nmI (a3.toInt8.toInt32) fun x10 =>
      F_X4_put_b46 a1 a2 x10 M)
    else (
      z_grd (z_in a1 8) <|
      if (z_gi M 3 0 a1.toNatClampNeg) = (1 : Int32) then (
        z_nmI (a3.toInt16.toInt32) fun x9 =>
        F_X4_put_b46 a1 a2 x9 M)
      else (
        F_X4_put_b46 a1 a2 a3 M)))
  else (
    some ((-1000001), M))
def F_X4_itemAt (a1 : Int32) (a2 : Int32) (M : z_M) : Option Int32 :=
  (F_X4_findingOf a1 a2 (1 : Int32) M).bind fun q1 =>
  if q1 = 0 then (
    z_grd (z_in ((a1 * 40) + a2) 320) <|
    some (z_gi M 2 0 ((a1 * 40) + a2).toNatClampNeg))
  else (
    some 0)
def F_X4_move (a1 : Int32) (a2 : Int32) (a3 : Int32) (a4 : Int32) (a5 : Int32) (M : z_M) : Option (Int32 × z_M) :=
  (F_X4_findingOfCopy a1 a2 a3 a4 a5 M).bind fun q1 =>
  if q1 = 0 then (
    z_grd (¬ ((a1 * 40) + a2) < 0 ∧ ¬ ((a3 * 40) + a4) < 0 ∧ ¬ a5 < 0 ∧ ((a1 * 40) + a2).toNatClampNeg + a5.toNatClampNeg ≤ 320 ∧ ((a3 * 40) + a4).toNatClampNeg + a5.toNatClampNeg ≤ 320) <|
    some (a5, z_cp M 2 0 2 0 ((a1 * 40) + a2).toNatClampNeg ((a3 * 40) + a4).toNatClampNeg a5.toNatClampNeg))
  else (
    some ((-1000001), M))
def F_X4_takeAway (a1 : Int32) (M : z_M) : Option (Int32 × z_M) :=
  (F_X4_isMissing a1 M).bind fun q1 =>
  if q1 = 0 then (
    z_grd (z_in a1 8) <|
    z_nmI (z_gi M 4 0 a1.toNatClampNeg) fun x5 =>
    z_grd (z_in a1 8) <|
    some (x5, z_si M 4 0 a1.toNatClampNeg (-1)))
  else (
    some ((-1000001), M))
def F_X5_stands (i : Nat) (M : z_M) : Option Int32 :=
  if (z_gi M 7 i 4) ≤ 0 then (
    some 0)
  else (
    some 1)
def F_X5_reachNow (i : Nat) (M : z_M) : Option Int32 :=
  some (z_gi M 7 i 7)
def F_X5_dayNumber (i : Nat) (M : z_M) : Option Int32 :=
  some (z_gi M 7 i 8)
def F_X5_canBe (i : Nat) (a1 : Int32) (a2 : Int32) (M : z_M) : Option Int32 :=
  (F_X5_leastOf i a1 M).bind fun q1 =>
  if a2 < q1 then (
    some 0)
  else (
    (F_X5_mostOf i a1 M).bind fun q4 =>
    if q4 < a2 then (
      some 0)
    else (
      some 1))
def F_X5_setReach (i : Nat) (a1 : Int32) (M : z_M) : Option z_M :=
  some (z_si M 7 i 7 a1)
def F_X5_wornTogether_b4 (i : Nat) (M : z_M) : Nat → Int32 → Int32 → Option Int32
  | 0, _, _ => none
  | n + 1, v1, v2 =>
    if (z_gi M 7 i 4) ≤ v2 then (
      some v1)
    else (
      (F_X5_wornOf i v2 M).bind fun q2 =>
      z_nmI (v1 + q2) fun x4 =>
      (F_X5_wornTogether_b4 i M n) x4 (v2 + 1))
def F_X5_wornTogether (i : Nat) (M : z_M) : Option Int32 :=
  F_X5_wornTogether_b4 i M z_fuel 0 0
def F_X5_walkersOn_b39 (i : Nat) (M : z_M) (K4 : Int32 → Int32 → Int32 → Option Int32) (K15 : Int32 → Int32 → Int32 → Int32 → Option Int32) (v1 : Int32) (v2 : Int32) (v3 : Int32) (v4 : Int32) : Option Int32 :=
  K15 v1 v2 v3 (v4 + 1)
def F_X5_walkersOn_b15 (i : Nat) (M : z_M) (K4 : Int32 → Int32 → Int32 → Option Int32) : Nat → Int32 → Int32 → Int32 → Int32 → Option Int32
  | 0, _, _, _, _ => none
  | n + 1, v1, v2, v3, v4 =>
    if (8 : Int32) ≤ v4 then (
      K4 v1 v2 (v3 + 1))
    else (
      (F_X5_treadOf i v3 v4 M).bind fun q3 =>
      if q3 = v1 then (
        z_nmI (v2 ||| ((1 : Int32) <<< (v3 &&& 31))) fun x6 =>
        F_X5_walkersOn_b39 i M K4 (F_X5_walkersOn_b15 i M K4 n) v1 x6 v3 v4)
      else (
        F_X5_walkersOn_b39 i M K4 (F_X5_walkersOn_b15 i M K4 n) v1 v2 v3 v4))
def F_X5_walkersOn_b4 (i : Nat) (M : z_M) : Nat → Int32 → Int32 → Int32 → Option Int32
  | 0, _, _, _ => none
  | n + 1, v1, v2, v3 =>
    if (z_gi M 7 i 5) ≤ v3 then (
      some v2)
    else (
      F_X5_walkersOn_b15 i M (F_X5_walkersOn_b4 i M n) z_fuel v1 v2 v3 0)
def F_X5_walkersOn (i : Nat) (a1 : Int32) (M : z_M) : Option Int32 :=
  F_X5_walkersOn_b4 i M z_fuel a1 0 0
def F_X6_row_b41 (v1 : Int32) (v2 : Int32) (v3 : Int32) (s0 : Int32) (M : z_M) : Option (Int32 × z_M) :=
  z_nmM (z_si M 0 0 7 s0) fun M9 =>
  if (z_gi M9 0 0 7) = 0 then (
    (F_X4_lay v1 v2 v3 M9).bind fun q11 =>
    some (q11.1, q11.2))
  else (
    some (((-1000010) : Int32) - (z_gi M9 0 0 7), M9))
def F_X6_row (a1 : Int32) (a2 : Int32) (a3 : Int32) (M : z_M) : Option (Int32 × z_M) :=
  (F_X4_isRow a1 M).bind fun q1 =>
  if q1 = 0 then (
    some ((-1000001), M))
  else (
    (F_X4_isLane a2 M).bind fun q4 =>
    if q4 = 0 then (
      some ((-1000001), M))
    else (
      if a3 ≤ (40 : Int32) then (
        if 0 ≤ a3 then (
          F_X6_row_b41 a1 a2 a3 0 M)
        else (
          F_X6_row_b41 a1 a2 a3 4 M))
      else (
        some ((-1000001), M))))
def F_X6_set (a1 : Int32) (a2 : Int32) (a3 : Int32) (M : z_M) : Option (Int32 × z_M) :=
  (F_X4_isRow a1 M).bind fun q1 =>
  if q1 = 0 then (
    some ((-1000001), M))
  else (
    (F_X4_findingOf a1 a2 (1 : Int32) M).bind fun q4 =>
    z_nmM (z_si M 0 0 7 q4) fun M6 =>
    if (z_gi M6 0 0 7) = 0 then (
      (F_X4_put a1 a2 a3 M6).bind fun q8 =>
      some (q8.1, q8.2))
    else (
      some (((-1000010) : Int32) - (z_gi M6 0 0 7), M6)))
def F_X6_copy (a1 : Int32) (a2 : Int32) (a3 : Int32) (a4 : Int32) (a5 : Int32) (M : z_M) : Option (Int32 × z_M) :=
  (F_X4_isRow a1 M).bind fun q1 =>
  if q1 = 0 then (
    some ((-1000001), M))
  else (
    (F_X4_isRow a3 M).bind fun q4 =>
    if q4 = 0 then (
      some ((-1000001), M))
    else (
      (F_X4_findingOfCopy a1 a2 a3 a4 a5 M).bind fun q7 =>
      z_nmM (z_si M 0 0 7 q7) fun M9 =>
      if (z_gi M9 0 0 7) = 0 then (
        (F_X4_move a1 a2 a3 a4 a5 M9).bind fun q11 =>
        some (q11.1, q11.2))
      else (
        some (((-1000010) : Int32) - (z_gi M9 0 0 7), M9))))
def F_X6_drop_b31 (v1 : Int32) (s0 : Int32) (M : z_M) : Option (Int32 × z_M) :=
  z_nmM (z_si M 0 0 7 s0) fun M7 =>
  if (z_gi M7 0 0 7) = 0 then (
    (F_X4_takeAway v1 M7).bind fun q9 =>
    some (q9.1, q9.2))
  else (
    some (((-1000010) : Int32) - (z_gi M7 0 0 7), M7))
def F_X6_drop (a1 : Int32) (M : z_M) : Option (Int32 × z_M) :=
  (F_X4_isRow a1 M).bind fun q1 =>
  if q1 = 0 then (
    some ((-1000001), M))
  else (
    (F_X4_isMissing a1 M).bind fun q4 =>
    if q4 = 0 then (
      F_X6_drop_b31 a1 0 M)
    else (
      F_X6_drop_b31 a1 1 M))
def F_X6_isWithin (a1 : Int32) (a2 : Int32) (a3 : Int32) (M : z_M) : Option Int32 :=
  if a1 < a2 then (
    some 0)
  else (
    if a3 < a1 then (
      some 0)
    else (
      some 1))
def F_X6_feed (a1 : Int32) (M : z_M) : Option (Int32 × z_M) :=
  (F_X6_isWithin a1 (0 : Int32) (255 : Int32) M).bind fun q1 =>
  if q1 = 0 then (
    some ((-1000001), M))
  else (
    (F_X2_add a1 M).bind fun q4 =>
    some (q4.1, q4.2))
def F_X6_town (M : z_M) : Option (Int32 × z_M) :=
  (F_X2_readTape M).bind fun q1 =>
  z_opt q1.1 (
    (F_X2_faultPlace q1.2).bind fun q4 =>
    some (((-1000100) : Int32) - q4, q1.2))
  (fun j3 => z_grd (j3 < 29) <|
    (F_X5_take 24 (some j3) q1.2).bind fun q7 =>
    (F_X1_forget q7).bind fun q9 =>
    (F_X5_treadCount 24 q9).bind fun q11 =>
    some (q11, q9))
def F_X6_fault (M : z_M) : Option Int32 :=
  (F_X2_faultNumber M).bind fun q1 =>
  some q1
def F_X6_undo (M : z_M) : Option (Int32 × z_M) :=
  (F_X1_takeBack M).bind fun q1 =>
  some (q1.1, q1.2)
def F_X6_days_b46 : Nat → Int32 → Int32 → z_M → Option (Int32 × z_M)
  | 0, _, _, _ => none
  | n + 1, v1, v2, M =>
    if v1 ≤ v2 then (
      (F_X5_wornTogether 24 M).bind fun q11 =>
      some (q11, M))
    else (
      (F_X1_keep M).bind fun q13 =>
      (F_X5_passDay 24 q13).bind fun q15 =>
      (F_X6_days_b46 n) v1 (v2 + 1) q15)
def F_X6_days (a1 : Int32) (M : z_M) : Option (Int32 × z_M) :=
  (F_X5_stands 24 M).bind fun q1 =>
  if q1 = 0 then (
    some ((-1000002), M))
  else (
    (F_X6_isWithin a1 (1 : Int32) (24 : Int32) M).bind fun q4 =>
    if q4 = 0 then (
      some ((-1000001), M))
    else (
      (F_X5_dayNumber 24 M).bind fun q7 =>
      if (q7 + a1) ≤ (999 : Int32) then (
        F_X6_days_b46 z_fuel a1 0 M)
      else (
        some ((-1000003), M))))
def F_X6_plane (a1 : Int32) (a2 : Int32) (M : z_M) : Option (Int32 × z_M) :=
  (F_X5_hasTread 24 a1 M).bind fun q1 =>
  if q1 = 0 then (
    some ((-1000001), M))
  else (
    (F_X6_isWithin a2 (0 : Int32) (9 : Int32) M).bind fun q4 =>
    if q4 = 0 then (
      some ((-1000001), M))
    else (
      (F_X5_toneOf 24 a1 M).bind fun q7 =>
      (F_X1_keep M).bind fun q9 =>
      (F_X5_planeTo 24 a1 a2 q9).bind fun q11 =>
      some (q7, q11)))
def F_X6_reach (a1 : Int32) (M : z_M) : Option (Int32 × z_M) :=
  (F_X5_stands 24 M).bind fun q1 =>
  if q1 = 0 then (
    some ((-1000002), M))
  else (
    (F_X6_isWithin a1 (0 : Int32) (9 : Int32) M).bind fun q4 =>
    if q4 = 0 then (
      some ((-1000001), M))
    else (
      (F_X5_reachNow 24 M).bind fun q7 =>
      (F_X1_keep M).bind fun q9 =>
      (F_X5_setReach 24 a1 q9).bind fun q11 =>
      some (q7, q11)))
def F_X6_changed (a1 : Int32) (a2 : Int32) (a3 : Int32) (a4 : Int32) (M : z_M) : Option (Int32 × z_M) :=
  (F_X5_hasWalker 24 a1 M).bind fun q1 =>
  if q1 = 0 then (
    some ((-1000001), M))
  else (
    (F_X5_canBe 24 a2 a3 M).bind fun q4 =>
    if q4 = 0 then (
      some ((-1000001), M))
    else (
      (F_X5_canBe 24 (a2 + 1) a4 M).bind fun q7 =>
      if q7 = 0 then (
        some ((-1000001), M))
      else (
        (F_X1_keep M).bind fun q10 =>
        (F_X5_setPart 24 a1 a2 a3 q10).bind fun q12 =>
        (F_X5_setPart 24 a1 (a2 + 1) a4 q12).bind fun q14 =>
        (F_X5_longOf 24 a1 q14).bind fun q16 =>
        some (q16, q14))))
def F_X6_way (a1 : Int32) (a2 : Int32) (a3 : Int32) (M : z_M) : Option (Int32 × z_M) :=
  (F_X6_changed a1 (0 : Int32) a2 a3 M).bind fun q1 =>
  some (q1.1, q1.2)
def F_X6_gait (a1 : Int32) (a2 : Int32) (a3 : Int32) (M : z_M) : Option (Int32 × z_M) :=
  (F_X6_changed a1 (2 : Int32) a2 a3 M).bind fun q1 =>
  some (q1.1, q1.2)
def F_X6_tread (a1 : Int32) (a2 : Int32) (M : z_M) : Option Int32 :=
  (F_X5_hasTread 24 a1 M).bind fun q1 =>
  if q1 = 0 then (
    some (-1000001))
  else (
    (F_X6_isWithin a2 (0 : Int32) (3 : Int32) M).bind fun q4 =>
    if q4 = 0 then (
      some (-1000001))
    else (
      if a2 = 0 then (
        (F_X5_noteOf 24 a1 M).bind fun q8 =>
        some q8)
      else if a2 = 1 then (
        (F_X5_wornOf 24 a1 M).bind fun q11 =>
        some q11)
      else if a2 = 2 then (
        (F_X5_toneOf 24 a1 M).bind fun q14 =>
        some q14)
      else (
        (F_X5_walkersOn 24 a1 M).bind fun q16 =>
        some q16)))
def F_X6_walker (a1 : Int32) (a2 : Int32) (M : z_M) : Option Int32 :=
  (F_X5_hasWalker 24 a1 M).bind fun q1 =>
  if q1 = 0 then (
    some (-1000001))
  else (
    (F_X6_isWithin a2 (0 : Int32) (3 : Int32) M).bind fun q4 =>
    if q4 = 0 then (
      some (-1000001))
    else (
      (F_X5_partOf 24 a1 a2 M).bind fun q7 =>
      some q7))
def F_X6_tune (a1 : Int32) (a2 : Int32) (M : z_M) : Option Int32 :=
  (F_X5_hasWalker 24 a1 M).bind fun q1 =>
  if q1 = 0 then (
    some (-1000001))
  else (
    if 0 ≤ a2 then (
      (F_X5_soundOf 24 a1 a2 M).bind fun q5 =>
      some q5)
    else (
      some (-1000001)))
def F_X6_isMinute (a1 : Int32) (M : z_M) : Option Int32 :=
  (F_X6_isWithin a1 (0 : Int32) (29 : Int32) M).bind fun q1 =>
  z_grd (q1 &&& 1 = q1) <|
  some q1
def F_X6_where (a1 : Int32) (a2 : Int32) (M : z_M) : Option Int32 :=
  (F_X5_hasWalker 24 a1 M).bind fun q1 =>
  if q1 = 0 then (
    some (-1000001))
  else (
    (F_X6_isMinute a2 M).bind fun q4 =>
    if q4 = 0 then (
      some (-1000001))
    else (
      (F_X5_placeIn 24 a1 a2 M).bind fun q7 =>
      some q7))
def F_X6_heard (a1 : Int32) (a2 : Int32) (M : z_M) : Option Int32 :=
  (F_X5_hasTread 24 a1 M).bind fun q1 =>
  if q1 = 0 then (
    some (-1000001))
  else (
    (F_X6_isMinute a2 M).bind fun q4 =>
    if q4 = 0 then (
      some (-1000001))
    else (
      (F_X5_heardAt 24 a1 a2 M).bind fun q7 =>
      some q7))
def F_X6_isFirstOrSecond_b9 (M : z_M) : Option Int32 :=
  some 1
def F_X6_isFirstOrSecond (a1 : Int32) (M : z_M) : Option Int32 :=
  if a1 = 0 then (
    F_X6_isFirstOrSecond_b9 M)
  else (
    if a1 = (1 : Int32) then (
      F_X6_isFirstOrSecond_b9 M)
    else (
      some 0))
def F_X6_seerOfNow (M : z_M) : Option z_M :=
  (F_X3_lookAt M).bind fun q1 =>
  some q1
def F_X6_ahead (a1 : Int32) (a2 : Int32) (a3 : Int32) (M : z_M) : Option (Int32 × z_M) :=
  (F_X5_hasTread 24 a1 M).bind fun q1 =>
  if q1 = 0 then (
    some ((-1000001), M))
  else (
    (F_X6_isWithin a2 (0 : Int32) (60 : Int32) M).bind fun q4 =>
    if q4 = 0 then (
      some ((-1000001), M))
    else (
      (F_X6_isFirstOrSecond a3 M).bind fun q7 =>
      if q7 = 0 then (
        some ((-1000001), M))
      else (
        (F_X6_seerOfNow M).bind fun q10 =>
        (F_X3_treadIn a1 a2 a3 q10).bind fun q12 =>
        some (q12.1, q12.2))))
def F_X6_length (a1 : Int32) (M : z_M) : Option Int32 :=
  (F_X5_hasWalker 24 a1 M).bind fun q1 =>
  if q1 = 0 then (
    some (-1000001))
  else (
    (F_X5_longOf 24 a1 M).bind fun q4 =>
    some q4)
def F_X6_meet (a1 : Int32) (a2 : Int32) (M : z_M) : Option (Int32 × z_M) :=
  (F_X5_hasWalker 24 a1 M).bind fun q1 =>
  if q1 = 0 then (
    some ((-1000001), M))
  else (
    (F_X5_hasWalker 24 a2 M).bind fun q4 =>
    if q4 = 0 then (
      some ((-1000001), M))
    else (
      if a1 = a2 then (
        some ((-1000001), M))
      else (
        (F_X6_seerOfNow M).bind fun q8 =>
        (F_X3_meetingOf a1 a2 q8).bind fun q10 =>
        some (q10, q8))))
def F_X6_choir (a1 : Int32) (M : z_M) : Option (Int32 × z_M) :=
  (F_X5_stands 24 M).bind fun q1 =>
  if q1 = 0 then (
    some ((-1000002), M))
  else (
    (F_X6_isFirstOrSecond a1 M).bind fun q4 =>
    if q4 = 0 then (
      some ((-1000001), M))
    else (
      (F_X6_seerOfNow M).bind fun q7 =>
      (F_X3_fullestMinute a1 q7).bind fun q9 =>
      some (q9, q7)))
def F_X6_twins (a1 : Int32) (M : z_M) : Option (Int32 × z_M) :=
  (F_X5_stands 24 M).bind fun q1 =>
  if q1 = 0 then (
    some ((-1000002), M))
  else (
    (F_X6_isFirstOrSecond a1 M).bind fun q4 =>
    if q4 = 0 then (
      some ((-1000001), M))
    else (
      if a1 = 0 then (
        (F_X6_seerOfNow M).bind fun q12 =>
        (F_X3_twinCount q12).bind fun q14 =>
        some (q14.1, q14.2))
      else (
        (F_X6_seerOfNow M).bind fun q8 =>
        (F_X3_firstTwins q8).bind fun q10 =>
        some (q10.1, q10.2))))
def F_X6_felt (a1 : Int32) (a2 : Int32) (a3 : Int32) (M : z_M) : Option (Int32 × z_M) :=
  (F_X5_hasWalker 24 a1 M).bind fun q1 =>
  if q1 = 0 then (
    some ((-1000001), M))
  else (
    (F_X5_hasTread 24 a2 M).bind fun q4 =>
    if q4 = 0 then (
      some ((-1000001), M))
    else (
      (F_X6_isFirstOrSecond a3 M).bind fun q7 =>
      if q7 = 0 then (
        some ((-1000001), M))
      else (
        (F_X6_seerOfNow M).bind fun q10 =>
        (F_X3_fewestFelts a1 a2 a3 q10).bind fun q12 =>
        some (q12, q10))))
def F_X6_doors (a1 : Int32) (M : z_M) : Option (Int32 × z_M) :=
  (F_X5_stands 24 M).bind fun q1 =>
  if q1 = 0 then (
    some ((-1000002), M))
  else (
    (F_X6_isFirstOrSecond a1 M).bind fun q4 =>
    if q4 = 0 then (
      some ((-1000001), M))
    else (
      (F_X6_seerOfNow M).bind fun q7 =>
      (F_X3_fewestDoors a1 q7).bind fun q9 =>
      some (q9.1, q9.2)))
def F_X6_planed (a1 : Int32) (M : z_M) : Option (Int32 × z_M) :=
  (F_X5_stands 24 M).bind fun q1 =>
  if q1 = 0 then (
    some ((-1000002), M))
  else (
    (F_X6_isFirstOrSecond a1 M).bind fun q4 =>
    if q4 = 0 then (
      some ((-1000001), M))
    else (
      (F_X6_seerOfNow M).bind fun q7 =>
      (F_X3_bestPlaning a1 q7).bind fun q9 =>
      some (q9.1, q9.2)))
def F_X6_rise (a1 : Int32) (a2 : Int32) (a3 : Int32) (a4 : Int32) (M : z_M) : Option (Int32 × z_M) :=
  (F_X5_hasWalker 24 a1 M).bind fun q1 =>
  if q1 = 0 then (
    some ((-1000001), M))
  else (
    (F_X5_hasTread 24 a2 M).bind fun q4 =>
    if q4 = 0 then (
      some ((-1000001), M))
    else (
      (F_X6_isWithin a3 (1 : Int32) (9 : Int32) M).bind fun q7 =>
      if q7 = 0 then (
        some ((-1000001), M))
      else (
        (F_X6_isFirstOrSecond a4 M).bind fun q10 =>
        if q10 = 0 then (
          some ((-1000001), M))
        else (
          (F_X6_seerOfNow M).bind fun q13 =>
          (F_X3_risesOf a1 a2 a3 a4 q13).bind fun q15 =>
          some (q15.1, q15.2)))))
def F_X6_isTelling (a1 : Int32) (a2 : Int32) (a3 : Int32) (a4 : Int32) (M : z_M) : Option Int32 :=
  (F_X5_hasTread 24 a1 M).bind fun q1 =>
  if q1 = 0 then (
    some 0)
  else (
    (F_X6_isMinute a2 M).bind fun q4 =>
    if q4 = 0 then (
      some 0)
    else (
      (F_X4_isRow a3 M).bind fun q7 =>
      if q7 = 0 then (
        some 0)
      else (
        (F_X6_isWithin a4 (1 : Int32) (12 : Int32) M).bind fun q10 =>
        if q10 = 0 then (
          some 0)
        else (
          some 1))))
def F_X6_seerOfRow_b14 : Nat → Int32 → Int32 → Int32 → Int32 → z_M → Option z_M
  | 0, _, _, _, _, _ => none
  | n + 1, v1, v2, v3, v4, M =>
    if v3 ≤ v4 then (
      some M)
    else (
      (F_X4_itemAt v1 (v2 + v4) M).bind fun q4 =>
      (F_X3_hearFrom q4 M).bind fun q6 =>
      (F_X6_seerOfRow_b14 n) v1 v2 v3 (v4 + 1) q6)
def F_X6_seerOfRow (a1 : Int32) (a2 : Int32) (a3 : Int32) (M : z_M) : Option z_M :=
  (F_X3_lookAt M).bind fun q1 =>
  F_X6_seerOfRow_b14 z_fuel a1 a2 a3 0 q1
def F_X6_what (a1 : Int32) (a2 : Int32) (a3 : Int32) (a4 : Int32) (a5 : Int32) (a6 : Int32) (a7 : Int32) (M : z_M) : Option (Int32 × z_M) :=
  (F_X5_hasTread 24 a1 M).bind fun q1 =>
  if q1 = 0 then (
    some ((-1000001), M))
  else (
    (F_X6_isWithin a2 (0 : Int32) (1 : Int32) M).bind fun q4 =>
    if q4 = 0 then (
      some ((-1000001), M))
    else (
      (F_X6_isTelling a3 a4 a5 a7 M).bind fun q7 =>
      if q7 = 0 then (
        some ((-1000001), M))
      else (
        (F_X4_findingOf a5 a6 a7 M).bind fun q10 =>
        z_nmM (z_si M 0 0 7 q10) fun M12 =>
        if (z_gi M12 0 0 7) = 0 then (
          (F_X6_seerOfRow a5 a6 a7 M12).bind fun q14 =>
          if a2 = 0 then (
            (F_X3_kindsBy a1 a3 a4 q14).bind fun q19 =>
            some (q19.1, q19.2))
          else (
            (F_X3_notesBy a1 a3 a4 q14).bind fun q17 =>
            some (q17.1, q17.2)))
        else (
          some (((-1000010) : Int32) - (z_gi M12 0 0 7), M12)))))
def F_X6_who (a1 : Int32) (a2 : Int32) (a3 : Int32) (a4 : Int32) (a5 : Int32) (a6 : Int32) (a7 : Int32) (M : z_M) : Option (Int32 × z_M) :=
  (F_X5_hasWalker 24 a1 M).bind fun q1 =>
  if q1 = 0 then (
    some ((-1000001), M))
  else (
    (F_X6_isWithin a2 (0 : Int32) (3 : Int32) M).bind fun q4 =>
    if q4 = 0 then (
      some ((-1000001), M))
    else (
      (F_X6_isTelling a3 a4 a5 a7 M).bind fun q7 =>
      if q7 = 0 then (
        some ((-1000001), M))
      else (
        (F_X4_findingOf a5 a6 a7 M).bind fun q10 =>
        z_nmM (z_si M 0 0 7 q10) fun M12 =>
        if (z_gi M12 0 0 7) = 0 then (
          (F_X6_seerOfRow a5 a6 a7 M12).bind fun q14 =>
          (F_X3_partsBy a1 a2 a3 a4 q14).bind fun q16 =>
          some (q16.1, q16.2))
        else (
          some (((-1000010) : Int32) - (z_gi M12 0 0 7), M12)))))
def F_X6_rots (a1 : Int32) (a2 : Int32) (a3 : Int32) (a4 : Int32) (M : z_M) : Option (Int64 × z_M) :=
  (F_X5_hasWalker 24 a1 M).bind fun q1 =>
  if q1 = 0 then (
    some ((-1000001), M))
  else (
    (F_X5_hasTread 24 a2 M).bind fun q4 =>
    if q4 = 0 then (
      some ((-1000001), M))
    else (
      (F_X6_isWithin a3 (0 : Int32) (10 : Int32) M).bind fun q7 =>
      if q7 = 0 then (
        some ((-1000001), M))
      else (
        (F_X6_isFirstOrSecond a4 M).bind fun q10 =>
        if q10 = 0 then (
          some ((-1000001), M))
        else (
          (F_X6_seerOfNow M).bind fun q13 =>
          (F_X3_likelihood a1 a2 a3 a4 q13).bind fun q15 =>
          some (q15, q13)))))
def F_X6_drawn (a1 : Int32) (a2 : Int32) (a3 : Int32) (M : z_M) : Option (Int32 × z_M) :=
  (F_X5_stands 24 M).bind fun q1 =>
  if q1 = 0 then (
    some ((-1000002), M))
  else (
    (F_X6_isWithin a1 (0 : Int32) (60 : Int32) M).bind fun q4 =>
    if q4 = 0 then (
      some ((-1000001), M))
    else (
      (F_X6_isWithin a2 (1 : Int32) (999999 : Int32) M).bind fun q7 =>
      if q7 = 0 then (
        some ((-1000001), M))
      else (
        (F_X6_isFirstOrSecond a3 M).bind fun q10 =>
        if q10 = 0 then (
          some ((-1000001), M))
        else (
          (F_X6_seerOfNow M).bind fun q13 =>
          (F_X3_weeksBy a1 a2 a3 q13).bind fun q15 =>
          some (q15.1, q15.2)))))
def F_X6_image (a1 : Int32) (M : z_M) : Option (Int32 × z_M) :=
  (F_X6_isWithin a1 (0 : Int32) (1 : Int32) M).bind fun q1 =>
  if q1 = 0 then (
    some ((-1000001), M))
  else (
    z_grd (z_in a1 2) <|
    z_grd (25 + a1.toNatClampNeg < 29) <|
    (F_X5_stands 24 M).bind fun q6 =>
    if q6 = 0 then (
      some ((-1000002), M))
    else (
      (F_X5_take (25 + a1.toNatClampNeg) (some 24) M).bind fun q9 =>
      some (1, q9)))
def F_X6_restore (a1 : Int32) (M : z_M) : Option (Int32 × z_M) :=
  (F_X6_isWithin a1 (0 : Int32) (1 : Int32) M).bind fun q1 =>
  if q1 = 0 then (
    some ((-1000001), M))
  else (
    z_grd (z_in a1 2) <|
    z_grd (25 + a1.toNatClampNeg < 29) <|
    (F_X5_stands (25 + a1.toNatClampNeg) M).bind fun q6 =>
    if q6 = 0 then (
      some ((-1000002), M))
    else (
      (F_X5_take 24 (some (25 + a1.toNatClampNeg)) M).bind fun q9 =>
      (F_X1_forget q9).bind fun q11 =>
      some (1, q11)))
def F_X6_kind (a1 : Int32) (M : z_M) : Option Int32 :=
  (F_X5_hasTread 24 a1 M).bind fun q1 =>
  if q1 = 0 then (
    some (-1000001))
  else (
    (F_X5_kindOf 24 a1 M).bind fun q4 =>
    some q4)
def F_X6_as_b48 (v1 : Int32) (s0 : Int32) (M : z_M) : Option (Int32 × z_M) :=
  z_nmM (z_si M 0 0 7 s0) fun M12 =>
  if (z_gi M12 0 0 7) = 0 then (
    some (v1, M12))
  else (
    some (((-1000010) : Int32) - (z_gi M12 0 0 7), M12))
def F_X6_as (a1 : Int32) (a2 : Int32) (M : z_M) : Option (Int32 × z_M) :=
  (F_X5_hasTread 24 a1 M).bind fun q1 =>
  if q1 = 0 then (
    some ((-1000001), M))
  else (
    (F_X6_isWithin a2 (0 : Int32) (5 : Int32) M).bind fun q4 =>
    if q4 = 0 then (
      some ((-1000001), M))
    else (
      (F_X5_kindOf 24 a1 M).bind fun q7 =>
      (F_X0_isA q7 a2 M).bind fun q9 =>
      if q9 = 0 then (
        F_X6_as_b48 a1 3 M)
      else (
        F_X6_as_b48 a1 0 M)))
def F_X6_ask (a1 : Int32) (a2 : Int32) (M : z_M) : Option (Int32 × z_M) :=
  (F_X5_hasTread 24 a1 M).bind fun q1 =>
  if q1 = 0 then (
    some ((-1000001), M))
  else (
    (F_X6_isFirstOrSecond a2 M).bind fun q4 =>
    if q4 = 0 then (
      some ((-1000001), M))
    else (
      (F_X0_answerOf a1 a2 M).bind fun q7 =>
      some (q7.1, q7.2)))
def F_X6_trace (a1 : Int32) (M : z_M) : Option Int32 :=
  (F_X0_traceAt a1 M).bind fun q1 =>
  some q1
def F_X6_count (a1 : Int32) (M : z_M) : Option Int32 :=
  if a1 = 0 then (
    (F_X4_rowCount M).bind fun q2 =>
    some q2)
  else if a1 = 1 then (
    (F_X5_treadCount 24 M).bind fun q5 =>
    some q5)
  else if a1 = 2 then (
    (F_X5_walkerCount 24 M).bind fun q8 =>
    some q8)
  else if a1 = 3 then (
    (F_X5_dayNumber 24 M).bind fun q11 =>
    some q11)
  else if a1 = 4 then (
    (F_X5_isWet 24 M).bind fun q14 =>
    if q14 = 0 then (
      some 0)
    else (
      some 1))
  else if a1 = 5 then (
    (F_X5_reachNow 24 M).bind fun q18 =>
    some q18)
  else if a1 = 6 then (
    (F_X1_keptCount M).bind fun q21 =>
    some q21)
  else if a1 = 7 then (
    (F_X2_byteCount M).bind fun q24 =>
    some q24)
  else (
    some (-1000001))
def F_X6_status (M : z_M) : Option Int32 :=
  some (z_gi M 0 0 7)
def F_X7_in (a1 : Int64) (a2 : Int64) (a3 : Int64) (M : z_M) : Option Int32 :=
  if (lg_cmp a1 a2) < 0 then (
    some 0)
  else (
    if 0 < (lg_cmp a1 a3) then (
      some 0)
    else (
      some 1))
def F_X7_has (a1 : Int32) (a2 : Int32) (M : z_M) : Option Int32 :=
  if ((a1 >>> (a2 &&& 31)) &&& 1) = (1 : Int32) then (
    some 1)
  else (
    some 0)
def F_X7_ones_b4 (M : z_M) : Nat → Int32 → Int32 → Option Int32
  | 0, _, _ => none
  | n + 1, v1, v2 =>
    if v2 = 0 then (
      some v1)
    else (
      z_nmI (v2 &&& (v2 - 1)) fun x2 =>
      (F_X7_ones_b4 M n) (v1 + 1) x2)
def F_X7_ones (a1 : Int32) (M : z_M) : Option Int32 :=
  F_X7_ones_b4 M z_fuel 0 a1
def F_X7_find (a1 : Int32) (M : z_M) : Option (Int32 × z_M) :=
  some (((-1000010) : Int32) - a1, z_si M 21 0 3 a1)
def F_X7_well (a1 : Int32) (M : z_M) : Option (Int32 × z_M) :=
  some (a1, z_si M 21 0 3 0)
def F_X7_isRow (a1 : Int32) (M : z_M) : Option Int32 :=
  (F_X7_in a1.toInt64 0 7 M).bind fun q1 =>
  z_grd (q1 &&& 1 = q1) <|
  some q1
def F_X7_row_b55 : Nat → Int32 → Int32 → Int32 → z_M → Option (Int32 × z_M)
  | 0, _, _, _, _ => none
  | n + 1, v1, v3, v4, M =>
    if (40 : Int32) ≤ v4 then (
      (F_X7_well v3 M).bind fun q13 =>
      some (q13.1, q13.2))
    else (
      z_grd (z_in (((40 : Int32) * v1) + v4) 320) <|
      (F_X7_row_b55 n) v1 v3 (v4 + 1) (z_si M 24 0 (((40 : Int32) * v1) + v4).toNatClampNeg 0))
def F_X7_row (a1 : Int32) (a2 : Int32) (a3 : Int32) (M : z_M) : Option (Int32 × z_M) :=
  (F_X7_isRow a1 M).bind fun q1 =>
  if q1 = 0 then (
    some ((-1000001), M))
  else (
    (F_X7_in a2.toInt64 0 2 M).bind fun q4 =>
    if q4 = 0 then (
      some ((-1000001), M))
    else (
      if a3 ≤ (40 : Int32) then (
        if 0 ≤ a3 then (
          z_grd (z_in a1 8) <|
          z_grd (z_in a1 8) <|
          z_nmM (z_si M 22 0 a1.toNatClampNeg a2) fun M11 =>
          F_X7_row_b55 z_fuel a1 a3 0 (z_si M11 23 0 a1.toNatClampNeg a3))
        else (
          (F_X7_find (4 : Int32) M).bind fun q16 =>
          some (q16.1, q16.2)))
      else (
        some ((-1000001), M))))
def F_X7_asLane (a1 : Int32) (a2 : Int32) (M : z_M) : Option Int32 :=
  if a1 = 0 then (
    some ((a2 <<< ((24 : Int32) &&& 31)) >>> ((24 : Int32) &&& 31)))
  else (
    if a1 = (1 : Int32) then (
      some ((a2 <<< ((16 : Int32) &&& 31)) >>> ((16 : Int32) &&& 31)))
    else (
      some a2))
def F_X7_set (a1 : Int32) (a2 : Int32) (a3 : Int32) (M : z_M) : Option (Int32 × z_M) :=
  (F_X7_isRow a1 M).bind fun q1 =>
  if q1 = 0 then (
    some ((-1000001), M))
  else (
    z_grd (z_in a1 8) <|
    if 0 ≤ (z_gi M 23 0 a1.toNatClampNeg) then (
      z_grd (z_in a1 8) <|
      (F_X7_in a2.toInt64 0 (((z_gi M 23 0 a1.toNatClampNeg) - 1).toInt64) M).bind fun q7 =>
      if q7 = 0 then (
        (F_X7_find (2 : Int32) M).bind fun q18 =>
        some (q18.1, q18.2))
      else (
        z_grd (z_in a1 8) <|
        (F_X7_asLane (z_gi M 22 0 a1.toNatClampNeg) a3 M).bind fun q11 =>
        z_grd (z_in (((40 : Int32) * a1) + a2) 320) <|
        z_nmM (z_si M 24 0 (((40 : Int32) * a1) + a2).toNatClampNeg q11) fun M15 =>
        z_grd (z_in (((40 : Int32) * a1) + a2) 320) <|
        (F_X7_well (z_gi M15 24 0 (((40 : Int32) * a1) + a2).toNatClampNeg) M15).bind fun q16 =>
        some (q16.1, q16.2)))
    else (
      (F_X7_find (1 : Int32) M).bind fun q20 =>
      some (q20.1, q20.2)))
def F_X7_copy_b35 (M : z_M) : Option (Int32 × z_M) :=
  (F_X7_find (1 : Int32) M).bind fun q9 =>
  some (q9.1, q9.2)
def F_X7_copy_b108 (M : z_M) : Option (Int32 × z_M) :=
  (F_X7_find (2 : Int32) M).bind fun q17 =>
  some (q17.1, q17.2)
def F_X7_copy_b154 : Nat → Int32 → Int32 → Int32 → Int32 → z_M → Option (Int32 × z_M)
  | 0, _, _, _, _, _ => none
  | n + 1, v3, v4, v5, v6, M =>
    if v5 ≤ v6 then (
      (F_X7_well v5 M).bind fun q29 =>
      some (q29.1, q29.2))
    else (
      z_grd (z_in v6 40) <|
      z_grd (z_in ((((40 : Int32) * v3) + v4) + v6) 320) <|
      (F_X7_copy_b154 n) v3 v4 v5 (v6 + 1) (z_si M 24 0 ((((40 : Int32) * v3) + v4) + v6).toNatClampNeg (z_gi M 26 0 v6.toNatClampNeg)))
def F_X7_copy_b117 : Nat → Int32 → Int32 → Int32 → Int32 → Int32 → Int32 → z_M → Option (Int32 × z_M)
  | 0, _, _, _, _, _, _, _ => none
  | n + 1, v1, v2, v3, v4, v5, v6, M =>
    if v5 ≤ v6 then (
      F_X7_copy_b154 z_fuel v3 v4 v5 0 M)
    else (
      z_grd (z_in ((((40 : Int32) * v1) + v2) + v6) 320) <|
      z_grd (z_in v6 40) <|
      (F_X7_copy_b117 n) v1 v2 v3 v4 v5 (v6 + 1) (z_si M 26 0 v6.toNatClampNeg (z_gi M 24 0 ((((40 : Int32) * v1) + v2) + v6).toNatClampNeg)))
def F_X7_copy (a1 : Int32) (a2 : Int32) (a3 : Int32) (a4 : Int32) (a5 : Int32) (M : z_M) : Option (Int32 × z_M) :=
  (F_X7_isRow a1 M).bind fun q1 =>
  if q1 = 0 then (
    some ((-1000001), M))
  else (
    (F_X7_isRow a3 M).bind fun q4 =>
    if q4 = 0 then (
      some ((-1000001), M))
    else (
      z_grd (z_in a1 8) <|
      if (z_gi M 23 0 a1.toNatClampNeg) < 0 then (
        F_X7_copy_b35 M)
      else (
        z_grd (z_in a3 8) <|
        if 0 ≤ (z_gi M 23 0 a3.toNatClampNeg) then (
          z_grd (z_in a1 8) <|
          z_grd (z_in a3 8) <|
          if (z_gi M 22 0 a1.toNatClampNeg) = (z_gi M 22 0 a3.toNatClampNeg) then (
            if a5 < 0 then (
              F_X7_copy_b108 M)
            else (
              z_grd (z_in a1 8) <|
              (F_X7_in a2.toInt64 0 (((z_gi M 23 0 a1.toNatClampNeg).toInt64) - a5.toInt64) M).bind fun q20 =>
              if q20 = 0 then (
                F_X7_copy_b108 M)
              else (
                z_grd (z_in a3 8) <|
                (F_X7_in a4.toInt64 0 (((z_gi M 23 0 a3.toNatClampNeg).toInt64) - a5.toInt64) M).bind fun q24 =>
                if q24 = 0 then (
                  F_X7_copy_b108 M)
                else (
                  F_X7_copy_b117 z_fuel a1 a2 a3 a4 a5 0 M))))
          else (
            (F_X7_find (5 : Int32) M).bind fun q35 =>
            some (q35.1, q35.2)))
        else (
          F_X7_copy_b35 M))))
def F_X7_drop (a1 : Int32) (M : z_M) : Option (Int32 × z_M) :=
  (F_X7_isRow a1 M).bind fun q1 =>
  if q1 = 0 then (
    some ((-1000001), M))
  else (
    z_grd (z_in a1 8) <|
    if 0 ≤ (z_gi M 23 0 a1.toNatClampNeg) then (
      z_grd (z_in a1 8) <|
      z_nmI (z_gi M 23 0 a1.toNatClampNeg) fun x7 =>
      z_grd (z_in a1 8) <|
      (F_X7_well x7 (z_si M 23 0 a1.toNatClampNeg (-1))).bind fun q9 =>
      some (q9.1, q9.2))
    else (
      (F_X7_find (1 : Int32) M).bind fun q11 =>
      some (q11.1, q11.2)))
def F_X7_feed (a1 : Int32) (M : z_M) : Option (Int32 × z_M) :=
  (F_X7_in a1.toInt64 0 255 M).bind fun q1 =>
  if q1 = 0 then (
    some ((-1000001), M))
  else (
    if (z_gi M 21 0 8) = (100 : Int32) then (
      some ((-1000003), M))
    else (
      z_grd (z_in (z_gi M 21 0 8) 100) <|
      z_nmM (z_si M 27 0 (z_gi M 21 0 8).toNatClampNeg a1) fun M6 =>
      z_nmM (z_si M6 21 0 8 ((z_gi M6 21 0 8) + 1)) fun M7 =>
      some (z_gi M7 21 0 8, M7)))
def F_X7_nextToken_b216 (s0 : Int32) (M : z_M) : Option z_M :=
  z_nmM (z_si M 21 0 11 s0) fun M12 =>
  some (z_si M12 21 0 10 ((z_gi M12 21 0 10) + 1))
def F_X7_nextToken_b211 (M : z_M) : Option z_M :=
  F_X7_nextToken_b216 1 M
def F_X7_nextToken_b149 (s0 : Int32) (M : z_M) : Option z_M :=
  some (z_si M 21 0 11 s0)
def F_X7_nextToken_b119 (M : z_M) : Option z_M :=
  if (z_gi M 21 0 10) ≤ (z_gi M 21 0 13) then (
    if (z_gi M 21 0 11) = 0 then (
      z_grd (z_in (z_gi M 21 0 10) 100) <|
      z_nmM (z_si M 21 0 12 (z_gi M 27 0 (z_gi M 21 0 10).toNatClampNeg)) fun M8 =>
      (F_X7_in ((z_gi M8 21 0 12).toInt64) 97 122 M8).bind fun q9 =>
      if q9 = 0 then (
        if (z_gi M8 21 0 12) = (44 : Int32) then (
          F_X7_nextToken_b211 M8)
        else (
          if (z_gi M8 21 0 12) = (59 : Int32) then (
            F_X7_nextToken_b211 M8)
          else (
            F_X7_nextToken_b216 0 M8)))
      else (
        F_X7_nextToken_b211 M8))
    else (
      some M))
  else (
    if ((z_gi M 21 0 10) - (z_gi M 21 0 13)) ≤ (2 : Int32) then (
      F_X7_nextToken_b149 2 M)
    else (
      F_X7_nextToken_b149 0 M))
def F_X7_nextToken_b103 (K33 : z_M → Option z_M) (s0 : Int32) (M : z_M) : Option z_M :=
  z_nmM (z_si M 21 0 12 s0) fun M22 =>
  K33 (z_si M22 21 0 10 ((z_gi M22 21 0 10) + 1))
def F_X7_nextToken_b33 : Nat → z_M → Option z_M
  | 0, _ => none
  | n + 1, M =>
    if (z_gi M 21 0 8) ≤ (z_gi M 21 0 10) then (
      F_X7_nextToken_b119 M)
    else (
      z_grd (z_in (z_gi M 21 0 10) 100) <|
      (F_X7_in ((z_gi M 27 0 (z_gi M 21 0 10).toNatClampNeg).toInt64) 48 57 M).bind fun q17 =>
      if q17 = 0 then (
        F_X7_nextToken_b119 M)
      else (
        if (z_gi M 21 0 12) ≤ (99 : Int32) then (
          z_grd (z_in (z_gi M 21 0 10) 100) <|
          F_X7_nextToken_b103 (F_X7_nextToken_b33 n) ((((10 : Int32) * (z_gi M 21 0 12)) + (z_gi M 27 0 (z_gi M 21 0 10).toNatClampNeg)) - 48) M)
        else (
          F_X7_nextToken_b103 (F_X7_nextToken_b33 n) (z_gi M 21 0 12) M)))
def F_X7_nextToken_b25 (s0 : Int32) (M : z_M) : Option z_M :=
  z_nmM (z_si M 21 0 11 s0) fun M3 =>
  F_X7_nextToken_b33 z_fuel (z_si M3 21 0 12 0)
def F_X7_nextToken (M : z_M) : Option z_M :=
  z_nmM (z_si M 21 0 13 (z_gi M 21 0 10)) fun M1 =>
  if (z_gi M1 21 0 10) = (z_gi M1 21 0 8) then (
    F_X7_nextToken_b25 3 M1)
  else (
    F_X7_nextToken_b25 0 M1)
def F_X7_faults (a1 : Int32) (M : z_M) : Option (Int32 × z_M) :=
  some (0, z_si M 21 0 14 a1)
def F_X7_isLetter (a1 : Int32) (M : z_M) : Option Int32 :=
  if (z_gi M 21 0 11) = (1 : Int32) then (
    if (z_gi M 21 0 12) = a1 then (
      some 1)
    else (
      some 0))
  else (
    some 0)
def F_X7_takes (a1 : Int32) (M : z_M) : Option (Int32 × z_M) :=
  (F_X7_isLetter a1 M).bind fun q1 =>
  if q1 = 0 then (
    (F_X7_faults (1 : Int32) M).bind fun q6 =>
    z_grd (q6.1 &&& 1 = q6.1) <|
    some (q6.1, q6.2))
  else (
    (F_X7_nextToken M).bind fun q4 =>
    some (1, q4))
def F_X7_takesNumber_b37 (s0 : Int32) (M : z_M) : Option (Int32 × z_M) :=
  (F_X7_faults s0 M).bind fun q3 =>
  z_grd (q3.1 &&& 1 = q3.1) <|
  some (q3.1, q3.2)
def F_X7_takesNumber_b23 (M : z_M) : Option (Int32 × z_M) :=
  if (z_gi M 21 0 11) = (2 : Int32) then (
    F_X7_takesNumber_b37 2 M)
  else (
    F_X7_takesNumber_b37 1 M)
def F_X7_takesNumber (a1 : Int32) (a2 : Int32) (a3 : Int32) (a4 : Int32) (M : z_M) : Option (Int32 × z_M) :=
  if (z_gi M 21 0 11) = (2 : Int32) then (
    (F_X7_in ((z_gi M 21 0 12).toInt64) a1.toInt64 a2.toInt64 M).bind fun q6 =>
    if q6 = 0 then (
      F_X7_takesNumber_b23 M)
    else (
      z_grd (z_in a3 49) <|
      (F_X7_nextToken (z_si M 28 0 a3.toNatClampNeg (z_gi M 21 0 12))).bind fun q10 =>
      (F_X7_takes a4 q10).bind fun q12 =>
      z_grd (q12.1 &&& 1 = q12.1) <|
      some (q12.1, q12.2)))
  else (
    F_X7_takesNumber_b23 M)
def F_X7_readTread_b37 (s0 : Int32) (M : z_M) : Option (Int32 × z_M) :=
  (F_X7_faults s0 M).bind fun q7 =>
  z_grd (q7.1 &&& 1 = q7.1) <|
  some (q7.1, q7.2)
def F_X7_readTread_b22 (M : z_M) : Option (Int32 × z_M) :=
  z_grd (z_in 1 49) <|
  if (z_gi M 28 0 (1 : Int32).toNatClampNeg) ≤ 0 then (
    F_X7_readTread_b37 3 M)
  else (
    F_X7_readTread_b37 1 M)
def F_X7_readTread (a1 : Int32) (M : z_M) : Option (Int32 × z_M) :=
  z_grd (z_in 0 49) <|
  z_nmI (z_gi M 28 0 (0 : Int32).toNatClampNeg) fun x2 =>
  z_grd (z_in 1 49) <|
  if 0 < (z_gi M 28 0 (1 : Int32).toNatClampNeg) then (
    F_X7_readTread_b22 M)
  else (
    if x2 = (8 : Int32) then (
      F_X7_readTread_b22 M)
    else (
      (F_X7_nextToken M).bind fun q11 =>
      z_grd (z_in ((5 : Int32) + x2) 49) <|
      z_nmM (z_si q11 28 0 ((5 : Int32) + x2).toNatClampNeg a1) fun M15 =>
      z_grd (z_in 0 49) <|
      z_grd (z_in 0 49) <|
      (F_X7_takesNumber (0 : Int32) (9 : Int32) ((13 : Int32) + x2) (59 : Int32) (z_si M15 28 0 (0 : Int32).toNatClampNeg ((z_gi M15 28 0 (0 : Int32).toNatClampNeg) + 1))).bind fun q17 =>
      z_grd (q17.1 &&& 1 = q17.1) <|
      some (q17.1, q17.2)))
def F_X7_readWalker_b35 (s0 : Int32) (M : z_M) : Option (Int32 × z_M) :=
  (F_X7_faults s0 M).bind fun q7 =>
  z_grd (q7.1 &&& 1 = q7.1) <|
  some (q7.1, q7.2)
def F_X7_readWalker_b25 (v2 : Int32) (M : z_M) : Option (Int32 × z_M) :=
  if 0 ≤ v2 then (
    F_X7_readWalker_b35 3 M)
  else (
    F_X7_readWalker_b35 1 M)
def F_X7_readWalker (M : z_M) : Option (Int32 × z_M) :=
  z_grd (z_in 1 49) <|
  z_nmI (z_gi M 28 0 (1 : Int32).toNatClampNeg) fun x2 =>
  z_grd (z_in 0 49) <|
  z_nmI ((z_gi M 28 0 (0 : Int32).toNatClampNeg) - 1) fun x4 =>
  if x4 < 0 then (
    F_X7_readWalker_b25 x4 M)
  else (
    if x2 = (5 : Int32) then (
      F_X7_readWalker_b25 x4 M)
    else (
      (F_X7_nextToken M).bind fun q11 =>
      z_grd (z_in 1 49) <|
      z_grd (z_in 1 49) <|
      (F_X7_takesNumber (0 : Int32) x4 ((29 : Int32) + x2) (44 : Int32) (z_si q11 28 0 (1 : Int32).toNatClampNeg ((z_gi q11 28 0 (1 : Int32).toNatClampNeg) + 1))).bind fun q15 =>
      if q15.1 = 0 then (
        some (0, q15.2))
      else (
        (F_X7_takesNumber (0 : Int32) x4 ((34 : Int32) + x2) (44 : Int32) q15.2).bind fun q18 =>
        if q18.1 = 0 then (
          some (0, q18.2))
        else (
          (F_X7_takesNumber (1 : Int32) (3 : Int32) ((39 : Int32) + x2) (44 : Int32) q18.2).bind fun q21 =>
          if q21.1 = 0 then (
            some (0, q21.2))
          else (
            (F_X7_takesNumber (0 : Int32) (20 : Int32) ((44 : Int32) + x2) (59 : Int32) q21.2).bind fun q24 =>
            if q24.1 = 0 then (
              some (0, q24.2))
            else (
              some (1, q24.2)))))))
def F_X7_kindBy (a1 : Int32) (M : z_M) : Option Int32 :=
  if a1 = (112 : Int32) then (
    some 1)
  else (
    if a1 = (115 : Int32) then (
      some 2)
    else (
      if a1 = (108 : Int32) then (
        some 3)
      else (
        if a1 = (114 : Int32) then (
          some 4)
        else (
          if a1 = (102 : Int32) then (
            some 5)
          else (
            some 0)))))
def F_X7_readTown_b143 (K69 : Int32 → z_M → Option (Int32 × z_M)) (s0 : Int32) (M : z_M) : Option (Int32 × z_M) :=
  K69 s0 M
def F_X7_readTown_b109 (K69 : Int32 → z_M → Option (Int32 × z_M)) (s0 : Int32) (M : z_M) : Option (Int32 × z_M) :=
  if s0 ≤ 0 then (
    (F_X7_isLetter (122 : Int32) M).bind fun q18 =>
    if q18 = 0 then (
      (F_X7_faults (1 : Int32) M).bind fun q21 =>
      F_X7_readTown_b143 K69 q21.1 q21.2)
    else (
      (F_X7_readWalker M).bind fun q23 =>
      F_X7_readTown_b143 K69 q23.1 q23.2))
  else (
    (F_X7_readTread s0 M).bind fun q25 =>
    F_X7_readTown_b143 K69 q25.1 q25.2)
def F_X7_readTown_b90 (K69 : Int32 → z_M → Option (Int32 × z_M)) (M : z_M) : Option (Int32 × z_M) :=
  if (z_gi M 21 0 11) = (1 : Int32) then (
    (F_X7_kindBy (z_gi M 21 0 12) M).bind fun q27 =>
    F_X7_readTown_b109 K69 q27 M)
  else (
    F_X7_readTown_b109 K69 0 M)
def F_X7_readTown_b69 : Nat → Int32 → z_M → Option (Int32 × z_M)
  | 0, _, _ => none
  | n + 1, v1, M =>
    if v1 = 0 then (
      z_grd (v1 &&& 1 = v1) <|
      some (v1, M))
    else (
      if (z_gi M 21 0 11) = (3 : Int32) then (
        z_grd (z_in 1 49) <|
        if (z_gi M 28 0 (1 : Int32).toNatClampNeg) = 0 then (
          F_X7_readTown_b90 (F_X7_readTown_b69 n) M)
        else (
          z_grd (v1 &&& 1 = v1) <|
          some (v1, M)))
      else (
        F_X7_readTown_b90 (F_X7_readTown_b69 n) M))
def F_X7_readTown_b7 : Nat → Int32 → z_M → Option (Int32 × z_M)
  | 0, _, _ => none
  | n + 1, v1, M =>
    if (49 : Int32) ≤ v1 then (
      (F_X7_nextToken M).bind fun q2 =>
      (F_X7_takes (116 : Int32) q2).bind fun q4 =>
      if q4.1 = 0 then (
        some (0, q4.2))
      else (
        (F_X7_takesNumber (0 : Int32) (15 : Int32) (2 : Int32) (44 : Int32) q4.2).bind fun q7 =>
        if q7.1 = 0 then (
          some (0, q7.2))
        else (
          (F_X7_takesNumber (0 : Int32) (9 : Int32) (3 : Int32) (59 : Int32) q7.2).bind fun q10 =>
          if q10.1 = 0 then (
            some (0, q10.2))
          else (
            F_X7_readTown_b69 z_fuel 1 q10.2))))
    else (
      z_grd (z_in v1 49) <|
      (F_X7_readTown_b7 n) (v1 + 1) (z_si M 28 0 v1.toNatClampNeg 0))
def F_X7_readTown (M : z_M) : Option (Int32 × z_M) :=
  F_X7_readTown_b7 z_fuel 0 (z_si M 21 0 10 0)
def F_X7_town_b32 : Nat → Int32 → z_M → Option (Int32 × z_M)
  | 0, _, _ => none
  | n + 1, v2, M =>
    if (49 : Int32) ≤ v2 then (
      z_nmM (z_si M 21 0 4 1) fun M5 =>
      z_nmM (z_si M5 21 0 17 0) fun M7 =>
      z_grd (z_in 0 49) <|
      some (z_gi M7 25 0 (0 : Int32).toNatClampNeg, M7))
    else (
      z_grd (z_in v2 49) <|
      z_grd (z_in v2 49) <|
      (F_X7_town_b32 n) (v2 + 1) (z_si M 25 0 v2.toNatClampNeg (z_gi M 28 0 v2.toNatClampNeg)))
def F_X7_town (M : z_M) : Option (Int32 × z_M) :=
  (F_X7_readTown M).bind fun q1 =>
  if q1.1 = 0 then (
    z_nmM (z_si q1.2 21 0 8 0) fun M10 =>
    z_nmM (z_si M10 21 0 9 (z_gi M10 21 0 14)) fun M11 =>
    some (((-1000100) : Int32) - (z_gi M11 21 0 13), M11))
  else (
    F_X7_town_b32 z_fuel 0 (z_si q1.2 21 0 8 0))
def F_X7_fault (M : z_M) : Option Int32 :=
  some (z_gi M 21 0 9)
def F_X7_isTread (a1 : Int32) (M : z_M) : Option Int32 :=
  z_grd (z_in 0 49) <|
  (F_X7_in a1.toInt64 0 (((z_gi M 25 0 (0 : Int32).toNatClampNeg) - 1).toInt64) M).bind fun q2 =>
  z_grd (q2 &&& 1 = q2) <|
  some q2
def F_X7_isWalker (a1 : Int32) (M : z_M) : Option Int32 :=
  z_grd (z_in 1 49) <|
  (F_X7_in a1.toInt64 0 (((z_gi M 25 0 (1 : Int32).toNatClampNeg) - 1).toInt64) M).bind fun q2 =>
  z_grd (q2 &&& 1 = q2) <|
  some q2
def F_X7_isMinute (a1 : Int32) (M : z_M) : Option Int32 :=
  (F_X7_in a1.toInt64 0 29 M).bind fun q1 =>
  z_grd (q1 &&& 1 = q1) <|
  some q1
def F_X7_size (a1 : Int32) (M : z_M) : Option Int32 :=
  if 0 ≤ a1 then (
    some a1)
  else (
    some (-a1))
def F_X7_longOf (a1 : Int32) (M : z_M) : Option Int32 :=
  z_grd (z_in ((34 : Int32) + a1) 49) <|
  z_grd (z_in ((29 : Int32) + a1) 49) <|
  (F_X7_size ((z_gi M 25 0 ((34 : Int32) + a1).toNatClampNeg) - (z_gi M 25 0 ((29 : Int32) + a1).toNatClampNeg)) M).bind fun q3 =>
  z_grd (z_in ((39 : Int32) + a1) 49) <|
  z_grd (z_in ((39 : Int32) + a1) 49) <|
  z_grd (¬ (z_gi M 25 0 ((39 : Int32) + a1).toNatClampNeg) = 0) <|
  some ((1 : Int32) + (((q3 + (z_gi M 25 0 ((39 : Int32) + a1).toNatClampNeg)) - 1) / (z_gi M 25 0 ((39 : Int32) + a1).toNatClampNeg)))
def F_X7_treadOf_b51 (M : z_M) (v1 : Int32) (v3 : Int32) (s0 : Int32) : Option Int32 :=
  if 0 ≤ v3 then (
    z_grd (z_in ((29 : Int32) + v1) 49) <|
    some ((z_gi M 25 0 ((29 : Int32) + v1).toNatClampNeg) + s0))
  else (
    z_grd (z_in ((29 : Int32) + v1) 49) <|
    some ((z_gi M 25 0 ((29 : Int32) + v1).toNatClampNeg) - s0))
def F_X7_treadOf (a1 : Int32) (a2 : Int32) (M : z_M) : Option Int32 :=
  z_grd (z_in ((34 : Int32) + a1) 49) <|
  z_grd (z_in ((29 : Int32) + a1) 49) <|
  z_nmI ((z_gi M 25 0 ((34 : Int32) + a1).toNatClampNeg) - (z_gi M 25 0 ((29 : Int32) + a1).toNatClampNeg)) fun x3 =>
  z_grd (z_in ((39 : Int32) + a1) 49) <|
  z_nmI (a2 * (z_gi M 25 0 ((39 : Int32) + a1).toNatClampNeg)) fun x5 =>
  (F_X7_size x3 M).bind fun q6 =>
  if x5 ≤ q6 then (
    F_X7_treadOf_b51 M a1 x3 x5)
  else (
    (F_X7_size x3 M).bind fun q12 =>
    F_X7_treadOf_b51 M a1 x3 q12)
def F_X7_at (a1 : Int32) (a2 : Int32) (M : z_M) : Option Int32 :=
  z_grd (z_in ((44 : Int32) + a1) 49) <|
  z_nmI (a2 - (z_gi M 25 0 ((44 : Int32) + a1).toNatClampNeg)) fun x2 =>
  (F_X7_longOf a1 M).bind fun q3 =>
  (F_X7_in x2.toInt64 0 ((q3 - 1).toInt64) M).bind fun q5 =>
  if q5 = 0 then (
    some (-1))
  else (
    (F_X7_treadOf a1 x2 M).bind fun q8 =>
    some q8)
def F_X7_toneOf (a1 : Int32) (M : z_M) : Option Int32 :=
  z_grd (z_in ((13 : Int32) + a1) 49) <|
  z_grd (z_in ((21 : Int32) + a1) 49) <|
  z_nmI ((z_gi M 25 0 ((13 : Int32) + a1).toNatClampNeg) - ((z_gi M 25 0 ((21 : Int32) + a1).toNatClampNeg) / 10)) fun x3 =>
  if 0 ≤ x3 then (
    some x3)
  else (
    some 0)
def F_X7_isWet (M : z_M) : Option Int32 :=
  z_grd (z_in 2 49) <|
  z_grd (z_in 4 49) <|
  (F_X7_has (z_gi M 25 0 (2 : Int32).toNatClampNeg) ((z_gi M 25 0 (4 : Int32).toNatClampNeg) - (z_gi M 25 0 (4 : Int32).toNatClampNeg) / 4 * 4) M).bind fun q3 =>
  z_grd (q3 &&& 1 = q3) <|
  some q3
def F_X7_sound (a1 : Int32) (a2 : Int32) (M : z_M) : Option Int32 :=
  (F_X7_toneOf a1 M).bind fun q1 =>
  z_grd (z_in ((5 : Int32) + a1) 49) <|
  if (z_gi M 25 0 ((5 : Int32) + a1).toNatClampNeg) = 1 then (
    some q1)
  else if (z_gi M 25 0 ((5 : Int32) + a1).toNatClampNeg) = 2 then (
    (F_X7_isWet M).bind fun q6 =>
    if q6 = 0 then (
      some q1)
    else (
      if q1 ≤ 0 then (
        some q1)
      else (
        some (q1 - 1))))
  else if (z_gi M 25 0 ((5 : Int32) + a1).toNatClampNeg) = 3 then (
    if ((q1 + a2) - 1) ≤ (9 : Int32) then (
      some ((q1 + a2) - 1))
    else (
      some 9))
  else if (z_gi M 25 0 ((5 : Int32) + a1).toNatClampNeg) = 4 then (
    some (-1))
  else (
    if a2 = (3 : Int32) then (
      some (q1 / 2))
    else (
      some (-1)))
def F_X7_heardAt_b82 (M : z_M) (K5 : Int32 → Int32 → Int32 → Int32 → Option Int32) (v1 : Int32) (v2 : Int32) (v4 : Int32) (s0 : Int32) (s1 : Int32) : Option Int32 :=
  z_nmI (s1 ||| s0) fun x10 =>
  K5 v1 v2 x10 (v4 + 1)
def F_X7_heardAt_b81 (M : z_M) (K5 : Int32 → Int32 → Int32 → Int32 → Option Int32) (v1 : Int32) (v2 : Int32) (v4 : Int32) (s0 : Int32) : Option Int32 :=
  F_X7_heardAt_b82 M K5 v1 v2 v4 0 s0
def F_X7_heardAt_b50 (M : z_M) (K5 : Int32 → Int32 → Int32 → Int32 → Option Int32) (v1 : Int32) (v2 : Int32) (v3 : Int32) (v4 : Int32) (v5 : Int32) (s0 : Int32) : Option Int32 :=
  if s0 < 0 then (
    F_X7_heardAt_b81 M K5 v1 v2 v4 v3)
  else (
    (F_X7_size (v5 - v1) M).bind fun q11 =>
    z_grd (z_in 3 49) <|
    if (z_gi M 25 0 (3 : Int32).toNatClampNeg) < q11 then (
      F_X7_heardAt_b81 M K5 v1 v2 v4 v3)
    else (
      F_X7_heardAt_b82 M K5 v1 v2 v4 ((1 : Int32) <<< (s0 &&& 31)) v3))
def F_X7_heardAt_b5 (M : z_M) : Nat → Int32 → Int32 → Int32 → Int32 → Option Int32
  | 0, _, _, _, _ => none
  | n + 1, v1, v2, v3, v4 =>
    z_grd (z_in 1 49) <|
    if (z_gi M 25 0 (1 : Int32).toNatClampNeg) ≤ v4 then (
      some v3)
    else (
      (F_X7_at v4 v2 M).bind fun q3 =>
      if 0 ≤ q3 then (
        z_grd (z_in ((39 : Int32) + v4) 49) <|
        (F_X7_sound q3 (z_gi M 25 0 ((39 : Int32) + v4).toNatClampNeg) M).bind fun q7 =>
        F_X7_heardAt_b50 M (F_X7_heardAt_b5 M n) v1 v2 v3 v4 q3 q7)
      else (
        F_X7_heardAt_b50 M (F_X7_heardAt_b5 M n) v1 v2 v3 v4 q3 (-1)))
def F_X7_heardAt (a1 : Int32) (a2 : Int32) (M : z_M) : Option Int32 :=
  F_X7_heardAt_b5 M z_fuel a1 a2 0 0
def F_X7_oneDay_b68 (K2 : Int32 → z_M → Option z_M) (K14 : Int32 → Int32 → z_M → Option z_M) (v1 : Int32) (v2 : Int32) (s0 : Int32) (s1 : Int32) (M : z_M) : Option z_M :=
  z_grd (z_in s1 49) <|
  K14 v1 (v2 + 1) (z_si M 25 0 s1.toNatClampNeg s0)
def F_X7_oneDay_b14 (K2 : Int32 → z_M → Option z_M) : Nat → Int32 → Int32 → z_M → Option z_M
  | 0, _, _, _ => none
  | n + 1, v1, v2, M =>
    (F_X7_longOf v1 M).bind fun q5 =>
    if q5 ≤ v2 then (
      z_grd (z_in ((29 : Int32) + v1) 49) <|
      z_nmI (z_gi M 25 0 ((29 : Int32) + v1).toNatClampNeg) fun x9 =>
      z_grd (z_in ((34 : Int32) + v1) 49) <|
      z_grd (z_in ((29 : Int32) + v1) 49) <|
      z_grd (z_in ((34 : Int32) + v1) 49) <|
      z_nmM (z_si M 25 0 ((29 : Int32) + v1).toNatClampNeg (z_gi M 25 0 ((34 : Int32) + v1).toNatClampNeg)) fun M13 =>
      K2 (v1 + 1) (z_si M13 25 0 ((34 : Int32) + v1).toNatClampNeg x9))
    else (
      (F_X7_treadOf v1 v2 M).bind fun q14 =>
      z_grd (z_in ((21 : Int32) + q14) 49) <|
      if (z_gi M 25 0 ((21 : Int32) + q14).toNatClampNeg) = (99 : Int32) then (
        F_X7_oneDay_b68 K2 (F_X7_oneDay_b14 K2 n) v1 v2 99 ((21 : Int32) + q14) M)
      else (
        z_grd (z_in ((21 : Int32) + q14) 49) <|
        F_X7_oneDay_b68 K2 (F_X7_oneDay_b14 K2 n) v1 v2 ((z_gi M 25 0 ((21 : Int32) + q14).toNatClampNeg) + 1) ((21 : Int32) + q14) M))
def F_X7_oneDay_b2 : Nat → Int32 → z_M → Option z_M
  | 0, _, _ => none
  | n + 1, v1, M =>
    z_grd (z_in 1 49) <|
    if (z_gi M 25 0 (1 : Int32).toNatClampNeg) ≤ v1 then (
      z_grd (z_in 4 49) <|
      z_grd (z_in 4 49) <|
      some (z_si M 25 0 (4 : Int32).toNatClampNeg ((z_gi M 25 0 (4 : Int32).toNatClampNeg) + 1)))
    else (
      F_X7_oneDay_b14 (F_X7_oneDay_b2 n) z_fuel v1 0 M)
def F_X7_oneDay (M : z_M) : Option z_M :=
  F_X7_oneDay_b2 z_fuel 0 M
def F_X7_note_b51 : Nat → Int32 → z_M → Option z_M
  | 0, _, _ => none
  | n + 1, v1, M =>
    if (49 : Int32) ≤ v1 then (
      some (z_si M 21 0 17 ((z_gi M 21 0 17) + 1)))
    else (
      z_grd (z_in v1 49) <|
      z_grd (z_in (((49 : Int32) * (z_gi M 21 0 17)) + v1) 1176) <|
      (F_X7_note_b51 n) (v1 + 1) (z_si M 29 0 (((49 : Int32) * (z_gi M 21 0 17)) + v1).toNatClampNeg (z_gi M 25 0 v1.toNatClampNeg)))
def F_X7_note_b49 (M : z_M) : Option z_M :=
  F_X7_note_b51 z_fuel 0 M
def F_X7_note_b11 : Nat → Int32 → z_M → Option z_M
  | 0, _, _ => none
  | n + 1, v1, M =>
    if (1127 : Int32) ≤ v1 then (
      F_X7_note_b49 (z_si M 21 0 17 ((z_gi M 21 0 17) - 1)))
    else (
      z_grd (z_in (v1 + 49) 1176) <|
      z_grd (z_in v1 1176) <|
      (F_X7_note_b11 n) (v1 + 1) (z_si M 29 0 v1.toNatClampNeg (z_gi M 29 0 (v1 + 49).toNatClampNeg)))
def F_X7_note (M : z_M) : Option z_M :=
  if (z_gi M 21 0 17) = (24 : Int32) then (
    F_X7_note_b11 z_fuel 0 M)
  else (
    F_X7_note_b49 M)
def F_X7_undo_b22 : Nat → Int32 → z_M → Option (Int32 × z_M)
  | 0, _, _ => none
  | n + 1, v1, M =>
    if (49 : Int32) ≤ v1 then (
      some (z_gi M 21 0 17, M))
    else (
      z_grd (z_in (((49 : Int32) * (z_gi M 21 0 17)) + v1) 1176) <|
      z_grd (z_in v1 49) <|
      (F_X7_undo_b22 n) (v1 + 1) (z_si M 25 0 v1.toNatClampNeg (z_gi M 29 0 (((49 : Int32) * (z_gi M 21 0 17)) + v1).toNatClampNeg)))
def F_X7_undo (M : z_M) : Option (Int32 × z_M) :=
  if (z_gi M 21 0 17) = 0 then (
    some ((-1000002), M))
  else (
    F_X7_undo_b22 z_fuel 0 (z_si M 21 0 17 ((z_gi M 21 0 17) - 1)))
def F_X7_allWorn_b4 (M : z_M) : Nat → Int32 → Int32 → Option Int32
  | 0, _, _ => none
  | n + 1, v1, v2 =>
    z_grd (z_in 0 49) <|
    if (z_gi M 25 0 (0 : Int32).toNatClampNeg) ≤ v2 then (
      some v1)
    else (
      z_grd (z_in ((21 : Int32) + v2) 49) <|
      z_nmI (v1 + (z_gi M 25 0 ((21 : Int32) + v2).toNatClampNeg)) fun x4 =>
      (F_X7_allWorn_b4 M n) x4 (v2 + 1))
def F_X7_allWorn (M : z_M) : Option Int32 :=
  F_X7_allWorn_b4 M z_fuel 0 0
def F_X7_days_b44 : Nat → Int32 → Int32 → z_M → Option (Int32 × z_M)
  | 0, _, _, _ => none
  | n + 1, v1, v2, M =>
    if v1 ≤ v2 then (
      (F_X7_allWorn M).bind fun q8 =>
      some (q8, M))
    else (
      (F_X7_note M).bind fun q10 =>
      (F_X7_oneDay q10).bind fun q12 =>
      (F_X7_days_b44 n) v1 (v2 + 1) q12)
def F_X7_days (a1 : Int32) (M : z_M) : Option (Int32 × z_M) :=
  if (z_gi M 21 0 4) = 0 then (
    some ((-1000002), M))
  else (
    (F_X7_in a1.toInt64 1 24 M).bind fun q2 =>
    if q2 = 0 then (
      some ((-1000001), M))
    else (
      z_grd (z_in 4 49) <|
      if ((z_gi M 25 0 (4 : Int32).toNatClampNeg) + a1) ≤ (999 : Int32) then (
        F_X7_days_b44 z_fuel a1 0 M)
      else (
        some ((-1000003), M))))
def F_X7_planeTo (a1 : Int32) (a2 : Int32) (M : z_M) : Option z_M :=
  z_grd (z_in ((13 : Int32) + a1) 49) <|
  z_grd (z_in ((21 : Int32) + a1) 49) <|
  z_nmM (z_si M 25 0 ((13 : Int32) + a1).toNatClampNeg a2) fun M3 =>
  some (z_si M3 25 0 ((21 : Int32) + a1).toNatClampNeg 0)
def F_X7_plane (a1 : Int32) (a2 : Int32) (M : z_M) : Option (Int32 × z_M) :=
  (F_X7_isTread a1 M).bind fun q1 =>
  if q1 = 0 then (
    some ((-1000001), M))
  else (
    (F_X7_in a2.toInt64 0 9 M).bind fun q4 =>
    if q4 = 0 then (
      some ((-1000001), M))
    else (
      (F_X7_note M).bind fun q7 =>
      (F_X7_toneOf a1 q7).bind fun q9 =>
      (F_X7_planeTo a1 a2 q7).bind fun q11 =>
      some (q9, q11)))
def F_X7_reach (a1 : Int32) (M : z_M) : Option (Int32 × z_M) :=
  if (z_gi M 21 0 4) = 0 then (
    some ((-1000002), M))
  else (
    (F_X7_in a1.toInt64 0 9 M).bind fun q2 =>
    if q2 = 0 then (
      some ((-1000001), M))
    else (
      (F_X7_note M).bind fun q5 =>
      z_grd (z_in 3 49) <|
      z_nmI (z_gi q5 25 0 (3 : Int32).toNatClampNeg) fun x8 =>
      z_grd (z_in 3 49) <|
      some (x8, z_si q5 25 0 (3 : Int32).toNatClampNeg a1)))
def F_X7_way (a1 : Int32) (a2 : Int32) (a3 : Int32) (M : z_M) : Option (Int32 × z_M) :=
  (F_X7_isWalker a1 M).bind fun q1 =>
  if q1 = 0 then (
    some ((-1000001), M))
  else (
    (F_X7_isTread a2 M).bind fun q4 =>
    if q4 = 0 then (
      some ((-1000001), M))
    else (
      (F_X7_isTread a3 M).bind fun q7 =>
      if q7 = 0 then (
        some ((-1000001), M))
      else (
        (F_X7_note M).bind fun q10 =>
        z_grd (z_in ((29 : Int32) + a1) 49) <|
        z_grd (z_in ((34 : Int32) + a1) 49) <|
        z_nmM (z_si q10 25 0 ((29 : Int32) + a1).toNatClampNeg a2) fun M14 =>
        (F_X7_longOf a1 (z_si M14 25 0 ((34 : Int32) + a1).toNatClampNeg a3)).bind fun q15 =>
        some (q15, z_si M14 25 0 ((34 : Int32) + a1).toNatClampNeg a3))))
def F_X7_gait (a1 : Int32) (a2 : Int32) (a3 : Int32) (M : z_M) : Option (Int32 × z_M) :=
  (F_X7_isWalker a1 M).bind fun q1 =>
  if q1 = 0 then (
    some ((-1000001), M))
  else (
    (F_X7_in a2.toInt64 1 3 M).bind fun q4 =>
    if q4 = 0 then (
      some ((-1000001), M))
    else (
      (F_X7_in a3.toInt64 0 20 M).bind fun q7 =>
      if q7 = 0 then (
        some ((-1000001), M))
      else (
        (F_X7_note M).bind fun q10 =>
        z_grd (z_in ((39 : Int32) + a1) 49) <|
        z_grd (z_in ((44 : Int32) + a1) 49) <|
        z_nmM (z_si q10 25 0 ((39 : Int32) + a1).toNatClampNeg a2) fun M14 =>
        (F_X7_longOf a1 (z_si M14 25 0 ((44 : Int32) + a1).toNatClampNeg a3)).bind fun q15 =>
        some (q15, z_si M14 25 0 ((44 : Int32) + a1).toNatClampNeg a3))))
def F_X7_whoSteps_b46 (M : z_M) (K4 : Int32 → Int32 → Int32 → Option Int32) (K17 : Int32 → Int32 → Int32 → Int32 → Option Int32) (v1 : Int32) (v3 : Int32) (v4 : Int32) (s0 : Int32) (s1 : Int32) : Option Int32 :=
  z_nmI (s1 ||| s0) fun x9 =>
  K17 v1 x9 v3 (v4 + 1)
def F_X7_whoSteps_b17 (M : z_M) (K4 : Int32 → Int32 → Int32 → Option Int32) : Nat → Int32 → Int32 → Int32 → Int32 → Option Int32
  | 0, _, _, _, _ => none
  | n + 1, v1, v2, v3, v4 =>
    (F_X7_longOf v3 M).bind fun q3 =>
    if q3 ≤ v4 then (
      K4 v1 v2 (v3 + 1))
    else (
      (F_X7_treadOf v3 v4 M).bind fun q6 =>
      if q6 = v1 then (
        F_X7_whoSteps_b46 M K4 (F_X7_whoSteps_b17 M K4 n) v1 v3 v4 ((1 : Int32) <<< (v3 &&& 31)) v2)
      else (
        F_X7_whoSteps_b46 M K4 (F_X7_whoSteps_b17 M K4 n) v1 v3 v4 0 v2))
def F_X7_whoSteps_b4 (M : z_M) : Nat → Int32 → Int32 → Int32 → Option Int32
  | 0, _, _, _ => none
  | n + 1, v1, v2, v3 =>
    z_grd (z_in 1 49) <|
    if (z_gi M 25 0 (1 : Int32).toNatClampNeg) ≤ v3 then (
      some v2)
    else (
      F_X7_whoSteps_b17 M (F_X7_whoSteps_b4 M n) z_fuel v1 v2 v3 0)
def F_X7_whoSteps (a1 : Int32) (M : z_M) : Option Int32 :=
  F_X7_whoSteps_b4 M z_fuel a1 0 0
def F_X7_tread_b20 (M : z_M) : Option Int32 :=
  some (-1000001)
def F_X7_tread (a1 : Int32) (a2 : Int32) (M : z_M) : Option Int32 :=
  (F_X7_isTread a1 M).bind fun q1 =>
  if q1 = 0 then (
    F_X7_tread_b20 M)
  else (
    (F_X7_in a2.toInt64 0 3 M).bind fun q4 =>
    if q4 = 0 then (
      F_X7_tread_b20 M)
    else (
      if a2 = 0 then (
        z_grd (z_in ((13 : Int32) + a1) 49) <|
        some (z_gi M 25 0 ((13 : Int32) + a1).toNatClampNeg))
      else (
        if a2 = (1 : Int32) then (
          z_grd (z_in ((21 : Int32) + a1) 49) <|
          some (z_gi M 25 0 ((21 : Int32) + a1).toNatClampNeg))
        else (
          if a2 = (2 : Int32) then (
            (F_X7_toneOf a1 M).bind fun q12 =>
            some q12)
          else (
            (F_X7_whoSteps a1 M).bind fun q10 =>
            some q10)))))
def F_X7_walker_b20 (M : z_M) : Option Int32 :=
  some (-1000001)
def F_X7_walker (a1 : Int32) (a2 : Int32) (M : z_M) : Option Int32 :=
  (F_X7_isWalker a1 M).bind fun q1 =>
  if q1 = 0 then (
    F_X7_walker_b20 M)
  else (
    (F_X7_in a2.toInt64 0 3 M).bind fun q4 =>
    if q4 = 0 then (
      F_X7_walker_b20 M)
    else (
      z_grd (z_in (((29 : Int32) + ((5 : Int32) * a2)) + a1) 49) <|
      some (z_gi M 25 0 (((29 : Int32) + ((5 : Int32) * a2)) + a1).toNatClampNeg)))
def F_X7_tuneOf (a1 : Int32) (a2 : Int32) (M : z_M) : Option Int32 :=
  (F_X7_treadOf a1 a2 M).bind fun q1 =>
  z_grd (z_in ((39 : Int32) + a1) 49) <|
  (F_X7_sound q1 (z_gi M 25 0 ((39 : Int32) + a1).toNatClampNeg) M).bind fun q4 =>
  if 0 ≤ q4 then (
    some q4)
  else (
    some 10)
def F_X7_tune (a1 : Int32) (a2 : Int32) (M : z_M) : Option Int32 :=
  (F_X7_isWalker a1 M).bind fun q1 =>
  if q1 = 0 then (
    some (-1000001))
  else (
    if 0 ≤ a2 then (
      (F_X7_longOf a1 M).bind fun q5 =>
      if q5 ≤ a2 then (
        some (-1000000))
      else (
        (F_X7_tuneOf a1 a2 M).bind fun q8 =>
        some q8))
    else (
      some (-1000001)))
def F_X7_where (a1 : Int32) (a2 : Int32) (M : z_M) : Option Int32 :=
  (F_X7_isWalker a1 M).bind fun q1 =>
  if q1 = 0 then (
    some (-1000001))
  else (
    (F_X7_isMinute a2 M).bind fun q4 =>
    if q4 = 0 then (
      some (-1000001))
    else (
      (F_X7_at a1 a2 M).bind fun q7 =>
      if 0 ≤ q7 then (
        some q7)
      else (
        some (-1000000))))
def F_X7_heard (a1 : Int32) (a2 : Int32) (M : z_M) : Option Int32 :=
  (F_X7_isTread a1 M).bind fun q1 =>
  if q1 = 0 then (
    some (-1000001))
  else (
    (F_X7_isMinute a2 M).bind fun q4 =>
    if q4 = 0 then (
      some (-1000001))
    else (
      (F_X7_heardAt a1 a2 M).bind fun q7 =>
      some q7))
def F_X7_putAside_b2 : Nat → Int32 → z_M → Option z_M
  | 0, _, _ => none
  | n + 1, v1, M =>
    if (49 : Int32) ≤ v1 then (
      some M)
    else (
      z_grd (z_in v1 49) <|
      z_grd (z_in v1 49) <|
      (F_X7_putAside_b2 n) (v1 + 1) (z_si M 30 0 v1.toNatClampNeg (z_gi M 25 0 v1.toNatClampNeg)))
def F_X7_putAside (M : z_M) : Option z_M :=
  F_X7_putAside_b2 z_fuel 0 M
def F_X7_takeBack_b2 : Nat → Int32 → z_M → Option z_M
  | 0, _, _ => none
  | n + 1, v1, M =>
    if (49 : Int32) ≤ v1 then (
      some M)
    else (
      z_grd (z_in v1 49) <|
      z_grd (z_in v1 49) <|
      (F_X7_takeBack_b2 n) (v1 + 1) (z_si M 25 0 v1.toNatClampNeg (z_gi M 30 0 v1.toNatClampNeg)))
def F_X7_takeBack (M : z_M) : Option z_M :=
  F_X7_takeBack_b2 z_fuel 0 M
def F_X7_isWhat (a1 : Int32) (M : z_M) : Option Int32 :=
  (F_X7_in a1.toInt64 0 1 M).bind fun q1 =>
  z_grd (q1 &&& 1 = q1) <|
  some q1
def F_X7_ahead_b74 (s0 : Int32) (M : z_M) : Option (Int32 × z_M) :=
  (F_X7_takeBack M).bind fun q15 =>
  some (s0, q15)
def F_X7_ahead_b37 : Nat → Int32 → Int32 → Int32 → Int32 → z_M → Option (Int32 × z_M)
  | 0, _, _, _, _, _ => none
  | n + 1, v1, v2, v3, v4, M =>
    if v2 ≤ v4 then (
      if v3 = 0 then (
        (F_X7_toneOf v1 M).bind fun q17 =>
        F_X7_ahead_b74 q17 M)
      else (
        z_grd (z_in ((21 : Int32) + v1) 49) <|
        F_X7_ahead_b74 (z_gi M 25 0 ((21 : Int32) + v1).toNatClampNeg) M))
    else (
      (F_X7_oneDay M).bind fun q19 =>
      (F_X7_ahead_b37 n) v1 v2 v3 (v4 + 1) q19)
def F_X7_ahead (a1 : Int32) (a2 : Int32) (a3 : Int32) (M : z_M) : Option (Int32 × z_M) :=
  (F_X7_isTread a1 M).bind fun q1 =>
  if q1 = 0 then (
    some ((-1000001), M))
  else (
    (F_X7_in a2.toInt64 0 60 M).bind fun q4 =>
    if q4 = 0 then (
      some ((-1000001), M))
    else (
      (F_X7_isWhat a3 M).bind fun q7 =>
      if q7 = 0 then (
        some ((-1000001), M))
      else (
        (F_X7_putAside M).bind fun q10 =>
        F_X7_ahead_b37 z_fuel a1 a2 a3 0 q10)))
def F_X7_length (a1 : Int32) (M : z_M) : Option Int32 :=
  (F_X7_isWalker a1 M).bind fun q1 =>
  if q1 = 0 then (
    some (-1000001))
  else (
    (F_X7_longOf a1 M).bind fun q4 =>
    some q4)
def F_X7_meet_b109 (M : z_M) (K26 : Int32 → Int32 → Int32 → Option Int32) (v1 : Int32) (v2 : Int32) (v3 : Int32) : Option Int32 :=
  K26 v1 v2 (v3 + 1)
def F_X7_meet_b83 (M : z_M) (K26 : Int32 → Int32 → Int32 → Option Int32) (v1 : Int32) (v2 : Int32) (v3 : Int32) (v4 : Int32) (v5 : Int32) (s0 : Int32) : Option Int32 :=
  if v4 < 0 then (
    F_X7_meet_b109 M K26 v1 v2 v3)
  else (
    if v5 < 0 then (
      F_X7_meet_b109 M K26 v1 v2 v3)
    else (
      if v4 = v5 then (
        some v3)
      else (
        if s0 = 0 then (
          F_X7_meet_b109 M K26 v1 v2 v3)
        else (
          some v3))))
def F_X7_meet_b82 (M : z_M) (K26 : Int32 → Int32 → Int32 → Option Int32) (v1 : Int32) (v2 : Int32) (v3 : Int32) (v4 : Int32) (v5 : Int32) : Option Int32 :=
  F_X7_meet_b83 M K26 v1 v2 v3 v4 v5 0
def F_X7_meet_b26 (M : z_M) : Nat → Int32 → Int32 → Int32 → Option Int32
  | 0, _, _, _ => none
  | n + 1, v1, v2, v3 =>
    if (30 : Int32) ≤ v3 then (
      some (-1000000))
    else (
      (F_X7_at v1 v3 M).bind fun q9 =>
      (F_X7_at v2 v3 M).bind fun q11 =>
      if v3 ≤ 0 then (
        F_X7_meet_b82 M (F_X7_meet_b26 M n) v1 v2 v3 q9 q11)
      else (
        (F_X7_at v2 (v3 - 1) M).bind fun q18 =>
        if q9 = q18 then (
          (F_X7_at v1 (v3 - 1) M).bind fun q21 =>
          if q11 = q21 then (
            F_X7_meet_b83 M (F_X7_meet_b26 M n) v1 v2 v3 q9 q11 1)
          else (
            F_X7_meet_b82 M (F_X7_meet_b26 M n) v1 v2 v3 q9 q11))
        else (
          F_X7_meet_b82 M (F_X7_meet_b26 M n) v1 v2 v3 q9 q11)))
def F_X7_meet (a1 : Int32) (a2 : Int32) (M : z_M) : Option Int32 :=
  (F_X7_isWalker a1 M).bind fun q1 =>
  if q1 = 0 then (
    some (-1000001))
  else (
    (F_X7_isWalker a2 M).bind fun q4 =>
    if q4 = 0 then (
      some (-1000001))
    else (
      if a1 = a2 then (
        some (-1000001))
      else (
        F_X7_meet_b26 M z_fuel a1 a2 0)))
def F_X7_allIn_b62 (M : z_M) (K4 : Int32 → Int32 → Int32 → Option Int32) (v1 : Int32) (v3 : Int32) (s0 : Int32) (s1 : Int32) : Option Int32 :=
  z_nmI (s1 ||| s0) fun x10 =>
  K4 v1 x10 (v3 + 1)
def F_X7_allIn_b46 (M : z_M) (K4 : Int32 → Int32 → Int32 → Option Int32) (v1 : Int32) (v2 : Int32) (v3 : Int32) (s0 : Int32) : Option Int32 :=
  if s0 < 0 then (
    F_X7_allIn_b62 M K4 v1 v3 0 v2)
  else (
    F_X7_allIn_b62 M K4 v1 v3 ((1 : Int32) <<< (s0 &&& 31)) v2)
def F_X7_allIn_b4 (M : z_M) : Nat → Int32 → Int32 → Int32 → Option Int32
  | 0, _, _, _ => none
  | n + 1, v1, v2, v3 =>
    z_grd (z_in 1 49) <|
    if (z_gi M 25 0 (1 : Int32).toNatClampNeg) ≤ v3 then (
      some v2)
    else (
      (F_X7_at v3 v1 M).bind fun q3 =>
      if 0 ≤ q3 then (
        z_grd (z_in ((39 : Int32) + v3) 49) <|
        (F_X7_sound q3 (z_gi M 25 0 ((39 : Int32) + v3).toNatClampNeg) M).bind fun q7 =>
        F_X7_allIn_b46 M (F_X7_allIn_b4 M n) v1 v2 v3 q7)
      else (
        F_X7_allIn_b46 M (F_X7_allIn_b4 M n) v1 v2 v3 (-1)))
def F_X7_allIn (a1 : Int32) (M : z_M) : Option Int32 :=
  F_X7_allIn_b4 M z_fuel a1 0 0
def F_X7_choir_b57 (M : z_M) (K27 : Int32 → Int32 → Int32 → Int32 → Option Int32) (v1 : Int32) (v2 : Int32) (v3 : Int32) (v4 : Int32) : Option Int32 :=
  K27 v1 v2 v3 (v4 + 1)
def F_X7_choir_b27 (M : z_M) : Nat → Int32 → Int32 → Int32 → Int32 → Option Int32
  | 0, _, _, _, _ => none
  | n + 1, v1, v2, v3, v4 =>
    if (30 : Int32) ≤ v4 then (
      if v1 = 0 then (
        some v2)
      else (
        some v3))
    else (
      (F_X7_allIn v4 M).bind fun q7 =>
      (F_X7_ones q7 M).bind fun q9 =>
      if q9 ≤ v3 then (
        F_X7_choir_b57 M (F_X7_choir_b27 M n) v1 v2 v3 v4)
      else (
        F_X7_choir_b57 M (F_X7_choir_b27 M n) v1 v4 q9 v4))
def F_X7_choir (a1 : Int32) (M : z_M) : Option Int32 :=
  if (z_gi M 21 0 4) = 0 then (
    some (-1000002))
  else (
    (F_X7_isWhat a1 M).bind fun q2 =>
    if q2 = 0 then (
      some (-1000001))
    else (
      F_X7_choir_b27 M z_fuel a1 0 0 0))
def F_X7_areTwins_b58 (M : z_M) (K22 : Int32 → Int32 → Int32 → Int32 → Option Int32) (v1 : Int32) (v2 : Int32) (v4 : Int32) (s0 : Int32) : Option Int32 :=
  K22 v1 v2 s0 (v4 + 1)
def F_X7_areTwins_b22 (M : z_M) : Nat → Int32 → Int32 → Int32 → Int32 → Option Int32
  | 0, _, _, _, _ => none
  | n + 1, v1, v2, v3, v4 =>
    (F_X7_longOf v1 M).bind fun q6 =>
    if q6 ≤ v4 then (
      z_grd (v3 &&& 1 = v3) <|
      some v3)
    else (
      if v3 = 0 then (
        z_grd (v3 &&& 1 = v3) <|
        some v3)
      else (
        (F_X7_tuneOf v1 v4 M).bind fun q12 =>
        (F_X7_tuneOf v2 v4 M).bind fun q14 =>
        if q12 = q14 then (
          F_X7_areTwins_b58 M (F_X7_areTwins_b22 M n) v1 v2 v4 1)
        else (
          F_X7_areTwins_b58 M (F_X7_areTwins_b22 M n) v1 v2 v4 0)))
def F_X7_areTwins_b18 (M : z_M) (v1 : Int32) (v2 : Int32) (s0 : Int32) : Option Int32 :=
  F_X7_areTwins_b22 M z_fuel v1 v2 s0 0
def F_X7_areTwins (a1 : Int32) (a2 : Int32) (M : z_M) : Option Int32 :=
  (F_X7_longOf a1 M).bind fun q1 =>
  (F_X7_longOf a2 M).bind fun q3 =>
  if q1 = q3 then (
    F_X7_areTwins_b18 M a1 a2 1)
  else (
    F_X7_areTwins_b18 M a1 a2 0)
def F_X7_twinsMany_b70 (K10 : Int32 → Int32 → z_M → Option (Int32 × z_M)) (K24 : Int32 → Int32 → Int32 → z_M → Option (Int32 × z_M)) (v1 : Int32) (v2 : Int32) (v3 : Int32) (M : z_M) : Option (Int32 × z_M) :=
  K24 v1 v2 (v3 + 1) M
def F_X7_twinsMany_b67 (K10 : Int32 → Int32 → z_M → Option (Int32 × z_M)) (K24 : Int32 → Int32 → Int32 → z_M → Option (Int32 × z_M)) (v1 : Int32) (v2 : Int32) (v3 : Int32) (s0 : Int32) (M : z_M) : Option (Int32 × z_M) :=
  F_X7_twinsMany_b70 K10 K24 v1 v2 v3 (z_si M 21 0 19 s0)
def F_X7_twinsMany_b24 (K10 : Int32 → Int32 → z_M → Option (Int32 × z_M)) : Nat → Int32 → Int32 → Int32 → z_M → Option (Int32 × z_M)
  | 0, _, _, _, _ => none
  | n + 1, v1, v2, v3, M =>
    z_grd (z_in 1 49) <|
    if (z_gi M 25 0 (1 : Int32).toNatClampNeg) ≤ v3 then (
      K10 v1 (v2 + 1) M)
    else (
      (F_X7_areTwins v2 v3 M).bind fun q6 =>
      if q6 = 0 then (
        F_X7_twinsMany_b70 K10 (F_X7_twinsMany_b24 K10 n) v1 v2 v3 M)
      else (
        if 0 ≤ (z_gi M 21 0 19) then (
          F_X7_twinsMany_b67 K10 (F_X7_twinsMany_b24 K10 n) (v1 + 1) v2 v3 (z_gi M 21 0 19) M)
        else (
          F_X7_twinsMany_b67 K10 (F_X7_twinsMany_b24 K10 n) (v1 + 1) v2 v3 (((10 : Int32) * v2) + v3) M)))
def F_X7_twinsMany_b10 : Nat → Int32 → Int32 → z_M → Option (Int32 × z_M)
  | 0, _, _, _ => none
  | n + 1, v1, v2, M =>
    z_grd (z_in 1 49) <|
    if (z_gi M 25 0 (1 : Int32).toNatClampNeg) ≤ v2 then (
      some (v1, M))
    else (
      z_nmI (v2 + 1) fun x3 =>
      F_X7_twinsMany_b24 (F_X7_twinsMany_b10 n) z_fuel v1 v2 x3 M)
def F_X7_twinsMany (M : z_M) : Option (Int32 × z_M) :=
  F_X7_twinsMany_b10 z_fuel 0 0 (z_si M 21 0 19 (-1000000))
def F_X7_twins (a1 : Int32) (M : z_M) : Option (Int32 × z_M) :=
  if (z_gi M 21 0 4) = 0 then (
    some ((-1000002), M))
  else (
    (F_X7_isWhat a1 M).bind fun q2 =>
    if q2 = 0 then (
      some ((-1000001), M))
    else (
      (F_X7_twinsMany M).bind fun q5 =>
      if a1 = 0 then (
        some (q5.1, q5.2))
      else (
        some (z_gi q5.2 21 0 19, q5.2))))
def F_X7_isHeard_b67 (M : z_M) (K5 : Int32 → Int32 → Int32 → Int32 → Option Int32) (v1 : Int32) (v2 : Int32) (v4 : Int32) (s0 : Int32) : Option Int32 :=
  K5 v1 v2 s0 (v4 + 1)
def F_X7_isHeard_b62 (M : z_M) (K5 : Int32 → Int32 → Int32 → Int32 → Option Int32) (v1 : Int32) (v2 : Int32) (v4 : Int32) : Option Int32 :=
  F_X7_isHeard_b67 M K5 v1 v2 v4 1
def F_X7_isHeard_b66 (M : z_M) (K5 : Int32 → Int32 → Int32 → Int32 → Option Int32) (v1 : Int32) (v2 : Int32) (v4 : Int32) : Option Int32 :=
  F_X7_isHeard_b67 M K5 v1 v2 v4 0
def F_X7_isHeard_b5 (M : z_M) : Nat → Int32 → Int32 → Int32 → Int32 → Option Int32
  | 0, _, _, _, _ => none
  | n + 1, v1, v2, v3, v4 =>
    (F_X7_longOf v1 M).bind fun q1 =>
    if q1 ≤ v4 then (
      z_grd (v3 &&& 1 = v3) <|
      some v3)
    else (
      (F_X7_treadOf v1 v4 M).bind fun q5 =>
      if v3 = 0 then (
        (F_X7_size (q5 - v2) M).bind fun q8 =>
        z_grd (z_in 3 49) <|
        if (z_gi M 25 0 (3 : Int32).toNatClampNeg) < q8 then (
          F_X7_isHeard_b66 M (F_X7_isHeard_b5 M n) v1 v2 v4)
        else (
          z_grd (z_in ((39 : Int32) + v1) 49) <|
          (F_X7_sound q5 (z_gi M 25 0 ((39 : Int32) + v1).toNatClampNeg) M).bind fun q13 =>
          if q13 < 0 then (
            F_X7_isHeard_b66 M (F_X7_isHeard_b5 M n) v1 v2 v4)
          else (
            F_X7_isHeard_b62 M (F_X7_isHeard_b5 M n) v1 v2 v4)))
      else (
        F_X7_isHeard_b62 M (F_X7_isHeard_b5 M n) v1 v2 v4))
def F_X7_isHeard (a1 : Int32) (a2 : Int32) (M : z_M) : Option Int32 :=
  F_X7_isHeard_b5 M z_fuel a1 a2 0 0
def F_X7_felt_b158 (v4 : Int32) (M : z_M) : Option (Int32 × z_M) :=
  some (v4, M)
def F_X7_felt_b142 (K37 : Int32 → Int32 → Int32 → Int32 → Int32 → z_M → Option (Int32 × z_M)) (v1 : Int32) (v2 : Int32) (v3 : Int32) (v4 : Int32) (v5 : Int32) (M : z_M) : Option (Int32 × z_M) :=
  K37 v1 v2 v3 v4 (v5 + 1) M
def F_X7_felt_b136 (K37 : Int32 → Int32 → Int32 → Int32 → Int32 → z_M → Option (Int32 × z_M)) (v1 : Int32) (v2 : Int32) (v3 : Int32) (v5 : Int32) (s0 : Int32) (M : z_M) : Option (Int32 × z_M) :=
  (F_X7_takeBack M).bind fun q24 =>
  F_X7_felt_b142 K37 v1 v2 v3 s0 v5 q24
def F_X7_felt_b113 (K37 : Int32 → Int32 → Int32 → Int32 → Int32 → z_M → Option (Int32 × z_M)) (K71 : Int32 → Int32 → Int32 → Int32 → Int32 → Int32 → z_M → Option (Int32 × z_M)) (v1 : Int32) (v2 : Int32) (v3 : Int32) (v4 : Int32) (v5 : Int32) (v6 : Int32) (s0 : Int32) (s1 : Int32) (M : z_M) : Option (Int32 × z_M) :=
  z_grd (z_in s1 49) <|
  K71 v1 v2 v3 v4 v5 (v6 + 1) (z_si M 25 0 s1.toNatClampNeg s0)
def F_X7_felt_b71 (K37 : Int32 → Int32 → Int32 → Int32 → Int32 → z_M → Option (Int32 × z_M)) : Nat → Int32 → Int32 → Int32 → Int32 → Int32 → Int32 → z_M → Option (Int32 × z_M)
  | 0, _, _, _, _, _, _, _ => none
  | n + 1, v1, v2, v3, v4, v5, v6, M =>
    z_grd (z_in 0 49) <|
    if (z_gi M 25 0 (0 : Int32).toNatClampNeg) ≤ v6 then (
      (F_X7_isHeard v1 v2 M).bind fun q21 =>
      if q21 = 0 then (
        F_X7_felt_b136 K37 v1 v2 v3 v5 v5 M)
      else (
        F_X7_felt_b136 K37 v1 v2 v3 v5 v4 M))
    else (
      (F_X7_has v5 v6 M).bind fun q26 =>
      if q26 = 0 then (
        z_grd (z_in ((5 : Int32) + v6) 49) <|
        F_X7_felt_b113 K37 (F_X7_felt_b71 K37 n) v1 v2 v3 v4 v5 v6 (z_gi M 25 0 ((5 : Int32) + v6).toNatClampNeg) ((5 : Int32) + v6) M)
      else (
        F_X7_felt_b113 K37 (F_X7_felt_b71 K37 n) v1 v2 v3 v4 v5 v6 5 ((5 : Int32) + v6) M))
def F_X7_felt_b68 (K37 : Int32 → Int32 → Int32 → Int32 → Int32 → z_M → Option (Int32 × z_M)) (v1 : Int32) (v2 : Int32) (v3 : Int32) (v4 : Int32) (v5 : Int32) (M : z_M) : Option (Int32 × z_M) :=
  F_X7_felt_b71 K37 z_fuel v1 v2 v3 v4 v5 0 M
def F_X7_felt_b37 : Nat → Int32 → Int32 → Int32 → Int32 → Int32 → z_M → Option (Int32 × z_M)
  | 0, _, _, _, _, _, _ => none
  | n + 1, v1, v2, v3, v4, v5, M =>
    z_grd (z_in 0 49) <|
    if ((1 : Int32) <<< ((z_gi M 25 0 (0 : Int32).toNatClampNeg) &&& 31)) ≤ v5 then (
      if v4 < 0 then (
        F_X7_felt_b158 v4 M)
      else (
        if v3 = (1 : Int32) then (
          F_X7_felt_b158 v4 M)
        else (
          (F_X7_ones v4 M).bind fun q16 =>
          some (q16, M))))
    else (
      if v4 < 0 then (
        F_X7_felt_b68 (F_X7_felt_b37 n) v1 v2 v3 v4 v5 M)
      else (
        (F_X7_ones v5 M).bind fun q31 =>
        (F_X7_ones v4 M).bind fun q33 =>
        if q33 ≤ q31 then (
          F_X7_felt_b142 (F_X7_felt_b37 n) v1 v2 v3 v4 v5 M)
        else (
          F_X7_felt_b68 (F_X7_felt_b37 n) v1 v2 v3 v4 v5 M)))
def F_X7_felt (a1 : Int32) (a2 : Int32) (a3 : Int32) (M : z_M) : Option (Int32 × z_M) :=
  (F_X7_isWalker a1 M).bind fun q1 =>
  if q1 = 0 then (
    some ((-1000001), M))
  else (
    (F_X7_isTread a2 M).bind fun q4 =>
    if q4 = 0 then (
      some ((-1000001), M))
    else (
      (F_X7_isWhat a3 M).bind fun q7 =>
      if q7 = 0 then (
        some ((-1000001), M))
      else (
        (F_X7_putAside M).bind fun q10 =>
        F_X7_felt_b37 z_fuel a1 a2 a3 (-1000000) 0 q10)))
def F_X7_areHeard_b82 (M : z_M) (K4 : Int32 → Int32 → Int32 → Option Int32) (v1 : Int32) (v3 : Int32) (s0 : Int32) : Option Int32 :=
  K4 v1 s0 (v3 + 1)
def F_X7_areHeard_b81 (M : z_M) (K4 : Int32 → Int32 → Int32 → Option Int32) (v1 : Int32) (v3 : Int32) : Option Int32 :=
  F_X7_areHeard_b82 M K4 v1 v3 0
def F_X7_areHeard_b60 (M : z_M) (K4 : Int32 → Int32 → Int32 → Option Int32) (K20 : Int32 → Int32 → Int32 → Int32 → Int32 → Option Int32) (v1 : Int32) (v2 : Int32) (v3 : Int32) (v5 : Int32) (s0 : Int32) : Option Int32 :=
  K20 v1 v2 v3 s0 (v5 + 1)
def F_X7_areHeard_b55 (M : z_M) (K4 : Int32 → Int32 → Int32 → Option Int32) (K20 : Int32 → Int32 → Int32 → Int32 → Int32 → Option Int32) (v1 : Int32) (v2 : Int32) (v3 : Int32) (v5 : Int32) : Option Int32 :=
  F_X7_areHeard_b60 M K4 K20 v1 v2 v3 v5 1
def F_X7_areHeard_b59 (M : z_M) (K4 : Int32 → Int32 → Int32 → Option Int32) (K20 : Int32 → Int32 → Int32 → Int32 → Int32 → Option Int32) (v1 : Int32) (v2 : Int32) (v3 : Int32) (v5 : Int32) : Option Int32 :=
  F_X7_areHeard_b60 M K4 K20 v1 v2 v3 v5 0
def F_X7_areHeard_b20 (M : z_M) (K4 : Int32 → Int32 → Int32 → Option Int32) : Nat → Int32 → Int32 → Int32 → Int32 → Int32 → Option Int32
  | 0, _, _, _, _, _ => none
  | n + 1, v1, v2, v3, v4, v5 =>
    z_grd (z_in 0 49) <|
    if (z_gi M 25 0 (0 : Int32).toNatClampNeg) ≤ v5 then (
      if v2 = 0 then (
        F_X7_areHeard_b81 M K4 v1 v3)
      else (
        if v4 = 0 then (
          F_X7_areHeard_b81 M K4 v1 v3)
        else (
          F_X7_areHeard_b82 M K4 v1 v3 1)))
    else (
      if v4 = 0 then (
        (F_X7_has v1 v5 M).bind fun q9 =>
        if q9 = 0 then (
          F_X7_areHeard_b59 M K4 (F_X7_areHeard_b20 M K4 n) v1 v2 v3 v5)
        else (
          (F_X7_isHeard v3 v5 M).bind fun q12 =>
          if q12 = 0 then (
            F_X7_areHeard_b59 M K4 (F_X7_areHeard_b20 M K4 n) v1 v2 v3 v5)
          else (
            F_X7_areHeard_b55 M K4 (F_X7_areHeard_b20 M K4 n) v1 v2 v3 v5)))
      else (
        F_X7_areHeard_b55 M K4 (F_X7_areHeard_b20 M K4 n) v1 v2 v3 v5))
def F_X7_areHeard_b4 (M : z_M) : Nat → Int32 → Int32 → Int32 → Option Int32
  | 0, _, _, _ => none
  | n + 1, v1, v2, v3 =>
    z_grd (z_in 1 49) <|
    if (z_gi M 25 0 (1 : Int32).toNatClampNeg) ≤ v3 then (
      z_grd (v2 &&& 1 = v2) <|
      some v2)
    else (
      F_X7_areHeard_b20 M (F_X7_areHeard_b4 M n) z_fuel v1 v2 v3 0 0)
def F_X7_areHeard (a1 : Int32) (M : z_M) : Option Int32 :=
  F_X7_areHeard_b4 M z_fuel a1 1 0
def F_X7_doors_b81 (M : z_M) (v2 : Int32) : Option Int32 :=
  some v2
def F_X7_doors_b65 (M : z_M) (K25 : Int32 → Int32 → Int32 → Option Int32) (v1 : Int32) (v3 : Int32) (s0 : Int32) : Option Int32 :=
  K25 v1 s0 (v3 + 1)
def F_X7_doors_b64 (M : z_M) (K25 : Int32 → Int32 → Int32 → Option Int32) (v1 : Int32) (v2 : Int32) (v3 : Int32) : Option Int32 :=
  F_X7_doors_b65 M K25 v1 v3 v2
def F_X7_doors_b52 (M : z_M) (K25 : Int32 → Int32 → Int32 → Option Int32) (v1 : Int32) (v2 : Int32) (v3 : Int32) : Option Int32 :=
  (F_X7_areHeard v3 M).bind fun q12 =>
  if q12 = 0 then (
    F_X7_doors_b64 M K25 v1 v2 v3)
  else (
    F_X7_doors_b65 M K25 v1 v3 v3)
def F_X7_doors_b25 (M : z_M) : Nat → Int32 → Int32 → Int32 → Option Int32
  | 0, _, _, _ => none
  | n + 1, v1, v2, v3 =>
    z_grd (z_in 0 49) <|
    if ((1 : Int32) <<< ((z_gi M 25 0 (0 : Int32).toNatClampNeg) &&& 31)) ≤ v3 then (
      if v2 < 0 then (
        F_X7_doors_b81 M v2)
      else (
        if v1 = (1 : Int32) then (
          F_X7_doors_b81 M v2)
        else (
          (F_X7_ones v2 M).bind fun q9 =>
          some q9)))
    else (
      if v2 < 0 then (
        F_X7_doors_b52 M (F_X7_doors_b25 M n) v1 v2 v3)
      else (
        (F_X7_ones v3 M).bind fun q15 =>
        (F_X7_ones v2 M).bind fun q17 =>
        if q17 ≤ q15 then (
          F_X7_doors_b64 M (F_X7_doors_b25 M n) v1 v2 v3)
        else (
          F_X7_doors_b52 M (F_X7_doors_b25 M n) v1 v2 v3)))
def F_X7_doors (a1 : Int32) (M : z_M) : Option Int32 :=
  if (z_gi M 21 0 4) = 0 then (
    some (-1000002))
  else (
    (F_X7_isWhat a1 M).bind fun q2 =>
    if q2 = 0 then (
      some (-1000001))
    else (
      F_X7_doors_b25 M z_fuel a1 (-1000000) 0))
def F_X7_planed_b93 (K32 : Int32 → Int32 → Int32 → Int32 → z_M → Option (Int32 × z_M)) (K46 : Int32 → Int32 → Int32 → Int32 → Int32 → z_M → Option (Int32 × z_M)) (v1 : Int32) (v2 : Int32) (v3 : Int32) (v4 : Int32) (v5 : Int32) (M : z_M) : Option (Int32 × z_M) :=
  K46 v1 v2 v3 v4 (v5 + 1) M
def F_X7_planed_b81 (K32 : Int32 → Int32 → Int32 → Int32 → z_M → Option (Int32 × z_M)) (K46 : Int32 → Int32 → Int32 → Int32 → Int32 → z_M → Option (Int32 × z_M)) (v1 : Int32) (v4 : Int32) (v5 : Int32) (v6 : Int32) (M : z_M) : Option (Int32 × z_M) :=
  z_nmI (((10 : Int32) * v4) + v5) fun x18 =>
  F_X7_planed_b93 K32 K46 v1 x18 v6 v4 v5 M
def F_X7_planed_b46 (K32 : Int32 → Int32 → Int32 → Int32 → z_M → Option (Int32 × z_M)) : Nat → Int32 → Int32 → Int32 → Int32 → Int32 → z_M → Option (Int32 × z_M)
  | 0, _, _, _, _, _, _ => none
  | n + 1, v1, v2, v3, v4, v5, M =>
    if (10 : Int32) ≤ v5 then (
      K32 v1 v2 v3 (v4 + 1) M)
    else (
      (F_X7_planeTo v4 v5 M).bind fun q11 =>
      (F_X7_twinsMany q11).bind fun q13 =>
      (F_X7_takeBack q13.2).bind fun q15 =>
      if v2 < 0 then (
        F_X7_planed_b81 K32 (F_X7_planed_b46 K32 n) v1 v4 v5 q13.1 q15)
      else (
        if v3 ≤ q13.1 then (
          F_X7_planed_b93 K32 (F_X7_planed_b46 K32 n) v1 v2 v3 v4 v5 q15)
        else (
          F_X7_planed_b81 K32 (F_X7_planed_b46 K32 n) v1 v4 v5 q13.1 q15)))
def F_X7_planed_b32 : Nat → Int32 → Int32 → Int32 → Int32 → z_M → Option (Int32 × z_M)
  | 0, _, _, _, _, _ => none
  | n + 1, v1, v2, v3, v4, M =>
    z_grd (z_in 0 49) <|
    if (z_gi M 25 0 (0 : Int32).toNatClampNeg) ≤ v4 then (
      if v1 = 0 then (
        some (v2, M))
      else (
        some (v3, M)))
    else (
      F_X7_planed_b46 (F_X7_planed_b32 n) z_fuel v1 v2 v3 v4 0 M)
def F_X7_planed (a1 : Int32) (M : z_M) : Option (Int32 × z_M) :=
  if (z_gi M 21 0 4) = 0 then (
    some ((-1000002), M))
  else (
    (F_X7_isWhat a1 M).bind fun q2 =>
    if q2 = 0 then (
      some ((-1000001), M))
    else (
      (F_X7_putAside M).bind fun q5 =>
      F_X7_planed_b32 z_fuel a1 (-1000000) 0 0 q5))
def F_X7_isRise_b50 (M : z_M) (K6 : Int32 → Int32 → Int32 → Int32 → Int32 → Option Int32) (v1 : Int32) (v2 : Int32) (v3 : Int32) (v5 : Int32) (s0 : Int32) : Option Int32 :=
  K6 v1 v2 v3 s0 (v5 + 1)
def F_X7_isRise_b45 (M : z_M) (K6 : Int32 → Int32 → Int32 → Int32 → Int32 → Option Int32) (v1 : Int32) (v2 : Int32) (v3 : Int32) (v5 : Int32) : Option Int32 :=
  F_X7_isRise_b50 M K6 v1 v2 v3 v5 1
def F_X7_isRise_b6 (M : z_M) : Nat → Int32 → Int32 → Int32 → Int32 → Int32 → Option Int32
  | 0, _, _, _, _, _ => none
  | n + 1, v1, v2, v3, v4, v5 =>
    (F_X7_longOf v1 M).bind fun q1 =>
    if q1 ≤ v5 then (
      z_grd (v4 &&& 1 = v4) <|
      some v4)
    else (
      if v4 = 0 then (
        z_grd (z_in ((44 : Int32) + v1) 49) <|
        (F_X7_heardAt v2 ((z_gi M 25 0 ((44 : Int32) + v1).toNatClampNeg) + v5) M).bind fun q7 =>
        (F_X7_ones q7 M).bind fun q9 =>
        if q9 < v3 then (
          F_X7_isRise_b50 M (F_X7_isRise_b6 M n) v1 v2 v3 v5 0)
        else (
          F_X7_isRise_b45 M (F_X7_isRise_b6 M n) v1 v2 v3 v5))
      else (
        F_X7_isRise_b45 M (F_X7_isRise_b6 M n) v1 v2 v3 v5))
def F_X7_isRise (a1 : Int32) (a2 : Int32) (a3 : Int32) (M : z_M) : Option Int32 :=
  F_X7_isRise_b6 M z_fuel a1 a2 a3 0 0
def F_X7_rise_b124 (K53 : Int32 → Int32 → Int32 → Int32 → Int32 → Int32 → Int32 → z_M → Option (Int32 × z_M)) (K62 : Int32 → Int32 → Int32 → Int32 → Int32 → Int32 → Int32 → Int32 → z_M → Option (Int32 × z_M)) (v1 : Int32) (v2 : Int32) (v3 : Int32) (v4 : Int32) (v5 : Int32) (v6 : Int32) (v7 : Int32) (v8 : Int32) (M : z_M) : Option (Int32 × z_M) :=
  K62 v1 v2 v3 v4 v5 v6 v7 (v8 + 1) M
def F_X7_rise_b122 (K53 : Int32 → Int32 → Int32 → Int32 → Int32 → Int32 → Int32 → z_M → Option (Int32 × z_M)) (K62 : Int32 → Int32 → Int32 → Int32 → Int32 → Int32 → Int32 → Int32 → z_M → Option (Int32 × z_M)) (v1 : Int32) (v2 : Int32) (v3 : Int32) (v4 : Int32) (v5 : Int32) (v7 : Int32) (v8 : Int32) (s0 : Int32) (M : z_M) : Option (Int32 × z_M) :=
  F_X7_rise_b124 K53 K62 v1 v2 v3 v4 v5 s0 v7 v8 M
def F_X7_rise_b62 (K53 : Int32 → Int32 → Int32 → Int32 → Int32 → Int32 → Int32 → z_M → Option (Int32 × z_M)) : Nat → Int32 → Int32 → Int32 → Int32 → Int32 → Int32 → Int32 → Int32 → z_M → Option (Int32 × z_M)
  | 0, _, _, _, _, _, _, _, _, _ => none
  | n + 1, v1, v2, v3, v4, v5, v6, v7, v8, M =>
    if (20 : Int32) < v8 then (
      K53 v1 v2 v3 v4 v5 v6 (v7 + 1) M)
    else (
      z_grd (z_in ((39 : Int32) + v1) 49) <|
      z_grd (z_in ((44 : Int32) + v1) 49) <|
      z_nmM (z_si M 25 0 ((39 : Int32) + v1).toNatClampNeg v7) fun M22 =>
      (F_X7_isRise v1 v2 v3 (z_si M22 25 0 ((44 : Int32) + v1).toNatClampNeg v8)).bind fun q23 =>
      if q23 = 0 then (
        F_X7_rise_b124 K53 (F_X7_rise_b62 K53 n) v1 v2 v3 v4 v5 v6 v7 v8 (z_si M22 25 0 ((44 : Int32) + v1).toNatClampNeg v8))
      else (
        if 0 ≤ v6 then (
          F_X7_rise_b122 K53 (F_X7_rise_b62 K53 n) v1 v2 v3 v4 (v5 + 1) v7 v8 v6 (z_si M22 25 0 ((44 : Int32) + v1).toNatClampNeg v8))
        else (
          F_X7_rise_b122 K53 (F_X7_rise_b62 K53 n) v1 v2 v3 v4 (v5 + 1) v7 v8 (((100 : Int32) * v7) + v8) (z_si M22 25 0 ((44 : Int32) + v1).toNatClampNeg v8))))
def F_X7_rise_b53 : Nat → Int32 → Int32 → Int32 → Int32 → Int32 → Int32 → Int32 → z_M → Option (Int32 × z_M)
  | 0, _, _, _, _, _, _, _, _ => none
  | n + 1, v1, v2, v3, v4, v5, v6, v7, M =>
    if (4 : Int32) ≤ v7 then (
      (F_X7_takeBack M).bind fun q16 =>
      if v4 = 0 then (
        some (v5, q16))
      else (
        some (v6, q16)))
    else (
      F_X7_rise_b62 (F_X7_rise_b53 n) z_fuel v1 v2 v3 v4 v5 v6 v7 0 M)
def F_X7_rise (a1 : Int32) (a2 : Int32) (a3 : Int32) (a4 : Int32) (M : z_M) : Option (Int32 × z_M) :=
  (F_X7_isWalker a1 M).bind fun q1 =>
  if q1 = 0 then (
    some ((-1000001), M))
  else (
    (F_X7_isTread a2 M).bind fun q4 =>
    if q4 = 0 then (
      some ((-1000001), M))
    else (
      (F_X7_in a3.toInt64 1 9 M).bind fun q7 =>
      if q7 = 0 then (
        some ((-1000001), M))
      else (
        (F_X7_isWhat a4 M).bind fun q10 =>
        if q10 = 0 then (
          some ((-1000001), M))
        else (
          (F_X7_putAside M).bind fun q13 =>
          F_X7_rise_b53 z_fuel a1 a2 a3 a4 0 (-1000000) 1 q13))))
def F_X7_lacks (a1 : Int32) (a2 : Int32) (a3 : Int32) (M : z_M) : Option (Int32 × z_M) :=
  z_grd (z_in a1 8) <|
  if 0 ≤ (z_gi M 23 0 a1.toNatClampNeg) then (
    z_grd (z_in a1 8) <|
    (F_X7_in a2.toInt64 0 (((z_gi M 23 0 a1.toNatClampNeg) - a3).toInt64) M).bind fun q4 =>
    if q4 = 0 then (
      (F_X7_find (2 : Int32) M).bind fun q7 =>
      some (q7.1, q7.2))
    else (
      some (0, M)))
  else (
    (F_X7_find (1 : Int32) M).bind fun q9 =>
    some (q9.1, q9.2))
def F_X7_isSo_b44 (M : z_M) (K6 : Int32 → Int32 → Int32 → Int32 → Int32 → Int32 → Option Int32) (v1 : Int32) (v2 : Int32) (v3 : Int32) (v4 : Int32) (v6 : Int32) (s0 : Int32) : Option Int32 :=
  K6 v1 v2 v3 v4 s0 (v6 + 1)
def F_X7_isSo_b6 (M : z_M) : Nat → Int32 → Int32 → Int32 → Int32 → Int32 → Int32 → Option Int32
  | 0, _, _, _, _, _, _ => none
  | n + 1, v1, v2, v3, v4, v5, v6 =>
    if v4 ≤ v6 then (
      z_grd (v5 &&& 1 = v5) <|
      some v5)
    else (
      if v5 = 0 then (
        z_grd (v5 &&& 1 = v5) <|
        some v5)
      else (
        z_grd (z_in (v3 + v6) 320) <|
        (F_X7_heardAt v1 (v2 + v6) M).bind fun q6 =>
        if (z_gi M 24 0 (v3 + v6).toNatClampNeg) = q6 then (
          F_X7_isSo_b44 M (F_X7_isSo_b6 M n) v1 v2 v3 v4 v6 1)
        else (
          F_X7_isSo_b44 M (F_X7_isSo_b6 M n) v1 v2 v3 v4 v6 0)))
def F_X7_isSo (a1 : Int32) (a2 : Int32) (a3 : Int32) (a4 : Int32) (M : z_M) : Option Int32 :=
  F_X7_isSo_b6 M z_fuel a1 a2 a3 a4 1 0
def F_X7_fits_b53 (K14 : Int32 → Int32 → Int32 → Int32 → Int32 → Int32 → Int32 → Int32 → Int32 → z_M → Option (Int32 × z_M)) (v1 : Int32) (v3 : Int32) (v4 : Int32) (v5 : Int32) (v6 : Int32) (v7 : Int32) (v8 : Int32) (v10 : Int32) (s0 : Int32) (s1 : Int32) (M : z_M) : Option (Int32 × z_M) :=
  z_nmI (s1 ||| s0) fun x11 =>
  K14 v1 v3 v4 v5 v6 v7 v8 x11 (v10 + 1) M
def F_X7_fits_b14 : Nat → Int32 → Int32 → Int32 → Int32 → Int32 → Int32 → Int32 → Int32 → Int32 → z_M → Option (Int32 × z_M)
  | 0, _, _, _, _, _, _, _, _, _, _ => none
  | n + 1, v1, v3, v4, v5, v6, v7, v8, v9, v10, M =>
    if v3 < v10 then (
      z_grd (z_in v1 49) <|
      (F_X7_well v9 (z_si M 25 0 v1.toNatClampNeg v8)).bind fun q5 =>
      some (q5.1, q5.2))
    else (
      z_grd (z_in v1 49) <|
      (F_X7_isSo v4 v5 v6 v7 (z_si M 25 0 v1.toNatClampNeg v10)).bind fun q8 =>
      if q8 = 0 then (
        F_X7_fits_b53 (F_X7_fits_b14 n) v1 v3 v4 v5 v6 v7 v8 v10 0 v9 (z_si M 25 0 v1.toNatClampNeg v10))
      else (
        F_X7_fits_b53 (F_X7_fits_b14 n) v1 v3 v4 v5 v6 v7 v8 v10 ((1 : Int32) <<< (v10 &&& 31)) v9 (z_si M 25 0 v1.toNatClampNeg v10)))
def F_X7_fits (a1 : Int32) (a2 : Int32) (a3 : Int32) (a4 : Int32) (a5 : Int32) (a6 : Int32) (a7 : Int32) (M : z_M) : Option (Int32 × z_M) :=
  z_grd (z_in a1 49) <|
  z_nmI (z_gi M 25 0 a1.toNatClampNeg) fun x2 =>
  F_X7_fits_b14 z_fuel a1 a3 a4 a5 a6 a7 x2 0 a2 M
def F_X7_what (a1 : Int32) (a2 : Int32) (a3 : Int32) (a4 : Int32) (a5 : Int32) (a6 : Int32) (a7 : Int32) (M : z_M) : Option (Int32 × z_M) :=
  (F_X7_isTread a1 M).bind fun q1 =>
  if q1 = 0 then (
    some ((-1000001), M))
  else (
    (F_X7_in a2.toInt64 0 1 M).bind fun q4 =>
    if q4 = 0 then (
      some ((-1000001), M))
    else (
      (F_X7_isTread a3 M).bind fun q7 =>
      if q7 = 0 then (
        some ((-1000001), M))
      else (
        (F_X7_isMinute a4 M).bind fun q10 =>
        if q10 = 0 then (
          some ((-1000001), M))
        else (
          (F_X7_isRow a5 M).bind fun q13 =>
          if q13 = 0 then (
            some ((-1000001), M))
          else (
            (F_X7_in a7.toInt64 1 12 M).bind fun q16 =>
            if q16 = 0 then (
              some ((-1000001), M))
            else (
              (F_X7_lacks a5 a6 a7 M).bind fun q19 =>
              if 0 ≤ q19.1 then (
                z_nmI (((40 : Int32) * a5) + a6) fun x22 =>
                if a2 = 0 then (
                  (F_X7_fits ((5 : Int32) + a1) (1 : Int32) (5 : Int32) a3 a4 x22 a7 q19.2).bind fun q26 =>
                  some (q26.1, q26.2))
                else (
                  (F_X7_fits ((13 : Int32) + a1) (0 : Int32) (9 : Int32) a3 a4 x22 a7 q19.2).bind fun q24 =>
                  some (q24.1, q24.2)))
              else (
                some (q19.1, q19.2))))))))
def F_X7_who_b128 (v3 : Int32) (v4 : Int32) (v5 : Int32) (v6 : Int32) (v7 : Int32) (v9 : Int32) (s0 : Int32) (s1 : Int32) (M : z_M) : Option (Int32 × z_M) :=
  (F_X7_fits s1 s0 v9 v3 v4 (((40 : Int32) * v5) + v6) v7 M).bind fun q25 =>
  some (q25.1, q25.2)
def F_X7_who_b107 (v1 : Int32) (v2 : Int32) (v3 : Int32) (v4 : Int32) (v5 : Int32) (v6 : Int32) (v7 : Int32) (s0 : Int32) (M : z_M) : Option (Int32 × z_M) :=
  if v2 = (2 : Int32) then (
    F_X7_who_b128 v3 v4 v5 v6 v7 s0 1 (((29 : Int32) + ((5 : Int32) * v2)) + v1) M)
  else (
    F_X7_who_b128 v3 v4 v5 v6 v7 s0 0 (((29 : Int32) + ((5 : Int32) * v2)) + v1) M)
def F_X7_who (a1 : Int32) (a2 : Int32) (a3 : Int32) (a4 : Int32) (a5 : Int32) (a6 : Int32) (a7 : Int32) (M : z_M) : Option (Int32 × z_M) :=
  (F_X7_isWalker a1 M).bind fun q1 =>
  if q1 = 0 then (
    some ((-1000001), M))
  else (
    (F_X7_in a2.toInt64 0 3 M).bind fun q4 =>
    if q4 = 0 then (
      some ((-1000001), M))
    else (
      (F_X7_isTread a3 M).bind fun q7 =>
      if q7 = 0 then (
        some ((-1000001), M))
      else (
        (F_X7_isMinute a4 M).bind fun q10 =>
        if q10 = 0 then (
          some ((-1000001), M))
        else (
          (F_X7_isRow a5 M).bind fun q13 =>
          if q13 = 0 then (
            some ((-1000001), M))
          else (
            (F_X7_in a7.toInt64 1 12 M).bind fun q16 =>
            if q16 = 0 then (
              some ((-1000001), M))
            else (
              (F_X7_lacks a5 a6 a7 M).bind fun q19 =>
              if 0 ≤ q19.1 then (
                if (2 : Int32) ≤ a2 then (
                  if a2 = (2 : Int32) then (
                    F_X7_who_b107 a1 a2 a3 a4 a5 a6 a7 3 q19.2)
                  else (
                    F_X7_who_b107 a1 a2 a3 a4 a5 a6 a7 20 q19.2))
                else (
                  z_grd (z_in 0 49) <|
                  F_X7_who_b107 a1 a2 a3 a4 a5 a6 a7 ((z_gi q19.2 25 0 (0 : Int32).toNatClampNeg) - 1) q19.2))
              else (
                some (q19.1, q19.2))))))))
def F_X7_rots_b280 : Nat → Int32 → Int64 → Int64 → Int64 → Int64 → z_M → Option (Int64 × z_M)
  | 0, _, _, _, _, _, _ => none
  | n + 1, v4, v6, v8, v10, v12, M =>
    if (lg_cmp v12 0) = 0 then (
      if v4 = 0 then (
        z_grd (¬ v10 = 0) <|
        some (v8 / v10, M))
      else (
        z_grd (¬ v10 = 0) <|
        some (v6 / v10, M)))
    else (
      z_grd (¬ v12 = 0) <|
      z_nmL (v10 - v10 / v12 * v12) fun x23 =>
      (F_X7_rots_b280 n) v4 v6 v8 v12 x23 M)
def F_X7_rots_b266 (K131 : Int32 → Int32 → Int32 → Int32 → Int32 → Int64 → Int64 → Int32 → z_M → Option (Int64 × z_M)) (v1 : Int32) (v2 : Int32) (v3 : Int32) (v4 : Int32) (v5 : Int32) (v6 : Int64) (v8 : Int64) (v10 : Int32) (M : z_M) : Option (Int64 × z_M) :=
  K131 v1 v2 v3 v4 v5 v6 v8 (v10 + 1) M
def F_X7_rots_b259 (K131 : Int32 → Int32 → Int32 → Int32 → Int32 → Int64 → Int64 → Int32 → z_M → Option (Int64 × z_M)) (v1 : Int32) (v2 : Int32) (v3 : Int32) (v4 : Int32) (v5 : Int32) (v6 : Int64) (v10 : Int32) (s0 : Int64) (s1 : Int64) (M : z_M) : Option (Int64 × z_M) :=
  z_nmL (s1 + s0) fun x30 =>
  (F_X7_takeBack M).bind fun q31 =>
  F_X7_rots_b266 K131 v1 v2 v3 v4 v5 v6 x30 v10 q31
def F_X7_rots_b235 (K131 : Int32 → Int32 → Int32 → Int32 → Int32 → Int64 → Int64 → Int32 → z_M → Option (Int64 × z_M)) (K154 : Int32 → Int32 → Int32 → Int32 → Int32 → Int64 → Int64 → Int32 → Int64 → Int32 → z_M → Option (Int64 × z_M)) (v1 : Int32) (v2 : Int32) (v3 : Int32) (v4 : Int32) (v5 : Int32) (v6 : Int64) (v8 : Int64) (v10 : Int32) (v11 : Int64) (v13 : Int32) (s0 : Int32) (s1 : Int32) (M : z_M) : Option (Int64 × z_M) :=
  z_grd (z_in s1 49) <|
  K154 v1 v2 v3 v4 v5 v6 v8 v10 v11 (v13 + 1) (z_si M 25 0 s1.toNatClampNeg s0)
def F_X7_rots_b201 (K131 : Int32 → Int32 → Int32 → Int32 → Int32 → Int64 → Int64 → Int32 → z_M → Option (Int64 × z_M)) (K154 : Int32 → Int32 → Int32 → Int32 → Int32 → Int64 → Int64 → Int32 → Int64 → Int32 → z_M → Option (Int64 × z_M)) (v1 : Int32) (v2 : Int32) (v3 : Int32) (v4 : Int32) (v5 : Int32) (v6 : Int64) (v8 : Int64) (v10 : Int32) (v13 : Int32) (s0 : Int64) (s1 : Int64) (M : z_M) : Option (Int64 × z_M) :=
  z_nmL (s1 * s0) fun x39 =>
  (F_X7_has v10 v13 M).bind fun q40 =>
  if q40 = 0 then (
    z_grd (z_in ((5 : Int32) + v13) 49) <|
    F_X7_rots_b235 K131 K154 v1 v2 v3 v4 v5 v6 v8 v10 x39 v13 (z_gi M 25 0 ((5 : Int32) + v13).toNatClampNeg) ((5 : Int32) + v13) M)
  else (
    F_X7_rots_b235 K131 K154 v1 v2 v3 v4 v5 v6 v8 v10 x39 v13 4 ((5 : Int32) + v13) M)
def F_X7_rots_b154 (K131 : Int32 → Int32 → Int32 → Int32 → Int32 → Int64 → Int64 → Int32 → z_M → Option (Int64 × z_M)) : Nat → Int32 → Int32 → Int32 → Int32 → Int32 → Int64 → Int64 → Int32 → Int64 → Int32 → z_M → Option (Int64 × z_M)
  | 0, _, _, _, _, _, _, _, _, _, _, _ => none
  | n + 1, v1, v2, v3, v4, v5, v6, v8, v10, v11, v13, M =>
    z_grd (z_in 0 49) <|
    if (z_gi M 25 0 (0 : Int32).toNatClampNeg) ≤ v13 then (
      (F_X7_isHeard v1 v2 M).bind fun q27 =>
      if q27 = 0 then (
        F_X7_rots_b259 K131 v1 v2 v3 v4 v5 v6 v10 0 v8 M)
      else (
        F_X7_rots_b259 K131 v1 v2 v3 v4 v5 v6 v10 v11 v8 M))
    else (
      (F_X7_has v5 v13 M).bind fun q33 =>
      if q33 = 0 then (
        F_X7_rots_b201 K131 (F_X7_rots_b154 K131 n) v1 v2 v3 v4 v5 v6 v8 v10 v13 1 v11 M)
      else (
        (F_X7_has v10 v13 M).bind fun q36 =>
        if q36 = 0 then (
          F_X7_rots_b201 K131 (F_X7_rots_b154 K131 n) v1 v2 v3 v4 v5 v6 v8 v10 v13 (((10 : Int32) - v3).toInt64) v11 M)
        else (
          F_X7_rots_b201 K131 (F_X7_rots_b154 K131 n) v1 v2 v3 v4 v5 v6 v8 v10 v13 v3.toInt64 v11 M)))
def F_X7_rots_b131 : Nat → Int32 → Int32 → Int32 → Int32 → Int32 → Int64 → Int64 → Int32 → z_M → Option (Int64 × z_M)
  | 0, _, _, _, _, _, _, _, _, _ => none
  | n + 1, v1, v2, v3, v4, v5, v6, v8, v10, M =>
    if v5 < v10 then (
      F_X7_rots_b280 z_fuel v4 v6 v8 v8 v6 M)
    else (
      if (v10 &&& (v5 ^^^ (-1))) = 0 then (
        F_X7_rots_b154 (F_X7_rots_b131 n) z_fuel v1 v2 v3 v4 v5 v6 v8 v10 1 0 M)
      else (
        F_X7_rots_b266 (F_X7_rots_b131 n) v1 v2 v3 v4 v5 v6 v8 v10 M))
def F_X7_rots_b116 (K53 : Int32 → Int32 → Int32 → Int32 → Int32 → Int64 → Int32 → z_M → Option (Int64 × z_M)) (v1 : Int32) (v2 : Int32) (v3 : Int32) (v4 : Int32) (v5 : Int32) (v8 : Int32) (s0 : Int64) (s1 : Int64) (M : z_M) : Option (Int64 × z_M) :=
  z_nmL (s1 * s0) fun x50 =>
  K53 v1 v2 v3 v4 v5 x50 (v8 + 1) M
def F_X7_rots_b99 (K53 : Int32 → Int32 → Int32 → Int32 → Int32 → Int64 → Int32 → z_M → Option (Int64 × z_M)) (v1 : Int32) (v2 : Int32) (v3 : Int32) (v4 : Int32) (v6 : Int64) (v8 : Int32) (v9 : Int32) (s0 : Int32) (s1 : Int32) (M : z_M) : Option (Int64 × z_M) :=
  z_nmI (s1 ||| s0) fun x48 =>
  if v9 = 0 then (
    F_X7_rots_b116 K53 v1 v2 v3 v4 x48 v8 1 v6 M)
  else (
    F_X7_rots_b116 K53 v1 v2 v3 v4 x48 v8 10 v6 M)
def F_X7_rots_b82 (K53 : Int32 → Int32 → Int32 → Int32 → Int32 → Int64 → Int32 → z_M → Option (Int64 × z_M)) (v1 : Int32) (v2 : Int32) (v3 : Int32) (v4 : Int32) (v5 : Int32) (v6 : Int64) (v8 : Int32) (s0 : Int32) (M : z_M) : Option (Int64 × z_M) :=
  if s0 = 0 then (
    F_X7_rots_b99 K53 v1 v2 v3 v4 v6 v8 s0 0 v5 M)
  else (
    F_X7_rots_b99 K53 v1 v2 v3 v4 v6 v8 s0 ((1 : Int32) <<< (v8 &&& 31)) v5 M)
def F_X7_rots_b53 : Nat → Int32 → Int32 → Int32 → Int32 → Int32 → Int64 → Int32 → z_M → Option (Int64 × z_M)
  | 0, _, _, _, _, _, _, _, _ => none
  | n + 1, v1, v2, v3, v4, v5, v6, v8, M =>
    z_grd (z_in 0 49) <|
    if (z_gi M 25 0 (0 : Int32).toNatClampNeg) ≤ v8 then (
      F_X7_rots_b131 z_fuel v1 v2 v3 v4 v5 v6 0 0 M)
    else (
      z_grd (z_in ((5 : Int32) + v8) 49) <|
      if (4 : Int32) ≤ (z_gi M 25 0 ((5 : Int32) + v8).toNatClampNeg) then (
        F_X7_rots_b82 (F_X7_rots_b53 n) v1 v2 v3 v4 v5 v6 v8 0 M)
      else (
        F_X7_rots_b82 (F_X7_rots_b53 n) v1 v2 v3 v4 v5 v6 v8 1 M))
def F_X7_rots (a1 : Int32) (a2 : Int32) (a3 : Int32) (a4 : Int32) (M : z_M) : Option (Int64 × z_M) :=
  (F_X7_isWalker a1 M).bind fun q1 =>
  if q1 = 0 then (
    some ((-1000001), M))
  else (
    (F_X7_isTread a2 M).bind fun q4 =>
    if q4 = 0 then (
      some ((-1000001), M))
    else (
      (F_X7_in a3.toInt64 0 10 M).bind fun q7 =>
      if q7 = 0 then (
        some ((-1000001), M))
      else (
        (F_X7_isWhat a4 M).bind fun q10 =>
        if q10 = 0 then (
          some ((-1000001), M))
        else (
          (F_X7_putAside M).bind fun q13 =>
          F_X7_rots_b53 z_fuel a1 a2 a3 a4 0 1 0 q13))))
def F_X7_soundsMany_b42 (M : z_M) (K4 : Int32 → Int32 → Option Int32) (K16 : Int32 → Int32 → Int32 → Option Int32) (v2 : Int32) (v3 : Int32) (s0 : Int32) (s1 : Int32) : Option Int32 :=
  z_nmI (s1 + s0) fun x9 =>
  K16 x9 v2 (v3 + 1)
def F_X7_soundsMany_b16 (M : z_M) (K4 : Int32 → Int32 → Option Int32) : Nat → Int32 → Int32 → Int32 → Option Int32
  | 0, _, _, _ => none
  | n + 1, v1, v2, v3 =>
    (F_X7_longOf v2 M).bind fun q3 =>
    if q3 ≤ v3 then (
      K4 v1 (v2 + 1))
    else (
      (F_X7_tuneOf v2 v3 M).bind fun q6 =>
      if (10 : Int32) ≤ q6 then (
        F_X7_soundsMany_b42 M K4 (F_X7_soundsMany_b16 M K4 n) v2 v3 0 v1)
      else (
        F_X7_soundsMany_b42 M K4 (F_X7_soundsMany_b16 M K4 n) v2 v3 1 v1))
def F_X7_soundsMany_b4 (M : z_M) : Nat → Int32 → Int32 → Option Int32
  | 0, _, _ => none
  | n + 1, v1, v2 =>
    z_grd (z_in 1 49) <|
    if (z_gi M 25 0 (1 : Int32).toNatClampNeg) ≤ v2 then (
      some v1)
    else (
      F_X7_soundsMany_b16 M (F_X7_soundsMany_b4 M n) z_fuel v1 v2 0)
def F_X7_soundsMany (M : z_M) : Option Int32 :=
  F_X7_soundsMany_b4 M z_fuel 0 0
def F_X7_allTones_b4 (M : z_M) : Nat → Int32 → Int32 → Option Int32
  | 0, _, _ => none
  | n + 1, v1, v2 =>
    z_grd (z_in 0 49) <|
    if (z_gi M 25 0 (0 : Int32).toNatClampNeg) ≤ v2 then (
      some v1)
    else (
      (F_X7_toneOf v2 M).bind fun q3 =>
      z_nmI (v1 + q3) fun x5 =>
      (F_X7_allTones_b4 M n) x5 (v2 + 1))
def F_X7_allTones (M : z_M) : Option Int32 :=
  F_X7_allTones_b4 M z_fuel 0 0
def F_X7_drawn_b178 (s0 : Int32) (M : z_M) : Option (Int32 × z_M) :=
  (F_X7_takeBack M).bind fun q18 =>
  some (s0, q18)
def F_X7_drawn_b146 (K58 : Int32 → Int32 → Int64 → Int32 → Int32 → z_M → Option (Int32 × z_M)) (v1 : Int32) (v3 : Int32) (v4 : Int64) (v6 : Int32) (v7 : Int32) (M : z_M) : Option (Int32 × z_M) :=
  (F_X7_soundsMany M).bind fun q23 =>
  z_nmI (v6 + q23) fun x25 =>
  (F_X7_oneDay M).bind fun q26 =>
  K58 v1 v3 v4 x25 (v7 + 1) q26
def F_X7_drawn_b109 (K58 : Int32 → Int32 → Int64 → Int32 → Int32 → z_M → Option (Int32 × z_M)) (v1 : Int32) (v3 : Int32) (v4 : Int64) (v6 : Int32) (v7 : Int32) (M : z_M) : Option (Int32 × z_M) :=
  if (lg_cmp (v4 - v4 / 4 * 4) 0) = 0 then (
    z_grd (z_in 1 49) <|
    z_grd (¬ ((z_gi M 25 0 (1 : Int32).toNatClampNeg).toInt64) = 0) <|
    z_grd (z_in ((44 : Int32) + ((v4 - v4 / ((z_gi M 25 0 (1 : Int32).toNatClampNeg).toInt64) * ((z_gi M 25 0 (1 : Int32).toNatClampNeg).toInt64)).toInt32)) 49) <|
    F_X7_drawn_b146 K58 v1 v3 v4 v6 v7 (z_si M 25 0 ((44 : Int32) + ((v4 - v4 / ((z_gi M 25 0 (1 : Int32).toNatClampNeg).toInt64) * ((z_gi M 25 0 (1 : Int32).toNatClampNeg).toInt64)).toInt32)).toNatClampNeg ((v4 - v4 / 21 * 21).toInt32)))
  else (
    F_X7_drawn_b146 K58 v1 v3 v4 v6 v7 M)
def F_X7_drawn_b58 : Nat → Int32 → Int32 → Int64 → Int32 → Int32 → z_M → Option (Int32 × z_M)
  | 0, _, _, _, _, _, _ => none
  | n + 1, v1, v3, v4, v6, v7, M =>
    if v1 ≤ v7 then (
      if v3 = 0 then (
        F_X7_drawn_b178 v6 M)
      else (
        (F_X7_allTones M).bind fun q16 =>
        F_X7_drawn_b178 q16 M))
    else (
      z_nmL ((v4 * 16807) - (v4 * 16807) / 2147483647 * 2147483647) fun x20 =>
      if (lg_cmp (x20 - x20 / 3 * 3) 0) = 0 then (
        z_grd (z_in 0 49) <|
        z_grd (¬ ((z_gi M 25 0 (0 : Int32).toNatClampNeg).toInt64) = 0) <|
        (F_X7_planeTo ((x20 - x20 / ((z_gi M 25 0 (0 : Int32).toNatClampNeg).toInt64) * ((z_gi M 25 0 (0 : Int32).toNatClampNeg).toInt64)).toInt32) ((x20 - x20 / 10 * 10).toInt32) M).bind fun q33 =>
        F_X7_drawn_b109 (F_X7_drawn_b58 n) v1 v3 x20 v6 v7 q33)
      else (
        F_X7_drawn_b109 (F_X7_drawn_b58 n) v1 v3 x20 v6 v7 M))
def F_X7_drawn (a1 : Int32) (a2 : Int32) (a3 : Int32) (M : z_M) : Option (Int32 × z_M) :=
  if (z_gi M 21 0 4) = 0 then (
    some ((-1000002), M))
  else (
    (F_X7_in a1.toInt64 0 60 M).bind fun q2 =>
    if q2 = 0 then (
      some ((-1000001), M))
    else (
      (F_X7_in a2.toInt64 1 999999 M).bind fun q5 =>
      if q5 = 0 then (
        some ((-1000001), M))
      else (
        (F_X7_isWhat a3 M).bind fun q8 =>
        if q8 = 0 then (
          some ((-1000001), M))
        else (
          (F_X7_putAside M).bind fun q11 =>
          z_nmL (a2.toInt64) fun x13 =>
          F_X7_drawn_b58 z_fuel a1 a3 x13 0 0 q11))))
def F_X7_image_b25 : Nat → Int32 → Int32 → z_M → Option (Int32 × z_M)
  | 0, _, _, _ => none
  | n + 1, v1, v2, M =>
    if (49 : Int32) ≤ v2 then (
      z_grd (z_in v1 2) <|
      some (1, z_si M 31 0 v1.toNatClampNeg 1))
    else (
      z_grd (z_in v2 49) <|
      z_grd (z_in (((49 : Int32) * v1) + v2) 98) <|
      (F_X7_image_b25 n) v1 (v2 + 1) (z_si M 32 0 (((49 : Int32) * v1) + v2).toNatClampNeg (z_gi M 25 0 v2.toNatClampNeg)))
def F_X7_image (a1 : Int32) (M : z_M) : Option (Int32 × z_M) :=
  (F_X7_in a1.toInt64 0 1 M).bind fun q1 =>
  if q1 = 0 then (
    some ((-1000001), M))
  else (
    if (z_gi M 21 0 4) = 0 then (
      some ((-1000002), M))
    else (
      F_X7_image_b25 z_fuel a1 0 M))
def F_X7_restore_b27 : Nat → Int32 → Int32 → z_M → Option (Int32 × z_M)
  | 0, _, _, _ => none
  | n + 1, v1, v2, M =>
    if (49 : Int32) ≤ v2 then (
      some (1, z_si M 21 0 17 0))
    else (
      z_grd (z_in (((49 : Int32) * v1) + v2) 98) <|
      z_grd (z_in v2 49) <|
      (F_X7_restore_b27 n) v1 (v2 + 1) (z_si M 25 0 v2.toNatClampNeg (z_gi M 32 0 (((49 : Int32) * v1) + v2).toNatClampNeg)))
def F_X7_restore (a1 : Int32) (M : z_M) : Option (Int32 × z_M) :=
  (F_X7_in a1.toInt64 0 1 M).bind fun q1 =>
  if q1 = 0 then (
    some ((-1000001), M))
  else (
    z_grd (z_in a1 2) <|
    if (z_gi M 31 0 a1.toNatClampNeg) = 0 then (
      some ((-1000002), M))
    else (
      F_X7_restore_b27 z_fuel a1 0 M))
def F_X7_kind (a1 : Int32) (M : z_M) : Option Int32 :=
  (F_X7_isTread a1 M).bind fun q1 =>
  if q1 = 0 then (
    some (-1000001))
  else (
    z_grd (z_in ((5 : Int32) + a1) 49) <|
    some (z_gi M 25 0 ((5 : Int32) + a1).toNatClampNeg))
def F_X7_isKind_b29 (M : z_M) : Option Int32 :=
  some 1
def F_X7_isKind_b19 (M : z_M) (v0 : Int32) (v1 : Int32) : Option Int32 :=
  if v1 = (4 : Int32) then (
    if v0 = (5 : Int32) then (
      F_X7_isKind_b29 M)
    else (
      some 0))
  else (
    some 0)
def F_X7_isKind (a1 : Int32) (a2 : Int32) (M : z_M) : Option Int32 :=
  if a2 = 0 then (
    F_X7_isKind_b29 M)
  else (
    if a1 = a2 then (
      F_X7_isKind_b29 M)
    else (
      if a2 = (1 : Int32) then (
        if a1 < (4 : Int32) then (
          F_X7_isKind_b29 M)
        else (
          F_X7_isKind_b19 M a1 a2))
      else (
        F_X7_isKind_b19 M a1 a2)))
def F_X7_as (a1 : Int32) (a2 : Int32) (M : z_M) : Option (Int32 × z_M) :=
  (F_X7_isTread a1 M).bind fun q1 =>
  if q1 = 0 then (
    some ((-1000001), M))
  else (
    (F_X7_in a2.toInt64 0 5 M).bind fun q4 =>
    if q4 = 0 then (
      some ((-1000001), M))
    else (
      z_grd (z_in ((5 : Int32) + a1) 49) <|
      (F_X7_isKind (z_gi M 25 0 ((5 : Int32) + a1).toNatClampNeg) a2 M).bind fun q8 =>
      if q8 = 0 then (
        (F_X7_find (3 : Int32) M).bind fun q11 =>
        some (q11.1, q11.2))
      else (
        (F_X7_well a1 M).bind fun q13 =>
        some (q13.1, q13.2))))
def F_X7_begin (a1 : Int32) (M : z_M) : Option z_M :=
  if (16 : Int32) ≤ (z_gi M 21 0 23) then (
    some M)
  else (
    z_grd (z_in (z_gi M 21 0 23) 16) <|
    z_nmM (z_si M 33 0 (z_gi M 21 0 23).toNatClampNeg a1) fun M3 =>
    some (z_si M3 21 0 23 ((z_gi M3 21 0 23) + 1)))
def F_X7_lent (a1 : Int32) (a2 : Int32) (M : z_M) : Option (Int32 × z_M) :=
  (F_X7_begin a2 M).bind fun q1 =>
  if a2 = (10 : Int32) then (
    z_grd (z_in ((13 : Int32) + a1) 49) <|
    some (z_gi q1 25 0 ((13 : Int32) + a1).toNatClampNeg, q1))
  else (
    some (a1, q1))
def F_X7_plainMark (a1 : Int32) (M : z_M) : Option (Int32 × z_M) :=
  (F_X7_begin (21 : Int32) M).bind fun q1 =>
  (F_X7_lent a1 (20 : Int32) q1).bind fun q3 =>
  z_grd (z_in ((21 : Int32) + a1) 49) <|
  some (q3.1 + (z_gi q3.2 25 0 ((21 : Int32) + a1).toNatClampNeg), q3.2)
def F_X7_rottenSize (a1 : Int32) (M : z_M) : Option (Int32 × z_M) :=
  (F_X7_begin (13 : Int32) M).bind fun q1 =>
  (F_X7_lent a1 (10 : Int32) q1).bind fun q3 =>
  some (q3.1 - 100, q3.2)
def F_X7_sizeOfRotten (a1 : Int32) (M : z_M) : Option (Int32 × z_M) :=
  z_grd (z_in ((5 : Int32) + a1) 49) <|
  if (z_gi M 25 0 ((5 : Int32) + a1).toNatClampNeg) = (5 : Int32) then (
    (F_X7_begin (14 : Int32) M).bind fun q5 =>
    (F_X7_rottenSize a1 q5).bind fun q7 =>
    some ((2 : Int32) * q7.1, q7.2))
  else (
    (F_X7_rottenSize a1 M).bind fun q3 =>
    some (q3.1, q3.2))
def F_X7_markOf (a1 : Int32) (M : z_M) : Option (Int32 × z_M) :=
  z_grd (z_in ((5 : Int32) + a1) 49) <|
  z_nmI (z_gi M 25 0 ((5 : Int32) + a1).toNatClampNeg) fun x2 =>
  if x2 = (2 : Int32) then (
    (F_X7_begin (24 : Int32) M).bind fun q18 =>
    (F_X7_plainMark a1 q18).bind fun q20 =>
    some ((2 : Int32) * q20.1, q20.2))
  else (
    if x2 = (3 : Int32) then (
      (F_X7_begin (22 : Int32) M).bind fun q14 =>
      (F_X7_plainMark a1 q14).bind fun q16 =>
      some (q16.1 - 1000, q16.2))
    else (
      if x2 = (1 : Int32) then (
        (F_X7_plainMark a1 M).bind fun q12 =>
        some (q12.1, q12.2))
      else (
        (F_X7_begin (23 : Int32) M).bind fun q6 =>
        (F_X7_lent a1 (20 : Int32) q6).bind fun q8 =>
        (F_X7_sizeOfRotten a1 q8.2).bind fun q10 =>
        some (q8.1 - q10.1, q10.2))))
def F_X7_plainSize (a1 : Int32) (M : z_M) : Option (Int32 × z_M) :=
  (F_X7_begin (11 : Int32) M).bind fun q1 =>
  (F_X7_lent a1 (10 : Int32) q1).bind fun q3 =>
  (F_X7_markOf a1 q3.2).bind fun q5 =>
  some (q3.1 + q5.1, q5.2)
def F_X7_sizeOf (a1 : Int32) (M : z_M) : Option (Int32 × z_M) :=
  z_grd (z_in ((5 : Int32) + a1) 49) <|
  z_nmI (z_gi M 25 0 ((5 : Int32) + a1).toNatClampNeg) fun x2 =>
  if x2 = (2 : Int32) then (
    (F_X7_begin (12 : Int32) M).bind fun q9 =>
    (F_X7_plainSize a1 q9).bind fun q11 =>
    some (-q11.1, q11.2))
  else (
    if x2 < (4 : Int32) then (
      (F_X7_plainSize a1 M).bind fun q5 =>
      some (q5.1, q5.2))
    else (
      (F_X7_sizeOfRotten a1 M).bind fun q7 =>
      some (q7.1, q7.2)))
def F_X7_ask (a1 : Int32) (a2 : Int32) (M : z_M) : Option (Int32 × z_M) :=
  (F_X7_isTread a1 M).bind fun q1 =>
  if q1 = 0 then (
    some ((-1000001), M))
  else (
    (F_X7_in a2.toInt64 0 1 M).bind fun q4 =>
    if q4 = 0 then (
      some ((-1000001), M))
    else (
      if a2 = 0 then (
        (F_X7_sizeOf a1 (z_si M 21 0 23 0)).bind fun q10 =>
        some (q10.1, q10.2))
      else (
        (F_X7_markOf a1 (z_si M 21 0 23 0)).bind fun q8 =>
        some (q8.1, q8.2))))
def F_X7_trace (a1 : Int32) (M : z_M) : Option Int32 :=
  (F_X7_in a1.toInt64 0 (((z_gi M 21 0 23) - 1).toInt64) M).bind fun q1 =>
  if q1 = 0 then (
    some (-1000000))
  else (
    z_grd (z_in a1 16) <|
    some (z_gi M 33 0 a1.toNatClampNeg))
def F_X7_count_b25 (M : z_M) (K4 : Int32 → Int32 → Int32 → Option Int32) (v1 : Int32) (v3 : Int32) (s0 : Int32) (s1 : Int32) : Option Int32 :=
  z_nmI (s1 + s0) fun x19 =>
  K4 v1 x19 (v3 + 1)
def F_X7_count_b4 (M : z_M) : Nat → Int32 → Int32 → Int32 → Option Int32
  | 0, _, _, _ => none
  | n + 1, v1, v2, v3 =>
    if (8 : Int32) ≤ v3 then (
      if v1 = 0 then (
        some v2)
      else if v1 = 1 then (
        z_grd (z_in 0 49) <|
        some (z_gi M 25 0 (0 : Int32).toNatClampNeg))
      else if v1 = 2 then (
        z_grd (z_in 1 49) <|
        some (z_gi M 25 0 (1 : Int32).toNatClampNeg))
      else if v1 = 3 then (
        z_grd (z_in 4 49) <|
        some (z_gi M 25 0 (4 : Int32).toNatClampNeg))
      else if v1 = 4 then (
        (F_X7_isWet M).bind fun q10 =>
        if q10 = 0 then (
          some 0)
        else (
          some 1))
      else if v1 = 5 then (
        z_grd (z_in 3 49) <|
        some (z_gi M 25 0 (3 : Int32).toNatClampNeg))
      else if v1 = 6 then (
        some (z_gi M 21 0 17))
      else if v1 = 7 then (
        some (z_gi M 21 0 8))
      else (
        some (-1000001)))
    else (
      z_grd (z_in v3 8) <|
      if (z_gi M 23 0 v3.toNatClampNeg) < 0 then (
        F_X7_count_b25 M (F_X7_count_b4 M n) v1 v3 0 v2)
      else (
        F_X7_count_b25 M (F_X7_count_b4 M n) v1 v3 1 v2))
def F_X7_count (a1 : Int32) (M : z_M) : Option Int32 :=
  F_X7_count_b4 M z_fuel a1 0 0
def F_X7_status (M : z_M) : Option Int32 :=
  some (z_gi M 21 0 3)
