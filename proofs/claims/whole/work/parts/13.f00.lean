def FU : Nat := 5000

noncomputable def F_X3_put (m : Mem) (a1 : Int32) : Option (Bool × Mem) :=
  if (Int32.ofNat 160) ≤ (mD m 2 6) then
    some (true, m)
  else
    gIf (vp_in (mD m 2 6) 160) <|
    nm (wD m 4 (mD m 2 6).toNatClampNeg a1) fun m3 =>
    nm (wD m3 2 6 ((mD m3 2 6) + (1 : Int32))) fun m4 =>
    some (true, m4)
noncomputable def F_X3_levelOf (m : Mem) (a0 : Int32) : Option (Int32 × Mem) :=
  if a0 = (-17 : Int32) then
    some ((4 : Int32), m)
  else
    if a0 = (-16 : Int32) then
      some ((3 : Int32), m)
    else
      if a0 = (-15 : Int32) then
        some ((3 : Int32), m)
      else
        if a0 = (-14 : Int32) then
          some ((2 : Int32), m)
        else
          if a0 = (-13 : Int32) then
            some ((2 : Int32), m)
          else
            if a0 = (-12 : Int32) then
              some ((-1 : Int32), m)
            else
              if a0 = (-11 : Int32) then
                some ((1 : Int32), m)
              else
                if a0 = (-10 : Int32) then
                  some ((0 : Int32), m)
                else
                  some ((-1 : Int32), m)
noncomputable def F_X5_isBetween (m : Mem) (a0 : Int32) (a1 : Int32) (a2 : Int32) : Option (Bool × Mem) :=
  if a0 < a1 then
    some (false, m)
  else
    if a2 < a0 then
      some (false, m)
    else
      some (true, m)
noncomputable def F_X3_sign (m : Mem) (a0 : Int32) : Option (Int32 × Mem) :=
  if a0 = (40 : Int32) then
    some ((-19 : Int32), m)
  else
    if a0 = (41 : Int32) then
      some ((-20 : Int32), m)
    else
      if a0 = (42 : Int32) then
        some ((-17 : Int32), m)
      else
        if a0 = (43 : Int32) then
          some ((-15 : Int32), m)
        else
          if a0 = (44 : Int32) then
            some ((-23 : Int32), m)
          else
            if a0 = (45 : Int32) then
              some ((-16 : Int32), m)
            else
              if a0 = (46 : Int32) then
                some ((-23 : Int32), m)
              else
                if a0 = (47 : Int32) then
                  some ((-23 : Int32), m)
                else
                  if a0 = (48 : Int32) then
                    some ((-23 : Int32), m)
                  else
                    if a0 = (49 : Int32) then
                      some ((-23 : Int32), m)
                    else
                      if a0 = (50 : Int32) then
                        some ((-23 : Int32), m)
                      else
                        if a0 = (51 : Int32) then
                          some ((-23 : Int32), m)
                        else
                          if a0 = (52 : Int32) then
                            some ((-23 : Int32), m)
                          else
                            if a0 = (53 : Int32) then
                              some ((-23 : Int32), m)
                            else
                              if a0 = (54 : Int32) then
                                some ((-23 : Int32), m)
                              else
                                if a0 = (55 : Int32) then
                                  some ((-23 : Int32), m)
                                else
                                  if a0 = (56 : Int32) then
                                    some ((-23 : Int32), m)
                                  else
                                    if a0 = (57 : Int32) then
                                      some ((-23 : Int32), m)
                                    else
                                      if a0 = (58 : Int32) then
                                        some ((-23 : Int32), m)
                                      else
                                        if a0 = (59 : Int32) then
                                          some ((-21 : Int32), m)
                                        else
                                          if a0 = (60 : Int32) then
                                            some ((-13 : Int32), m)
                                          else
                                            if a0 = (61 : Int32) then
                                              some ((-14 : Int32), m)
                                            else
                                              some ((-23 : Int32), m)
noncomputable def F_X3_goBehindAll_5 : Nat → Mem → Int32 → Int32 → Int32 → Option (Unit × Mem)
  | 0 => fun m a1 a2 a3 => none
  | n + 1 => fun m a1 a2 a3 =>
    if (mD m 2 1) ≤ a3 then
      some ((), m)
    else
      gIf (vp_in a3 160) <|
      if (mD m 3 a3.toNatClampNeg) < a1 then
        some ((), m)
      else
        gIf (vp_in a3 160) <|
        if a2 < (mD m 3 a3.toNatClampNeg) then
          some ((), m)
        else
          nm (wD m 2 4 (a3 + (1 : Int32))) fun m7 =>
          F_X3_goBehindAll_5 n m7 a1 a2 (a3 + (1 : Int32))
noncomputable def F_X3_goBehindAll (m : Mem) (a1 : Int32) (a2 : Int32) : Option (Unit × Mem) :=
  nm (mD m 2 3) fun x1 =>
  F_X3_goBehindAll_5 FU m a1 a2 x1
noncomputable def F_X3_number_23 : Nat → Mem → Int32 → Int32 → Option (Int32 × Mem)
  | 0 => fun m a1 a2 => none
  | n + 1 => fun m a1 a2 =>
    if (mD m 2 4) ≤ a2 then
      some (a1, m)
    else
      gIf (vp_in a2 160) <|
      nm (((a1 * (10 : Int32)) + (mD m 3 a2.toNatClampNeg)) - (48 : Int32)) fun x5 =>
      F_X3_number_23 n m x5 (a2 + (1 : Int32))
noncomputable def F_X3_number (m : Mem) : Option (Int32 × Mem) :=
  if ((mD m 2 4) - (mD m 2 3)) ≤ (4 : Int32) then
    nm (mD m 2 3) fun x2 =>
    F_X3_number_23 FU m (0 : Int32) x2
  else
    some ((-23 : Int32), m)
noncomputable def F_X3_word_97 (K12 : Mem → Int32 → Int32 → Int32 → Int32 → Option (Int32 × Mem)) (m : Mem) (a1 : Int32) (a2 : Int32) (a3 : Int32) (a4 : Int32) : Option (Int32 × Mem) :=
  K12 m a1 a2 a3 (a4 + (1 : Int32))
noncomputable def F_X3_word_87 (K12 : Mem → Int32 → Int32 → Int32 → Int32 → Option (Int32 × Mem)) (m : Mem) (a1 : Int32) (a4 : Int32) : Option (Int32 × Mem) :=
  nm (mD m 2 3) fun x12 =>
  F_X3_word_97 K12 m (a1 + (-1 : Int32)) x12 (1 : Int32) a4
noncomputable def F_X3_word_66 (K12 : Mem → Int32 → Int32 → Int32 → Int32 → Option (Int32 × Mem)) (m : Mem) (a1 : Int32) (a2 : Int32) (a4 : Int32) (s0 : Int32) : Option (Int32 × Mem) :=
  F_X3_word_97 K12 m a1 (a2 + (1 : Int32)) s0 a4
noncomputable def F_X3_word_65 (K12 : Mem → Int32 → Int32 → Int32 → Int32 → Option (Int32 × Mem)) (m : Mem) (a1 : Int32) (a2 : Int32) (a4 : Int32) : Option (Int32 × Mem) :=
  F_X3_word_66 K12 m a1 a2 a4 (0 : Int32)
noncomputable def F_X3_word_12 : Nat → Mem → Int32 → Int32 → Int32 → Int32 → Option (Int32 × Mem)
  | 0 => fun m a1 a2 a3 a4 => none
  | n + 1 => fun m a1 a2 a3 a4 =>
    if (63 : Int32) ≤ a4 then
      some ((-23 : Int32), m)
    else
      gIf (vp_in a4 63) <|
      nm (sch 1 a4.toNatClampNeg) fun x4 =>
      if x4 = (32 : Int32) then
        if a3 = 0 then
          F_X3_word_87 (F_X3_word_12 n) m a1 a4
        else
          if a2 = (mD m 2 4) then
            some (a1, m)
          else
            F_X3_word_87 (F_X3_word_12 n) m a1 a4
      else
        if a3 = 0 then
          F_X3_word_65 (F_X3_word_12 n) m a1 a2 a4
        else
          if (mD m 2 4) ≤ a2 then
            F_X3_word_65 (F_X3_word_12 n) m a1 a2 a4
          else
            gIf (vp_in a2 160) <|
            if (mD m 3 a2.toNatClampNeg) = x4 then
              F_X3_word_66 (F_X3_word_12 n) m a1 a2 a4 (1 : Int32)
            else
              F_X3_word_65 (F_X3_word_12 n) m a1 a2 a4
noncomputable def F_X3_word (m : Mem) : Option (Int32 × Mem) :=
  nm (mD m 2 3) fun x1 =>
  F_X3_word_12 FU m (-1 : Int32) x1 (1 : Int32) (0 : Int32)
noncomputable def F_X3_advance_37 (K7 : Mem → Int32 → Int32 → Option (Bool × Mem)) (m : Mem) (a2 : Int32) : Option (Bool × Mem) :=
  nm (a2 + (1 : Int32)) fun x7 =>
  K7 m x7 (a2 + (1 : Int32))
noncomputable def F_X3_advance_47 (m : Mem) (a1 : Int32) : Option (Bool × Mem) :=
  nm (wD m 2 3 a1) fun m8 =>
  if a1 < (mD m8 2 1) then
    gIf (vp_in a1 160) <|
    bnd (F_X5_isBetween m8 (mD m8 3 a1.toNatClampNeg) (97 : Int32) (122 : Int32)) fun v11 m12 =>
    if (bz v11) = 0 then
      gIf (vp_in a1 160) <|
      bnd (F_X5_isBetween m12 (mD m12 3 a1.toNatClampNeg) (48 : Int32) (57 : Int32)) fun v17 m18 =>
      if (bz v17) = 0 then
        gIf (vp_in a1 160) <|
        bnd (F_X3_sign m18 (mD m18 3 a1.toNatClampNeg)) fun v23 m24 =>
        nm (wD m24 2 2 v23) fun m27 =>
        nm (wD m27 2 4 (a1 + (1 : Int32))) fun m28 =>
        some (true, m28)
      else
        bnd (F_X3_goBehindAll m18 (48 : Int32) (57 : Int32)) fun v29 m30 =>
        bnd (F_X3_number m30) fun v33 m34 =>
        nm (wD m34 2 2 v33) fun m37 =>
        some (true, m37)
    else
      bnd (F_X3_goBehindAll m12 (97 : Int32) (122 : Int32)) fun v38 m39 =>
      bnd (F_X3_word m39) fun v42 m43 =>
      nm (wD m43 2 2 v42) fun m46 =>
      some (true, m46)
  else
    nm (wD m8 2 2 (-22 : Int32)) fun m47 =>
    some (true, m47)
noncomputable def F_X3_advance_7 : Nat → Mem → Int32 → Int32 → Option (Bool × Mem)
  | 0 => fun m a1 a2 => none
  | n + 1 => fun m a1 a2 =>
    if (mD m 2 1) ≤ a2 then
      F_X3_advance_47 m a1
    else
      gIf (vp_in a2 160) <|
      if (mD m 3 a2.toNatClampNeg) = (32 : Int32) then
        F_X3_advance_37 (F_X3_advance_7 n) m a2
      else
        gIf (vp_in a2 160) <|
        if (mD m 3 a2.toNatClampNeg) = (10 : Int32) then
          F_X3_advance_37 (F_X3_advance_7 n) m a2
        else
          F_X3_advance_47 m a1
noncomputable def F_X3_advance (m : Mem) : Option (Bool × Mem) :=
  nm (mD m 2 4) fun x1 =>
  F_X3_advance_7 FU m x1 x1
noncomputable def F_X0_init (m : Mem) (c0 : Nat) : Option (Unit × Mem) :=
  some ((), m)
noncomputable def F_X0_come (m : Mem) (c0 : Nat) (a1 : Int32) (a2 : Int32) (a3 : Int32) : Option (Unit × Mem) :=
  nm (wD m c0 0 a1) fun m1 =>
  nm (wD m1 c0 1 a2) fun m2 =>
  nm (wD m2 c0 2 a3) fun m3 =>
  nm (wD m3 c0 3 (0 : Int32)) fun m4 =>
  nm (wD m4 c0 4 (0 : Int32)) fun m5 =>
  nm (wD m5 c0 5 (0 : Int32)) fun m6 =>
  some ((), m6)
noncomputable def F_X0_become (m : Mem) (c0 : Nat) (c1 : Nat) : Option (Unit × Mem) :=
  nm (wD m c0 0 (mD m c1 0)) fun m1 =>
  nm (wD m1 c0 1 (mD m1 c1 1)) fun m2 =>
  nm (wD m2 c0 2 (mD m2 c1 2)) fun m3 =>
  nm (wD m3 c0 3 (mD m3 c1 3)) fun m4 =>
  nm (wD m4 c0 4 (mD m4 c1 4)) fun m5 =>
  nm (wD m5 c0 5 (mD m5 c1 5)) fun m6 =>
  some ((), m6)
noncomputable def F_X0_goTo (m : Mem) (c0 : Nat) (a1 : Int32) : Option (Unit × Mem) :=
  nm (wD m c0 5 a1) fun m1 =>
  nm (wD m1 c0 4 (0 : Int32)) fun m2 =>
  some ((), m2)
noncomputable def F_X0_ageBehind (m : Mem) (c0 : Nat) (a1 : Int32) : Option (Int32 × Mem) :=
  some (if ((mD m c0 4) + a1) < (999 : Int32) then ((mD m c0 4) + a1) else (999 : Int32), m)
noncomputable def F_X0_part (m : Mem) (c0 : Nat) (a1 : Int32) : Option (Int32 × Mem) :=
  if a1 = (1 : Int32) then
    some (mD m c0 1, m)
  else
    if a1 = (2 : Int32) then
      some (mD m c0 2, m)
    else
      if a1 = (3 : Int32) then
        some (mD m c0 3, m)
      else
        if a1 = (4 : Int32) then
          some (mD m c0 4, m)
        else
          if a1 = (5 : Int32) then
            some (mD m c0 5, m)
          else
            some (mD m c0 0, m)
noncomputable def F_X0_lay (m : Mem) (c0 : Nat) (a1 : Int32) (a2 : Int32) : Option (Unit × Mem) :=
  if a1 = (1 : Int32) then
    nm (wD m c0 1 a2) fun m2 =>
    some ((), m2)
  else
    if a1 = (2 : Int32) then
      nm (wD m c0 2 a2) fun m4 =>
      some ((), m4)
    else
      if a1 = (3 : Int32) then
        nm (wD m c0 3 a2) fun m6 =>
        some ((), m6)
      else
        if a1 = (4 : Int32) then
          nm (wD m c0 4 a2) fun m8 =>
          some ((), m8)
        else
          if a1 = (5 : Int32) then
            nm (wD m c0 5 a2) fun m10 =>
            some ((), m10)
          else
            nm (wD m c0 0 a2) fun m11 =>
            some ((), m11)
noncomputable def F_X1_init_15 : Nat → Mem → Nat → Int32 → Option (Unit × Mem)
  | 0 => fun m a0 a1 => none
  | n + 1 => fun m a0 a1 =>
    gIf (mK m a0 = (1, 0)) <|
    gRef (mR m a0 4) fun r6 =>
    gIf ((mK m r6).1 = 9) <|
    if (Int32.ofNat ((mK m r6).2)) ≤ a1 then
      some ((), m)
    else
      gIf (mK m a0 = (1, 0)) <|
      gRef (mR m a0 4) fun r11 =>
      nm (mNew m 0 0 6) fun m13 => nm (mN m) fun q14 =>
      bnd (F_X0_init m13 q14) fun v15 m16 =>
      gIf ((mK m16 r11).1 = 9 ∧ vp_in a1 (mK m16 r11).2 ∧ mK m16 q14 = (0, 0)) <|
      nm (wR m16 r11 a1.toNatClampNeg (some q14)) fun m20 =>
      F_X1_init_15 n m20 a0 (a1 + (1 : Int32))
noncomputable def F_X1_init (m : Mem) (c0 : Nat) : Option (Unit × Mem) :=
  nm (mNew m 9 8 8) fun m1 => nm (mN m) fun q2 =>
  gIf (mK m1 c0 = (1, 0)) <|
  nm (wR m1 c0 4 (some q2)) fun m4 =>
  F_X1_init_15 FU m4 c0 (0 : Int32)
noncomputable def F_X2_init (m : Mem) (c0 : Nat) : Option (Unit × Mem) :=
  gIf (mK m c0 = (2, 0)) <|
  nm (wD m c0 0 (-1 : Int32)) fun m2 =>
  nm (mNew m2 7 40 40) fun m3 => nm (mN m2) fun q4 =>
  gIf (mK m3 c0 = (2, 0)) <|
  nm (wR m3 c0 2 (some q4)) fun m6 =>
  some ((), m6)
noncomputable def F_X2_isMissing (m : Mem) (c0 : Nat) : Option (Bool × Mem) :=
  if (mD m c0 0) = (-1 : Int32) then
    some (true, m)
  else
    some (false, m)
noncomputable def F_J7_fill_53178_5 : Nat → Mem → Nat → Int32 → Int32 → Int32 → Option (Unit × Mem)
  | 0 => fun m a0 a1 a2 a3 => none
  | n + 1 => fun m a0 a1 a2 a3 =>
    if a3 ≤ a2 then
      some ((), m)
    else
      gIf (vp_in a2 (mK m a0).2) <|
      nm (wD m a0 a2.toNatClampNeg a1) fun m4 =>
      F_J7_fill_53178_5 n m4 a0 a1 (a2 + (1 : Int32)) a3
noncomputable def F_J7_fill_53178 (m : Mem) (c0 : Nat) (a1 : Int32) : Option (Unit × Mem) :=
  nm (Int32.ofNat ((mK m c0).2)) fun x1 =>
  F_J7_fill_53178_5 FU m c0 a1 (0 : Int32) x1
noncomputable def F_X2_become (m : Mem) (c0 : Nat) (a1 : Int32) (a2 : Int32) : Option (Unit × Mem) :=
  nm (wD m c0 0 a1) fun m1 =>
  nm (wD m1 c0 1 a2) fun m2 =>
  bnd (F_J7_fill_53178 m2 (c0 + 1) (0 : Int32)) fun v3 m4 =>
  some ((), m4)
noncomputable def F_X2_hasRoom (m : Mem) (c0 : Nat) (a1 : Int32) (a2 : Int32) : Option (Bool × Mem) :=
  if a1 < 0 then
    some (false, m)
  else
    if a2 < 0 then
      some (false, m)
    else
      if (mD m c0 1) < a1 then
        some (false, m)
      else
        if ((mD m c0 1) - a1) < a2 then
          some (false, m)
        else
          some (true, m)
noncomputable def F_X2_put (m : Mem) (c0 : Nat) (a1 : Int32) (a2 : Int32) : Option (Unit × Mem) :=
  if a1 < 0 then
    some ((), m)
  else
    if a1 < (mD m c0 1) then
      if (mD m c0 0) = 0 then
        gIf (vp_in a1 40) <|
        nm (wD m (c0 + 1) a1.toNatClampNeg a2.toInt8.toInt32) fun m10 =>
        some ((), m10)
      else
        if (mD m c0 0) = (1 : Int32) then
          gIf (vp_in a1 40) <|
          nm (wD m (c0 + 1) a1.toNatClampNeg a2.toInt16.toInt32) fun m8 =>
          some ((), m8)
        else
          gIf (vp_in a1 40) <|
          nm (wD m (c0 + 1) a1.toNatClampNeg a2) fun m6 =>
          some ((), m6)
    else
      some ((), m)
noncomputable def F_X3_init (m : Mem) (c0 : Nat) : Option (Unit × Mem) :=
  nm (mNew m 7 160 160) fun m1 => nm (mN m) fun q2 =>
  gIf (mK m1 c0 = (3, 0)) <|
  nm (wR m1 c0 0 (some q2)) fun m4 =>
  nm (mNew m4 7 160 160) fun m5 => nm (mN m4) fun q6 =>
  gIf (mK m5 c0 = (3, 0)) <|
  nm (wR m5 c0 5 (some q6)) fun m8 =>
  nm (mNew m8 7 3 3) fun m9 => nm (mN m8) fun q10 =>
  gIf (mK m9 c0 = (3, 0)) <|
  nm (wR m9 c0 7 (some q10)) fun m12 =>
  some ((), m12)
noncomputable def F_X3_add (m : Mem) (a1 : Int32) : Option (Unit × Mem) :=
  if (Int32.ofNat 160) ≤ (mD m 2 1) then
    some ((), m)
  else
    gIf (vp_in (mD m 2 1) 160) <|
    nm (wD m 3 (mD m 2 1).toNatClampNeg a1) fun m3 =>
    nm (wD m3 2 1 ((mD m3 2 1) + (1 : Int32))) fun m4 =>
    some ((), m4)
noncomputable def F_J7_copyOf_59c91 (m : Mem) (c0 : Nat) (a1 : Int32) : Option (Nat × Mem) :=
  gIf ((mK m c0).1 = 7) <|
  if a1 = (Int32.ofNat ((mK m c0).2)) then
    gIf ((mK m c0).1 = 7) <|
    nm (wC (mNew m 7 (mK m c0).2 (mK m c0).2) (mN m) (mD m c0)) fun m10 => nm (mN m) fun q11 =>
    gIf ((mK m10 q11).1 = 7) <|
    some (q11, m10)
  else
    gIf (¬ a1 < 0 ∧ a1.toNatClampNeg * componentBytes .int ≤ 536870912) <|
    nm (mNew m 7 a1.toNatClampNeg a1.toNatClampNeg) fun m3 => nm (mN m) fun q4 =>
    gIf ((mK m3 c0).1 = 7) <|
    gIf (¬ (0 : Int32) < 0 ∧ ¬ (0 : Int32) < 0 ∧ ¬ (if a1 < (Int32.ofNat ((mK m3 c0).2)) then a1 else (Int32.ofNat ((mK m3 c0).2))) < 0 ∧ (0 : Int32).toNatClampNeg + (if a1 < (Int32.ofNat ((mK m3 c0).2)) then a1 else (Int32.ofNat ((mK m3 c0).2))).toNatClampNeg ≤ (mK m3 c0).2 ∧ (0 : Int32).toNatClampNeg + (if a1 < (Int32.ofNat ((mK m3 c0).2)) then a1 else (Int32.ofNat ((mK m3 c0).2))).toNatClampNeg ≤ (mK m3 q4).2 ∧ (mK m3 c0).1 = 7 ∧ (mK m3 q4).1 = 7) <|
    nm (wC m3 q4 (va_cpy (mD m3 c0) (mD m3 q4) (0 : Int32).toNatClampNeg (0 : Int32).toNatClampNeg (if a1 < (Int32.ofNat ((mK m3 c0).2)) then a1 else (Int32.ofNat ((mK m3 c0).2))).toNatClampNeg)) fun m8 =>
    some (q4, m8)
noncomputable def F_X4_init (m : Mem) (c0 : Nat) (c1 : Nat) (c2 : Nat) : Option (Unit × Mem) :=
  gIf (mK m c0 = (4, 0)) <|
  nm (wR m c0 0 (some c1)) fun m2 =>
  gIf (mK m2 c0 = (4, 0)) <|
  nm (wR m2 c0 1 (some c2)) fun m4 =>
  gIf ((mK m4 c1).1 = 7) <|
  gIf (¬ (Int32.ofNat ((mK m4 c1).2)) < 0 ∧ (Int32.ofNat ((mK m4 c1).2)).toNatClampNeg * componentBytes .int ≤ 536870912) <|
  nm (mNew m4 7 ((Int32.ofNat ((mK m4 c1).2)).toNatClampNeg) ((Int32.ofNat ((mK m4 c1).2)).toNatClampNeg)) fun m6 => nm (mN m4) fun q7 =>
  gIf (mK m6 c0 = (4, 0)) <|
  nm (wR m6 c0 2 (some q7)) fun m10 =>
  some ((), m10)
noncomputable def F_X3_newText (m : Mem) (c0 : Nat) : Option (Nat × Mem) :=
  nm (mNew m 4 0 3) fun m1 => nm (mN m) fun q2 =>
  gIf (mK m1 c0 = (3, 0)) <|
  gRef (mR m1 c0 5) fun r4 =>
  gIf (mK m1 c0 = (3, 0)) <|
  bnd (F_J7_copyOf_59c91 m1 r4 (mD m1 c0 6)) fun v7 m8 =>
  gIf (mK m8 c0 = (3, 0)) <|
  gRef (mR m8 c0 7) fun r12 =>
  gIf (mK m8 c0 = (3, 0)) <|
  gRef (mR m8 c0 7) fun r15 =>
  gIf ((mK m8 r15).1 = 7) <|
  bnd (F_J7_copyOf_59c91 m8 r12 (Int32.ofNat ((mK m8 r15).2))) fun v18 m19 =>
  bnd (F_X4_init m19 q2 v7 v18) fun v22 m23 =>
  some (q2, m23)
noncomputable def F_X3_readLevel_92 (RL : Mem → Int32 → Int32 → Option (Bool × Mem)) (RO : Mem → Int32 → Option (Bool × Mem)) : Nat → Mem → Int32 → Int32 → Int32 → Int32 → Option (Bool × Mem)
  | 0 => fun m a1 a2 a3 a4 => none
  | n + 1 => fun m a1 a2 a3 a4 =>
    if a3 ≤ a4 then
      some (true, m)
    else
      bnd (F_X3_levelOf m (mD m 2 2)) fun v31 m32 =>
      if v31 = a1 then
        nm (mD m32 2 2) fun x36 =>
        bnd (F_X3_advance m32) fun v37 m38 =>
        bnd (RL m38 (a1 + (1 : Int32)) a2) fun v41 m42 =>
        if (bz v41) = 0 then
          some (false, m42)
        else
          bnd (F_X3_put m42 x36) fun v46 m47 =>
          F_X3_readLevel_92 RL RO n m47 a1 a2 a3 (a4 + (1 : Int32))
      else
        some (true, m32)
noncomputable def F_X3_readLevel_88 (RL : Mem → Int32 → Int32 → Option (Bool × Mem)) (RO : Mem → Int32 → Option (Bool × Mem)) (m : Mem) (a1 : Int32) (a2 : Int32) (s0 : Int32) : Option (Bool × Mem) :=
  F_X3_readLevel_92 RL RO FU m a1 a2 s0 (0 : Int32)
noncomputable def F_X3_readLevel_63 (RL : Mem → Int32 → Int32 → Option (Bool × Mem)) (RO : Mem → Int32 → Option (Bool × Mem)) (m : Mem) (a1 : Int32) (a2 : Int32) : Option (Bool × Mem) :=
  bnd (RL m (a1 + (1 : Int32)) a2) fun v24 m25 =>
  if (bz v24) = 0 then
    some (false, m25)
  else
    if a1 = (2 : Int32) then
      F_X3_readLevel_88 RL RO m25 a1 a2 (1 : Int32)
    else
      F_X3_readLevel_88 RL RO m25 a1 a2 (160 : Int32)
noncomputable def F_X3_readLevel (RL : Mem → Int32 → Int32 → Option (Bool × Mem)) (RO : Mem → Int32 → Option (Bool × Mem)) (m : Mem) (a1 : Int32) (a2 : Int32) : Option (Bool × Mem) :=
  if a1 ≤ (4 : Int32) then
    if a1 = (2 : Int32) then
      if (mD m 2 2) = (-12 : Int32) then
        if (5 : Int32) ≤ a2 then
          some (false, m)
        else
          bnd (F_X3_advance m) fun v5 m6 =>
          if (bz v5) = 0 then
            some (false, m6)
          else
            bnd (RL m6 (2 : Int32) (a2 + (1 : Int32))) fun v10 m11 =>
            if (bz v10) = 0 then
              some (false, m11)
            else
              bnd (F_X3_put m11 (-12 : Int32)) fun v15 m16 =>
              if (bz v15) = 0 then
                some (false, m16)
              else
                some (true, m16)
      else
        F_X3_readLevel_63 RL RO m a1 a2
    else
      F_X3_readLevel_63 RL RO m a1 a2
  else
    bnd (RO m a2) fun v20 m21 =>
    some (v20, m21)
noncomputable def F_X3_readOne (RL : Mem → Int32 → Int32 → Option (Bool × Mem)) (RO : Mem → Int32 → Option (Bool × Mem)) (m : Mem) (a1 : Int32) : Option (Bool × Mem) :=
  if (mD m 2 2) < (-6 : Int32) then
    if (mD m 2 2) = (-16 : Int32) then
      if (5 : Int32) ≤ a1 then
        some (false, m)
      else
        bnd (F_X3_advance m) fun v22 m23 =>
        if (bz v22) = 0 then
          some (false, m23)
        else
          bnd (RO m23 (a1 + (1 : Int32))) fun v27 m28 =>
          if (bz v27) = 0 then
            some (false, m28)
          else
            bnd (F_X3_put m28 (-18 : Int32)) fun v32 m33 =>
            if (bz v32) = 0 then
              some (false, m33)
            else
              some (true, m33)
    else
      if (mD m 2 2) = (-19 : Int32) then
        if (5 : Int32) ≤ a1 then
          some (false, m)
        else
          bnd (F_X3_advance m) fun v5 m6 =>
          if (bz v5) = 0 then
            some (false, m6)
          else
            bnd (RL m6 (0 : Int32) (a1 + (1 : Int32))) fun v10 m11 =>
            if (bz v10) = 0 then
              some (false, m11)
            else
              if (mD m11 2 2) = (-20 : Int32) then
                bnd (F_X3_advance m11) fun v16 m17 =>
                if (bz v16) = 0 then
                  some (false, m17)
                else
                  some (true, m17)
              else
                some (false, m11)
      else
        some (false, m)
  else
    bnd (F_X3_put m (mD m 2 2)) fun v37 m38 =>
    if (bz v37) = 0 then
      some (false, m38)
    else
      bnd (F_X3_advance m38) fun v42 m43 =>
      if (bz v42) = 0 then
        some (false, m43)
      else
        some (true, m43)
noncomputable def F_rec : Nat → (Mem → Int32 → Int32 → Option (Bool × Mem)) × (Mem → Int32 → Option (Bool × Mem))
  | 0 => (fun _ _ _ => none, fun _ _ => none)
  | n + 1 => (F_X3_readLevel (F_rec n).1 (F_rec n).2, F_X3_readOne (F_rec n).1 (F_rec n).2)
noncomputable def F_X3_readPart (m : Mem) (a1 : Int32) (a2 : Int32) : Option (Bool × Mem) :=
  if (mD m 2 2) = a2 then
    bnd (F_X3_advance m) fun v2 m3 =>
    bnd (((F_rec 64).1) m3 (0 : Int32) (0 : Int32)) fun v6 m7 =>
    if (bz v6) = 0 then
      some (false, m7)
    else
      if (mD m7 2 2) = (-21 : Int32) then
        bnd (F_X3_advance m7) fun v12 m13 =>
        gIf (vp_in a1 3) <|
        nm (wD m13 5 a1.toNatClampNeg (mD m13 2 6)) fun m17 =>
        some (true, m17)
      else
        some (false, m7)
  else
    some (false, m)
noncomputable def F_X3_read_59 (m : Mem) (s0 : Int32) : Option (Int32 × Mem) :=
  if s0 = 0 then
    some (mD m 2 3, m)
  else
    some ((-1 : Int32), m)
noncomputable def F_X3_read_58 (m : Mem) : Option (Int32 × Mem) :=
  F_X3_read_59 m (0 : Int32)
noncomputable def F_X3_read (m : Mem) : Option (Int32 × Mem) :=
  nm (wD m 2 6 (0 : Int32)) fun m1 =>
  nm (wD m1 2 4 (0 : Int32)) fun m2 =>
  bnd (F_X3_advance m2) fun v3 m4 =>
  bnd (F_X3_readPart m4 (0 : Int32) (-7 : Int32)) fun v7 m8 =>
  if (bz v7) = 0 then
    F_X3_read_58 m8
  else
    bnd (F_X3_readPart m8 (1 : Int32) (-8 : Int32)) fun v12 m13 =>
    if (bz v12) = 0 then
      F_X3_read_58 m13
    else
      bnd (F_X3_readPart m13 (2 : Int32) (-9 : Int32)) fun v17 m18 =>
      if (bz v17) = 0 then
        F_X3_read_58 m18
      else
        if (mD m18 2 2) = (-22 : Int32) then
          F_X3_read_59 m18 (1 : Int32)
        else
          F_X3_read_58 m18
noncomputable def F_X4_named (m : Mem) (a0 : Int32) (c1 : Nat) (a2 : Int32) (a3 : Int32) : Option (Int32 × Mem) :=
  if a0 = (-5 : Int32) then
    some (mD m c1 5, m)
  else
    if a0 = (-4 : Int32) then
      some (a2, m)
    else
      if a0 = (-3 : Int32) then
        some (mD m c1 1, m)
      else
        if a0 = (-2 : Int32) then
          some (mD m c1 3, m)
        else
          if a0 = (-1 : Int32) then
            some (mD m c1 2, m)
          else
            some (a3, m)
noncomputable def F_X4_joined_102 (m : Mem) (a1 : Int32) (a2 : Int32) : Option (Int32 × Mem) :=
  some (a1 * a2, m)
noncomputable def F_X4_joined (m : Mem) (a0 : Int32) (a1 : Int32) (a2 : Int32) : Option (Int32 × Mem) :=
  if a0 = (-16 : Int32) then
    some (a1 - a2, m)
  else
    if a0 = (-15 : Int32) then
      some (a1 + a2, m)
    else
      if a0 = (-14 : Int32) then
        if a1 = a2 then
          some ((1 : Int32), m)
        else
          some ((0 : Int32), m)
      else
        if a0 = (-13 : Int32) then
          if a2 ≤ a1 then
            some ((0 : Int32), m)
          else
            some ((1 : Int32), m)
        else
          if a0 = (-12 : Int32) then
            F_X4_joined_102 m a1 a2
          else
            if a0 = (-11 : Int32) then
              if a1 = 0 then
                some ((0 : Int32), m)
              else
                if a2 = 0 then
                  some ((0 : Int32), m)
                else
                  some ((1 : Int32), m)
            else
              if a0 = (-10 : Int32) then
                if a1 = 0 then
                  if a2 = 0 then
                    some ((0 : Int32), m)
                  else
                    some ((1 : Int32), m)
                else
                  some ((1 : Int32), m)
              else
                F_X4_joined_102 m a1 a2
noncomputable def F_X4_worked_204 (K21 : Mem → Nat → Int32 → Nat → Int32 → Int32 → Int32 → Int32 → Option (Int32 × Mem)) (m : Mem) (a0 : Nat) (a1 : Int32) (a2 : Nat) (a3 : Int32) (a4 : Int32) (a5 : Int32) (a6 : Int32) : Option (Int32 × Mem) :=
  K21 m a0 a1 a2 a3 a4 a5 (a6 + (1 : Int32))
noncomputable def F_X4_worked_127 (K21 : Mem → Nat → Int32 → Nat → Int32 → Int32 → Int32 → Int32 → Option (Int32 × Mem)) (m : Mem) (a0 : Nat) (a1 : Int32) (a2 : Nat) (a3 : Int32) (a4 : Int32) (a5 : Int32) (a6 : Int32) (s0 : Int32) (s1 : Int32) : Option (Int32 × Mem) :=
  gIf (vp_in s1 (mK m (a0 + 1)).2) <|
  nm (wD m (a0 + 3) s1.toNatClampNeg s0) fun m23 =>
  F_X4_worked_204 K21 m23 a0 a1 a2 a3 a4 a5 a6
noncomputable def F_X4_worked_165 (K21 : Mem → Nat → Int32 → Nat → Int32 → Int32 → Int32 → Int32 → Option (Int32 × Mem)) (m : Mem) (a0 : Nat) (a1 : Int32) (a2 : Nat) (a3 : Int32) (a4 : Int32) (a5 : Int32) (a6 : Int32) (a7 : Int32) : Option (Int32 × Mem) :=
  if a5 ≤ (1 : Int32) then
    F_X4_worked_204 K21 m a0 a1 a2 a3 a4 a5 a6
  else
    gIf (vp_in ((a5 + (-1 : Int32)) - (1 : Int32)) (mK m (a0 + 1)).2) <|
    gIf (vp_in (a5 + (-1 : Int32)) (mK m (a0 + 1)).2) <|
    bnd (F_X4_joined m a7 (mD m (a0 + 3) ((a5 + (-1 : Int32)) - (1 : Int32)).toNatClampNeg) (mD m (a0 + 3) (a5 + (-1 : Int32)).toNatClampNeg)) fun v32 m33 =>
    gIf (vp_in ((a5 + (-1 : Int32)) - (1 : Int32)) (mK m33 (a0 + 1)).2) <|
    nm (wD m33 (a0 + 3) ((a5 + (-1 : Int32)) - (1 : Int32)).toNatClampNeg v32) fun m37 =>
    F_X4_worked_204 K21 m37 a0 a1 a2 a3 a4 (a5 + (-1 : Int32)) a6
noncomputable def F_X4_worked_83 (K21 : Mem → Nat → Int32 → Nat → Int32 → Int32 → Int32 → Int32 → Option (Int32 × Mem)) (m : Mem) (a0 : Nat) (a1 : Int32) (a2 : Nat) (a3 : Int32) (a4 : Int32) (a5 : Int32) (a6 : Int32) (s0 : Int32) (s1 : Int32) : Option (Int32 × Mem) :=
  gIf (vp_in s1 (mK m (a0 + 1)).2) <|
  nm (wD m (a0 + 3) s1.toNatClampNeg s0) fun m17 =>
  F_X4_worked_204 K21 m17 a0 a1 a2 a3 a4 (a5 + (1 : Int32)) a6
noncomputable def F_X4_worked_131 (K21 : Mem → Nat → Int32 → Nat → Int32 → Int32 → Int32 → Int32 → Option (Int32 × Mem)) (m : Mem) (a0 : Nat) (a1 : Int32) (a2 : Nat) (a3 : Int32) (a4 : Int32) (a5 : Int32) (a6 : Int32) (a7 : Int32) : Option (Int32 × Mem) :=
  if a7 = (-18 : Int32) then
    if a5 ≤ 0 then
      F_X4_worked_165 K21 m a0 a1 a2 a3 a4 a5 a6 a7
    else
      gIf (vp_in (a5 - (1 : Int32)) (mK m (a0 + 1)).2) <|
      gIf (vp_in (a5 - (1 : Int32)) (mK m (a0 + 1)).2) <|
      nm (wD m (a0 + 3) (a5 - (1 : Int32)).toNatClampNeg (-(mD m (a0 + 3) (a5 - (1 : Int32)).toNatClampNeg))) fun m28 =>
      F_X4_worked_204 K21 m28 a0 a1 a2 a3 a4 a5 a6
  else
    F_X4_worked_165 K21 m a0 a1 a2 a3 a4 a5 a6 a7
noncomputable def F_X4_worked_90 (K21 : Mem → Nat → Int32 → Nat → Int32 → Int32 → Int32 → Int32 → Option (Int32 × Mem)) (m : Mem) (a0 : Nat) (a1 : Int32) (a2 : Nat) (a3 : Int32) (a4 : Int32) (a5 : Int32) (a6 : Int32) (a7 : Int32) : Option (Int32 × Mem) :=
  if a7 = (-12 : Int32) then
    if a5 ≤ 0 then
      F_X4_worked_131 K21 m a0 a1 a2 a3 a4 a5 a6 a7
    else
      gIf (vp_in (a5 - (1 : Int32)) (mK m (a0 + 1)).2) <|
      if (mD m (a0 + 3) (a5 - (1 : Int32)).toNatClampNeg) = 0 then
        F_X4_worked_127 K21 m a0 a1 a2 a3 a4 a5 a6 (1 : Int32) (a5 - (1 : Int32))
      else
        F_X4_worked_127 K21 m a0 a1 a2 a3 a4 a5 a6 (0 : Int32) (a5 - (1 : Int32))
  else
    F_X4_worked_131 K21 m a0 a1 a2 a3 a4 a5 a6 a7
noncomputable def F_X4_worked_21 : Nat → Mem → Nat → Int32 → Nat → Int32 → Int32 → Int32 → Int32 → Option (Int32 × Mem)
  | 0 => fun m a0 a1 a2 a3 a4 a5 a6 => none
  | n + 1 => fun m a0 a1 a2 a3 a4 a5 a6 =>
    gIf (vp_in a1 3) <|
    if (mD m (a0 + 2) a1.toNatClampNeg) ≤ a6 then
      if a5 ≤ 0 then
        some ((0 : Int32), m)
      else
        gIf (vp_in (a5 - (1 : Int32)) (mK m (a0 + 1)).2) <|
        some (mD m (a0 + 3) (a5 - (1 : Int32)).toNatClampNeg, m)
    else
      gIf (vp_in a6 (mK m (a0 + 1)).2) <|
      nm (mD m (a0 + 1) a6.toNatClampNeg) fun x8 =>
      if x8 < (-6 : Int32) then
        F_X4_worked_90 (F_X4_worked_21 n) m a0 a1 a2 a3 a4 a5 a6 x8
      else
        if (Int32.ofNat ((mK m (a0 + 1)).2)) ≤ a5 then
          F_X4_worked_90 (F_X4_worked_21 n) m a0 a1 a2 a3 a4 a5 a6 x8
        else
          if x8 < 0 then
            bnd (F_X4_named m x8 a2 a3 a4) fun v12 m13 =>
            F_X4_worked_83 (F_X4_worked_21 n) m13 a0 a1 a2 a3 a4 a5 a6 v12 a5
          else
            F_X4_worked_83 (F_X4_worked_21 n) m a0 a1 a2 a3 a4 a5 a6 x8 a5
noncomputable def F_X4_worked_19 (m : Mem) (a0 : Nat) (a1 : Int32) (a2 : Nat) (a3 : Int32) (a4 : Int32) (a5 : Int32) (s0 : Int32) : Option (Int32 × Mem) :=
  F_X4_worked_21 FU m a0 a1 a2 a3 a4 a5 s0
noncomputable def F_X4_worked (m : Mem) (c0 : Nat) (a1 : Int32) (c2 : Nat) (a3 : Int32) (a4 : Int32) : Option (Int32 × Mem) :=
  if a1 = 0 then
    F_X4_worked_19 m c0 a1 c2 a3 a4 (0 : Int32) (0 : Int32)
  else
    gIf (vp_in (a1 - (1 : Int32)) 3) <|
    F_X4_worked_19 m c0 a1 c2 a3 a4 (0 : Int32) (mD m (c0 + 2) (a1 - (1 : Int32)).toNatClampNeg)
noncomputable def F_X4_bounded (m : Mem) (a0 : Int32) (a1 : Int32) (a2 : Int32) : Option (Int32 × Mem) :=
  some (if a1 < (if a0 < a2 then a0 else a2) then (if a0 < a2 then a0 else a2) else a1, m)
noncomputable def F_X4_turnsOf (m : Mem) (c0 : Nat) (c1 : Nat) (a2 : Int32) (a3 : Int32) : Option (Int32 × Mem) :=
  if (mD m c1 0) = (5 : Int32) then
    some ((1000 : Int32), m)
  else
    bnd (F_X4_worked m c0 (0 : Int32) c1 a2 a3) fun v2 m3 =>
    bnd (F_X4_bounded m3 v2 (0 : Int32) (99 : Int32)) fun v6 m7 =>
    nm (mD m7 c1 0) fun x10 =>
    if x10 = (1 : Int32) then
      bnd (F_X4_bounded m7 (v6 + ((mD m7 c1 1) / (2 : Int32))) (1 : Int32) (1000 : Int32)) fun v12 m13 =>
      some (v12, m13)
    else
      if x10 = (2 : Int32) then
        bnd (F_X4_bounded m7 (v6 / (2 : Int32)) (1 : Int32) (1000 : Int32)) fun v17 m18 =>
        some (v17, m18)
      else
        if x10 = (3 : Int32) then
          bnd (F_X4_bounded m7 ((2 : Int32) * (v6 + ((mD m7 c1 1) / (2 : Int32)))) (1 : Int32) (1000 : Int32)) fun v22 m23 =>
          some (v22, m23)
        else
          if x10 = (4 : Int32) then
            bnd (F_X4_bounded m7 (if (3 : Int32) < (v6 / (2 : Int32)) then (3 : Int32) else (v6 / (2 : Int32))) (1 : Int32) (1000 : Int32)) fun v27 m28 =>
            some (v27, m28)
          else
            bnd (F_X4_bounded m7 v6 (1 : Int32) (1000 : Int32)) fun v31 m32 =>
            some (v31, m32)
noncomputable def F_X4_givesOf_40 (m : Mem) (a1 : Nat) (a4 : Int32) (s0 : Int32) : Option (Int32 × Mem) :=
  nm (mD m a1 0) fun x11 =>
  if x11 = (1 : Int32) then
    bnd (F_X4_bounded m s0 (-999 : Int32) (999 : Int32)) fun v13 m14 =>
    some (v13, m14)
  else
    if x11 = (2 : Int32) then
      bnd (F_X4_bounded m (a4 + (3 : Int32)) (-999 : Int32) (999 : Int32)) fun v18 m19 =>
      some (v18, m19)
    else
      if x11 = (3 : Int32) then
        bnd (F_X4_bounded m (s0 + ((mD m a1 1) * (mD m a1 3))) (-999 : Int32) (999 : Int32)) fun v23 m24 =>
        some (v23, m24)
      else
        if x11 = (4 : Int32) then
          bnd (F_X4_bounded m (-(a4 + (3 : Int32))) (-999 : Int32) (999 : Int32)) fun v28 m29 =>
          some (v28, m29)
        else
          bnd (F_X4_bounded m a4 (-999 : Int32) (999 : Int32)) fun v32 m33 =>
          some (v32, m33)
noncomputable def F_X4_givesOf (m : Mem) (c0 : Nat) (c1 : Nat) (a2 : Int32) (a3 : Int32) : Option (Int32 × Mem) :=
  if (mD m c1 0) = (5 : Int32) then
    some ((0 : Int32), m)
  else
    bnd (F_X4_worked m c0 (1 : Int32) c1 a2 a3) fun v2 m3 =>
    bnd (F_X4_bounded m3 v2 (-99 : Int32) (99 : Int32)) fun v6 m7 =>
    if (mD m7 c1 3) = 0 then
      F_X4_givesOf_40 m7 c1 v6 (0 : Int32)
    else
      F_X4_givesOf_40 m7 c1 v6 v6
noncomputable def F_X4_goesOffOf_76 (m : Mem) (a4 : Int32) : Option (Int32 × Mem) :=
  bnd (F_X4_bounded m ((2 : Int32) * a4) (0 : Int32) (99 : Int32)) fun v15 m16 =>
  some (v15, m16)
noncomputable def F_X4_goesOffOf_60 (m : Mem) (a1 : Nat) (a4 : Int32) : Option (Int32 × Mem) :=
  if (mD m a1 3) ≤ (6 : Int32) then
    some (a4, m)
  else
    some ((0 : Int32), m)
noncomputable def F_X4_goesOffOf (m : Mem) (c0 : Nat) (c1 : Nat) (a2 : Int32) (a3 : Int32) : Option (Int32 × Mem) :=
  if (mD m c1 0) = (5 : Int32) then
    some ((0 : Int32), m)
  else
    bnd (F_X4_worked m c0 (2 : Int32) c1 a2 a3) fun v2 m3 =>
    bnd (F_X4_bounded m3 v2 (0 : Int32) (99 : Int32)) fun v6 m7 =>
    nm (mD m7 c1 0) fun x10 =>
    if x10 = (1 : Int32) then
      F_X4_goesOffOf_60 m7 c1 v6
    else
      if x10 = (2 : Int32) then
        F_X4_goesOffOf_76 m7 v6
      else
        if x10 = (3 : Int32) then
          F_X4_goesOffOf_60 m7 c1 v6
        else
          if x10 = (4 : Int32) then
            F_X4_goesOffOf_76 m7 v6
          else
            some (v6, m7)
noncomputable def F_X4_worthOf (m : Mem) (c0 : Nat) (c1 : Nat) (a2 : Int32) (a3 : Int32) : Option (Int32 × Mem) :=
  bnd (F_X4_turnsOf m c0 c1 a2 a3) fun v1 m2 =>
  if v1 ≤ a2 then
    bnd (F_X4_givesOf m2 c0 c1 a2 a3) fun v6 m7 =>
    if 0 ≤ v6 then
      bnd (F_X4_goesOffOf m7 c0 c1 a2 a3) fun v11 m12 =>
      some (if (0 : Int32) < (v6 - (v11 * (a2 - v1))) then (v6 - (v11 * (a2 - v1))) else (0 : Int32), m12)
    else
      some (v6, m7)
  else
    some (mD m2 c1 2, m2)
noncomputable def F_X5_keepText_38 (m : Mem) (a0 : Nat) : Option (Unit × Mem) :=
  gIf (mK m a0 = (5, 0)) <|
  gRef (mR m a0 3) fun r25 =>
  gIf (mK m r25 = (3, 0)) <|
  nm (wD m r25 1 (0 : Int32)) fun m28 =>
  some ((), m28)
noncomputable def F_X5_keepText (m : Mem) (c0 : Nat) : Option (Unit × Mem) :=
  gIf (mK m c0 = (5, 0)) <|
  gIf (mK m c0 = (5, 0)) <|
  gRef (mR m c0 4) fun r3 =>
  gIf ((mK m r3).1 = 11) <|
  if (Int32.ofNat ((mK m r3).2)) ≤ (mD m c0 5) then
    F_X5_keepText_38 m c0
  else
    gIf (mK m c0 = (5, 0)) <|
    gRef (mR m c0 4) fun r8 =>
    gIf (mK m c0 = (5, 0)) <|
    gIf (mK m c0 = (5, 0)) <|
    gRef (mR m c0 3) fun r12 =>
    gIf (mK m r12 = (3, 0)) <|
    bnd (F_X3_newText m r12) fun v15 m16 =>
    gIf ((mK m16 r8).1 = 11 ∧ vp_in (mD m c0 5) (mK m16 r8).2 ∧ mK m16 v15 = (4, 0)) <|
    nm (wR m16 r8 (mD m c0 5).toNatClampNeg (some v15)) fun m20 =>
    gIf (mK m20 c0 = (5, 0)) <|
    gIf (mK m20 c0 = (5, 0)) <|
    nm (wD m20 c0 5 ((mD m20 c0 5) + (1 : Int32))) fun m23 =>
    F_X5_keepText_38 m23 c0
noncomputable def F_X5_init_133 : Nat → Mem → Nat → Int32 → Option (Unit × Mem)
  | 0 => fun m a0 a1 => none
  | n + 1 => fun m a0 a1 =>
    if (38 : Int32) ≤ a1 then
      gIf (mK m a0 = (5, 0)) <|
      gRef (mR m a0 3) fun r75 =>
      gIf (r75 = 2 ∧ ShX m) <|
      bnd (F_X3_read m) fun v78 m79 =>
      gIf (mK m79 a0 = (5, 0)) <|
      bnd (F_X5_keepText m79 a0) fun v83 m84 =>
      some ((), m84)
    else
      gIf (mK m a0 = (5, 0)) <|
      gRef (mR m a0 3) fun r88 =>
      gIf (vp_in a1 38) <|
      gIf (r88 = 2 ∧ ShX m) <|
      bnd (F_X3_add m (sch 0 a1.toNatClampNeg)) fun v92 m93 =>
      F_X5_init_133 n m93 a0 (a1 + (1 : Int32))
noncomputable def F_X5_init_103 : Nat → Mem → Nat → Int32 → Option (Unit × Mem)
  | 0 => fun m a0 a1 => none
  | n + 1 => fun m a0 a1 =>
    gIf (mK m a0 = (5, 0)) <|
    gRef (mR m a0 7) fun r58 =>
    gIf ((mK m r58).1 = 10) <|
    if (Int32.ofNat ((mK m r58).2)) ≤ a1 then
      F_X5_init_133 FU m a0 (0 : Int32)
    else
      gIf (mK m a0 = (5, 0)) <|
      gRef (mR m a0 7) fun r63 =>
      nm (mNew m 2 0 3) fun m65 => nm (mN m) fun q66 =>
      bnd (F_X2_init m65 q66) fun v67 m68 =>
      gIf ((mK m68 r63).1 = 10 ∧ vp_in a1 (mK m68 r63).2 ∧ mK m68 q66 = (2, 0)) <|
      nm (wR m68 r63 a1.toNatClampNeg (some q66)) fun m72 =>
      F_X5_init_103 n m72 a0 (a1 + (1 : Int32))
noncomputable def F_X5_init_73 : Nat → Mem → Nat → Int32 → Option (Unit × Mem)
  | 0 => fun m a0 a1 => none
  | n + 1 => fun m a0 a1 =>
    gIf (mK m a0 = (5, 0)) <|
    gRef (mR m a0 1) fun r42 =>
    gIf ((mK m r42).1 = 9) <|
    if (Int32.ofNat ((mK m r42).2)) ≤ a1 then
      F_X5_init_103 FU m a0 (0 : Int32)
    else
      gIf (mK m a0 = (5, 0)) <|
      gRef (mR m a0 1) fun r47 =>
      nm (mNew m 0 0 6) fun m49 => nm (mN m) fun q50 =>
      bnd (F_X0_init m49 q50) fun v51 m52 =>
      gIf ((mK m52 r47).1 = 9 ∧ vp_in a1 (mK m52 r47).2 ∧ mK m52 q50 = (0, 0)) <|
      nm (wR m52 r47 a1.toNatClampNeg (some q50)) fun m56 =>
      F_X5_init_73 n m56 a0 (a1 + (1 : Int32))
noncomputable def F_X5_init (m : Mem) (c0 : Nat) : Option (Unit × Mem) :=
  nm (mNew m 9 8 8) fun m1 => nm (mN m) fun q2 =>
  gIf (mK m1 c0 = (5, 0)) <|
  nm (wR m1 c0 1 (some q2)) fun m4 =>
  nm (mNew m4 3 0 8) fun m5 => nm (mN m4) fun q6 =>
  bnd (F_X3_init m5 q6) fun v7 m8 =>
  gIf (mK m8 c0 = (5, 0)) <|
  nm (wR m8 c0 3 (some q6)) fun m12 =>
  nm (mNew m12 11 6 6) fun m13 => nm (mN m12) fun q14 =>
  gIf (mK m13 c0 = (5, 0)) <|
  nm (wR m13 c0 4 (some q14)) fun m16 =>
  nm (mNew m16 10 4 4) fun m17 => nm (mN m16) fun q18 =>
  gIf (mK m17 c0 = (5, 0)) <|
  nm (wR m17 c0 7 (some q18)) fun m20 =>
  nm (mNew m20 1 0 5) fun m21 => nm (mN m20) fun q22 =>
  bnd (F_X1_init m21 q22) fun v23 m24 =>
  gIf (mK m24 c0 = (5, 0)) <|
  nm (wR m24 c0 8 (some q22)) fun m28 =>
  nm (mNew m28 0 0 6) fun m29 => nm (mN m28) fun q30 =>
  bnd (F_X0_init m29 q30) fun v31 m32 =>
  gIf (mK m32 c0 = (5, 0)) <|
  nm (wR m32 c0 9 (some q30)) fun m36 =>
  nm (mNew m36 7 8 8) fun m37 => nm (mN m36) fun q38 =>
  gIf (mK m37 c0 = (5, 0)) <|
  nm (wR m37 c0 10 (some q38)) fun m40 =>
  F_X5_init_73 FU m40 c0 (0 : Int32)
noncomputable def F_X5_isCoin (m : Mem) (a1 : Int32) : Option (Bool × Mem) :=
  if a1 < 0 then
    some (false, m)
  else
    if (mD m 0 2) ≤ a1 then
      some (false, m)
    else
      some (true, m)
noncomputable def F_X5_set (m : Mem) (a1 : Int32) (a2 : Int32) (a3 : Int32) : Option (Int32 × Mem) :=
  bnd (F_X5_isBetween m a1 (0 : Int32) (5 : Int32)) fun v1 m2 =>
  if (bz v1) = 0 then
    some ((-2 : Int32), m2)
  else
    gIf (vp_in a1 7) <|
    gIf (vp_in a1 7) <|
    bnd (F_X5_isBetween m2 a3 (fLEAST a1.toNatClampNeg) (fMOST a1.toNatClampNeg)) fun v8 m9 =>
    if (bz v8) = 0 then
      some ((-2 : Int32), m9)
    else
      if a1 = 0 then
        nm (mD m9 0 0) fun x31 =>
        nm (wD m9 0 0 a3) fun m32 =>
        some (x31, m32)
      else
        bnd (F_X5_isCoin m9 a2) fun v14 m15 =>
        if (bz v14) = 0 then
          some ((-2 : Int32), m15)
        else
          gIf (vp_in a2 8) <|
          bnd (F_X0_part m15 (20 + a2.toNatClampNeg) a1) fun v21 m22 =>
          gIf (vp_in a2 8) <|
          bnd (F_X0_lay m22 (20 + a2.toNatClampNeg) a1 a3) fun v27 m28 =>
          some (v21, m28)
noncomputable def F_X5_isOf (m : Mem) (a0 : Int32) (a1 : Int32) : Option (Bool × Mem) :=
  gIf (vp_in a0 7) <|
  if a1 < (fLEAST a0.toNatClampNeg) then
    some (false, m)
  else
    gIf (vp_in a0 7) <|
    if (fMOST a0.toNatClampNeg) < a1 then
      some (false, m)
    else
      some (true, m)
noncomputable def F_X5_coin (m : Mem) (a1 : Int32) (a2 : Int32) (a3 : Int32) : Option (Int32 × Mem) :=
  bnd (F_X5_isOf m (6 : Int32) a1) fun v1 m2 =>
  if (bz v1) = 0 then
    some ((-2 : Int32), m2)
  else
    bnd (F_X5_isOf m2 (1 : Int32) a2) fun v6 m7 =>
    if (bz v6) = 0 then
      some ((-2 : Int32), m7)
    else
      bnd (F_X5_isOf m7 (2 : Int32) a3) fun v11 m12 =>
      if (bz v11) = 0 then
        some ((-2 : Int32), m12)
      else
        if (mD m12 0 2) < (Int32.ofNat 8) then
          gIf (vp_in (mD m12 0 2) 8) <|
          bnd (F_X0_come m12 (20 + (mD m12 0 2).toNatClampNeg) a1 a2 a3) fun v19 m20 =>
          nm (wD m20 0 2 ((mD m20 0 2) + (1 : Int32))) fun m23 =>
          some ((mD m23 0 2) - (1 : Int32), m23)
        else
          some ((-4 : Int32), m12)
noncomputable def F_X5_theRule (m : Mem) : Option (Nat × Mem) :=
  gIf (vp_in (mD m 0 6) 6) <|
  gRef (mR m 6 (mD m 0 6).toNatClampNeg) fun r3 =>
  some (r3, m)
noncomputable def F_X5_isWholeBehind (m : Mem) (c1 : Nat) (a2 : Int32) : Option (Bool × Mem) :=
  bnd (F_X0_ageBehind m c1 a2) fun v1 m2 =>
  bnd (F_X5_theRule m2) fun v5 m6 =>
  bnd (F_X4_turnsOf m6 v5 c1 v1 ((mD m6 0 0) + a2)) fun v10 m11 =>
  if v10 ≤ v1 then
    some (false, m11)
  else
    some (true, m11)
noncomputable def F_X5_worthBehind (m : Mem) (c1 : Nat) (a2 : Int32) : Option (Int32 × Mem) :=
  bnd (F_X5_theRule m) fun v1 m2 =>
  bnd (F_X0_ageBehind m2 c1 a2) fun v6 m7 =>
  bnd (F_X4_worthOf m7 v1 c1 v6 ((mD m7 0 0) + a2)) fun v10 m11 =>
  some (v10, m11)
noncomputable def F_X5_told (m : Mem) (a1 : Int32) (a2 : Int32) : Option (Int32 × Mem) :=
  if a2 = 0 then
    some (mD m 0 0, m)
  else
    bnd (F_X5_isCoin m a1) fun v2 m3 =>
    if (bz v2) = 0 then
      some ((-100000 : Int32), m3)
    else
      gIf (vp_in a1 8) <|
      if a2 = (7 : Int32) then
        bnd (F_X5_theRule m3) fun v10 m11 =>
        bnd (F_X4_turnsOf m11 v10 (20 + a1.toNatClampNeg) (mD m11 (20 + a1.toNatClampNeg) 4) (mD m11 0 0)) fun v15 m16 =>
        some (v15, m16)
      else
        if a2 = (8 : Int32) then
          bnd (F_X5_theRule m3) fun v20 m21 =>
          bnd (F_X4_givesOf m21 v20 (20 + a1.toNatClampNeg) (mD m21 (20 + a1.toNatClampNeg) 4) (mD m21 0 0)) fun v25 m26 =>
          some (v25, m26)
        else
          if a2 = (9 : Int32) then
            bnd (F_X5_theRule m3) fun v30 m31 =>
            bnd (F_X4_goesOffOf m31 v30 (20 + a1.toNatClampNeg) (mD m31 (20 + a1.toNatClampNeg) 4) (mD m31 0 0)) fun v35 m36 =>
            some (v35, m36)
          else
            if a2 = (10 : Int32) then
              bnd (F_X5_isWholeBehind m3 (20 + a1.toNatClampNeg) (0 : Int32)) fun v40 m41 =>
              if (bz v40) = 0 then
                some ((0 : Int32), m41)
              else
                some ((1 : Int32), m41)
            else
              if a2 = (11 : Int32) then
                bnd (F_X5_worthBehind m3 (20 + a1.toNatClampNeg) (0 : Int32)) fun v46 m47 =>
                some (v46, m47)
              else
                bnd (F_X5_isBetween m3 a2 (1 : Int32) (6 : Int32)) fun v50 m51 =>
                if (bz v50) = 0 then
                  some ((-100000 : Int32), m51)
                else
                  bnd (F_X0_part m51 (20 + a1.toNatClampNeg) a2) fun v55 m56 =>
                  some (v55, m56)
noncomputable def F_X5_feed (m : Mem) (a1 : Int32) : Option (Int32 × Mem) :=
  bnd (F_X5_isBetween m a1 (0 : Int32) (255 : Int32)) fun v1 m2 =>
  if (bz v1) = 0 then
    some ((-2 : Int32), m2)
  else
    if (mD m2 2 1) < (160 : Int32) then
      bnd (F_X3_add m2 a1) fun v7 m8 =>
      some (mD m8 2 1, m8)
    else
      some ((-4 : Int32), m2)
noncomputable def F_X5_text (m : Mem) (c0 : Nat) : Option (Int32 × Mem) :=
  gIf (mK m c0 = (5, 0)) <|
  gIf (mK m c0 = (5, 0)) <|
  gRef (mR m c0 4) fun r3 =>
  gIf ((mK m r3).1 = 11) <|
  if (mD m c0 5) < (Int32.ofNat ((mK m r3).2)) then
    gIf (mK m c0 = (5, 0)) <|
    gRef (mR m c0 3) fun r8 =>
    gIf (r8 = 2 ∧ ShX m) <|
    bnd (F_X3_read m) fun v11 m12 =>
    if v11 = (-1 : Int32) then
      gIf (mK m12 c0 = (5, 0)) <|
      bnd (F_X5_keepText m12 c0) fun v17 m18 =>
      gIf (mK m18 c0 = (5, 0)) <|
      some ((mD m18 c0 5) - (1 : Int32), m18)
    else
      gIf (mK m12 c0 = (5, 0)) <|
      gRef (mR m12 c0 3) fun r23 =>
      gIf (mK m12 r23 = (3, 0)) <|
      nm (wD m12 r23 1 (0 : Int32)) fun m26 =>
      some ((-100 : Int32) - v11, m26)
  else
    some ((-4 : Int32), m)
noncomputable def F_X5_force (m : Mem) (a1 : Int32) : Option (Int32 × Mem) :=
  bnd (F_X5_isBetween m a1 (0 : Int32) ((mD m 0 5) - (1 : Int32))) fun v1 m2 =>
  if (bz v1) = 0 then
    some ((-2 : Int32), m2)
  else
    nm (mD m2 0 6) fun x6 =>
    nm (wD m2 0 6 a1) fun m7 =>
    some (x6, m7)
noncomputable def F_X5_day_56 (K17 : Mem → Int32 → Int32 → Option (Int32 × Mem)) (m : Mem) (a1 : Int32) (a2 : Int32) : Option (Int32 × Mem) :=
  K17 m a1 (a2 + (1 : Int32))
noncomputable def F_X5_day_64 : Nat → Mem → Int32 → Int32 → Option (Int32 × Mem)
  | 0 => fun m a1 a2 => none
  | n + 1 => fun m a1 a2 =>
    if (mD m 0 2) ≤ a2 then
      nm (wD m 0 0 ((mD m 0 0) + (1 : Int32))) fun m18 =>
      some (a1, m18)
    else
      gIf (vp_in a2 8) <|
      gIf (vp_in a2 8) <|
      bnd (F_X0_ageBehind m (20 + a2.toNatClampNeg) (1 : Int32)) fun v23 m24 =>
      nm (wD m24 (20 + a2.toNatClampNeg) 4 v23) fun m27 =>
      F_X5_day_64 n m27 a1 (a2 + (1 : Int32))
noncomputable def F_X5_day_17 : Nat → Mem → Int32 → Int32 → Option (Int32 × Mem)
  | 0 => fun m a1 a2 => none
  | n + 1 => fun m a1 a2 =>
    if (mD m 0 2) ≤ a2 then
      F_X5_day_64 FU m a1 (0 : Int32)
    else
      gIf (vp_in a2 8) <|
      bnd (F_X5_isWholeBehind m (20 + a2.toNatClampNeg) (0 : Int32)) fun v5 m6 =>
      if (bz v5) = 0 then
        F_X5_day_56 (F_X5_day_17 n) m6 a1 a2
      else
        gIf (vp_in a2 8) <|
        bnd (F_X5_isWholeBehind m6 (20 + a2.toNatClampNeg) (1 : Int32)) fun v12 m13 =>
        if (bz v12) = 0 then
          F_X5_day_56 (F_X5_day_17 n) m13 (a1 + (1 : Int32)) a2
        else
          F_X5_day_56 (F_X5_day_17 n) m13 a1 a2
noncomputable def F_X5_day (m : Mem) : Option (Int32 × Mem) :=
  if (mD m 0 0) < (999 : Int32) then
    F_X5_day_17 FU m (0 : Int32) (0 : Int32)
  else
    some ((-3 : Int32), m)
noncomputable def F_X5_pay (m : Mem) (a1 : Int32) (a2 : Int32) : Option (Int32 × Mem) :=
  bnd (F_X5_isCoin m a1) fun v1 m2 =>
  if (bz v1) = 0 then
    some ((-2 : Int32), m2)
  else
    bnd (F_X5_isOf m2 (5 : Int32) a2) fun v6 m7 =>
    if (bz v6) = 0 then
      some ((-2 : Int32), m7)
    else
      gIf (vp_in a1 8) <|
      nm (mD m7 (20 + a1.toNatClampNeg) 5) fun x13 =>
      gIf (vp_in a1 8) <|
      bnd (F_X5_isWholeBehind m7 (20 + a1.toNatClampNeg) (0 : Int32)) fun v16 m17 =>
      if (bz v16) = 0 then
        some ((-3 : Int32), m17)
      else
        if x13 = a2 then
          some ((-3 : Int32), m17)
        else
          gIf (vp_in a1 8) <|
          bnd (F_X0_goTo m17 (20 + a1.toNatClampNeg) a2) fun v24 m25 =>
          some (x13, m25)
noncomputable def F_X5_areTwoOwners (m : Mem) (a0 : Int32) (a1 : Int32) : Option (Bool × Mem) :=
  bnd (F_X5_isOf m (5 : Int32) a0) fun v1 m2 =>
  if (bz v1) = 0 then
    some (false, m2)
  else
    bnd (F_X5_isOf m2 (5 : Int32) a1) fun v6 m7 =>
    if (bz v6) = 0 then
      some (false, m7)
    else
      if a0 = a1 then
        some (false, m7)
      else
        some (true, m7)
noncomputable def F_X5_purseBehind_50 (K5 : Mem → Int32 → Int32 → Int32 → Int32 → Option (Int32 × Mem)) (m : Mem) (a1 : Int32) (a2 : Int32) (a3 : Int32) (a4 : Int32) : Option (Int32 × Mem) :=
  K5 m a1 a2 a3 (a4 + (1 : Int32))
noncomputable def F_X5_purseBehind_5 : Nat → Mem → Int32 → Int32 → Int32 → Int32 → Option (Int32 × Mem)
  | 0 => fun m a1 a2 a3 a4 => none
  | n + 1 => fun m a1 a2 a3 a4 =>
    if (mD m 0 2) ≤ a4 then
      some (a3, m)
    else
      gIf (vp_in a4 8) <|
      if (mD m (20 + a4.toNatClampNeg) 5) = a1 then
        gIf (vp_in a4 8) <|
        bnd (F_X5_isWholeBehind m (20 + a4.toNatClampNeg) a2) fun v7 m8 =>
        if (bz v7) = 0 then
          F_X5_purseBehind_50 (F_X5_purseBehind_5 n) m8 a1 a2 a3 a4
        else
          nm (a3 ||| ((1 : Int32) <<< (a4 &&& 31))) fun x12 =>
          F_X5_purseBehind_50 (F_X5_purseBehind_5 n) m8 a1 a2 x12 a4
      else
        F_X5_purseBehind_50 (F_X5_purseBehind_5 n) m a1 a2 a3 a4
noncomputable def F_X5_purseBehind (m : Mem) (a1 : Int32) (a2 : Int32) : Option (Int32 × Mem) :=
  F_X5_purseBehind_5 FU m a1 a2 (0 : Int32) (0 : Int32)
noncomputable def F_X5_holds (m : Mem) (a0 : Int32) (a1 : Int32) : Option (Bool × Mem) :=
  if ((a0 >>> (a1 &&& 31)) &&& (1 : Int32)) = (1 : Int32) then
    some (true, m)
  else
    some (false, m)
noncomputable def F_X5_valuesOf_32 (K4 : Mem → Int32 → Int32 → Int32 → Option (Int32 × Mem)) (m : Mem) (a1 : Int32) (a2 : Int32) (a3 : Int32) : Option (Int32 × Mem) :=
  K4 m a1 a2 (a3 + (1 : Int32))
noncomputable def F_X5_valuesOf_4 : Nat → Mem → Int32 → Int32 → Int32 → Option (Int32 × Mem)
  | 0 => fun m a1 a2 a3 => none
  | n + 1 => fun m a1 a2 a3 =>
    if (mD m 0 2) ≤ a3 then
      some (a2, m)
    else
      bnd (F_X5_holds m a1 a3) fun v2 m3 =>
      if (bz v2) = 0 then
        F_X5_valuesOf_32 (F_X5_valuesOf_4 n) m3 a1 a2 a3
      else
        gIf (vp_in a3 8) <|
        nm (a2 + (mD m3 (20 + a3.toNatClampNeg) 2)) fun x9 =>
        F_X5_valuesOf_32 (F_X5_valuesOf_4 n) m3 a1 x9 a3
noncomputable def F_X5_valuesOf (m : Mem) (a1 : Int32) : Option (Int32 × Mem) :=
  F_X5_valuesOf_4 FU m a1 (0 : Int32) (0 : Int32)
noncomputable def F_J6_bitCount_0f7a4 (m : Mem) (a0 : Int32) : Option (Int32 × Mem) :=
  nm (a0 - (((a0.toUInt32 >>> ((1 : Int32).toUInt32 &&& Int32.toUInt32 31)).toInt32) &&& (1431655765 : Int32))) fun x1 =>
  nm ((x1 &&& (858993459 : Int32)) + (((x1.toUInt32 >>> ((2 : Int32).toUInt32 &&& Int32.toUInt32 31)).toInt32) &&& (858993459 : Int32))) fun x2 =>
  nm ((x2 + ((x2.toUInt32 >>> ((4 : Int32).toUInt32 &&& Int32.toUInt32 31)).toInt32)) &&& (252645135 : Int32)) fun x3 =>
  nm (x3 + ((x3.toUInt32 >>> ((8 : Int32).toUInt32 &&& Int32.toUInt32 31)).toInt32)) fun x4 =>
  nm (x4 + ((x4.toUInt32 >>> ((16 : Int32).toUInt32 &&& Int32.toUInt32 31)).toInt32)) fun x5 =>
  some (x5 &&& (63 : Int32), m)
noncomputable def F_X5_exactSet_63 (K13 : Mem → Int32 → Int32 → Int32 → Int32 → Option (Int32 × Mem)) (m : Mem) (a2 : Int32) (a3 : Int32) (a4 : Int32) (a5 : Int32) : Option (Int32 × Mem) :=
  K13 m a2 a3 a4 (a5 + (1 : Int32))
noncomputable def F_X5_exactSet_59 (K13 : Mem → Int32 → Int32 → Int32 → Int32 → Option (Int32 × Mem)) (m : Mem) (a2 : Int32) (a3 : Int32) (a5 : Int32) : Option (Int32 × Mem) :=
  F_X5_exactSet_63 K13 m a2 a3 a5 a5
noncomputable def F_X5_exactSet_13 : Nat → Mem → Int32 → Int32 → Int32 → Int32 → Option (Int32 × Mem)
  | 0 => fun m a2 a3 a4 a5 => none
  | n + 1 => fun m a2 a3 a4 a5 =>
    if (256 : Int32) ≤ a5 then
      some (a4, m)
    else
      if (a5 &&& (a3 ^^^ (-1 : Int32))) = 0 then
        bnd (F_X5_valuesOf m a5) fun v7 m8 =>
        if v7 = a2 then
          if a4 = (-1 : Int32) then
            F_X5_exactSet_59 (F_X5_exactSet_13 n) m8 a2 a3 a5
          else
            bnd (F_J6_bitCount_0f7a4 m8 a5) fun v13 m14 =>
            bnd (F_J6_bitCount_0f7a4 m14 a4) fun v17 m18 =>
            if v17 ≤ v13 then
              F_X5_exactSet_63 (F_X5_exactSet_13 n) m18 a2 a3 a4 a5
            else
              F_X5_exactSet_59 (F_X5_exactSet_13 n) m18 a2 a3 a5
        else
          F_X5_exactSet_63 (F_X5_exactSet_13 n) m8 a2 a3 a4 a5
      else
        F_X5_exactSet_63 (F_X5_exactSet_13 n) m a2 a3 a4 a5
noncomputable def F_X5_exactSet (m : Mem) (a1 : Int32) (a2 : Int32) : Option (Int32 × Mem) :=
  bnd (F_X5_purseBehind m a1 (0 : Int32)) fun v1 m2 =>
  F_X5_exactSet_13 FU m2 a2 v1 (-1 : Int32) (0 : Int32)
noncomputable def F_X5_buy_72 (K42 : Mem → Int32 → Int32 → Int32 → Option (Int32 × Mem)) (m : Mem) (a2 : Int32) (a4 : Int32) (a5 : Int32) : Option (Int32 × Mem) :=
  K42 m a2 a4 (a5 + (1 : Int32))
noncomputable def F_X5_buy_42 : Nat → Mem → Int32 → Int32 → Int32 → Option (Int32 × Mem)
  | 0 => fun m a2 a4 a5 => none
  | n + 1 => fun m a2 a4 a5 =>
    if (mD m 0 2) ≤ a5 then
      bnd (F_J6_bitCount_0f7a4 m a4) fun v17 m18 =>
      some (v17, m18)
    else
      bnd (F_X5_holds m a4 a5) fun v21 m22 =>
      if (bz v21) = 0 then
        F_X5_buy_72 (F_X5_buy_42 n) m22 a2 a4 a5
      else
        gIf (vp_in a5 8) <|
        bnd (F_X0_goTo m22 (20 + a5.toNatClampNeg) a2) fun v28 m29 =>
        F_X5_buy_72 (F_X5_buy_42 n) m29 a2 a4 a5
noncomputable def F_X5_buy (m : Mem) (a1 : Int32) (a2 : Int32) (a3 : Int32) : Option (Int32 × Mem) :=
  bnd (F_X5_areTwoOwners m a1 a2) fun v1 m2 =>
  if (bz v1) = 0 then
    some ((-2 : Int32), m2)
  else
    bnd (F_X5_isBetween m2 a3 (0 : Int32) (999 : Int32)) fun v6 m7 =>
    if (bz v6) = 0 then
      some ((-2 : Int32), m7)
    else
      bnd (F_X5_exactSet m7 a1 a3) fun v11 m12 =>
      if v11 = (-1 : Int32) then
        some ((-3 : Int32), m12)
      else
        F_X5_buy_42 FU m12 a2 v11 (0 : Int32)
noncomputable def F_X5_richBehind_43 (K5 : Mem → Int32 → Int32 → Int32 → Int32 → Option (Int32 × Mem)) (m : Mem) (a1 : Int32) (a2 : Int32) (a3 : Int32) (a4 : Int32) : Option (Int32 × Mem) :=
  K5 m a1 a2 a3 (a4 + (1 : Int32))
noncomputable def F_X5_richBehind_5 : Nat → Mem → Int32 → Int32 → Int32 → Int32 → Option (Int32 × Mem)
  | 0 => fun m a1 a2 a3 a4 => none
  | n + 1 => fun m a1 a2 a3 a4 =>
    if (mD m 0 2) ≤ a4 then
      some (a3, m)
    else
      gIf (vp_in a4 8) <|
      if (mD m (20 + a4.toNatClampNeg) 5) = a1 then
        gIf (vp_in a4 8) <|
        bnd (F_X5_worthBehind m (20 + a4.toNatClampNeg) a2) fun v7 m8 =>
        nm (a3 + v7) fun x11 =>
        F_X5_richBehind_43 (F_X5_richBehind_5 n) m8 a1 a2 x11 a4
      else
        F_X5_richBehind_43 (F_X5_richBehind_5 n) m a1 a2 a3 a4
noncomputable def F_X5_richBehind (m : Mem) (a1 : Int32) (a2 : Int32) : Option (Int32 × Mem) :=
  F_X5_richBehind_5 FU m a1 a2 (0 : Int32) (0 : Int32)
noncomputable def F_X5_coinsOf_31 (K4 : Mem → Int32 → Int32 → Int32 → Option (Int32 × Mem)) (m : Mem) (a1 : Int32) (a2 : Int32) (a3 : Int32) : Option (Int32 × Mem) :=
  K4 m a1 a2 (a3 + (1 : Int32))
noncomputable def F_X5_coinsOf_4 : Nat → Mem → Int32 → Int32 → Int32 → Option (Int32 × Mem)
  | 0 => fun m a1 a2 a3 => none
  | n + 1 => fun m a1 a2 a3 =>
    if (mD m 0 2) ≤ a3 then
      some (a2, m)
    else
      gIf (vp_in a3 8) <|
      if (mD m (20 + a3.toNatClampNeg) 5) = a1 then
        nm (a2 ||| ((1 : Int32) <<< (a3 &&& 31))) fun x5 =>
        F_X5_coinsOf_31 (F_X5_coinsOf_4 n) m a1 x5 a3
      else
        F_X5_coinsOf_31 (F_X5_coinsOf_4 n) m a1 a2 a3
noncomputable def F_X5_coinsOf (m : Mem) (a1 : Int32) : Option (Int32 × Mem) :=
  F_X5_coinsOf_4 FU m a1 (0 : Int32) (0 : Int32)
noncomputable def F_X5_toSpend_93 (K15 : Mem → Int32 → Int32 → Int32 → Int32 → Option (Int32 × Mem)) (m : Mem) (a2 : Int32) (a3 : Int32) (a4 : Int32) (a5 : Int32) : Option (Int32 × Mem) :=
  K15 m a2 a3 a4 (a5 + (1 : Int32))
noncomputable def F_X5_toSpend_86 (K15 : Mem → Int32 → Int32 → Int32 → Int32 → Option (Int32 × Mem)) (m : Mem) (a2 : Int32) (a5 : Int32) (a6 : Int32) : Option (Int32 × Mem) :=
  F_X5_toSpend_93 K15 m a2 a5 a6 a5
noncomputable def F_X5_toSpend_15 : Nat → Mem → Int32 → Int32 → Int32 → Int32 → Option (Int32 × Mem)
  | 0 => fun m a2 a3 a4 a5 => none
  | n + 1 => fun m a2 a3 a4 a5 =>
    if (mD m 0 2) ≤ a5 then
      some (a3, m)
    else
      bnd (F_X5_holds m a2 a5) fun v6 m7 =>
      if (bz v6) = 0 then
        F_X5_toSpend_93 (F_X5_toSpend_15 n) m7 a2 a3 a4 a5
      else
        bnd (F_X5_theRule m7) fun v11 m12 =>
        gIf (vp_in a5 8) <|
        gIf (vp_in a5 8) <|
        bnd (F_X4_turnsOf m12 v11 (20 + a5.toNatClampNeg) (mD m12 (20 + a5.toNatClampNeg) 4) (mD m12 0 0)) fun v20 m21 =>
        gIf (vp_in a5 8) <|
        nm (v20 - (mD m21 (20 + a5.toNatClampNeg) 4)) fun x26 =>
        if a3 = (-1 : Int32) then
          F_X5_toSpend_86 (F_X5_toSpend_15 n) m21 a2 a5 x26
        else
          if a4 ≤ x26 then
            F_X5_toSpend_93 (F_X5_toSpend_15 n) m21 a2 a3 a4 a5
          else
            F_X5_toSpend_86 (F_X5_toSpend_15 n) m21 a2 a5 x26
noncomputable def F_X5_toSpend (m : Mem) (a1 : Int32) : Option (Int32 × Mem) :=
  bnd (F_X5_purseBehind m a1 (0 : Int32)) fun v1 m2 =>
  F_X5_toSpend_15 FU m2 v1 (-1 : Int32) (0 : Int32) (0 : Int32)
noncomputable def F_X5_goneBehind_2 : Nat → Mem → Int32 → Int32 → Option (Int32 × Mem)
  | 0 => fun m a1 a2 => none
  | n + 1 => fun m a1 a2 =>
    if (40 : Int32) < a2 then
      some ((-1 : Int32), m)
    else
      bnd (F_X5_purseBehind m a1 a2) fun v2 m3 =>
      if v2 = 0 then
        some (a2, m3)
      else
        F_X5_goneBehind_2 n m3 a1 (a2 + (1 : Int32))
noncomputable def F_X5_goneBehind (m : Mem) (a1 : Int32) : Option (Int32 × Mem) :=
  F_X5_goneBehind_2 FU m a1 (0 : Int32)
noncomputable def F_X5_layWorths_43 (K2 : Mem → Int32 → Int32 → Int32 → Option (Unit × Mem)) (m : Mem) (a1 : Int32) (a2 : Int32) (a3 : Int32) (s0 : Int32) (s1 : Int32) : Option (Unit × Mem) :=
  gIf (vp_in s1 8) <|
  nm (wD m 19 s1.toNatClampNeg s0) fun m12 =>
  K2 m12 a1 a2 (a3 + (1 : Int32))
noncomputable def F_X5_layWorths_2 : Nat → Mem → Int32 → Int32 → Int32 → Option (Unit × Mem)
  | 0 => fun m a1 a2 a3 => none
  | n + 1 => fun m a1 a2 a3 =>
    if (mD m 0 2) ≤ a3 then
      some ((), m)
    else
      gIf (vp_in a3 8) <|
      if (mD m (20 + a3.toNatClampNeg) 5) = a1 then
        gIf (vp_in a3 8) <|
        bnd (F_X5_worthBehind m (20 + a3.toNatClampNeg) a2) fun v7 m8 =>
        F_X5_layWorths_43 (F_X5_layWorths_2 n) m8 a1 a2 a3 v7 a3
      else
        F_X5_layWorths_43 (F_X5_layWorths_2 n) m a1 a2 a3 (0 : Int32) a3
noncomputable def F_X5_layWorths (m : Mem) (a1 : Int32) (a2 : Int32) : Option (Unit × Mem) :=
  F_X5_layWorths_2 FU m a1 a2 (0 : Int32)
noncomputable def F_X5_mostWorth_42 (K4 : Mem → Int32 → Int32 → Int32 → Option (Int32 × Mem)) (m : Mem) (a1 : Int32) (a2 : Int32) (a3 : Int32) : Option (Int32 × Mem) :=
  K4 m a1 a2 (a3 + (1 : Int32))
noncomputable def F_X5_mostWorth_40 (K4 : Mem → Int32 → Int32 → Int32 → Option (Int32 × Mem)) (m : Mem) (a1 : Int32) (a3 : Int32) : Option (Int32 × Mem) :=
  F_X5_mostWorth_42 K4 m a1 a3 a3
noncomputable def F_X5_mostWorth_4 : Nat → Mem → Int32 → Int32 → Int32 → Option (Int32 × Mem)
  | 0 => fun m a1 a2 a3 => none
  | n + 1 => fun m a1 a2 a3 =>
    if (mD m 0 2) ≤ a3 then
      some (a2, m)
    else
      bnd (F_X5_holds m a1 a3) fun v2 m3 =>
      if (bz v2) = 0 then
        F_X5_mostWorth_42 (F_X5_mostWorth_4 n) m3 a1 a2 a3
      else
        if a2 = (-1 : Int32) then
          F_X5_mostWorth_40 (F_X5_mostWorth_4 n) m3 a1 a3
        else
          gIf (vp_in a3 8) <|
          gIf (vp_in a2 8) <|
          if (mD m3 19 a3.toNatClampNeg) ≤ (mD m3 19 a2.toNatClampNeg) then
            F_X5_mostWorth_42 (F_X5_mostWorth_4 n) m3 a1 a2 a3
          else
            F_X5_mostWorth_40 (F_X5_mostWorth_4 n) m3 a1 a3
noncomputable def F_X5_mostWorth (m : Mem) (a1 : Int32) : Option (Int32 × Mem) :=
  F_X5_mostWorth_4 FU m a1 (-1 : Int32) (0 : Int32)
noncomputable def F_X5_taxOf_65 (K25 : Mem → Int32 → Int32 → Int32 → Int32 → Option (Int32 × Mem)) (m : Mem) (a2 : Int32) (a3 : Int32) (a4 : Int32) (a5 : Int32) : Option (Int32 × Mem) :=
  K25 m a2 a3 a4 (a5 + (1 : Int32))
noncomputable def F_X5_taxOf_25 : Nat → Mem → Int32 → Int32 → Int32 → Int32 → Option (Int32 × Mem)
  | 0 => fun m a2 a3 a4 a5 => none
  | n + 1 => fun m a2 a3 a4 a5 =>
    if a3 ≤ a5 then
      some (a4, m)
    else
      bnd (F_X5_mostWorth m a2) fun v15 m16 =>
      if v15 = (-1 : Int32) then
        F_X5_taxOf_65 (F_X5_taxOf_25 n) m16 a2 a3 a4 a5
      else
        gIf (vp_in v15 8) <|
        nm (a4 + (mD m16 19 v15.toNatClampNeg)) fun x21 =>
        nm (a2 &&& (((1 : Int32) <<< (v15 &&& 31)) ^^^ (-1 : Int32))) fun x22 =>
        F_X5_taxOf_65 (F_X5_taxOf_25 n) m16 x22 a3 x21 a5
noncomputable def F_X5_taxOf (m : Mem) (a1 : Int32) : Option (Int32 × Mem) :=
  bnd (F_X5_layWorths m a1 (0 : Int32)) fun v1 m2 =>
  bnd (F_X5_coinsOf m2 a1) fun v5 m6 =>
  bnd (F_J6_bitCount_0f7a4 m6 v5) fun v9 m10 =>
  nm (v9 / (2 : Int32)) fun x13 =>
  F_X5_taxOf_25 FU m10 v5 x13 (0 : Int32) (0 : Int32)
noncomputable def F_X5_has (m : Mem) (a1 : Int32) (a2 : Int32) : Option (Int32 × Mem) :=
  bnd (F_X5_isOf m (5 : Int32) a1) fun v1 m2 =>
  if (bz v1) = 0 then
    some ((-100000 : Int32), m2)
  else
    if a2 = (0 : Int32) then
      bnd (F_X5_richBehind m2 a1 (0 : Int32)) fun v7 m8 =>
      some (v7, m8)
    else
      if a2 = (1 : Int32) then
        bnd (F_X5_purseBehind m2 a1 (0 : Int32)) fun v12 m13 =>
        some (v12, m13)
      else
        if a2 = (2 : Int32) then
          bnd (F_X5_purseBehind m2 a1 (0 : Int32)) fun v17 m18 =>
          bnd (F_X5_valuesOf m18 v17) fun v21 m22 =>
          some (v21, m22)
        else
          if a2 = (3 : Int32) then
            bnd (F_X5_coinsOf m2 a1) fun v26 m27 =>
            bnd (F_X5_purseBehind m27 a1 (0 : Int32)) fun v30 m31 =>
            some (v26 &&& (v30 ^^^ (-1 : Int32)), m31)
          else
            if a2 = (4 : Int32) then
              bnd (F_X5_toSpend m2 a1) fun v35 m36 =>
              some (v35, m36)
            else
              if a2 = (5 : Int32) then
                bnd (F_X5_goneBehind m2 a1) fun v40 m41 =>
                some (v40, m41)
              else
                if a2 = (6 : Int32) then
                  bnd (F_X5_taxOf m2 a1) fun v45 m46 =>
                  some (v45, m46)
                else
                  some ((-100000 : Int32), m2)
noncomputable def F_X5_run_27 (m : Mem) : Option (Int32 × Mem) :=
  some ((-100000 : Int32), m)
noncomputable def F_X5_run (m : Mem) (a1 : Int32) (a2 : Int32) (a3 : Int32) : Option (Int32 × Mem) :=
  bnd (F_X5_isOf m (5 : Int32) a1) fun v1 m2 =>
  if (bz v1) = 0 then
    F_X5_run_27 m2
  else
    bnd (F_X5_isBetween m2 a2 (0 : Int32) (40 : Int32)) fun v6 m7 =>
    if (bz v6) = 0 then
      F_X5_run_27 m7
    else
      bnd (F_X5_isBetween m7 a3 (0 : Int32) (1 : Int32)) fun v11 m12 =>
      if (bz v11) = 0 then
        F_X5_run_27 m12
      else
        if a3 = 0 then
          bnd (F_X5_richBehind m12 a1 a2) fun v25 m26 =>
          some (v25, m26)
        else
          bnd (F_X5_purseBehind m12 a1 a2) fun v17 m18 =>
          bnd (F_J6_bitCount_0f7a4 m18 v17) fun v21 m22 =>
          some (v21, m22)
noncomputable def F_X5_overSet_100 (K16 : Mem → Int32 → Int32 → Int32 → Int32 → Int32 → Option (Int32 × Mem)) (m : Mem) (a2 : Int32) (a3 : Int32) (a4 : Int32) (a5 : Int32) (a6 : Int32) : Option (Int32 × Mem) :=
  K16 m a2 a3 a4 a5 (a6 + (1 : Int32))
noncomputable def F_X5_overSet_79 (K16 : Mem → Int32 → Int32 → Int32 → Int32 → Int32 → Option (Int32 × Mem)) (m : Mem) (a2 : Int32) (a3 : Int32) (a4 : Int32) (a5 : Int32) (a6 : Int32) (a7 : Int32) (s0 : Int32) : Option (Int32 × Mem) :=
  if a7 < a2 then
    F_X5_overSet_100 K16 m a2 a3 a4 a5 a6
  else
    if s0 = 0 then
      F_X5_overSet_100 K16 m a2 a3 a4 a5 a6
    else
      F_X5_overSet_100 K16 m a2 a3 a6 a7 a6
noncomputable def F_X5_overSet_74 (K16 : Mem → Int32 → Int32 → Int32 → Int32 → Int32 → Option (Int32 × Mem)) (m : Mem) (a2 : Int32) (a3 : Int32) (a4 : Int32) (a5 : Int32) (a6 : Int32) (a7 : Int32) : Option (Int32 × Mem) :=
  F_X5_overSet_79 K16 m a2 a3 a4 a5 a6 a7 (1 : Int32)
noncomputable def F_X5_overSet_78 (K16 : Mem → Int32 → Int32 → Int32 → Int32 → Int32 → Option (Int32 × Mem)) (m : Mem) (a2 : Int32) (a3 : Int32) (a4 : Int32) (a5 : Int32) (a6 : Int32) (a7 : Int32) : Option (Int32 × Mem) :=
  F_X5_overSet_79 K16 m a2 a3 a4 a5 a6 a7 (0 : Int32)
noncomputable def F_X5_overSet_16 : Nat → Mem → Int32 → Int32 → Int32 → Int32 → Int32 → Option (Int32 × Mem)
  | 0 => fun m a2 a3 a4 a5 a6 => none
  | n + 1 => fun m a2 a3 a4 a5 a6 =>
    if (256 : Int32) ≤ a6 then
      some (a4, m)
    else
      if (a6 &&& (a3 ^^^ (-1 : Int32))) = 0 then
        bnd (F_X5_valuesOf m a6) fun v7 m8 =>
        if a4 = (-1 : Int32) then
          F_X5_overSet_74 (F_X5_overSet_16 n) m8 a2 a3 a4 a5 a6 v7
        else
          if v7 < a5 then
            F_X5_overSet_74 (F_X5_overSet_16 n) m8 a2 a3 a4 a5 a6 v7
          else
            if v7 = a5 then
              bnd (F_J6_bitCount_0f7a4 m8 a6) fun v14 m15 =>
              bnd (F_J6_bitCount_0f7a4 m15 a4) fun v18 m19 =>
              if v18 ≤ v14 then
                F_X5_overSet_78 (F_X5_overSet_16 n) m19 a2 a3 a4 a5 a6 v7
              else
                F_X5_overSet_74 (F_X5_overSet_16 n) m19 a2 a3 a4 a5 a6 v7
            else
              F_X5_overSet_78 (F_X5_overSet_16 n) m8 a2 a3 a4 a5 a6 v7
      else
        F_X5_overSet_100 (F_X5_overSet_16 n) m a2 a3 a4 a5 a6
noncomputable def F_X5_overSet (m : Mem) (a1 : Int32) (a2 : Int32) : Option (Int32 × Mem) :=
  bnd (F_X5_purseBehind m a1 (0 : Int32)) fun v1 m2 =>
  F_X5_overSet_16 FU m2 a2 v1 (-1 : Int32) (0 : Int32) (0 : Int32)
noncomputable def F_X5_exact_51 (m : Mem) (a3 : Int32) (s0 : Int32) : Option (Int32 × Mem) :=
  if s0 = (-1 : Int32) then
    some ((-1 : Int32), m)
  else
    if a3 = (1 : Int32) then
      bnd (F_J6_bitCount_0f7a4 m s0) fun v32 m33 =>
      some (v32, m33)
    else
      if a3 = (3 : Int32) then
        bnd (F_X5_valuesOf m s0) fun v28 m29 =>
        some (v28, m29)
      else
        some (s0, m)
noncomputable def F_X5_exact (m : Mem) (a1 : Int32) (a2 : Int32) (a3 : Int32) : Option (Int32 × Mem) :=
  bnd (F_X5_isOf m (5 : Int32) a1) fun v1 m2 =>
  if (bz v1) = 0 then
    some ((-2 : Int32), m2)
  else
    bnd (F_X5_isBetween m2 a2 (0 : Int32) (999 : Int32)) fun v6 m7 =>
    if (bz v6) = 0 then
      some ((-2 : Int32), m7)
    else
      bnd (F_X5_isBetween m7 a3 (0 : Int32) (3 : Int32)) fun v11 m12 =>
      if (bz v11) = 0 then
        some ((-2 : Int32), m12)
      else
        if (2 : Int32) ≤ a3 then
          bnd (F_X5_overSet m12 a1 a2) fun v17 m18 =>
          F_X5_exact_51 m18 a3 v17
        else
          bnd (F_X5_exactSet m12 a1 a2) fun v21 m22 =>
          F_X5_exact_51 m22 a3 v21
noncomputable def F_X5_worthsWithout_29 (K4 : Mem → Int32 → Int32 → Int32 → Option (Int32 × Mem)) (m : Mem) (a1 : Int32) (a2 : Int32) (a3 : Int32) : Option (Int32 × Mem) :=
  K4 m a1 a2 (a3 + (1 : Int32))
noncomputable def F_X5_worthsWithout_4 : Nat → Mem → Int32 → Int32 → Int32 → Option (Int32 × Mem)
  | 0 => fun m a1 a2 a3 => none
  | n + 1 => fun m a1 a2 a3 =>
    if (mD m 0 2) ≤ a3 then
      some (a2, m)
    else
      bnd (F_X5_holds m a1 a3) fun v2 m3 =>
      if (bz v2) = 0 then
        gIf (vp_in a3 8) <|
        nm (a2 + (mD m3 19 a3.toNatClampNeg)) fun x8 =>
        F_X5_worthsWithout_29 (F_X5_worthsWithout_4 n) m3 a1 x8 a3
      else
        F_X5_worthsWithout_29 (F_X5_worthsWithout_4 n) m3 a1 a2 a3
noncomputable def F_X5_worthsWithout (m : Mem) (a1 : Int32) : Option (Int32 × Mem) :=
  F_X5_worthsWithout_4 FU m a1 (0 : Int32) (0 : Int32)
noncomputable def F_X5_wiseSet_72 (K16 : Mem → Int32 → Int32 → Int32 → Int32 → Int32 → Option (Int32 × Mem)) (m : Mem) (a2 : Int32) (a3 : Int32) (a4 : Int32) (a5 : Int32) (a6 : Int32) : Option (Int32 × Mem) :=
  K16 m a2 a3 a4 a5 (a6 + (1 : Int32))
noncomputable def F_X5_wiseSet_64 (K16 : Mem → Int32 → Int32 → Int32 → Int32 → Int32 → Option (Int32 × Mem)) (m : Mem) (a2 : Int32) (a3 : Int32) (a6 : Int32) (a7 : Int32) : Option (Int32 × Mem) :=
  F_X5_wiseSet_72 K16 m a2 a3 a6 a7 a6
noncomputable def F_X5_wiseSet_16 : Nat → Mem → Int32 → Int32 → Int32 → Int32 → Int32 → Option (Int32 × Mem)
  | 0 => fun m a2 a3 a4 a5 a6 => none
  | n + 1 => fun m a2 a3 a4 a5 a6 =>
    if (256 : Int32) ≤ a6 then
      some (a4, m)
    else
      if (a6 &&& (a3 ^^^ (-1 : Int32))) = 0 then
        bnd (F_X5_valuesOf m a6) fun v7 m8 =>
        if v7 < a2 then
          F_X5_wiseSet_72 (F_X5_wiseSet_16 n) m8 a2 a3 a4 a5 a6
        else
          bnd (F_X5_worthsWithout m8 a6) fun v12 m13 =>
          if a4 = (-1 : Int32) then
            F_X5_wiseSet_64 (F_X5_wiseSet_16 n) m13 a2 a3 a6 v12
          else
            if v12 ≤ a5 then
              F_X5_wiseSet_72 (F_X5_wiseSet_16 n) m13 a2 a3 a4 a5 a6
            else
              F_X5_wiseSet_64 (F_X5_wiseSet_16 n) m13 a2 a3 a6 v12
      else
        F_X5_wiseSet_72 (F_X5_wiseSet_16 n) m a2 a3 a4 a5 a6
noncomputable def F_X5_wiseSet (m : Mem) (a1 : Int32) (a2 : Int32) : Option (Int32 × Mem) :=
  bnd (F_X5_purseBehind m a1 (0 : Int32)) fun v1 m2 =>
  F_X5_wiseSet_16 FU m2 a2 v1 (-1 : Int32) (0 : Int32) (0 : Int32)
noncomputable def F_X5_wise (m : Mem) (a1 : Int32) (a2 : Int32) (a3 : Int32) (a4 : Int32) : Option (Int32 × Mem) :=
  bnd (F_X5_isOf m (5 : Int32) a1) fun v1 m2 =>
  if (bz v1) = 0 then
    some ((-2 : Int32), m2)
  else
    bnd (F_X5_isBetween m2 a2 (0 : Int32) (999 : Int32)) fun v6 m7 =>
    if (bz v6) = 0 then
      some ((-2 : Int32), m7)
    else
      bnd (F_X5_isBetween m7 a3 (0 : Int32) (40 : Int32)) fun v11 m12 =>
      if (bz v11) = 0 then
        some ((-2 : Int32), m12)
      else
        bnd (F_X5_isBetween m12 a4 (0 : Int32) (1 : Int32)) fun v16 m17 =>
        if (bz v16) = 0 then
          some ((-2 : Int32), m17)
        else
          bnd (F_X5_layWorths m17 a1 a3) fun v21 m22 =>
          bnd (F_X5_wiseSet m22 a1 a2) fun v25 m26 =>
          if a4 = 0 then
            some (v25, m26)
          else
            if v25 = (-1 : Int32) then
              some ((-100000 : Int32), m26)
            else
              bnd (F_X5_worthsWithout m26 v25) fun v31 m32 =>
              some (v31, m32)
noncomputable def F_X5_gainIfPaid (m : Mem) (a1 : Int32) (a2 : Int32) : Option (Int32 × Mem) :=
  bnd (F_X5_isCoin m a1) fun v1 m2 =>
  if (bz v1) = 0 then
    some ((0 : Int32), m2)
  else
    gIf (vp_in a1 8) <|
    bnd (F_X0_become m2 18 (20 + a1.toNatClampNeg)) fun v8 m9 =>
    bnd (F_X0_goTo m9 18 a2) fun v12 m13 =>
    nm ((mD m13 0 0) + (10 : Int32)) fun x16 =>
    bnd (F_X5_theRule m13) fun v17 m18 =>
    bnd (F_X0_ageBehind m18 18 (10 : Int32)) fun v22 m23 =>
    bnd (F_X4_worthOf m23 v17 18 v22 x16) fun v26 m27 =>
    bnd (F_X5_theRule m27) fun v30 m31 =>
    bnd (F_X0_ageBehind m31 (20 + a1.toNatClampNeg) (10 : Int32)) fun v35 m36 =>
    bnd (F_X4_worthOf m36 v30 (20 + a1.toNatClampNeg) v35 x16) fun v39 m40 =>
    some (v26 - v39, m40)
noncomputable def F_X5_bestPair_102 (K24 : Mem → Int32 → Int32 → Int32 → Int32 → Int32 → Int32 → Int32 → Option (Int32 × Mem)) (K36 : Mem → Int32 → Int32 → Int32 → Int32 → Int32 → Int32 → Int32 → Int32 → Option (Int32 × Mem)) (m : Mem) (a1 : Int32) (a2 : Int32) (a3 : Int32) (a4 : Int32) (a5 : Int32) (a6 : Int32) (a7 : Int32) (a8 : Int32) : Option (Int32 × Mem) :=
  K36 m a1 a2 a3 a4 a5 a6 a7 (a8 + (1 : Int32))
noncomputable def F_X5_bestPair_36 (K24 : Mem → Int32 → Int32 → Int32 → Int32 → Int32 → Int32 → Int32 → Option (Int32 × Mem)) : Nat → Mem → Int32 → Int32 → Int32 → Int32 → Int32 → Int32 → Int32 → Int32 → Option (Int32 × Mem)
  | 0 => fun m a1 a2 a3 a4 a5 a6 a7 a8 => none
  | n + 1 => fun m a1 a2 a3 a4 a5 a6 a7 a8 =>
    if (mD m 0 2) ≤ a8 then
      K24 m a1 a2 a3 a4 a5 a6 (a7 + (1 : Int32))
    else
      bnd (F_X5_holds m a3 a7) fun v11 m12 =>
      if (bz v11) = 0 then
        F_X5_bestPair_102 K24 (F_X5_bestPair_36 K24 n) m12 a1 a2 a3 a4 a5 a6 a7 a8
      else
        bnd (F_X5_holds m12 a4 a8) fun v16 m17 =>
        if (bz v16) = 0 then
          F_X5_bestPair_102 K24 (F_X5_bestPair_36 K24 n) m17 a1 a2 a3 a4 a5 a6 a7 a8
        else
          bnd (F_X5_gainIfPaid m17 a7 a2) fun v21 m22 =>
          bnd (F_X5_gainIfPaid m22 a8 a1) fun v25 m26 =>
          nm (v21 + v25) fun x29 =>
          if x29 ≤ a6 then
            F_X5_bestPair_102 K24 (F_X5_bestPair_36 K24 n) m26 a1 a2 a3 a4 a5 a6 a7 a8
          else
            nm (((10 : Int32) * a7) + a8) fun x31 =>
            F_X5_bestPair_102 K24 (F_X5_bestPair_36 K24 n) m26 a1 a2 a3 a4 x31 x29 a7 a8
noncomputable def F_X5_bestPair_24 : Nat → Mem → Int32 → Int32 → Int32 → Int32 → Int32 → Int32 → Int32 → Option (Int32 × Mem)
  | 0 => fun m a1 a2 a3 a4 a5 a6 a7 => none
  | n + 1 => fun m a1 a2 a3 a4 a5 a6 a7 =>
    if (mD m 0 2) ≤ a7 then
      some (a5, m)
    else
      F_X5_bestPair_36 (F_X5_bestPair_24 n) FU m a1 a2 a3 a4 a5 a6 a7 (0 : Int32)
noncomputable def F_X5_bestPair (m : Mem) (a1 : Int32) (a2 : Int32) : Option (Int32 × Mem) :=
  bnd (F_X5_purseBehind m a1 (0 : Int32)) fun v1 m2 =>
  bnd (F_X5_purseBehind m2 a2 (0 : Int32)) fun v5 m6 =>
  F_X5_bestPair_24 FU m6 a1 a2 v1 v5 (-1 : Int32) (0 : Int32) (0 : Int32)
noncomputable def F_X5_change_17 (m : Mem) : Option (Int32 × Mem) :=
  some ((-100000 : Int32), m)
noncomputable def F_X5_change (m : Mem) (a1 : Int32) (a2 : Int32) (a3 : Int32) : Option (Int32 × Mem) :=
  bnd (F_X5_areTwoOwners m a1 a2) fun v1 m2 =>
  if (bz v1) = 0 then
    F_X5_change_17 m2
  else
    bnd (F_X5_isBetween m2 a3 (0 : Int32) (1 : Int32)) fun v6 m7 =>
    if (bz v6) = 0 then
      F_X5_change_17 m7
    else
      bnd (F_X5_bestPair m7 a1 a2) fun v11 m12 =>
      if a3 = 0 then
        some (v11, m12)
      else
        bnd (F_X5_richBehind m12 a1 (10 : Int32)) fun v16 m17 =>
        bnd (F_X5_richBehind m17 a2 (10 : Int32)) fun v20 m21 =>
        nm (v16 + v20) fun x24 =>
        if v11 = (-1 : Int32) then
          some (x24, m21)
        else
          bnd (F_X5_gainIfPaid m21 (v11 / (10 : Int32)) a2) fun v26 m27 =>
          bnd (F_X5_gainIfPaid m27 (v11 - v11 / (10 : Int32) * (10 : Int32)) a1) fun v30 m31 =>
          some ((x24 + v26) + v30, m31)
noncomputable def F_X5_isSheet (m : Mem) (a0 : Int32) : Option (Bool × Mem) :=
  if a0 < 0 then
    some (false, m)
  else
    if (4 : Int32) ≤ a0 then
      some (false, m)
    else
      some (true, m)
noncomputable def F_X5_firstOtherwise_3 : Nat → Mem → Nat → Nat → Nat → Int32 → Option (Int32 × Mem)
  | 0 => fun m a1 a2 a3 a4 => none
  | n + 1 => fun m a1 a2 a3 a4 =>
    if (mD m a1 1) ≤ a4 then
      some ((-1 : Int32), m)
    else
      bnd (F_X0_ageBehind m a3 a4) fun v2 m3 =>
      bnd (F_X4_worthOf m3 a2 a3 v2 ((mD m3 0 0) + a4)) fun v6 m7 =>
      gIf (vp_in a4 40) <|
      if v6 = (mD m7 (a1 + 1) a4.toNatClampNeg) then
        F_X5_firstOtherwise_3 n m7 a1 a2 a3 (a4 + (1 : Int32))
      else
        some (a4, m7)
noncomputable def F_X5_firstOtherwise (m : Mem) (c1 : Nat) (c2 : Nat) (c3 : Nat) : Option (Int32 × Mem) :=
  F_X5_firstOtherwise_3 FU m c1 c2 c3 (0 : Int32)
noncomputable def F_X5_wouldBeSo (m : Mem) (c1 : Nat) (c2 : Nat) (a3 : Int32) (a4 : Int32) : Option (Bool × Mem) :=
  bnd (F_X0_become m 18 c2) fun v1 m2 =>
  bnd (F_X0_lay m2 18 a3 a4) fun v5 m6 =>
  bnd (F_X5_theRule m6) fun v9 m10 =>
  bnd (F_X5_firstOtherwise m10 c1 v9 18) fun v14 m15 =>
  if v14 = (-1 : Int32) then
    some (true, m15)
  else
    some (false, m15)
noncomputable def F_X5_soBits_41 (K10 : Mem → Nat → Nat → Int32 → Int32 → Int32 → Option (Int32 × Mem)) (m : Mem) (a1 : Nat) (a2 : Nat) (a3 : Int32) (a4 : Int32) (a5 : Int32) : Option (Int32 × Mem) :=
  K10 m a1 a2 a3 a4 (a5 + (1 : Int32))
noncomputable def F_X5_soBits_10 : Nat → Mem → Nat → Nat → Int32 → Int32 → Int32 → Option (Int32 × Mem)
  | 0 => fun m a1 a2 a3 a4 a5 => none
  | n + 1 => fun m a1 a2 a3 a4 a5 =>
    gIf (vp_in a3 7) <|
    if (fMOST a3.toNatClampNeg) < a5 then
      some (a4, m)
    else
      bnd (F_X5_wouldBeSo m a1 a2 a3 a5) fun v5 m6 =>
      if (bz v5) = 0 then
        F_X5_soBits_41 (F_X5_soBits_10 n) m6 a1 a2 a3 a4 a5
      else
        nm (a4 ||| ((1 : Int32) <<< (a5 &&& 31))) fun x10 =>
        F_X5_soBits_41 (F_X5_soBits_10 n) m6 a1 a2 a3 x10 a5
noncomputable def F_X5_soBits (m : Mem) (c1 : Nat) (c2 : Nat) (a3 : Int32) : Option (Int32 × Mem) :=
  gIf (vp_in a3 7) <|
  nm (fLEAST a3.toNatClampNeg) fun x2 =>
  F_X5_soBits_10 FU m c1 c2 a3 (0 : Int32) x2
noncomputable def F_X5_soCount_32 (K10 : Mem → Nat → Nat → Int32 → Int32 → Int32 → Int32 → Option (Int32 × Mem)) (m : Mem) (a1 : Nat) (a2 : Nat) (a3 : Int32) (a4 : Int32) (a5 : Int32) (a6 : Int32) : Option (Int32 × Mem) :=
  K10 m a1 a2 a3 a4 a5 (a6 + (1 : Int32))
noncomputable def F_X5_soCount_10 : Nat → Mem → Nat → Nat → Int32 → Int32 → Int32 → Int32 → Option (Int32 × Mem)
  | 0 => fun m a1 a2 a3 a4 a5 a6 => none
  | n + 1 => fun m a1 a2 a3 a4 a5 a6 =>
    if a4 < a6 then
      some (a5, m)
    else
      bnd (F_X5_wouldBeSo m a1 a2 a3 a6) fun v4 m5 =>
      if (bz v4) = 0 then
        F_X5_soCount_32 (F_X5_soCount_10 n) m5 a1 a2 a3 a4 a5 a6
      else
        F_X5_soCount_32 (F_X5_soCount_10 n) m5 a1 a2 a3 a4 (a5 + (1 : Int32)) a6
noncomputable def F_X5_soCount (m : Mem) (c1 : Nat) (c2 : Nat) (a3 : Int32) (a4 : Int32) : Option (Int32 × Mem) :=
  gIf (vp_in a3 7) <|
  nm (fLEAST a3.toNatClampNeg) fun x2 =>
  F_X5_soCount_10 FU m c1 c2 a3 a4 (0 : Int32) x2
noncomputable def F_X5_soLeast_7 : Nat → Mem → Nat → Nat → Int32 → Int32 → Int32 → Option (Int32 × Mem)
  | 0 => fun m a1 a2 a3 a4 a5 => none
  | n + 1 => fun m a1 a2 a3 a4 a5 =>
    if a4 < a5 then
      some ((-1 : Int32), m)
    else
      bnd (F_X5_wouldBeSo m a1 a2 a3 a5) fun v4 m5 =>
      if (bz v4) = 0 then
        F_X5_soLeast_7 n m5 a1 a2 a3 a4 (a5 + (1 : Int32))
      else
        some (a5, m5)
noncomputable def F_X5_soLeast (m : Mem) (c1 : Nat) (c2 : Nat) (a3 : Int32) (a4 : Int32) : Option (Int32 × Mem) :=
  gIf (vp_in a3 7) <|
  nm (fLEAST a3.toNatClampNeg) fun x2 =>
  F_X5_soLeast_7 FU m c1 c2 a3 a4 x2
noncomputable def F_X5_soTexts_38 (K5 : Mem → Nat → Nat → Int32 → Int32 → Option (Int32 × Mem)) (m : Mem) (a1 : Nat) (a2 : Nat) (a3 : Int32) (a4 : Int32) : Option (Int32 × Mem) :=
  K5 m a1 a2 a3 (a4 + (1 : Int32))
noncomputable def F_X5_soTexts_5 : Nat → Mem → Nat → Nat → Int32 → Int32 → Option (Int32 × Mem)
  | 0 => fun m a1 a2 a3 a4 => none
  | n + 1 => fun m a1 a2 a3 a4 =>
    if (mD m 0 5) ≤ a4 then
      some (a3, m)
    else
      gIf (vp_in a4 6) <|
      gRef (mR m 6 a4.toNatClampNeg) fun r4 =>
      bnd (F_X5_firstOtherwise m a1 r4 a2) fun v6 m7 =>
      if v6 = (-1 : Int32) then
        nm (a3 ||| ((1 : Int32) <<< (a4 &&& 31))) fun x11 =>
        F_X5_soTexts_38 (F_X5_soTexts_5 n) m7 a1 a2 x11 a4
      else
        F_X5_soTexts_38 (F_X5_soTexts_5 n) m7 a1 a2 a3 a4
noncomputable def F_X5_soTexts (m : Mem) (c1 : Nat) (c2 : Nat) : Option (Int32 × Mem) :=
  F_X5_soTexts_5 FU m c1 c2 (0 : Int32) (0 : Int32)
noncomputable def F_X5_soCoins_37 (K4 : Mem → Nat → Int32 → Int32 → Option (Int32 × Mem)) (m : Mem) (a1 : Nat) (a2 : Int32) (a3 : Int32) : Option (Int32 × Mem) :=
  K4 m a1 a2 (a3 + (1 : Int32))
noncomputable def F_X5_soCoins_4 : Nat → Mem → Nat → Int32 → Int32 → Option (Int32 × Mem)
  | 0 => fun m a1 a2 a3 => none
  | n + 1 => fun m a1 a2 a3 =>
    if (mD m 0 2) ≤ a3 then
      some (a2, m)
    else
      bnd (F_X5_theRule m) fun v2 m3 =>
      gIf (vp_in a3 8) <|
      bnd (F_X5_firstOtherwise m3 a1 v2 (20 + a3.toNatClampNeg)) fun v9 m10 =>
      if v9 = (-1 : Int32) then
        nm (a2 ||| ((1 : Int32) <<< (a3 &&& 31))) fun x14 =>
        F_X5_soCoins_37 (F_X5_soCoins_4 n) m10 a1 x14 a3
      else
        F_X5_soCoins_37 (F_X5_soCoins_4 n) m10 a1 a2 a3
noncomputable def F_X5_soCoins (m : Mem) (c1 : Nat) : Option (Int32 × Mem) :=
  F_X5_soCoins_4 FU m c1 (0 : Int32) (0 : Int32)
noncomputable def F_X5_tells (m : Mem) (a1 : Int32) (a2 : Int32) (a3 : Int32) : Option (Int32 × Mem) :=
  bnd (F_X5_isSheet m a1) fun v1 m2 =>
  if (bz v1) = 0 then
    some ((-2 : Int32), m2)
  else
    bnd (F_X5_isCoin m2 a2) fun v6 m7 =>
    if (bz v6) = 0 then
      some ((-2 : Int32), m7)
    else
      bnd (F_X5_isBetween m7 a3 (0 : Int32) (9 : Int32)) fun v11 m12 =>
      if (bz v11) = 0 then
        some ((-2 : Int32), m12)
      else
        gIf (vp_in a1 4) <|
        bnd (F_X2_isMissing m12 (28 + 2 * a1.toNatClampNeg)) fun v18 m19 =>
        if (bz v18) = 0 then
          gIf (vp_in a2 8) <|
          if a3 = (0 : Int32) then
            bnd (F_X5_theRule m19) fun v26 m27 =>
            bnd (F_X5_firstOtherwise m27 (28 + 2 * a1.toNatClampNeg) v26 (20 + a2.toNatClampNeg)) fun v31 m32 =>
            some (v31, m32)
          else
            if a3 = (1 : Int32) then
              bnd (F_X5_soBits m19 (28 + 2 * a1.toNatClampNeg) (20 + a2.toNatClampNeg) (6 : Int32)) fun v36 m37 =>
              some (v36, m37)
            else
              if a3 = (2 : Int32) then
                bnd (F_X5_soBits m19 (28 + 2 * a1.toNatClampNeg) (20 + a2.toNatClampNeg) (1 : Int32)) fun v41 m42 =>
                some (v41, m42)
              else
                if a3 = (3 : Int32) then
                  bnd (F_X5_soBits m19 (28 + 2 * a1.toNatClampNeg) (20 + a2.toNatClampNeg) (3 : Int32)) fun v46 m47 =>
                  some (v46, m47)
                else
                  if a3 = (4 : Int32) then
                    bnd (F_X5_soCount m19 (28 + 2 * a1.toNatClampNeg) (20 + a2.toNatClampNeg) (4 : Int32) (99 : Int32)) fun v51 m52 =>
                    some (v51, m52)
                  else
                    if a3 = (5 : Int32) then
                      bnd (F_X5_soLeast m19 (28 + 2 * a1.toNatClampNeg) (20 + a2.toNatClampNeg) (4 : Int32) (99 : Int32)) fun v56 m57 =>
                      some (v56, m57)
                    else
                      if a3 = (6 : Int32) then
                        gIf (vp_in (2 : Int32) 7) <|
                        bnd (F_X5_soCount m19 (28 + 2 * a1.toNatClampNeg) (20 + a2.toNatClampNeg) (2 : Int32) (fMOST (2 : Int32).toNatClampNeg)) fun v62 m63 =>
                        some (v62, m63)
                      else
                        if a3 = (7 : Int32) then
                          gIf (vp_in (2 : Int32) 7) <|
                          bnd (F_X5_soLeast m19 (28 + 2 * a1.toNatClampNeg) (20 + a2.toNatClampNeg) (2 : Int32) (fMOST (2 : Int32).toNatClampNeg)) fun v68 m69 =>
                          some (v68, m69)
                        else
                          if a3 = (8 : Int32) then
                            bnd (F_X5_soTexts m19 (28 + 2 * a1.toNatClampNeg) (20 + a2.toNatClampNeg)) fun v73 m74 =>
                            some (v73, m74)
                          else
                            bnd (F_X5_soCoins m19 (28 + 2 * a1.toNatClampNeg)) fun v77 m78 =>
                            some (v77, m78)
        else
          some ((-11 : Int32), m19)
noncomputable def F_X5_film_42 : Nat → Mem → Int32 → Int32 → Int32 → Int32 → Option (Int32 × Mem)
  | 0 => fun m a1 a2 a3 a4 => none
  | n + 1 => fun m a1 a2 a3 a4 =>
    if a3 ≤ a4 then
      some (a3, m)
    else
      gIf (vp_in a1 4) <|
      gIf (vp_in a2 8) <|
      bnd (F_X5_worthBehind m (20 + a2.toNatClampNeg) a4) fun v27 m28 =>
      bnd (F_X2_put m28 (28 + 2 * a1.toNatClampNeg) a4 v27) fun v31 m32 =>
      F_X5_film_42 n m32 a1 a2 a3 (a4 + (1 : Int32))
noncomputable def F_X5_film (m : Mem) (a1 : Int32) (a2 : Int32) (a3 : Int32) : Option (Int32 × Mem) :=
  bnd (F_X5_isSheet m a1) fun v1 m2 =>
  if (bz v1) = 0 then
    some ((-2 : Int32), m2)
  else
    bnd (F_X5_isCoin m2 a2) fun v6 m7 =>
    if (bz v6) = 0 then
      some ((-2 : Int32), m7)
    else
      bnd (F_X5_isBetween m7 a3 (0 : Int32) (40 : Int32)) fun v11 m12 =>
      if (bz v11) = 0 then
        some ((-2 : Int32), m12)
      else
        gIf (vp_in a1 4) <|
        bnd (F_X2_become m12 (28 + 2 * a1.toNatClampNeg) (2 : Int32) a3) fun v18 m19 =>
        F_X5_film_42 FU m19 a1 a2 a3 (0 : Int32)
noncomputable def F_X5_nextDraw (m : Mem) (a0 : Int32) : Option (Int32 × Mem) :=
  some ((a0 * (1103515245 : Int32)) + (12345 : Int32), m)
noncomputable def F_X5_drawnAge (m : Mem) (a0 : Int32) : Option (Int32 × Mem) :=
  some (((a0.toUInt32 >>> ((9 : Int32).toUInt32 &&& Int32.toUInt32 31)).toInt32) - ((a0.toUInt32 >>> ((9 : Int32).toUInt32 &&& Int32.toUInt32 31)).toInt32) / (15 : Int32) * (15 : Int32), m)
noncomputable def F_X5_drawn_75 (K19 : Mem → Int32 → Int32 → Int32 → Int32 → Option (Int32 × Mem)) (m : Mem) (a2 : Int32) (a3 : Int32) (a4 : Int32) (a5 : Int32) : Option (Int32 × Mem) :=
  K19 m a2 a3 a4 (a5 + (1 : Int32))
noncomputable def F_X5_drawn_19 : Nat → Mem → Int32 → Int32 → Int32 → Int32 → Option (Int32 × Mem)
  | 0 => fun m a2 a3 a4 a5 => none
  | n + 1 => fun m a2 a3 a4 a5 =>
    if (mD m 0 2) ≤ a5 then
      some (a3, m)
    else
      bnd (F_X5_nextDraw m a4) fun v7 m8 =>
      gIf (vp_in a5 8) <|
      if (mD m8 (20 + a5.toNatClampNeg) 5) = a2 then
        bnd (F_X5_theRule m8) fun v14 m15 =>
        gIf (vp_in a5 8) <|
        bnd (F_X5_drawnAge m15 v7) fun v21 m22 =>
        bnd (F_X4_worthOf m22 v14 (20 + a5.toNatClampNeg) v21 (mD m22 0 0)) fun v25 m26 =>
        nm (a3 + v25) fun x29 =>
        F_X5_drawn_75 (F_X5_drawn_19 n) m26 a2 x29 v7 a5
      else
        F_X5_drawn_75 (F_X5_drawn_19 n) m8 a2 a3 v7 a5
noncomputable def F_X5_drawn (m : Mem) (a1 : Int32) (a2 : Int32) : Option (Int32 × Mem) :=
  bnd (F_X5_isOf m (5 : Int32) a2) fun v1 m2 =>
  if (bz v1) = 0 then
    some ((-100000 : Int32), m2)
  else
    F_X5_drawn_19 FU m2 a2 (0 : Int32) a1 (0 : Int32)
noncomputable def F_X5_commonDivisor_21 (K2 : Mem → Int32 → Int32 → Int32 → Option (Int32 × Mem)) (m : Mem) (a0 : Int32) (a1 : Int32) (a2 : Int32) : Option (Int32 × Mem) :=
  K2 m a0 a1 (a2 + (-1 : Int32))
noncomputable def F_X5_commonDivisor_2 : Nat → Mem → Int32 → Int32 → Int32 → Option (Int32 × Mem)
  | 0 => fun m a0 a1 a2 => none
  | n + 1 => fun m a0 a1 a2 =>
    if a2 ≤ (1 : Int32) then
      some ((1 : Int32), m)
    else
      gIf (¬ a2 = 0) <|
      if (a0 - a0 / a2 * a2) = 0 then
        gIf (¬ a2 = 0) <|
        if (a1 - a1 / a2 * a2) = 0 then
          some (a2, m)
        else
          F_X5_commonDivisor_21 (F_X5_commonDivisor_2 n) m a0 a1 a2
      else
        F_X5_commonDivisor_21 (F_X5_commonDivisor_2 n) m a0 a1 a2
noncomputable def F_X5_commonDivisor (m : Mem) (a0 : Int32) (a1 : Int32) : Option (Int32 × Mem) :=
  F_X5_commonDivisor_2 FU m a0 a1 a1
noncomputable def F_X5_wholeWhenDrawn_73 (K8 : Mem → Int32 → Int32 → Int32 → Int32 → Option (Int32 × Mem)) (m : Mem) (a2 : Int32) (a3 : Int32) (a4 : Int32) (a5 : Int32) : Option (Int32 × Mem) :=
  K8 m a2 a3 a4 (a5 + (1 : Int32))
noncomputable def F_X5_wholeWhenDrawn_8 : Nat → Mem → Int32 → Int32 → Int32 → Int32 → Option (Int32 × Mem)
  | 0 => fun m a2 a3 a4 a5 => none
  | n + 1 => fun m a2 a3 a4 a5 =>
    if (mD m 0 2) ≤ a5 then
      some (a3, m)
    else
      bnd (F_X5_nextDraw m a4) fun v2 m3 =>
      bnd (F_X5_drawnAge m3 v2) fun v6 m7 =>
      gIf (vp_in a5 8) <|
      if (mD m7 (20 + a5.toNatClampNeg) 5) = a2 then
        bnd (F_X5_theRule m7) fun v13 m14 =>
        gIf (vp_in a5 8) <|
        bnd (F_X4_turnsOf m14 v13 (20 + a5.toNatClampNeg) v6 (mD m14 0 0)) fun v20 m21 =>
        if v20 ≤ v6 then
          F_X5_wholeWhenDrawn_73 (F_X5_wholeWhenDrawn_8 n) m21 a2 a3 v2 a5
        else
          F_X5_wholeWhenDrawn_73 (F_X5_wholeWhenDrawn_8 n) m21 a2 (a3 + (1 : Int32)) v2 a5
      else
        F_X5_wholeWhenDrawn_73 (F_X5_wholeWhenDrawn_8 n) m7 a2 a3 v2 a5
noncomputable def F_X5_wholeWhenDrawn (m : Mem) (a1 : Int32) (a2 : Int32) : Option (Int32 × Mem) :=
  F_X5_wholeWhenDrawn_8 FU m a2 (0 : Int32) a1 (0 : Int32)
noncomputable def F_X5_chance_72 (K49 : Mem → Int32 → Int32 → Int32 → Int32 → Int32 → Int32 → Int32 → Option (Int64 × Mem)) (m : Mem) (a1 : Int32) (a2 : Int32) (a3 : Int32) (a4 : Int32) (a5 : Int32) (a6 : Int32) (a7 : Int32) : Option (Int64 × Mem) :=
  K49 m a1 a2 a3 a4 a5 a6 (a7 + (1 : Int32))
noncomputable def F_X5_chance_39 (m : Mem) : Option (Int64 × Mem) :=
  some ((-4611686018427387904 : Int64), m)
noncomputable def F_X5_chance_49 : Nat → Mem → Int32 → Int32 → Int32 → Int32 → Int32 → Int32 → Int32 → Option (Int64 × Mem)
  | 0 => fun m a1 a2 a3 a4 a5 a6 a7 => none
  | n + 1 => fun m a1 a2 a3 a4 a5 a6 a7 =>
    if a2 ≤ a7 then
      bnd (F_X5_commonDivisor m a6 a2) fun v22 m23 =>
      if a5 = 0 then
        gIf (¬ v22 = 0) <|
        some ((a6 / v22).toInt64, m23)
      else
        gIf (¬ v22 = 0) <|
        some ((a2 / v22).toInt64, m23)
    else
      bnd (F_X5_wholeWhenDrawn m (a1 + a7) a3) fun v29 m30 =>
      if v29 < a4 then
        F_X5_chance_72 (F_X5_chance_49 n) m30 a1 a2 a3 a4 a5 a6 a7
      else
        F_X5_chance_72 (F_X5_chance_49 n) m30 a1 a2 a3 a4 a5 (a6 + (1 : Int32)) a7
noncomputable def F_X5_chance (m : Mem) (a1 : Int32) (a2 : Int32) (a3 : Int32) (a4 : Int32) (a5 : Int32) : Option (Int64 × Mem) :=
  bnd (F_X5_isBetween m a2 (1 : Int32) (20 : Int32)) fun v1 m2 =>
  if (bz v1) = 0 then
    F_X5_chance_39 m2
  else
    bnd (F_X5_isOf m2 (5 : Int32) a3) fun v6 m7 =>
    if (bz v6) = 0 then
      F_X5_chance_39 m7
    else
      bnd (F_X5_isBetween m7 a4 (0 : Int32) (8 : Int32)) fun v11 m12 =>
      if (bz v11) = 0 then
        F_X5_chance_39 m12
      else
        bnd (F_X5_isBetween m12 a5 (0 : Int32) (1 : Int32)) fun v16 m17 =>
        if (bz v16) = 0 then
          F_X5_chance_39 m17
        else
          F_X5_chance_49 FU m17 a1 a2 a3 a4 a5 (0 : Int32) (0 : Int32)
noncomputable def F_X5_image_43 : Nat → Mem → Int32 → Option (Int32 × Mem)
  | 0 => fun m a1 => none
  | n + 1 => fun m a1 =>
    if (mD m 0 2) ≤ a1 then
      some (mD m 0 2, m)
    else
      gIf (vp_in a1 8) <|
      gIf (vp_in a1 8) <|
      bnd (F_X0_become m (10 + a1.toNatClampNeg) (20 + a1.toNatClampNeg)) fun v10 m11 =>
      F_X5_image_43 n m11 (a1 + (1 : Int32))
noncomputable def F_X5_image (m : Mem) : Option (Int32 × Mem) :=
  nm (wD m 8 0 (1 : Int32)) fun m1 =>
  nm (wD m1 8 1 (mD m1 0 0)) fun m2 =>
  nm (wD m2 8 2 (mD m2 0 6)) fun m3 =>
  nm (wD m3 8 3 (mD m3 0 2)) fun m4 =>
  F_X5_image_43 FU m4 (0 : Int32)
noncomputable def F_X5_back_48 : Nat → Mem → Int32 → Option (Int32 × Mem)
  | 0 => fun m a1 => none
  | n + 1 => fun m a1 =>
    if (mD m 0 2) ≤ a1 then
      some (mD m 0 2, m)
    else
      gIf (vp_in a1 8) <|
      gIf (vp_in a1 8) <|
      bnd (F_X0_become m (20 + a1.toNatClampNeg) (10 + a1.toNatClampNeg)) fun v10 m11 =>
      F_X5_back_48 n m11 (a1 + (1 : Int32))
noncomputable def F_X5_back (m : Mem) : Option (Int32 × Mem) :=
  if (mD m 8 0) = 0 then
    some ((-3 : Int32), m)
  else
    nm (wD m 0 0 (mD m 8 1)) fun m2 =>
    nm (wD m2 0 6 (mD m2 8 2)) fun m3 =>
    nm (wD m3 0 2 (mD m3 8 3)) fun m4 =>
    F_X5_back_48 FU m4 (0 : Int32)
noncomputable def F_X5_wholeCount_29 (K4 : Mem → Int32 → Int32 → Option (Int32 × Mem)) (m : Mem) (a1 : Int32) (a2 : Int32) : Option (Int32 × Mem) :=
  K4 m a1 (a2 + (1 : Int32))
noncomputable def F_X5_wholeCount_4 : Nat → Mem → Int32 → Int32 → Option (Int32 × Mem)
  | 0 => fun m a1 a2 => none
  | n + 1 => fun m a1 a2 =>
    if (mD m 0 2) ≤ a2 then
      some (a1, m)
    else
      gIf (vp_in a2 8) <|
      bnd (F_X5_isWholeBehind m (20 + a2.toNatClampNeg) (0 : Int32)) fun v4 m5 =>
      if (bz v4) = 0 then
        F_X5_wholeCount_29 (F_X5_wholeCount_4 n) m5 a1 a2
      else
        F_X5_wholeCount_29 (F_X5_wholeCount_4 n) m5 (a1 + (1 : Int32)) a2
noncomputable def F_X5_wholeCount (m : Mem) : Option (Int32 × Mem) :=
  F_X5_wholeCount_4 FU m (0 : Int32) (0 : Int32)
noncomputable def F_X5_count (m : Mem) (a1 : Int32) : Option (Int32 × Mem) :=
  if a1 = (0 : Int32) then
    some (mD m 0 2, m)
  else
    if a1 = (1 : Int32) then
      bnd (F_X5_wholeCount m) fun v3 m4 =>
      some (v3, m4)
    else
      if a1 = (2 : Int32) then
        some (mD m 0 0, m)
      else
        if a1 = (3 : Int32) then
          some (mD m 0 5, m)
        else
          if a1 = (4 : Int32) then
            some (mD m 2 1, m)
          else
            if a1 = (5 : Int32) then
              some (mD m 0 6, m)
            else
              some ((-2 : Int32), m)
noncomputable def F_X5_sheet (m : Mem) (a1 : Int32) (a2 : Int32) (a3 : Int32) : Option (Int32 × Mem) :=
  bnd (F_X5_isSheet m a1) fun v1 m2 =>
  if (bz v1) = 0 then
    some ((-2 : Int32), m2)
  else
    bnd (F_X5_isBetween m2 a2 (-1 : Int32) (2 : Int32)) fun v6 m7 =>
    if (bz v6) = 0 then
      some ((-2 : Int32), m7)
    else
      if a2 = (-1 : Int32) then
        gIf (vp_in a1 4) <|
        bnd (F_X2_become m7 (28 + 2 * a1.toNatClampNeg) (-1 : Int32) (0 : Int32)) fun v22 m23 =>
        some ((1 : Int32), m23)
      else
        if a3 ≤ (40 : Int32) then
          if 0 ≤ a3 then
            gIf (vp_in a1 4) <|
            bnd (F_X2_become m7 (28 + 2 * a1.toNatClampNeg) a2 a3) fun v16 m17 =>
            some ((1 : Int32), m17)
          else
            some ((-14 : Int32), m7)
        else
          some ((-2 : Int32), m7)
noncomputable def F_X5_cell (m : Mem) (a1 : Int32) (a2 : Int32) (a3 : Int32) : Option (Int32 × Mem) :=
  bnd (F_X5_isSheet m a1) fun v1 m2 =>
  if (bz v1) = 0 then
    some ((-2 : Int32), m2)
  else
    gIf (vp_in a1 4) <|
    bnd (F_X2_isMissing m2 (28 + 2 * a1.toNatClampNeg)) fun v8 m9 =>
    if (bz v8) = 0 then
      bnd (F_X5_isBetween m9 a2 (0 : Int32) ((mD m9 (28 + 2 * a1.toNatClampNeg) 1) - (1 : Int32))) fun v13 m14 =>
      if (bz v13) = 0 then
        some ((-12 : Int32), m14)
      else
        bnd (F_X2_put m14 (28 + 2 * a1.toNatClampNeg) a2 a3) fun v18 m19 =>
        some ((1 : Int32), m19)
    else
      some ((-11 : Int32), m9)
noncomputable def F_X5_copy (m : Mem) (a1 : Int32) (a2 : Int32) (a3 : Int32) (a4 : Int32) (a5 : Int32) : Option (Int32 × Mem) :=
  bnd (F_X5_isSheet m a1) fun v1 m2 =>
  if (bz v1) = 0 then
    some ((-2 : Int32), m2)
  else
    bnd (F_X5_isSheet m2 a3) fun v6 m7 =>
    if (bz v6) = 0 then
      some ((-2 : Int32), m7)
    else
      gIf (vp_in a1 4) <|
      gIf (vp_in a3 4) <|
      bnd (F_X2_isMissing m7 (28 + 2 * a1.toNatClampNeg)) fun v15 m16 =>
      if (bz v15) = 0 then
        bnd (F_X2_isMissing m16 (28 + 2 * a3.toNatClampNeg)) fun v20 m21 =>
        if (bz v20) = 0 then
          if (mD m21 (28 + 2 * a1.toNatClampNeg) 0) = (mD m21 (28 + 2 * a3.toNatClampNeg) 0) then
            bnd (F_X2_hasRoom m21 (28 + 2 * a1.toNatClampNeg) a2 a5) fun v26 m27 =>
            if (bz v26) = 0 then
              some ((-12 : Int32), m27)
            else
              bnd (F_X2_hasRoom m27 (28 + 2 * a3.toNatClampNeg) a4 a5) fun v31 m32 =>
              if (bz v31) = 0 then
                some ((-12 : Int32), m32)
              else
                gIf (¬ a2 < 0 ∧ ¬ a4 < 0 ∧ ¬ a5 < 0 ∧ a2.toNatClampNeg + a5.toNatClampNeg ≤ 40 ∧ a4.toNatClampNeg + a5.toNatClampNeg ≤ 40) <|
                nm (wC m32 ((28 + 2 * a3.toNatClampNeg) + 1) (va_cpy (mD m32 ((28 + 2 * a1.toNatClampNeg) + 1)) (mD m32 ((28 + 2 * a3.toNatClampNeg) + 1)) a2.toNatClampNeg a4.toNatClampNeg a5.toNatClampNeg)) fun m37 =>
                some (a5, m37)
          else
            some ((-13 : Int32), m21)
        else
          some ((-11 : Int32), m21)
      else
        some ((-11 : Int32), m16)
noncomputable def F_X5_coins_137 (K78 : Mem → Int32 → Nat → Int32 → Int32 → Int32 → Option (Int32 × Mem)) (m : Mem) (a4 : Int32) (a5 : Nat) (a6 : Int32) (a7 : Int32) (a8 : Int32) : Option (Int32 × Mem) :=
  K78 m a4 a5 a6 (a7 + (3 : Int32)) (a8 + (1 : Int32))
noncomputable def F_X5_coins_78 : Nat → Mem → Int32 → Nat → Int32 → Int32 → Int32 → Option (Int32 × Mem)
  | 0 => fun m a4 a5 a6 a7 a8 => none
  | n + 1 => fun m a4 a5 a6 a7 a8 =>
    if a4 ≤ a8 then
      some (a6, m)
    else
      bnd (F_X2_hasRoom m a5 a7 (3 : Int32)) fun v30 m31 =>
      if (bz v30) = 0 then
        some ((-12 : Int32), m31)
      else
        gIf (vp_in a7 40) <|
        gIf (vp_in (a7 + (1 : Int32)) 40) <|
        gIf (vp_in (a7 + (2 : Int32)) 40) <|
        bnd (F_X5_coin m31 (mD m31 (a5 + 1) a7.toNatClampNeg) (mD m31 (a5 + 1) (a7 + (1 : Int32)).toNatClampNeg) (mD m31 (a5 + 1) (a7 + (2 : Int32)).toNatClampNeg)) fun v38 m39 =>
        if v38 < 0 then
          F_X5_coins_137 (F_X5_coins_78 n) m39 a4 a5 a6 a7 a8
        else
          F_X5_coins_137 (F_X5_coins_78 n) m39 a4 a5 (a6 + (1 : Int32)) a7 a8
noncomputable def F_X5_coins_58 (m : Mem) (a3 : Int32) (a4 : Int32) (a5 : Nat) : Option (Int32 × Mem) :=
  bnd (F_X2_isMissing m a5) fun v24 m25 =>
  if (bz v24) = 0 then
    F_X5_coins_78 FU m25 a4 a5 (0 : Int32) a3 (0 : Int32)
  else
    some ((-11 : Int32), m25)
noncomputable def F_X5_coins (m : Mem) (a1 : Int32) (a2 : Int32) (a3 : Int32) (a4 : Int32) : Option (Int32 × Mem) :=
  bnd (F_X5_isSheet m a1) fun v1 m2 =>
  if (bz v1) = 0 then
    some ((-2 : Int32), m2)
  else
    bnd (F_X5_isBetween m2 a2 (0 : Int32) (2 : Int32)) fun v6 m7 =>
    if (bz v6) = 0 then
      some ((-2 : Int32), m7)
    else
      bnd (F_X5_isBetween m7 a4 (0 : Int32) (8 : Int32)) fun v11 m12 =>
      if (bz v11) = 0 then
        some ((-2 : Int32), m12)
      else
        gIf (vp_in a1 4) <|
        bnd (F_X2_isMissing m12 (28 + 2 * a1.toNatClampNeg)) fun v18 m19 =>
        if (bz v18) = 0 then
          if (mD m19 (28 + 2 * a1.toNatClampNeg) 0) = a2 then
            F_X5_coins_58 m19 a3 a4 (28 + 2 * a1.toNatClampNeg)
          else
            some ((-13 : Int32), m19)
        else
          F_X5_coins_58 m19 a3 a4 (28 + 2 * a1.toNatClampNeg)
noncomputable def F_X5_isUnder_4 : Nat → Mem → Int32 → Int32 → Int32 → Option (Bool × Mem)
  | 0 => fun m a1 a2 a3 => none
  | n + 1 => fun m a1 a2 a3 =>
    if (Int32.ofNat 6) ≤ a3 then
      some (false, m)
    else
      if a2 = (-1 : Int32) then
        some (false, m)
      else
        if a2 = a1 then
          some (true, m)
        else
          gIf (vp_in a2 6) <|
          nm (fUNDER a2.toNatClampNeg) fun x5 =>
          F_X5_isUnder_4 n m a1 x5 (a3 + (1 : Int32))
noncomputable def F_X5_isUnder (m : Mem) (a0 : Int32) (a1 : Int32) : Option (Bool × Mem) :=
  F_X5_isUnder_4 FU m a1 a0 (0 : Int32)
noncomputable def F_X5_taken (m : Mem) (a1 : Int32) (a2 : Int32) : Option (Int32 × Mem) :=
  bnd (F_X5_isOf m (6 : Int32) a2) fun v1 m2 =>
  if (bz v1) = 0 then
    some ((-2 : Int32), m2)
  else
    bnd (F_X5_isCoin m2 a1) fun v6 m7 =>
    if (bz v6) = 0 then
      some ((-11 : Int32), m7)
    else
      gIf (vp_in a1 8) <|
      bnd (F_X5_isUnder m7 (mD m7 (20 + a1.toNatClampNeg) 0) a2) fun v13 m14 =>
      if (bz v13) = 0 then
        some ((-13 : Int32), m14)
      else
        gIf (vp_in a1 8) <|
        some (mD m14 (20 + a1.toNatClampNeg) 1, m14)
noncomputable def F_X6_in (m : Mem) (a0 : Int64) (a2 : Int64) (a4 : Int64) : Option (Bool × Mem) :=
  if (lg_cmp a0 a2) < 0 then
    some (false, m)
  else
    if 0 < (lg_cmp a0 a4) then
      some (false, m)
    else
      some (true, m)
noncomputable def F_X6_within (m : Mem) (a0 : Int32) (a1 : Int32) (a2 : Int32) : Option (Int32 × Mem) :=
  if a1 ≤ a0 then
    if a0 ≤ a2 then
      some (a0, m)
    else
      some (a2, m)
  else
    some (a1, m)
noncomputable def F_X6_spell (m : Mem) (a1 : Int32) (a2 : Int32) (a3 : Int32) (a4 : Int32) (a5 : Int32) (a6 : Int32) (a7 : Int32) (a8 : Int32) (a9 : Int32) : Option (Unit × Mem) :=
  gIf (vp_in a1 960) <|
  nm (wD m 41 a1.toNatClampNeg a2) fun m2 =>
  gIf (vp_in (a1 + (1 : Int32)) 960) <|
  nm (wD m2 41 (a1 + (1 : Int32)).toNatClampNeg a3) fun m4 =>
  gIf (vp_in (a1 + (2 : Int32)) 960) <|
  nm (wD m4 41 (a1 + (2 : Int32)).toNatClampNeg a4) fun m6 =>
  gIf (vp_in (a1 + (3 : Int32)) 960) <|
  nm (wD m6 41 (a1 + (3 : Int32)).toNatClampNeg a5) fun m8 =>
  gIf (vp_in (a1 + (4 : Int32)) 960) <|
  nm (wD m8 41 (a1 + (4 : Int32)).toNatClampNeg a6) fun m10 =>
  gIf (vp_in (a1 + (5 : Int32)) 960) <|
  nm (wD m10 41 (a1 + (5 : Int32)).toNatClampNeg a7) fun m12 =>
  gIf (vp_in (a1 + (6 : Int32)) 960) <|
  nm (wD m12 41 (a1 + (6 : Int32)).toNatClampNeg a8) fun m14 =>
  gIf (vp_in (a1 + (7 : Int32)) 960) <|
  nm (wD m14 41 (a1 + (7 : Int32)).toNatClampNeg a9) fun m16 =>
  some ((), m16)
noncomputable def F_X6_init (m : Mem) (c0 : Nat) : Option (Unit × Mem) :=
  nm (mNew m 7 960 960) fun m1 => nm (mN m) fun q2 =>
  gIf (mK m1 c0 = (6, 0)) <|
  nm (wR m1 c0 1 (some q2)) fun m4 =>
  nm (mNew m4 7 6 6) fun m5 => nm (mN m4) fun q6 =>
  gIf (mK m5 c0 = (6, 0)) <|
  nm (wR m5 c0 2 (some q6)) fun m8 =>
  nm (mNew m8 7 160 160) fun m9 => nm (mN m8) fun q10 =>
  gIf (mK m9 c0 = (6, 0)) <|
  nm (wR m9 c0 5 (some q10)) fun m12 =>
  nm (mNew m12 7 8 8) fun m13 => nm (mN m12) fun q14 =>
  gIf (mK m13 c0 = (6, 0)) <|
  nm (wR m13 c0 8 (some q14)) fun m16 =>
  nm (mNew m16 7 40 40) fun m17 => nm (mN m16) fun q18 =>
  gIf (mK m17 c0 = (6, 0)) <|
  nm (wR m17 c0 9 (some q18)) fun m20 =>
  nm (mNew m20 7 8 8) fun m21 => nm (mN m20) fun q22 =>
  gIf (mK m21 c0 = (6, 0)) <|
  nm (wR m21 c0 26 (some q22)) fun m24 =>
  nm (mNew m24 7 8 8) fun m25 => nm (mN m24) fun q26 =>
  gIf (mK m25 c0 = (6, 0)) <|
  nm (wR m25 c0 27 (some q26)) fun m28 =>
  nm (mNew m28 7 8 8) fun m29 => nm (mN m28) fun q30 =>
  gIf (mK m29 c0 = (6, 0)) <|
  nm (wR m29 c0 29 (some q30)) fun m32 =>
  nm (mNew m32 7 40 40) fun m33 => nm (mN m32) fun q34 =>
  gIf (mK m33 c0 = (6, 0)) <|
  nm (wR m33 c0 30 (some q34)) fun m36 =>
  gIf (mK m36 c0 = (6, 0)) <|
  nm (wD m36 c0 31 (-1 : Int32)) fun m38 =>
  nm (mNew m38 8 4 4) fun m39 => nm (mN m38) fun q40 =>
  gIf (mK m39 c0 = (6, 0)) <|
  nm (wR m39 c0 34 (some q40)) fun m42 =>
  nm (mNew m42 7 4 4) fun m43 => nm (mN m42) fun q44 =>
  gIf (mK m43 c0 = (6, 0)) <|
  nm (wR m43 c0 35 (some q44)) fun m46 =>
  nm (mNew m46 7 4 4) fun m47 => nm (mN m46) fun q48 =>
  gIf (mK m47 c0 = (6, 0)) <|
  nm (wR m47 c0 36 (some q48)) fun m50 =>
  nm (mNew m50 7 160 160) fun m51 => nm (mN m50) fun q52 =>
  gIf (mK m51 c0 = (6, 0)) <|
  nm (wR m51 c0 37 (some q52)) fun m54 =>
  gIf (c0 = 40 ∧ ShM m54) <|
  bnd (F_X6_spell m54 (0 : Int32) (116 : Int32) (117 : Int32) (114 : Int32) (110 : Int32) (115 : Int32) (32 : Int32) (55 : Int32) (32 : Int32)) fun v56 m57 =>
  bnd (F_X6_spell m57 (8 : Int32) (59 : Int32) (32 : Int32) (103 : Int32) (105 : Int32) (118 : Int32) (101 : Int32) (115 : Int32) (32 : Int32)) fun v60 m61 =>
  bnd (F_X6_spell m61 (16 : Int32) (102 : Int32) (105 : Int32) (114 : Int32) (115 : Int32) (116 : Int32) (32 : Int32) (42 : Int32) (32 : Int32)) fun v64 m65 =>
  bnd (F_X6_spell m65 (24 : Int32) (53 : Int32) (32 : Int32) (59 : Int32) (32 : Int32) (115 : Int32) (112 : Int32) (111 : Int32) (105 : Int32)) fun v68 m69 =>
  bnd (F_X6_spell m69 (32 : Int32) (108 : Int32) (115 : Int32) (32 : Int32) (50 : Int32) (32 : Int32) (59 : Int32) (32 : Int32) (32 : Int32)) fun v72 m73 =>
  gRef (mR m73 40 2) fun r76 =>
  gIf ((mK m73 r76).1 = 7 ∧ vp_in (0 : Int32) (mK m73 r76).2) <|
  nm (wD m73 r76 (0 : Int32).toNatClampNeg (40 : Int32)) fun m79 =>
  nm (wD m79 40 3 (1 : Int32)) fun m80 =>
  some ((), m80)
