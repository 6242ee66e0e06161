noncomputable def F_X6_likeSet_28 (K4 : Mem → Int32 → Int32 → Int32 → Option (Int32 × Mem)) (m : Mem) (a1 : Int32) (a3 : Int32) (s0 : Int32) (s1 : Int32) : Option (Int32 × Mem) :=
  nm (s1 ||| (s0 <<< (a3 &&& 31))) fun x7 =>
  K4 m a1 x7 (a3 + (1 : Int32))
noncomputable def F_X6_likeSet_4 : Nat → Mem → Int32 → Int32 → Int32 → Option (Int32 × Mem)
  | 0 => fun m a1 a2 a3 => none
  | n + 1 => fun m a1 a2 a3 =>
    if (mD m 40 10) ≤ a3 then
      some (a2, m)
    else
      bnd (F_X6_firstOther m a1 a3) fun v2 m3 =>
      if v2 = (-1 : Int32) then
        F_X6_likeSet_28 (F_X6_likeSet_4 n) m3 a1 a3 (1 : Int32) a2
      else
        F_X6_likeSet_28 (F_X6_likeSet_4 n) m3 a1 a3 (0 : Int32) a2
noncomputable def F_X6_likeSet (m : Mem) (a1 : Int32) : Option (Int32 × Mem) :=
  F_X6_likeSet_4 FU m a1 (0 : Int32) (0 : Int32)
noncomputable def F_X6_isSheet (m : Mem) (a0 : Int32) : Option (Bool × Mem) :=
  bnd (F_X6_in m a0.toInt64 (0 : Int64) (3 : Int64)) fun v1 m2 =>
  some (v1, m2)
noncomputable def F_X6_tells_269 (K207 : Mem → Int32 → Int32 → Int32 → Int32 → Int32 → Int32 → Int32 → Int32 → Int32 → Option (Int32 × Mem)) (m : Mem) (a1 : Int32) (a2 : Int32) (a3 : Int32) (a4 : Int32) (a5 : Int32) (a7 : Int32) (a8 : Int32) (a9 : Int32) (a10 : Int32) : Option (Int32 × Mem) :=
  K207 m a1 a2 a3 a4 a5 a7 a8 a9 (a10 + (-1 : Int32))
noncomputable def F_X6_tells_52 (m : Mem) (a1 : Int32) (a2 : Int32) (a3 : Int32) : Option (Int32 × Mem) :=
  if a3 = 0 then
    bnd (F_X6_firstOther m a1 a2) fun v60 m61 =>
    some (v60, m61)
  else
    bnd (F_X6_likeSet m a1) fun v56 m57 =>
    some (v56, m57)
noncomputable def F_X6_tells_259 (K207 : Mem → Int32 → Int32 → Int32 → Int32 → Int32 → Int32 → Int32 → Int32 → Int32 → Option (Int32 × Mem)) (m : Mem) (a1 : Int32) (a2 : Int32) (a3 : Int32) (a4 : Int32) (a5 : Int32) (a8 : Int32) (a10 : Int32) (s0 : Int32) (s1 : Int32) : Option (Int32 × Mem) :=
  nm (s1 ||| s0) fun x54 =>
  F_X6_tells_269 K207 m a1 a2 a3 a4 a5 x54 (a8 + (1 : Int32)) a10 a10
noncomputable def F_X6_tells_220 (K207 : Mem → Int32 → Int32 → Int32 → Int32 → Int32 → Int32 → Int32 → Int32 → Int32 → Option (Int32 × Mem)) (m : Mem) (a1 : Int32) (a2 : Int32) (a3 : Int32) (a4 : Int32) (a5 : Int32) (a7 : Int32) (a8 : Int32) (a9 : Int32) (a10 : Int32) (s0 : Int32) (s1 : Int32) : Option (Int32 × Mem) :=
  if s1 < s0 then
    bnd (F_X6_lays m a4 a2 a5) fun v36 m37 =>
    if a3 = (4 : Int32) then
      some (a8, m37)
    else
      if a3 = (6 : Int32) then
        some (a8, m37)
      else
        if a3 = (5 : Int32) then
          some (a9, m37)
        else
          if a3 = (7 : Int32) then
            some (a9, m37)
          else
            some (a7, m37)
  else
    bnd (F_X6_lays m a4 a2 a10) fun v44 m45 =>
    bnd (F_X6_firstOther m45 a1 a2) fun v48 m49 =>
    if v48 = (-1 : Int32) then
      if (10 : Int32) ≤ a10 then
        F_X6_tells_259 K207 m49 a1 a2 a3 a4 a5 a8 a10 (0 : Int32) a7
      else
        F_X6_tells_259 K207 m49 a1 a2 a3 a4 a5 a8 a10 ((1 : Int32) <<< (a10 &&& 31)) a7
    else
      F_X6_tells_269 K207 m49 a1 a2 a3 a4 a5 a7 a8 a9 a10
noncomputable def F_X6_tells_207 : Nat → Mem → Int32 → Int32 → Int32 → Int32 → Int32 → Int32 → Int32 → Int32 → Int32 → Option (Int32 × Mem)
  | 0 => fun m a1 a2 a3 a4 a5 a7 a8 a9 a10 => none
  | n + 1 => fun m a1 a2 a3 a4 a5 a7 a8 a9 a10 =>
    if a4 = (2 : Int32) then
      F_X6_tells_220 (F_X6_tells_207 n) m a1 a2 a3 a4 a5 a7 a8 a9 a10 (1 : Int32) a10
    else
      F_X6_tells_220 (F_X6_tells_207 n) m a1 a2 a3 a4 a5 a7 a8 a9 a10 (0 : Int32) a10
noncomputable def F_X6_tells_192 (m : Mem) (a1 : Int32) (a2 : Int32) (a3 : Int32) (a4 : Int32) (a5 : Int32) (s0 : Int32) : Option (Int32 × Mem) :=
  F_X6_tells_207 FU m a1 a2 a3 a4 a5 (0 : Int32) (0 : Int32) (-1 : Int32) s0
noncomputable def F_X6_tells_185 (m : Mem) (a1 : Int32) (a2 : Int32) (a3 : Int32) (a4 : Int32) (a5 : Int32) : Option (Int32 × Mem) :=
  F_X6_tells_192 m a1 a2 a3 a4 a5 (9 : Int32)
noncomputable def F_X6_tells_144 (m : Mem) (a1 : Int32) (a2 : Int32) (a3 : Int32) (a4 : Int32) (s0 : Int32) : Option (Int32 × Mem) :=
  if a4 = (7 : Int32) then
    F_X6_tells_192 m a1 a2 a3 a4 s0 ((mD m 40 3) - (1 : Int32))
  else
    if a4 = (6 : Int32) then
      F_X6_tells_192 m a1 a2 a3 a4 s0 (5 : Int32)
    else
      if a4 = (1 : Int32) then
        F_X6_tells_185 m a1 a2 a3 a4 s0
      else
        if a4 = (3 : Int32) then
          F_X6_tells_185 m a1 a2 a3 a4 s0
        else
          F_X6_tells_192 m a1 a2 a3 a4 s0 (99 : Int32)
noncomputable def F_X6_tells_121 (m : Mem) (a1 : Int32) (a2 : Int32) (a3 : Int32) (s0 : Int32) : Option (Int32 × Mem) :=
  if s0 = (7 : Int32) then
    F_X6_tells_144 m a1 a2 a3 s0 (mD m 40 4)
  else
    bnd (F_X6_told m a2 s0) fun v26 m27 =>
    F_X6_tells_144 m27 a1 a2 a3 s0 v26
noncomputable def F_X6_tells (m : Mem) (a1 : Int32) (a2 : Int32) (a3 : Int32) : Option (Int32 × Mem) :=
  bnd (F_X6_isSheet m a1) fun v1 m2 =>
  if (bz v1) = 0 then
    some ((-2 : Int32), m2)
  else
    bnd (F_X6_isCoin m2 a2) fun v6 m7 =>
    if (bz v6) = 0 then
      some ((-2 : Int32), m7)
    else
      bnd (F_X6_in m7 a3.toInt64 (0 : Int64) (9 : Int64)) fun v11 m12 =>
      if (bz v11) = 0 then
        some ((-2 : Int32), m12)
      else
        gIf (vp_in a1 4) <|
        if (mD m12 50 a1.toNatClampNeg) = 0 then
          some ((-11 : Int32), m12)
        else
          if a3 = 0 then
            F_X6_tells_52 m12 a1 a2 a3
          else
            if a3 = (9 : Int32) then
              F_X6_tells_52 m12 a1 a2 a3
            else
              if a3 = (1 : Int32) then
                F_X6_tells_121 m12 a1 a2 a3 (6 : Int32)
              else
                if a3 = (2 : Int32) then
                  F_X6_tells_121 m12 a1 a2 a3 (1 : Int32)
                else
                  if a3 = (3 : Int32) then
                    F_X6_tells_121 m12 a1 a2 a3 (3 : Int32)
                  else
                    if (6 : Int32) ≤ a3 then
                      if (8 : Int32) ≤ a3 then
                        F_X6_tells_121 m12 a1 a2 a3 (7 : Int32)
                      else
                        F_X6_tells_121 m12 a1 a2 a3 (2 : Int32)
                    else
                      F_X6_tells_121 m12 a1 a2 a3 (4 : Int32)
noncomputable def F_X6_sheet_77 : Nat → Mem → Int32 → Int32 → Int32 → Int32 → Option (Int32 × Mem)
  | 0 => fun m a1 a2 a3 a4 => none
  | n + 1 => fun m a1 a2 a3 a4 =>
    if a3 ≤ a4 then
      some ((1 : Int32), m)
    else
      if a2 < 0 then
        some ((1 : Int32), m)
      else
        gIf (vp_in (((40 : Int32) * a1) + a4) 160) <|
        nm (wD m 53 (((40 : Int32) * a1) + a4).toNatClampNeg (0 : Int32)) fun m26 =>
        F_X6_sheet_77 n m26 a1 a2 a3 (a4 + (1 : Int32))
noncomputable def F_X6_sheet_59 (m : Mem) (a1 : Int32) (a2 : Int32) (a3 : Int32) (s0 : Int32) (s1 : Int32) : Option (Int32 × Mem) :=
  gIf (vp_nar .boolean s0 = s0) <|
  gIf (vp_in s1 4) <|
  nm (wD m 50 s1.toNatClampNeg s0) fun m18 =>
  gIf (vp_in a1 4) <|
  nm (wD m18 51 a1.toNatClampNeg a2) fun m20 =>
  gIf (vp_in a1 4) <|
  nm (wD m20 52 a1.toNatClampNeg a3) fun m22 =>
  F_X6_sheet_77 FU m22 a1 a2 a3 (0 : Int32)
noncomputable def F_X6_sheet_45 (m : Mem) (a1 : Int32) (a2 : Int32) (a3 : Int32) : Option (Int32 × Mem) :=
  if a2 < 0 then
    F_X6_sheet_59 m a1 a2 a3 (0 : Int32) a1
  else
    F_X6_sheet_59 m a1 a2 a3 (1 : Int32) a1
noncomputable def F_X6_sheet_34 (m : Mem) (a1 : Int32) (a2 : Int32) (a3 : Int32) : Option (Int32 × Mem) :=
  if a2 < 0 then
    F_X6_sheet_45 m a1 a2 a3
  else
    if 0 ≤ a3 then
      F_X6_sheet_45 m a1 a2 a3
    else
      some ((-14 : Int32), m)
noncomputable def F_X6_sheet (m : Mem) (a1 : Int32) (a2 : Int32) (a3 : Int32) : Option (Int32 × Mem) :=
  bnd (F_X6_isSheet m a1) fun v1 m2 =>
  if (bz v1) = 0 then
    some ((-2 : Int32), m2)
  else
    bnd (F_X6_in m2 a2.toInt64 (-1 : Int64) (2 : Int64)) fun v6 m7 =>
    if (bz v6) = 0 then
      some ((-2 : Int32), m7)
    else
      if a2 < 0 then
        F_X6_sheet_34 m7 a1 a2 a3
      else
        if a3 ≤ (40 : Int32) then
          F_X6_sheet_34 m7 a1 a2 a3
        else
          some ((-2 : Int32), m7)
noncomputable def F_X6_film_45 : Nat → Mem → Int32 → Int32 → Int32 → Int32 → Option (Int32 × Mem)
  | 0 => fun m a1 a2 a3 a4 => none
  | n + 1 => fun m a1 a2 a3 a4 =>
    if a3 ≤ a4 then
      bnd (F_X6_laysBack m) fun v25 m26 =>
      some (a3, m26)
    else
      bnd (F_X6_worthOf m a2) fun v29 m30 =>
      gIf (vp_in (((40 : Int32) * a1) + a4) 160) <|
      nm (wD m30 53 (((40 : Int32) * a1) + a4).toNatClampNeg v29) fun m34 =>
      bnd (F_X6_passes m34) fun v35 m36 =>
      F_X6_film_45 n m36 a1 a2 a3 (a4 + (1 : Int32))
noncomputable def F_X6_film (m : Mem) (a1 : Int32) (a2 : Int32) (a3 : Int32) : Option (Int32 × Mem) :=
  bnd (F_X6_isSheet m a1) fun v1 m2 =>
  if (bz v1) = 0 then
    some ((-2 : Int32), m2)
  else
    bnd (F_X6_isCoin m2 a2) fun v6 m7 =>
    if (bz v6) = 0 then
      some ((-2 : Int32), m7)
    else
      bnd (F_X6_in m7 a3.toInt64 (0 : Int64) (40 : Int64)) fun v11 m12 =>
      if (bz v11) = 0 then
        some ((-2 : Int32), m12)
      else
        bnd (F_X6_sheet m12 a1 (2 : Int32) a3) fun v16 m17 =>
        bnd (F_X6_laysAside m17) fun v20 m21 =>
        F_X6_film_45 FU m21 a1 a2 a3 (0 : Int32)
noncomputable def F_X6_draws_4 : Nat → Mem → Int32 → Int32 → Option (Unit × Mem)
  | 0 => fun m a2 a3 => none
  | n + 1 => fun m a2 a3 =>
    if (mD m 40 10) ≤ a3 then
      some ((), m)
    else
      nm ((a2 * (1103515245 : Int32)) + (12345 : Int32)) fun x2 =>
      gIf (vp_in (((5 : Int32) * a3) + (3 : Int32)) 40) <|
      nm (wD m 45 (((5 : Int32) * a3) + (3 : Int32)).toNatClampNeg (((x2.toUInt32 >>> ((9 : Int32).toUInt32 &&& Int32.toUInt32 31)).toInt32) - ((x2.toUInt32 >>> ((9 : Int32).toUInt32 &&& Int32.toUInt32 31)).toInt32) / (15 : Int32) * (15 : Int32))) fun m4 =>
      F_X6_draws_4 n m4 x2 (a3 + (1 : Int32))
noncomputable def F_X6_draws (m : Mem) (a1 : Int32) : Option (Unit × Mem) :=
  F_X6_draws_4 FU m a1 (0 : Int32)
noncomputable def F_X6_drawn (m : Mem) (a1 : Int32) (a2 : Int32) : Option (Int32 × Mem) :=
  bnd (F_X6_isOwner m a2) fun v1 m2 =>
  if (bz v1) = 0 then
    some ((-100000 : Int32), m2)
  else
    bnd (F_X6_laysAside m2) fun v6 m7 =>
    bnd (F_X6_draws m7 a1) fun v10 m11 =>
    bnd (F_X6_richOf m11 a2) fun v14 m15 =>
    bnd (F_X6_laysBack m15) fun v18 m19 =>
    some (v14, m19)
noncomputable def F_X6_chance_91 (K57 : Mem → Int32 → Int32 → Int32 → Int32 → Int32 → Int64 → Int32 → Option (Int64 × Mem)) (m : Mem) (a1 : Int32) (a2 : Int32) (a3 : Int32) (a4 : Int32) (a5 : Int32) (a8 : Int32) (s0 : Int64) (s1 : Int64) : Option (Int64 × Mem) :=
  nm (s1 + s0) fun x44 =>
  K57 m a1 a2 a3 a4 a5 x44 (a8 + (1 : Int32))
noncomputable def F_X6_chance_112 : Nat → Mem → Int32 → Int32 → Int64 → Int64 → Int64 → Option (Int64 × Mem)
  | 0 => fun m a2 a5 a6 a8 a10 => none
  | n + 1 => fun m a2 a5 a6 a8 a10 =>
    if (lg_cmp a10 (0 : Int64)) = 0 then
      if a5 = 0 then
        gIf (¬ a8 = 0) <|
        some (a6 / a8, m)
      else
        gIf (¬ a8 = 0) <|
        some (a2.toInt64 / a8, m)
    else
      gIf (¬ a10 = 0) <|
      nm (a8 - a8 / a10 * a10) fun x50 =>
      F_X6_chance_112 n m a2 a5 a6 a10 x50
noncomputable def F_X6_chance_43 (m : Mem) : Option (Int64 × Mem) :=
  some ((-4611686018427387904 : Int64), m)
noncomputable def F_X6_chance_57 : Nat → Mem → Int32 → Int32 → Int32 → Int32 → Int32 → Int64 → Int32 → Option (Int64 × Mem)
  | 0 => fun m a1 a2 a3 a4 a5 a6 a8 => none
  | n + 1 => fun m a1 a2 a3 a4 a5 a6 a8 =>
    if a2 ≤ a8 then
      bnd (F_X6_laysBack m) fun v26 m27 =>
      nm (a2.toInt64) fun x30 =>
      F_X6_chance_112 FU m27 a2 a5 a6 a6 x30
    else
      bnd (F_X6_draws m (a1 + a8)) fun v31 m32 =>
      bnd (F_X6_purseOf m32 a3) fun v35 m36 =>
      bnd (F_X6_bitsOf m36 v35) fun v39 m40 =>
      if v39 < a4 then
        F_X6_chance_91 (F_X6_chance_57 n) m40 a1 a2 a3 a4 a5 a8 (0 : Int64) a6
      else
        F_X6_chance_91 (F_X6_chance_57 n) m40 a1 a2 a3 a4 a5 a8 (1 : Int64) a6
noncomputable def F_X6_chance (m : Mem) (a1 : Int32) (a2 : Int32) (a3 : Int32) (a4 : Int32) (a5 : Int32) : Option (Int64 × Mem) :=
  bnd (F_X6_in m a2.toInt64 (1 : Int64) (20 : Int64)) fun v1 m2 =>
  if (bz v1) = 0 then
    F_X6_chance_43 m2
  else
    bnd (F_X6_isOwner m2 a3) fun v6 m7 =>
    if (bz v6) = 0 then
      F_X6_chance_43 m7
    else
      bnd (F_X6_in m7 a4.toInt64 (0 : Int64) (8 : Int64)) fun v11 m12 =>
      if (bz v11) = 0 then
        F_X6_chance_43 m12
      else
        bnd (F_X6_in m12 a5.toInt64 (0 : Int64) (1 : Int64)) fun v16 m17 =>
        if (bz v16) = 0 then
          F_X6_chance_43 m17
        else
          bnd (F_X6_laysAside m17) fun v21 m22 =>
          F_X6_chance_57 FU m22 a1 a2 a3 a4 a5 (0 : Int64) (0 : Int32)
noncomputable def F_X6_image_2 : Nat → Mem → Int32 → Option (Int32 × Mem)
  | 0 => fun m a1 => none
  | n + 1 => fun m a1 =>
    if (40 : Int32) ≤ a1 then
      nm (wD m 40 31 (mD m 40 10)) fun m2 =>
      nm (wD m2 40 32 (mD m2 40 7)) fun m3 =>
      nm (wD m3 40 33 (mD m3 40 4)) fun m4 =>
      some (mD m4 40 10, m4)
    else
      gIf (vp_in a1 40) <|
      gIf (vp_in a1 40) <|
      nm (wD m 49 a1.toNatClampNeg (mD m 45 a1.toNatClampNeg)) fun m7 =>
      F_X6_image_2 n m7 (a1 + (1 : Int32))
noncomputable def F_X6_image (m : Mem) : Option (Int32 × Mem) :=
  F_X6_image_2 FU m (0 : Int32)
noncomputable def F_X6_back_13 : Nat → Mem → Int32 → Option (Int32 × Mem)
  | 0 => fun m a1 => none
  | n + 1 => fun m a1 =>
    if (40 : Int32) ≤ a1 then
      nm (wD m 40 10 (mD m 40 31)) fun m3 =>
      nm (wD m3 40 7 (mD m3 40 32)) fun m4 =>
      nm (wD m4 40 4 (mD m4 40 33)) fun m5 =>
      some (mD m5 40 10, m5)
    else
      gIf (vp_in a1 40) <|
      gIf (vp_in a1 40) <|
      nm (wD m 45 a1.toNatClampNeg (mD m 49 a1.toNatClampNeg)) fun m8 =>
      F_X6_back_13 n m8 (a1 + (1 : Int32))
noncomputable def F_X6_back (m : Mem) : Option (Int32 × Mem) :=
  if (mD m 40 31) = (-1 : Int32) then
    some ((-3 : Int32), m)
  else
    F_X6_back_13 FU m (0 : Int32)
noncomputable def F_X6_count_46 (K19 : Mem → Int32 → Int32 → Int32 → Option (Int32 × Mem)) (m : Mem) (a1 : Int32) (a3 : Int32) (s0 : Int32) (s1 : Int32) : Option (Int32 × Mem) :=
  nm (s1 + s0) fun x13 =>
  K19 m a1 x13 (a3 + (1 : Int32))
noncomputable def F_X6_count_54 (m : Mem) (a1 : Int32) (a2 : Int32) : Option (Int32 × Mem) :=
  if a1 = 0 then
    some (mD m 40 10, m)
  else
    if a1 = (1 : Int32) then
      some (a2, m)
    else
      if a1 = (2 : Int32) then
        some (mD m 40 7, m)
      else
        if a1 = (3 : Int32) then
          some (mD m 40 3, m)
        else
          if a1 = (4 : Int32) then
            some (mD m 40 6, m)
          else
            some (mD m 40 4, m)
noncomputable def F_X6_count_19 : Nat → Mem → Int32 → Int32 → Int32 → Option (Int32 × Mem)
  | 0 => fun m a1 a2 a3 => none
  | n + 1 => fun m a1 a2 a3 =>
    if (mD m 40 10) ≤ a3 then
      F_X6_count_54 m a1 a2
    else
      if a1 = (1 : Int32) then
        bnd (F_X6_isWhole m a3) fun v8 m9 =>
        if (bz v8) = 0 then
          F_X6_count_46 (F_X6_count_19 n) m9 a1 a3 (0 : Int32) a2
        else
          F_X6_count_46 (F_X6_count_19 n) m9 a1 a3 (1 : Int32) a2
      else
        F_X6_count_54 m a1 a2
noncomputable def F_X6_count (m : Mem) (a1 : Int32) : Option (Int32 × Mem) :=
  bnd (F_X6_in m a1.toInt64 (0 : Int64) (5 : Int64)) fun v1 m2 =>
  if (bz v1) = 0 then
    some ((-2 : Int32), m2)
  else
    F_X6_count_19 FU m2 a1 (0 : Int32) (0 : Int32)
noncomputable def F_X6_cell_83 (m : Mem) (s0 : Int32) (s1 : Int32) : Option (Int32 × Mem) :=
  gIf (vp_in s1 160) <|
  nm (wD m 53 s1.toNatClampNeg s0) fun m19 =>
  some ((1 : Int32), m19)
noncomputable def F_X6_cell (m : Mem) (a1 : Int32) (a2 : Int32) (a3 : Int32) : Option (Int32 × Mem) :=
  bnd (F_X6_isSheet m a1) fun v1 m2 =>
  if (bz v1) = 0 then
    some ((-2 : Int32), m2)
  else
    gIf (vp_in a1 4) <|
    if (mD m2 50 a1.toNatClampNeg) = 0 then
      some ((-11 : Int32), m2)
    else
      gIf (vp_in a1 4) <|
      bnd (F_X6_in m2 a2.toInt64 (0 : Int64) (((mD m2 52 a1.toNatClampNeg) - (1 : Int32)).toInt64)) fun v9 m10 =>
      if (bz v9) = 0 then
        some ((-12 : Int32), m10)
      else
        gIf (vp_in a1 4) <|
        if (mD m10 51 a1.toNatClampNeg) = 0 then
          F_X6_cell_83 m10 a3.toInt8.toInt32 (((40 : Int32) * a1) + a2)
        else
          gIf (vp_in a1 4) <|
          if (mD m10 51 a1.toNatClampNeg) = (1 : Int32) then
            F_X6_cell_83 m10 a3.toInt16.toInt32 (((40 : Int32) * a1) + a2)
          else
            F_X6_cell_83 m10 a3 (((40 : Int32) * a1) + a2)
noncomputable def F_X6_copy_145 (K121 : Mem → Int32 → Int32 → Int32 → Int32 → Int32 → Int32 → Int32 → Option (Int32 × Mem)) (m : Mem) (a1 : Int32) (a2 : Int32) (a3 : Int32) (a4 : Int32) (a5 : Int32) (a6 : Int32) (a7 : Int32) (s0 : Int32) : Option (Int32 × Mem) :=
  gIf (vp_in ((((40 : Int32) * a1) + a2) + s0) 160) <|
  gIf (vp_in ((((40 : Int32) * a3) + a4) + s0) 160) <|
  nm (wD m 53 ((((40 : Int32) * a3) + a4) + s0).toNatClampNeg (mD m 53 ((((40 : Int32) * a1) + a2) + s0).toNatClampNeg)) fun m31 =>
  K121 m31 a1 a2 a3 a4 a5 a6 (a7 + (1 : Int32))
noncomputable def F_X6_copy_121 : Nat → Mem → Int32 → Int32 → Int32 → Int32 → Int32 → Int32 → Int32 → Option (Int32 × Mem)
  | 0 => fun m a1 a2 a3 a4 a5 a6 a7 => none
  | n + 1 => fun m a1 a2 a3 a4 a5 a6 a7 =>
    if a5 ≤ a7 then
      some (a5, m)
    else
      if a6 = 0 then
        F_X6_copy_145 (F_X6_copy_121 n) m a1 a2 a3 a4 a5 a6 a7 a7
      else
        F_X6_copy_145 (F_X6_copy_121 n) m a1 a2 a3 a4 a5 a6 a7 ((a5 - (1 : Int32)) - a7)
noncomputable def F_X6_copy_116 (m : Mem) (a1 : Int32) (a2 : Int32) (a3 : Int32) (a4 : Int32) (a5 : Int32) (s0 : Int32) : Option (Int32 × Mem) :=
  F_X6_copy_121 FU m a1 a2 a3 a4 a5 s0 (0 : Int32)
noncomputable def F_X6_copy_115 (m : Mem) (a1 : Int32) (a2 : Int32) (a3 : Int32) (a4 : Int32) (a5 : Int32) : Option (Int32 × Mem) :=
  F_X6_copy_116 m a1 a2 a3 a4 a5 (0 : Int32)
noncomputable def F_X6_copy (m : Mem) (a1 : Int32) (a2 : Int32) (a3 : Int32) (a4 : Int32) (a5 : Int32) : Option (Int32 × Mem) :=
  bnd (F_X6_isSheet m a1) fun v1 m2 =>
  if (bz v1) = 0 then
    some ((-2 : Int32), m2)
  else
    bnd (F_X6_isSheet m2 a3) fun v6 m7 =>
    if (bz v6) = 0 then
      some ((-2 : Int32), m7)
    else
      gIf (vp_in a1 4) <|
      if (mD m7 50 a1.toNatClampNeg) = 0 then
        some ((-11 : Int32), m7)
      else
        gIf (vp_in a3 4) <|
        if (mD m7 50 a3.toNatClampNeg) = 0 then
          some ((-11 : Int32), m7)
        else
          gIf (vp_in a1 4) <|
          gIf (vp_in a3 4) <|
          if (mD m7 51 a1.toNatClampNeg) = (mD m7 51 a3.toNatClampNeg) then
            if a5 < 0 then
              some ((-12 : Int32), m7)
            else
              if a2 < 0 then
                some ((-12 : Int32), m7)
              else
                if a4 < 0 then
                  some ((-12 : Int32), m7)
                else
                  gIf (vp_in a1 4) <|
                  if ((mD m7 52 a1.toNatClampNeg) - a5) < a2 then
                    some ((-12 : Int32), m7)
                  else
                    gIf (vp_in a3 4) <|
                    if a4 ≤ ((mD m7 52 a3.toNatClampNeg) - a5) then
                      if a1 = a3 then
                        if a4 ≤ a2 then
                          F_X6_copy_115 m7 a1 a2 a3 a4 a5
                        else
                          F_X6_copy_116 m7 a1 a2 a3 a4 a5 (1 : Int32)
                      else
                        F_X6_copy_115 m7 a1 a2 a3 a4 a5
                    else
                      some ((-12 : Int32), m7)
          else
            some ((-13 : Int32), m7)
noncomputable def F_X6_coins_158 (K75 : Mem → Int32 → Int32 → Int32 → Int32 → Int32 → Option (Int32 × Mem)) (m : Mem) (a1 : Int32) (a3 : Int32) (a4 : Int32) (a6 : Int32) (s0 : Int32) (s1 : Int32) : Option (Int32 × Mem) :=
  nm (s1 + s0) fun x35 =>
  K75 m a1 a3 a4 x35 (a6 + (1 : Int32))
noncomputable def F_X6_coins_75 : Nat → Mem → Int32 → Int32 → Int32 → Int32 → Int32 → Option (Int32 × Mem)
  | 0 => fun m a1 a3 a4 a5 a6 => none
  | n + 1 => fun m a1 a3 a4 a5 a6 =>
    if a4 ≤ a6 then
      some (a5, m)
    else
      if a3 < 0 then
        some ((-12 : Int32), m)
      else
        gIf (vp_in a1 4) <|
        if a3 ≤ (((mD m 52 a1.toNatClampNeg) - ((3 : Int32) * a6)) - (3 : Int32)) then
          nm ((((40 : Int32) * a1) + a3) + ((3 : Int32) * a6)) fun x26 =>
          gIf (vp_in x26 160) <|
          gIf (vp_in (x26 + (1 : Int32)) 160) <|
          gIf (vp_in (x26 + (2 : Int32)) 160) <|
          bnd (F_X6_coin m (mD m 53 x26.toNatClampNeg) (mD m 53 (x26 + (1 : Int32)).toNatClampNeg) (mD m 53 (x26 + (2 : Int32)).toNatClampNeg)) fun v30 m31 =>
          if v30 < 0 then
            F_X6_coins_158 (F_X6_coins_75 n) m31 a1 a3 a4 a6 (0 : Int32) a5
          else
            F_X6_coins_158 (F_X6_coins_75 n) m31 a1 a3 a4 a6 (1 : Int32) a5
        else
          some ((-12 : Int32), m)
noncomputable def F_X6_coins_57 (m : Mem) (a1 : Int32) (a3 : Int32) (a4 : Int32) : Option (Int32 × Mem) :=
  gIf (vp_in a1 4) <|
  if (mD m 50 a1.toNatClampNeg) = 0 then
    some ((-11 : Int32), m)
  else
    F_X6_coins_75 FU m a1 a3 a4 (0 : Int32) (0 : Int32)
noncomputable def F_X6_coins (m : Mem) (a1 : Int32) (a2 : Int32) (a3 : Int32) (a4 : Int32) : Option (Int32 × Mem) :=
  bnd (F_X6_isSheet m a1) fun v1 m2 =>
  if (bz v1) = 0 then
    some ((-2 : Int32), m2)
  else
    bnd (F_X6_in m2 a2.toInt64 (0 : Int64) (2 : Int64)) fun v6 m7 =>
    if (bz v6) = 0 then
      some ((-2 : Int32), m7)
    else
      bnd (F_X6_in m7 a4.toInt64 (0 : Int64) (8 : Int64)) fun v11 m12 =>
      if (bz v11) = 0 then
        some ((-2 : Int32), m12)
      else
        gIf (vp_in a1 4) <|
        if (mD m12 50 a1.toNatClampNeg) = 0 then
          F_X6_coins_57 m12 a1 a3 a4
        else
          gIf (vp_in a1 4) <|
          if (mD m12 51 a1.toNatClampNeg) = a2 then
            F_X6_coins_57 m12 a1 a3 a4
          else
            some ((-13 : Int32), m12)
noncomputable def F_X6_over (m : Mem) (a0 : Int32) : Option (Int32 × Mem) :=
  if a0 = 0 then
    some ((-1 : Int32), m)
  else
    if a0 = (3 : Int32) then
      some ((1 : Int32), m)
    else
      if a0 = (4 : Int32) then
        some ((2 : Int32), m)
      else
        some ((0 : Int32), m)
noncomputable def F_X6_taken_51 (m : Mem) (a1 : Int32) (a2 : Int32) (a3 : Int32) : Option (Int32 × Mem) :=
  if a3 = a2 then
    gIf (vp_in ((5 : Int32) * a1) 40) <|
    some (mD m 45 ((5 : Int32) * a1).toNatClampNeg, m)
  else
    some ((-13 : Int32), m)
noncomputable def F_X6_taken_33 : Nat → Mem → Int32 → Int32 → Int32 → Option (Int32 × Mem)
  | 0 => fun m a1 a2 a3 => none
  | n + 1 => fun m a1 a2 a3 =>
    if a3 = (-1 : Int32) then
      F_X6_taken_51 m a1 a2 a3
    else
      if a3 = a2 then
        F_X6_taken_51 m a1 a2 a3
      else
        bnd (F_X6_over m a3) fun v15 m16 =>
        F_X6_taken_33 n m16 a1 a2 v15
noncomputable def F_X6_taken (m : Mem) (a1 : Int32) (a2 : Int32) : Option (Int32 × Mem) :=
  bnd (F_X6_in m a2.toInt64 (0 : Int64) (5 : Int64)) fun v1 m2 =>
  if (bz v1) = 0 then
    some ((-2 : Int32), m2)
  else
    bnd (F_X6_isCoin m2 a1) fun v6 m7 =>
    if (bz v6) = 0 then
      some ((-11 : Int32), m7)
    else
      gIf (vp_in a1 8) <|
      nm (mD m7 44 a1.toNatClampNeg) fun x12 =>
      F_X6_taken_33 FU m7 a1 a2 x12
