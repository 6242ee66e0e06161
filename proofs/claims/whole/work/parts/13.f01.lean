noncomputable def F_X6_isCoin (m : Mem) (a1 : Int32) : Option (Bool × Mem) :=
  bnd (F_X6_in m a1.toInt64 (0 : Int64) (((mD m 40 10) - (1 : Int32)).toInt64)) fun v1 m2 =>
  some (v1, m2)
noncomputable def F_X6_isOwner (m : Mem) (a0 : Int32) : Option (Bool × Mem) :=
  bnd (F_X6_in m a0.toInt64 (0 : Int64) (3 : Int64)) fun v1 m2 =>
  some (v1, m2)
noncomputable def F_X6_mostOf (m : Mem) (a0 : Int32) : Option (Int32 × Mem) :=
  if a0 = 0 then
    some ((999 : Int32), m)
  else
    if a0 = (4 : Int32) then
      some ((999 : Int32), m)
    else
      if a0 = (2 : Int32) then
        some ((99 : Int32), m)
      else
        if a0 = (5 : Int32) then
          some ((3 : Int32), m)
        else
          some ((9 : Int32), m)
noncomputable def F_X6_byteAt (m : Mem) (a1 : Int32) : Option (Int32 × Mem) :=
  if (mD m 40 18) ≤ a1 then
    some ((-1 : Int32), m)
  else
    gIf (vp_in ((mD m 40 17) + a1) 960) <|
    some (mD m 41 ((mD m 40 17) + a1).toNatClampNeg, m)
noncomputable def F_X6_next_100 : Nat → Mem → Option (Unit × Mem)
  | 0 => fun m => none
  | n + 1 => fun m =>
    bnd (F_X6_byteAt m (mD m 40 19)) fun v41 m42 =>
    bnd (F_X6_in m42 v41.toInt64 (97 : Int64) (122 : Int64)) fun v45 m46 =>
    if (bz v45) = 0 then
      some ((), m46)
    else
      nm (wD m46 40 19 ((mD m46 40 19) + (1 : Int32))) fun m50 =>
      F_X6_next_100 n m50
noncomputable def F_X6_next_216 (K160 : Mem → Int32 → Option (Unit × Mem)) (m : Mem) (a2 : Int32) (s0 : Int64) : Option (Unit × Mem) :=
  nm (wL m 40 22 s0) fun m66 =>
  nm (wD m66 40 19 ((mD m66 40 19) + (1 : Int32))) fun m67 =>
  K160 m67 (a2 + (1 : Int32))
noncomputable def F_X6_next_246 (m : Mem) (s0 : Int32) : Option (Unit × Mem) :=
  nm (wD m 40 20 s0) fun m68 =>
  some ((), m68)
noncomputable def F_X6_next_300 (m : Mem) (a1 : Int32) : Option (Unit × Mem) :=
  nm (wD m 40 20 (3 : Int32)) fun m69 =>
  nm (wL m69 40 22 a1.toInt64) fun m70 =>
  nm (wD m70 40 19 ((mD m70 40 19) + (1 : Int32))) fun m71 =>
  some ((), m71)
noncomputable def F_X6_next_26 (K0 : Mem → Option (Unit × Mem)) (m : Mem) : Option (Unit × Mem) :=
  nm (wD m 40 19 ((mD m 40 19) + (1 : Int32))) fun m72 =>
  K0 m72
noncomputable def F_X6_next_160 : Nat → Mem → Int32 → Option (Unit × Mem)
  | 0 => fun m a2 => none
  | n + 1 => fun m a2 =>
    bnd (F_X6_byteAt m (mD m 40 19)) fun v51 m52 =>
    bnd (F_X6_in m52 v51.toInt64 (48 : Int64) (57 : Int64)) fun v55 m56 =>
    if (bz v55) = 0 then
      if a2 ≤ (4 : Int32) then
        F_X6_next_246 m56 (2 : Int32)
      else
        F_X6_next_246 m56 (4 : Int32)
    else
      if (4 : Int32) ≤ a2 then
        F_X6_next_216 (F_X6_next_160 n) m56 a2 (mL m56 40 22)
      else
        bnd (F_X6_byteAt m56 (mD m56 40 19)) fun v62 m63 =>
        F_X6_next_216 (F_X6_next_160 n) m63 a2 ((((10 : Int64) * (mL m56 40 22)) + v62.toInt64) - (48 : Int64))
noncomputable def F_X6_next_0 : Nat → Mem → Option (Unit × Mem)
  | 0 => fun m => none
  | n + 1 => fun m =>
    bnd (F_X6_byteAt m (mD m 40 19)) fun v1 m2 =>
    if v1 = (32 : Int32) then
      F_X6_next_26 (F_X6_next_0 n) m2
    else
      bnd (F_X6_byteAt m2 (mD m2 40 19)) fun v6 m7 =>
      if v6 = (10 : Int32) then
        F_X6_next_26 (F_X6_next_0 n) m7
      else
        nm (wD m7 40 21 (mD m7 40 19)) fun m11 =>
        bnd (F_X6_byteAt m11 (mD m11 40 19)) fun v12 m13 =>
        nm (wD m13 40 20 (4 : Int32)) fun m16 =>
        if 0 ≤ v12 then
          bnd (F_X6_in m16 v12.toInt64 (97 : Int64) (122 : Int64)) fun v18 m19 =>
          if (bz v18) = 0 then
            bnd (F_X6_in m19 v12.toInt64 (48 : Int64) (57 : Int64)) fun v23 m24 =>
            if (bz v23) = 0 then
              if v12 = (40 : Int32) then
                F_X6_next_300 m24 v12
              else
                if v12 = (41 : Int32) then
                  F_X6_next_300 m24 v12
                else
                  if v12 = (59 : Int32) then
                    F_X6_next_300 m24 v12
                  else
                    if v12 = (43 : Int32) then
                      F_X6_next_300 m24 v12
                    else
                      if v12 = (45 : Int32) then
                        F_X6_next_300 m24 v12
                      else
                        if v12 = (42 : Int32) then
                          F_X6_next_300 m24 v12
                        else
                          if v12 = (60 : Int32) then
                            F_X6_next_300 m24 v12
                          else
                            if v12 = (61 : Int32) then
                              F_X6_next_300 m24 v12
                            else
                              some ((), m24)
            else
              nm (wD m24 40 20 (2 : Int32)) fun m36 =>
              nm (wL m36 40 22 (0 : Int64)) fun m37 =>
              F_X6_next_160 FU m37 (0 : Int32)
          else
            nm (wD m19 40 20 (1 : Int32)) fun m38 =>
            F_X6_next_100 FU m38
        else
          nm (wD m16 40 20 (0 : Int32)) fun m39 =>
          nm (wD m39 40 21 (mD m39 40 18)) fun m40 =>
          some ((), m40)
noncomputable def F_X6_next (m : Mem) : Option (Unit × Mem) :=
  F_X6_next_0 FU m
noncomputable def F_X6_isLetter (m : Mem) (a1 : Int32) (a2 : Int32) : Option (Bool × Mem) :=
  if (mD m 40 19) ≤ ((mD m 40 21) + a1) then
    if a2 = 0 then
      some (true, m)
    else
      some (false, m)
  else
    bnd (F_X6_byteAt m ((mD m 40 21) + a1)) fun v3 m4 =>
    if v3 = a2 then
      some (true, m4)
    else
      some (false, m4)
noncomputable def F_X6_isWord (m : Mem) (a1 : Int32) (a2 : Int32) (a3 : Int32) (a4 : Int32) (a5 : Int32) (a6 : Int32) (a7 : Int32) (a8 : Int32) : Option (Bool × Mem) :=
  if (mD m 40 24) = 0 then
    if (mD m 40 20) = (1 : Int32) then
      if ((mD m 40 21) + (8 : Int32)) < (mD m 40 19) then
        some (false, m)
      else
        bnd (F_X6_isLetter m (0 : Int32) a1) fun v4 m5 =>
        if (bz v4) = 0 then
          some (false, m5)
        else
          bnd (F_X6_isLetter m5 (1 : Int32) a2) fun v9 m10 =>
          if (bz v9) = 0 then
            some (false, m10)
          else
            bnd (F_X6_isLetter m10 (2 : Int32) a3) fun v14 m15 =>
            if (bz v14) = 0 then
              some (false, m15)
            else
              bnd (F_X6_isLetter m15 (3 : Int32) a4) fun v19 m20 =>
              if (bz v19) = 0 then
                some (false, m20)
              else
                bnd (F_X6_isLetter m20 (4 : Int32) a5) fun v24 m25 =>
                if (bz v24) = 0 then
                  some (false, m25)
                else
                  bnd (F_X6_isLetter m25 (5 : Int32) a6) fun v29 m30 =>
                  if (bz v29) = 0 then
                    some (false, m30)
                  else
                    bnd (F_X6_isLetter m30 (6 : Int32) a7) fun v34 m35 =>
                    if (bz v34) = 0 then
                      some (false, m35)
                    else
                      bnd (F_X6_isLetter m35 (7 : Int32) a8) fun v39 m40 =>
                      if (bz v39) = 0 then
                        some (false, m40)
                      else
                        some (true, m40)
    else
      some (false, m)
  else
    some (false, m)
noncomputable def F_X6_fail (m : Mem) : Option (Unit × Mem) :=
  if (mD m 40 24) = 0 then
    nm (wD m 40 24 (1 : Int32)) fun m2 =>
    nm (wD m2 40 25 (mD m2 40 21)) fun m3 =>
    some ((), m3)
  else
    some ((), m)
noncomputable def F_X6_isSign (m : Mem) (a1 : Int32) : Option (Bool × Mem) :=
  if (mD m 40 24) = 0 then
    if (mD m 40 20) = (3 : Int32) then
      if (lg_cmp (mL m 40 22) a1.toInt64) = 0 then
        some (true, m)
      else
        some (false, m)
    else
      some (false, m)
  else
    some (false, m)
noncomputable def F_X6_opens (m : Mem) : Option (Bool × Mem) :=
  if (mD m 40 23) = (5 : Int32) then
    bnd (F_X6_fail m) fun v7 m8 =>
    some (false, m8)
  else
    nm (wD m 40 23 ((mD m 40 23) + (1 : Int32))) fun m2 =>
    bnd (F_X6_next m2) fun v3 m4 =>
    some (true, m4)
noncomputable def F_X6_name (m : Mem) : Option (Int32 × Mem) :=
  bnd (F_X6_isWord m (118 : Int32) (97 : Int32) (108 : Int32) (117 : Int32) (101 : Int32) (0 : Int32) (0 : Int32) (0 : Int32)) fun v1 m2 =>
  if (bz v1) = 0 then
    bnd (F_X6_isWord m2 (102 : Int32) (105 : Int32) (114 : Int32) (115 : Int32) (116 : Int32) (0 : Int32) (0 : Int32) (0 : Int32)) fun v6 m7 =>
    if (bz v6) = 0 then
      bnd (F_X6_isWord m7 (110 : Int32) (117 : Int32) (109 : Int32) (98 : Int32) (101 : Int32) (114 : Int32) (0 : Int32) (0 : Int32)) fun v11 m12 =>
      if (bz v11) = 0 then
        bnd (F_X6_isWord m12 (97 : Int32) (103 : Int32) (101 : Int32) (0 : Int32) (0 : Int32) (0 : Int32) (0 : Int32) (0 : Int32)) fun v16 m17 =>
        if (bz v16) = 0 then
          bnd (F_X6_isWord m17 (111 : Int32) (119 : Int32) (110 : Int32) (101 : Int32) (114 : Int32) (0 : Int32) (0 : Int32) (0 : Int32)) fun v21 m22 =>
          if (bz v21) = 0 then
            bnd (F_X6_isWord m22 (100 : Int32) (97 : Int32) (121 : Int32) (0 : Int32) (0 : Int32) (0 : Int32) (0 : Int32) (0 : Int32)) fun v26 m27 =>
            if (bz v26) = 0 then
              bnd (F_X6_fail m27) fun v31 m32 =>
              some ((0 : Int32), m32)
            else
              some (mD m27 40 16, m27)
          else
            some (mD m22 40 15, m22)
        else
          some (mD m17 40 14, m17)
      else
        some (mD m12 40 13, m12)
    else
      some (mD m7 40 12, m7)
  else
    some (mD m2 40 11, m2)
noncomputable def F_X6_atom5_98 (m : Mem) (a1 : Int32) : Option (Int32 × Mem) :=
  bnd (F_X6_fail m) fun v37 m38 =>
  some (a1, m38)
noncomputable def F_X6_atom5_64 (m : Mem) (a1 : Int32) : Option (Int32 × Mem) :=
  if (mD m 40 24) = 0 then
    if (mD m 40 20) = (1 : Int32) then
      bnd (F_X6_name m) fun v28 m29 =>
      if (mD m29 40 24) = 0 then
        bnd (F_X6_next m29) fun v33 m34 =>
        some (v28, m34)
      else
        some (v28, m29)
    else
      F_X6_atom5_98 m a1
  else
    F_X6_atom5_98 m a1
noncomputable def F_X6_atom5 (m : Mem) : Option (Int32 × Mem) :=
  bnd (F_X6_isSign m (45 : Int32)) fun v1 m2 =>
  if (bz v1) = 0 then
    bnd (F_X6_isSign m2 (40 : Int32)) fun v6 m7 =>
    if (bz v6) = 0 then
      if (mD m7 40 24) = 0 then
        if (mD m7 40 20) = (2 : Int32) then
          nm ((mL m7 40 22).toInt32) fun x13 =>
          bnd (F_X6_next m7) fun v14 m15 =>
          some (x13, m15)
        else
          F_X6_atom5_64 m7 (0 : Int32)
      else
        F_X6_atom5_64 m7 (0 : Int32)
    else
      bnd (F_X6_opens m7) fun v18 m19 =>
      some ((0 : Int32), m19)
  else
    bnd (F_X6_opens m2) fun v22 m23 =>
    some ((0 : Int32), m23)
noncomputable def F_X6_term5_5 : Nat → Mem → Int32 → Option (Int32 × Mem)
  | 0 => fun m a1 => none
  | n + 1 => fun m a1 =>
    bnd (F_X6_isSign m (42 : Int32)) fun v5 m6 =>
    if (bz v5) = 0 then
      some (a1, m6)
    else
      bnd (F_X6_next m6) fun v10 m11 =>
      bnd (F_X6_atom5 m11) fun v14 m15 =>
      nm (a1 * v14) fun x18 =>
      F_X6_term5_5 n m15 x18
noncomputable def F_X6_term5 (m : Mem) : Option (Int32 × Mem) :=
  bnd (F_X6_atom5 m) fun v1 m2 =>
  F_X6_term5_5 FU m2 v1
noncomputable def F_X6_added5_62 (K5 : Mem → Int32 → Option (Int32 × Mem)) (m : Mem) (s0 : Int32) : Option (Int32 × Mem) :=
  K5 m s0
noncomputable def F_X6_added5_39 (K5 : Mem → Int32 → Option (Int32 × Mem)) (m : Mem) (a1 : Int32) (s0 : Int32) : Option (Int32 × Mem) :=
  bnd (F_X6_next m) fun v16 m17 =>
  bnd (F_X6_term5 m17) fun v20 m21 =>
  if s0 = 0 then
    F_X6_added5_62 K5 m21 (a1 - v20)
  else
    F_X6_added5_62 K5 m21 (a1 + v20)
noncomputable def F_X6_added5_23 (K5 : Mem → Int32 → Option (Int32 × Mem)) (m : Mem) (a1 : Int32) : Option (Int32 × Mem) :=
  if (lg_cmp (mL m 40 22) (43 : Int64)) = 0 then
    F_X6_added5_39 K5 m a1 (1 : Int32)
  else
    F_X6_added5_39 K5 m a1 (0 : Int32)
noncomputable def F_X6_added5_5 : Nat → Mem → Int32 → Option (Int32 × Mem)
  | 0 => fun m a1 => none
  | n + 1 => fun m a1 =>
    bnd (F_X6_isSign m (43 : Int32)) fun v5 m6 =>
    if (bz v5) = 0 then
      bnd (F_X6_isSign m6 (45 : Int32)) fun v10 m11 =>
      if (bz v10) = 0 then
        some (a1, m11)
      else
        F_X6_added5_23 (F_X6_added5_5 n) m11 a1
    else
      F_X6_added5_23 (F_X6_added5_5 n) m6 a1
noncomputable def F_X6_added5 (m : Mem) : Option (Int32 × Mem) :=
  bnd (F_X6_term5 m) fun v1 m2 =>
  F_X6_added5_5 FU m2 v1
noncomputable def F_X6_not5_66 (m : Mem) (a1 : Int32) (s0 : Int32) : Option (Int32 × Mem) :=
  bnd (F_X6_next m) fun v25 m26 =>
  bnd (F_X6_added5 m26) fun v29 m30 =>
  if s0 = 0 then
    if a1 = v29 then
      some ((1 : Int32), m30)
    else
      some ((0 : Int32), m30)
  else
    if v29 ≤ a1 then
      some ((0 : Int32), m30)
    else
      some ((1 : Int32), m30)
noncomputable def F_X6_not5_50 (m : Mem) (a1 : Int32) : Option (Int32 × Mem) :=
  if (lg_cmp (mL m 40 22) (60 : Int64)) = 0 then
    F_X6_not5_66 m a1 (1 : Int32)
  else
    F_X6_not5_66 m a1 (0 : Int32)
noncomputable def F_X6_not5 (m : Mem) : Option (Int32 × Mem) :=
  bnd (F_X6_isWord m (110 : Int32) (111 : Int32) (116 : Int32) (0 : Int32) (0 : Int32) (0 : Int32) (0 : Int32) (0 : Int32)) fun v1 m2 =>
  if (bz v1) = 0 then
    bnd (F_X6_added5 m2) fun v6 m7 =>
    bnd (F_X6_isSign m7 (60 : Int32)) fun v10 m11 =>
    if (bz v10) = 0 then
      bnd (F_X6_isSign m11 (61 : Int32)) fun v15 m16 =>
      if (bz v15) = 0 then
        some (v6, m16)
      else
        F_X6_not5_50 m16 v6
    else
      F_X6_not5_50 m11 v6
  else
    bnd (F_X6_opens m2) fun v20 m21 =>
    some ((0 : Int32), m21)
noncomputable def F_X6_both5_45 (K5 : Mem → Int32 → Option (Int32 × Mem)) (m : Mem) (s0 : Int32) : Option (Int32 × Mem) :=
  K5 m s0
noncomputable def F_X6_both5_44 (K5 : Mem → Int32 → Option (Int32 × Mem)) (m : Mem) : Option (Int32 × Mem) :=
  F_X6_both5_45 K5 m (0 : Int32)
noncomputable def F_X6_both5_5 : Nat → Mem → Int32 → Option (Int32 × Mem)
  | 0 => fun m a1 => none
  | n + 1 => fun m a1 =>
    bnd (F_X6_isWord m (97 : Int32) (110 : Int32) (100 : Int32) (0 : Int32) (0 : Int32) (0 : Int32) (0 : Int32) (0 : Int32)) fun v5 m6 =>
    if (bz v5) = 0 then
      some (a1, m6)
    else
      bnd (F_X6_next m6) fun v10 m11 =>
      bnd (F_X6_not5 m11) fun v14 m15 =>
      if a1 = 0 then
        F_X6_both5_44 (F_X6_both5_5 n) m15
      else
        if v14 = 0 then
          F_X6_both5_44 (F_X6_both5_5 n) m15
        else
          F_X6_both5_45 (F_X6_both5_5 n) m15 (1 : Int32)
noncomputable def F_X6_both5 (m : Mem) : Option (Int32 × Mem) :=
  bnd (F_X6_not5 m) fun v1 m2 =>
  F_X6_both5_5 FU m2 v1
noncomputable def F_X6_either5_44 (K5 : Mem → Int32 → Option (Int32 × Mem)) (m : Mem) (s0 : Int32) : Option (Int32 × Mem) :=
  K5 m s0
noncomputable def F_X6_either5_39 (K5 : Mem → Int32 → Option (Int32 × Mem)) (m : Mem) : Option (Int32 × Mem) :=
  F_X6_either5_44 K5 m (1 : Int32)
noncomputable def F_X6_either5_5 : Nat → Mem → Int32 → Option (Int32 × Mem)
  | 0 => fun m a1 => none
  | n + 1 => fun m a1 =>
    bnd (F_X6_isWord m (111 : Int32) (114 : Int32) (0 : Int32) (0 : Int32) (0 : Int32) (0 : Int32) (0 : Int32) (0 : Int32)) fun v5 m6 =>
    if (bz v5) = 0 then
      some (a1, m6)
    else
      bnd (F_X6_next m6) fun v10 m11 =>
      bnd (F_X6_both5 m11) fun v14 m15 =>
      if a1 = 0 then
        if v14 = 0 then
          F_X6_either5_44 (F_X6_either5_5 n) m15 (0 : Int32)
        else
          F_X6_either5_39 (F_X6_either5_5 n) m15
      else
        F_X6_either5_39 (F_X6_either5_5 n) m15
noncomputable def F_X6_either5 (m : Mem) : Option (Int32 × Mem) :=
  bnd (F_X6_both5 m) fun v1 m2 =>
  F_X6_either5_5 FU m2 v1
noncomputable def F_X6_atom4_71 (m : Mem) (a1 : Int32) : Option (Int32 × Mem) :=
  nm (wD m 40 23 ((mD m 40 23) - (1 : Int32))) fun m47 =>
  if (mD m47 40 24) = 0 then
    bnd (F_X6_next m47) fun v49 m50 =>
    some (a1, m50)
  else
    some (a1, m47)
noncomputable def F_X6_atom4_157 (m : Mem) (a1 : Int32) : Option (Int32 × Mem) :=
  bnd (F_X6_fail m) fun v64 m65 =>
  some (a1, m65)
noncomputable def F_X6_atom4_123 (m : Mem) (a1 : Int32) : Option (Int32 × Mem) :=
  if (mD m 40 24) = 0 then
    if (mD m 40 20) = (1 : Int32) then
      bnd (F_X6_name m) fun v55 m56 =>
      if (mD m56 40 24) = 0 then
        bnd (F_X6_next m56) fun v60 m61 =>
        some (v55, m61)
      else
        some (v55, m56)
    else
      F_X6_atom4_157 m a1
  else
    F_X6_atom4_157 m a1
noncomputable def F_X6_atom4 (m : Mem) : Option (Int32 × Mem) :=
  bnd (F_X6_isSign m (45 : Int32)) fun v1 m2 =>
  if (bz v1) = 0 then
    bnd (F_X6_isSign m2 (40 : Int32)) fun v6 m7 =>
    if (bz v6) = 0 then
      if (mD m7 40 24) = 0 then
        if (mD m7 40 20) = (2 : Int32) then
          nm ((mL m7 40 22).toInt32) fun x13 =>
          bnd (F_X6_next m7) fun v14 m15 =>
          some (x13, m15)
        else
          F_X6_atom4_123 m7 (0 : Int32)
      else
        F_X6_atom4_123 m7 (0 : Int32)
    else
      bnd (F_X6_opens m7) fun v18 m19 =>
      if (bz v18) = 0 then
        some ((0 : Int32), m19)
      else
        bnd (F_X6_either5 m19) fun v23 m24 =>
        bnd (F_X6_isSign m24 (41 : Int32)) fun v27 m28 =>
        if (bz v27) = 0 then
          bnd (F_X6_fail m28) fun v32 m33 =>
          F_X6_atom4_71 m33 v23
        else
          F_X6_atom4_71 m28 v23
  else
    bnd (F_X6_opens m2) fun v36 m37 =>
    if (bz v36) = 0 then
      some ((0 : Int32), m37)
    else
      bnd (F_X6_atom5 m37) fun v41 m42 =>
      nm (-v41) fun x45 =>
      nm (wD m42 40 23 ((mD m42 40 23) - (1 : Int32))) fun m46 =>
      some (x45, m46)
noncomputable def F_X6_term4_5 : Nat → Mem → Int32 → Option (Int32 × Mem)
  | 0 => fun m a1 => none
  | n + 1 => fun m a1 =>
    bnd (F_X6_isSign m (42 : Int32)) fun v5 m6 =>
    if (bz v5) = 0 then
      some (a1, m6)
    else
      bnd (F_X6_next m6) fun v10 m11 =>
      bnd (F_X6_atom4 m11) fun v14 m15 =>
      nm (a1 * v14) fun x18 =>
      F_X6_term4_5 n m15 x18
noncomputable def F_X6_term4 (m : Mem) : Option (Int32 × Mem) :=
  bnd (F_X6_atom4 m) fun v1 m2 =>
  F_X6_term4_5 FU m2 v1
noncomputable def F_X6_added4_62 (K5 : Mem → Int32 → Option (Int32 × Mem)) (m : Mem) (s0 : Int32) : Option (Int32 × Mem) :=
  K5 m s0
noncomputable def F_X6_added4_39 (K5 : Mem → Int32 → Option (Int32 × Mem)) (m : Mem) (a1 : Int32) (s0 : Int32) : Option (Int32 × Mem) :=
  bnd (F_X6_next m) fun v16 m17 =>
  bnd (F_X6_term4 m17) fun v20 m21 =>
  if s0 = 0 then
    F_X6_added4_62 K5 m21 (a1 - v20)
  else
    F_X6_added4_62 K5 m21 (a1 + v20)
noncomputable def F_X6_added4_23 (K5 : Mem → Int32 → Option (Int32 × Mem)) (m : Mem) (a1 : Int32) : Option (Int32 × Mem) :=
  if (lg_cmp (mL m 40 22) (43 : Int64)) = 0 then
    F_X6_added4_39 K5 m a1 (1 : Int32)
  else
    F_X6_added4_39 K5 m a1 (0 : Int32)
noncomputable def F_X6_added4_5 : Nat → Mem → Int32 → Option (Int32 × Mem)
  | 0 => fun m a1 => none
  | n + 1 => fun m a1 =>
    bnd (F_X6_isSign m (43 : Int32)) fun v5 m6 =>
    if (bz v5) = 0 then
      bnd (F_X6_isSign m6 (45 : Int32)) fun v10 m11 =>
      if (bz v10) = 0 then
        some (a1, m11)
      else
        F_X6_added4_23 (F_X6_added4_5 n) m11 a1
    else
      F_X6_added4_23 (F_X6_added4_5 n) m6 a1
noncomputable def F_X6_added4 (m : Mem) : Option (Int32 × Mem) :=
  bnd (F_X6_term4 m) fun v1 m2 =>
  F_X6_added4_5 FU m2 v1
noncomputable def F_X6_not4_93 (m : Mem) (a1 : Int32) (s0 : Int32) : Option (Int32 × Mem) :=
  bnd (F_X6_next m) fun v32 m33 =>
  bnd (F_X6_added4 m33) fun v36 m37 =>
  if s0 = 0 then
    if a1 = v36 then
      some ((1 : Int32), m37)
    else
      some ((0 : Int32), m37)
  else
    if v36 ≤ a1 then
      some ((0 : Int32), m37)
    else
      some ((1 : Int32), m37)
noncomputable def F_X6_not4_77 (m : Mem) (a1 : Int32) : Option (Int32 × Mem) :=
  if (lg_cmp (mL m 40 22) (60 : Int64)) = 0 then
    F_X6_not4_93 m a1 (1 : Int32)
  else
    F_X6_not4_93 m a1 (0 : Int32)
noncomputable def F_X6_not4 (m : Mem) : Option (Int32 × Mem) :=
  bnd (F_X6_isWord m (110 : Int32) (111 : Int32) (116 : Int32) (0 : Int32) (0 : Int32) (0 : Int32) (0 : Int32) (0 : Int32)) fun v1 m2 =>
  if (bz v1) = 0 then
    bnd (F_X6_added4 m2) fun v6 m7 =>
    bnd (F_X6_isSign m7 (60 : Int32)) fun v10 m11 =>
    if (bz v10) = 0 then
      bnd (F_X6_isSign m11 (61 : Int32)) fun v15 m16 =>
      if (bz v15) = 0 then
        some (v6, m16)
      else
        F_X6_not4_77 m16 v6
    else
      F_X6_not4_77 m11 v6
  else
    bnd (F_X6_opens m2) fun v20 m21 =>
    if (bz v20) = 0 then
      some ((0 : Int32), m21)
    else
      bnd (F_X6_not5 m21) fun v25 m26 =>
      nm (wD m26 40 23 ((mD m26 40 23) - (1 : Int32))) fun m29 =>
      if v25 = 0 then
        some ((1 : Int32), m29)
      else
        some ((0 : Int32), m29)
noncomputable def F_X6_both4_45 (K5 : Mem → Int32 → Option (Int32 × Mem)) (m : Mem) (s0 : Int32) : Option (Int32 × Mem) :=
  K5 m s0
noncomputable def F_X6_both4_44 (K5 : Mem → Int32 → Option (Int32 × Mem)) (m : Mem) : Option (Int32 × Mem) :=
  F_X6_both4_45 K5 m (0 : Int32)
noncomputable def F_X6_both4_5 : Nat → Mem → Int32 → Option (Int32 × Mem)
  | 0 => fun m a1 => none
  | n + 1 => fun m a1 =>
    bnd (F_X6_isWord m (97 : Int32) (110 : Int32) (100 : Int32) (0 : Int32) (0 : Int32) (0 : Int32) (0 : Int32) (0 : Int32)) fun v5 m6 =>
    if (bz v5) = 0 then
      some (a1, m6)
    else
      bnd (F_X6_next m6) fun v10 m11 =>
      bnd (F_X6_not4 m11) fun v14 m15 =>
      if a1 = 0 then
        F_X6_both4_44 (F_X6_both4_5 n) m15
      else
        if v14 = 0 then
          F_X6_both4_44 (F_X6_both4_5 n) m15
        else
          F_X6_both4_45 (F_X6_both4_5 n) m15 (1 : Int32)
noncomputable def F_X6_both4 (m : Mem) : Option (Int32 × Mem) :=
  bnd (F_X6_not4 m) fun v1 m2 =>
  F_X6_both4_5 FU m2 v1
noncomputable def F_X6_either4_44 (K5 : Mem → Int32 → Option (Int32 × Mem)) (m : Mem) (s0 : Int32) : Option (Int32 × Mem) :=
  K5 m s0
noncomputable def F_X6_either4_39 (K5 : Mem → Int32 → Option (Int32 × Mem)) (m : Mem) : Option (Int32 × Mem) :=
  F_X6_either4_44 K5 m (1 : Int32)
noncomputable def F_X6_either4_5 : Nat → Mem → Int32 → Option (Int32 × Mem)
  | 0 => fun m a1 => none
  | n + 1 => fun m a1 =>
    bnd (F_X6_isWord m (111 : Int32) (114 : Int32) (0 : Int32) (0 : Int32) (0 : Int32) (0 : Int32) (0 : Int32) (0 : Int32)) fun v5 m6 =>
    if (bz v5) = 0 then
      some (a1, m6)
    else
      bnd (F_X6_next m6) fun v10 m11 =>
      bnd (F_X6_both4 m11) fun v14 m15 =>
      if a1 = 0 then
        if v14 = 0 then
          F_X6_either4_44 (F_X6_either4_5 n) m15 (0 : Int32)
        else
          F_X6_either4_39 (F_X6_either4_5 n) m15
      else
        F_X6_either4_39 (F_X6_either4_5 n) m15
noncomputable def F_X6_either4 (m : Mem) : Option (Int32 × Mem) :=
  bnd (F_X6_both4 m) fun v1 m2 =>
  F_X6_either4_5 FU m2 v1
noncomputable def F_X6_atom3_71 (m : Mem) (a1 : Int32) : Option (Int32 × Mem) :=
  nm (wD m 40 23 ((mD m 40 23) - (1 : Int32))) fun m47 =>
  if (mD m47 40 24) = 0 then
    bnd (F_X6_next m47) fun v49 m50 =>
    some (a1, m50)
  else
    some (a1, m47)
noncomputable def F_X6_atom3_157 (m : Mem) (a1 : Int32) : Option (Int32 × Mem) :=
  bnd (F_X6_fail m) fun v64 m65 =>
  some (a1, m65)
noncomputable def F_X6_atom3_123 (m : Mem) (a1 : Int32) : Option (Int32 × Mem) :=
  if (mD m 40 24) = 0 then
    if (mD m 40 20) = (1 : Int32) then
      bnd (F_X6_name m) fun v55 m56 =>
      if (mD m56 40 24) = 0 then
        bnd (F_X6_next m56) fun v60 m61 =>
        some (v55, m61)
      else
        some (v55, m56)
    else
      F_X6_atom3_157 m a1
  else
    F_X6_atom3_157 m a1
noncomputable def F_X6_atom3 (m : Mem) : Option (Int32 × Mem) :=
  bnd (F_X6_isSign m (45 : Int32)) fun v1 m2 =>
  if (bz v1) = 0 then
    bnd (F_X6_isSign m2 (40 : Int32)) fun v6 m7 =>
    if (bz v6) = 0 then
      if (mD m7 40 24) = 0 then
        if (mD m7 40 20) = (2 : Int32) then
          nm ((mL m7 40 22).toInt32) fun x13 =>
          bnd (F_X6_next m7) fun v14 m15 =>
          some (x13, m15)
        else
          F_X6_atom3_123 m7 (0 : Int32)
      else
        F_X6_atom3_123 m7 (0 : Int32)
    else
      bnd (F_X6_opens m7) fun v18 m19 =>
      if (bz v18) = 0 then
        some ((0 : Int32), m19)
      else
        bnd (F_X6_either4 m19) fun v23 m24 =>
        bnd (F_X6_isSign m24 (41 : Int32)) fun v27 m28 =>
        if (bz v27) = 0 then
          bnd (F_X6_fail m28) fun v32 m33 =>
          F_X6_atom3_71 m33 v23
        else
          F_X6_atom3_71 m28 v23
  else
    bnd (F_X6_opens m2) fun v36 m37 =>
    if (bz v36) = 0 then
      some ((0 : Int32), m37)
    else
      bnd (F_X6_atom4 m37) fun v41 m42 =>
      nm (-v41) fun x45 =>
      nm (wD m42 40 23 ((mD m42 40 23) - (1 : Int32))) fun m46 =>
      some (x45, m46)
noncomputable def F_X6_term3_5 : Nat → Mem → Int32 → Option (Int32 × Mem)
  | 0 => fun m a1 => none
  | n + 1 => fun m a1 =>
    bnd (F_X6_isSign m (42 : Int32)) fun v5 m6 =>
    if (bz v5) = 0 then
      some (a1, m6)
    else
      bnd (F_X6_next m6) fun v10 m11 =>
      bnd (F_X6_atom3 m11) fun v14 m15 =>
      nm (a1 * v14) fun x18 =>
      F_X6_term3_5 n m15 x18
noncomputable def F_X6_term3 (m : Mem) : Option (Int32 × Mem) :=
  bnd (F_X6_atom3 m) fun v1 m2 =>
  F_X6_term3_5 FU m2 v1
noncomputable def F_X6_added3_62 (K5 : Mem → Int32 → Option (Int32 × Mem)) (m : Mem) (s0 : Int32) : Option (Int32 × Mem) :=
  K5 m s0
noncomputable def F_X6_added3_39 (K5 : Mem → Int32 → Option (Int32 × Mem)) (m : Mem) (a1 : Int32) (s0 : Int32) : Option (Int32 × Mem) :=
  bnd (F_X6_next m) fun v16 m17 =>
  bnd (F_X6_term3 m17) fun v20 m21 =>
  if s0 = 0 then
    F_X6_added3_62 K5 m21 (a1 - v20)
  else
    F_X6_added3_62 K5 m21 (a1 + v20)
noncomputable def F_X6_added3_23 (K5 : Mem → Int32 → Option (Int32 × Mem)) (m : Mem) (a1 : Int32) : Option (Int32 × Mem) :=
  if (lg_cmp (mL m 40 22) (43 : Int64)) = 0 then
    F_X6_added3_39 K5 m a1 (1 : Int32)
  else
    F_X6_added3_39 K5 m a1 (0 : Int32)
noncomputable def F_X6_added3_5 : Nat → Mem → Int32 → Option (Int32 × Mem)
  | 0 => fun m a1 => none
  | n + 1 => fun m a1 =>
    bnd (F_X6_isSign m (43 : Int32)) fun v5 m6 =>
    if (bz v5) = 0 then
      bnd (F_X6_isSign m6 (45 : Int32)) fun v10 m11 =>
      if (bz v10) = 0 then
        some (a1, m11)
      else
        F_X6_added3_23 (F_X6_added3_5 n) m11 a1
    else
      F_X6_added3_23 (F_X6_added3_5 n) m6 a1
noncomputable def F_X6_added3 (m : Mem) : Option (Int32 × Mem) :=
  bnd (F_X6_term3 m) fun v1 m2 =>
  F_X6_added3_5 FU m2 v1
noncomputable def F_X6_not3_93 (m : Mem) (a1 : Int32) (s0 : Int32) : Option (Int32 × Mem) :=
  bnd (F_X6_next m) fun v32 m33 =>
  bnd (F_X6_added3 m33) fun v36 m37 =>
  if s0 = 0 then
    if a1 = v36 then
      some ((1 : Int32), m37)
    else
      some ((0 : Int32), m37)
  else
    if v36 ≤ a1 then
      some ((0 : Int32), m37)
    else
      some ((1 : Int32), m37)
noncomputable def F_X6_not3_77 (m : Mem) (a1 : Int32) : Option (Int32 × Mem) :=
  if (lg_cmp (mL m 40 22) (60 : Int64)) = 0 then
    F_X6_not3_93 m a1 (1 : Int32)
  else
    F_X6_not3_93 m a1 (0 : Int32)
noncomputable def F_X6_not3 (m : Mem) : Option (Int32 × Mem) :=
  bnd (F_X6_isWord m (110 : Int32) (111 : Int32) (116 : Int32) (0 : Int32) (0 : Int32) (0 : Int32) (0 : Int32) (0 : Int32)) fun v1 m2 =>
  if (bz v1) = 0 then
    bnd (F_X6_added3 m2) fun v6 m7 =>
    bnd (F_X6_isSign m7 (60 : Int32)) fun v10 m11 =>
    if (bz v10) = 0 then
      bnd (F_X6_isSign m11 (61 : Int32)) fun v15 m16 =>
      if (bz v15) = 0 then
        some (v6, m16)
      else
        F_X6_not3_77 m16 v6
    else
      F_X6_not3_77 m11 v6
  else
    bnd (F_X6_opens m2) fun v20 m21 =>
    if (bz v20) = 0 then
      some ((0 : Int32), m21)
    else
      bnd (F_X6_not4 m21) fun v25 m26 =>
      nm (wD m26 40 23 ((mD m26 40 23) - (1 : Int32))) fun m29 =>
      if v25 = 0 then
        some ((1 : Int32), m29)
      else
        some ((0 : Int32), m29)
noncomputable def F_X6_both3_45 (K5 : Mem → Int32 → Option (Int32 × Mem)) (m : Mem) (s0 : Int32) : Option (Int32 × Mem) :=
  K5 m s0
noncomputable def F_X6_both3_44 (K5 : Mem → Int32 → Option (Int32 × Mem)) (m : Mem) : Option (Int32 × Mem) :=
  F_X6_both3_45 K5 m (0 : Int32)
noncomputable def F_X6_both3_5 : Nat → Mem → Int32 → Option (Int32 × Mem)
  | 0 => fun m a1 => none
  | n + 1 => fun m a1 =>
    bnd (F_X6_isWord m (97 : Int32) (110 : Int32) (100 : Int32) (0 : Int32) (0 : Int32) (0 : Int32) (0 : Int32) (0 : Int32)) fun v5 m6 =>
    if (bz v5) = 0 then
      some (a1, m6)
    else
      bnd (F_X6_next m6) fun v10 m11 =>
      bnd (F_X6_not3 m11) fun v14 m15 =>
      if a1 = 0 then
        F_X6_both3_44 (F_X6_both3_5 n) m15
      else
        if v14 = 0 then
          F_X6_both3_44 (F_X6_both3_5 n) m15
        else
          F_X6_both3_45 (F_X6_both3_5 n) m15 (1 : Int32)
noncomputable def F_X6_both3 (m : Mem) : Option (Int32 × Mem) :=
  bnd (F_X6_not3 m) fun v1 m2 =>
  F_X6_both3_5 FU m2 v1
noncomputable def F_X6_either3_44 (K5 : Mem → Int32 → Option (Int32 × Mem)) (m : Mem) (s0 : Int32) : Option (Int32 × Mem) :=
  K5 m s0
noncomputable def F_X6_either3_39 (K5 : Mem → Int32 → Option (Int32 × Mem)) (m : Mem) : Option (Int32 × Mem) :=
  F_X6_either3_44 K5 m (1 : Int32)
noncomputable def F_X6_either3_5 : Nat → Mem → Int32 → Option (Int32 × Mem)
  | 0 => fun m a1 => none
  | n + 1 => fun m a1 =>
    bnd (F_X6_isWord m (111 : Int32) (114 : Int32) (0 : Int32) (0 : Int32) (0 : Int32) (0 : Int32) (0 : Int32) (0 : Int32)) fun v5 m6 =>
    if (bz v5) = 0 then
      some (a1, m6)
    else
      bnd (F_X6_next m6) fun v10 m11 =>
      bnd (F_X6_both3 m11) fun v14 m15 =>
      if a1 = 0 then
        if v14 = 0 then
          F_X6_either3_44 (F_X6_either3_5 n) m15 (0 : Int32)
        else
          F_X6_either3_39 (F_X6_either3_5 n) m15
      else
        F_X6_either3_39 (F_X6_either3_5 n) m15
noncomputable def F_X6_either3 (m : Mem) : Option (Int32 × Mem) :=
  bnd (F_X6_both3 m) fun v1 m2 =>
  F_X6_either3_5 FU m2 v1
noncomputable def F_X6_atom2_71 (m : Mem) (a1 : Int32) : Option (Int32 × Mem) :=
  nm (wD m 40 23 ((mD m 40 23) - (1 : Int32))) fun m47 =>
  if (mD m47 40 24) = 0 then
    bnd (F_X6_next m47) fun v49 m50 =>
    some (a1, m50)
  else
    some (a1, m47)
noncomputable def F_X6_atom2_157 (m : Mem) (a1 : Int32) : Option (Int32 × Mem) :=
  bnd (F_X6_fail m) fun v64 m65 =>
  some (a1, m65)
noncomputable def F_X6_atom2_123 (m : Mem) (a1 : Int32) : Option (Int32 × Mem) :=
  if (mD m 40 24) = 0 then
    if (mD m 40 20) = (1 : Int32) then
      bnd (F_X6_name m) fun v55 m56 =>
      if (mD m56 40 24) = 0 then
        bnd (F_X6_next m56) fun v60 m61 =>
        some (v55, m61)
      else
        some (v55, m56)
    else
      F_X6_atom2_157 m a1
  else
    F_X6_atom2_157 m a1
noncomputable def F_X6_atom2 (m : Mem) : Option (Int32 × Mem) :=
  bnd (F_X6_isSign m (45 : Int32)) fun v1 m2 =>
  if (bz v1) = 0 then
    bnd (F_X6_isSign m2 (40 : Int32)) fun v6 m7 =>
    if (bz v6) = 0 then
      if (mD m7 40 24) = 0 then
        if (mD m7 40 20) = (2 : Int32) then
          nm ((mL m7 40 22).toInt32) fun x13 =>
          bnd (F_X6_next m7) fun v14 m15 =>
          some (x13, m15)
        else
          F_X6_atom2_123 m7 (0 : Int32)
      else
        F_X6_atom2_123 m7 (0 : Int32)
    else
      bnd (F_X6_opens m7) fun v18 m19 =>
      if (bz v18) = 0 then
        some ((0 : Int32), m19)
      else
        bnd (F_X6_either3 m19) fun v23 m24 =>
        bnd (F_X6_isSign m24 (41 : Int32)) fun v27 m28 =>
        if (bz v27) = 0 then
          bnd (F_X6_fail m28) fun v32 m33 =>
          F_X6_atom2_71 m33 v23
        else
          F_X6_atom2_71 m28 v23
  else
    bnd (F_X6_opens m2) fun v36 m37 =>
    if (bz v36) = 0 then
      some ((0 : Int32), m37)
    else
      bnd (F_X6_atom3 m37) fun v41 m42 =>
      nm (-v41) fun x45 =>
      nm (wD m42 40 23 ((mD m42 40 23) - (1 : Int32))) fun m46 =>
      some (x45, m46)
noncomputable def F_X6_term2_5 : Nat → Mem → Int32 → Option (Int32 × Mem)
  | 0 => fun m a1 => none
  | n + 1 => fun m a1 =>
    bnd (F_X6_isSign m (42 : Int32)) fun v5 m6 =>
    if (bz v5) = 0 then
      some (a1, m6)
    else
      bnd (F_X6_next m6) fun v10 m11 =>
      bnd (F_X6_atom2 m11) fun v14 m15 =>
      nm (a1 * v14) fun x18 =>
      F_X6_term2_5 n m15 x18
noncomputable def F_X6_term2 (m : Mem) : Option (Int32 × Mem) :=
  bnd (F_X6_atom2 m) fun v1 m2 =>
  F_X6_term2_5 FU m2 v1
noncomputable def F_X6_added2_62 (K5 : Mem → Int32 → Option (Int32 × Mem)) (m : Mem) (s0 : Int32) : Option (Int32 × Mem) :=
  K5 m s0
noncomputable def F_X6_added2_39 (K5 : Mem → Int32 → Option (Int32 × Mem)) (m : Mem) (a1 : Int32) (s0 : Int32) : Option (Int32 × Mem) :=
  bnd (F_X6_next m) fun v16 m17 =>
  bnd (F_X6_term2 m17) fun v20 m21 =>
  if s0 = 0 then
    F_X6_added2_62 K5 m21 (a1 - v20)
  else
    F_X6_added2_62 K5 m21 (a1 + v20)
noncomputable def F_X6_added2_23 (K5 : Mem → Int32 → Option (Int32 × Mem)) (m : Mem) (a1 : Int32) : Option (Int32 × Mem) :=
  if (lg_cmp (mL m 40 22) (43 : Int64)) = 0 then
    F_X6_added2_39 K5 m a1 (1 : Int32)
  else
    F_X6_added2_39 K5 m a1 (0 : Int32)
noncomputable def F_X6_added2_5 : Nat → Mem → Int32 → Option (Int32 × Mem)
  | 0 => fun m a1 => none
  | n + 1 => fun m a1 =>
    bnd (F_X6_isSign m (43 : Int32)) fun v5 m6 =>
    if (bz v5) = 0 then
      bnd (F_X6_isSign m6 (45 : Int32)) fun v10 m11 =>
      if (bz v10) = 0 then
        some (a1, m11)
      else
        F_X6_added2_23 (F_X6_added2_5 n) m11 a1
    else
      F_X6_added2_23 (F_X6_added2_5 n) m6 a1
noncomputable def F_X6_added2 (m : Mem) : Option (Int32 × Mem) :=
  bnd (F_X6_term2 m) fun v1 m2 =>
  F_X6_added2_5 FU m2 v1
noncomputable def F_X6_not2_93 (m : Mem) (a1 : Int32) (s0 : Int32) : Option (Int32 × Mem) :=
  bnd (F_X6_next m) fun v32 m33 =>
  bnd (F_X6_added2 m33) fun v36 m37 =>
  if s0 = 0 then
    if a1 = v36 then
      some ((1 : Int32), m37)
    else
      some ((0 : Int32), m37)
  else
    if v36 ≤ a1 then
      some ((0 : Int32), m37)
    else
      some ((1 : Int32), m37)
noncomputable def F_X6_not2_77 (m : Mem) (a1 : Int32) : Option (Int32 × Mem) :=
  if (lg_cmp (mL m 40 22) (60 : Int64)) = 0 then
    F_X6_not2_93 m a1 (1 : Int32)
  else
    F_X6_not2_93 m a1 (0 : Int32)
noncomputable def F_X6_not2 (m : Mem) : Option (Int32 × Mem) :=
  bnd (F_X6_isWord m (110 : Int32) (111 : Int32) (116 : Int32) (0 : Int32) (0 : Int32) (0 : Int32) (0 : Int32) (0 : Int32)) fun v1 m2 =>
  if (bz v1) = 0 then
    bnd (F_X6_added2 m2) fun v6 m7 =>
    bnd (F_X6_isSign m7 (60 : Int32)) fun v10 m11 =>
    if (bz v10) = 0 then
      bnd (F_X6_isSign m11 (61 : Int32)) fun v15 m16 =>
      if (bz v15) = 0 then
        some (v6, m16)
      else
        F_X6_not2_77 m16 v6
    else
      F_X6_not2_77 m11 v6
  else
    bnd (F_X6_opens m2) fun v20 m21 =>
    if (bz v20) = 0 then
      some ((0 : Int32), m21)
    else
      bnd (F_X6_not3 m21) fun v25 m26 =>
      nm (wD m26 40 23 ((mD m26 40 23) - (1 : Int32))) fun m29 =>
      if v25 = 0 then
        some ((1 : Int32), m29)
      else
        some ((0 : Int32), m29)
noncomputable def F_X6_both2_45 (K5 : Mem → Int32 → Option (Int32 × Mem)) (m : Mem) (s0 : Int32) : Option (Int32 × Mem) :=
  K5 m s0
noncomputable def F_X6_both2_44 (K5 : Mem → Int32 → Option (Int32 × Mem)) (m : Mem) : Option (Int32 × Mem) :=
  F_X6_both2_45 K5 m (0 : Int32)
noncomputable def F_X6_both2_5 : Nat → Mem → Int32 → Option (Int32 × Mem)
  | 0 => fun m a1 => none
  | n + 1 => fun m a1 =>
    bnd (F_X6_isWord m (97 : Int32) (110 : Int32) (100 : Int32) (0 : Int32) (0 : Int32) (0 : Int32) (0 : Int32) (0 : Int32)) fun v5 m6 =>
    if (bz v5) = 0 then
      some (a1, m6)
    else
      bnd (F_X6_next m6) fun v10 m11 =>
      bnd (F_X6_not2 m11) fun v14 m15 =>
      if a1 = 0 then
        F_X6_both2_44 (F_X6_both2_5 n) m15
      else
        if v14 = 0 then
          F_X6_both2_44 (F_X6_both2_5 n) m15
        else
          F_X6_both2_45 (F_X6_both2_5 n) m15 (1 : Int32)
noncomputable def F_X6_both2 (m : Mem) : Option (Int32 × Mem) :=
  bnd (F_X6_not2 m) fun v1 m2 =>
  F_X6_both2_5 FU m2 v1
noncomputable def F_X6_either2_44 (K5 : Mem → Int32 → Option (Int32 × Mem)) (m : Mem) (s0 : Int32) : Option (Int32 × Mem) :=
  K5 m s0
noncomputable def F_X6_either2_39 (K5 : Mem → Int32 → Option (Int32 × Mem)) (m : Mem) : Option (Int32 × Mem) :=
  F_X6_either2_44 K5 m (1 : Int32)
noncomputable def F_X6_either2_5 : Nat → Mem → Int32 → Option (Int32 × Mem)
  | 0 => fun m a1 => none
  | n + 1 => fun m a1 =>
    bnd (F_X6_isWord m (111 : Int32) (114 : Int32) (0 : Int32) (0 : Int32) (0 : Int32) (0 : Int32) (0 : Int32) (0 : Int32)) fun v5 m6 =>
    if (bz v5) = 0 then
      some (a1, m6)
    else
      bnd (F_X6_next m6) fun v10 m11 =>
      bnd (F_X6_both2 m11) fun v14 m15 =>
      if a1 = 0 then
        if v14 = 0 then
          F_X6_either2_44 (F_X6_either2_5 n) m15 (0 : Int32)
        else
          F_X6_either2_39 (F_X6_either2_5 n) m15
      else
        F_X6_either2_39 (F_X6_either2_5 n) m15
noncomputable def F_X6_either2 (m : Mem) : Option (Int32 × Mem) :=
  bnd (F_X6_both2 m) fun v1 m2 =>
  F_X6_either2_5 FU m2 v1
noncomputable def F_X6_atom1_71 (m : Mem) (a1 : Int32) : Option (Int32 × Mem) :=
  nm (wD m 40 23 ((mD m 40 23) - (1 : Int32))) fun m47 =>
  if (mD m47 40 24) = 0 then
    bnd (F_X6_next m47) fun v49 m50 =>
    some (a1, m50)
  else
    some (a1, m47)
noncomputable def F_X6_atom1_157 (m : Mem) (a1 : Int32) : Option (Int32 × Mem) :=
  bnd (F_X6_fail m) fun v64 m65 =>
  some (a1, m65)
noncomputable def F_X6_atom1_123 (m : Mem) (a1 : Int32) : Option (Int32 × Mem) :=
  if (mD m 40 24) = 0 then
    if (mD m 40 20) = (1 : Int32) then
      bnd (F_X6_name m) fun v55 m56 =>
      if (mD m56 40 24) = 0 then
        bnd (F_X6_next m56) fun v60 m61 =>
        some (v55, m61)
      else
        some (v55, m56)
    else
      F_X6_atom1_157 m a1
  else
    F_X6_atom1_157 m a1
noncomputable def F_X6_atom1 (m : Mem) : Option (Int32 × Mem) :=
  bnd (F_X6_isSign m (45 : Int32)) fun v1 m2 =>
  if (bz v1) = 0 then
    bnd (F_X6_isSign m2 (40 : Int32)) fun v6 m7 =>
    if (bz v6) = 0 then
      if (mD m7 40 24) = 0 then
        if (mD m7 40 20) = (2 : Int32) then
          nm ((mL m7 40 22).toInt32) fun x13 =>
          bnd (F_X6_next m7) fun v14 m15 =>
          some (x13, m15)
        else
          F_X6_atom1_123 m7 (0 : Int32)
      else
        F_X6_atom1_123 m7 (0 : Int32)
    else
      bnd (F_X6_opens m7) fun v18 m19 =>
      if (bz v18) = 0 then
        some ((0 : Int32), m19)
      else
        bnd (F_X6_either2 m19) fun v23 m24 =>
        bnd (F_X6_isSign m24 (41 : Int32)) fun v27 m28 =>
        if (bz v27) = 0 then
          bnd (F_X6_fail m28) fun v32 m33 =>
          F_X6_atom1_71 m33 v23
        else
          F_X6_atom1_71 m28 v23
  else
    bnd (F_X6_opens m2) fun v36 m37 =>
    if (bz v36) = 0 then
      some ((0 : Int32), m37)
    else
      bnd (F_X6_atom2 m37) fun v41 m42 =>
      nm (-v41) fun x45 =>
      nm (wD m42 40 23 ((mD m42 40 23) - (1 : Int32))) fun m46 =>
      some (x45, m46)
noncomputable def F_X6_term1_5 : Nat → Mem → Int32 → Option (Int32 × Mem)
  | 0 => fun m a1 => none
  | n + 1 => fun m a1 =>
    bnd (F_X6_isSign m (42 : Int32)) fun v5 m6 =>
    if (bz v5) = 0 then
      some (a1, m6)
    else
      bnd (F_X6_next m6) fun v10 m11 =>
      bnd (F_X6_atom1 m11) fun v14 m15 =>
      nm (a1 * v14) fun x18 =>
      F_X6_term1_5 n m15 x18
noncomputable def F_X6_term1 (m : Mem) : Option (Int32 × Mem) :=
  bnd (F_X6_atom1 m) fun v1 m2 =>
  F_X6_term1_5 FU m2 v1
noncomputable def F_X6_added1_62 (K5 : Mem → Int32 → Option (Int32 × Mem)) (m : Mem) (s0 : Int32) : Option (Int32 × Mem) :=
  K5 m s0
noncomputable def F_X6_added1_39 (K5 : Mem → Int32 → Option (Int32 × Mem)) (m : Mem) (a1 : Int32) (s0 : Int32) : Option (Int32 × Mem) :=
  bnd (F_X6_next m) fun v16 m17 =>
  bnd (F_X6_term1 m17) fun v20 m21 =>
  if s0 = 0 then
    F_X6_added1_62 K5 m21 (a1 - v20)
  else
    F_X6_added1_62 K5 m21 (a1 + v20)
noncomputable def F_X6_added1_23 (K5 : Mem → Int32 → Option (Int32 × Mem)) (m : Mem) (a1 : Int32) : Option (Int32 × Mem) :=
  if (lg_cmp (mL m 40 22) (43 : Int64)) = 0 then
    F_X6_added1_39 K5 m a1 (1 : Int32)
  else
    F_X6_added1_39 K5 m a1 (0 : Int32)
noncomputable def F_X6_added1_5 : Nat → Mem → Int32 → Option (Int32 × Mem)
  | 0 => fun m a1 => none
  | n + 1 => fun m a1 =>
    bnd (F_X6_isSign m (43 : Int32)) fun v5 m6 =>
    if (bz v5) = 0 then
      bnd (F_X6_isSign m6 (45 : Int32)) fun v10 m11 =>
      if (bz v10) = 0 then
        some (a1, m11)
      else
        F_X6_added1_23 (F_X6_added1_5 n) m11 a1
    else
      F_X6_added1_23 (F_X6_added1_5 n) m6 a1
noncomputable def F_X6_added1 (m : Mem) : Option (Int32 × Mem) :=
  bnd (F_X6_term1 m) fun v1 m2 =>
  F_X6_added1_5 FU m2 v1
noncomputable def F_X6_not1_93 (m : Mem) (a1 : Int32) (s0 : Int32) : Option (Int32 × Mem) :=
  bnd (F_X6_next m) fun v32 m33 =>
  bnd (F_X6_added1 m33) fun v36 m37 =>
  if s0 = 0 then
    if a1 = v36 then
      some ((1 : Int32), m37)
    else
      some ((0 : Int32), m37)
  else
    if v36 ≤ a1 then
      some ((0 : Int32), m37)
    else
      some ((1 : Int32), m37)
noncomputable def F_X6_not1_77 (m : Mem) (a1 : Int32) : Option (Int32 × Mem) :=
  if (lg_cmp (mL m 40 22) (60 : Int64)) = 0 then
    F_X6_not1_93 m a1 (1 : Int32)
  else
    F_X6_not1_93 m a1 (0 : Int32)
noncomputable def F_X6_not1 (m : Mem) : Option (Int32 × Mem) :=
  bnd (F_X6_isWord m (110 : Int32) (111 : Int32) (116 : Int32) (0 : Int32) (0 : Int32) (0 : Int32) (0 : Int32) (0 : Int32)) fun v1 m2 =>
  if (bz v1) = 0 then
    bnd (F_X6_added1 m2) fun v6 m7 =>
    bnd (F_X6_isSign m7 (60 : Int32)) fun v10 m11 =>
    if (bz v10) = 0 then
      bnd (F_X6_isSign m11 (61 : Int32)) fun v15 m16 =>
      if (bz v15) = 0 then
        some (v6, m16)
      else
        F_X6_not1_77 m16 v6
    else
      F_X6_not1_77 m11 v6
  else
    bnd (F_X6_opens m2) fun v20 m21 =>
    if (bz v20) = 0 then
      some ((0 : Int32), m21)
    else
      bnd (F_X6_not2 m21) fun v25 m26 =>
      nm (wD m26 40 23 ((mD m26 40 23) - (1 : Int32))) fun m29 =>
      if v25 = 0 then
        some ((1 : Int32), m29)
      else
        some ((0 : Int32), m29)
noncomputable def F_X6_both1_45 (K5 : Mem → Int32 → Option (Int32 × Mem)) (m : Mem) (s0 : Int32) : Option (Int32 × Mem) :=
  K5 m s0
noncomputable def F_X6_both1_44 (K5 : Mem → Int32 → Option (Int32 × Mem)) (m : Mem) : Option (Int32 × Mem) :=
  F_X6_both1_45 K5 m (0 : Int32)
noncomputable def F_X6_both1_5 : Nat → Mem → Int32 → Option (Int32 × Mem)
  | 0 => fun m a1 => none
  | n + 1 => fun m a1 =>
    bnd (F_X6_isWord m (97 : Int32) (110 : Int32) (100 : Int32) (0 : Int32) (0 : Int32) (0 : Int32) (0 : Int32) (0 : Int32)) fun v5 m6 =>
    if (bz v5) = 0 then
      some (a1, m6)
    else
      bnd (F_X6_next m6) fun v10 m11 =>
      bnd (F_X6_not1 m11) fun v14 m15 =>
      if a1 = 0 then
        F_X6_both1_44 (F_X6_both1_5 n) m15
      else
        if v14 = 0 then
          F_X6_both1_44 (F_X6_both1_5 n) m15
        else
          F_X6_both1_45 (F_X6_both1_5 n) m15 (1 : Int32)
noncomputable def F_X6_both1 (m : Mem) : Option (Int32 × Mem) :=
  bnd (F_X6_not1 m) fun v1 m2 =>
  F_X6_both1_5 FU m2 v1
noncomputable def F_X6_either1_44 (K5 : Mem → Int32 → Option (Int32 × Mem)) (m : Mem) (s0 : Int32) : Option (Int32 × Mem) :=
  K5 m s0
noncomputable def F_X6_either1_39 (K5 : Mem → Int32 → Option (Int32 × Mem)) (m : Mem) : Option (Int32 × Mem) :=
  F_X6_either1_44 K5 m (1 : Int32)
noncomputable def F_X6_either1_5 : Nat → Mem → Int32 → Option (Int32 × Mem)
  | 0 => fun m a1 => none
  | n + 1 => fun m a1 =>
    bnd (F_X6_isWord m (111 : Int32) (114 : Int32) (0 : Int32) (0 : Int32) (0 : Int32) (0 : Int32) (0 : Int32) (0 : Int32)) fun v5 m6 =>
    if (bz v5) = 0 then
      some (a1, m6)
    else
      bnd (F_X6_next m6) fun v10 m11 =>
      bnd (F_X6_both1 m11) fun v14 m15 =>
      if a1 = 0 then
        if v14 = 0 then
          F_X6_either1_44 (F_X6_either1_5 n) m15 (0 : Int32)
        else
          F_X6_either1_39 (F_X6_either1_5 n) m15
      else
        F_X6_either1_39 (F_X6_either1_5 n) m15
noncomputable def F_X6_either1 (m : Mem) : Option (Int32 × Mem) :=
  bnd (F_X6_both1 m) fun v1 m2 =>
  F_X6_either1_5 FU m2 v1
noncomputable def F_X6_atom0_71 (m : Mem) (a1 : Int32) : Option (Int32 × Mem) :=
  nm (wD m 40 23 ((mD m 40 23) - (1 : Int32))) fun m47 =>
  if (mD m47 40 24) = 0 then
    bnd (F_X6_next m47) fun v49 m50 =>
    some (a1, m50)
  else
    some (a1, m47)
noncomputable def F_X6_atom0_157 (m : Mem) (a1 : Int32) : Option (Int32 × Mem) :=
  bnd (F_X6_fail m) fun v64 m65 =>
  some (a1, m65)
noncomputable def F_X6_atom0_123 (m : Mem) (a1 : Int32) : Option (Int32 × Mem) :=
  if (mD m 40 24) = 0 then
    if (mD m 40 20) = (1 : Int32) then
      bnd (F_X6_name m) fun v55 m56 =>
      if (mD m56 40 24) = 0 then
        bnd (F_X6_next m56) fun v60 m61 =>
        some (v55, m61)
      else
        some (v55, m56)
    else
      F_X6_atom0_157 m a1
  else
    F_X6_atom0_157 m a1
noncomputable def F_X6_atom0 (m : Mem) : Option (Int32 × Mem) :=
  bnd (F_X6_isSign m (45 : Int32)) fun v1 m2 =>
  if (bz v1) = 0 then
    bnd (F_X6_isSign m2 (40 : Int32)) fun v6 m7 =>
    if (bz v6) = 0 then
      if (mD m7 40 24) = 0 then
        if (mD m7 40 20) = (2 : Int32) then
          nm ((mL m7 40 22).toInt32) fun x13 =>
          bnd (F_X6_next m7) fun v14 m15 =>
          some (x13, m15)
        else
          F_X6_atom0_123 m7 (0 : Int32)
      else
        F_X6_atom0_123 m7 (0 : Int32)
    else
      bnd (F_X6_opens m7) fun v18 m19 =>
      if (bz v18) = 0 then
        some ((0 : Int32), m19)
      else
        bnd (F_X6_either1 m19) fun v23 m24 =>
        bnd (F_X6_isSign m24 (41 : Int32)) fun v27 m28 =>
        if (bz v27) = 0 then
          bnd (F_X6_fail m28) fun v32 m33 =>
          F_X6_atom0_71 m33 v23
        else
          F_X6_atom0_71 m28 v23
  else
    bnd (F_X6_opens m2) fun v36 m37 =>
    if (bz v36) = 0 then
      some ((0 : Int32), m37)
    else
      bnd (F_X6_atom1 m37) fun v41 m42 =>
      nm (-v41) fun x45 =>
      nm (wD m42 40 23 ((mD m42 40 23) - (1 : Int32))) fun m46 =>
      some (x45, m46)
noncomputable def F_X6_term0_5 : Nat → Mem → Int32 → Option (Int32 × Mem)
  | 0 => fun m a1 => none
  | n + 1 => fun m a1 =>
    bnd (F_X6_isSign m (42 : Int32)) fun v5 m6 =>
    if (bz v5) = 0 then
      some (a1, m6)
    else
      bnd (F_X6_next m6) fun v10 m11 =>
      bnd (F_X6_atom0 m11) fun v14 m15 =>
      nm (a1 * v14) fun x18 =>
      F_X6_term0_5 n m15 x18
noncomputable def F_X6_term0 (m : Mem) : Option (Int32 × Mem) :=
  bnd (F_X6_atom0 m) fun v1 m2 =>
  F_X6_term0_5 FU m2 v1
noncomputable def F_X6_added0_62 (K5 : Mem → Int32 → Option (Int32 × Mem)) (m : Mem) (s0 : Int32) : Option (Int32 × Mem) :=
  K5 m s0
noncomputable def F_X6_added0_39 (K5 : Mem → Int32 → Option (Int32 × Mem)) (m : Mem) (a1 : Int32) (s0 : Int32) : Option (Int32 × Mem) :=
  bnd (F_X6_next m) fun v16 m17 =>
  bnd (F_X6_term0 m17) fun v20 m21 =>
  if s0 = 0 then
    F_X6_added0_62 K5 m21 (a1 - v20)
  else
    F_X6_added0_62 K5 m21 (a1 + v20)
noncomputable def F_X6_added0_23 (K5 : Mem → Int32 → Option (Int32 × Mem)) (m : Mem) (a1 : Int32) : Option (Int32 × Mem) :=
  if (lg_cmp (mL m 40 22) (43 : Int64)) = 0 then
    F_X6_added0_39 K5 m a1 (1 : Int32)
  else
    F_X6_added0_39 K5 m a1 (0 : Int32)
noncomputable def F_X6_added0_5 : Nat → Mem → Int32 → Option (Int32 × Mem)
  | 0 => fun m a1 => none
  | n + 1 => fun m a1 =>
    bnd (F_X6_isSign m (43 : Int32)) fun v5 m6 =>
    if (bz v5) = 0 then
      bnd (F_X6_isSign m6 (45 : Int32)) fun v10 m11 =>
      if (bz v10) = 0 then
        some (a1, m11)
      else
        F_X6_added0_23 (F_X6_added0_5 n) m11 a1
    else
      F_X6_added0_23 (F_X6_added0_5 n) m6 a1
noncomputable def F_X6_added0 (m : Mem) : Option (Int32 × Mem) :=
  bnd (F_X6_term0 m) fun v1 m2 =>
  F_X6_added0_5 FU m2 v1
noncomputable def F_X6_not0_93 (m : Mem) (a1 : Int32) (s0 : Int32) : Option (Int32 × Mem) :=
  bnd (F_X6_next m) fun v32 m33 =>
  bnd (F_X6_added0 m33) fun v36 m37 =>
  if s0 = 0 then
    if a1 = v36 then
      some ((1 : Int32), m37)
    else
      some ((0 : Int32), m37)
  else
    if v36 ≤ a1 then
      some ((0 : Int32), m37)
    else
      some ((1 : Int32), m37)
noncomputable def F_X6_not0_77 (m : Mem) (a1 : Int32) : Option (Int32 × Mem) :=
  if (lg_cmp (mL m 40 22) (60 : Int64)) = 0 then
    F_X6_not0_93 m a1 (1 : Int32)
  else
    F_X6_not0_93 m a1 (0 : Int32)
noncomputable def F_X6_not0 (m : Mem) : Option (Int32 × Mem) :=
  bnd (F_X6_isWord m (110 : Int32) (111 : Int32) (116 : Int32) (0 : Int32) (0 : Int32) (0 : Int32) (0 : Int32) (0 : Int32)) fun v1 m2 =>
  if (bz v1) = 0 then
    bnd (F_X6_added0 m2) fun v6 m7 =>
    bnd (F_X6_isSign m7 (60 : Int32)) fun v10 m11 =>
    if (bz v10) = 0 then
      bnd (F_X6_isSign m11 (61 : Int32)) fun v15 m16 =>
      if (bz v15) = 0 then
        some (v6, m16)
      else
        F_X6_not0_77 m16 v6
    else
      F_X6_not0_77 m11 v6
  else
    bnd (F_X6_opens m2) fun v20 m21 =>
    if (bz v20) = 0 then
      some ((0 : Int32), m21)
    else
      bnd (F_X6_not1 m21) fun v25 m26 =>
      nm (wD m26 40 23 ((mD m26 40 23) - (1 : Int32))) fun m29 =>
      if v25 = 0 then
        some ((1 : Int32), m29)
      else
        some ((0 : Int32), m29)
noncomputable def F_X6_both0_45 (K5 : Mem → Int32 → Option (Int32 × Mem)) (m : Mem) (s0 : Int32) : Option (Int32 × Mem) :=
  K5 m s0
noncomputable def F_X6_both0_44 (K5 : Mem → Int32 → Option (Int32 × Mem)) (m : Mem) : Option (Int32 × Mem) :=
  F_X6_both0_45 K5 m (0 : Int32)
noncomputable def F_X6_both0_5 : Nat → Mem → Int32 → Option (Int32 × Mem)
  | 0 => fun m a1 => none
  | n + 1 => fun m a1 =>
    bnd (F_X6_isWord m (97 : Int32) (110 : Int32) (100 : Int32) (0 : Int32) (0 : Int32) (0 : Int32) (0 : Int32) (0 : Int32)) fun v5 m6 =>
    if (bz v5) = 0 then
      some (a1, m6)
    else
      bnd (F_X6_next m6) fun v10 m11 =>
      bnd (F_X6_not0 m11) fun v14 m15 =>
      if a1 = 0 then
        F_X6_both0_44 (F_X6_both0_5 n) m15
      else
        if v14 = 0 then
          F_X6_both0_44 (F_X6_both0_5 n) m15
        else
          F_X6_both0_45 (F_X6_both0_5 n) m15 (1 : Int32)
noncomputable def F_X6_both0 (m : Mem) : Option (Int32 × Mem) :=
  bnd (F_X6_not0 m) fun v1 m2 =>
  F_X6_both0_5 FU m2 v1
noncomputable def F_X6_either0_44 (K5 : Mem → Int32 → Option (Int32 × Mem)) (m : Mem) (s0 : Int32) : Option (Int32 × Mem) :=
  K5 m s0
noncomputable def F_X6_either0_39 (K5 : Mem → Int32 → Option (Int32 × Mem)) (m : Mem) : Option (Int32 × Mem) :=
  F_X6_either0_44 K5 m (1 : Int32)
noncomputable def F_X6_either0_5 : Nat → Mem → Int32 → Option (Int32 × Mem)
  | 0 => fun m a1 => none
  | n + 1 => fun m a1 =>
    bnd (F_X6_isWord m (111 : Int32) (114 : Int32) (0 : Int32) (0 : Int32) (0 : Int32) (0 : Int32) (0 : Int32) (0 : Int32)) fun v5 m6 =>
    if (bz v5) = 0 then
      some (a1, m6)
    else
      bnd (F_X6_next m6) fun v10 m11 =>
      bnd (F_X6_both0 m11) fun v14 m15 =>
      if a1 = 0 then
        if v14 = 0 then
          F_X6_either0_44 (F_X6_either0_5 n) m15 (0 : Int32)
        else
          F_X6_either0_39 (F_X6_either0_5 n) m15
      else
        F_X6_either0_39 (F_X6_either0_5 n) m15
noncomputable def F_X6_either0 (m : Mem) : Option (Int32 × Mem) :=
  bnd (F_X6_both0 m) fun v1 m2 =>
  F_X6_either0_5 FU m2 v1
noncomputable def F_X6_part_48 (m : Mem) (a2 : Int32) : Option (Int32 × Mem) :=
  if (mD m 40 24) = 0 then
    bnd (F_X6_next m) fun v26 m27 =>
    some (a2, m27)
  else
    some (a2, m)
noncomputable def F_X6_part_34 (m : Mem) (s0 : Int32) : Option (Int32 × Mem) :=
  bnd (F_X6_isSign m (59 : Int32)) fun v16 m17 =>
  if (bz v16) = 0 then
    bnd (F_X6_fail m17) fun v21 m22 =>
    F_X6_part_48 m22 s0
  else
    F_X6_part_48 m17 s0
noncomputable def F_X6_part_19 (m : Mem) : Option (Int32 × Mem) :=
  if (mD m 40 24) = 0 then
    bnd (F_X6_either0 m) fun v12 m13 =>
    F_X6_part_34 m13 v12
  else
    F_X6_part_34 m (0 : Int32)
noncomputable def F_X6_part_8 (m : Mem) : Option (Int32 × Mem) :=
  if (mD m 40 24) = 0 then
    bnd (F_X6_next m) fun v7 m8 =>
    F_X6_part_19 m8
  else
    F_X6_part_19 m
noncomputable def F_X6_part (m : Mem) (a1 : Int32) : Option (Int32 × Mem) :=
  if a1 = 0 then
    bnd (F_X6_fail m) fun v2 m3 =>
    F_X6_part_8 m3
  else
    F_X6_part_8 m
noncomputable def F_X6_read_147 (m : Mem) (a2 : Int32) (a3 : Int32) (a4 : Int32) (a5 : Int32) : Option (Int32 × Mem) :=
  if a2 = 0 then
    some (a3, m)
  else
    if a2 = (1 : Int32) then
      some (a4, m)
    else
      some (a5, m)
noncomputable def F_X6_read_127 (m : Mem) (a2 : Int32) (a3 : Int32) (a4 : Int32) (s0 : Int32) : Option (Int32 × Mem) :=
  if (mD m 40 24) = 0 then
    if (mD m 40 20) = 0 then
      F_X6_read_147 m a2 a3 a4 s0
    else
      bnd (F_X6_fail m) fun v39 m40 =>
      F_X6_read_147 m40 a2 a3 a4 s0
  else
    F_X6_read_147 m a2 a3 a4 s0
noncomputable def F_X6_read_92 (m : Mem) (a2 : Int32) (a3 : Int32) (s0 : Int32) : Option (Int32 × Mem) :=
  if (mD m 40 24) = 0 then
    bnd (F_X6_isWord m (115 : Int32) (112 : Int32) (111 : Int32) (105 : Int32) (108 : Int32) (115 : Int32) (0 : Int32) (0 : Int32)) fun v29 m30 =>
    bnd (F_X6_part m30 (bz v29)) fun v33 m34 =>
    F_X6_read_127 m34 a2 a3 s0 v33
  else
    F_X6_read_127 m a2 a3 s0 (0 : Int32)
noncomputable def F_X6_read (m : Mem) (a1 : Int32) (a2 : Int32) : Option (Int32 × Mem) :=
  nm (wD m 40 17 ((160 : Int32) * a1)) fun m1 =>
  gIf (vp_in a1 6) <|
  nm (wD m1 40 18 (mD m1 42 a1.toNatClampNeg)) fun m3 =>
  nm (wD m3 40 19 (0 : Int32)) fun m4 =>
  nm (wD m4 40 23 (0 : Int32)) fun m5 =>
  nm (wD m5 40 24 (0 : Int32)) fun m6 =>
  bnd (F_X6_next m6) fun v7 m8 =>
  bnd (F_X6_isWord m8 (116 : Int32) (117 : Int32) (114 : Int32) (110 : Int32) (115 : Int32) (0 : Int32) (0 : Int32) (0 : Int32)) fun v11 m12 =>
  bnd (F_X6_part m12 (bz v11)) fun v15 m16 =>
  if (mD m16 40 24) = 0 then
    bnd (F_X6_isWord m16 (103 : Int32) (105 : Int32) (118 : Int32) (101 : Int32) (115 : Int32) (0 : Int32) (0 : Int32) (0 : Int32)) fun v20 m21 =>
    bnd (F_X6_part m21 (bz v20)) fun v24 m25 =>
    F_X6_read_92 m25 a2 v15 v24
  else
    F_X6_read_92 m16 a2 v15 (0 : Int32)
noncomputable def F_X6_says_96 (m : Mem) (s0 : Int32) (s1 : Int32) : Option (Int32 × Mem) :=
  bnd (F_X6_within m s1 s0 (99 : Int32)) fun v17 m18 =>
  some (v17, m18)
noncomputable def F_X6_says (m : Mem) (a1 : Int32) (a2 : Int32) : Option (Int32 × Mem) :=
  gIf (vp_in (((5 : Int32) * a2) + (1 : Int32)) 40) <|
  nm (wD m 40 11 (mD m 45 (((5 : Int32) * a2) + (1 : Int32)).toNatClampNeg)) fun m2 =>
  gIf (vp_in (((5 : Int32) * a2) + (2 : Int32)) 40) <|
  nm (wD m2 40 12 (mD m2 45 (((5 : Int32) * a2) + (2 : Int32)).toNatClampNeg)) fun m4 =>
  gIf (vp_in ((5 : Int32) * a2) 40) <|
  nm (wD m4 40 13 (mD m4 45 ((5 : Int32) * a2).toNatClampNeg)) fun m6 =>
  gIf (vp_in (((5 : Int32) * a2) + (3 : Int32)) 40) <|
  nm (wD m6 40 14 (mD m6 45 (((5 : Int32) * a2) + (3 : Int32)).toNatClampNeg)) fun m8 =>
  gIf (vp_in (((5 : Int32) * a2) + (4 : Int32)) 40) <|
  nm (wD m8 40 15 (mD m8 45 (((5 : Int32) * a2) + (4 : Int32)).toNatClampNeg)) fun m10 =>
  nm (wD m10 40 16 (mD m10 40 7)) fun m11 =>
  bnd (F_X6_read m11 (mD m11 40 4) a1) fun v12 m13 =>
  if a1 = (1 : Int32) then
    F_X6_says_96 m13 (-99 : Int32) v12
  else
    F_X6_says_96 m13 (0 : Int32) v12
noncomputable def F_X6_turnsOf_87 (m : Mem) (s0 : Int32) : Option (Int32 × Mem) :=
  bnd (F_X6_within m s0 (1 : Int32) (1000 : Int32)) fun v18 m19 =>
  some (v18, m19)
noncomputable def F_X6_turnsOf (m : Mem) (a1 : Int32) : Option (Int32 × Mem) :=
  gIf (vp_in a1 8) <|
  nm (mD m 44 a1.toNatClampNeg) fun x2 =>
  if x2 = (5 : Int32) then
    some ((1000 : Int32), m)
  else
    bnd (F_X6_says m (0 : Int32) a1) fun v4 m5 =>
    gIf (vp_in ((5 : Int32) * a1) 40) <|
    nm (v4 + ((mD m5 45 ((5 : Int32) * a1).toNatClampNeg) / (2 : Int32))) fun x9 =>
    if x2 = (1 : Int32) then
      F_X6_turnsOf_87 m5 x9
    else
      if x2 = (3 : Int32) then
        F_X6_turnsOf_87 m5 ((2 : Int32) * x9)
      else
        if x2 = (2 : Int32) then
          F_X6_turnsOf_87 m5 (v4 / (2 : Int32))
        else
          if x2 = (4 : Int32) then
            bnd (F_X6_within m5 (v4 / (2 : Int32)) (0 : Int32) (3 : Int32)) fun v14 m15 =>
            F_X6_turnsOf_87 m15 v14
          else
            F_X6_turnsOf_87 m5 v4
noncomputable def F_X6_givesOf_101 (m : Mem) (s0 : Int32) : Option (Int32 × Mem) :=
  bnd (F_X6_within m s0 (-999 : Int32) (999 : Int32)) fun v16 m17 =>
  some (v16, m17)
noncomputable def F_X6_givesOf_43 (m : Mem) (a1 : Int32) (a2 : Int32) (a3 : Int32) (a4 : Int32) (s0 : Int32) : Option (Int32 × Mem) :=
  if a2 = (1 : Int32) then
    F_X6_givesOf_101 m s0
  else
    if a2 = (3 : Int32) then
      gIf (vp_in ((5 : Int32) * a1) 40) <|
      F_X6_givesOf_101 m (s0 + ((mD m 45 ((5 : Int32) * a1).toNatClampNeg) * a4))
    else
      if a2 = (2 : Int32) then
        F_X6_givesOf_101 m (a3 + (3 : Int32))
      else
        if a2 = (4 : Int32) then
          F_X6_givesOf_101 m (-(a3 + (3 : Int32)))
        else
          F_X6_givesOf_101 m a3
noncomputable def F_X6_givesOf (m : Mem) (a1 : Int32) : Option (Int32 × Mem) :=
  gIf (vp_in a1 8) <|
  nm (mD m 44 a1.toNatClampNeg) fun x2 =>
  if x2 = (5 : Int32) then
    some ((0 : Int32), m)
  else
    bnd (F_X6_says m (1 : Int32) a1) fun v4 m5 =>
    gIf (vp_in (((5 : Int32) * a1) + (2 : Int32)) 40) <|
    nm (mD m5 45 (((5 : Int32) * a1) + (2 : Int32)).toNatClampNeg) fun x9 =>
    if x9 = 0 then
      F_X6_givesOf_43 m5 a1 x2 v4 x9 (0 : Int32)
    else
      F_X6_givesOf_43 m5 a1 x2 v4 x9 v4
noncomputable def F_X6_spoilsOf_63 (m : Mem) (s0 : Int32) : Option (Int32 × Mem) :=
  bnd (F_X6_within m s0 (0 : Int32) (99 : Int32)) fun v12 m13 =>
  some (v12, m13)
noncomputable def F_X6_spoilsOf_56 (m : Mem) (a3 : Int32) : Option (Int32 × Mem) :=
  F_X6_spoilsOf_63 m ((2 : Int32) * a3)
noncomputable def F_X6_spoilsOf_39 (m : Mem) (a1 : Int32) (a2 : Int32) : Option (Int32 × Mem) :=
  bnd (F_X6_says m (2 : Int32) a1) fun v6 m7 =>
  if a2 = (2 : Int32) then
    F_X6_spoilsOf_56 m7 v6
  else
    if a2 = (4 : Int32) then
      F_X6_spoilsOf_56 m7 v6
    else
      F_X6_spoilsOf_63 m7 v6
noncomputable def F_X6_spoilsOf_22 (m : Mem) (a1 : Int32) (a2 : Int32) : Option (Int32 × Mem) :=
  gIf (vp_in (((5 : Int32) * a1) + (2 : Int32)) 40) <|
  if (mD m 45 (((5 : Int32) * a1) + (2 : Int32)).toNatClampNeg) ≤ (6 : Int32) then
    F_X6_spoilsOf_39 m a1 a2
  else
    some ((0 : Int32), m)
noncomputable def F_X6_spoilsOf (m : Mem) (a1 : Int32) : Option (Int32 × Mem) :=
  gIf (vp_in a1 8) <|
  nm (mD m 44 a1.toNatClampNeg) fun x2 =>
  if x2 = (5 : Int32) then
    some ((0 : Int32), m)
  else
    if x2 = (1 : Int32) then
      F_X6_spoilsOf_22 m a1 x2
    else
      if x2 = (3 : Int32) then
        F_X6_spoilsOf_22 m a1 x2
      else
        F_X6_spoilsOf_39 m a1 x2
noncomputable def F_X6_worthOf (m : Mem) (a1 : Int32) : Option (Int32 × Mem) :=
  bnd (F_X6_turnsOf m a1) fun v1 m2 =>
  gIf (vp_in (((5 : Int32) * a1) + (3 : Int32)) 40) <|
  nm (mD m2 45 (((5 : Int32) * a1) + (3 : Int32)).toNatClampNeg) fun x6 =>
  if v1 ≤ x6 then
    bnd (F_X6_givesOf m2 a1) fun v8 m9 =>
    bnd (F_X6_spoilsOf m9 a1) fun v12 m13 =>
    nm (v8 - (v12 * (x6 - v1))) fun x16 =>
    if 0 ≤ v8 then
      if 0 ≤ x16 then
        some (x16, m13)
      else
        some ((0 : Int32), m13)
    else
      some (v8, m13)
  else
    gIf (vp_in (((5 : Int32) * a1) + (1 : Int32)) 40) <|
    some (mD m2 45 (((5 : Int32) * a1) + (1 : Int32)).toNatClampNeg, m2)
noncomputable def F_X6_isWhole (m : Mem) (a1 : Int32) : Option (Bool × Mem) :=
  gIf (vp_in (((5 : Int32) * a1) + (3 : Int32)) 40) <|
  bnd (F_X6_turnsOf m a1) fun v2 m3 =>
  if v2 ≤ (mD m 45 (((5 : Int32) * a1) + (3 : Int32)).toNatClampNeg) then
    some (false, m3)
  else
    some (true, m3)
noncomputable def F_X6_told_27 (m : Mem) (a1 : Int32) (a2 : Int32) : Option (Int32 × Mem) :=
  if (7 : Int32) ≤ a2 then
    if (10 : Int32) ≤ a2 then
      if a2 = (10 : Int32) then
        bnd (F_X6_isWhole m a1) fun v19 m20 =>
        if (bz v19) = 0 then
          some ((0 : Int32), m20)
        else
          some ((1 : Int32), m20)
      else
        bnd (F_X6_worthOf m a1) fun v15 m16 =>
        some (v15, m16)
    else
      if a2 = (7 : Int32) then
        bnd (F_X6_turnsOf m a1) fun v34 m35 =>
        some (v34, m35)
      else
        if a2 = (8 : Int32) then
          bnd (F_X6_givesOf m a1) fun v30 m31 =>
          some (v30, m31)
        else
          bnd (F_X6_spoilsOf m a1) fun v26 m27 =>
          some (v26, m27)
  else
    if a2 = 0 then
      some (mD m 40 7, m)
    else
      if (6 : Int32) ≤ a2 then
        gIf (vp_in a1 8) <|
        some (mD m 44 a1.toNatClampNeg, m)
      else
        gIf (vp_in ((((5 : Int32) * a1) + a2) - (1 : Int32)) 40) <|
        some (mD m 45 ((((5 : Int32) * a1) + a2) - (1 : Int32)).toNatClampNeg, m)
noncomputable def F_X6_told_24 (m : Mem) : Option (Int32 × Mem) :=
  some ((-100000 : Int32), m)
noncomputable def F_X6_told (m : Mem) (a1 : Int32) (a2 : Int32) : Option (Int32 × Mem) :=
  bnd (F_X6_in m a2.toInt64 (0 : Int64) (11 : Int64)) fun v1 m2 =>
  if (bz v1) = 0 then
    F_X6_told_24 m2
  else
    if a2 ≤ 0 then
      F_X6_told_27 m2 a1 a2
    else
      bnd (F_X6_isCoin m2 a1) fun v7 m8 =>
      if (bz v7) = 0 then
        F_X6_told_24 m8
      else
        F_X6_told_27 m8 a1 a2
noncomputable def F_X6_lays (m : Mem) (a1 : Int32) (a2 : Int32) (a3 : Int32) : Option (Unit × Mem) :=
  if a1 = 0 then
    nm (wD m 40 7 a3) fun m9 =>
    some ((), m9)
  else
    if (6 : Int32) ≤ a1 then
      if a1 = (6 : Int32) then
        gIf (vp_in a2 8) <|
        nm (wD m 44 a2.toNatClampNeg a3) fun m6 =>
        some ((), m6)
      else
        nm (wD m 40 4 a3) fun m4 =>
        some ((), m4)
    else
      gIf (vp_in ((((5 : Int32) * a2) + a1) - (1 : Int32)) 40) <|
      nm (wD m 45 ((((5 : Int32) * a2) + a1) - (1 : Int32)).toNatClampNeg a3) fun m8 =>
      some ((), m8)
noncomputable def F_X6_set_36 (m : Mem) (a1 : Int32) (a2 : Int32) (a3 : Int32) (s0 : Int64) (s1 : Int64) : Option (Int32 × Mem) :=
  bnd (F_X6_mostOf m a1) fun v13 m14 =>
  bnd (F_X6_in m14 s1 s0 v13.toInt64) fun v17 m18 =>
  if (bz v17) = 0 then
    some ((-2 : Int32), m18)
  else
    bnd (F_X6_told m18 a2 a1) fun v22 m23 =>
    bnd (F_X6_lays m23 a1 a2 a3) fun v26 m27 =>
    some (v22, m27)
noncomputable def F_X6_set_24 (m : Mem) (a1 : Int32) (a2 : Int32) (a3 : Int32) : Option (Int32 × Mem) :=
  if a1 = (2 : Int32) then
    F_X6_set_36 m a1 a2 a3 (1 : Int64) a3.toInt64
  else
    F_X6_set_36 m a1 a2 a3 (0 : Int64) a3.toInt64
noncomputable def F_X6_set (m : Mem) (a1 : Int32) (a2 : Int32) (a3 : Int32) : Option (Int32 × Mem) :=
  bnd (F_X6_in m a1.toInt64 (0 : Int64) (5 : Int64)) fun v1 m2 =>
  if (bz v1) = 0 then
    some ((-2 : Int32), m2)
  else
    if a1 ≤ 0 then
      F_X6_set_24 m2 a1 a2 a3
    else
      bnd (F_X6_isCoin m2 a2) fun v7 m8 =>
      if (bz v7) = 0 then
        some ((-2 : Int32), m8)
      else
        F_X6_set_24 m8 a1 a2 a3
noncomputable def F_X6_coin (m : Mem) (a1 : Int32) (a2 : Int32) (a3 : Int32) : Option (Int32 × Mem) :=
  bnd (F_X6_in m a1.toInt64 (0 : Int64) (5 : Int64)) fun v1 m2 =>
  if (bz v1) = 0 then
    some ((-2 : Int32), m2)
  else
    bnd (F_X6_in m2 a2.toInt64 (0 : Int64) (9 : Int64)) fun v6 m7 =>
    if (bz v6) = 0 then
      some ((-2 : Int32), m7)
    else
      bnd (F_X6_in m7 a3.toInt64 (1 : Int64) (99 : Int64)) fun v11 m12 =>
      if (bz v11) = 0 then
        some ((-2 : Int32), m12)
      else
        if (mD m12 40 10) = (8 : Int32) then
          some ((-4 : Int32), m12)
        else
          gIf (vp_in (mD m12 40 10) 8) <|
          nm (wD m12 44 (mD m12 40 10).toNatClampNeg a1) fun m18 =>
          gIf (vp_in ((5 : Int32) * (mD m18 40 10)) 40) <|
          nm (wD m18 45 ((5 : Int32) * (mD m18 40 10)).toNatClampNeg a2) fun m20 =>
          gIf (vp_in (((5 : Int32) * (mD m20 40 10)) + (1 : Int32)) 40) <|
          nm (wD m20 45 (((5 : Int32) * (mD m20 40 10)) + (1 : Int32)).toNatClampNeg a3) fun m22 =>
          gIf (vp_in (((5 : Int32) * (mD m22 40 10)) + (2 : Int32)) 40) <|
          nm (wD m22 45 (((5 : Int32) * (mD m22 40 10)) + (2 : Int32)).toNatClampNeg (0 : Int32)) fun m24 =>
          gIf (vp_in (((5 : Int32) * (mD m24 40 10)) + (3 : Int32)) 40) <|
          nm (wD m24 45 (((5 : Int32) * (mD m24 40 10)) + (3 : Int32)).toNatClampNeg (0 : Int32)) fun m26 =>
          gIf (vp_in (((5 : Int32) * (mD m26 40 10)) + (4 : Int32)) 40) <|
          nm (wD m26 45 (((5 : Int32) * (mD m26 40 10)) + (4 : Int32)).toNatClampNeg (0 : Int32)) fun m28 =>
          nm (wD m28 40 10 ((mD m28 40 10) + (1 : Int32))) fun m29 =>
          some ((mD m29 40 10) - (1 : Int32), m29)
noncomputable def F_X6_feed (m : Mem) (a1 : Int32) : Option (Int32 × Mem) :=
  bnd (F_X6_in m a1.toInt64 (0 : Int64) (255 : Int64)) fun v1 m2 =>
  if (bz v1) = 0 then
    some ((-2 : Int32), m2)
  else
    if (mD m2 40 6) = (160 : Int32) then
      some ((-4 : Int32), m2)
    else
      gIf (vp_in (mD m2 40 6) 160) <|
      nm (wD m2 43 (mD m2 40 6).toNatClampNeg a1) fun m8 =>
      nm (wD m8 40 6 ((mD m8 40 6) + (1 : Int32))) fun m9 =>
      some (mD m9 40 6, m9)
noncomputable def F_X6_text_14 : Nat → Mem → Int32 → Option (Int32 × Mem)
  | 0 => fun m a1 => none
  | n + 1 => fun m a1 =>
    if (mD m 40 6) ≤ a1 then
      gIf (vp_in (mD m 40 3) 6) <|
      nm (wD m 42 (mD m 40 3).toNatClampNeg (mD m 40 6)) fun m4 =>
      nm (wD m4 40 6 (0 : Int32)) fun m5 =>
      bnd (F_X6_read m5 (mD m5 40 3) (0 : Int32)) fun v6 m7 =>
      if (mD m7 40 24) = 0 then
        nm (wD m7 40 3 ((mD m7 40 3) + (1 : Int32))) fun m11 =>
        some ((mD m11 40 3) - (1 : Int32), m11)
      else
        some ((-100 : Int32) - (mD m7 40 25), m7)
    else
      gIf (vp_in a1 160) <|
      gIf (vp_in (((160 : Int32) * (mD m 40 3)) + a1) 960) <|
      nm (wD m 41 (((160 : Int32) * (mD m 40 3)) + a1).toNatClampNeg (mD m 43 a1.toNatClampNeg)) fun m14 =>
      F_X6_text_14 n m14 (a1 + (1 : Int32))
noncomputable def F_X6_text (m : Mem) : Option (Int32 × Mem) :=
  if (mD m 40 3) = (6 : Int32) then
    some ((-4 : Int32), m)
  else
    F_X6_text_14 FU m (0 : Int32)
noncomputable def F_X6_force (m : Mem) (a1 : Int32) : Option (Int32 × Mem) :=
  bnd (F_X6_in m a1.toInt64 (0 : Int64) (((mD m 40 3) - (1 : Int32)).toInt64)) fun v1 m2 =>
  if (bz v1) = 0 then
    some ((-2 : Int32), m2)
  else
    nm (mD m2 40 4) fun x6 =>
    nm (wD m2 40 4 a1) fun m7 =>
    some (x6, m7)
noncomputable def F_X6_isOf (m : Mem) (a1 : Int32) (a2 : Int32) : Option (Bool × Mem) :=
  gIf (vp_in (((5 : Int32) * a1) + (4 : Int32)) 40) <|
  if (mD m 45 (((5 : Int32) * a1) + (4 : Int32)).toNatClampNeg) = a2 then
    some (true, m)
  else
    some (false, m)
noncomputable def F_X6_richOf_31 (K4 : Mem → Int32 → Int32 → Int32 → Option (Int32 × Mem)) (m : Mem) (a1 : Int32) (a3 : Int32) (s0 : Int32) (s1 : Int32) : Option (Int32 × Mem) :=
  nm (s1 + s0) fun x11 =>
  K4 m a1 x11 (a3 + (1 : Int32))
noncomputable def F_X6_richOf_4 : Nat → Mem → Int32 → Int32 → Int32 → Option (Int32 × Mem)
  | 0 => fun m a1 a2 a3 => none
  | n + 1 => fun m a1 a2 a3 =>
    if (mD m 40 10) ≤ a3 then
      some (a2, m)
    else
      bnd (F_X6_isOf m a3 a1) fun v2 m3 =>
      if (bz v2) = 0 then
        F_X6_richOf_31 (F_X6_richOf_4 n) m3 a1 a3 (0 : Int32) a2
      else
        bnd (F_X6_worthOf m3 a3) fun v7 m8 =>
        F_X6_richOf_31 (F_X6_richOf_4 n) m8 a1 a3 v7 a2
noncomputable def F_X6_richOf (m : Mem) (a1 : Int32) : Option (Int32 × Mem) :=
  F_X6_richOf_4 FU m a1 (0 : Int32) (0 : Int32)
noncomputable def F_X6_purseOf_35 (K4 : Mem → Int32 → Int32 → Int32 → Option (Int32 × Mem)) (m : Mem) (a1 : Int32) (a3 : Int32) (s0 : Int32) (s1 : Int32) : Option (Int32 × Mem) :=
  nm (s1 ||| (s0 <<< (a3 &&& 31))) fun x12 =>
  K4 m a1 x12 (a3 + (1 : Int32))
noncomputable def F_X6_purseOf_34 (K4 : Mem → Int32 → Int32 → Int32 → Option (Int32 × Mem)) (m : Mem) (a1 : Int32) (a3 : Int32) (s0 : Int32) : Option (Int32 × Mem) :=
  F_X6_purseOf_35 K4 m a1 a3 (0 : Int32) s0
noncomputable def F_X6_purseOf_4 : Nat → Mem → Int32 → Int32 → Int32 → Option (Int32 × Mem)
  | 0 => fun m a1 a2 a3 => none
  | n + 1 => fun m a1 a2 a3 =>
    if (mD m 40 10) ≤ a3 then
      some (a2, m)
    else
      bnd (F_X6_isOf m a3 a1) fun v2 m3 =>
      if (bz v2) = 0 then
        F_X6_purseOf_34 (F_X6_purseOf_4 n) m3 a1 a3 a2
      else
        bnd (F_X6_isWhole m3 a3) fun v7 m8 =>
        if (bz v7) = 0 then
          F_X6_purseOf_34 (F_X6_purseOf_4 n) m8 a1 a3 a2
        else
          F_X6_purseOf_35 (F_X6_purseOf_4 n) m8 a1 a3 (1 : Int32) a2
noncomputable def F_X6_purseOf (m : Mem) (a1 : Int32) : Option (Int32 × Mem) :=
  F_X6_purseOf_4 FU m a1 (0 : Int32) (0 : Int32)
noncomputable def F_X6_bitsOf_4 : Nat → Mem → Int32 → Int32 → Option (Int32 × Mem)
  | 0 => fun m a1 a2 => none
  | n + 1 => fun m a1 a2 =>
    if a2 = 0 then
      some (a1, m)
    else
      nm (a2 &&& (a2 - (1 : Int32))) fun x2 =>
      F_X6_bitsOf_4 n m (a1 + (1 : Int32)) x2
noncomputable def F_X6_bitsOf (m : Mem) (a0 : Int32) : Option (Int32 × Mem) :=
  F_X6_bitsOf_4 FU m (0 : Int32) a0
noncomputable def F_X6_valuesOf_36 (K4 : Mem → Int32 → Int32 → Int32 → Option (Int32 × Mem)) (m : Mem) (a1 : Int32) (a3 : Int32) (s0 : Int32) (s1 : Int32) : Option (Int32 × Mem) :=
  nm (s1 + s0) fun x4 =>
  K4 m a1 x4 (a3 + (1 : Int32))
noncomputable def F_X6_valuesOf_4 : Nat → Mem → Int32 → Int32 → Int32 → Option (Int32 × Mem)
  | 0 => fun m a1 a2 a3 => none
  | n + 1 => fun m a1 a2 a3 =>
    if (mD m 40 10) ≤ a3 then
      some (a2, m)
    else
      if ((a1 >>> (a3 &&& 31)) &&& (1 : Int32)) = (1 : Int32) then
        gIf (vp_in (((5 : Int32) * a3) + (1 : Int32)) 40) <|
        F_X6_valuesOf_36 (F_X6_valuesOf_4 n) m a1 a3 (mD m 45 (((5 : Int32) * a3) + (1 : Int32)).toNatClampNeg) a2
      else
        F_X6_valuesOf_36 (F_X6_valuesOf_4 n) m a1 a3 (0 : Int32) a2
noncomputable def F_X6_valuesOf (m : Mem) (a1 : Int32) : Option (Int32 × Mem) :=
  F_X6_valuesOf_4 FU m a1 (0 : Int32) (0 : Int32)
noncomputable def F_X6_passes_28 (K4 : Mem → Int32 → Int32 → Option (Int32 × Mem)) (m : Mem) (a2 : Int32) (s0 : Int32) (s1 : Int32) : Option (Int32 × Mem) :=
  nm (s1 + s0) fun x7 =>
  K4 m x7 (a2 + (1 : Int32))
noncomputable def F_X6_passes_119 (K93 : Mem → Int32 → Int32 → Option (Int32 × Mem)) (m : Mem) (a2 : Int32) (s0 : Int32) (s1 : Int32) : Option (Int32 × Mem) :=
  nm (s1 &&& s0) fun x27 =>
  K93 m x27 (a2 + (1 : Int32))
noncomputable def F_X6_passes_93 : Nat → Mem → Int32 → Int32 → Option (Int32 × Mem)
  | 0 => fun m a1 a2 => none
  | n + 1 => fun m a1 a2 =>
    if (mD m 40 10) ≤ a2 then
      bnd (F_X6_bitsOf m a1) fun v18 m19 =>
      some (v18, m19)
    else
      bnd (F_X6_isWhole m a2) fun v22 m23 =>
      if (bz v22) = 0 then
        F_X6_passes_119 (F_X6_passes_93 n) m23 a2 (-1 : Int32) a1
      else
        F_X6_passes_119 (F_X6_passes_93 n) m23 a2 (((1 : Int32) <<< (a2 &&& 31)) ^^^ (-1 : Int32)) a1
noncomputable def F_X6_passes_38 : Nat → Mem → Int32 → Int32 → Option (Int32 × Mem)
  | 0 => fun m a1 a2 => none
  | n + 1 => fun m a1 a2 =>
    if (mD m 40 10) ≤ a2 then
      nm (wD m 40 7 ((mD m 40 7) + (1 : Int32))) fun m9 =>
      F_X6_passes_93 FU m9 a1 (0 : Int32)
    else
      gIf (vp_in (((5 : Int32) * a2) + (3 : Int32)) 40) <|
      bnd (F_X6_within m ((mD m 45 (((5 : Int32) * a2) + (3 : Int32)).toNatClampNeg) + (1 : Int32)) (0 : Int32) (999 : Int32)) fun v11 m12 =>
      gIf (vp_in (((5 : Int32) * a2) + (3 : Int32)) 40) <|
      nm (wD m12 45 (((5 : Int32) * a2) + (3 : Int32)).toNatClampNeg v11) fun m16 =>
      F_X6_passes_38 n m16 a1 (a2 + (1 : Int32))
noncomputable def F_X6_passes_4 : Nat → Mem → Int32 → Int32 → Option (Int32 × Mem)
  | 0 => fun m a1 a2 => none
  | n + 1 => fun m a1 a2 =>
    if (mD m 40 10) ≤ a2 then
      F_X6_passes_38 FU m a1 (0 : Int32)
    else
      bnd (F_X6_isWhole m a2) fun v2 m3 =>
      if (bz v2) = 0 then
        F_X6_passes_28 (F_X6_passes_4 n) m3 a2 (0 : Int32) a1
      else
        F_X6_passes_28 (F_X6_passes_4 n) m3 a2 ((1 : Int32) <<< (a2 &&& 31)) a1
noncomputable def F_X6_passes (m : Mem) : Option (Int32 × Mem) :=
  F_X6_passes_4 FU m (0 : Int32) (0 : Int32)
noncomputable def F_X6_day (m : Mem) : Option (Int32 × Mem) :=
  if (mD m 40 7) = (999 : Int32) then
    some ((-3 : Int32), m)
  else
    bnd (F_X6_passes m) fun v2 m3 =>
    some (v2, m3)
noncomputable def F_X6_pays (m : Mem) (a1 : Int32) (a2 : Int32) : Option (Unit × Mem) :=
  gIf (vp_in (((5 : Int32) * a1) + (4 : Int32)) 40) <|
  nm (wD m 45 (((5 : Int32) * a1) + (4 : Int32)).toNatClampNeg a2) fun m2 =>
  gIf (vp_in (((5 : Int32) * a1) + (3 : Int32)) 40) <|
  nm (wD m2 45 (((5 : Int32) * a1) + (3 : Int32)).toNatClampNeg (0 : Int32)) fun m4 =>
  some ((), m4)
noncomputable def F_X6_pay (m : Mem) (a1 : Int32) (a2 : Int32) : Option (Int32 × Mem) :=
  bnd (F_X6_isCoin m a1) fun v1 m2 =>
  if (bz v1) = 0 then
    some ((-2 : Int32), m2)
  else
    bnd (F_X6_isOwner m2 a2) fun v6 m7 =>
    if (bz v6) = 0 then
      some ((-2 : Int32), m7)
    else
      gIf (vp_in (((5 : Int32) * a1) + (4 : Int32)) 40) <|
      nm (mD m7 45 (((5 : Int32) * a1) + (4 : Int32)).toNatClampNeg) fun x12 =>
      bnd (F_X6_isWhole m7 a1) fun v13 m14 =>
      if (bz v13) = 0 then
        some ((-3 : Int32), m14)
      else
        if x12 = a2 then
          some ((-3 : Int32), m14)
        else
          bnd (F_X6_pays m14 a1 a2) fun v19 m20 =>
          some (x12, m20)
noncomputable def F_X6_exactOf_77 (K12 : Mem → Int32 → Int32 → Int32 → Int32 → Option (Int32 × Mem)) (m : Mem) (a2 : Int32) (a3 : Int32) (a4 : Int32) (a5 : Int32) : Option (Int32 × Mem) :=
  K12 m a2 a3 a4 (a5 + (1 : Int32))
noncomputable def F_X6_exactOf_73 (K12 : Mem → Int32 → Int32 → Int32 → Int32 → Option (Int32 × Mem)) (m : Mem) (a2 : Int32) (a3 : Int32) (a5 : Int32) : Option (Int32 × Mem) :=
  F_X6_exactOf_77 K12 m a2 a3 a5 a5
noncomputable def F_X6_exactOf_47 (K12 : Mem → Int32 → Int32 → Int32 → Int32 → Option (Int32 × Mem)) (m : Mem) (a2 : Int32) (a3 : Int32) (a4 : Int32) (a5 : Int32) (s0 : Int32) : Option (Int32 × Mem) :=
  if s0 = 0 then
    F_X6_exactOf_77 K12 m a2 a3 a4 a5
  else
    if a4 = (-1 : Int32) then
      F_X6_exactOf_73 K12 m a2 a3 a5
    else
      bnd (F_X6_bitsOf m a5) fun v14 m15 =>
      bnd (F_X6_bitsOf m15 a4) fun v18 m19 =>
      if v18 ≤ v14 then
        F_X6_exactOf_77 K12 m19 a2 a3 a4 a5
      else
        F_X6_exactOf_73 K12 m19 a2 a3 a5
noncomputable def F_X6_exactOf_46 (K12 : Mem → Int32 → Int32 → Int32 → Int32 → Option (Int32 × Mem)) (m : Mem) (a2 : Int32) (a3 : Int32) (a4 : Int32) (a5 : Int32) : Option (Int32 × Mem) :=
  F_X6_exactOf_47 K12 m a2 a3 a4 a5 (0 : Int32)
noncomputable def F_X6_exactOf_12 : Nat → Mem → Int32 → Int32 → Int32 → Int32 → Option (Int32 × Mem)
  | 0 => fun m a2 a3 a4 a5 => none
  | n + 1 => fun m a2 a3 a4 a5 =>
    if ((1 : Int32) <<< ((mD m 40 10) &&& 31)) ≤ a5 then
      some (a4, m)
    else
      if (a5 &&& (a3 ^^^ (-1 : Int32))) = 0 then
        bnd (F_X6_valuesOf m a5) fun v7 m8 =>
        if v7 = a2 then
          F_X6_exactOf_47 (F_X6_exactOf_12 n) m8 a2 a3 a4 a5 (1 : Int32)
        else
          F_X6_exactOf_46 (F_X6_exactOf_12 n) m8 a2 a3 a4 a5
      else
        F_X6_exactOf_46 (F_X6_exactOf_12 n) m a2 a3 a4 a5
noncomputable def F_X6_exactOf (m : Mem) (a1 : Int32) (a2 : Int32) : Option (Int32 × Mem) :=
  bnd (F_X6_purseOf m a1) fun v1 m2 =>
  F_X6_exactOf_12 FU m2 a2 v1 (-1 : Int32) (0 : Int32)
noncomputable def F_X6_buy_81 (K54 : Mem → Int32 → Int32 → Int32 → Option (Int32 × Mem)) (m : Mem) (a2 : Int32) (a4 : Int32) (a5 : Int32) : Option (Int32 × Mem) :=
  K54 m a2 a4 (a5 + (1 : Int32))
noncomputable def F_X6_buy_54 : Nat → Mem → Int32 → Int32 → Int32 → Option (Int32 × Mem)
  | 0 => fun m a2 a4 a5 => none
  | n + 1 => fun m a2 a4 a5 =>
    if (mD m 40 10) ≤ a5 then
      bnd (F_X6_bitsOf m a4) fun v23 m24 =>
      some (v23, m24)
    else
      if ((a4 >>> (a5 &&& 31)) &&& (1 : Int32)) = (1 : Int32) then
        bnd (F_X6_pays m a5 a2) fun v28 m29 =>
        F_X6_buy_81 (F_X6_buy_54 n) m29 a2 a4 a5
      else
        F_X6_buy_81 (F_X6_buy_54 n) m a2 a4 a5
noncomputable def F_X6_buy (m : Mem) (a1 : Int32) (a2 : Int32) (a3 : Int32) : Option (Int32 × Mem) :=
  bnd (F_X6_isOwner m a1) fun v1 m2 =>
  if (bz v1) = 0 then
    some ((-2 : Int32), m2)
  else
    bnd (F_X6_isOwner m2 a2) fun v6 m7 =>
    if (bz v6) = 0 then
      some ((-2 : Int32), m7)
    else
      if a1 = a2 then
        some ((-2 : Int32), m7)
      else
        bnd (F_X6_in m7 a3.toInt64 (0 : Int64) (999 : Int64)) fun v12 m13 =>
        if (bz v12) = 0 then
          some ((-2 : Int32), m13)
        else
          bnd (F_X6_exactOf m13 a1 a3) fun v17 m18 =>
          if v17 = (-1 : Int32) then
            some ((-3 : Int32), m18)
          else
            F_X6_buy_54 FU m18 a2 v17 (0 : Int32)
noncomputable def F_X6_laysAside_2 : Nat → Mem → Int32 → Option (Unit × Mem)
  | 0 => fun m a1 => none
  | n + 1 => fun m a1 =>
    if (8 : Int32) ≤ a1 then
      nm (wD m 40 28 (mD m 40 7)) fun m2 =>
      some ((), m2)
    else
      gIf (vp_in (((5 : Int32) * a1) + (3 : Int32)) 40) <|
      gIf (vp_in a1 8) <|
      nm (wD m 46 a1.toNatClampNeg (mD m 45 (((5 : Int32) * a1) + (3 : Int32)).toNatClampNeg)) fun m5 =>
      gIf (vp_in (((5 : Int32) * a1) + (4 : Int32)) 40) <|
      gIf (vp_in a1 8) <|
      nm (wD m5 47 a1.toNatClampNeg (mD m5 45 (((5 : Int32) * a1) + (4 : Int32)).toNatClampNeg)) fun m8 =>
      F_X6_laysAside_2 n m8 (a1 + (1 : Int32))
noncomputable def F_X6_laysAside (m : Mem) : Option (Unit × Mem) :=
  F_X6_laysAside_2 FU m (0 : Int32)
noncomputable def F_X6_laysBack_2 : Nat → Mem → Int32 → Option (Unit × Mem)
  | 0 => fun m a1 => none
  | n + 1 => fun m a1 =>
    if (8 : Int32) ≤ a1 then
      nm (wD m 40 7 (mD m 40 28)) fun m2 =>
      some ((), m2)
    else
      gIf (vp_in a1 8) <|
      gIf (vp_in (((5 : Int32) * a1) + (3 : Int32)) 40) <|
      nm (wD m 45 (((5 : Int32) * a1) + (3 : Int32)).toNatClampNeg (mD m 46 a1.toNatClampNeg)) fun m5 =>
      gIf (vp_in a1 8) <|
      gIf (vp_in (((5 : Int32) * a1) + (4 : Int32)) 40) <|
      nm (wD m5 45 (((5 : Int32) * a1) + (4 : Int32)).toNatClampNeg (mD m5 47 a1.toNatClampNeg)) fun m8 =>
      F_X6_laysBack_2 n m8 (a1 + (1 : Int32))
noncomputable def F_X6_laysBack (m : Mem) : Option (Unit × Mem) :=
  F_X6_laysBack_2 FU m (0 : Int32)
noncomputable def F_X6_spendOf_72 (K14 : Mem → Int32 → Int32 → Int32 → Int32 → Option (Int32 × Mem)) (m : Mem) (a2 : Int32) (a3 : Int32) (a4 : Int32) (a5 : Int32) : Option (Int32 × Mem) :=
  K14 m a2 a3 a4 (a5 + (1 : Int32))
noncomputable def F_X6_spendOf_65 (K14 : Mem → Int32 → Int32 → Int32 → Int32 → Option (Int32 × Mem)) (m : Mem) (a2 : Int32) (a5 : Int32) (a6 : Int32) : Option (Int32 × Mem) :=
  F_X6_spendOf_72 K14 m a2 a5 a6 a5
noncomputable def F_X6_spendOf_14 : Nat → Mem → Int32 → Int32 → Int32 → Int32 → Option (Int32 × Mem)
  | 0 => fun m a2 a3 a4 a5 => none
  | n + 1 => fun m a2 a3 a4 a5 =>
    if (mD m 40 10) ≤ a5 then
      some (a3, m)
    else
      bnd (F_X6_turnsOf m a5) fun v6 m7 =>
      gIf (vp_in (((5 : Int32) * a5) + (3 : Int32)) 40) <|
      nm (v6 - (mD m7 45 (((5 : Int32) * a5) + (3 : Int32)).toNatClampNeg)) fun x11 =>
      if ((a2 >>> (a5 &&& 31)) &&& (1 : Int32)) = (1 : Int32) then
        if a3 = (-1 : Int32) then
          F_X6_spendOf_65 (F_X6_spendOf_14 n) m7 a2 a5 x11
        else
          if a4 ≤ x11 then
            F_X6_spendOf_72 (F_X6_spendOf_14 n) m7 a2 a3 a4 a5
          else
            F_X6_spendOf_65 (F_X6_spendOf_14 n) m7 a2 a5 x11
      else
        F_X6_spendOf_72 (F_X6_spendOf_14 n) m7 a2 a3 a4 a5
noncomputable def F_X6_spendOf (m : Mem) (a1 : Int32) : Option (Int32 × Mem) :=
  bnd (F_X6_purseOf m a1) fun v1 m2 =>
  F_X6_spendOf_14 FU m2 v1 (-1 : Int32) (0 : Int32) (0 : Int32)
noncomputable def F_X6_goneOf_31 (m : Mem) (a2 : Int32) : Option (Int32 × Mem) :=
  bnd (F_X6_laysBack m) fun v15 m16 =>
  if a2 ≤ (40 : Int32) then
    some (a2, m16)
  else
    some ((-1 : Int32), m16)
noncomputable def F_X6_goneOf_6 : Nat → Mem → Int32 → Int32 → Option (Int32 × Mem)
  | 0 => fun m a1 a2 => none
  | n + 1 => fun m a1 a2 =>
    if (40 : Int32) < a2 then
      F_X6_goneOf_31 m a2
    else
      bnd (F_X6_purseOf m a1) fun v6 m7 =>
      if v6 = 0 then
        F_X6_goneOf_31 m7 a2
      else
        bnd (F_X6_passes m7) fun v11 m12 =>
        F_X6_goneOf_6 n m12 a1 (a2 + (1 : Int32))
noncomputable def F_X6_goneOf (m : Mem) (a1 : Int32) : Option (Int32 × Mem) :=
  bnd (F_X6_laysAside m) fun v1 m2 =>
  F_X6_goneOf_6 FU m2 a1 (0 : Int32)
noncomputable def F_X6_taxOf_27 (K4 : Mem → Int32 → Int32 → Int32 → Option (Int32 × Mem)) (m : Mem) (a1 : Int32) (a3 : Int32) (s0 : Int32) (s1 : Int32) : Option (Int32 × Mem) :=
  nm (s1 + s0) fun x7 =>
  K4 m a1 x7 (a3 + (1 : Int32))
noncomputable def F_X6_taxOf_122 (K43 : Mem → Int32 → Int32 → Int32 → Int32 → Int32 → Option (Int32 × Mem)) (K57 : Mem → Int32 → Int32 → Int32 → Int32 → Int32 → Int32 → Int32 → Option (Int32 × Mem)) (m : Mem) (a1 : Int32) (a2 : Int32) (a3 : Int32) (a4 : Int32) (a5 : Int32) (a6 : Int32) (a7 : Int32) : Option (Int32 × Mem) :=
  K57 m a1 a2 a3 a4 a5 a6 (a7 + (1 : Int32))
noncomputable def F_X6_taxOf_118 (K43 : Mem → Int32 → Int32 → Int32 → Int32 → Int32 → Option (Int32 × Mem)) (K57 : Mem → Int32 → Int32 → Int32 → Int32 → Int32 → Int32 → Int32 → Option (Int32 × Mem)) (m : Mem) (a1 : Int32) (a2 : Int32) (a3 : Int32) (a4 : Int32) (a5 : Int32) (a7 : Int32) : Option (Int32 × Mem) :=
  F_X6_taxOf_122 K43 K57 m a1 a2 a3 a4 a5 a7 a7
noncomputable def F_X6_taxOf_90 (K43 : Mem → Int32 → Int32 → Int32 → Int32 → Int32 → Option (Int32 × Mem)) (K57 : Mem → Int32 → Int32 → Int32 → Int32 → Int32 → Int32 → Int32 → Option (Int32 × Mem)) (m : Mem) (a1 : Int32) (a2 : Int32) (a3 : Int32) (a4 : Int32) (a5 : Int32) (a6 : Int32) (a7 : Int32) (s0 : Int32) : Option (Int32 × Mem) :=
  if s0 = 0 then
    F_X6_taxOf_122 K43 K57 m a1 a2 a3 a4 a5 a6 a7
  else
    if a6 = (-1 : Int32) then
      F_X6_taxOf_118 K43 K57 m a1 a2 a3 a4 a5 a7
    else
      bnd (F_X6_worthOf m a7) fun v24 m25 =>
      bnd (F_X6_worthOf m25 a6) fun v28 m29 =>
      if v24 ≤ v28 then
        F_X6_taxOf_122 K43 K57 m29 a1 a2 a3 a4 a5 a6 a7
      else
        F_X6_taxOf_118 K43 K57 m29 a1 a2 a3 a4 a5 a7
noncomputable def F_X6_taxOf_89 (K43 : Mem → Int32 → Int32 → Int32 → Int32 → Int32 → Option (Int32 × Mem)) (K57 : Mem → Int32 → Int32 → Int32 → Int32 → Int32 → Int32 → Int32 → Option (Int32 × Mem)) (m : Mem) (a1 : Int32) (a2 : Int32) (a3 : Int32) (a4 : Int32) (a5 : Int32) (a6 : Int32) (a7 : Int32) : Option (Int32 × Mem) :=
  F_X6_taxOf_90 K43 K57 m a1 a2 a3 a4 a5 a6 a7 (0 : Int32)
noncomputable def F_X6_taxOf_57 (K43 : Mem → Int32 → Int32 → Int32 → Int32 → Int32 → Option (Int32 × Mem)) : Nat → Mem → Int32 → Int32 → Int32 → Int32 → Int32 → Int32 → Int32 → Option (Int32 × Mem)
  | 0 => fun m a1 a2 a3 a4 a5 a6 a7 => none
  | n + 1 => fun m a1 a2 a3 a4 a5 a6 a7 =>
    if (mD m 40 10) ≤ a7 then
      nm (a3 ||| ((1 : Int32) <<< (a6 &&& 31))) fun x10 =>
      bnd (F_X6_worthOf m a6) fun v11 m12 =>
      nm (a4 + v11) fun x15 =>
      K43 m12 a1 a2 x10 x15 (a5 + (1 : Int32))
    else
      bnd (F_X6_isOf m a7 a1) fun v16 m17 =>
      if (bz v16) = 0 then
        F_X6_taxOf_89 K43 (F_X6_taxOf_57 K43 n) m17 a1 a2 a3 a4 a5 a6 a7
      else
        if ((a3 >>> (a7 &&& 31)) &&& (1 : Int32)) = 0 then
          F_X6_taxOf_90 K43 (F_X6_taxOf_57 K43 n) m17 a1 a2 a3 a4 a5 a6 a7 (1 : Int32)
        else
          F_X6_taxOf_89 K43 (F_X6_taxOf_57 K43 n) m17 a1 a2 a3 a4 a5 a6 a7
noncomputable def F_X6_taxOf_43 : Nat → Mem → Int32 → Int32 → Int32 → Int32 → Int32 → Option (Int32 × Mem)
  | 0 => fun m a1 a2 a3 a4 a5 => none
  | n + 1 => fun m a1 a2 a3 a4 a5 =>
    if (a2 / (2 : Int32)) ≤ a5 then
      some (a4, m)
    else
      F_X6_taxOf_57 (F_X6_taxOf_43 n) FU m a1 a2 a3 a4 a5 (-1 : Int32) (0 : Int32)
noncomputable def F_X6_taxOf_4 : Nat → Mem → Int32 → Int32 → Int32 → Option (Int32 × Mem)
  | 0 => fun m a1 a2 a3 => none
  | n + 1 => fun m a1 a2 a3 =>
    if (mD m 40 10) ≤ a3 then
      F_X6_taxOf_43 FU m a1 a2 (0 : Int32) (0 : Int32) (0 : Int32)
    else
      bnd (F_X6_isOf m a3 a1) fun v2 m3 =>
      if (bz v2) = 0 then
        F_X6_taxOf_27 (F_X6_taxOf_4 n) m3 a1 a3 (0 : Int32) a2
      else
        F_X6_taxOf_27 (F_X6_taxOf_4 n) m3 a1 a3 (1 : Int32) a2
noncomputable def F_X6_taxOf (m : Mem) (a1 : Int32) : Option (Int32 × Mem) :=
  F_X6_taxOf_4 FU m a1 (0 : Int32) (0 : Int32)
noncomputable def F_X6_turnedOf_35 (K4 : Mem → Int32 → Int32 → Int32 → Option (Int32 × Mem)) (m : Mem) (a1 : Int32) (a3 : Int32) (s0 : Int32) (s1 : Int32) : Option (Int32 × Mem) :=
  nm (s1 ||| (s0 <<< (a3 &&& 31))) fun x12 =>
  K4 m a1 x12 (a3 + (1 : Int32))
noncomputable def F_X6_turnedOf_34 (K4 : Mem → Int32 → Int32 → Int32 → Option (Int32 × Mem)) (m : Mem) (a1 : Int32) (a3 : Int32) (s0 : Int32) : Option (Int32 × Mem) :=
  F_X6_turnedOf_35 K4 m a1 a3 (0 : Int32) s0
noncomputable def F_X6_turnedOf_4 : Nat → Mem → Int32 → Int32 → Int32 → Option (Int32 × Mem)
  | 0 => fun m a1 a2 a3 => none
  | n + 1 => fun m a1 a2 a3 =>
    if (mD m 40 10) ≤ a3 then
      some (a2, m)
    else
      bnd (F_X6_isOf m a3 a1) fun v2 m3 =>
      if (bz v2) = 0 then
        F_X6_turnedOf_34 (F_X6_turnedOf_4 n) m3 a1 a3 a2
      else
        bnd (F_X6_isWhole m3 a3) fun v7 m8 =>
        if (bz v7) = 0 then
          F_X6_turnedOf_35 (F_X6_turnedOf_4 n) m8 a1 a3 (1 : Int32) a2
        else
          F_X6_turnedOf_34 (F_X6_turnedOf_4 n) m8 a1 a3 a2
noncomputable def F_X6_turnedOf (m : Mem) (a1 : Int32) : Option (Int32 × Mem) :=
  F_X6_turnedOf_4 FU m a1 (0 : Int32) (0 : Int32)
noncomputable def F_X6_has_19 (m : Mem) : Option (Int32 × Mem) :=
  some ((-100000 : Int32), m)
noncomputable def F_X6_has (m : Mem) (a1 : Int32) (a2 : Int32) : Option (Int32 × Mem) :=
  bnd (F_X6_isOwner m a1) fun v1 m2 =>
  if (bz v1) = 0 then
    F_X6_has_19 m2
  else
    bnd (F_X6_in m2 a2.toInt64 (0 : Int64) (6 : Int64)) fun v6 m7 =>
    if (bz v6) = 0 then
      F_X6_has_19 m7
    else
      if (3 : Int32) ≤ a2 then
        if a2 = (3 : Int32) then
          bnd (F_X6_turnedOf m7 a1) fun v27 m28 =>
          some (v27, m28)
        else
          if a2 = (4 : Int32) then
            bnd (F_X6_spendOf m7 a1) fun v23 m24 =>
            some (v23, m24)
          else
            if a2 = (5 : Int32) then
              bnd (F_X6_goneOf m7 a1) fun v19 m20 =>
              some (v19, m20)
            else
              bnd (F_X6_taxOf m7 a1) fun v15 m16 =>
              some (v15, m16)
      else
        if a2 = 0 then
          bnd (F_X6_richOf m7 a1) fun v45 m46 =>
          some (v45, m46)
        else
          if a2 = (1 : Int32) then
            bnd (F_X6_purseOf m7 a1) fun v41 m42 =>
            some (v41, m42)
          else
            bnd (F_X6_purseOf m7 a1) fun v33 m34 =>
            bnd (F_X6_valuesOf m34 v33) fun v37 m38 =>
            some (v37, m38)
noncomputable def F_X6_run_76 (m : Mem) (s0 : Int32) : Option (Int32 × Mem) :=
  bnd (F_X6_laysBack m) fun v38 m39 =>
  some (s0, m39)
noncomputable def F_X6_run_29 (m : Mem) : Option (Int32 × Mem) :=
  some ((-100000 : Int32), m)
noncomputable def F_X6_run_39 : Nat → Mem → Int32 → Int32 → Int32 → Int32 → Option (Int32 × Mem)
  | 0 => fun m a1 a2 a3 a4 => none
  | n + 1 => fun m a1 a2 a3 a4 =>
    if a2 ≤ a4 then
      if a3 = 0 then
        bnd (F_X6_richOf m a1) fun v30 m31 =>
        F_X6_run_76 m31 v30
      else
        bnd (F_X6_purseOf m a1) fun v22 m23 =>
        bnd (F_X6_bitsOf m23 v22) fun v26 m27 =>
        F_X6_run_76 m27 v26
    else
      bnd (F_X6_passes m) fun v34 m35 =>
      F_X6_run_39 n m35 a1 a2 a3 (a4 + (1 : Int32))
noncomputable def F_X6_run (m : Mem) (a1 : Int32) (a2 : Int32) (a3 : Int32) : Option (Int32 × Mem) :=
  bnd (F_X6_isOwner m a1) fun v1 m2 =>
  if (bz v1) = 0 then
    F_X6_run_29 m2
  else
    bnd (F_X6_in m2 a2.toInt64 (0 : Int64) (40 : Int64)) fun v6 m7 =>
    if (bz v6) = 0 then
      F_X6_run_29 m7
    else
      bnd (F_X6_in m7 a3.toInt64 (0 : Int64) (1 : Int64)) fun v11 m12 =>
      if (bz v11) = 0 then
        F_X6_run_29 m12
      else
        bnd (F_X6_laysAside m12) fun v16 m17 =>
        F_X6_run_39 FU m17 a1 a2 a3 (0 : Int32)
noncomputable def F_X6_overOf_102 (K15 : Mem → Int32 → Int32 → Int32 → Int32 → Int32 → Option (Int32 × Mem)) (m : Mem) (a2 : Int32) (a3 : Int32) (a4 : Int32) (a5 : Int32) (a6 : Int32) : Option (Int32 × Mem) :=
  K15 m a2 a3 a4 a5 (a6 + (1 : Int32))
noncomputable def F_X6_overOf_94 (K15 : Mem → Int32 → Int32 → Int32 → Int32 → Int32 → Option (Int32 × Mem)) (m : Mem) (a2 : Int32) (a3 : Int32) (a6 : Int32) (a7 : Int32) : Option (Int32 × Mem) :=
  F_X6_overOf_102 K15 m a2 a3 a6 a7 a6
noncomputable def F_X6_overOf_54 (K15 : Mem → Int32 → Int32 → Int32 → Int32 → Int32 → Option (Int32 × Mem)) (m : Mem) (a2 : Int32) (a3 : Int32) (a4 : Int32) (a5 : Int32) (a6 : Int32) (a7 : Int32) (s0 : Int32) : Option (Int32 × Mem) :=
  if s0 = 0 then
    F_X6_overOf_102 K15 m a2 a3 a4 a5 a6
  else
    if a4 = (-1 : Int32) then
      F_X6_overOf_94 K15 m a2 a3 a6 a7
    else
      if a7 < a5 then
        F_X6_overOf_94 K15 m a2 a3 a6 a7
      else
        if a7 = a5 then
          bnd (F_X6_bitsOf m a6) fun v16 m17 =>
          bnd (F_X6_bitsOf m17 a4) fun v20 m21 =>
          if v20 ≤ v16 then
            F_X6_overOf_102 K15 m21 a2 a3 a4 a5 a6
          else
            F_X6_overOf_94 K15 m21 a2 a3 a6 a7
        else
          F_X6_overOf_102 K15 m a2 a3 a4 a5 a6
noncomputable def F_X6_overOf_53 (K15 : Mem → Int32 → Int32 → Int32 → Int32 → Int32 → Option (Int32 × Mem)) (m : Mem) (a2 : Int32) (a3 : Int32) (a4 : Int32) (a5 : Int32) (a6 : Int32) (a7 : Int32) : Option (Int32 × Mem) :=
  F_X6_overOf_54 K15 m a2 a3 a4 a5 a6 a7 (0 : Int32)
noncomputable def F_X6_overOf_15 : Nat → Mem → Int32 → Int32 → Int32 → Int32 → Int32 → Option (Int32 × Mem)
  | 0 => fun m a2 a3 a4 a5 a6 => none
  | n + 1 => fun m a2 a3 a4 a5 a6 =>
    if ((1 : Int32) <<< ((mD m 40 10) &&& 31)) ≤ a6 then
      some (a4, m)
    else
      bnd (F_X6_valuesOf m a6) fun v6 m7 =>
      if (a6 &&& (a3 ^^^ (-1 : Int32))) = 0 then
        if v6 < a2 then
          F_X6_overOf_53 (F_X6_overOf_15 n) m7 a2 a3 a4 a5 a6 v6
        else
          F_X6_overOf_54 (F_X6_overOf_15 n) m7 a2 a3 a4 a5 a6 v6 (1 : Int32)
      else
        F_X6_overOf_53 (F_X6_overOf_15 n) m7 a2 a3 a4 a5 a6 v6
noncomputable def F_X6_overOf (m : Mem) (a1 : Int32) (a2 : Int32) : Option (Int32 × Mem) :=
  bnd (F_X6_purseOf m a1) fun v1 m2 =>
  F_X6_overOf_15 FU m2 a2 v1 (-1 : Int32) (0 : Int32) (0 : Int32)
noncomputable def F_X6_exact_54 (m : Mem) (a3 : Int32) (s0 : Int32) : Option (Int32 × Mem) :=
  if s0 = (-1 : Int32) then
    some (s0, m)
  else
    if a3 = 0 then
      some (s0, m)
    else
      if a3 = (2 : Int32) then
        some (s0, m)
      else
        if a3 = (1 : Int32) then
          bnd (F_X6_bitsOf m s0) fun v33 m34 =>
          some (v33, m34)
        else
          bnd (F_X6_valuesOf m s0) fun v29 m30 =>
          some (v29, m30)
noncomputable def F_X6_exact (m : Mem) (a1 : Int32) (a2 : Int32) (a3 : Int32) : Option (Int32 × Mem) :=
  bnd (F_X6_isOwner m a1) fun v1 m2 =>
  if (bz v1) = 0 then
    some ((-2 : Int32), m2)
  else
    bnd (F_X6_in m2 a2.toInt64 (0 : Int64) (999 : Int64)) fun v6 m7 =>
    if (bz v6) = 0 then
      some ((-2 : Int32), m7)
    else
      bnd (F_X6_in m7 a3.toInt64 (0 : Int64) (3 : Int64)) fun v11 m12 =>
      if (bz v11) = 0 then
        some ((-2 : Int32), m12)
      else
        if (2 : Int32) ≤ a3 then
          bnd (F_X6_overOf m12 a1 a2) fun v17 m18 =>
          F_X6_exact_54 m18 a3 v17
        else
          bnd (F_X6_exactOf m12 a1 a2) fun v21 m22 =>
          F_X6_exact_54 m22 a3 v21
noncomputable def F_X6_wise_114 (K79 : Mem → Int32 → Int32 → Int32 → Int32 → Int32 → Option (Int32 × Mem)) (m : Mem) (a1 : Int32) (a2 : Int32) (a4 : Int32) (a5 : Int32) (a6 : Int32) (s0 : Int32) (s1 : Int32) : Option (Int32 × Mem) :=
  gIf (vp_in s1 8) <|
  nm (wD m 48 s1.toNatClampNeg s0) fun m49 =>
  K79 m49 a1 a2 a4 a5 (a6 + (1 : Int32))
noncomputable def F_X6_wise_185 (K135 : Mem → Int32 → Int32 → Int32 → Int32 → Int32 → Int32 → Option (Int32 × Mem)) (K152 : Mem → Int32 → Int32 → Int32 → Int32 → Int32 → Int32 → Int32 → Int32 → Option (Int32 × Mem)) (m : Mem) (a2 : Int32) (a4 : Int32) (a5 : Int32) (a6 : Int32) (a7 : Int32) (a8 : Int32) (a10 : Int32) (s0 : Int32) (s1 : Int32) : Option (Int32 × Mem) :=
  nm (s1 + s0) fun x61 =>
  K152 m a2 a4 a5 a6 a7 a8 x61 (a10 + (1 : Int32))
noncomputable def F_X6_wise_247 (K135 : Mem → Int32 → Int32 → Int32 → Int32 → Int32 → Int32 → Option (Int32 × Mem)) (m : Mem) (a2 : Int32) (a4 : Int32) (a5 : Int32) (a6 : Int32) (a7 : Int32) (a8 : Int32) : Option (Int32 × Mem) :=
  K135 m a2 a4 a5 a6 a7 (a8 + (1 : Int32))
noncomputable def F_X6_wise_239 (K135 : Mem → Int32 → Int32 → Int32 → Int32 → Int32 → Int32 → Option (Int32 × Mem)) (m : Mem) (a2 : Int32) (a4 : Int32) (a5 : Int32) (a8 : Int32) (a9 : Int32) : Option (Int32 × Mem) :=
  F_X6_wise_247 K135 m a2 a4 a5 a8 a9 a8
noncomputable def F_X6_wise_219 (K135 : Mem → Int32 → Int32 → Int32 → Int32 → Int32 → Int32 → Option (Int32 × Mem)) (m : Mem) (a2 : Int32) (a4 : Int32) (a5 : Int32) (a6 : Int32) (a7 : Int32) (a8 : Int32) (a9 : Int32) (s0 : Int32) : Option (Int32 × Mem) :=
  if s0 = 0 then
    F_X6_wise_247 K135 m a2 a4 a5 a6 a7 a8
  else
    if a6 = (-1 : Int32) then
      F_X6_wise_239 K135 m a2 a4 a5 a8 a9
    else
      if a9 ≤ a7 then
        F_X6_wise_247 K135 m a2 a4 a5 a6 a7 a8
      else
        F_X6_wise_239 K135 m a2 a4 a5 a8 a9
noncomputable def F_X6_wise_218 (K135 : Mem → Int32 → Int32 → Int32 → Int32 → Int32 → Int32 → Option (Int32 × Mem)) (m : Mem) (a2 : Int32) (a4 : Int32) (a5 : Int32) (a6 : Int32) (a7 : Int32) (a8 : Int32) (a9 : Int32) : Option (Int32 × Mem) :=
  F_X6_wise_219 K135 m a2 a4 a5 a6 a7 a8 a9 (0 : Int32)
noncomputable def F_X6_wise_152 (K135 : Mem → Int32 → Int32 → Int32 → Int32 → Int32 → Int32 → Option (Int32 × Mem)) : Nat → Mem → Int32 → Int32 → Int32 → Int32 → Int32 → Int32 → Int32 → Int32 → Option (Int32 × Mem)
  | 0 => fun m a2 a4 a5 a6 a7 a8 a9 a10 => none
  | n + 1 => fun m a2 a4 a5 a6 a7 a8 a9 a10 =>
    if (mD m 40 10) ≤ a10 then
      if (a8 &&& (a5 ^^^ (-1 : Int32))) = 0 then
        bnd (F_X6_valuesOf m a8) fun v54 m55 =>
        if v54 < a2 then
          F_X6_wise_218 K135 m55 a2 a4 a5 a6 a7 a8 a9
        else
          F_X6_wise_219 K135 m55 a2 a4 a5 a6 a7 a8 a9 (1 : Int32)
      else
        F_X6_wise_218 K135 m a2 a4 a5 a6 a7 a8 a9
    else
      if ((a8 >>> (a10 &&& 31)) &&& (1 : Int32)) = (1 : Int32) then
        F_X6_wise_185 K135 (F_X6_wise_152 K135 n) m a2 a4 a5 a6 a7 a8 a10 (0 : Int32) a9
      else
        gIf (vp_in a10 8) <|
        F_X6_wise_185 K135 (F_X6_wise_152 K135 n) m a2 a4 a5 a6 a7 a8 a10 (mD m 48 a10.toNatClampNeg) a9
noncomputable def F_X6_wise_135 : Nat → Mem → Int32 → Int32 → Int32 → Int32 → Int32 → Int32 → Option (Int32 × Mem)
  | 0 => fun m a2 a4 a5 a6 a7 a8 => none
  | n + 1 => fun m a2 a4 a5 a6 a7 a8 =>
    if ((1 : Int32) <<< ((mD m 40 10) &&& 31)) ≤ a8 then
      if a4 = 0 then
        some (a6, m)
      else
        some (a7, m)
    else
      F_X6_wise_152 (F_X6_wise_135 n) FU m a2 a4 a5 a6 a7 a8 (0 : Int32) (0 : Int32)
noncomputable def F_X6_wise_79 : Nat → Mem → Int32 → Int32 → Int32 → Int32 → Int32 → Option (Int32 × Mem)
  | 0 => fun m a1 a2 a4 a5 a6 => none
  | n + 1 => fun m a1 a2 a4 a5 a6 =>
    if (mD m 40 10) ≤ a6 then
      bnd (F_X6_laysBack m) fun v35 m36 =>
      F_X6_wise_135 FU m36 a2 a4 a5 (-1 : Int32) (-100000 : Int32) (0 : Int32)
    else
      bnd (F_X6_isOf m a6 a1) fun v39 m40 =>
      if (bz v39) = 0 then
        F_X6_wise_114 (F_X6_wise_79 n) m40 a1 a2 a4 a5 a6 (0 : Int32) a6
      else
        bnd (F_X6_worthOf m40 a6) fun v44 m45 =>
        F_X6_wise_114 (F_X6_wise_79 n) m45 a1 a2 a4 a5 a6 v44 a6
noncomputable def F_X6_wise_59 : Nat → Mem → Int32 → Int32 → Int32 → Int32 → Int32 → Int32 → Option (Int32 × Mem)
  | 0 => fun m a1 a2 a3 a4 a5 a6 => none
  | n + 1 => fun m a1 a2 a3 a4 a5 a6 =>
    if a3 ≤ a6 then
      F_X6_wise_79 FU m a1 a2 a4 a5 (0 : Int32)
    else
      bnd (F_X6_passes m) fun v30 m31 =>
      F_X6_wise_59 n m31 a1 a2 a3 a4 a5 (a6 + (1 : Int32))
noncomputable def F_X6_wise (m : Mem) (a1 : Int32) (a2 : Int32) (a3 : Int32) (a4 : Int32) : Option (Int32 × Mem) :=
  bnd (F_X6_isOwner m a1) fun v1 m2 =>
  if (bz v1) = 0 then
    some ((-2 : Int32), m2)
  else
    bnd (F_X6_in m2 a2.toInt64 (0 : Int64) (999 : Int64)) fun v6 m7 =>
    if (bz v6) = 0 then
      some ((-2 : Int32), m7)
    else
      bnd (F_X6_in m7 a3.toInt64 (0 : Int64) (40 : Int64)) fun v11 m12 =>
      if (bz v11) = 0 then
        some ((-2 : Int32), m12)
      else
        bnd (F_X6_in m12 a4.toInt64 (0 : Int64) (1 : Int64)) fun v16 m17 =>
        if (bz v16) = 0 then
          some ((-2 : Int32), m17)
        else
          bnd (F_X6_purseOf m17 a1) fun v21 m22 =>
          bnd (F_X6_laysAside m22) fun v25 m26 =>
          F_X6_wise_59 FU m26 a1 a2 a3 a4 v21 (0 : Int32)
noncomputable def F_X6_bothBehind_2 : Nat → Mem → Int32 → Int32 → Int32 → Option (Int32 × Mem)
  | 0 => fun m a1 a2 a3 => none
  | n + 1 => fun m a1 a2 a3 =>
    if (10 : Int32) ≤ a3 then
      bnd (F_X6_richOf m a1) fun v2 m3 =>
      bnd (F_X6_richOf m3 a2) fun v6 m7 =>
      some (v2 + v6, m7)
    else
      bnd (F_X6_passes m) fun v10 m11 =>
      F_X6_bothBehind_2 n m11 a1 a2 (a3 + (1 : Int32))
noncomputable def F_X6_bothBehind (m : Mem) (a1 : Int32) (a2 : Int32) : Option (Int32 × Mem) :=
  F_X6_bothBehind_2 FU m a1 a2 (0 : Int32)
noncomputable def F_X6_change_158 (K68 : Mem → Int32 → Int32 → Int32 → Int32 → Int32 → Int32 → Int32 → Int32 → Option (Int32 × Mem)) (m : Mem) (a1 : Int32) (a2 : Int32) (a3 : Int32) (a4 : Int32) (a5 : Int32) (a6 : Int32) (a7 : Int32) (a8 : Int32) : Option (Int32 × Mem) :=
  K68 m a1 a2 a3 a4 a5 a6 a7 (a8 + (1 : Int32))
noncomputable def F_X6_change_29 (m : Mem) : Option (Int32 × Mem) :=
  some ((-100000 : Int32), m)
noncomputable def F_X6_change_68 : Nat → Mem → Int32 → Int32 → Int32 → Int32 → Int32 → Int32 → Int32 → Int32 → Option (Int32 × Mem)
  | 0 => fun m a1 a2 a3 a4 a5 a6 a7 a8 => none
  | n + 1 => fun m a1 a2 a3 a4 a5 a6 a7 a8 =>
    if (64 : Int32) ≤ a8 then
      if a3 = 0 then
        some (a6, m)
      else
        some (a7, m)
    else
      nm (a8 / (8 : Int32)) fun x39 =>
      nm (a8 - a8 / (8 : Int32) * (8 : Int32)) fun x40 =>
      if ((a4 >>> (x39 &&& 31)) &&& (1 : Int32)) = (1 : Int32) then
        if ((a5 >>> (x40 &&& 31)) &&& (1 : Int32)) = (1 : Int32) then
          bnd (F_X6_pays m x39 a2) fun v43 m44 =>
          bnd (F_X6_pays m44 x40 a1) fun v47 m48 =>
          bnd (F_X6_bothBehind m48 a1 a2) fun v51 m52 =>
          bnd (F_X6_laysBack m52) fun v55 m56 =>
          if v51 ≤ a7 then
            F_X6_change_158 (F_X6_change_68 n) m56 a1 a2 a3 a4 a5 a6 a7 a8
          else
            nm (((10 : Int32) * x39) + x40) fun x60 =>
            F_X6_change_158 (F_X6_change_68 n) m56 a1 a2 a3 a4 a5 x60 v51 a8
        else
          F_X6_change_158 (F_X6_change_68 n) m a1 a2 a3 a4 a5 a6 a7 a8
      else
        F_X6_change_158 (F_X6_change_68 n) m a1 a2 a3 a4 a5 a6 a7 a8
noncomputable def F_X6_change (m : Mem) (a1 : Int32) (a2 : Int32) (a3 : Int32) : Option (Int32 × Mem) :=
  bnd (F_X6_isOwner m a1) fun v1 m2 =>
  if (bz v1) = 0 then
    F_X6_change_29 m2
  else
    bnd (F_X6_isOwner m2 a2) fun v6 m7 =>
    if (bz v6) = 0 then
      F_X6_change_29 m7
    else
      if a1 = a2 then
        F_X6_change_29 m7
      else
        bnd (F_X6_in m7 a3.toInt64 (0 : Int64) (1 : Int64)) fun v12 m13 =>
        if (bz v12) = 0 then
          F_X6_change_29 m13
        else
          bnd (F_X6_purseOf m13 a1) fun v17 m18 =>
          bnd (F_X6_purseOf m18 a2) fun v21 m22 =>
          bnd (F_X6_laysAside m22) fun v25 m26 =>
          bnd (F_X6_bothBehind m26 a1 a2) fun v29 m30 =>
          bnd (F_X6_laysBack m30) fun v33 m34 =>
          F_X6_change_68 FU m34 a1 a2 a3 v17 v21 (-1 : Int32) v29 (0 : Int32)
noncomputable def F_X6_firstOther_51 (K9 : Mem → Int32 → Int32 → Int32 → Int32 → Option (Int32 × Mem)) (m : Mem) (a1 : Int32) (a2 : Int32) (a4 : Int32) (s0 : Int32) : Option (Int32 × Mem) :=
  bnd (F_X6_passes m) fun v14 m15 =>
  K9 m15 a1 a2 s0 (a4 + (1 : Int32))
noncomputable def F_X6_firstOther_63 (m : Mem) (a3 : Int32) : Option (Int32 × Mem) :=
  bnd (F_X6_laysBack m) fun v18 m19 =>
  some (a3, m19)
noncomputable def F_X6_firstOther_9 : Nat → Mem → Int32 → Int32 → Int32 → Int32 → Option (Int32 × Mem)
  | 0 => fun m a1 a2 a3 a4 => none
  | n + 1 => fun m a1 a2 a3 a4 =>
    gIf (vp_in a1 4) <|
    if (mD m 52 a1.toNatClampNeg) ≤ a4 then
      F_X6_firstOther_63 m a3
    else
      if a3 = (-1 : Int32) then
        bnd (F_X6_worthOf m a2) fun v8 m9 =>
        gIf (vp_in (((40 : Int32) * a1) + a4) 160) <|
        if v8 = (mD m9 53 (((40 : Int32) * a1) + a4).toNatClampNeg) then
          F_X6_firstOther_51 (F_X6_firstOther_9 n) m9 a1 a2 a4 (-1 : Int32)
        else
          F_X6_firstOther_51 (F_X6_firstOther_9 n) m9 a1 a2 a4 a4
      else
        F_X6_firstOther_63 m a3
noncomputable def F_X6_firstOther (m : Mem) (a1 : Int32) (a2 : Int32) : Option (Int32 × Mem) :=
  bnd (F_X6_laysAside m) fun v1 m2 =>
  F_X6_firstOther_9 FU m2 a1 a2 (-1 : Int32) (0 : Int32)
