noncomputable def F_L_law_1101 (L0 : Nat) (xs : Nat → Int32) (K18 : Mem → Int32 → Option (Bool × Mem)) (m : Mem) (a3 : Int32) : Option (Bool × Mem) :=
  K18 m (a3 + (6 : Int32))
noncomputable def F_L_law_18 (L0 : Nat) (xs : Nat → Int32) : Nat → Mem → Int32 → Option (Bool × Mem)
  | 0 => fun m a3 => none
  | n + 1 => fun m a3 =>
    if ((Int32.ofNat L0) - (6 : Int32)) < a3 then
      some (true, m)
    else
      gIf (vp_in a3 L0) <|
      nm ((xs a3.toNatClampNeg) &&& (31 : Int32)) fun x15 =>
      if x15 = (0 : Int32) then
        gIf (vp_in (a3 + (1 : Int32)) L0) <|
        gIf (vp_in (a3 + (2 : Int32)) L0) <|
        gIf (vp_in (a3 + (3 : Int32)) L0) <|
        bnd (F_X5_set m (xs (a3 + (1 : Int32)).toNatClampNeg) (xs (a3 + (2 : Int32)).toNatClampNeg) (xs (a3 + (3 : Int32)).toNatClampNeg)) fun v20 m21 =>
        gIf (vp_in (a3 + (1 : Int32)) L0) <|
        gIf (vp_in (a3 + (2 : Int32)) L0) <|
        gIf (vp_in (a3 + (3 : Int32)) L0) <|
        bnd (F_X6_set m21 (xs (a3 + (1 : Int32)).toNatClampNeg) (xs (a3 + (2 : Int32)).toNatClampNeg) (xs (a3 + (3 : Int32)).toNatClampNeg)) fun v27 m28 =>
        if v20 = v27 then
          F_L_law_1101 L0 xs (F_L_law_18 L0 xs n) m28 a3
        else
          some (false, m28)
      else
        if x15 = (1 : Int32) then
          gIf (vp_in (a3 + (1 : Int32)) L0) <|
          gIf (vp_in (a3 + (2 : Int32)) L0) <|
          gIf (vp_in (a3 + (3 : Int32)) L0) <|
          bnd (F_X5_coin m (xs (a3 + (1 : Int32)).toNatClampNeg) (xs (a3 + (2 : Int32)).toNatClampNeg) (xs (a3 + (3 : Int32)).toNatClampNeg)) fun v36 m37 =>
          gIf (vp_in (a3 + (1 : Int32)) L0) <|
          gIf (vp_in (a3 + (2 : Int32)) L0) <|
          gIf (vp_in (a3 + (3 : Int32)) L0) <|
          bnd (F_X6_coin m37 (xs (a3 + (1 : Int32)).toNatClampNeg) (xs (a3 + (2 : Int32)).toNatClampNeg) (xs (a3 + (3 : Int32)).toNatClampNeg)) fun v43 m44 =>
          if v36 = v43 then
            F_L_law_1101 L0 xs (F_L_law_18 L0 xs n) m44 a3
          else
            some (false, m44)
        else
          if x15 = (2 : Int32) then
            gIf (vp_in (a3 + (1 : Int32)) L0) <|
            gIf (vp_in (a3 + (2 : Int32)) L0) <|
            bnd (F_X5_told m (xs (a3 + (1 : Int32)).toNatClampNeg) (xs (a3 + (2 : Int32)).toNatClampNeg)) fun v51 m52 =>
            gIf (vp_in (a3 + (1 : Int32)) L0) <|
            gIf (vp_in (a3 + (2 : Int32)) L0) <|
            bnd (F_X6_told m52 (xs (a3 + (1 : Int32)).toNatClampNeg) (xs (a3 + (2 : Int32)).toNatClampNeg)) fun v57 m58 =>
            if v51 = v57 then
              F_L_law_1101 L0 xs (F_L_law_18 L0 xs n) m58 a3
            else
              some (false, m58)
          else
            if x15 = (3 : Int32) then
              gIf (vp_in (a3 + (1 : Int32)) L0) <|
              bnd (F_X5_feed m (xs (a3 + (1 : Int32)).toNatClampNeg)) fun v64 m65 =>
              gIf (vp_in (a3 + (1 : Int32)) L0) <|
              bnd (F_X6_feed m65 (xs (a3 + (1 : Int32)).toNatClampNeg)) fun v69 m70 =>
              if v64 = v69 then
                F_L_law_1101 L0 xs (F_L_law_18 L0 xs n) m70 a3
              else
                some (false, m70)
            else
              if x15 = (4 : Int32) then
                bnd (F_X5_text m 0) fun v75 m76 =>
                gIf (ShX m76 ∧ ShM m76) <|
                bnd (F_X6_text m76) fun v80 m81 =>
                if v75 = v80 then
                  F_L_law_1101 L0 xs (F_L_law_18 L0 xs n) m81 a3
                else
                  some (false, m81)
              else
                if x15 = (5 : Int32) then
                  gIf (vp_in (a3 + (1 : Int32)) L0) <|
                  bnd (F_X5_force m (xs (a3 + (1 : Int32)).toNatClampNeg)) fun v87 m88 =>
                  gIf (vp_in (a3 + (1 : Int32)) L0) <|
                  bnd (F_X6_force m88 (xs (a3 + (1 : Int32)).toNatClampNeg)) fun v92 m93 =>
                  if v87 = v92 then
                    F_L_law_1101 L0 xs (F_L_law_18 L0 xs n) m93 a3
                  else
                    some (false, m93)
                else
                  if x15 = (6 : Int32) then
                    bnd (F_X5_day m) fun v98 m99 =>
                    bnd (F_X6_day m99) fun v102 m103 =>
                    if v98 = v102 then
                      F_L_law_1101 L0 xs (F_L_law_18 L0 xs n) m103 a3
                    else
                      some (false, m103)
                  else
                    if x15 = (7 : Int32) then
                      gIf (vp_in (a3 + (1 : Int32)) L0) <|
                      gIf (vp_in (a3 + (2 : Int32)) L0) <|
                      bnd (F_X5_pay m (xs (a3 + (1 : Int32)).toNatClampNeg) (xs (a3 + (2 : Int32)).toNatClampNeg)) fun v110 m111 =>
                      gIf (vp_in (a3 + (1 : Int32)) L0) <|
                      gIf (vp_in (a3 + (2 : Int32)) L0) <|
                      bnd (F_X6_pay m111 (xs (a3 + (1 : Int32)).toNatClampNeg) (xs (a3 + (2 : Int32)).toNatClampNeg)) fun v116 m117 =>
                      if v110 = v116 then
                        F_L_law_1101 L0 xs (F_L_law_18 L0 xs n) m117 a3
                      else
                        some (false, m117)
                    else
                      if x15 = (8 : Int32) then
                        gIf (vp_in (a3 + (1 : Int32)) L0) <|
                        gIf (vp_in (a3 + (2 : Int32)) L0) <|
                        gIf (vp_in (a3 + (3 : Int32)) L0) <|
                        bnd (F_X5_buy m (xs (a3 + (1 : Int32)).toNatClampNeg) (xs (a3 + (2 : Int32)).toNatClampNeg) (xs (a3 + (3 : Int32)).toNatClampNeg)) fun v125 m126 =>
                        gIf (vp_in (a3 + (1 : Int32)) L0) <|
                        gIf (vp_in (a3 + (2 : Int32)) L0) <|
                        gIf (vp_in (a3 + (3 : Int32)) L0) <|
                        bnd (F_X6_buy m126 (xs (a3 + (1 : Int32)).toNatClampNeg) (xs (a3 + (2 : Int32)).toNatClampNeg) (xs (a3 + (3 : Int32)).toNatClampNeg)) fun v132 m133 =>
                        if v125 = v132 then
                          F_L_law_1101 L0 xs (F_L_law_18 L0 xs n) m133 a3
                        else
                          some (false, m133)
                      else
                        if x15 = (9 : Int32) then
                          gIf (vp_in (a3 + (1 : Int32)) L0) <|
                          gIf (vp_in (a3 + (2 : Int32)) L0) <|
                          bnd (F_X5_has m (xs (a3 + (1 : Int32)).toNatClampNeg) (xs (a3 + (2 : Int32)).toNatClampNeg)) fun v140 m141 =>
                          gIf (vp_in (a3 + (1 : Int32)) L0) <|
                          gIf (vp_in (a3 + (2 : Int32)) L0) <|
                          bnd (F_X6_has m141 (xs (a3 + (1 : Int32)).toNatClampNeg) (xs (a3 + (2 : Int32)).toNatClampNeg)) fun v146 m147 =>
                          if v140 = v146 then
                            F_L_law_1101 L0 xs (F_L_law_18 L0 xs n) m147 a3
                          else
                            some (false, m147)
                        else
                          if x15 = (10 : Int32) then
                            gIf (vp_in (a3 + (1 : Int32)) L0) <|
                            gIf (vp_in (a3 + (2 : Int32)) L0) <|
                            gIf (vp_in (a3 + (3 : Int32)) L0) <|
                            bnd (F_X5_run m (xs (a3 + (1 : Int32)).toNatClampNeg) (xs (a3 + (2 : Int32)).toNatClampNeg) (xs (a3 + (3 : Int32)).toNatClampNeg)) fun v155 m156 =>
                            gIf (vp_in (a3 + (1 : Int32)) L0) <|
                            gIf (vp_in (a3 + (2 : Int32)) L0) <|
                            gIf (vp_in (a3 + (3 : Int32)) L0) <|
                            bnd (F_X6_run m156 (xs (a3 + (1 : Int32)).toNatClampNeg) (xs (a3 + (2 : Int32)).toNatClampNeg) (xs (a3 + (3 : Int32)).toNatClampNeg)) fun v162 m163 =>
                            if v155 = v162 then
                              F_L_law_1101 L0 xs (F_L_law_18 L0 xs n) m163 a3
                            else
                              some (false, m163)
                          else
                            if x15 = (11 : Int32) then
                              gIf (vp_in (a3 + (1 : Int32)) L0) <|
                              gIf (vp_in (a3 + (2 : Int32)) L0) <|
                              gIf (vp_in (a3 + (3 : Int32)) L0) <|
                              bnd (F_X5_exact m (xs (a3 + (1 : Int32)).toNatClampNeg) (xs (a3 + (2 : Int32)).toNatClampNeg) (xs (a3 + (3 : Int32)).toNatClampNeg)) fun v171 m172 =>
                              gIf (vp_in (a3 + (1 : Int32)) L0) <|
                              gIf (vp_in (a3 + (2 : Int32)) L0) <|
                              gIf (vp_in (a3 + (3 : Int32)) L0) <|
                              bnd (F_X6_exact m172 (xs (a3 + (1 : Int32)).toNatClampNeg) (xs (a3 + (2 : Int32)).toNatClampNeg) (xs (a3 + (3 : Int32)).toNatClampNeg)) fun v178 m179 =>
                              if v171 = v178 then
                                F_L_law_1101 L0 xs (F_L_law_18 L0 xs n) m179 a3
                              else
                                some (false, m179)
                            else
                              if x15 = (12 : Int32) then
                                gIf (vp_in (a3 + (1 : Int32)) L0) <|
                                gIf (vp_in (a3 + (2 : Int32)) L0) <|
                                gIf (vp_in (a3 + (3 : Int32)) L0) <|
                                gIf (vp_in (a3 + (4 : Int32)) L0) <|
                                bnd (F_X5_wise m (xs (a3 + (1 : Int32)).toNatClampNeg) (xs (a3 + (2 : Int32)).toNatClampNeg) (xs (a3 + (3 : Int32)).toNatClampNeg) (xs (a3 + (4 : Int32)).toNatClampNeg)) fun v188 m189 =>
                                gIf (vp_in (a3 + (1 : Int32)) L0) <|
                                gIf (vp_in (a3 + (2 : Int32)) L0) <|
                                gIf (vp_in (a3 + (3 : Int32)) L0) <|
                                gIf (vp_in (a3 + (4 : Int32)) L0) <|
                                bnd (F_X6_wise m189 (xs (a3 + (1 : Int32)).toNatClampNeg) (xs (a3 + (2 : Int32)).toNatClampNeg) (xs (a3 + (3 : Int32)).toNatClampNeg) (xs (a3 + (4 : Int32)).toNatClampNeg)) fun v196 m197 =>
                                if v188 = v196 then
                                  F_L_law_1101 L0 xs (F_L_law_18 L0 xs n) m197 a3
                                else
                                  some (false, m197)
                              else
                                if x15 = (13 : Int32) then
                                  gIf (vp_in (a3 + (1 : Int32)) L0) <|
                                  gIf (vp_in (a3 + (2 : Int32)) L0) <|
                                  gIf (vp_in (a3 + (3 : Int32)) L0) <|
                                  bnd (F_X5_change m (xs (a3 + (1 : Int32)).toNatClampNeg) (xs (a3 + (2 : Int32)).toNatClampNeg) (xs (a3 + (3 : Int32)).toNatClampNeg)) fun v205 m206 =>
                                  gIf (vp_in (a3 + (1 : Int32)) L0) <|
                                  gIf (vp_in (a3 + (2 : Int32)) L0) <|
                                  gIf (vp_in (a3 + (3 : Int32)) L0) <|
                                  bnd (F_X6_change m206 (xs (a3 + (1 : Int32)).toNatClampNeg) (xs (a3 + (2 : Int32)).toNatClampNeg) (xs (a3 + (3 : Int32)).toNatClampNeg)) fun v212 m213 =>
                                  if v205 = v212 then
                                    F_L_law_1101 L0 xs (F_L_law_18 L0 xs n) m213 a3
                                  else
                                    some (false, m213)
                                else
                                  if x15 = (14 : Int32) then
                                    gIf (vp_in (a3 + (1 : Int32)) L0) <|
                                    gIf (vp_in (a3 + (2 : Int32)) L0) <|
                                    gIf (vp_in (a3 + (3 : Int32)) L0) <|
                                    bnd (F_X5_tells m (xs (a3 + (1 : Int32)).toNatClampNeg) (xs (a3 + (2 : Int32)).toNatClampNeg) (xs (a3 + (3 : Int32)).toNatClampNeg)) fun v221 m222 =>
                                    gIf (vp_in (a3 + (1 : Int32)) L0) <|
                                    gIf (vp_in (a3 + (2 : Int32)) L0) <|
                                    gIf (vp_in (a3 + (3 : Int32)) L0) <|
                                    bnd (F_X6_tells m222 (xs (a3 + (1 : Int32)).toNatClampNeg) (xs (a3 + (2 : Int32)).toNatClampNeg) (xs (a3 + (3 : Int32)).toNatClampNeg)) fun v228 m229 =>
                                    if v221 = v228 then
                                      F_L_law_1101 L0 xs (F_L_law_18 L0 xs n) m229 a3
                                    else
                                      some (false, m229)
                                  else
                                    if x15 = (15 : Int32) then
                                      gIf (vp_in (a3 + (1 : Int32)) L0) <|
                                      gIf (vp_in (a3 + (2 : Int32)) L0) <|
                                      gIf (vp_in (a3 + (3 : Int32)) L0) <|
                                      bnd (F_X5_film m (xs (a3 + (1 : Int32)).toNatClampNeg) (xs (a3 + (2 : Int32)).toNatClampNeg) (xs (a3 + (3 : Int32)).toNatClampNeg)) fun v237 m238 =>
                                      gIf (vp_in (a3 + (1 : Int32)) L0) <|
                                      gIf (vp_in (a3 + (2 : Int32)) L0) <|
                                      gIf (vp_in (a3 + (3 : Int32)) L0) <|
                                      bnd (F_X6_film m238 (xs (a3 + (1 : Int32)).toNatClampNeg) (xs (a3 + (2 : Int32)).toNatClampNeg) (xs (a3 + (3 : Int32)).toNatClampNeg)) fun v244 m245 =>
                                      if v237 = v244 then
                                        F_L_law_1101 L0 xs (F_L_law_18 L0 xs n) m245 a3
                                      else
                                        some (false, m245)
                                    else
                                      if x15 = (16 : Int32) then
                                        gIf (vp_in (a3 + (1 : Int32)) L0) <|
                                        gIf (vp_in (a3 + (2 : Int32)) L0) <|
                                        bnd (F_X5_drawn m (xs (a3 + (1 : Int32)).toNatClampNeg) (xs (a3 + (2 : Int32)).toNatClampNeg)) fun v252 m253 =>
                                        gIf (vp_in (a3 + (1 : Int32)) L0) <|
                                        gIf (vp_in (a3 + (2 : Int32)) L0) <|
                                        bnd (F_X6_drawn m253 (xs (a3 + (1 : Int32)).toNatClampNeg) (xs (a3 + (2 : Int32)).toNatClampNeg)) fun v258 m259 =>
                                        if v252 = v258 then
                                          F_L_law_1101 L0 xs (F_L_law_18 L0 xs n) m259 a3
                                        else
                                          some (false, m259)
                                      else
                                        if x15 = (17 : Int32) then
                                          gIf (vp_in (a3 + (1 : Int32)) L0) <|
                                          gIf (vp_in (a3 + (2 : Int32)) L0) <|
                                          gIf (vp_in (a3 + (3 : Int32)) L0) <|
                                          gIf (vp_in (a3 + (4 : Int32)) L0) <|
                                          gIf (vp_in (a3 + (5 : Int32)) L0) <|
                                          bnd (F_X5_chance m (xs (a3 + (1 : Int32)).toNatClampNeg) (xs (a3 + (2 : Int32)).toNatClampNeg) (xs (a3 + (3 : Int32)).toNatClampNeg) (xs (a3 + (4 : Int32)).toNatClampNeg) (xs (a3 + (5 : Int32)).toNatClampNeg)) fun v269 m270 =>
                                          gIf (vp_in (a3 + (1 : Int32)) L0) <|
                                          gIf (vp_in (a3 + (2 : Int32)) L0) <|
                                          gIf (vp_in (a3 + (3 : Int32)) L0) <|
                                          gIf (vp_in (a3 + (4 : Int32)) L0) <|
                                          gIf (vp_in (a3 + (5 : Int32)) L0) <|
                                          bnd (F_X6_chance m270 (xs (a3 + (1 : Int32)).toNatClampNeg) (xs (a3 + (2 : Int32)).toNatClampNeg) (xs (a3 + (3 : Int32)).toNatClampNeg) (xs (a3 + (4 : Int32)).toNatClampNeg) (xs (a3 + (5 : Int32)).toNatClampNeg)) fun v278 m279 =>
                                          if (lg_cmp v269 v278) = 0 then
                                            F_L_law_1101 L0 xs (F_L_law_18 L0 xs n) m279 a3
                                          else
                                            some (false, m279)
                                        else
                                          if x15 = (18 : Int32) then
                                            bnd (F_X5_image m) fun v284 m285 =>
                                            bnd (F_X6_image m285) fun v288 m289 =>
                                            if v284 = v288 then
                                              F_L_law_1101 L0 xs (F_L_law_18 L0 xs n) m289 a3
                                            else
                                              some (false, m289)
                                          else
                                            if x15 = (19 : Int32) then
                                              bnd (F_X5_back m) fun v294 m295 =>
                                              bnd (F_X6_back m295) fun v298 m299 =>
                                              if v294 = v298 then
                                                F_L_law_1101 L0 xs (F_L_law_18 L0 xs n) m299 a3
                                              else
                                                some (false, m299)
                                            else
                                              if x15 = (20 : Int32) then
                                                gIf (vp_in (a3 + (1 : Int32)) L0) <|
                                                bnd (F_X5_count m (xs (a3 + (1 : Int32)).toNatClampNeg)) fun v305 m306 =>
                                                gIf (vp_in (a3 + (1 : Int32)) L0) <|
                                                bnd (F_X6_count m306 (xs (a3 + (1 : Int32)).toNatClampNeg)) fun v310 m311 =>
                                                if v305 = v310 then
                                                  F_L_law_1101 L0 xs (F_L_law_18 L0 xs n) m311 a3
                                                else
                                                  some (false, m311)
                                              else
                                                if x15 = (21 : Int32) then
                                                  gIf (vp_in (a3 + (1 : Int32)) L0) <|
                                                  gIf (vp_in (a3 + (2 : Int32)) L0) <|
                                                  gIf (vp_in (a3 + (3 : Int32)) L0) <|
                                                  bnd (F_X5_sheet m (xs (a3 + (1 : Int32)).toNatClampNeg) (xs (a3 + (2 : Int32)).toNatClampNeg) (xs (a3 + (3 : Int32)).toNatClampNeg)) fun v319 m320 =>
                                                  gIf (vp_in (a3 + (1 : Int32)) L0) <|
                                                  gIf (vp_in (a3 + (2 : Int32)) L0) <|
                                                  gIf (vp_in (a3 + (3 : Int32)) L0) <|
                                                  bnd (F_X6_sheet m320 (xs (a3 + (1 : Int32)).toNatClampNeg) (xs (a3 + (2 : Int32)).toNatClampNeg) (xs (a3 + (3 : Int32)).toNatClampNeg)) fun v326 m327 =>
                                                  if v319 = v326 then
                                                    F_L_law_1101 L0 xs (F_L_law_18 L0 xs n) m327 a3
                                                  else
                                                    some (false, m327)
                                                else
                                                  if x15 = (22 : Int32) then
                                                    gIf (vp_in (a3 + (1 : Int32)) L0) <|
                                                    gIf (vp_in (a3 + (2 : Int32)) L0) <|
                                                    gIf (vp_in (a3 + (3 : Int32)) L0) <|
                                                    bnd (F_X5_cell m (xs (a3 + (1 : Int32)).toNatClampNeg) (xs (a3 + (2 : Int32)).toNatClampNeg) (xs (a3 + (3 : Int32)).toNatClampNeg)) fun v335 m336 =>
                                                    gIf (vp_in (a3 + (1 : Int32)) L0) <|
                                                    gIf (vp_in (a3 + (2 : Int32)) L0) <|
                                                    gIf (vp_in (a3 + (3 : Int32)) L0) <|
                                                    bnd (F_X6_cell m336 (xs (a3 + (1 : Int32)).toNatClampNeg) (xs (a3 + (2 : Int32)).toNatClampNeg) (xs (a3 + (3 : Int32)).toNatClampNeg)) fun v342 m343 =>
                                                    if v335 = v342 then
                                                      F_L_law_1101 L0 xs (F_L_law_18 L0 xs n) m343 a3
                                                    else
                                                      some (false, m343)
                                                  else
                                                    if x15 = (23 : Int32) then
                                                      gIf (vp_in (a3 + (1 : Int32)) L0) <|
                                                      gIf (vp_in (a3 + (2 : Int32)) L0) <|
                                                      gIf (vp_in (a3 + (3 : Int32)) L0) <|
                                                      gIf (vp_in (a3 + (4 : Int32)) L0) <|
                                                      gIf (vp_in (a3 + (5 : Int32)) L0) <|
                                                      bnd (F_X5_copy m (xs (a3 + (1 : Int32)).toNatClampNeg) (xs (a3 + (2 : Int32)).toNatClampNeg) (xs (a3 + (3 : Int32)).toNatClampNeg) (xs (a3 + (4 : Int32)).toNatClampNeg) (xs (a3 + (5 : Int32)).toNatClampNeg)) fun v353 m354 =>
                                                      gIf (vp_in (a3 + (1 : Int32)) L0) <|
                                                      gIf (vp_in (a3 + (2 : Int32)) L0) <|
                                                      gIf (vp_in (a3 + (3 : Int32)) L0) <|
                                                      gIf (vp_in (a3 + (4 : Int32)) L0) <|
                                                      gIf (vp_in (a3 + (5 : Int32)) L0) <|
                                                      bnd (F_X6_copy m354 (xs (a3 + (1 : Int32)).toNatClampNeg) (xs (a3 + (2 : Int32)).toNatClampNeg) (xs (a3 + (3 : Int32)).toNatClampNeg) (xs (a3 + (4 : Int32)).toNatClampNeg) (xs (a3 + (5 : Int32)).toNatClampNeg)) fun v362 m363 =>
                                                      if v353 = v362 then
                                                        F_L_law_1101 L0 xs (F_L_law_18 L0 xs n) m363 a3
                                                      else
                                                        some (false, m363)
                                                    else
                                                      if x15 = (24 : Int32) then
                                                        gIf (vp_in (a3 + (1 : Int32)) L0) <|
                                                        gIf (vp_in (a3 + (2 : Int32)) L0) <|
                                                        gIf (vp_in (a3 + (3 : Int32)) L0) <|
                                                        gIf (vp_in (a3 + (4 : Int32)) L0) <|
                                                        bnd (F_X5_coins m (xs (a3 + (1 : Int32)).toNatClampNeg) (xs (a3 + (2 : Int32)).toNatClampNeg) (xs (a3 + (3 : Int32)).toNatClampNeg) (xs (a3 + (4 : Int32)).toNatClampNeg)) fun v372 m373 =>
                                                        gIf (vp_in (a3 + (1 : Int32)) L0) <|
                                                        gIf (vp_in (a3 + (2 : Int32)) L0) <|
                                                        gIf (vp_in (a3 + (3 : Int32)) L0) <|
                                                        gIf (vp_in (a3 + (4 : Int32)) L0) <|
                                                        bnd (F_X6_coins m373 (xs (a3 + (1 : Int32)).toNatClampNeg) (xs (a3 + (2 : Int32)).toNatClampNeg) (xs (a3 + (3 : Int32)).toNatClampNeg) (xs (a3 + (4 : Int32)).toNatClampNeg)) fun v380 m381 =>
                                                        if v372 = v380 then
                                                          F_L_law_1101 L0 xs (F_L_law_18 L0 xs n) m381 a3
                                                        else
                                                          some (false, m381)
                                                      else
                                                        if x15 = (25 : Int32) then
                                                          gIf (vp_in (a3 + (1 : Int32)) L0) <|
                                                          gIf (vp_in (a3 + (2 : Int32)) L0) <|
                                                          bnd (F_X5_taken m (xs (a3 + (1 : Int32)).toNatClampNeg) (xs (a3 + (2 : Int32)).toNatClampNeg)) fun v388 m389 =>
                                                          gIf (vp_in (a3 + (1 : Int32)) L0) <|
                                                          gIf (vp_in (a3 + (2 : Int32)) L0) <|
                                                          bnd (F_X6_taken m389 (xs (a3 + (1 : Int32)).toNatClampNeg) (xs (a3 + (2 : Int32)).toNatClampNeg)) fun v394 m395 =>
                                                          if v388 = v394 then
                                                            F_L_law_1101 L0 xs (F_L_law_18 L0 xs n) m395 a3
                                                          else
                                                            some (false, m395)
                                                        else
                                                          F_L_law_1101 L0 xs (F_L_law_18 L0 xs n) m a3
noncomputable def F_L_law (L0 : Nat) (xs : Nat → Int32) (m : Mem) : Option (Bool × Mem) :=
  nm (mNew m 5 0 11) fun m1 => nm (mN m) fun q2 =>
  bnd (F_X5_init m1 q2) fun v3 m4 =>
  nm (mNew m4 6 0 38) fun m7 => nm (mN m4) fun q8 =>
  bnd (F_X6_init m7 q8) fun v9 m10 =>
  gIf (q2 = 0 ∧ q8 = 40 ∧ ShX m10 ∧ ShM m10) <|
  F_L_law_18 L0 xs FU m10 (0 : Int32)
