theorem ib_10 : (Int8.ofInt (10)).toInt32 = (10 : Int32) := by decide
theorem ib_100 : (Int8.ofInt (100)).toInt32 = (100 : Int32) := by decide
theorem ib_101 : (Int8.ofInt (101)).toInt32 = (101 : Int32) := by decide
theorem ib_102 : (Int8.ofInt (102)).toInt32 = (102 : Int32) := by decide
theorem ib_103 : (Int8.ofInt (103)).toInt32 = (103 : Int32) := by decide
theorem ib_105 : (Int8.ofInt (105)).toInt32 = (105 : Int32) := by decide
theorem ib_108 : (Int8.ofInt (108)).toInt32 = (108 : Int32) := by decide
theorem ib_109 : (Int8.ofInt (109)).toInt32 = (109 : Int32) := by decide
theorem ib_110 : (Int8.ofInt (110)).toInt32 = (110 : Int32) := by decide
theorem ib_111 : (Int8.ofInt (111)).toInt32 = (111 : Int32) := by decide
theorem ib_112 : (Int8.ofInt (112)).toInt32 = (112 : Int32) := by decide
theorem ib_114 : (Int8.ofInt (114)).toInt32 = (114 : Int32) := by decide
theorem ib_115 : (Int8.ofInt (115)).toInt32 = (115 : Int32) := by decide
theorem ib_116 : (Int8.ofInt (116)).toInt32 = (116 : Int32) := by decide
theorem ib_117 : (Int8.ofInt (117)).toInt32 = (117 : Int32) := by decide
theorem ib_118 : (Int8.ofInt (118)).toInt32 = (118 : Int32) := by decide
theorem ib_119 : (Int8.ofInt (119)).toInt32 = (119 : Int32) := by decide
theorem ib_121 : (Int8.ofInt (121)).toInt32 = (121 : Int32) := by decide
theorem ib_122 : (Int8.ofInt (122)).toInt32 = (122 : Int32) := by decide
theorem ib_15 : (Int8.ofInt (15)).toInt32 = (15 : Int32) := by decide
theorem ib_16 : (Int8.ofInt (16)).toInt32 = (16 : Int32) := by decide
theorem ib_20 : (Int8.ofInt (20)).toInt32 = (20 : Int32) := by decide
theorem ib_24 : (Int8.ofInt (24)).toInt32 = (24 : Int32) := by decide
theorem ib_31 : (Int8.ofInt (31)).toInt32 = (31 : Int32) := by decide
theorem ib_32 : (Int8.ofInt (32)).toInt32 = (32 : Int32) := by decide
theorem ib_40 : (Int8.ofInt (40)).toInt32 = (40 : Int32) := by decide
theorem ib_41 : (Int8.ofInt (41)).toInt32 = (41 : Int32) := by decide
theorem ib_42 : (Int8.ofInt (42)).toInt32 = (42 : Int32) := by decide
theorem ib_43 : (Int8.ofInt (43)).toInt32 = (43 : Int32) := by decide
theorem ib_45 : (Int8.ofInt (45)).toInt32 = (45 : Int32) := by decide
theorem ib_48 : (Int8.ofInt (48)).toInt32 = (48 : Int32) := by decide
theorem ib_50 : (Int8.ofInt (50)).toInt32 = (50 : Int32) := by decide
theorem ib_53 : (Int8.ofInt (53)).toInt32 = (53 : Int32) := by decide
theorem ib_55 : (Int8.ofInt (55)).toInt32 = (55 : Int32) := by decide
theorem ib_57 : (Int8.ofInt (57)).toInt32 = (57 : Int32) := by decide
theorem ib_59 : (Int8.ofInt (59)).toInt32 = (59 : Int32) := by decide
theorem ib_6 : (Int8.ofInt (6)).toInt32 = (6 : Int32) := by decide
theorem ib_60 : (Int8.ofInt (60)).toInt32 = (60 : Int32) := by decide
theorem ib_61 : (Int8.ofInt (61)).toInt32 = (61 : Int32) := by decide
theorem ib_63 : (Int8.ofInt (63)).toInt32 = (63 : Int32) := by decide
theorem ib_64 : (Int8.ofInt (64)).toInt32 = (64 : Int32) := by decide
theorem ib_7 : (Int8.ofInt (7)).toInt32 = (7 : Int32) := by decide
theorem ib_8 : (Int8.ofInt (8)).toInt32 = (8 : Int32) := by decide
theorem ib_9 : (Int8.ofInt (9)).toInt32 = (9 : Int32) := by decide
theorem ib_97 : (Int8.ofInt (97)).toInt32 = (97 : Int32) := by decide
theorem ib_98 : (Int8.ofInt (98)).toInt32 = (98 : Int32) := by decide
theorem ib_99 : (Int8.ofInt (99)).toInt32 = (99 : Int32) := by decide
theorem ib_n100 : (Int8.ofInt (-100)).toInt32 = (-100 : Int32) := by decide
theorem ib_n11 : (Int8.ofInt (-11)).toInt32 = (-11 : Int32) := by decide
theorem ib_n12 : (Int8.ofInt (-12)).toInt32 = (-12 : Int32) := by decide
theorem ib_n13 : (Int8.ofInt (-13)).toInt32 = (-13 : Int32) := by decide
theorem ib_n14 : (Int8.ofInt (-14)).toInt32 = (-14 : Int32) := by decide
theorem ib_n15 : (Int8.ofInt (-15)).toInt32 = (-15 : Int32) := by decide
theorem ib_n16 : (Int8.ofInt (-16)).toInt32 = (-16 : Int32) := by decide
theorem ib_n17 : (Int8.ofInt (-17)).toInt32 = (-17 : Int32) := by decide
theorem ib_n18 : (Int8.ofInt (-18)).toInt32 = (-18 : Int32) := by decide
theorem ib_n19 : (Int8.ofInt (-19)).toInt32 = (-19 : Int32) := by decide
theorem ib_n2 : (Int8.ofInt (-2)).toInt32 = (-2 : Int32) := by decide
theorem ib_n20 : (Int8.ofInt (-20)).toInt32 = (-20 : Int32) := by decide
theorem ib_n21 : (Int8.ofInt (-21)).toInt32 = (-21 : Int32) := by decide
theorem ib_n22 : (Int8.ofInt (-22)).toInt32 = (-22 : Int32) := by decide
theorem ib_n23 : (Int8.ofInt (-23)).toInt32 = (-23 : Int32) := by decide
theorem ib_n3 : (Int8.ofInt (-3)).toInt32 = (-3 : Int32) := by decide
theorem ib_n4 : (Int8.ofInt (-4)).toInt32 = (-4 : Int32) := by decide
theorem ib_n6 : (Int8.ofInt (-6)).toInt32 = (-6 : Int32) := by decide
theorem ib_n7 : (Int8.ofInt (-7)).toInt32 = (-7 : Int32) := by decide
theorem ib_n8 : (Int8.ofInt (-8)).toInt32 = (-8 : Int32) := by decide
theorem ib_n9 : (Int8.ofInt (-9)).toInt32 = (-9 : Int32) := by decide
theorem ib_n99 : (Int8.ofInt (-99)).toInt32 = (-99 : Int32) := by decide
theorem ic_0 : Int32.ofInt (0) = (0 : Int32) := by decide
theorem ic_1 : Int32.ofInt (1) = (1 : Int32) := by decide
theorem ic_2 : Int32.ofInt (2) = (2 : Int32) := by decide
theorem ic_3 : Int32.ofInt (3) = (3 : Int32) := by decide
theorem ic_4 : Int32.ofInt (4) = (4 : Int32) := by decide
theorem ic_5 : Int32.ofInt (5) = (5 : Int32) := by decide
theorem ic_n1 : Int32.ofInt (-1) = (-1 : Int32) := by decide
theorem is_1000 : (Int16.ofInt (1000)).toInt32 = (1000 : Int32) := by decide
theorem is_12345 : (Int16.ofInt (12345)).toInt32 = (12345 : Int32) := by decide
theorem is_160 : (Int16.ofInt (160)).toInt32 = (160 : Int32) := by decide
theorem is_255 : (Int16.ofInt (255)).toInt32 = (255 : Int32) := by decide
theorem is_256 : (Int16.ofInt (256)).toInt32 = (256 : Int32) := by decide
theorem is_960 : (Int16.ofInt (960)).toInt32 = (960 : Int32) := by decide
theorem is_999 : (Int16.ofInt (999)).toInt32 = (999 : Int32) := by decide
theorem is_n999 : (Int16.ofInt (-999)).toInt32 = (-999 : Int32) := by decide
set_option maxRecDepth 40000 in
theorem lf_X3_27 : Cond.fieldLink RX3 27 RX3 "stepCount" "I" ∈ gtbl := mem_t 39 rfl rfl
set_option maxRecDepth 40000 in
theorem lf_X3_15 : Cond.fieldLink RX3 15 RX3 "steps" "[I" ∈ gtbl := mem_t 38 rfl rfl
set_option maxRecDepth 40000 in
theorem lf_X3_39 : Cond.fieldLink RX3 39 RX3 "behind" "I" ∈ gtbl := mem_t 37 rfl rfl
set_option maxRecDepth 40000 in
theorem lf_X3_21 : Cond.fieldLink RX3 21 RX3 "size" "I" ∈ gtbl := mem_t 33 rfl rfl
set_option maxRecDepth 40000 in
theorem lf_X3_9 : Cond.fieldLink RX3 9 RX3 "bytes" "[I" ∈ gtbl := mem_t 32 rfl rfl
set_option maxRecDepth 40000 in
theorem lf_X3_53 : Cond.fieldLink RX3 53 RX3 "begins" "I" ∈ gtbl := mem_t 36 rfl rfl
set_option maxRecDepth 40000 in
theorem lt_X5_isBetween : Cond.static yX5_isBetween ∈ gtbl := mem_t 202 rfl rfl
set_option maxRecDepth 40000 in
theorem lt_X3_sign : Cond.static yX3_sign ∈ gtbl := mem_t 220 rfl rfl
set_option maxRecDepth 40000 in
theorem lm_X3_85 : Cond.methodLink RX3 85 yX3_sign ∈ gtbl := mem_t 219 rfl rfl
set_option maxRecDepth 40000 in
theorem lf_X3_50 : Cond.fieldLink RX3 50 RX3 "token" "I" ∈ gtbl := mem_t 35 rfl rfl
set_option maxRecDepth 40000 in
theorem li_X3_goBehindAll : Cond.instanceMethod yX3_goBehindAll ∈ gtbl := mem_t 206 rfl rfl
theorem ls_X3_goBehindAll : Cond.selects yX3_goBehindAll.cls yX3_goBehindAll yX3_goBehindAll ∈ gtbl := mem_s (q := (yX3_goBehindAll, 8)) 1 (by decide +kernel)
set_option maxRecDepth 40000 in
theorem lm_X3_74 : Cond.methodLink RX3 74 yX3_goBehindAll ∈ gtbl := mem_t 204 rfl rfl
set_option maxRecDepth 40000 in
theorem li_X3_number : Cond.instanceMethod yX3_number ∈ gtbl := mem_t 217 rfl rfl
theorem ls_X3_number : Cond.selects yX3_number.cls yX3_number yX3_number ∈ gtbl := mem_s (q := (yX3_number, 8)) 3 (by decide +kernel)
set_option maxRecDepth 40000 in
theorem lm_X3_82 : Cond.methodLink RX3 82 yX3_number ∈ gtbl := mem_t 215 rfl rfl
set_option maxRecDepth 40000 in
theorem lm_X3_90 : Cond.methodLink RX3 90 yJ0_length_8abf5 ∈ gtbl := mem_t 213 rfl rfl
set_option maxRecDepth 40000 in
theorem lm_X3_95 : Cond.methodLink RX3 95 yJ0_charAt_5068e ∈ gtbl := mem_t 214 rfl rfl
set_option maxRecDepth 40000 in
theorem li_X3_word : Cond.instanceMethod yX3_word ∈ gtbl := mem_t 210 rfl rfl
theorem ls_X3_word : Cond.selects yX3_word.cls yX3_word yX3_word ∈ gtbl := mem_s (q := (yX3_word, 8)) 2 (by decide +kernel)
set_option maxRecDepth 40000 in
theorem lm_X3_78 : Cond.methodLink RX3 78 yX3_word ∈ gtbl := mem_t 208 rfl rfl
set_option maxRecDepth 40000 in
theorem lm_X0_3 : Cond.methodLink RX0 3 Lib.objectInit ∈ gtbl := mem_t 74 rfl rfl
set_option maxRecDepth 40000 in
theorem li_oinit : Cond.instanceMethod Lib.objectInit ∈ gtbl := mem_t 22 rfl rfl
set_option maxRecDepth 40000 in
theorem lo_oinit : Cond.code Lib.objectInit ⟨#[0xb1]⟩ 1 none ∈ gtbl := mem_t 23 rfl rfl
set_option maxRecDepth 40000 in
theorem lf_X0_9 : Cond.fieldLink RX0 9 RX0 "kind" "I" ∈ gtbl := mem_t 75 rfl rfl
set_option maxRecDepth 40000 in
theorem lf_X0_15 : Cond.fieldLink RX0 15 RX0 "number" "I" ∈ gtbl := mem_t 78 rfl rfl
set_option maxRecDepth 40000 in
theorem lf_X0_18 : Cond.fieldLink RX0 18 RX0 "value" "I" ∈ gtbl := mem_t 81 rfl rfl
set_option maxRecDepth 40000 in
theorem lf_X0_21 : Cond.fieldLink RX0 21 RX0 "first" "I" ∈ gtbl := mem_t 84 rfl rfl
set_option maxRecDepth 40000 in
theorem lf_X0_24 : Cond.fieldLink RX0 24 RX0 "age" "I" ∈ gtbl := mem_t 86 rfl rfl
set_option maxRecDepth 40000 in
theorem lf_X0_27 : Cond.fieldLink RX0 27 RX0 "owner" "I" ∈ gtbl := mem_t 88 rfl rfl
set_option maxRecDepth 40000 in
theorem lm_X0_30 : Cond.methodLink RX0 30 Lib.Math.min.name ∈ gtbl := mem_t 394 rfl rfl
set_option maxRecDepth 40000 in
theorem lt_min : Cond.static Lib.Math.min.name ∈ gtbl := mem_t 262 rfl rfl
set_option maxRecDepth 40000 in
theorem ln_Math : Cond.initialized "java/lang/Math" ∈ gtbl := mem_t 12 rfl rfl
set_option maxRecDepth 40000 in
theorem lo_min : Cond.code Lib.Math.min.name Lib.Math.min.code 2 (some .int) ∈ gtbl := mem_t 263 rfl rfl
set_option maxRecDepth 40000 in
theorem lm_X1_3 : Cond.methodLink RX1 3 Lib.objectInit ∈ gtbl := mem_t 68 rfl rfl
set_option maxRecDepth 40000 in
theorem lk_X1_9 : Cond.classLink RX1 9 RX0 ∈ gtbl := mem_t 69 rfl rfl
set_option maxRecDepth 40000 in
theorem lf_X1_11 : Cond.fieldLink RX1 11 RX1 "coins" "[LGoldTurnsBack$Coin;" ∈ gtbl := mem_t 108 rfl rfl
set_option maxRecDepth 40000 in
theorem la_X0 : Cond.instantiable RX0 6 ∈ gtbl := mem_t 70 rfl rfl
set_option maxRecDepth 40000 in
theorem ln_X0 : Cond.initialized RX0 ∈ gtbl := mem_t 4 rfl rfl
set_option maxRecDepth 40000 in
theorem li_X0_init : Cond.instanceMethod yX0_init ∈ gtbl := mem_t 72 rfl rfl
set_option maxRecDepth 40000 in
theorem lm_X2_3 : Cond.methodLink RX2 3 Lib.objectInit ∈ gtbl := mem_t 126 rfl rfl
set_option maxRecDepth 40000 in
theorem lf_X2_9 : Cond.fieldLink RX2 9 RX2 "sort" "I" ∈ gtbl := mem_t 127 rfl rfl
set_option maxRecDepth 40000 in
theorem lx_int : Cond.arrayClass .int ∈ gtbl := mem_t 58 rfl rfl
set_option maxRecDepth 40000 in
theorem lf_X2_15 : Cond.fieldLink RX2 15 RX2 "items" "[I" ∈ gtbl := mem_t 131 rfl rfl
set_option maxRecDepth 40000 in
theorem lf_X2_19 : Cond.fieldLink RX2 19 RX2 "size" "I" ∈ gtbl := mem_t 129 rfl rfl
set_option maxRecDepth 40000 in
theorem lt_J7_fill_53178 : Cond.static yJ7_fill_53178 ∈ gtbl := mem_t 578 rfl rfl
set_option maxRecDepth 40000 in
theorem lm_X2_22 : Cond.methodLink RX2 22 yJ7_fill_53178 ∈ gtbl := mem_t 577 rfl rfl
set_option maxRecDepth 40000 in
theorem lm_X3_3 : Cond.methodLink RX3 3 Lib.objectInit ∈ gtbl := mem_t 31 rfl rfl
set_option maxRecDepth 40000 in
theorem lf_X3_18 : Cond.fieldLink RX3 18 RX3 "ends" "[I" ∈ gtbl := mem_t 40 rfl rfl
set_option maxRecDepth 40000 in
theorem lk_X3_25 : Cond.classLink RX3 25 RX4 ∈ gtbl := mem_t 249 rfl rfl
set_option maxRecDepth 40000 in
theorem la_X4 : Cond.instantiable RX4 3 ∈ gtbl := mem_t 250 rfl rfl
set_option maxRecDepth 40000 in
theorem ln_X4 : Cond.initialized RX4 ∈ gtbl := mem_t 10 rfl rfl
set_option maxRecDepth 40000 in
theorem lm_J7_304 : Cond.methodLink RJ7 304 Lib.Math.min.name ∈ gtbl := mem_t 261 rfl rfl
set_option maxRecDepth 40000 in
theorem lm_J7_150 : Cond.methodLink RJ7 150 arraycopyName ∈ gtbl := mem_t 264 rfl rfl
set_option maxRecDepth 40000 in
theorem lv_copyN : Cond.native arraycopyName ∈ gtbl := mem_t 266 rfl rfl
set_option maxRecDepth 40000 in
theorem lt_copyN : Cond.static arraycopyName ∈ gtbl := mem_t 265 rfl rfl
set_option maxRecDepth 40000 in
theorem ln_System : Cond.initialized "java/lang/System" ∈ gtbl := mem_t 13 rfl rfl
set_option maxRecDepth 40000 in
theorem lm_J7_316 : Cond.methodLink RJ7 316 ⟨"[I", "clone", "()Ljava/lang/Object;"⟩ ∈ gtbl := mem_t 254 rfl rfl
set_option maxRecDepth 40000 in
theorem lq_clone : Cond.sameMethod "[I" "java/lang/Object" "clone" "()Ljava/lang/Object;" ∈ gtbl := mem_t 255 rfl rfl
set_option maxRecDepth 40000 in
theorem lv_clone : Cond.native ⟨"java/lang/Object", "clone", "()Ljava/lang/Object;"⟩ ∈ gtbl := mem_t 256 rfl rfl
set_option maxRecDepth 40000 in
theorem li_clone : Cond.instanceMethod ⟨"java/lang/Object", "clone", "()Ljava/lang/Object;"⟩ ∈ gtbl := mem_t 257 rfl rfl
set_option maxRecDepth 40000 in
theorem ls_clone : Cond.selects "[I" ⟨"[I", "clone", "()Ljava/lang/Object;"⟩ ⟨"java/lang/Object", "clone", "()Ljava/lang/Object;"⟩ ∈ gtbl := mem_t 258 rfl rfl
set_option maxRecDepth 40000 in
theorem lk_J7_317 : Cond.classLink RJ7 317 "[I" ∈ gtbl := mem_t 260 rfl rfl
set_option maxRecDepth 40000 in
theorem lt_J7_copyOf_59c91 : Cond.static yJ7_copyOf_59c91 ∈ gtbl := mem_t 252 rfl rfl
set_option maxRecDepth 40000 in
theorem lm_X3_30 : Cond.methodLink RX3 30 yJ7_copyOf_59c91 ∈ gtbl := mem_t 251 rfl rfl
set_option maxRecDepth 40000 in
theorem lm_X4_3 : Cond.methodLink RX4 3 Lib.objectInit ∈ gtbl := mem_t 270 rfl rfl
set_option maxRecDepth 40000 in
theorem lf_X4_9 : Cond.fieldLink RX4 9 RX4 "steps" "[I" ∈ gtbl := mem_t 271 rfl rfl
set_option maxRecDepth 40000 in
theorem lf_X4_15 : Cond.fieldLink RX4 15 RX4 "ends" "[I" ∈ gtbl := mem_t 272 rfl rfl
set_option maxRecDepth 40000 in
theorem lf_X4_18 : Cond.fieldLink RX4 18 RX4 "stack" "[I" ∈ gtbl := mem_t 273 rfl rfl
set_option maxRecDepth 40000 in
theorem li_X4_init : Cond.instanceMethod yX4_init ∈ gtbl := mem_t 268 rfl rfl
set_option maxRecDepth 40000 in
theorem lm_X3_36 : Cond.methodLink RX3 36 yX4_init ∈ gtbl := mem_t 267 rfl rfl
set_option maxRecDepth 40000 in
theorem li_X3_advance : Cond.instanceMethod yX3_advance ∈ gtbl := mem_t 199 rfl rfl
theorem ls_X3_advance : Cond.selects yX3_advance.cls yX3_advance yX3_advance ∈ gtbl := mem_s (q := (yX3_advance, 8)) 0 (by decide +kernel)
set_option maxRecDepth 40000 in
theorem lm_X3_42 : Cond.methodLink RX3 42 yX3_advance ∈ gtbl := mem_t 197 rfl rfl
set_option maxRecDepth 40000 in
theorem li_X3_readLevel : Cond.instanceMethod yX3_readLevel ∈ gtbl := mem_t 228 rfl rfl
theorem ls_X3_readLevel : Cond.selects yX3_readLevel.cls yX3_readLevel yX3_readLevel ∈ gtbl := mem_s (q := (yX3_readLevel, 8)) 5 (by decide +kernel)
set_option maxRecDepth 40000 in
theorem lm_X3_56 : Cond.methodLink RX3 56 yX3_readLevel ∈ gtbl := mem_t 226 rfl rfl
set_option maxRecDepth 40000 in
theorem li_X3_readPart : Cond.instanceMethod yX3_readPart ∈ gtbl := mem_t 224 rfl rfl
theorem ls_X3_readPart : Cond.selects yX3_readPart.cls yX3_readPart yX3_readPart ∈ gtbl := mem_s (q := (yX3_readPart, 8)) 4 (by decide +kernel)
set_option maxRecDepth 40000 in
theorem lm_X3_46 : Cond.methodLink RX3 46 yX3_readPart ∈ gtbl := mem_t 222 rfl rfl
set_option maxRecDepth 40000 in
theorem lf_X4_43 : Cond.fieldLink RX4 43 RX0 "kind" "I" ∈ gtbl := mem_t 76 rfl rfl
set_option maxRecDepth 40000 in
theorem lf_X4_71 : Cond.fieldLink RX4 71 RX0 "owner" "I" ∈ gtbl := mem_t 89 rfl rfl
set_option maxRecDepth 40000 in
theorem lf_X4_54 : Cond.fieldLink RX4 54 RX0 "number" "I" ∈ gtbl := mem_t 79 rfl rfl
set_option maxRecDepth 40000 in
theorem lf_X4_60 : Cond.fieldLink RX4 60 RX0 "first" "I" ∈ gtbl := mem_t 85 rfl rfl
set_option maxRecDepth 40000 in
theorem lf_X4_25 : Cond.fieldLink RX4 25 RX0 "value" "I" ∈ gtbl := mem_t 82 rfl rfl
set_option maxRecDepth 40000 in
theorem lt_X4_named : Cond.static yX4_named ∈ gtbl := mem_t 366 rfl rfl
set_option maxRecDepth 40000 in
theorem lm_X4_65 : Cond.methodLink RX4 65 yX4_named ∈ gtbl := mem_t 365 rfl rfl
set_option maxRecDepth 40000 in
theorem lt_X4_joined : Cond.static yX4_joined ∈ gtbl := mem_t 369 rfl rfl
set_option maxRecDepth 40000 in
theorem lm_X4_68 : Cond.methodLink RX4 68 yX4_joined ∈ gtbl := mem_t 368 rfl rfl
set_option maxRecDepth 40000 in
theorem li_X4_worked : Cond.instanceMethod yX4_worked ∈ gtbl := mem_t 363 rfl rfl
theorem ls_X4_worked : Cond.selects yX4_worked.cls yX4_worked yX4_worked ∈ gtbl := mem_s (q := (yX4_worked, 3)) 11 (by decide +kernel)
set_option maxRecDepth 40000 in
theorem lm_X4_46 : Cond.methodLink RX4 46 yX4_worked ∈ gtbl := mem_t 361 rfl rfl
set_option maxRecDepth 40000 in
theorem lm_X4_57 : Cond.methodLink RX4 57 Lib.Math.min.name ∈ gtbl := mem_t 374 rfl rfl
set_option maxRecDepth 40000 in
theorem lm_X4_37 : Cond.methodLink RX4 37 Lib.Math.max.name ∈ gtbl := mem_t 375 rfl rfl
set_option maxRecDepth 40000 in
theorem lt_max : Cond.static Lib.Math.max.name ∈ gtbl := mem_t 376 rfl rfl
set_option maxRecDepth 40000 in
theorem lo_max : Cond.code Lib.Math.max.name Lib.Math.max.code 2 (some .int) ∈ gtbl := mem_t 377 rfl rfl
set_option maxRecDepth 40000 in
theorem lt_X4_bounded : Cond.static yX4_bounded ∈ gtbl := mem_t 372 rfl rfl
set_option maxRecDepth 40000 in
theorem lm_X4_50 : Cond.methodLink RX4 50 yX4_bounded ∈ gtbl := mem_t 371 rfl rfl
set_option maxRecDepth 40000 in
theorem li_X4_turnsOf : Cond.instanceMethod yX4_turnsOf ∈ gtbl := mem_t 358 rfl rfl
set_option maxRecDepth 40000 in
theorem ls_X4_turnsOf : Cond.selects yX4_turnsOf.cls yX4_turnsOf yX4_turnsOf ∈ gtbl := mem_t 359 rfl rfl
set_option maxRecDepth 40000 in
theorem lm_X4_21 : Cond.methodLink RX4 21 yX4_turnsOf ∈ gtbl := mem_t 403 rfl rfl
set_option maxRecDepth 40000 in
theorem li_X4_givesOf : Cond.instanceMethod yX4_givesOf ∈ gtbl := mem_t 379 rfl rfl
set_option maxRecDepth 40000 in
theorem ls_X4_givesOf : Cond.selects yX4_givesOf.cls yX4_givesOf yX4_givesOf ∈ gtbl := mem_t 380 rfl rfl
set_option maxRecDepth 40000 in
theorem lm_X4_31 : Cond.methodLink RX4 31 yX4_givesOf ∈ gtbl := mem_t 404 rfl rfl
set_option maxRecDepth 40000 in
theorem li_X4_goesOffOf : Cond.instanceMethod yX4_goesOffOf ∈ gtbl := mem_t 383 rfl rfl
set_option maxRecDepth 40000 in
theorem ls_X4_goesOffOf : Cond.selects yX4_goesOffOf.cls yX4_goesOffOf yX4_goesOffOf ∈ gtbl := mem_t 384 rfl rfl
set_option maxRecDepth 40000 in
theorem lm_X4_34 : Cond.methodLink RX4 34 yX4_goesOffOf ∈ gtbl := mem_t 405 rfl rfl
set_option maxRecDepth 40000 in
theorem lm_X5_3 : Cond.methodLink RX5 3 Lib.objectInit ∈ gtbl := mem_t 21 rfl rfl
set_option maxRecDepth 40000 in
theorem lk_X5_9 : Cond.classLink RX5 9 RX0 ∈ gtbl := mem_t 24 rfl rfl
set_option maxRecDepth 40000 in
theorem lf_X5_11 : Cond.fieldLink RX5 11 RX5 "all" "[LGoldTurnsBack$Coin;" ∈ gtbl := mem_t 283 rfl rfl
set_option maxRecDepth 40000 in
theorem lk_X5_15 : Cond.classLink RX5 15 RX3 ∈ gtbl := mem_t 26 rfl rfl
set_option maxRecDepth 40000 in
theorem la_X3 : Cond.instantiable RX3 8 ∈ gtbl := mem_t 27 rfl rfl
set_option maxRecDepth 40000 in
theorem ln_X3 : Cond.initialized RX3 ∈ gtbl := mem_t 2 rfl rfl
set_option maxRecDepth 40000 in
theorem li_X3_init : Cond.instanceMethod yX3_init ∈ gtbl := mem_t 29 rfl rfl
set_option maxRecDepth 40000 in
theorem lf_X5_18 : Cond.fieldLink RX5 18 RX5 "tape" "LGoldTurnsBack$Tape;" ∈ gtbl := mem_t 285 rfl rfl
set_option maxRecDepth 40000 in
theorem lk_X5_22 : Cond.classLink RX5 22 RX4 ∈ gtbl := mem_t 59 rfl rfl
set_option maxRecDepth 40000 in
theorem lf_X5_24 : Cond.fieldLink RX5 24 RX5 "texts" "[LGoldTurnsBack$Text;" ∈ gtbl := mem_t 286 rfl rfl
set_option maxRecDepth 40000 in
theorem lk_X5_28 : Cond.classLink RX5 28 RX2 ∈ gtbl := mem_t 61 rfl rfl
set_option maxRecDepth 40000 in
theorem lf_X5_30 : Cond.fieldLink RX5 30 RX5 "sheets" "[LGoldTurnsBack$Sheet;" ∈ gtbl := mem_t 289 rfl rfl
set_option maxRecDepth 40000 in
theorem lk_X5_34 : Cond.classLink RX5 34 RX1 ∈ gtbl := mem_t 63 rfl rfl
set_option maxRecDepth 40000 in
theorem la_X1 : Cond.instantiable RX1 5 ∈ gtbl := mem_t 64 rfl rfl
set_option maxRecDepth 40000 in
theorem ln_X1 : Cond.initialized RX1 ∈ gtbl := mem_t 3 rfl rfl
set_option maxRecDepth 40000 in
theorem li_X1_init : Cond.instanceMethod yX1_init ∈ gtbl := mem_t 66 rfl rfl
set_option maxRecDepth 40000 in
theorem lm_X5_36 : Cond.methodLink RX5 36 yX1_init ∈ gtbl := mem_t 65 rfl rfl
set_option maxRecDepth 40000 in
theorem lf_X5_37 : Cond.fieldLink RX5 37 RX5 "kept" "LGoldTurnsBack$Image;" ∈ gtbl := mem_t 290 rfl rfl
set_option maxRecDepth 40000 in
theorem lf_X5_42 : Cond.fieldLink RX5 42 RX5 "thought" "LGoldTurnsBack$Coin;" ∈ gtbl := mem_t 291 rfl rfl
set_option maxRecDepth 40000 in
theorem lf_X5_46 : Cond.fieldLink RX5 46 RX5 "worths" "[I" ∈ gtbl := mem_t 292 rfl rfl
set_option maxRecDepth 40000 in
theorem la_X2 : Cond.instantiable RX2 3 ∈ gtbl := mem_t 122 rfl rfl
set_option maxRecDepth 40000 in
theorem ln_X2 : Cond.initialized RX2 ∈ gtbl := mem_t 5 rfl rfl
set_option maxRecDepth 40000 in
theorem li_X2_init : Cond.instanceMethod yX2_init ∈ gtbl := mem_t 124 rfl rfl
set_option maxRecDepth 40000 in
theorem lm_X5_53 : Cond.methodLink RX5 53 yJ0_length_8abf5 ∈ gtbl := mem_t 141 rfl rfl
set_option maxRecDepth 40000 in
theorem li_X3_read : Cond.instanceMethod yX3_read ∈ gtbl := mem_t 194 rfl rfl
set_option maxRecDepth 40000 in
theorem ls_X3_read : Cond.selects yX3_read.cls yX3_read yX3_read ∈ gtbl := mem_t 195 rfl rfl
set_option maxRecDepth 40000 in
theorem lm_X5_67 : Cond.methodLink RX5 67 yX3_read ∈ gtbl := mem_t 193 rfl rfl
set_option maxRecDepth 40000 in
theorem lf_X5_139 : Cond.fieldLink RX5 139 RX5 "textCount" "I" ∈ gtbl := mem_t 287 rfl rfl
set_option maxRecDepth 40000 in
theorem li_X3_newText : Cond.instanceMethod yX3_newText ∈ gtbl := mem_t 246 rfl rfl
set_option maxRecDepth 40000 in
theorem ls_X3_newText : Cond.selects yX3_newText.cls yX3_newText yX3_newText ∈ gtbl := mem_t 247 rfl rfl
set_option maxRecDepth 40000 in
theorem lm_X5_311 : Cond.methodLink RX5 311 yX3_newText ∈ gtbl := mem_t 245 rfl rfl
set_option maxRecDepth 40000 in
theorem lf_X5_136 : Cond.fieldLink RX5 136 RX3 "size" "I" ∈ gtbl := mem_t 34 rfl rfl
set_option maxRecDepth 40000 in
theorem li_X5_keepText : Cond.instanceMethod yX5_keepText ∈ gtbl := mem_t 243 rfl rfl
theorem ls_X5_keepText : Cond.selects yX5_keepText.cls yX5_keepText yX5_keepText ∈ gtbl := mem_s (q := (yX5_keepText, 11)) 8 (by decide +kernel)
set_option maxRecDepth 40000 in
theorem lm_X5_70 : Cond.methodLink RX5 70 yX5_keepText ∈ gtbl := mem_t 241 rfl rfl
set_option maxRecDepth 40000 in
theorem lm_X5_59 : Cond.methodLink RX5 59 yJ0_charAt_5068e ∈ gtbl := mem_t 151 rfl rfl
set_option maxRecDepth 40000 in
theorem li_X3_add : Cond.instanceMethod yX3_add ∈ gtbl := mem_t 190 rfl rfl
set_option maxRecDepth 40000 in
theorem ls_X3_add : Cond.selects yX3_add.cls yX3_add yX3_add ∈ gtbl := mem_t 191 rfl rfl
set_option maxRecDepth 40000 in
theorem lm_X5_63 : Cond.methodLink RX5 63 yX3_add ∈ gtbl := mem_t 189 rfl rfl
set_option maxRecDepth 40000 in
theorem lm_X5_73 : Cond.methodLink RX5 73 yX5_isBetween ∈ gtbl := mem_t 320 rfl rfl
set_option maxRecDepth 40000 in
theorem lf_X5_77 : Cond.fieldLink RX5 77 RX5 "LEAST" "[I" ∈ gtbl := mem_t 321 rfl rfl
set_option maxRecDepth 40000 in
theorem lf_X5_80 : Cond.fieldLink RX5 80 RX5 "MOST" "[I" ∈ gtbl := mem_t 323 rfl rfl
set_option maxRecDepth 40000 in
theorem lf_X5_103 : Cond.fieldLink RX5 103 RX5 "coinCount" "I" ∈ gtbl := mem_t 284 rfl rfl
set_option maxRecDepth 40000 in
theorem li_X5_isCoin : Cond.instanceMethod yX5_isCoin ∈ gtbl := mem_t 327 rfl rfl
theorem ls_X5_isCoin : Cond.selects yX5_isCoin.cls yX5_isCoin yX5_isCoin ∈ gtbl := mem_s (q := (yX5_isCoin, 11)) 9 (by decide +kernel)
set_option maxRecDepth 40000 in
theorem lm_X5_87 : Cond.methodLink RX5 87 yX5_isCoin ∈ gtbl := mem_t 325 rfl rfl
set_option maxRecDepth 40000 in
theorem li_X0_part : Cond.instanceMethod yX0_part ∈ gtbl := mem_t 330 rfl rfl
set_option maxRecDepth 40000 in
theorem ls_X0_part : Cond.selects yX0_part.cls yX0_part yX0_part ∈ gtbl := mem_t 331 rfl rfl
set_option maxRecDepth 40000 in
theorem lm_X5_91 : Cond.methodLink RX5 91 yX0_part ∈ gtbl := mem_t 329 rfl rfl
set_option maxRecDepth 40000 in
theorem li_X0_lay : Cond.instanceMethod yX0_lay ∈ gtbl := mem_t 334 rfl rfl
set_option maxRecDepth 40000 in
theorem ls_X0_lay : Cond.selects yX0_lay.cls yX0_lay yX0_lay ∈ gtbl := mem_t 335 rfl rfl
set_option maxRecDepth 40000 in
theorem lm_X5_95 : Cond.methodLink RX5 95 yX0_lay ∈ gtbl := mem_t 333 rfl rfl
set_option maxRecDepth 40000 in
theorem lf_X5_83 : Cond.fieldLink RX5 83 RX5 "today" "I" ∈ gtbl := mem_t 282 rfl rfl
set_option maxRecDepth 40000 in
theorem lt_X5_isOf : Cond.static yX5_isOf ∈ gtbl := mem_t 342 rfl rfl
set_option maxRecDepth 40000 in
theorem lm_X5_99 : Cond.methodLink RX5 99 yX5_isOf ∈ gtbl := mem_t 341 rfl rfl
set_option maxRecDepth 40000 in
theorem li_X0_come : Cond.instanceMethod yX0_come ∈ gtbl := mem_t 345 rfl rfl
set_option maxRecDepth 40000 in
theorem ls_X0_come : Cond.selects yX0_come.cls yX0_come yX0_come ∈ gtbl := mem_t 346 rfl rfl
set_option maxRecDepth 40000 in
theorem lm_X5_106 : Cond.methodLink RX5 106 yX0_come ∈ gtbl := mem_t 344 rfl rfl
set_option maxRecDepth 40000 in
theorem lf_X5_142 : Cond.fieldLink RX5 142 RX5 "rule" "I" ∈ gtbl := mem_t 288 rfl rfl
set_option maxRecDepth 40000 in
theorem li_X5_theRule : Cond.instanceMethod yX5_theRule ∈ gtbl := mem_t 355 rfl rfl
theorem ls_X5_theRule : Cond.selects yX5_theRule.cls yX5_theRule yX5_theRule ∈ gtbl := mem_s (q := (yX5_theRule, 11)) 10 (by decide +kernel)
set_option maxRecDepth 40000 in
theorem lm_X5_111 : Cond.methodLink RX5 111 yX5_theRule ∈ gtbl := mem_t 353 rfl rfl
set_option maxRecDepth 40000 in
theorem lf_X5_115 : Cond.fieldLink RX5 115 RX0 "age" "I" ∈ gtbl := mem_t 87 rfl rfl
set_option maxRecDepth 40000 in
theorem lm_X5_118 : Cond.methodLink RX5 118 yX4_turnsOf ∈ gtbl := mem_t 357 rfl rfl
set_option maxRecDepth 40000 in
theorem lm_X5_122 : Cond.methodLink RX5 122 yX4_givesOf ∈ gtbl := mem_t 378 rfl rfl
set_option maxRecDepth 40000 in
theorem lm_X5_125 : Cond.methodLink RX5 125 yX4_goesOffOf ∈ gtbl := mem_t 382 rfl rfl
set_option maxRecDepth 40000 in
theorem li_X0_ageBehind : Cond.instanceMethod yX0_ageBehind ∈ gtbl := mem_t 391 rfl rfl
set_option maxRecDepth 40000 in
theorem ls_X0_ageBehind : Cond.selects yX0_ageBehind.cls yX0_ageBehind yX0_ageBehind ∈ gtbl := mem_t 392 rfl rfl
set_option maxRecDepth 40000 in
theorem lm_X5_145 : Cond.methodLink RX5 145 yX0_ageBehind ∈ gtbl := mem_t 390 rfl rfl
set_option maxRecDepth 40000 in
theorem li_X5_isWholeBehind : Cond.instanceMethod yX5_isWholeBehind ∈ gtbl := mem_t 388 rfl rfl
theorem ls_X5_isWholeBehind : Cond.selects yX5_isWholeBehind.cls yX5_isWholeBehind yX5_isWholeBehind ∈ gtbl := mem_s (q := (yX5_isWholeBehind, 11)) 12 (by decide +kernel)
set_option maxRecDepth 40000 in
theorem lm_X5_128 : Cond.methodLink RX5 128 yX5_isWholeBehind ∈ gtbl := mem_t 386 rfl rfl
set_option maxRecDepth 40000 in
theorem li_X4_worthOf : Cond.instanceMethod yX4_worthOf ∈ gtbl := mem_t 400 rfl rfl
set_option maxRecDepth 40000 in
theorem ls_X4_worthOf : Cond.selects yX4_worthOf.cls yX4_worthOf yX4_worthOf ∈ gtbl := mem_t 401 rfl rfl
set_option maxRecDepth 40000 in
theorem lm_X5_250 : Cond.methodLink RX5 250 yX4_worthOf ∈ gtbl := mem_t 399 rfl rfl
set_option maxRecDepth 40000 in
theorem li_X5_worthBehind : Cond.instanceMethod yX5_worthBehind ∈ gtbl := mem_t 397 rfl rfl
theorem ls_X5_worthBehind : Cond.selects yX5_worthBehind.cls yX5_worthBehind yX5_worthBehind ∈ gtbl := mem_s (q := (yX5_worthBehind, 11)) 13 (by decide +kernel)
set_option maxRecDepth 40000 in
theorem lm_X5_132 : Cond.methodLink RX5 132 yX5_worthBehind ∈ gtbl := mem_t 395 rfl rfl
set_option maxRecDepth 40000 in
theorem lc_X5_110 : Cond.constant RX5 110 (-100000) ∈ gtbl := mem_t 352 rfl rfl
set_option maxRecDepth 40000 in
theorem lf_X5_148 : Cond.fieldLink RX5 148 RX0 "owner" "I" ∈ gtbl := mem_t 90 rfl rfl
set_option maxRecDepth 40000 in
theorem li_X0_goTo : Cond.instanceMethod yX0_goTo ∈ gtbl := mem_t 427 rfl rfl
set_option maxRecDepth 40000 in
theorem ls_X0_goTo : Cond.selects yX0_goTo.cls yX0_goTo yX0_goTo ∈ gtbl := mem_t 428 rfl rfl
set_option maxRecDepth 40000 in
theorem lm_X5_151 : Cond.methodLink RX5 151 yX0_goTo ∈ gtbl := mem_t 426 rfl rfl
set_option maxRecDepth 40000 in
theorem lt_X5_areTwoOwners : Cond.static yX5_areTwoOwners ∈ gtbl := mem_t 435 rfl rfl
set_option maxRecDepth 40000 in
theorem lm_X5_154 : Cond.methodLink RX5 154 yX5_areTwoOwners ∈ gtbl := mem_t 434 rfl rfl
set_option maxRecDepth 40000 in
theorem li_X5_purseBehind : Cond.instanceMethod yX5_purseBehind ∈ gtbl := mem_t 443 rfl rfl
theorem ls_X5_purseBehind : Cond.selects yX5_purseBehind.cls yX5_purseBehind yX5_purseBehind ∈ gtbl := mem_s (q := (yX5_purseBehind, 11)) 15 (by decide +kernel)
set_option maxRecDepth 40000 in
theorem lm_X5_172 : Cond.methodLink RX5 172 yX5_purseBehind ∈ gtbl := mem_t 441 rfl rfl
set_option maxRecDepth 40000 in
theorem lt_X5_holds : Cond.static yX5_holds ∈ gtbl := mem_t 450 rfl rfl
set_option maxRecDepth 40000 in
theorem lm_X5_161 : Cond.methodLink RX5 161 yX5_holds ∈ gtbl := mem_t 449 rfl rfl
set_option maxRecDepth 40000 in
theorem lf_X5_314 : Cond.fieldLink RX5 314 RX0 "value" "I" ∈ gtbl := mem_t 83 rfl rfl
set_option maxRecDepth 40000 in
theorem li_X5_valuesOf : Cond.instanceMethod yX5_valuesOf ∈ gtbl := mem_t 447 rfl rfl
theorem ls_X5_valuesOf : Cond.selects yX5_valuesOf.cls yX5_valuesOf yX5_valuesOf ∈ gtbl := mem_s (q := (yX5_valuesOf, 11)) 16 (by decide +kernel)
set_option maxRecDepth 40000 in
theorem lm_X5_175 : Cond.methodLink RX5 175 yX5_valuesOf ∈ gtbl := mem_t 445 rfl rfl
set_option maxRecDepth 40000 in
theorem lc_J6_265 : Cond.constant RJ6 265 (1431655765) ∈ gtbl := mem_t 455 rfl rfl
set_option maxRecDepth 40000 in
theorem lc_J6_266 : Cond.constant RJ6 266 (858993459) ∈ gtbl := mem_t 456 rfl rfl
set_option maxRecDepth 40000 in
theorem lc_J6_267 : Cond.constant RJ6 267 (252645135) ∈ gtbl := mem_t 457 rfl rfl
set_option maxRecDepth 40000 in
theorem lt_J6_bitCount_0f7a4 : Cond.static yJ6_bitCount_0f7a4 ∈ gtbl := mem_t 453 rfl rfl
set_option maxRecDepth 40000 in
theorem lm_X5_164 : Cond.methodLink RX5 164 yJ6_bitCount_0f7a4 ∈ gtbl := mem_t 452 rfl rfl
set_option maxRecDepth 40000 in
theorem li_X5_exactSet : Cond.instanceMethod yX5_exactSet ∈ gtbl := mem_t 439 rfl rfl
theorem ls_X5_exactSet : Cond.selects yX5_exactSet.cls yX5_exactSet yX5_exactSet ∈ gtbl := mem_s (q := (yX5_exactSet, 11)) 14 (by decide +kernel)
set_option maxRecDepth 40000 in
theorem lm_X5_157 : Cond.methodLink RX5 157 yX5_exactSet ∈ gtbl := mem_t 437 rfl rfl
set_option maxRecDepth 40000 in
theorem li_X5_richBehind : Cond.instanceMethod yX5_richBehind ∈ gtbl := mem_t 464 rfl rfl
theorem ls_X5_richBehind : Cond.selects yX5_richBehind.cls yX5_richBehind yX5_richBehind ∈ gtbl := mem_s (q := (yX5_richBehind, 11)) 17 (by decide +kernel)
set_option maxRecDepth 40000 in
theorem lm_X5_169 : Cond.methodLink RX5 169 yX5_richBehind ∈ gtbl := mem_t 462 rfl rfl
set_option maxRecDepth 40000 in
theorem li_X5_coinsOf : Cond.instanceMethod yX5_coinsOf ∈ gtbl := mem_t 468 rfl rfl
theorem ls_X5_coinsOf : Cond.selects yX5_coinsOf.cls yX5_coinsOf yX5_coinsOf ∈ gtbl := mem_s (q := (yX5_coinsOf, 11)) 18 (by decide +kernel)
set_option maxRecDepth 40000 in
theorem lm_X5_178 : Cond.methodLink RX5 178 yX5_coinsOf ∈ gtbl := mem_t 466 rfl rfl
set_option maxRecDepth 40000 in
theorem li_X5_toSpend : Cond.instanceMethod yX5_toSpend ∈ gtbl := mem_t 472 rfl rfl
theorem ls_X5_toSpend : Cond.selects yX5_toSpend.cls yX5_toSpend yX5_toSpend ∈ gtbl := mem_s (q := (yX5_toSpend, 11)) 19 (by decide +kernel)
set_option maxRecDepth 40000 in
theorem lm_X5_181 : Cond.methodLink RX5 181 yX5_toSpend ∈ gtbl := mem_t 470 rfl rfl
set_option maxRecDepth 40000 in
theorem li_X5_goneBehind : Cond.instanceMethod yX5_goneBehind ∈ gtbl := mem_t 476 rfl rfl
theorem ls_X5_goneBehind : Cond.selects yX5_goneBehind.cls yX5_goneBehind yX5_goneBehind ∈ gtbl := mem_s (q := (yX5_goneBehind, 11)) 20 (by decide +kernel)
set_option maxRecDepth 40000 in
theorem lm_X5_184 : Cond.methodLink RX5 184 yX5_goneBehind ∈ gtbl := mem_t 474 rfl rfl
set_option maxRecDepth 40000 in
theorem li_X5_layWorths : Cond.instanceMethod yX5_layWorths ∈ gtbl := mem_t 484 rfl rfl
theorem ls_X5_layWorths : Cond.selects yX5_layWorths.cls yX5_layWorths yX5_layWorths ∈ gtbl := mem_s (q := (yX5_layWorths, 11)) 22 (by decide +kernel)
set_option maxRecDepth 40000 in
theorem lm_X5_193 : Cond.methodLink RX5 193 yX5_layWorths ∈ gtbl := mem_t 482 rfl rfl
set_option maxRecDepth 40000 in
theorem li_X5_mostWorth : Cond.instanceMethod yX5_mostWorth ∈ gtbl := mem_t 488 rfl rfl
theorem ls_X5_mostWorth : Cond.selects yX5_mostWorth.cls yX5_mostWorth yX5_mostWorth ∈ gtbl := mem_s (q := (yX5_mostWorth, 11)) 23 (by decide +kernel)
set_option maxRecDepth 40000 in
theorem lm_X5_317 : Cond.methodLink RX5 317 yX5_mostWorth ∈ gtbl := mem_t 486 rfl rfl
set_option maxRecDepth 40000 in
theorem li_X5_taxOf : Cond.instanceMethod yX5_taxOf ∈ gtbl := mem_t 480 rfl rfl
theorem ls_X5_taxOf : Cond.selects yX5_taxOf.cls yX5_taxOf yX5_taxOf ∈ gtbl := mem_s (q := (yX5_taxOf, 11)) 21 (by decide +kernel)
set_option maxRecDepth 40000 in
theorem lm_X5_187 : Cond.methodLink RX5 187 yX5_taxOf ∈ gtbl := mem_t 478 rfl rfl
set_option maxRecDepth 40000 in
theorem li_X5_overSet : Cond.instanceMethod yX5_overSet ∈ gtbl := mem_t 500 rfl rfl
theorem ls_X5_overSet : Cond.selects yX5_overSet.cls yX5_overSet yX5_overSet ∈ gtbl := mem_s (q := (yX5_overSet, 11)) 24 (by decide +kernel)
set_option maxRecDepth 40000 in
theorem lm_X5_190 : Cond.methodLink RX5 190 yX5_overSet ∈ gtbl := mem_t 498 rfl rfl
set_option maxRecDepth 40000 in
theorem li_X5_worthsWithout : Cond.instanceMethod yX5_worthsWithout ∈ gtbl := mem_t 512 rfl rfl
theorem ls_X5_worthsWithout : Cond.selects yX5_worthsWithout.cls yX5_worthsWithout yX5_worthsWithout ∈ gtbl := mem_s (q := (yX5_worthsWithout, 11)) 26 (by decide +kernel)
set_option maxRecDepth 40000 in
theorem lm_X5_199 : Cond.methodLink RX5 199 yX5_worthsWithout ∈ gtbl := mem_t 510 rfl rfl
set_option maxRecDepth 40000 in
theorem li_X5_wiseSet : Cond.instanceMethod yX5_wiseSet ∈ gtbl := mem_t 508 rfl rfl
theorem ls_X5_wiseSet : Cond.selects yX5_wiseSet.cls yX5_wiseSet yX5_wiseSet ∈ gtbl := mem_s (q := (yX5_wiseSet, 11)) 25 (by decide +kernel)
set_option maxRecDepth 40000 in
theorem lm_X5_196 : Cond.methodLink RX5 196 yX5_wiseSet ∈ gtbl := mem_t 506 rfl rfl
set_option maxRecDepth 40000 in
theorem li_X0_become : Cond.instanceMethod yX0_become ∈ gtbl := mem_t 527 rfl rfl
set_option maxRecDepth 40000 in
theorem ls_X0_become : Cond.selects yX0_become.cls yX0_become yX0_become ∈ gtbl := mem_t 528 rfl rfl
set_option maxRecDepth 40000 in
theorem lm_X5_273 : Cond.methodLink RX5 273 yX0_become ∈ gtbl := mem_t 526 rfl rfl
set_option maxRecDepth 40000 in
theorem li_X5_gainIfPaid : Cond.instanceMethod yX5_gainIfPaid ∈ gtbl := mem_t 524 rfl rfl
theorem ls_X5_gainIfPaid : Cond.selects yX5_gainIfPaid.cls yX5_gainIfPaid yX5_gainIfPaid ∈ gtbl := mem_s (q := (yX5_gainIfPaid, 11)) 28 (by decide +kernel)
set_option maxRecDepth 40000 in
theorem lm_X5_205 : Cond.methodLink RX5 205 yX5_gainIfPaid ∈ gtbl := mem_t 522 rfl rfl
set_option maxRecDepth 40000 in
theorem li_X5_bestPair : Cond.instanceMethod yX5_bestPair ∈ gtbl := mem_t 520 rfl rfl
theorem ls_X5_bestPair : Cond.selects yX5_bestPair.cls yX5_bestPair yX5_bestPair ∈ gtbl := mem_s (q := (yX5_bestPair, 11)) 27 (by decide +kernel)
set_option maxRecDepth 40000 in
theorem lm_X5_202 : Cond.methodLink RX5 202 yX5_bestPair ∈ gtbl := mem_t 518 rfl rfl
set_option maxRecDepth 40000 in
theorem lt_X5_isSheet : Cond.static yX5_isSheet ∈ gtbl := mem_t 535 rfl rfl
set_option maxRecDepth 40000 in
theorem lm_X5_208 : Cond.methodLink RX5 208 yX5_isSheet ∈ gtbl := mem_t 534 rfl rfl
set_option maxRecDepth 40000 in
theorem li_X2_isMissing : Cond.instanceMethod yX2_isMissing ∈ gtbl := mem_t 538 rfl rfl
set_option maxRecDepth 40000 in
theorem ls_X2_isMissing : Cond.selects yX2_isMissing.cls yX2_isMissing yX2_isMissing ∈ gtbl := mem_t 539 rfl rfl
set_option maxRecDepth 40000 in
theorem lm_X5_211 : Cond.methodLink RX5 211 yX2_isMissing ∈ gtbl := mem_t 537 rfl rfl
set_option maxRecDepth 40000 in
theorem lf_X5_279 : Cond.fieldLink RX5 279 RX2 "size" "I" ∈ gtbl := mem_t 130 rfl rfl
set_option maxRecDepth 40000 in
theorem lf_X5_286 : Cond.fieldLink RX5 286 RX2 "items" "[I" ∈ gtbl := mem_t 132 rfl rfl
set_option maxRecDepth 40000 in
theorem li_X5_firstOtherwise : Cond.instanceMethod yX5_firstOtherwise ∈ gtbl := mem_t 543 rfl rfl
theorem ls_X5_firstOtherwise : Cond.selects yX5_firstOtherwise.cls yX5_firstOtherwise yX5_firstOtherwise ∈ gtbl := mem_s (q := (yX5_firstOtherwise, 11)) 29 (by decide +kernel)
set_option maxRecDepth 40000 in
theorem lm_X5_215 : Cond.methodLink RX5 215 yX5_firstOtherwise ∈ gtbl := mem_t 541 rfl rfl
set_option maxRecDepth 40000 in
theorem li_X5_wouldBeSo : Cond.instanceMethod yX5_wouldBeSo ∈ gtbl := mem_t 551 rfl rfl
theorem ls_X5_wouldBeSo : Cond.selects yX5_wouldBeSo.cls yX5_wouldBeSo yX5_wouldBeSo ∈ gtbl := mem_s (q := (yX5_wouldBeSo, 11)) 31 (by decide +kernel)
set_option maxRecDepth 40000 in
theorem lm_X5_320 : Cond.methodLink RX5 320 yX5_wouldBeSo ∈ gtbl := mem_t 549 rfl rfl
set_option maxRecDepth 40000 in
theorem li_X5_soBits : Cond.instanceMethod yX5_soBits ∈ gtbl := mem_t 547 rfl rfl
theorem ls_X5_soBits : Cond.selects yX5_soBits.cls yX5_soBits yX5_soBits ∈ gtbl := mem_s (q := (yX5_soBits, 11)) 30 (by decide +kernel)
set_option maxRecDepth 40000 in
theorem lm_X5_219 : Cond.methodLink RX5 219 yX5_soBits ∈ gtbl := mem_t 545 rfl rfl
set_option maxRecDepth 40000 in
theorem li_X5_soCount : Cond.instanceMethod yX5_soCount ∈ gtbl := mem_t 555 rfl rfl
theorem ls_X5_soCount : Cond.selects yX5_soCount.cls yX5_soCount yX5_soCount ∈ gtbl := mem_s (q := (yX5_soCount, 11)) 32 (by decide +kernel)
set_option maxRecDepth 40000 in
theorem lm_X5_223 : Cond.methodLink RX5 223 yX5_soCount ∈ gtbl := mem_t 553 rfl rfl
set_option maxRecDepth 40000 in
theorem li_X5_soLeast : Cond.instanceMethod yX5_soLeast ∈ gtbl := mem_t 559 rfl rfl
theorem ls_X5_soLeast : Cond.selects yX5_soLeast.cls yX5_soLeast yX5_soLeast ∈ gtbl := mem_s (q := (yX5_soLeast, 11)) 33 (by decide +kernel)
set_option maxRecDepth 40000 in
theorem lm_X5_227 : Cond.methodLink RX5 227 yX5_soLeast ∈ gtbl := mem_t 557 rfl rfl
set_option maxRecDepth 40000 in
theorem li_X5_soTexts : Cond.instanceMethod yX5_soTexts ∈ gtbl := mem_t 563 rfl rfl
theorem ls_X5_soTexts : Cond.selects yX5_soTexts.cls yX5_soTexts yX5_soTexts ∈ gtbl := mem_s (q := (yX5_soTexts, 11)) 34 (by decide +kernel)
set_option maxRecDepth 40000 in
theorem lm_X5_230 : Cond.methodLink RX5 230 yX5_soTexts ∈ gtbl := mem_t 561 rfl rfl
set_option maxRecDepth 40000 in
theorem li_X5_soCoins : Cond.instanceMethod yX5_soCoins ∈ gtbl := mem_t 567 rfl rfl
theorem ls_X5_soCoins : Cond.selects yX5_soCoins.cls yX5_soCoins yX5_soCoins ∈ gtbl := mem_s (q := (yX5_soCoins, 11)) 35 (by decide +kernel)
set_option maxRecDepth 40000 in
theorem lm_X5_234 : Cond.methodLink RX5 234 yX5_soCoins ∈ gtbl := mem_t 565 rfl rfl
set_option maxRecDepth 40000 in
theorem li_X2_become : Cond.instanceMethod yX2_become ∈ gtbl := mem_t 574 rfl rfl
set_option maxRecDepth 40000 in
theorem ls_X2_become : Cond.selects yX2_become.cls yX2_become yX2_become ∈ gtbl := mem_t 575 rfl rfl
set_option maxRecDepth 40000 in
theorem lm_X5_238 : Cond.methodLink RX5 238 yX2_become ∈ gtbl := mem_t 573 rfl rfl
set_option maxRecDepth 40000 in
theorem li_X2_put : Cond.instanceMethod yX2_put ∈ gtbl := mem_t 581 rfl rfl
set_option maxRecDepth 40000 in
theorem ls_X2_put : Cond.selects yX2_put.cls yX2_put yX2_put ∈ gtbl := mem_t 582 rfl rfl
set_option maxRecDepth 40000 in
theorem lm_X5_241 : Cond.methodLink RX5 241 yX2_put ∈ gtbl := mem_t 580 rfl rfl
set_option maxRecDepth 40000 in
theorem lc_X5_324 : Cond.constant RX5 324 (1103515245) ∈ gtbl := mem_t 591 rfl rfl
set_option maxRecDepth 40000 in
theorem lt_X5_nextDraw : Cond.static yX5_nextDraw ∈ gtbl := mem_t 589 rfl rfl
set_option maxRecDepth 40000 in
theorem lm_X5_244 : Cond.methodLink RX5 244 yX5_nextDraw ∈ gtbl := mem_t 588 rfl rfl
set_option maxRecDepth 40000 in
theorem lt_X5_drawnAge : Cond.static yX5_drawnAge ∈ gtbl := mem_t 593 rfl rfl
set_option maxRecDepth 40000 in
theorem lm_X5_247 : Cond.methodLink RX5 247 yX5_drawnAge ∈ gtbl := mem_t 592 rfl rfl
set_option maxRecDepth 40000 in
theorem lt_X5_commonDivisor : Cond.static yX5_commonDivisor ∈ gtbl := mem_t 605 rfl rfl
set_option maxRecDepth 40000 in
theorem lm_X5_258 : Cond.methodLink RX5 258 yX5_commonDivisor ∈ gtbl := mem_t 604 rfl rfl
set_option maxRecDepth 40000 in
theorem li_X5_wholeWhenDrawn : Cond.instanceMethod yX5_wholeWhenDrawn ∈ gtbl := mem_t 602 rfl rfl
theorem ls_X5_wholeWhenDrawn : Cond.selects yX5_wholeWhenDrawn.cls yX5_wholeWhenDrawn yX5_wholeWhenDrawn ∈ gtbl := mem_s (q := (yX5_wholeWhenDrawn, 11)) 36 (by decide +kernel)
set_option maxRecDepth 40000 in
theorem lm_X5_255 : Cond.methodLink RX5 255 yX5_wholeWhenDrawn ∈ gtbl := mem_t 600 rfl rfl
set_option maxRecDepth 40000 in
theorem ll_X5_253 : Cond.constantLong RX5 253 (-4611686018427387904) ∈ gtbl := mem_t 599 rfl rfl
set_option maxRecDepth 40000 in
theorem lf_X5_261 : Cond.fieldLink RX5 261 RX1 "isThere" "Z" ∈ gtbl := mem_t 104 rfl rfl
set_option maxRecDepth 40000 in
theorem lf_X5_265 : Cond.fieldLink RX5 265 RX1 "day" "I" ∈ gtbl := mem_t 105 rfl rfl
set_option maxRecDepth 40000 in
theorem lf_X5_268 : Cond.fieldLink RX5 268 RX1 "rule" "I" ∈ gtbl := mem_t 106 rfl rfl
set_option maxRecDepth 40000 in
theorem lf_X5_269 : Cond.fieldLink RX5 269 RX1 "coinCount" "I" ∈ gtbl := mem_t 107 rfl rfl
set_option maxRecDepth 40000 in
theorem lf_X5_270 : Cond.fieldLink RX5 270 RX1 "coins" "[LGoldTurnsBack$Coin;" ∈ gtbl := mem_t 109 rfl rfl
set_option maxRecDepth 40000 in
theorem li_X5_wholeCount : Cond.instanceMethod yX5_wholeCount ∈ gtbl := mem_t 621 rfl rfl
theorem ls_X5_wholeCount : Cond.selects yX5_wholeCount.cls yX5_wholeCount yX5_wholeCount ∈ gtbl := mem_s (q := (yX5_wholeCount, 11)) 37 (by decide +kernel)
set_option maxRecDepth 40000 in
theorem lm_X5_276 : Cond.methodLink RX5 276 yX5_wholeCount ∈ gtbl := mem_t 619 rfl rfl
set_option maxRecDepth 40000 in
theorem lf_X5_280 : Cond.fieldLink RX5 280 RX2 "sort" "I" ∈ gtbl := mem_t 128 rfl rfl
set_option maxRecDepth 40000 in
theorem li_X2_hasRoom : Cond.instanceMethod yX2_hasRoom ∈ gtbl := mem_t 636 rfl rfl
set_option maxRecDepth 40000 in
theorem ls_X2_hasRoom : Cond.selects yX2_hasRoom.cls yX2_hasRoom yX2_hasRoom ∈ gtbl := mem_t 637 rfl rfl
set_option maxRecDepth 40000 in
theorem lm_X5_283 : Cond.methodLink RX5 283 yX2_hasRoom ∈ gtbl := mem_t 635 rfl rfl
set_option maxRecDepth 40000 in
theorem lm_X5_289 : Cond.methodLink RX5 289 arraycopyName ∈ gtbl := mem_t 639 rfl rfl
set_option maxRecDepth 40000 in
theorem li_X5_coin : Cond.instanceMethod yX5_coin ∈ gtbl := mem_t 338 rfl rfl
set_option maxRecDepth 40000 in
theorem ls_X5_coin : Cond.selects yX5_coin.cls yX5_coin yX5_coin ∈ gtbl := mem_t 339 rfl rfl
set_option maxRecDepth 40000 in
theorem lm_X5_295 : Cond.methodLink RX5 295 yX5_coin ∈ gtbl := mem_t 644 rfl rfl
set_option maxRecDepth 40000 in
theorem lf_X5_299 : Cond.fieldLink RX5 299 RX0 "kind" "I" ∈ gtbl := mem_t 77 rfl rfl
set_option maxRecDepth 40000 in
theorem lf_X5_308 : Cond.fieldLink RX5 308 RX5 "UNDER" "[I" ∈ gtbl := mem_t 652 rfl rfl
set_option maxRecDepth 40000 in
theorem lt_X5_isUnder : Cond.static yX5_isUnder ∈ gtbl := mem_t 650 rfl rfl
set_option maxRecDepth 40000 in
theorem lm_X5_302 : Cond.methodLink RX5 302 yX5_isUnder ∈ gtbl := mem_t 649 rfl rfl
set_option maxRecDepth 40000 in
theorem lf_X5_305 : Cond.fieldLink RX5 305 RX0 "number" "I" ∈ gtbl := mem_t 80 rfl rfl
set_option maxRecDepth 40000 in
theorem lm_X6_7 : Cond.methodLink RX6 7 Lib.objectInit ∈ gtbl := mem_t 659 rfl rfl
set_option maxRecDepth 40000 in
theorem lf_X6_13 : Cond.fieldLink RX6 13 RX6 "texts" "[I" ∈ gtbl := mem_t 664 rfl rfl
set_option maxRecDepth 40000 in
theorem lf_X6_17 : Cond.fieldLink RX6 17 RX6 "textSize" "[I" ∈ gtbl := mem_t 665 rfl rfl
set_option maxRecDepth 40000 in
theorem lf_X6_20 : Cond.fieldLink RX6 20 RX6 "tape" "[I" ∈ gtbl := mem_t 668 rfl rfl
set_option maxRecDepth 40000 in
theorem lf_X6_23 : Cond.fieldLink RX6 23 RX6 "kinds" "[I" ∈ gtbl := mem_t 671 rfl rfl
set_option maxRecDepth 40000 in
theorem lf_X6_26 : Cond.fieldLink RX6 26 RX6 "rows" "[I" ∈ gtbl := mem_t 672 rfl rfl
set_option maxRecDepth 40000 in
theorem lf_X6_29 : Cond.fieldLink RX6 29 RX6 "agesWas" "[I" ∈ gtbl := mem_t 689 rfl rfl
set_option maxRecDepth 40000 in
theorem lf_X6_32 : Cond.fieldLink RX6 32 RX6 "ownersWas" "[I" ∈ gtbl := mem_t 690 rfl rfl
set_option maxRecDepth 40000 in
theorem lf_X6_35 : Cond.fieldLink RX6 35 RX6 "later" "[I" ∈ gtbl := mem_t 692 rfl rfl
set_option maxRecDepth 40000 in
theorem lf_X6_38 : Cond.fieldLink RX6 38 RX6 "rowsKept" "[I" ∈ gtbl := mem_t 693 rfl rfl
set_option maxRecDepth 40000 in
theorem lf_X6_41 : Cond.fieldLink RX6 41 RX6 "manyKept" "I" ∈ gtbl := mem_t 694 rfl rfl
set_option maxRecDepth 40000 in
theorem lx_boolean : Cond.arrayClass .boolean ∈ gtbl := mem_t 778 rfl rfl
set_option maxRecDepth 40000 in
theorem lf_X6_44 : Cond.fieldLink RX6 44 RX6 "isThere" "[Z" ∈ gtbl := mem_t 697 rfl rfl
set_option maxRecDepth 40000 in
theorem lf_X6_48 : Cond.fieldLink RX6 48 RX6 "sorts" "[I" ∈ gtbl := mem_t 698 rfl rfl
set_option maxRecDepth 40000 in
theorem lf_X6_51 : Cond.fieldLink RX6 51 RX6 "sheetSize" "[I" ∈ gtbl := mem_t 699 rfl rfl
set_option maxRecDepth 40000 in
theorem lf_X6_54 : Cond.fieldLink RX6 54 RX6 "items" "[I" ∈ gtbl := mem_t 700 rfl rfl
set_option maxRecDepth 40000 in
theorem li_X6_spell : Cond.instanceMethod yX6_spell ∈ gtbl := mem_t 662 rfl rfl
theorem ls_X6_spell : Cond.selects yX6_spell.cls yX6_spell yX6_spell ∈ gtbl := mem_s (q := (yX6_spell, 38)) 38 (by decide +kernel)
set_option maxRecDepth 40000 in
theorem lm_X6_57 : Cond.methodLink RX6 57 yX6_spell ∈ gtbl := mem_t 660 rfl rfl
set_option maxRecDepth 40000 in
theorem lf_X6_61 : Cond.fieldLink RX6 61 RX6 "textCount" "I" ∈ gtbl := mem_t 666 rfl rfl
set_option maxRecDepth 40000 in
theorem lf_X6_64 : Cond.fieldLink RX6 64 RX6 "many" "I" ∈ gtbl := mem_t 673 rfl rfl
set_option maxRecDepth 40000 in
theorem lt_X6_in : Cond.static yX6_in ∈ gtbl := mem_t 785 rfl rfl
set_option maxRecDepth 40000 in
theorem lm_X6_67 : Cond.methodLink RX6 67 yX6_in ∈ gtbl := mem_t 784 rfl rfl
set_option maxRecDepth 40000 in
theorem ll_X6_71 : Cond.constantLong RX6 71 (3) ∈ gtbl := mem_t 1060 rfl rfl
set_option maxRecDepth 40000 in
theorem ll_X6_73 : Cond.constantLong RX6 73 (5) ∈ gtbl := mem_t 783 rfl rfl
set_option maxRecDepth 40000 in
theorem li_X6_isCoin : Cond.instanceMethod yX6_isCoin ∈ gtbl := mem_t 789 rfl rfl
theorem ls_X6_isCoin : Cond.selects yX6_isCoin.cls yX6_isCoin yX6_isCoin ∈ gtbl := mem_s (q := (yX6_isCoin, 38)) 39 (by decide +kernel)
set_option maxRecDepth 40000 in
theorem lm_X6_75 : Cond.methodLink RX6 75 yX6_isCoin ∈ gtbl := mem_t 787 rfl rfl
set_option maxRecDepth 40000 in
theorem lt_X6_mostOf : Cond.static yX6_mostOf ∈ gtbl := mem_t 792 rfl rfl
set_option maxRecDepth 40000 in
theorem lm_X6_79 : Cond.methodLink RX6 79 yX6_mostOf ∈ gtbl := mem_t 791 rfl rfl
set_option maxRecDepth 40000 in
theorem ll_X6_101 : Cond.constantLong RX6 101 (11) ∈ gtbl := mem_t 798 rfl rfl
set_option maxRecDepth 40000 in
theorem lf_X6_180 : Cond.fieldLink RX6 180 RX6 "ofValue" "I" ∈ gtbl := mem_t 674 rfl rfl
set_option maxRecDepth 40000 in
theorem lf_X6_183 : Cond.fieldLink RX6 183 RX6 "ofFirst" "I" ∈ gtbl := mem_t 675 rfl rfl
set_option maxRecDepth 40000 in
theorem lf_X6_186 : Cond.fieldLink RX6 186 RX6 "ofNumber" "I" ∈ gtbl := mem_t 676 rfl rfl
set_option maxRecDepth 40000 in
theorem lf_X6_189 : Cond.fieldLink RX6 189 RX6 "ofAge" "I" ∈ gtbl := mem_t 677 rfl rfl
set_option maxRecDepth 40000 in
theorem lf_X6_192 : Cond.fieldLink RX6 192 RX6 "ofOwner" "I" ∈ gtbl := mem_t 678 rfl rfl
set_option maxRecDepth 40000 in
theorem lf_X6_91 : Cond.fieldLink RX6 91 RX6 "dayNow" "I" ∈ gtbl := mem_t 670 rfl rfl
set_option maxRecDepth 40000 in
theorem lf_X6_195 : Cond.fieldLink RX6 195 RX6 "ofDay" "I" ∈ gtbl := mem_t 679 rfl rfl
set_option maxRecDepth 40000 in
theorem lf_X6_94 : Cond.fieldLink RX6 94 RX6 "rule" "I" ∈ gtbl := mem_t 667 rfl rfl
set_option maxRecDepth 40000 in
theorem lf_X6_127 : Cond.fieldLink RX6 127 RX6 "from" "I" ∈ gtbl := mem_t 680 rfl rfl
set_option maxRecDepth 40000 in
theorem lf_X6_124 : Cond.fieldLink RX6 124 RX6 "size" "I" ∈ gtbl := mem_t 681 rfl rfl
set_option maxRecDepth 40000 in
theorem lf_X6_130 : Cond.fieldLink RX6 130 RX6 "here" "I" ∈ gtbl := mem_t 682 rfl rfl
set_option maxRecDepth 40000 in
theorem lf_X6_167 : Cond.fieldLink RX6 167 RX6 "open" "I" ∈ gtbl := mem_t 686 rfl rfl
set_option maxRecDepth 40000 in
theorem lf_X6_156 : Cond.fieldLink RX6 156 RX6 "bad" "Z" ∈ gtbl := mem_t 687 rfl rfl
set_option maxRecDepth 40000 in
theorem li_X6_byteAt : Cond.instanceMethod yX6_byteAt ∈ gtbl := mem_t 818 rfl rfl
theorem ls_X6_byteAt : Cond.selects yX6_byteAt.cls yX6_byteAt yX6_byteAt ∈ gtbl := mem_s (q := (yX6_byteAt, 38)) 44 (by decide +kernel)
set_option maxRecDepth 40000 in
theorem lm_X6_133 : Cond.methodLink RX6 133 yX6_byteAt ∈ gtbl := mem_t 816 rfl rfl
set_option maxRecDepth 40000 in
theorem lf_X6_136 : Cond.fieldLink RX6 136 RX6 "tokenAt" "I" ∈ gtbl := mem_t 684 rfl rfl
set_option maxRecDepth 40000 in
theorem lf_X6_139 : Cond.fieldLink RX6 139 RX6 "token" "I" ∈ gtbl := mem_t 683 rfl rfl
set_option maxRecDepth 40000 in
theorem ll_X6_142 : Cond.constantLong RX6 142 (97) ∈ gtbl := mem_t 820 rfl rfl
set_option maxRecDepth 40000 in
theorem ll_X6_144 : Cond.constantLong RX6 144 (122) ∈ gtbl := mem_t 821 rfl rfl
set_option maxRecDepth 40000 in
theorem ll_X6_146 : Cond.constantLong RX6 146 (48) ∈ gtbl := mem_t 822 rfl rfl
set_option maxRecDepth 40000 in
theorem ll_X6_148 : Cond.constantLong RX6 148 (57) ∈ gtbl := mem_t 823 rfl rfl
set_option maxRecDepth 40000 in
theorem lf_X6_150 : Cond.fieldLink RX6 150 RX6 "tokenWorth" "J" ∈ gtbl := mem_t 685 rfl rfl
set_option maxRecDepth 40000 in
theorem ll_X6_154 : Cond.constantLong RX6 154 (10) ∈ gtbl := mem_t 824 rfl rfl
set_option maxRecDepth 40000 in
theorem li_X6_next : Cond.instanceMethod yX6_next ∈ gtbl := mem_t 814 rfl rfl
theorem ls_X6_next : Cond.selects yX6_next.cls yX6_next yX6_next ∈ gtbl := mem_s (q := (yX6_next, 38)) 43 (by decide +kernel)
set_option maxRecDepth 40000 in
theorem lm_X6_173 : Cond.methodLink RX6 173 yX6_next ∈ gtbl := mem_t 812 rfl rfl
set_option maxRecDepth 40000 in
theorem li_X6_isLetter : Cond.instanceMethod yX6_isLetter ∈ gtbl := mem_t 831 rfl rfl
theorem ls_X6_isLetter : Cond.selects yX6_isLetter.cls yX6_isLetter yX6_isLetter ∈ gtbl := mem_s (q := (yX6_isLetter, 38)) 46 (by decide +kernel)
set_option maxRecDepth 40000 in
theorem lm_X6_163 : Cond.methodLink RX6 163 yX6_isLetter ∈ gtbl := mem_t 829 rfl rfl
set_option maxRecDepth 40000 in
theorem li_X6_isWord : Cond.instanceMethod yX6_isWord ∈ gtbl := mem_t 827 rfl rfl
theorem ls_X6_isWord : Cond.selects yX6_isWord.cls yX6_isWord yX6_isWord ∈ gtbl := mem_s (q := (yX6_isWord, 38)) 45 (by decide +kernel)
set_option maxRecDepth 40000 in
theorem lm_X6_176 : Cond.methodLink RX6 176 yX6_isWord ∈ gtbl := mem_t 825 rfl rfl
set_option maxRecDepth 40000 in
theorem lf_X6_160 : Cond.fieldLink RX6 160 RX6 "fault" "I" ∈ gtbl := mem_t 688 rfl rfl
set_option maxRecDepth 40000 in
theorem li_X6_fail : Cond.instanceMethod yX6_fail ∈ gtbl := mem_t 839 rfl rfl
theorem ls_X6_fail : Cond.selects yX6_fail.cls yX6_fail yX6_fail ∈ gtbl := mem_s (q := (yX6_fail, 38)) 48 (by decide +kernel)
set_option maxRecDepth 40000 in
theorem lm_X6_170 : Cond.methodLink RX6 170 yX6_fail ∈ gtbl := mem_t 837 rfl rfl
set_option maxRecDepth 40000 in
theorem li_X6_isSign : Cond.instanceMethod yX6_isSign ∈ gtbl := mem_t 891 rfl rfl
theorem ls_X6_isSign : Cond.selects yX6_isSign.cls yX6_isSign yX6_isSign ∈ gtbl := mem_s (q := (yX6_isSign, 38)) 61 (by decide +kernel)
set_option maxRecDepth 40000 in
theorem lm_X6_198 : Cond.methodLink RX6 198 yX6_isSign ∈ gtbl := mem_t 889 rfl rfl
set_option maxRecDepth 40000 in
theorem li_X6_opens : Cond.instanceMethod yX6_opens ∈ gtbl := mem_t 855 rfl rfl
theorem ls_X6_opens : Cond.selects yX6_opens.cls yX6_opens yX6_opens ∈ gtbl := mem_s (q := (yX6_opens, 38)) 52 (by decide +kernel)
set_option maxRecDepth 40000 in
theorem lm_X6_201 : Cond.methodLink RX6 201 yX6_opens ∈ gtbl := mem_t 853 rfl rfl
set_option maxRecDepth 40000 in
theorem li_X6_name : Cond.instanceMethod yX6_name ∈ gtbl := mem_t 895 rfl rfl
theorem ls_X6_name : Cond.selects yX6_name.cls yX6_name yX6_name ∈ gtbl := mem_s (q := (yX6_name, 38)) 62 (by decide +kernel)
set_option maxRecDepth 40000 in
theorem lm_X6_205 : Cond.methodLink RX6 205 yX6_name ∈ gtbl := mem_t 893 rfl rfl
set_option maxRecDepth 40000 in
theorem li_X6_atom5 : Cond.instanceMethod yX6_atom5 ∈ gtbl := mem_t 887 rfl rfl
theorem ls_X6_atom5 : Cond.selects yX6_atom5.cls yX6_atom5 yX6_atom5 ∈ gtbl := mem_s (q := (yX6_atom5, 38)) 60 (by decide +kernel)
set_option maxRecDepth 40000 in
theorem lm_X6_209 : Cond.methodLink RX6 209 yX6_atom5 ∈ gtbl := mem_t 885 rfl rfl
set_option maxRecDepth 40000 in
theorem li_X6_term5 : Cond.instanceMethod yX6_term5 ∈ gtbl := mem_t 883 rfl rfl
theorem ls_X6_term5 : Cond.selects yX6_term5.cls yX6_term5 yX6_term5 ∈ gtbl := mem_s (q := (yX6_term5, 38)) 59 (by decide +kernel)
set_option maxRecDepth 40000 in
theorem lm_X6_212 : Cond.methodLink RX6 212 yX6_term5 ∈ gtbl := mem_t 881 rfl rfl
set_option maxRecDepth 40000 in
theorem ll_X6_215 : Cond.constantLong RX6 215 (43) ∈ gtbl := mem_t 897 rfl rfl
set_option maxRecDepth 40000 in
theorem li_X6_added5 : Cond.instanceMethod yX6_added5 ∈ gtbl := mem_t 879 rfl rfl
theorem ls_X6_added5 : Cond.selects yX6_added5.cls yX6_added5 yX6_added5 ∈ gtbl := mem_s (q := (yX6_added5, 38)) 58 (by decide +kernel)
set_option maxRecDepth 40000 in
theorem lm_X6_217 : Cond.methodLink RX6 217 yX6_added5 ∈ gtbl := mem_t 877 rfl rfl
set_option maxRecDepth 40000 in
theorem ll_X6_220 : Cond.constantLong RX6 220 (60) ∈ gtbl := mem_t 898 rfl rfl
set_option maxRecDepth 40000 in
theorem li_X6_not5 : Cond.instanceMethod yX6_not5 ∈ gtbl := mem_t 875 rfl rfl
theorem ls_X6_not5 : Cond.selects yX6_not5.cls yX6_not5 yX6_not5 ∈ gtbl := mem_s (q := (yX6_not5, 38)) 57 (by decide +kernel)
set_option maxRecDepth 40000 in
theorem lm_X6_222 : Cond.methodLink RX6 222 yX6_not5 ∈ gtbl := mem_t 873 rfl rfl
set_option maxRecDepth 40000 in
theorem li_X6_both5 : Cond.instanceMethod yX6_both5 ∈ gtbl := mem_t 917 rfl rfl
theorem ls_X6_both5 : Cond.selects yX6_both5.cls yX6_both5 yX6_both5 ∈ gtbl := mem_s (q := (yX6_both5, 38)) 67 (by decide +kernel)
set_option maxRecDepth 40000 in
theorem lm_X6_225 : Cond.methodLink RX6 225 yX6_both5 ∈ gtbl := mem_t 915 rfl rfl
set_option maxRecDepth 40000 in
theorem li_X6_either5 : Cond.instanceMethod yX6_either5 ∈ gtbl := mem_t 913 rfl rfl
theorem ls_X6_either5 : Cond.selects yX6_either5.cls yX6_either5 yX6_either5 ∈ gtbl := mem_s (q := (yX6_either5, 38)) 66 (by decide +kernel)
set_option maxRecDepth 40000 in
theorem lm_X6_228 : Cond.methodLink RX6 228 yX6_either5 ∈ gtbl := mem_t 911 rfl rfl
set_option maxRecDepth 40000 in
theorem li_X6_atom4 : Cond.instanceMethod yX6_atom4 ∈ gtbl := mem_t 909 rfl rfl
theorem ls_X6_atom4 : Cond.selects yX6_atom4.cls yX6_atom4 yX6_atom4 ∈ gtbl := mem_s (q := (yX6_atom4, 38)) 65 (by decide +kernel)
set_option maxRecDepth 40000 in
theorem lm_X6_231 : Cond.methodLink RX6 231 yX6_atom4 ∈ gtbl := mem_t 907 rfl rfl
set_option maxRecDepth 40000 in
theorem li_X6_term4 : Cond.instanceMethod yX6_term4 ∈ gtbl := mem_t 905 rfl rfl
theorem ls_X6_term4 : Cond.selects yX6_term4.cls yX6_term4 yX6_term4 ∈ gtbl := mem_s (q := (yX6_term4, 38)) 64 (by decide +kernel)
set_option maxRecDepth 40000 in
theorem lm_X6_234 : Cond.methodLink RX6 234 yX6_term4 ∈ gtbl := mem_t 903 rfl rfl
set_option maxRecDepth 40000 in
theorem li_X6_added4 : Cond.instanceMethod yX6_added4 ∈ gtbl := mem_t 901 rfl rfl
theorem ls_X6_added4 : Cond.selects yX6_added4.cls yX6_added4 yX6_added4 ∈ gtbl := mem_s (q := (yX6_added4, 38)) 63 (by decide +kernel)
set_option maxRecDepth 40000 in
theorem lm_X6_237 : Cond.methodLink RX6 237 yX6_added4 ∈ gtbl := mem_t 899 rfl rfl
set_option maxRecDepth 40000 in
theorem li_X6_not4 : Cond.instanceMethod yX6_not4 ∈ gtbl := mem_t 871 rfl rfl
theorem ls_X6_not4 : Cond.selects yX6_not4.cls yX6_not4 yX6_not4 ∈ gtbl := mem_s (q := (yX6_not4, 38)) 56 (by decide +kernel)
set_option maxRecDepth 40000 in
theorem lm_X6_240 : Cond.methodLink RX6 240 yX6_not4 ∈ gtbl := mem_t 869 rfl rfl
set_option maxRecDepth 40000 in
theorem li_X6_both4 : Cond.instanceMethod yX6_both4 ∈ gtbl := mem_t 937 rfl rfl
theorem ls_X6_both4 : Cond.selects yX6_both4.cls yX6_both4 yX6_both4 ∈ gtbl := mem_s (q := (yX6_both4, 38)) 72 (by decide +kernel)
set_option maxRecDepth 40000 in
theorem lm_X6_243 : Cond.methodLink RX6 243 yX6_both4 ∈ gtbl := mem_t 935 rfl rfl
set_option maxRecDepth 40000 in
theorem li_X6_either4 : Cond.instanceMethod yX6_either4 ∈ gtbl := mem_t 933 rfl rfl
theorem ls_X6_either4 : Cond.selects yX6_either4.cls yX6_either4 yX6_either4 ∈ gtbl := mem_s (q := (yX6_either4, 38)) 71 (by decide +kernel)
set_option maxRecDepth 40000 in
theorem lm_X6_246 : Cond.methodLink RX6 246 yX6_either4 ∈ gtbl := mem_t 931 rfl rfl
set_option maxRecDepth 40000 in
theorem li_X6_atom3 : Cond.instanceMethod yX6_atom3 ∈ gtbl := mem_t 929 rfl rfl
theorem ls_X6_atom3 : Cond.selects yX6_atom3.cls yX6_atom3 yX6_atom3 ∈ gtbl := mem_s (q := (yX6_atom3, 38)) 70 (by decide +kernel)
set_option maxRecDepth 40000 in
theorem lm_X6_249 : Cond.methodLink RX6 249 yX6_atom3 ∈ gtbl := mem_t 927 rfl rfl
set_option maxRecDepth 40000 in
theorem li_X6_term3 : Cond.instanceMethod yX6_term3 ∈ gtbl := mem_t 925 rfl rfl
theorem ls_X6_term3 : Cond.selects yX6_term3.cls yX6_term3 yX6_term3 ∈ gtbl := mem_s (q := (yX6_term3, 38)) 69 (by decide +kernel)
set_option maxRecDepth 40000 in
theorem lm_X6_252 : Cond.methodLink RX6 252 yX6_term3 ∈ gtbl := mem_t 923 rfl rfl
set_option maxRecDepth 40000 in
theorem li_X6_added3 : Cond.instanceMethod yX6_added3 ∈ gtbl := mem_t 921 rfl rfl
theorem ls_X6_added3 : Cond.selects yX6_added3.cls yX6_added3 yX6_added3 ∈ gtbl := mem_s (q := (yX6_added3, 38)) 68 (by decide +kernel)
set_option maxRecDepth 40000 in
theorem lm_X6_255 : Cond.methodLink RX6 255 yX6_added3 ∈ gtbl := mem_t 919 rfl rfl
set_option maxRecDepth 40000 in
theorem li_X6_not3 : Cond.instanceMethod yX6_not3 ∈ gtbl := mem_t 867 rfl rfl
theorem ls_X6_not3 : Cond.selects yX6_not3.cls yX6_not3 yX6_not3 ∈ gtbl := mem_s (q := (yX6_not3, 38)) 55 (by decide +kernel)
set_option maxRecDepth 40000 in
theorem lm_X6_258 : Cond.methodLink RX6 258 yX6_not3 ∈ gtbl := mem_t 865 rfl rfl
set_option maxRecDepth 40000 in
theorem li_X6_both3 : Cond.instanceMethod yX6_both3 ∈ gtbl := mem_t 957 rfl rfl
theorem ls_X6_both3 : Cond.selects yX6_both3.cls yX6_both3 yX6_both3 ∈ gtbl := mem_s (q := (yX6_both3, 38)) 77 (by decide +kernel)
set_option maxRecDepth 40000 in
theorem lm_X6_261 : Cond.methodLink RX6 261 yX6_both3 ∈ gtbl := mem_t 955 rfl rfl
set_option maxRecDepth 40000 in
theorem li_X6_either3 : Cond.instanceMethod yX6_either3 ∈ gtbl := mem_t 953 rfl rfl
theorem ls_X6_either3 : Cond.selects yX6_either3.cls yX6_either3 yX6_either3 ∈ gtbl := mem_s (q := (yX6_either3, 38)) 76 (by decide +kernel)
set_option maxRecDepth 40000 in
theorem lm_X6_264 : Cond.methodLink RX6 264 yX6_either3 ∈ gtbl := mem_t 951 rfl rfl
set_option maxRecDepth 40000 in
theorem li_X6_atom2 : Cond.instanceMethod yX6_atom2 ∈ gtbl := mem_t 949 rfl rfl
theorem ls_X6_atom2 : Cond.selects yX6_atom2.cls yX6_atom2 yX6_atom2 ∈ gtbl := mem_s (q := (yX6_atom2, 38)) 75 (by decide +kernel)
set_option maxRecDepth 40000 in
theorem lm_X6_267 : Cond.methodLink RX6 267 yX6_atom2 ∈ gtbl := mem_t 947 rfl rfl
set_option maxRecDepth 40000 in
theorem li_X6_term2 : Cond.instanceMethod yX6_term2 ∈ gtbl := mem_t 945 rfl rfl
theorem ls_X6_term2 : Cond.selects yX6_term2.cls yX6_term2 yX6_term2 ∈ gtbl := mem_s (q := (yX6_term2, 38)) 74 (by decide +kernel)
set_option maxRecDepth 40000 in
theorem lm_X6_270 : Cond.methodLink RX6 270 yX6_term2 ∈ gtbl := mem_t 943 rfl rfl
set_option maxRecDepth 40000 in
theorem li_X6_added2 : Cond.instanceMethod yX6_added2 ∈ gtbl := mem_t 941 rfl rfl
theorem ls_X6_added2 : Cond.selects yX6_added2.cls yX6_added2 yX6_added2 ∈ gtbl := mem_s (q := (yX6_added2, 38)) 73 (by decide +kernel)
set_option maxRecDepth 40000 in
theorem lm_X6_273 : Cond.methodLink RX6 273 yX6_added2 ∈ gtbl := mem_t 939 rfl rfl
set_option maxRecDepth 40000 in
theorem li_X6_not2 : Cond.instanceMethod yX6_not2 ∈ gtbl := mem_t 863 rfl rfl
theorem ls_X6_not2 : Cond.selects yX6_not2.cls yX6_not2 yX6_not2 ∈ gtbl := mem_s (q := (yX6_not2, 38)) 54 (by decide +kernel)
set_option maxRecDepth 40000 in
theorem lm_X6_276 : Cond.methodLink RX6 276 yX6_not2 ∈ gtbl := mem_t 861 rfl rfl
set_option maxRecDepth 40000 in
theorem li_X6_both2 : Cond.instanceMethod yX6_both2 ∈ gtbl := mem_t 977 rfl rfl
theorem ls_X6_both2 : Cond.selects yX6_both2.cls yX6_both2 yX6_both2 ∈ gtbl := mem_s (q := (yX6_both2, 38)) 82 (by decide +kernel)
set_option maxRecDepth 40000 in
theorem lm_X6_279 : Cond.methodLink RX6 279 yX6_both2 ∈ gtbl := mem_t 975 rfl rfl
set_option maxRecDepth 40000 in
theorem li_X6_either2 : Cond.instanceMethod yX6_either2 ∈ gtbl := mem_t 973 rfl rfl
theorem ls_X6_either2 : Cond.selects yX6_either2.cls yX6_either2 yX6_either2 ∈ gtbl := mem_s (q := (yX6_either2, 38)) 81 (by decide +kernel)
set_option maxRecDepth 40000 in
theorem lm_X6_282 : Cond.methodLink RX6 282 yX6_either2 ∈ gtbl := mem_t 971 rfl rfl
set_option maxRecDepth 40000 in
theorem li_X6_atom1 : Cond.instanceMethod yX6_atom1 ∈ gtbl := mem_t 969 rfl rfl
theorem ls_X6_atom1 : Cond.selects yX6_atom1.cls yX6_atom1 yX6_atom1 ∈ gtbl := mem_s (q := (yX6_atom1, 38)) 80 (by decide +kernel)
set_option maxRecDepth 40000 in
theorem lm_X6_285 : Cond.methodLink RX6 285 yX6_atom1 ∈ gtbl := mem_t 967 rfl rfl
set_option maxRecDepth 40000 in
theorem li_X6_term1 : Cond.instanceMethod yX6_term1 ∈ gtbl := mem_t 965 rfl rfl
theorem ls_X6_term1 : Cond.selects yX6_term1.cls yX6_term1 yX6_term1 ∈ gtbl := mem_s (q := (yX6_term1, 38)) 79 (by decide +kernel)
set_option maxRecDepth 40000 in
theorem lm_X6_288 : Cond.methodLink RX6 288 yX6_term1 ∈ gtbl := mem_t 963 rfl rfl
set_option maxRecDepth 40000 in
theorem li_X6_added1 : Cond.instanceMethod yX6_added1 ∈ gtbl := mem_t 961 rfl rfl
theorem ls_X6_added1 : Cond.selects yX6_added1.cls yX6_added1 yX6_added1 ∈ gtbl := mem_s (q := (yX6_added1, 38)) 78 (by decide +kernel)
set_option maxRecDepth 40000 in
theorem lm_X6_291 : Cond.methodLink RX6 291 yX6_added1 ∈ gtbl := mem_t 959 rfl rfl
set_option maxRecDepth 40000 in
theorem li_X6_not1 : Cond.instanceMethod yX6_not1 ∈ gtbl := mem_t 859 rfl rfl
theorem ls_X6_not1 : Cond.selects yX6_not1.cls yX6_not1 yX6_not1 ∈ gtbl := mem_s (q := (yX6_not1, 38)) 53 (by decide +kernel)
set_option maxRecDepth 40000 in
theorem lm_X6_294 : Cond.methodLink RX6 294 yX6_not1 ∈ gtbl := mem_t 857 rfl rfl
set_option maxRecDepth 40000 in
theorem li_X6_both1 : Cond.instanceMethod yX6_both1 ∈ gtbl := mem_t 997 rfl rfl
theorem ls_X6_both1 : Cond.selects yX6_both1.cls yX6_both1 yX6_both1 ∈ gtbl := mem_s (q := (yX6_both1, 38)) 87 (by decide +kernel)
set_option maxRecDepth 40000 in
theorem lm_X6_297 : Cond.methodLink RX6 297 yX6_both1 ∈ gtbl := mem_t 995 rfl rfl
set_option maxRecDepth 40000 in
theorem li_X6_either1 : Cond.instanceMethod yX6_either1 ∈ gtbl := mem_t 993 rfl rfl
theorem ls_X6_either1 : Cond.selects yX6_either1.cls yX6_either1 yX6_either1 ∈ gtbl := mem_s (q := (yX6_either1, 38)) 86 (by decide +kernel)
set_option maxRecDepth 40000 in
theorem lm_X6_300 : Cond.methodLink RX6 300 yX6_either1 ∈ gtbl := mem_t 991 rfl rfl
set_option maxRecDepth 40000 in
theorem li_X6_atom0 : Cond.instanceMethod yX6_atom0 ∈ gtbl := mem_t 989 rfl rfl
theorem ls_X6_atom0 : Cond.selects yX6_atom0.cls yX6_atom0 yX6_atom0 ∈ gtbl := mem_s (q := (yX6_atom0, 38)) 85 (by decide +kernel)
set_option maxRecDepth 40000 in
theorem lm_X6_303 : Cond.methodLink RX6 303 yX6_atom0 ∈ gtbl := mem_t 987 rfl rfl
set_option maxRecDepth 40000 in
theorem li_X6_term0 : Cond.instanceMethod yX6_term0 ∈ gtbl := mem_t 985 rfl rfl
theorem ls_X6_term0 : Cond.selects yX6_term0.cls yX6_term0 yX6_term0 ∈ gtbl := mem_s (q := (yX6_term0, 38)) 84 (by decide +kernel)
set_option maxRecDepth 40000 in
theorem lm_X6_306 : Cond.methodLink RX6 306 yX6_term0 ∈ gtbl := mem_t 983 rfl rfl
set_option maxRecDepth 40000 in
theorem li_X6_added0 : Cond.instanceMethod yX6_added0 ∈ gtbl := mem_t 981 rfl rfl
theorem ls_X6_added0 : Cond.selects yX6_added0.cls yX6_added0 yX6_added0 ∈ gtbl := mem_s (q := (yX6_added0, 38)) 83 (by decide +kernel)
set_option maxRecDepth 40000 in
theorem lm_X6_309 : Cond.methodLink RX6 309 yX6_added0 ∈ gtbl := mem_t 979 rfl rfl
set_option maxRecDepth 40000 in
theorem li_X6_not0 : Cond.instanceMethod yX6_not0 ∈ gtbl := mem_t 851 rfl rfl
theorem ls_X6_not0 : Cond.selects yX6_not0.cls yX6_not0 yX6_not0 ∈ gtbl := mem_s (q := (yX6_not0, 38)) 51 (by decide +kernel)
set_option maxRecDepth 40000 in
theorem lm_X6_312 : Cond.methodLink RX6 312 yX6_not0 ∈ gtbl := mem_t 849 rfl rfl
set_option maxRecDepth 40000 in
theorem li_X6_both0 : Cond.instanceMethod yX6_both0 ∈ gtbl := mem_t 847 rfl rfl
theorem ls_X6_both0 : Cond.selects yX6_both0.cls yX6_both0 yX6_both0 ∈ gtbl := mem_s (q := (yX6_both0, 38)) 50 (by decide +kernel)
set_option maxRecDepth 40000 in
theorem lm_X6_315 : Cond.methodLink RX6 315 yX6_both0 ∈ gtbl := mem_t 845 rfl rfl
set_option maxRecDepth 40000 in
theorem li_X6_either0 : Cond.instanceMethod yX6_either0 ∈ gtbl := mem_t 843 rfl rfl
theorem ls_X6_either0 : Cond.selects yX6_either0.cls yX6_either0 yX6_either0 ∈ gtbl := mem_s (q := (yX6_either0, 38)) 49 (by decide +kernel)
set_option maxRecDepth 40000 in
theorem lm_X6_318 : Cond.methodLink RX6 318 yX6_either0 ∈ gtbl := mem_t 841 rfl rfl
set_option maxRecDepth 40000 in
theorem li_X6_part : Cond.instanceMethod yX6_part ∈ gtbl := mem_t 835 rfl rfl
theorem ls_X6_part : Cond.selects yX6_part.cls yX6_part yX6_part ∈ gtbl := mem_s (q := (yX6_part, 38)) 47 (by decide +kernel)
set_option maxRecDepth 40000 in
theorem lm_X6_321 : Cond.methodLink RX6 321 yX6_part ∈ gtbl := mem_t 833 rfl rfl
set_option maxRecDepth 40000 in
theorem li_X6_read : Cond.instanceMethod yX6_read ∈ gtbl := mem_t 810 rfl rfl
theorem ls_X6_read : Cond.selects yX6_read.cls yX6_read yX6_read ∈ gtbl := mem_s (q := (yX6_read, 38)) 42 (by decide +kernel)
set_option maxRecDepth 40000 in
theorem lm_X6_325 : Cond.methodLink RX6 325 yX6_read ∈ gtbl := mem_t 808 rfl rfl
set_option maxRecDepth 40000 in
theorem lt_X6_within : Cond.static yX6_within ∈ gtbl := mem_t 1000 rfl rfl
set_option maxRecDepth 40000 in
theorem lm_X6_328 : Cond.methodLink RX6 328 yX6_within ∈ gtbl := mem_t 999 rfl rfl
set_option maxRecDepth 40000 in
theorem li_X6_says : Cond.instanceMethod yX6_says ∈ gtbl := mem_t 806 rfl rfl
theorem ls_X6_says : Cond.selects yX6_says.cls yX6_says yX6_says ∈ gtbl := mem_s (q := (yX6_says, 38)) 41 (by decide +kernel)
set_option maxRecDepth 40000 in
theorem lm_X6_332 : Cond.methodLink RX6 332 yX6_says ∈ gtbl := mem_t 804 rfl rfl
set_option maxRecDepth 40000 in
theorem li_X6_turnsOf : Cond.instanceMethod yX6_turnsOf ∈ gtbl := mem_t 802 rfl rfl
theorem ls_X6_turnsOf : Cond.selects yX6_turnsOf.cls yX6_turnsOf yX6_turnsOf ∈ gtbl := mem_s (q := (yX6_turnsOf, 38)) 40 (by decide +kernel)
set_option maxRecDepth 40000 in
theorem lm_X6_104 : Cond.methodLink RX6 104 yX6_turnsOf ∈ gtbl := mem_t 800 rfl rfl
set_option maxRecDepth 40000 in
theorem li_X6_givesOf : Cond.instanceMethod yX6_givesOf ∈ gtbl := mem_t 1004 rfl rfl
theorem ls_X6_givesOf : Cond.selects yX6_givesOf.cls yX6_givesOf yX6_givesOf ∈ gtbl := mem_s (q := (yX6_givesOf, 38)) 88 (by decide +kernel)
set_option maxRecDepth 40000 in
theorem lm_X6_107 : Cond.methodLink RX6 107 yX6_givesOf ∈ gtbl := mem_t 1002 rfl rfl
set_option maxRecDepth 40000 in
theorem li_X6_spoilsOf : Cond.instanceMethod yX6_spoilsOf ∈ gtbl := mem_t 1008 rfl rfl
theorem ls_X6_spoilsOf : Cond.selects yX6_spoilsOf.cls yX6_spoilsOf yX6_spoilsOf ∈ gtbl := mem_s (q := (yX6_spoilsOf, 38)) 89 (by decide +kernel)
set_option maxRecDepth 40000 in
theorem lm_X6_110 : Cond.methodLink RX6 110 yX6_spoilsOf ∈ gtbl := mem_t 1006 rfl rfl
set_option maxRecDepth 40000 in
theorem li_X6_worthOf : Cond.instanceMethod yX6_worthOf ∈ gtbl := mem_t 1016 rfl rfl
theorem ls_X6_worthOf : Cond.selects yX6_worthOf.cls yX6_worthOf yX6_worthOf ∈ gtbl := mem_s (q := (yX6_worthOf, 38)) 91 (by decide +kernel)
set_option maxRecDepth 40000 in
theorem lm_X6_116 : Cond.methodLink RX6 116 yX6_worthOf ∈ gtbl := mem_t 1014 rfl rfl
set_option maxRecDepth 40000 in
theorem li_X6_isWhole : Cond.instanceMethod yX6_isWhole ∈ gtbl := mem_t 1012 rfl rfl
theorem ls_X6_isWhole : Cond.selects yX6_isWhole.cls yX6_isWhole yX6_isWhole ∈ gtbl := mem_s (q := (yX6_isWhole, 38)) 90 (by decide +kernel)
set_option maxRecDepth 40000 in
theorem lm_X6_113 : Cond.methodLink RX6 113 yX6_isWhole ∈ gtbl := mem_t 1010 rfl rfl
set_option maxRecDepth 40000 in
theorem lc_X6_103 : Cond.constant RX6 103 (-100000) ∈ gtbl := mem_t 799 rfl rfl
set_option maxRecDepth 40000 in
theorem li_X6_told : Cond.instanceMethod yX6_told ∈ gtbl := mem_t 795 rfl rfl
set_option maxRecDepth 40000 in
theorem ls_X6_told : Cond.selects yX6_told.cls yX6_told yX6_told ∈ gtbl := mem_t 796 rfl rfl
set_option maxRecDepth 40000 in
theorem lm_X6_83 : Cond.methodLink RX6 83 yX6_told ∈ gtbl := mem_t 794 rfl rfl
set_option maxRecDepth 40000 in
theorem li_X6_lays : Cond.instanceMethod yX6_lays ∈ gtbl := mem_t 1020 rfl rfl
theorem ls_X6_lays : Cond.selects yX6_lays.cls yX6_lays yX6_lays ∈ gtbl := mem_s (q := (yX6_lays, 38)) 92 (by decide +kernel)
set_option maxRecDepth 40000 in
theorem lm_X6_87 : Cond.methodLink RX6 87 yX6_lays ∈ gtbl := mem_t 1018 rfl rfl
set_option maxRecDepth 40000 in
theorem ll_X6_97 : Cond.constantLong RX6 97 (9) ∈ gtbl := mem_t 1026 rfl rfl
set_option maxRecDepth 40000 in
theorem ll_X6_99 : Cond.constantLong RX6 99 (99) ∈ gtbl := mem_t 1027 rfl rfl
set_option maxRecDepth 40000 in
theorem ll_X6_119 : Cond.constantLong RX6 119 (255) ∈ gtbl := mem_t 1033 rfl rfl
set_option maxRecDepth 40000 in
theorem lf_X6_121 : Cond.fieldLink RX6 121 RX6 "taped" "I" ∈ gtbl := mem_t 669 rfl rfl
set_option maxRecDepth 40000 in
theorem li_X6_isOf : Cond.instanceMethod yX6_isOf ∈ gtbl := mem_t 1080 rfl rfl
theorem ls_X6_isOf : Cond.selects yX6_isOf.cls yX6_isOf yX6_isOf ∈ gtbl := mem_s (q := (yX6_isOf, 38)) 97 (by decide +kernel)
set_option maxRecDepth 40000 in
theorem lm_X6_335 : Cond.methodLink RX6 335 yX6_isOf ∈ gtbl := mem_t 1078 rfl rfl
set_option maxRecDepth 40000 in
theorem lt_X6_bitsOf : Cond.static yX6_bitsOf ∈ gtbl := mem_t 1051 rfl rfl
set_option maxRecDepth 40000 in
theorem lm_X6_338 : Cond.methodLink RX6 338 yX6_bitsOf ∈ gtbl := mem_t 1050 rfl rfl
set_option maxRecDepth 40000 in
theorem li_X6_passes : Cond.instanceMethod yX6_passes ∈ gtbl := mem_t 1048 rfl rfl
theorem ls_X6_passes : Cond.selects yX6_passes.cls yX6_passes yX6_passes ∈ gtbl := mem_s (q := (yX6_passes, 38)) 93 (by decide +kernel)
set_option maxRecDepth 40000 in
theorem lm_X6_341 : Cond.methodLink RX6 341 yX6_passes ∈ gtbl := mem_t 1046 rfl rfl
set_option maxRecDepth 40000 in
theorem lt_X6_isOwner : Cond.static yX6_isOwner ∈ gtbl := mem_t 1058 rfl rfl
set_option maxRecDepth 40000 in
theorem lm_X6_344 : Cond.methodLink RX6 344 yX6_isOwner ∈ gtbl := mem_t 1057 rfl rfl
set_option maxRecDepth 40000 in
theorem li_X6_pays : Cond.instanceMethod yX6_pays ∈ gtbl := mem_t 1063 rfl rfl
theorem ls_X6_pays : Cond.selects yX6_pays.cls yX6_pays yX6_pays ∈ gtbl := mem_s (q := (yX6_pays, 38)) 94 (by decide +kernel)
set_option maxRecDepth 40000 in
theorem lm_X6_347 : Cond.methodLink RX6 347 yX6_pays ∈ gtbl := mem_t 1061 rfl rfl
set_option maxRecDepth 40000 in
theorem ll_X6_351 : Cond.constantLong RX6 351 (999) ∈ gtbl := mem_t 1069 rfl rfl
set_option maxRecDepth 40000 in
theorem li_X6_purseOf : Cond.instanceMethod yX6_purseOf ∈ gtbl := mem_t 1076 rfl rfl
theorem ls_X6_purseOf : Cond.selects yX6_purseOf.cls yX6_purseOf yX6_purseOf ∈ gtbl := mem_s (q := (yX6_purseOf, 38)) 96 (by decide +kernel)
set_option maxRecDepth 40000 in
theorem lm_X6_359 : Cond.methodLink RX6 359 yX6_purseOf ∈ gtbl := mem_t 1074 rfl rfl
set_option maxRecDepth 40000 in
theorem li_X6_valuesOf : Cond.instanceMethod yX6_valuesOf ∈ gtbl := mem_t 1084 rfl rfl
theorem ls_X6_valuesOf : Cond.selects yX6_valuesOf.cls yX6_valuesOf yX6_valuesOf ∈ gtbl := mem_s (q := (yX6_valuesOf, 38)) 98 (by decide +kernel)
set_option maxRecDepth 40000 in
theorem lm_X6_373 : Cond.methodLink RX6 373 yX6_valuesOf ∈ gtbl := mem_t 1082 rfl rfl
set_option maxRecDepth 40000 in
theorem li_X6_exactOf : Cond.instanceMethod yX6_exactOf ∈ gtbl := mem_t 1072 rfl rfl
theorem ls_X6_exactOf : Cond.selects yX6_exactOf.cls yX6_exactOf yX6_exactOf ∈ gtbl := mem_s (q := (yX6_exactOf, 38)) 95 (by decide +kernel)
set_option maxRecDepth 40000 in
theorem lm_X6_353 : Cond.methodLink RX6 353 yX6_exactOf ∈ gtbl := mem_t 1070 rfl rfl
set_option maxRecDepth 40000 in
theorem lf_X6_356 : Cond.fieldLink RX6 356 RX6 "dayWas" "I" ∈ gtbl := mem_t 691 rfl rfl
set_option maxRecDepth 40000 in
theorem li_X6_laysAside : Cond.instanceMethod yX6_laysAside ∈ gtbl := mem_t 1109 rfl rfl
theorem ls_X6_laysAside : Cond.selects yX6_laysAside.cls yX6_laysAside yX6_laysAside ∈ gtbl := mem_s (q := (yX6_laysAside, 38)) 103 (by decide +kernel)
set_option maxRecDepth 40000 in
theorem lm_X6_362 : Cond.methodLink RX6 362 yX6_laysAside ∈ gtbl := mem_t 1107 rfl rfl
set_option maxRecDepth 40000 in
theorem li_X6_laysBack : Cond.instanceMethod yX6_laysBack ∈ gtbl := mem_t 1113 rfl rfl
theorem ls_X6_laysBack : Cond.selects yX6_laysBack.cls yX6_laysBack yX6_laysBack ∈ gtbl := mem_s (q := (yX6_laysBack, 38)) 104 (by decide +kernel)
set_option maxRecDepth 40000 in
theorem lm_X6_365 : Cond.methodLink RX6 365 yX6_laysBack ∈ gtbl := mem_t 1111 rfl rfl
set_option maxRecDepth 40000 in
theorem ll_X6_368 : Cond.constantLong RX6 368 (6) ∈ gtbl := mem_t 1090 rfl rfl
set_option maxRecDepth 40000 in
theorem li_X6_taxOf : Cond.instanceMethod yX6_taxOf ∈ gtbl := mem_t 1117 rfl rfl
theorem ls_X6_taxOf : Cond.selects yX6_taxOf.cls yX6_taxOf yX6_taxOf ∈ gtbl := mem_s (q := (yX6_taxOf, 38)) 105 (by decide +kernel)
set_option maxRecDepth 40000 in
theorem lm_X6_385 : Cond.methodLink RX6 385 yX6_taxOf ∈ gtbl := mem_t 1115 rfl rfl
set_option maxRecDepth 40000 in
theorem li_X6_goneOf : Cond.instanceMethod yX6_goneOf ∈ gtbl := mem_t 1105 rfl rfl
theorem ls_X6_goneOf : Cond.selects yX6_goneOf.cls yX6_goneOf yX6_goneOf ∈ gtbl := mem_s (q := (yX6_goneOf, 38)) 102 (by decide +kernel)
set_option maxRecDepth 40000 in
theorem lm_X6_382 : Cond.methodLink RX6 382 yX6_goneOf ∈ gtbl := mem_t 1103 rfl rfl
set_option maxRecDepth 40000 in
theorem li_X6_spendOf : Cond.instanceMethod yX6_spendOf ∈ gtbl := mem_t 1101 rfl rfl
theorem ls_X6_spendOf : Cond.selects yX6_spendOf.cls yX6_spendOf yX6_spendOf ∈ gtbl := mem_s (q := (yX6_spendOf, 38)) 101 (by decide +kernel)
set_option maxRecDepth 40000 in
theorem lm_X6_379 : Cond.methodLink RX6 379 yX6_spendOf ∈ gtbl := mem_t 1099 rfl rfl
set_option maxRecDepth 40000 in
theorem li_X6_turnedOf : Cond.instanceMethod yX6_turnedOf ∈ gtbl := mem_t 1097 rfl rfl
theorem ls_X6_turnedOf : Cond.selects yX6_turnedOf.cls yX6_turnedOf yX6_turnedOf ∈ gtbl := mem_s (q := (yX6_turnedOf, 38)) 100 (by decide +kernel)
set_option maxRecDepth 40000 in
theorem lm_X6_376 : Cond.methodLink RX6 376 yX6_turnedOf ∈ gtbl := mem_t 1095 rfl rfl
set_option maxRecDepth 40000 in
theorem li_X6_richOf : Cond.instanceMethod yX6_richOf ∈ gtbl := mem_t 1093 rfl rfl
theorem ls_X6_richOf : Cond.selects yX6_richOf.cls yX6_richOf yX6_richOf ∈ gtbl := mem_s (q := (yX6_richOf, 38)) 99 (by decide +kernel)
set_option maxRecDepth 40000 in
theorem lm_X6_370 : Cond.methodLink RX6 370 yX6_richOf ∈ gtbl := mem_t 1091 rfl rfl
set_option maxRecDepth 40000 in
theorem ll_X6_388 : Cond.constantLong RX6 388 (40) ∈ gtbl := mem_t 1123 rfl rfl
set_option maxRecDepth 40000 in
theorem li_X6_overOf : Cond.instanceMethod yX6_overOf ∈ gtbl := mem_t 1130 rfl rfl
theorem ls_X6_overOf : Cond.selects yX6_overOf.cls yX6_overOf yX6_overOf ∈ gtbl := mem_s (q := (yX6_overOf, 38)) 106 (by decide +kernel)
set_option maxRecDepth 40000 in
theorem lm_X6_390 : Cond.methodLink RX6 390 yX6_overOf ∈ gtbl := mem_t 1128 rfl rfl
set_option maxRecDepth 40000 in
theorem li_X6_bothBehind : Cond.instanceMethod yX6_bothBehind ∈ gtbl := mem_t 1142 rfl rfl
theorem ls_X6_bothBehind : Cond.selects yX6_bothBehind.cls yX6_bothBehind yX6_bothBehind ∈ gtbl := mem_s (q := (yX6_bothBehind, 38)) 107 (by decide +kernel)
set_option maxRecDepth 40000 in
theorem lm_X6_393 : Cond.methodLink RX6 393 yX6_bothBehind ∈ gtbl := mem_t 1140 rfl rfl
set_option maxRecDepth 40000 in
theorem li_X6_firstOther : Cond.instanceMethod yX6_firstOther ∈ gtbl := mem_t 1153 rfl rfl
theorem ls_X6_firstOther : Cond.selects yX6_firstOther.cls yX6_firstOther yX6_firstOther ∈ gtbl := mem_s (q := (yX6_firstOther, 38)) 108 (by decide +kernel)
set_option maxRecDepth 40000 in
theorem lm_X6_396 : Cond.methodLink RX6 396 yX6_firstOther ∈ gtbl := mem_t 1151 rfl rfl
set_option maxRecDepth 40000 in
theorem lt_X6_isSheet : Cond.static yX6_isSheet ∈ gtbl := mem_t 1149 rfl rfl
set_option maxRecDepth 40000 in
theorem lm_X6_399 : Cond.methodLink RX6 399 yX6_isSheet ∈ gtbl := mem_t 1148 rfl rfl
set_option maxRecDepth 40000 in
theorem li_X6_likeSet : Cond.instanceMethod yX6_likeSet ∈ gtbl := mem_t 1157 rfl rfl
theorem ls_X6_likeSet : Cond.selects yX6_likeSet.cls yX6_likeSet yX6_likeSet ∈ gtbl := mem_s (q := (yX6_likeSet, 38)) 109 (by decide +kernel)
set_option maxRecDepth 40000 in
theorem lm_X6_402 : Cond.methodLink RX6 402 yX6_likeSet ∈ gtbl := mem_t 1155 rfl rfl
set_option maxRecDepth 40000 in
theorem ll_X6_425 : Cond.constantLong RX6 425 (-1) ∈ gtbl := mem_t 1167 rfl rfl
set_option maxRecDepth 40000 in
theorem ll_X6_427 : Cond.constantLong RX6 427 (2) ∈ gtbl := mem_t 1168 rfl rfl
set_option maxRecDepth 40000 in
theorem li_X6_sheet : Cond.instanceMethod yX6_sheet ∈ gtbl := mem_t 1164 rfl rfl
set_option maxRecDepth 40000 in
theorem ls_X6_sheet : Cond.selects yX6_sheet.cls yX6_sheet yX6_sheet ∈ gtbl := mem_t 1165 rfl rfl
set_option maxRecDepth 40000 in
theorem lm_X6_405 : Cond.methodLink RX6 405 yX6_sheet ∈ gtbl := mem_t 1163 rfl rfl
set_option maxRecDepth 40000 in
theorem lc_X6_408 : Cond.constant RX6 408 (1103515245) ∈ gtbl := mem_t 1177 rfl rfl
set_option maxRecDepth 40000 in
theorem li_X6_draws : Cond.instanceMethod yX6_draws ∈ gtbl := mem_t 1175 rfl rfl
theorem ls_X6_draws : Cond.selects yX6_draws.cls yX6_draws yX6_draws ∈ gtbl := mem_s (q := (yX6_draws, 38)) 110 (by decide +kernel)
set_option maxRecDepth 40000 in
theorem lm_X6_409 : Cond.methodLink RX6 409 yX6_draws ∈ gtbl := mem_t 1173 rfl rfl
set_option maxRecDepth 40000 in
theorem ll_X6_413 : Cond.constantLong RX6 413 (20) ∈ gtbl := mem_t 1182 rfl rfl
set_option maxRecDepth 40000 in
theorem ll_X6_415 : Cond.constantLong RX6 415 (8) ∈ gtbl := mem_t 1183 rfl rfl
set_option maxRecDepth 40000 in
theorem ll_X6_417 : Cond.constantLong RX6 417 (-4611686018427387904) ∈ gtbl := mem_t 1184 rfl rfl
set_option maxRecDepth 40000 in
theorem lf_X6_419 : Cond.fieldLink RX6 419 RX6 "dayKept" "I" ∈ gtbl := mem_t 695 rfl rfl
set_option maxRecDepth 40000 in
theorem lf_X6_422 : Cond.fieldLink RX6 422 RX6 "ruleKept" "I" ∈ gtbl := mem_t 696 rfl rfl
set_option maxRecDepth 40000 in
theorem li_X6_coin : Cond.instanceMethod yX6_coin ∈ gtbl := mem_t 1023 rfl rfl
set_option maxRecDepth 40000 in
theorem ls_X6_coin : Cond.selects yX6_coin.cls yX6_coin yX6_coin ∈ gtbl := mem_t 1024 rfl rfl
set_option maxRecDepth 40000 in
theorem lm_X6_429 : Cond.methodLink RX6 429 yX6_coin ∈ gtbl := mem_t 1210 rfl rfl
set_option maxRecDepth 40000 in
theorem lt_X6_over : Cond.static yX6_over ∈ gtbl := mem_t 1216 rfl rfl
set_option maxRecDepth 40000 in
theorem lm_X6_432 : Cond.methodLink RX6 432 yX6_over ∈ gtbl := mem_t 1215 rfl rfl
set_option maxRecDepth 40000 in
theorem li_X3_put : Cond.instanceMethod yX3_put ∈ gtbl := mem_t 236 rfl rfl
theorem ls_X3_put : Cond.selects yX3_put.cls yX3_put yX3_put ∈ gtbl := mem_s (q := (yX3_put, 8)) 7 (by decide +kernel)
set_option maxRecDepth 40000 in
theorem lm_X3_63 : Cond.methodLink RX3 63 yX3_put ∈ gtbl := mem_t 234 rfl rfl
set_option maxRecDepth 40000 in
theorem li_X3_readOne : Cond.instanceMethod yX3_readOne ∈ gtbl := mem_t 232 rfl rfl
theorem ls_X3_readOne : Cond.selects yX3_readOne.cls yX3_readOne yX3_readOne ∈ gtbl := mem_s (q := (yX3_readOne, 8)) 6 (by decide +kernel)
set_option maxRecDepth 40000 in
theorem lm_X3_59 : Cond.methodLink RX3 59 yX3_readOne ∈ gtbl := mem_t 230 rfl rfl
set_option maxRecDepth 40000 in
theorem lt_X3_levelOf : Cond.static yX3_levelOf ∈ gtbl := mem_t 239 rfl rfl
set_option maxRecDepth 40000 in
theorem lm_X3_66 : Cond.methodLink RX3 66 yX3_levelOf ∈ gtbl := mem_t 238 rfl rfl
set_option maxRecDepth 40000 in
theorem lk_L_7 : Cond.classLink RL 7 RX5 ∈ gtbl := mem_t 16 rfl rfl
set_option maxRecDepth 40000 in
theorem la_X5 : Cond.instantiable RX5 11 ∈ gtbl := mem_t 17 rfl rfl
set_option maxRecDepth 40000 in
theorem ln_X5 : Cond.initialized RX5 ∈ gtbl := mem_t 1 rfl rfl
set_option maxRecDepth 40000 in
theorem li_X5_init : Cond.instanceMethod yX5_init ∈ gtbl := mem_t 19 rfl rfl
set_option maxRecDepth 40000 in
theorem lm_L_9 : Cond.methodLink RL 9 yX5_init ∈ gtbl := mem_t 18 rfl rfl
set_option maxRecDepth 40000 in
theorem lk_L_10 : Cond.classLink RL 10 RX6 ∈ gtbl := mem_t 654 rfl rfl
set_option maxRecDepth 40000 in
theorem la_X6 : Cond.instantiable RX6 38 ∈ gtbl := mem_t 655 rfl rfl
set_option maxRecDepth 40000 in
theorem ln_X6 : Cond.initialized RX6 ∈ gtbl := mem_t 14 rfl rfl
set_option maxRecDepth 40000 in
theorem li_X6_init : Cond.instanceMethod yX6_init ∈ gtbl := mem_t 657 rfl rfl
set_option maxRecDepth 40000 in
theorem lm_L_12 : Cond.methodLink RL 12 yX6_init ∈ gtbl := mem_t 656 rfl rfl
set_option maxRecDepth 40000 in
theorem li_X5_set : Cond.instanceMethod yX5_set ∈ gtbl := mem_t 317 rfl rfl
set_option maxRecDepth 40000 in
theorem ls_X5_set : Cond.selects yX5_set.cls yX5_set yX5_set ∈ gtbl := mem_t 318 rfl rfl
set_option maxRecDepth 40000 in
theorem lm_L_13 : Cond.methodLink RL 13 yX5_set ∈ gtbl := mem_t 316 rfl rfl
set_option maxRecDepth 40000 in
theorem li_X6_set : Cond.instanceMethod yX6_set ∈ gtbl := mem_t 780 rfl rfl
set_option maxRecDepth 40000 in
theorem ls_X6_set : Cond.selects yX6_set.cls yX6_set yX6_set ∈ gtbl := mem_t 781 rfl rfl
set_option maxRecDepth 40000 in
theorem lm_L_17 : Cond.methodLink RL 17 yX6_set ∈ gtbl := mem_t 779 rfl rfl
set_option maxRecDepth 40000 in
theorem lm_L_18 : Cond.methodLink RL 18 yX5_coin ∈ gtbl := mem_t 337 rfl rfl
set_option maxRecDepth 40000 in
theorem lm_L_21 : Cond.methodLink RL 21 yX6_coin ∈ gtbl := mem_t 1022 rfl rfl
set_option maxRecDepth 40000 in
theorem li_X5_told : Cond.instanceMethod yX5_told ∈ gtbl := mem_t 349 rfl rfl
set_option maxRecDepth 40000 in
theorem ls_X5_told : Cond.selects yX5_told.cls yX5_told yX5_told ∈ gtbl := mem_t 350 rfl rfl
set_option maxRecDepth 40000 in
theorem lm_L_22 : Cond.methodLink RL 22 yX5_told ∈ gtbl := mem_t 348 rfl rfl
set_option maxRecDepth 40000 in
theorem lm_L_26 : Cond.methodLink RL 26 yX6_told ∈ gtbl := mem_t 1028 rfl rfl
set_option maxRecDepth 40000 in
theorem li_X5_feed : Cond.instanceMethod yX5_feed ∈ gtbl := mem_t 407 rfl rfl
set_option maxRecDepth 40000 in
theorem ls_X5_feed : Cond.selects yX5_feed.cls yX5_feed yX5_feed ∈ gtbl := mem_t 408 rfl rfl
set_option maxRecDepth 40000 in
theorem lm_L_27 : Cond.methodLink RL 27 yX5_feed ∈ gtbl := mem_t 406 rfl rfl
set_option maxRecDepth 40000 in
theorem li_X6_feed : Cond.instanceMethod yX6_feed ∈ gtbl := mem_t 1030 rfl rfl
set_option maxRecDepth 40000 in
theorem ls_X6_feed : Cond.selects yX6_feed.cls yX6_feed yX6_feed ∈ gtbl := mem_t 1031 rfl rfl
set_option maxRecDepth 40000 in
theorem lm_L_31 : Cond.methodLink RL 31 yX6_feed ∈ gtbl := mem_t 1029 rfl rfl
set_option maxRecDepth 40000 in
theorem li_X5_text : Cond.instanceMethod yX5_text ∈ gtbl := mem_t 411 rfl rfl
set_option maxRecDepth 40000 in
theorem ls_X5_text : Cond.selects yX5_text.cls yX5_text yX5_text ∈ gtbl := mem_t 412 rfl rfl
set_option maxRecDepth 40000 in
theorem lm_L_32 : Cond.methodLink RL 32 yX5_text ∈ gtbl := mem_t 410 rfl rfl
set_option maxRecDepth 40000 in
theorem li_X6_text : Cond.instanceMethod yX6_text ∈ gtbl := mem_t 1035 rfl rfl
set_option maxRecDepth 40000 in
theorem ls_X6_text : Cond.selects yX6_text.cls yX6_text yX6_text ∈ gtbl := mem_t 1036 rfl rfl
set_option maxRecDepth 40000 in
theorem lm_L_36 : Cond.methodLink RL 36 yX6_text ∈ gtbl := mem_t 1034 rfl rfl
set_option maxRecDepth 40000 in
theorem li_X5_force : Cond.instanceMethod yX5_force ∈ gtbl := mem_t 415 rfl rfl
set_option maxRecDepth 40000 in
theorem ls_X5_force : Cond.selects yX5_force.cls yX5_force yX5_force ∈ gtbl := mem_t 416 rfl rfl
set_option maxRecDepth 40000 in
theorem lm_L_37 : Cond.methodLink RL 37 yX5_force ∈ gtbl := mem_t 414 rfl rfl
set_option maxRecDepth 40000 in
theorem li_X6_force : Cond.instanceMethod yX6_force ∈ gtbl := mem_t 1039 rfl rfl
set_option maxRecDepth 40000 in
theorem ls_X6_force : Cond.selects yX6_force.cls yX6_force yX6_force ∈ gtbl := mem_t 1040 rfl rfl
set_option maxRecDepth 40000 in
theorem lm_L_40 : Cond.methodLink RL 40 yX6_force ∈ gtbl := mem_t 1038 rfl rfl
set_option maxRecDepth 40000 in
theorem li_X5_day : Cond.instanceMethod yX5_day ∈ gtbl := mem_t 419 rfl rfl
set_option maxRecDepth 40000 in
theorem ls_X5_day : Cond.selects yX5_day.cls yX5_day yX5_day ∈ gtbl := mem_t 420 rfl rfl
set_option maxRecDepth 40000 in
theorem lm_L_41 : Cond.methodLink RL 41 yX5_day ∈ gtbl := mem_t 418 rfl rfl
set_option maxRecDepth 40000 in
theorem li_X6_day : Cond.instanceMethod yX6_day ∈ gtbl := mem_t 1043 rfl rfl
set_option maxRecDepth 40000 in
theorem ls_X6_day : Cond.selects yX6_day.cls yX6_day yX6_day ∈ gtbl := mem_t 1044 rfl rfl
set_option maxRecDepth 40000 in
theorem lm_L_44 : Cond.methodLink RL 44 yX6_day ∈ gtbl := mem_t 1042 rfl rfl
set_option maxRecDepth 40000 in
theorem li_X5_pay : Cond.instanceMethod yX5_pay ∈ gtbl := mem_t 423 rfl rfl
set_option maxRecDepth 40000 in
theorem ls_X5_pay : Cond.selects yX5_pay.cls yX5_pay yX5_pay ∈ gtbl := mem_t 424 rfl rfl
set_option maxRecDepth 40000 in
theorem lm_L_45 : Cond.methodLink RL 45 yX5_pay ∈ gtbl := mem_t 422 rfl rfl
set_option maxRecDepth 40000 in
theorem li_X6_pay : Cond.instanceMethod yX6_pay ∈ gtbl := mem_t 1054 rfl rfl
set_option maxRecDepth 40000 in
theorem ls_X6_pay : Cond.selects yX6_pay.cls yX6_pay yX6_pay ∈ gtbl := mem_t 1055 rfl rfl
set_option maxRecDepth 40000 in
theorem lm_L_48 : Cond.methodLink RL 48 yX6_pay ∈ gtbl := mem_t 1053 rfl rfl
set_option maxRecDepth 40000 in
theorem li_X5_buy : Cond.instanceMethod yX5_buy ∈ gtbl := mem_t 431 rfl rfl
set_option maxRecDepth 40000 in
theorem ls_X5_buy : Cond.selects yX5_buy.cls yX5_buy yX5_buy ∈ gtbl := mem_t 432 rfl rfl
set_option maxRecDepth 40000 in
theorem lm_L_49 : Cond.methodLink RL 49 yX5_buy ∈ gtbl := mem_t 430 rfl rfl
set_option maxRecDepth 40000 in
theorem li_X6_buy : Cond.instanceMethod yX6_buy ∈ gtbl := mem_t 1066 rfl rfl
set_option maxRecDepth 40000 in
theorem ls_X6_buy : Cond.selects yX6_buy.cls yX6_buy yX6_buy ∈ gtbl := mem_t 1067 rfl rfl
set_option maxRecDepth 40000 in
theorem lm_L_52 : Cond.methodLink RL 52 yX6_buy ∈ gtbl := mem_t 1065 rfl rfl
set_option maxRecDepth 40000 in
theorem li_X5_has : Cond.instanceMethod yX5_has ∈ gtbl := mem_t 459 rfl rfl
set_option maxRecDepth 40000 in
theorem ls_X5_has : Cond.selects yX5_has.cls yX5_has yX5_has ∈ gtbl := mem_t 460 rfl rfl
set_option maxRecDepth 40000 in
theorem lm_L_53 : Cond.methodLink RL 53 yX5_has ∈ gtbl := mem_t 458 rfl rfl
set_option maxRecDepth 40000 in
theorem li_X6_has : Cond.instanceMethod yX6_has ∈ gtbl := mem_t 1087 rfl rfl
set_option maxRecDepth 40000 in
theorem ls_X6_has : Cond.selects yX6_has.cls yX6_has yX6_has ∈ gtbl := mem_t 1088 rfl rfl
set_option maxRecDepth 40000 in
theorem lm_L_56 : Cond.methodLink RL 56 yX6_has ∈ gtbl := mem_t 1086 rfl rfl
set_option maxRecDepth 40000 in
theorem li_X5_run : Cond.instanceMethod yX5_run ∈ gtbl := mem_t 491 rfl rfl
set_option maxRecDepth 40000 in
theorem ls_X5_run : Cond.selects yX5_run.cls yX5_run yX5_run ∈ gtbl := mem_t 492 rfl rfl
set_option maxRecDepth 40000 in
theorem lm_L_57 : Cond.methodLink RL 57 yX5_run ∈ gtbl := mem_t 490 rfl rfl
set_option maxRecDepth 40000 in
theorem li_X6_run : Cond.instanceMethod yX6_run ∈ gtbl := mem_t 1120 rfl rfl
set_option maxRecDepth 40000 in
theorem ls_X6_run : Cond.selects yX6_run.cls yX6_run yX6_run ∈ gtbl := mem_t 1121 rfl rfl
set_option maxRecDepth 40000 in
theorem lm_L_60 : Cond.methodLink RL 60 yX6_run ∈ gtbl := mem_t 1119 rfl rfl
set_option maxRecDepth 40000 in
theorem li_X5_exact : Cond.instanceMethod yX5_exact ∈ gtbl := mem_t 495 rfl rfl
set_option maxRecDepth 40000 in
theorem ls_X5_exact : Cond.selects yX5_exact.cls yX5_exact yX5_exact ∈ gtbl := mem_t 496 rfl rfl
set_option maxRecDepth 40000 in
theorem lm_L_61 : Cond.methodLink RL 61 yX5_exact ∈ gtbl := mem_t 494 rfl rfl
set_option maxRecDepth 40000 in
theorem li_X6_exact : Cond.instanceMethod yX6_exact ∈ gtbl := mem_t 1125 rfl rfl
set_option maxRecDepth 40000 in
theorem ls_X6_exact : Cond.selects yX6_exact.cls yX6_exact yX6_exact ∈ gtbl := mem_t 1126 rfl rfl
set_option maxRecDepth 40000 in
theorem lm_L_64 : Cond.methodLink RL 64 yX6_exact ∈ gtbl := mem_t 1124 rfl rfl
set_option maxRecDepth 40000 in
theorem li_X5_wise : Cond.instanceMethod yX5_wise ∈ gtbl := mem_t 503 rfl rfl
set_option maxRecDepth 40000 in
theorem ls_X5_wise : Cond.selects yX5_wise.cls yX5_wise yX5_wise ∈ gtbl := mem_t 504 rfl rfl
set_option maxRecDepth 40000 in
theorem lm_L_65 : Cond.methodLink RL 65 yX5_wise ∈ gtbl := mem_t 502 rfl rfl
set_option maxRecDepth 40000 in
theorem li_X6_wise : Cond.instanceMethod yX6_wise ∈ gtbl := mem_t 1133 rfl rfl
set_option maxRecDepth 40000 in
theorem ls_X6_wise : Cond.selects yX6_wise.cls yX6_wise yX6_wise ∈ gtbl := mem_t 1134 rfl rfl
set_option maxRecDepth 40000 in
theorem lm_L_69 : Cond.methodLink RL 69 yX6_wise ∈ gtbl := mem_t 1132 rfl rfl
set_option maxRecDepth 40000 in
theorem li_X5_change : Cond.instanceMethod yX5_change ∈ gtbl := mem_t 515 rfl rfl
set_option maxRecDepth 40000 in
theorem ls_X5_change : Cond.selects yX5_change.cls yX5_change yX5_change ∈ gtbl := mem_t 516 rfl rfl
set_option maxRecDepth 40000 in
theorem lm_L_70 : Cond.methodLink RL 70 yX5_change ∈ gtbl := mem_t 514 rfl rfl
set_option maxRecDepth 40000 in
theorem li_X6_change : Cond.instanceMethod yX6_change ∈ gtbl := mem_t 1137 rfl rfl
set_option maxRecDepth 40000 in
theorem ls_X6_change : Cond.selects yX6_change.cls yX6_change yX6_change ∈ gtbl := mem_t 1138 rfl rfl
set_option maxRecDepth 40000 in
theorem lm_L_73 : Cond.methodLink RL 73 yX6_change ∈ gtbl := mem_t 1136 rfl rfl
set_option maxRecDepth 40000 in
theorem li_X5_tells : Cond.instanceMethod yX5_tells ∈ gtbl := mem_t 531 rfl rfl
set_option maxRecDepth 40000 in
theorem ls_X5_tells : Cond.selects yX5_tells.cls yX5_tells yX5_tells ∈ gtbl := mem_t 532 rfl rfl
set_option maxRecDepth 40000 in
theorem lm_L_74 : Cond.methodLink RL 74 yX5_tells ∈ gtbl := mem_t 530 rfl rfl
set_option maxRecDepth 40000 in
theorem li_X6_tells : Cond.instanceMethod yX6_tells ∈ gtbl := mem_t 1145 rfl rfl
set_option maxRecDepth 40000 in
theorem ls_X6_tells : Cond.selects yX6_tells.cls yX6_tells yX6_tells ∈ gtbl := mem_t 1146 rfl rfl
set_option maxRecDepth 40000 in
theorem lm_L_77 : Cond.methodLink RL 77 yX6_tells ∈ gtbl := mem_t 1144 rfl rfl
set_option maxRecDepth 40000 in
theorem li_X5_film : Cond.instanceMethod yX5_film ∈ gtbl := mem_t 570 rfl rfl
set_option maxRecDepth 40000 in
theorem ls_X5_film : Cond.selects yX5_film.cls yX5_film yX5_film ∈ gtbl := mem_t 571 rfl rfl
set_option maxRecDepth 40000 in
theorem lm_L_78 : Cond.methodLink RL 78 yX5_film ∈ gtbl := mem_t 569 rfl rfl
set_option maxRecDepth 40000 in
theorem li_X6_film : Cond.instanceMethod yX6_film ∈ gtbl := mem_t 1160 rfl rfl
set_option maxRecDepth 40000 in
theorem ls_X6_film : Cond.selects yX6_film.cls yX6_film yX6_film ∈ gtbl := mem_t 1161 rfl rfl
set_option maxRecDepth 40000 in
theorem lm_L_81 : Cond.methodLink RL 81 yX6_film ∈ gtbl := mem_t 1159 rfl rfl
set_option maxRecDepth 40000 in
theorem li_X5_drawn : Cond.instanceMethod yX5_drawn ∈ gtbl := mem_t 585 rfl rfl
set_option maxRecDepth 40000 in
theorem ls_X5_drawn : Cond.selects yX5_drawn.cls yX5_drawn yX5_drawn ∈ gtbl := mem_t 586 rfl rfl
set_option maxRecDepth 40000 in
theorem lm_L_82 : Cond.methodLink RL 82 yX5_drawn ∈ gtbl := mem_t 584 rfl rfl
set_option maxRecDepth 40000 in
theorem li_X6_drawn : Cond.instanceMethod yX6_drawn ∈ gtbl := mem_t 1170 rfl rfl
set_option maxRecDepth 40000 in
theorem ls_X6_drawn : Cond.selects yX6_drawn.cls yX6_drawn yX6_drawn ∈ gtbl := mem_t 1171 rfl rfl
set_option maxRecDepth 40000 in
theorem lm_L_85 : Cond.methodLink RL 85 yX6_drawn ∈ gtbl := mem_t 1169 rfl rfl
set_option maxRecDepth 40000 in
theorem li_X5_chance : Cond.instanceMethod yX5_chance ∈ gtbl := mem_t 596 rfl rfl
set_option maxRecDepth 40000 in
theorem ls_X5_chance : Cond.selects yX5_chance.cls yX5_chance yX5_chance ∈ gtbl := mem_t 597 rfl rfl
set_option maxRecDepth 40000 in
theorem lm_L_86 : Cond.methodLink RL 86 yX5_chance ∈ gtbl := mem_t 595 rfl rfl
set_option maxRecDepth 40000 in
theorem li_X6_chance : Cond.instanceMethod yX6_chance ∈ gtbl := mem_t 1179 rfl rfl
set_option maxRecDepth 40000 in
theorem ls_X6_chance : Cond.selects yX6_chance.cls yX6_chance yX6_chance ∈ gtbl := mem_t 1180 rfl rfl
set_option maxRecDepth 40000 in
theorem lm_L_90 : Cond.methodLink RL 90 yX6_chance ∈ gtbl := mem_t 1178 rfl rfl
set_option maxRecDepth 40000 in
theorem li_X5_image : Cond.instanceMethod yX5_image ∈ gtbl := mem_t 608 rfl rfl
set_option maxRecDepth 40000 in
theorem ls_X5_image : Cond.selects yX5_image.cls yX5_image yX5_image ∈ gtbl := mem_t 609 rfl rfl
set_option maxRecDepth 40000 in
theorem lm_L_91 : Cond.methodLink RL 91 yX5_image ∈ gtbl := mem_t 607 rfl rfl
set_option maxRecDepth 40000 in
theorem li_X6_image : Cond.instanceMethod yX6_image ∈ gtbl := mem_t 1186 rfl rfl
set_option maxRecDepth 40000 in
theorem ls_X6_image : Cond.selects yX6_image.cls yX6_image yX6_image ∈ gtbl := mem_t 1187 rfl rfl
set_option maxRecDepth 40000 in
theorem lm_L_94 : Cond.methodLink RL 94 yX6_image ∈ gtbl := mem_t 1185 rfl rfl
set_option maxRecDepth 40000 in
theorem li_X5_back : Cond.instanceMethod yX5_back ∈ gtbl := mem_t 612 rfl rfl
set_option maxRecDepth 40000 in
theorem ls_X5_back : Cond.selects yX5_back.cls yX5_back yX5_back ∈ gtbl := mem_t 613 rfl rfl
set_option maxRecDepth 40000 in
theorem lm_L_95 : Cond.methodLink RL 95 yX5_back ∈ gtbl := mem_t 611 rfl rfl
set_option maxRecDepth 40000 in
theorem li_X6_back : Cond.instanceMethod yX6_back ∈ gtbl := mem_t 1190 rfl rfl
set_option maxRecDepth 40000 in
theorem ls_X6_back : Cond.selects yX6_back.cls yX6_back yX6_back ∈ gtbl := mem_t 1191 rfl rfl
set_option maxRecDepth 40000 in
theorem lm_L_98 : Cond.methodLink RL 98 yX6_back ∈ gtbl := mem_t 1189 rfl rfl
set_option maxRecDepth 40000 in
theorem li_X5_count : Cond.instanceMethod yX5_count ∈ gtbl := mem_t 616 rfl rfl
set_option maxRecDepth 40000 in
theorem ls_X5_count : Cond.selects yX5_count.cls yX5_count yX5_count ∈ gtbl := mem_t 617 rfl rfl
set_option maxRecDepth 40000 in
theorem lm_L_99 : Cond.methodLink RL 99 yX5_count ∈ gtbl := mem_t 615 rfl rfl
set_option maxRecDepth 40000 in
theorem li_X6_count : Cond.instanceMethod yX6_count ∈ gtbl := mem_t 1194 rfl rfl
set_option maxRecDepth 40000 in
theorem ls_X6_count : Cond.selects yX6_count.cls yX6_count yX6_count ∈ gtbl := mem_t 1195 rfl rfl
set_option maxRecDepth 40000 in
theorem lm_L_102 : Cond.methodLink RL 102 yX6_count ∈ gtbl := mem_t 1193 rfl rfl
set_option maxRecDepth 40000 in
theorem li_X5_sheet : Cond.instanceMethod yX5_sheet ∈ gtbl := mem_t 624 rfl rfl
set_option maxRecDepth 40000 in
theorem ls_X5_sheet : Cond.selects yX5_sheet.cls yX5_sheet yX5_sheet ∈ gtbl := mem_t 625 rfl rfl
set_option maxRecDepth 40000 in
theorem lm_L_103 : Cond.methodLink RL 103 yX5_sheet ∈ gtbl := mem_t 623 rfl rfl
set_option maxRecDepth 40000 in
theorem lm_L_106 : Cond.methodLink RL 106 yX6_sheet ∈ gtbl := mem_t 1197 rfl rfl
set_option maxRecDepth 40000 in
theorem li_X5_cell : Cond.instanceMethod yX5_cell ∈ gtbl := mem_t 628 rfl rfl
set_option maxRecDepth 40000 in
theorem ls_X5_cell : Cond.selects yX5_cell.cls yX5_cell yX5_cell ∈ gtbl := mem_t 629 rfl rfl
set_option maxRecDepth 40000 in
theorem lm_L_107 : Cond.methodLink RL 107 yX5_cell ∈ gtbl := mem_t 627 rfl rfl
set_option maxRecDepth 40000 in
theorem li_X6_cell : Cond.instanceMethod yX6_cell ∈ gtbl := mem_t 1199 rfl rfl
set_option maxRecDepth 40000 in
theorem ls_X6_cell : Cond.selects yX6_cell.cls yX6_cell yX6_cell ∈ gtbl := mem_t 1200 rfl rfl
set_option maxRecDepth 40000 in
theorem lm_L_110 : Cond.methodLink RL 110 yX6_cell ∈ gtbl := mem_t 1198 rfl rfl
set_option maxRecDepth 40000 in
theorem li_X5_copy : Cond.instanceMethod yX5_copy ∈ gtbl := mem_t 632 rfl rfl
set_option maxRecDepth 40000 in
theorem ls_X5_copy : Cond.selects yX5_copy.cls yX5_copy yX5_copy ∈ gtbl := mem_t 633 rfl rfl
set_option maxRecDepth 40000 in
theorem lm_L_111 : Cond.methodLink RL 111 yX5_copy ∈ gtbl := mem_t 631 rfl rfl
set_option maxRecDepth 40000 in
theorem li_X6_copy : Cond.instanceMethod yX6_copy ∈ gtbl := mem_t 1203 rfl rfl
set_option maxRecDepth 40000 in
theorem ls_X6_copy : Cond.selects yX6_copy.cls yX6_copy yX6_copy ∈ gtbl := mem_t 1204 rfl rfl
set_option maxRecDepth 40000 in
theorem lm_L_115 : Cond.methodLink RL 115 yX6_copy ∈ gtbl := mem_t 1202 rfl rfl
set_option maxRecDepth 40000 in
theorem li_X5_coins : Cond.instanceMethod yX5_coins ∈ gtbl := mem_t 641 rfl rfl
set_option maxRecDepth 40000 in
theorem ls_X5_coins : Cond.selects yX5_coins.cls yX5_coins yX5_coins ∈ gtbl := mem_t 642 rfl rfl
set_option maxRecDepth 40000 in
theorem lm_L_116 : Cond.methodLink RL 116 yX5_coins ∈ gtbl := mem_t 640 rfl rfl
set_option maxRecDepth 40000 in
theorem li_X6_coins : Cond.instanceMethod yX6_coins ∈ gtbl := mem_t 1207 rfl rfl
set_option maxRecDepth 40000 in
theorem ls_X6_coins : Cond.selects yX6_coins.cls yX6_coins yX6_coins ∈ gtbl := mem_t 1208 rfl rfl
set_option maxRecDepth 40000 in
theorem lm_L_119 : Cond.methodLink RL 119 yX6_coins ∈ gtbl := mem_t 1206 rfl rfl
set_option maxRecDepth 40000 in
theorem li_X5_taken : Cond.instanceMethod yX5_taken ∈ gtbl := mem_t 646 rfl rfl
set_option maxRecDepth 40000 in
theorem ls_X5_taken : Cond.selects yX5_taken.cls yX5_taken yX5_taken ∈ gtbl := mem_t 647 rfl rfl
set_option maxRecDepth 40000 in
theorem lm_L_120 : Cond.methodLink RL 120 yX5_taken ∈ gtbl := mem_t 645 rfl rfl
set_option maxRecDepth 40000 in
theorem li_X6_taken : Cond.instanceMethod yX6_taken ∈ gtbl := mem_t 1212 rfl rfl
set_option maxRecDepth 40000 in
theorem ls_X6_taken : Cond.selects yX6_taken.cls yX6_taken yX6_taken ∈ gtbl := mem_t 1213 rfl rfl
set_option maxRecDepth 40000 in
theorem lm_L_123 : Cond.methodLink RL 123 yX6_taken ∈ gtbl := mem_t 1211 rfl rfl
set_option maxRecDepth 40000 in
theorem li_J0_length_8abf5 : Cond.instanceMethod yJ0_length_8abf5 ∈ gtbl := mem_t 142 rfl rfl
set_option maxRecDepth 40000 in
theorem ls_J0_length_8abf5 : Cond.selects yJ0_length_8abf5.cls yJ0_length_8abf5 yJ0_length_8abf5 ∈ gtbl := mem_t 143 rfl rfl
set_option maxRecDepth 40000 in
theorem li_J0_coder_7d493 : Cond.instanceMethod yJ0_coder_7d493 ∈ gtbl := mem_t 146 rfl rfl
set_option maxRecDepth 40000 in
theorem ls_J0_coder_7d493 : Cond.selects yJ0_coder_7d493.cls yJ0_coder_7d493 yJ0_coder_7d493 ∈ gtbl := mem_t 147 rfl rfl
set_option maxRecDepth 40000 in
theorem li_J0_isLatin1_aae02 : Cond.instanceMethod yJ0_isLatin1_aae02 ∈ gtbl := mem_t 156 rfl rfl
set_option maxRecDepth 40000 in
theorem ls_J0_isLatin1_aae02 : Cond.selects yJ0_isLatin1_aae02.cls yJ0_isLatin1_aae02 yJ0_isLatin1_aae02 ∈ gtbl := mem_t 157 rfl rfl
set_option maxRecDepth 40000 in
theorem li_J0_charAt_5068e : Cond.instanceMethod yJ0_charAt_5068e ∈ gtbl := mem_t 152 rfl rfl
set_option maxRecDepth 40000 in
theorem ls_J0_charAt_5068e : Cond.selects yJ0_charAt_5068e.cls yJ0_charAt_5068e yJ0_charAt_5068e ∈ gtbl := mem_t 153 rfl rfl
set_option maxRecDepth 40000 in
theorem lt_J1_charAt_3b067 : Cond.static yJ1_charAt_3b067 ∈ gtbl := mem_t 160 rfl rfl
set_option maxRecDepth 40000 in
theorem lt_J0_checkIndex_df160 : Cond.static yJ0_checkIndex_df160 ∈ gtbl := mem_t 163 rfl rfl
set_option maxRecDepth 40000 in
theorem lt_J3_checkIndex_8e157 : Cond.static yJ3_checkIndex_8e157 ∈ gtbl := mem_t 168 rfl rfl
set_option maxRecDepth 40000 in
theorem lf_J0_9 : Cond.fieldLink RJ0 9 RJ0 "value" "[B" ∈ gtbl := mem_t 1218 rfl rfl
set_option maxRecDepth 40000 in
theorem lf_J0_15 : Cond.fieldLink RJ0 15 RJ0 "coder" "B" ∈ gtbl := mem_t 1219 rfl rfl
set_option maxRecDepth 40000 in
theorem lf_J0_38 : Cond.fieldLink RJ0 38 RJ0 "COMPACT_STRINGS" "Z" ∈ gtbl := mem_t 149 rfl rfl
set_option maxRecDepth 40000 in
theorem lf_J0_1053 : Cond.fieldLink RJ0 1053 RJ3 "SIOOBE_FORMATTER" "Ljava/util/function/BiFunction;" ∈ gtbl := mem_t 165 rfl rfl
set_option maxRecDepth 40000 in
theorem lm_J0_335 : Cond.methodLink RJ0 335 yJ0_coder_7d493 ∈ gtbl := mem_t 145 rfl rfl
set_option maxRecDepth 40000 in
theorem lm_J0_492 : Cond.methodLink RJ0 492 yJ0_isLatin1_aae02 ∈ gtbl := mem_t 155 rfl rfl
set_option maxRecDepth 40000 in
theorem lm_J0_495 : Cond.methodLink RJ0 495 yJ1_charAt_3b067 ∈ gtbl := mem_t 159 rfl rfl
set_option maxRecDepth 40000 in
theorem lm_J0_1059 : Cond.methodLink RJ0 1059 yJ3_checkIndex_8e157 ∈ gtbl := mem_t 167 rfl rfl
set_option maxRecDepth 40000 in
theorem lm_J1_9 : Cond.methodLink RJ1 9 yJ0_checkIndex_df160 ∈ gtbl := mem_t 162 rfl rfl
set_option maxRecDepth 40000 in
theorem ln_J7 : Cond.initialized RJ7 ∈ gtbl := mem_t 11 rfl rfl
set_option maxRecDepth 40000 in
theorem ln_J6 : Cond.initialized RJ6 ∈ gtbl := mem_t 15 rfl rfl
set_option maxRecDepth 40000 in
theorem ln_J0 : Cond.initialized RJ0 ∈ gtbl := mem_t 6 rfl rfl
set_option maxRecDepth 40000 in
theorem ln_J1 : Cond.initialized RJ1 ∈ gtbl := mem_t 7 rfl rfl
set_option maxRecDepth 40000 in
theorem ln_J3 : Cond.initialized RJ3 ∈ gtbl := mem_t 8 rfl rfl
abbrev kX5_isBetween : MD := (yX5_isBetween, cX5_isBetween, 3, some .boolean)
set_option maxRecDepth 40000 in
theorem ok_X5_isBetween : MDok kX5_isBetween 3 := ⟨by decide +kernel, mem_t 203 rfl rfl, ln_X5, by decide⟩
abbrev kX3_sign : MD := (yX3_sign, cX3_sign, 1, some .int)
set_option maxRecDepth 40000 in
theorem ok_X3_sign : MDok kX3_sign 1 := ⟨by decide +kernel, mem_t 221 rfl rfl, ln_X3, by decide⟩
abbrev kX3_goBehindAll : MD := (yX3_goBehindAll, cX3_goBehindAll, 4, none)
set_option maxRecDepth 40000 in
theorem ok_X3_goBehindAll : MDok kX3_goBehindAll 2 := ⟨by decide +kernel, mem_t 207 rfl rfl, ln_X3, by decide⟩
abbrev kX3_number : MD := (yX3_number, cX3_number, 3, some .int)
set_option maxRecDepth 40000 in
theorem ok_X3_number : MDok kX3_number 0 := ⟨by decide +kernel, mem_t 218 rfl rfl, ln_X3, by decide⟩
abbrev kX3_word : MD := (yX3_word, cX3_word, 6, some .int)
set_option maxRecDepth 40000 in
theorem ok_X3_word : MDok kX3_word 0 := ⟨by decide +kernel, mem_t 211 rfl rfl, ln_X3, by decide⟩
abbrev kX0_init : MD := (yX0_init, cX0_init, 1, none)
set_option maxRecDepth 40000 in
theorem ok_X0_init : MDok kX0_init 0 := ⟨by decide +kernel, mem_t 73 rfl rfl, ln_X0, by decide⟩
abbrev kJ7_fill_53178 : MD := (yJ7_fill_53178, cJ7_fill_53178, 4, none)
set_option maxRecDepth 40000 in
theorem ok_J7_fill_53178 : MDok kJ7_fill_53178 2 := ⟨by decide +kernel, mem_t 579 rfl rfl, ln_J7, by decide⟩
abbrev kJ7_copyOf_59c91 : MD := (yJ7_copyOf_59c91, cJ7_copyOf_59c91, 3, some (.array .int))
set_option maxRecDepth 40000 in
theorem ok_J7_copyOf_59c91 : MDok kJ7_copyOf_59c91 2 := ⟨by decide +kernel, mem_t 253 rfl rfl, ln_J7, by decide⟩
abbrev kX4_init : MD := (yX4_init, cX4_init, 3, none)
set_option maxRecDepth 40000 in
theorem ok_X4_init : MDok kX4_init 2 := ⟨by decide +kernel, mem_t 269 rfl rfl, ln_X4, by decide⟩
abbrev kX3_advance : MD := (yX3_advance, cX3_advance, 3, some .boolean)
set_option maxRecDepth 40000 in
theorem ok_X3_advance : MDok kX3_advance 0 := ⟨by decide +kernel, mem_t 200 rfl rfl, ln_X3, by decide⟩
abbrev kX3_readLevel : MD := (yX3_readLevel, cX3_readLevel, 6, some .boolean)
set_option maxRecDepth 40000 in
theorem ok_X3_readLevel : MDok kX3_readLevel 2 := ⟨by decide +kernel, mem_t 229 rfl rfl, ln_X3, by decide⟩
abbrev kX3_readPart : MD := (yX3_readPart, cX3_readPart, 3, some .boolean)
set_option maxRecDepth 40000 in
theorem ok_X3_readPart : MDok kX3_readPart 2 := ⟨by decide +kernel, mem_t 225 rfl rfl, ln_X3, by decide⟩
abbrev kX4_named : MD := (yX4_named, cX4_named, 4, some .int)
set_option maxRecDepth 40000 in
theorem ok_X4_named : MDok kX4_named 4 := ⟨by decide +kernel, mem_t 367 rfl rfl, ln_X4, by decide⟩
abbrev kX4_joined : MD := (yX4_joined, cX4_joined, 3, some .int)
set_option maxRecDepth 40000 in
theorem ok_X4_joined : MDok kX4_joined 3 := ⟨by decide +kernel, mem_t 370 rfl rfl, ln_X4, by decide⟩
abbrev kX4_worked : MD := (yX4_worked, cX4_worked, 8, some .int)
set_option maxRecDepth 40000 in
theorem ok_X4_worked : MDok kX4_worked 4 := ⟨by decide +kernel, mem_t 364 rfl rfl, ln_X4, by decide⟩
abbrev kX4_bounded : MD := (yX4_bounded, cX4_bounded, 3, some .int)
set_option maxRecDepth 40000 in
theorem ok_X4_bounded : MDok kX4_bounded 3 := ⟨by decide +kernel, mem_t 373 rfl rfl, ln_X4, by decide⟩
abbrev kX4_turnsOf : MD := (yX4_turnsOf, cX4_turnsOf, 5, some .int)
set_option maxRecDepth 40000 in
theorem ok_X4_turnsOf : MDok kX4_turnsOf 3 := ⟨by decide +kernel, mem_t 360 rfl rfl, ln_X4, by decide⟩
abbrev kX4_givesOf : MD := (yX4_givesOf, cX4_givesOf, 6, some .int)
set_option maxRecDepth 40000 in
theorem ok_X4_givesOf : MDok kX4_givesOf 3 := ⟨by decide +kernel, mem_t 381 rfl rfl, ln_X4, by decide⟩
abbrev kX4_goesOffOf : MD := (yX4_goesOffOf, cX4_goesOffOf, 5, some .int)
set_option maxRecDepth 40000 in
theorem ok_X4_goesOffOf : MDok kX4_goesOffOf 3 := ⟨by decide +kernel, mem_t 385 rfl rfl, ln_X4, by decide⟩
abbrev kX3_init : MD := (yX3_init, cX3_init, 1, none)
set_option maxRecDepth 40000 in
theorem ok_X3_init : MDok kX3_init 0 := ⟨by decide +kernel, mem_t 30 rfl rfl, ln_X3, by decide⟩
abbrev kX1_init : MD := (yX1_init, cX1_init, 2, none)
set_option maxRecDepth 40000 in
theorem ok_X1_init : MDok kX1_init 0 := ⟨by decide +kernel, mem_t 67 rfl rfl, ln_X1, by decide⟩
abbrev kX2_init : MD := (yX2_init, cX2_init, 1, none)
set_option maxRecDepth 40000 in
theorem ok_X2_init : MDok kX2_init 0 := ⟨by decide +kernel, mem_t 125 rfl rfl, ln_X2, by decide⟩
abbrev kX3_read : MD := (yX3_read, cX3_read, 2, some .int)
set_option maxRecDepth 40000 in
theorem ok_X3_read : MDok kX3_read 0 := ⟨by decide +kernel, mem_t 196 rfl rfl, ln_X3, by decide⟩
abbrev kX3_newText : MD := (yX3_newText, cX3_newText, 1, some (.object "GoldTurnsBack$Text"))
set_option maxRecDepth 40000 in
theorem ok_X3_newText : MDok kX3_newText 0 := ⟨by decide +kernel, mem_t 248 rfl rfl, ln_X3, by decide⟩
abbrev kX5_keepText : MD := (yX5_keepText, cX5_keepText, 1, none)
set_option maxRecDepth 40000 in
theorem ok_X5_keepText : MDok kX5_keepText 0 := ⟨by decide +kernel, mem_t 244 rfl rfl, ln_X5, by decide⟩
abbrev kX3_add : MD := (yX3_add, cX3_add, 2, none)
set_option maxRecDepth 40000 in
theorem ok_X3_add : MDok kX3_add 1 := ⟨by decide +kernel, mem_t 192 rfl rfl, ln_X3, by decide⟩
abbrev kX5_isCoin : MD := (yX5_isCoin, cX5_isCoin, 2, some .boolean)
set_option maxRecDepth 40000 in
theorem ok_X5_isCoin : MDok kX5_isCoin 1 := ⟨by decide +kernel, mem_t 328 rfl rfl, ln_X5, by decide⟩
abbrev kX0_part : MD := (yX0_part, cX0_part, 2, some .int)
set_option maxRecDepth 40000 in
theorem ok_X0_part : MDok kX0_part 1 := ⟨by decide +kernel, mem_t 332 rfl rfl, ln_X0, by decide⟩
abbrev kX0_lay : MD := (yX0_lay, cX0_lay, 3, none)
set_option maxRecDepth 40000 in
theorem ok_X0_lay : MDok kX0_lay 2 := ⟨by decide +kernel, mem_t 336 rfl rfl, ln_X0, by decide⟩
abbrev kX5_isOf : MD := (yX5_isOf, cX5_isOf, 2, some .boolean)
set_option maxRecDepth 40000 in
theorem ok_X5_isOf : MDok kX5_isOf 2 := ⟨by decide +kernel, mem_t 343 rfl rfl, ln_X5, by decide⟩
abbrev kX0_come : MD := (yX0_come, cX0_come, 4, none)
set_option maxRecDepth 40000 in
theorem ok_X0_come : MDok kX0_come 3 := ⟨by decide +kernel, mem_t 347 rfl rfl, ln_X0, by decide⟩
abbrev kX5_theRule : MD := (yX5_theRule, cX5_theRule, 1, some (.object "GoldTurnsBack$Text"))
set_option maxRecDepth 40000 in
theorem ok_X5_theRule : MDok kX5_theRule 0 := ⟨by decide +kernel, mem_t 356 rfl rfl, ln_X5, by decide⟩
abbrev kX0_ageBehind : MD := (yX0_ageBehind, cX0_ageBehind, 2, some .int)
set_option maxRecDepth 40000 in
theorem ok_X0_ageBehind : MDok kX0_ageBehind 1 := ⟨by decide +kernel, mem_t 393 rfl rfl, ln_X0, by decide⟩
abbrev kX5_isWholeBehind : MD := (yX5_isWholeBehind, cX5_isWholeBehind, 4, some .boolean)
set_option maxRecDepth 40000 in
theorem ok_X5_isWholeBehind : MDok kX5_isWholeBehind 2 := ⟨by decide +kernel, mem_t 389 rfl rfl, ln_X5, by decide⟩
abbrev kX4_worthOf : MD := (yX4_worthOf, cX4_worthOf, 6, some .int)
set_option maxRecDepth 40000 in
theorem ok_X4_worthOf : MDok kX4_worthOf 3 := ⟨by decide +kernel, mem_t 402 rfl rfl, ln_X4, by decide⟩
abbrev kX5_worthBehind : MD := (yX5_worthBehind, cX5_worthBehind, 3, some .int)
set_option maxRecDepth 40000 in
theorem ok_X5_worthBehind : MDok kX5_worthBehind 2 := ⟨by decide +kernel, mem_t 398 rfl rfl, ln_X5, by decide⟩
abbrev kX0_goTo : MD := (yX0_goTo, cX0_goTo, 2, none)
set_option maxRecDepth 40000 in
theorem ok_X0_goTo : MDok kX0_goTo 1 := ⟨by decide +kernel, mem_t 429 rfl rfl, ln_X0, by decide⟩
abbrev kX5_areTwoOwners : MD := (yX5_areTwoOwners, cX5_areTwoOwners, 2, some .boolean)
set_option maxRecDepth 40000 in
theorem ok_X5_areTwoOwners : MDok kX5_areTwoOwners 2 := ⟨by decide +kernel, mem_t 436 rfl rfl, ln_X5, by decide⟩
abbrev kX5_purseBehind : MD := (yX5_purseBehind, cX5_purseBehind, 5, some .int)
set_option maxRecDepth 40000 in
theorem ok_X5_purseBehind : MDok kX5_purseBehind 2 := ⟨by decide +kernel, mem_t 444 rfl rfl, ln_X5, by decide⟩
abbrev kX5_holds : MD := (yX5_holds, cX5_holds, 2, some .boolean)
set_option maxRecDepth 40000 in
theorem ok_X5_holds : MDok kX5_holds 2 := ⟨by decide +kernel, mem_t 451 rfl rfl, ln_X5, by decide⟩
abbrev kX5_valuesOf : MD := (yX5_valuesOf, cX5_valuesOf, 4, some .int)
set_option maxRecDepth 40000 in
theorem ok_X5_valuesOf : MDok kX5_valuesOf 1 := ⟨by decide +kernel, mem_t 448 rfl rfl, ln_X5, by decide⟩
abbrev kJ6_bitCount_0f7a4 : MD := (yJ6_bitCount_0f7a4, cJ6_bitCount_0f7a4, 1, some .int)
set_option maxRecDepth 40000 in
theorem ok_J6_bitCount_0f7a4 : MDok kJ6_bitCount_0f7a4 1 := ⟨by decide +kernel, mem_t 454 rfl rfl, ln_J6, by decide⟩
abbrev kX5_exactSet : MD := (yX5_exactSet, cX5_exactSet, 6, some .int)
set_option maxRecDepth 40000 in
theorem ok_X5_exactSet : MDok kX5_exactSet 2 := ⟨by decide +kernel, mem_t 440 rfl rfl, ln_X5, by decide⟩
abbrev kX5_richBehind : MD := (yX5_richBehind, cX5_richBehind, 5, some .int)
set_option maxRecDepth 40000 in
theorem ok_X5_richBehind : MDok kX5_richBehind 2 := ⟨by decide +kernel, mem_t 465 rfl rfl, ln_X5, by decide⟩
abbrev kX5_coinsOf : MD := (yX5_coinsOf, cX5_coinsOf, 4, some .int)
set_option maxRecDepth 40000 in
theorem ok_X5_coinsOf : MDok kX5_coinsOf 1 := ⟨by decide +kernel, mem_t 469 rfl rfl, ln_X5, by decide⟩
abbrev kX5_toSpend : MD := (yX5_toSpend, cX5_toSpend, 7, some .int)
set_option maxRecDepth 40000 in
theorem ok_X5_toSpend : MDok kX5_toSpend 1 := ⟨by decide +kernel, mem_t 473 rfl rfl, ln_X5, by decide⟩
abbrev kX5_goneBehind : MD := (yX5_goneBehind, cX5_goneBehind, 3, some .int)
set_option maxRecDepth 40000 in
theorem ok_X5_goneBehind : MDok kX5_goneBehind 1 := ⟨by decide +kernel, mem_t 477 rfl rfl, ln_X5, by decide⟩
abbrev kX5_layWorths : MD := (yX5_layWorths, cX5_layWorths, 4, none)
set_option maxRecDepth 40000 in
theorem ok_X5_layWorths : MDok kX5_layWorths 2 := ⟨by decide +kernel, mem_t 485 rfl rfl, ln_X5, by decide⟩
abbrev kX5_mostWorth : MD := (yX5_mostWorth, cX5_mostWorth, 4, some .int)
set_option maxRecDepth 40000 in
theorem ok_X5_mostWorth : MDok kX5_mostWorth 1 := ⟨by decide +kernel, mem_t 489 rfl rfl, ln_X5, by decide⟩
abbrev kX5_taxOf : MD := (yX5_taxOf, cX5_taxOf, 7, some .int)
set_option maxRecDepth 40000 in
theorem ok_X5_taxOf : MDok kX5_taxOf 1 := ⟨by decide +kernel, mem_t 481 rfl rfl, ln_X5, by decide⟩
abbrev kX5_overSet : MD := (yX5_overSet, cX5_overSet, 9, some .int)
set_option maxRecDepth 40000 in
theorem ok_X5_overSet : MDok kX5_overSet 2 := ⟨by decide +kernel, mem_t 501 rfl rfl, ln_X5, by decide⟩
abbrev kX5_worthsWithout : MD := (yX5_worthsWithout, cX5_worthsWithout, 4, some .int)
set_option maxRecDepth 40000 in
theorem ok_X5_worthsWithout : MDok kX5_worthsWithout 1 := ⟨by decide +kernel, mem_t 513 rfl rfl, ln_X5, by decide⟩
abbrev kX5_wiseSet : MD := (yX5_wiseSet, cX5_wiseSet, 8, some .int)
set_option maxRecDepth 40000 in
theorem ok_X5_wiseSet : MDok kX5_wiseSet 2 := ⟨by decide +kernel, mem_t 509 rfl rfl, ln_X5, by decide⟩
abbrev kX0_become : MD := (yX0_become, cX0_become, 2, none)
set_option maxRecDepth 40000 in
theorem ok_X0_become : MDok kX0_become 1 := ⟨by decide +kernel, mem_t 529 rfl rfl, ln_X0, by decide⟩
abbrev kX5_gainIfPaid : MD := (yX5_gainIfPaid, cX5_gainIfPaid, 5, some .int)
set_option maxRecDepth 40000 in
theorem ok_X5_gainIfPaid : MDok kX5_gainIfPaid 2 := ⟨by decide +kernel, mem_t 525 rfl rfl, ln_X5, by decide⟩
abbrev kX5_bestPair : MD := (yX5_bestPair, cX5_bestPair, 10, some .int)
set_option maxRecDepth 40000 in
theorem ok_X5_bestPair : MDok kX5_bestPair 2 := ⟨by decide +kernel, mem_t 521 rfl rfl, ln_X5, by decide⟩
abbrev kX5_isSheet : MD := (yX5_isSheet, cX5_isSheet, 1, some .boolean)
set_option maxRecDepth 40000 in
theorem ok_X5_isSheet : MDok kX5_isSheet 1 := ⟨by decide +kernel, mem_t 536 rfl rfl, ln_X5, by decide⟩
abbrev kX2_isMissing : MD := (yX2_isMissing, cX2_isMissing, 1, some .boolean)
set_option maxRecDepth 40000 in
theorem ok_X2_isMissing : MDok kX2_isMissing 0 := ⟨by decide +kernel, mem_t 540 rfl rfl, ln_X2, by decide⟩
abbrev kX5_firstOtherwise : MD := (yX5_firstOtherwise, cX5_firstOtherwise, 5, some .int)
set_option maxRecDepth 40000 in
theorem ok_X5_firstOtherwise : MDok kX5_firstOtherwise 3 := ⟨by decide +kernel, mem_t 544 rfl rfl, ln_X5, by decide⟩
abbrev kX5_wouldBeSo : MD := (yX5_wouldBeSo, cX5_wouldBeSo, 5, some .boolean)
set_option maxRecDepth 40000 in
theorem ok_X5_wouldBeSo : MDok kX5_wouldBeSo 4 := ⟨by decide +kernel, mem_t 552 rfl rfl, ln_X5, by decide⟩
abbrev kX5_soBits : MD := (yX5_soBits, cX5_soBits, 6, some .int)
set_option maxRecDepth 40000 in
theorem ok_X5_soBits : MDok kX5_soBits 3 := ⟨by decide +kernel, mem_t 548 rfl rfl, ln_X5, by decide⟩
abbrev kX5_soCount : MD := (yX5_soCount, cX5_soCount, 7, some .int)
set_option maxRecDepth 40000 in
theorem ok_X5_soCount : MDok kX5_soCount 4 := ⟨by decide +kernel, mem_t 556 rfl rfl, ln_X5, by decide⟩
abbrev kX5_soLeast : MD := (yX5_soLeast, cX5_soLeast, 6, some .int)
set_option maxRecDepth 40000 in
theorem ok_X5_soLeast : MDok kX5_soLeast 4 := ⟨by decide +kernel, mem_t 560 rfl rfl, ln_X5, by decide⟩
abbrev kX5_soTexts : MD := (yX5_soTexts, cX5_soTexts, 5, some .int)
set_option maxRecDepth 40000 in
theorem ok_X5_soTexts : MDok kX5_soTexts 2 := ⟨by decide +kernel, mem_t 564 rfl rfl, ln_X5, by decide⟩
abbrev kX5_soCoins : MD := (yX5_soCoins, cX5_soCoins, 4, some .int)
set_option maxRecDepth 40000 in
theorem ok_X5_soCoins : MDok kX5_soCoins 1 := ⟨by decide +kernel, mem_t 568 rfl rfl, ln_X5, by decide⟩
abbrev kX2_become : MD := (yX2_become, cX2_become, 3, none)
set_option maxRecDepth 40000 in
theorem ok_X2_become : MDok kX2_become 2 := ⟨by decide +kernel, mem_t 576 rfl rfl, ln_X2, by decide⟩
abbrev kX2_put : MD := (yX2_put, cX2_put, 3, none)
set_option maxRecDepth 40000 in
theorem ok_X2_put : MDok kX2_put 2 := ⟨by decide +kernel, mem_t 583 rfl rfl, ln_X2, by decide⟩
abbrev kX5_nextDraw : MD := (yX5_nextDraw, cX5_nextDraw, 1, some .int)
set_option maxRecDepth 40000 in
theorem ok_X5_nextDraw : MDok kX5_nextDraw 1 := ⟨by decide +kernel, mem_t 590 rfl rfl, ln_X5, by decide⟩
abbrev kX5_drawnAge : MD := (yX5_drawnAge, cX5_drawnAge, 1, some .int)
set_option maxRecDepth 40000 in
theorem ok_X5_drawnAge : MDok kX5_drawnAge 1 := ⟨by decide +kernel, mem_t 594 rfl rfl, ln_X5, by decide⟩
abbrev kX5_commonDivisor : MD := (yX5_commonDivisor, cX5_commonDivisor, 3, some .int)
set_option maxRecDepth 40000 in
theorem ok_X5_commonDivisor : MDok kX5_commonDivisor 2 := ⟨by decide +kernel, mem_t 606 rfl rfl, ln_X5, by decide⟩
abbrev kX5_wholeWhenDrawn : MD := (yX5_wholeWhenDrawn, cX5_wholeWhenDrawn, 7, some .int)
set_option maxRecDepth 40000 in
theorem ok_X5_wholeWhenDrawn : MDok kX5_wholeWhenDrawn 2 := ⟨by decide +kernel, mem_t 603 rfl rfl, ln_X5, by decide⟩
abbrev kX5_wholeCount : MD := (yX5_wholeCount, cX5_wholeCount, 3, some .int)
set_option maxRecDepth 40000 in
theorem ok_X5_wholeCount : MDok kX5_wholeCount 0 := ⟨by decide +kernel, mem_t 622 rfl rfl, ln_X5, by decide⟩
abbrev kX2_hasRoom : MD := (yX2_hasRoom, cX2_hasRoom, 3, some .boolean)
set_option maxRecDepth 40000 in
theorem ok_X2_hasRoom : MDok kX2_hasRoom 2 := ⟨by decide +kernel, mem_t 638 rfl rfl, ln_X2, by decide⟩
abbrev kX5_coin : MD := (yX5_coin, cX5_coin, 4, some .int)
set_option maxRecDepth 40000 in
theorem ok_X5_coin : MDok kX5_coin 3 := ⟨by decide +kernel, mem_t 340 rfl rfl, ln_X5, by decide⟩
abbrev kX5_isUnder : MD := (yX5_isUnder, cX5_isUnder, 4, some .boolean)
set_option maxRecDepth 40000 in
theorem ok_X5_isUnder : MDok kX5_isUnder 2 := ⟨by decide +kernel, mem_t 651 rfl rfl, ln_X5, by decide⟩
abbrev kX6_spell : MD := (yX6_spell, cX6_spell, 10, none)
set_option maxRecDepth 40000 in
theorem ok_X6_spell : MDok kX6_spell 9 := ⟨by decide +kernel, mem_t 663 rfl rfl, ln_X6, by decide⟩
abbrev kX6_in : MD := (yX6_in, cX6_in, 6, some .boolean)
set_option maxRecDepth 40000 in
theorem ok_X6_in : MDok kX6_in 3 := ⟨by decide +kernel, mem_t 786 rfl rfl, ln_X6, by decide⟩
abbrev kX6_isCoin : MD := (yX6_isCoin, cX6_isCoin, 2, some .boolean)
set_option maxRecDepth 40000 in
theorem ok_X6_isCoin : MDok kX6_isCoin 1 := ⟨by decide +kernel, mem_t 790 rfl rfl, ln_X6, by decide⟩
abbrev kX6_mostOf : MD := (yX6_mostOf, cX6_mostOf, 1, some .int)
set_option maxRecDepth 40000 in
theorem ok_X6_mostOf : MDok kX6_mostOf 1 := ⟨by decide +kernel, mem_t 793 rfl rfl, ln_X6, by decide⟩
abbrev kX6_byteAt : MD := (yX6_byteAt, cX6_byteAt, 2, some .int)
set_option maxRecDepth 40000 in
theorem ok_X6_byteAt : MDok kX6_byteAt 1 := ⟨by decide +kernel, mem_t 819 rfl rfl, ln_X6, by decide⟩
abbrev kX6_next : MD := (yX6_next, cX6_next, 3, none)
set_option maxRecDepth 40000 in
theorem ok_X6_next : MDok kX6_next 0 := ⟨by decide +kernel, mem_t 815 rfl rfl, ln_X6, by decide⟩
abbrev kX6_isLetter : MD := (yX6_isLetter, cX6_isLetter, 3, some .boolean)
set_option maxRecDepth 40000 in
theorem ok_X6_isLetter : MDok kX6_isLetter 2 := ⟨by decide +kernel, mem_t 832 rfl rfl, ln_X6, by decide⟩
abbrev kX6_isWord : MD := (yX6_isWord, cX6_isWord, 9, some .boolean)
set_option maxRecDepth 40000 in
theorem ok_X6_isWord : MDok kX6_isWord 8 := ⟨by decide +kernel, mem_t 828 rfl rfl, ln_X6, by decide⟩
abbrev kX6_fail : MD := (yX6_fail, cX6_fail, 1, none)
set_option maxRecDepth 40000 in
theorem ok_X6_fail : MDok kX6_fail 0 := ⟨by decide +kernel, mem_t 840 rfl rfl, ln_X6, by decide⟩
abbrev kX6_isSign : MD := (yX6_isSign, cX6_isSign, 2, some .boolean)
set_option maxRecDepth 40000 in
theorem ok_X6_isSign : MDok kX6_isSign 1 := ⟨by decide +kernel, mem_t 892 rfl rfl, ln_X6, by decide⟩
abbrev kX6_opens : MD := (yX6_opens, cX6_opens, 1, some .boolean)
set_option maxRecDepth 40000 in
theorem ok_X6_opens : MDok kX6_opens 0 := ⟨by decide +kernel, mem_t 856 rfl rfl, ln_X6, by decide⟩
abbrev kX6_name : MD := (yX6_name, cX6_name, 1, some .int)
set_option maxRecDepth 40000 in
theorem ok_X6_name : MDok kX6_name 0 := ⟨by decide +kernel, mem_t 896 rfl rfl, ln_X6, by decide⟩
abbrev kX6_atom5 : MD := (yX6_atom5, cX6_atom5, 2, some .int)
set_option maxRecDepth 40000 in
theorem ok_X6_atom5 : MDok kX6_atom5 0 := ⟨by decide +kernel, mem_t 888 rfl rfl, ln_X6, by decide⟩
abbrev kX6_term5 : MD := (yX6_term5, cX6_term5, 2, some .int)
set_option maxRecDepth 40000 in
theorem ok_X6_term5 : MDok kX6_term5 0 := ⟨by decide +kernel, mem_t 884 rfl rfl, ln_X6, by decide⟩
abbrev kX6_added5 : MD := (yX6_added5, cX6_added5, 4, some .int)
set_option maxRecDepth 40000 in
theorem ok_X6_added5 : MDok kX6_added5 0 := ⟨by decide +kernel, mem_t 880 rfl rfl, ln_X6, by decide⟩
abbrev kX6_not5 : MD := (yX6_not5, cX6_not5, 4, some .int)
set_option maxRecDepth 40000 in
theorem ok_X6_not5 : MDok kX6_not5 0 := ⟨by decide +kernel, mem_t 876 rfl rfl, ln_X6, by decide⟩
abbrev kX6_both5 : MD := (yX6_both5, cX6_both5, 3, some .int)
set_option maxRecDepth 40000 in
theorem ok_X6_both5 : MDok kX6_both5 0 := ⟨by decide +kernel, mem_t 918 rfl rfl, ln_X6, by decide⟩
abbrev kX6_either5 : MD := (yX6_either5, cX6_either5, 3, some .int)
set_option maxRecDepth 40000 in
theorem ok_X6_either5 : MDok kX6_either5 0 := ⟨by decide +kernel, mem_t 914 rfl rfl, ln_X6, by decide⟩
abbrev kX6_atom4 : MD := (yX6_atom4, cX6_atom4, 2, some .int)
set_option maxRecDepth 40000 in
theorem ok_X6_atom4 : MDok kX6_atom4 0 := ⟨by decide +kernel, mem_t 910 rfl rfl, ln_X6, by decide⟩
abbrev kX6_term4 : MD := (yX6_term4, cX6_term4, 2, some .int)
set_option maxRecDepth 40000 in
theorem ok_X6_term4 : MDok kX6_term4 0 := ⟨by decide +kernel, mem_t 906 rfl rfl, ln_X6, by decide⟩
abbrev kX6_added4 : MD := (yX6_added4, cX6_added4, 4, some .int)
set_option maxRecDepth 40000 in
theorem ok_X6_added4 : MDok kX6_added4 0 := ⟨by decide +kernel, mem_t 902 rfl rfl, ln_X6, by decide⟩
abbrev kX6_not4 : MD := (yX6_not4, cX6_not4, 4, some .int)
set_option maxRecDepth 40000 in
theorem ok_X6_not4 : MDok kX6_not4 0 := ⟨by decide +kernel, mem_t 872 rfl rfl, ln_X6, by decide⟩
abbrev kX6_both4 : MD := (yX6_both4, cX6_both4, 3, some .int)
set_option maxRecDepth 40000 in
theorem ok_X6_both4 : MDok kX6_both4 0 := ⟨by decide +kernel, mem_t 938 rfl rfl, ln_X6, by decide⟩
abbrev kX6_either4 : MD := (yX6_either4, cX6_either4, 3, some .int)
set_option maxRecDepth 40000 in
theorem ok_X6_either4 : MDok kX6_either4 0 := ⟨by decide +kernel, mem_t 934 rfl rfl, ln_X6, by decide⟩
abbrev kX6_atom3 : MD := (yX6_atom3, cX6_atom3, 2, some .int)
set_option maxRecDepth 40000 in
theorem ok_X6_atom3 : MDok kX6_atom3 0 := ⟨by decide +kernel, mem_t 930 rfl rfl, ln_X6, by decide⟩
abbrev kX6_term3 : MD := (yX6_term3, cX6_term3, 2, some .int)
set_option maxRecDepth 40000 in
theorem ok_X6_term3 : MDok kX6_term3 0 := ⟨by decide +kernel, mem_t 926 rfl rfl, ln_X6, by decide⟩
abbrev kX6_added3 : MD := (yX6_added3, cX6_added3, 4, some .int)
set_option maxRecDepth 40000 in
theorem ok_X6_added3 : MDok kX6_added3 0 := ⟨by decide +kernel, mem_t 922 rfl rfl, ln_X6, by decide⟩
abbrev kX6_not3 : MD := (yX6_not3, cX6_not3, 4, some .int)
set_option maxRecDepth 40000 in
theorem ok_X6_not3 : MDok kX6_not3 0 := ⟨by decide +kernel, mem_t 868 rfl rfl, ln_X6, by decide⟩
abbrev kX6_both3 : MD := (yX6_both3, cX6_both3, 3, some .int)
set_option maxRecDepth 40000 in
theorem ok_X6_both3 : MDok kX6_both3 0 := ⟨by decide +kernel, mem_t 958 rfl rfl, ln_X6, by decide⟩
abbrev kX6_either3 : MD := (yX6_either3, cX6_either3, 3, some .int)
set_option maxRecDepth 40000 in
theorem ok_X6_either3 : MDok kX6_either3 0 := ⟨by decide +kernel, mem_t 954 rfl rfl, ln_X6, by decide⟩
abbrev kX6_atom2 : MD := (yX6_atom2, cX6_atom2, 2, some .int)
set_option maxRecDepth 40000 in
theorem ok_X6_atom2 : MDok kX6_atom2 0 := ⟨by decide +kernel, mem_t 950 rfl rfl, ln_X6, by decide⟩
abbrev kX6_term2 : MD := (yX6_term2, cX6_term2, 2, some .int)
set_option maxRecDepth 40000 in
theorem ok_X6_term2 : MDok kX6_term2 0 := ⟨by decide +kernel, mem_t 946 rfl rfl, ln_X6, by decide⟩
abbrev kX6_added2 : MD := (yX6_added2, cX6_added2, 4, some .int)
set_option maxRecDepth 40000 in
theorem ok_X6_added2 : MDok kX6_added2 0 := ⟨by decide +kernel, mem_t 942 rfl rfl, ln_X6, by decide⟩
abbrev kX6_not2 : MD := (yX6_not2, cX6_not2, 4, some .int)
set_option maxRecDepth 40000 in
theorem ok_X6_not2 : MDok kX6_not2 0 := ⟨by decide +kernel, mem_t 864 rfl rfl, ln_X6, by decide⟩
abbrev kX6_both2 : MD := (yX6_both2, cX6_both2, 3, some .int)
set_option maxRecDepth 40000 in
theorem ok_X6_both2 : MDok kX6_both2 0 := ⟨by decide +kernel, mem_t 978 rfl rfl, ln_X6, by decide⟩
abbrev kX6_either2 : MD := (yX6_either2, cX6_either2, 3, some .int)
set_option maxRecDepth 40000 in
theorem ok_X6_either2 : MDok kX6_either2 0 := ⟨by decide +kernel, mem_t 974 rfl rfl, ln_X6, by decide⟩
abbrev kX6_atom1 : MD := (yX6_atom1, cX6_atom1, 2, some .int)
set_option maxRecDepth 40000 in
theorem ok_X6_atom1 : MDok kX6_atom1 0 := ⟨by decide +kernel, mem_t 970 rfl rfl, ln_X6, by decide⟩
abbrev kX6_term1 : MD := (yX6_term1, cX6_term1, 2, some .int)
set_option maxRecDepth 40000 in
theorem ok_X6_term1 : MDok kX6_term1 0 := ⟨by decide +kernel, mem_t 966 rfl rfl, ln_X6, by decide⟩
abbrev kX6_added1 : MD := (yX6_added1, cX6_added1, 4, some .int)
set_option maxRecDepth 40000 in
theorem ok_X6_added1 : MDok kX6_added1 0 := ⟨by decide +kernel, mem_t 962 rfl rfl, ln_X6, by decide⟩
abbrev kX6_not1 : MD := (yX6_not1, cX6_not1, 4, some .int)
set_option maxRecDepth 40000 in
theorem ok_X6_not1 : MDok kX6_not1 0 := ⟨by decide +kernel, mem_t 860 rfl rfl, ln_X6, by decide⟩
abbrev kX6_both1 : MD := (yX6_both1, cX6_both1, 3, some .int)
set_option maxRecDepth 40000 in
theorem ok_X6_both1 : MDok kX6_both1 0 := ⟨by decide +kernel, mem_t 998 rfl rfl, ln_X6, by decide⟩
abbrev kX6_either1 : MD := (yX6_either1, cX6_either1, 3, some .int)
set_option maxRecDepth 40000 in
theorem ok_X6_either1 : MDok kX6_either1 0 := ⟨by decide +kernel, mem_t 994 rfl rfl, ln_X6, by decide⟩
abbrev kX6_atom0 : MD := (yX6_atom0, cX6_atom0, 2, some .int)
set_option maxRecDepth 40000 in
theorem ok_X6_atom0 : MDok kX6_atom0 0 := ⟨by decide +kernel, mem_t 990 rfl rfl, ln_X6, by decide⟩
abbrev kX6_term0 : MD := (yX6_term0, cX6_term0, 2, some .int)
set_option maxRecDepth 40000 in
theorem ok_X6_term0 : MDok kX6_term0 0 := ⟨by decide +kernel, mem_t 986 rfl rfl, ln_X6, by decide⟩
abbrev kX6_added0 : MD := (yX6_added0, cX6_added0, 4, some .int)
set_option maxRecDepth 40000 in
theorem ok_X6_added0 : MDok kX6_added0 0 := ⟨by decide +kernel, mem_t 982 rfl rfl, ln_X6, by decide⟩
abbrev kX6_not0 : MD := (yX6_not0, cX6_not0, 4, some .int)
set_option maxRecDepth 40000 in
theorem ok_X6_not0 : MDok kX6_not0 0 := ⟨by decide +kernel, mem_t 852 rfl rfl, ln_X6, by decide⟩
abbrev kX6_both0 : MD := (yX6_both0, cX6_both0, 3, some .int)
set_option maxRecDepth 40000 in
theorem ok_X6_both0 : MDok kX6_both0 0 := ⟨by decide +kernel, mem_t 848 rfl rfl, ln_X6, by decide⟩
abbrev kX6_either0 : MD := (yX6_either0, cX6_either0, 3, some .int)
set_option maxRecDepth 40000 in
theorem ok_X6_either0 : MDok kX6_either0 0 := ⟨by decide +kernel, mem_t 844 rfl rfl, ln_X6, by decide⟩
abbrev kX6_part : MD := (yX6_part, cX6_part, 3, some .int)
set_option maxRecDepth 40000 in
theorem ok_X6_part : MDok kX6_part 1 := ⟨by decide +kernel, mem_t 836 rfl rfl, ln_X6, by decide⟩
abbrev kX6_read : MD := (yX6_read, cX6_read, 6, some .int)
set_option maxRecDepth 40000 in
theorem ok_X6_read : MDok kX6_read 2 := ⟨by decide +kernel, mem_t 811 rfl rfl, ln_X6, by decide⟩
abbrev kX6_within : MD := (yX6_within, cX6_within, 3, some .int)
set_option maxRecDepth 40000 in
theorem ok_X6_within : MDok kX6_within 3 := ⟨by decide +kernel, mem_t 1001 rfl rfl, ln_X6, by decide⟩
abbrev kX6_says : MD := (yX6_says, cX6_says, 3, some .int)
set_option maxRecDepth 40000 in
theorem ok_X6_says : MDok kX6_says 2 := ⟨by decide +kernel, mem_t 807 rfl rfl, ln_X6, by decide⟩
abbrev kX6_turnsOf : MD := (yX6_turnsOf, cX6_turnsOf, 5, some .int)
set_option maxRecDepth 40000 in
theorem ok_X6_turnsOf : MDok kX6_turnsOf 1 := ⟨by decide +kernel, mem_t 803 rfl rfl, ln_X6, by decide⟩
abbrev kX6_givesOf : MD := (yX6_givesOf, cX6_givesOf, 6, some .int)
set_option maxRecDepth 40000 in
theorem ok_X6_givesOf : MDok kX6_givesOf 1 := ⟨by decide +kernel, mem_t 1005 rfl rfl, ln_X6, by decide⟩
abbrev kX6_spoilsOf : MD := (yX6_spoilsOf, cX6_spoilsOf, 4, some .int)
set_option maxRecDepth 40000 in
theorem ok_X6_spoilsOf : MDok kX6_spoilsOf 1 := ⟨by decide +kernel, mem_t 1009 rfl rfl, ln_X6, by decide⟩
abbrev kX6_worthOf : MD := (yX6_worthOf, cX6_worthOf, 6, some .int)
set_option maxRecDepth 40000 in
theorem ok_X6_worthOf : MDok kX6_worthOf 1 := ⟨by decide +kernel, mem_t 1017 rfl rfl, ln_X6, by decide⟩
abbrev kX6_isWhole : MD := (yX6_isWhole, cX6_isWhole, 2, some .boolean)
set_option maxRecDepth 40000 in
theorem ok_X6_isWhole : MDok kX6_isWhole 1 := ⟨by decide +kernel, mem_t 1013 rfl rfl, ln_X6, by decide⟩
abbrev kX6_told : MD := (yX6_told, cX6_told, 3, some .int)
set_option maxRecDepth 40000 in
theorem ok_X6_told : MDok kX6_told 2 := ⟨by decide +kernel, mem_t 797 rfl rfl, ln_X6, by decide⟩
abbrev kX6_lays : MD := (yX6_lays, cX6_lays, 4, none)
set_option maxRecDepth 40000 in
theorem ok_X6_lays : MDok kX6_lays 3 := ⟨by decide +kernel, mem_t 1021 rfl rfl, ln_X6, by decide⟩
abbrev kX6_isOf : MD := (yX6_isOf, cX6_isOf, 3, some .boolean)
set_option maxRecDepth 40000 in
theorem ok_X6_isOf : MDok kX6_isOf 2 := ⟨by decide +kernel, mem_t 1081 rfl rfl, ln_X6, by decide⟩
abbrev kX6_bitsOf : MD := (yX6_bitsOf, cX6_bitsOf, 3, some .int)
set_option maxRecDepth 40000 in
theorem ok_X6_bitsOf : MDok kX6_bitsOf 1 := ⟨by decide +kernel, mem_t 1052 rfl rfl, ln_X6, by decide⟩
abbrev kX6_passes : MD := (yX6_passes, cX6_passes, 3, some .int)
set_option maxRecDepth 40000 in
theorem ok_X6_passes : MDok kX6_passes 0 := ⟨by decide +kernel, mem_t 1049 rfl rfl, ln_X6, by decide⟩
abbrev kX6_isOwner : MD := (yX6_isOwner, cX6_isOwner, 1, some .boolean)
set_option maxRecDepth 40000 in
theorem ok_X6_isOwner : MDok kX6_isOwner 1 := ⟨by decide +kernel, mem_t 1059 rfl rfl, ln_X6, by decide⟩
abbrev kX6_pays : MD := (yX6_pays, cX6_pays, 3, none)
set_option maxRecDepth 40000 in
theorem ok_X6_pays : MDok kX6_pays 2 := ⟨by decide +kernel, mem_t 1064 rfl rfl, ln_X6, by decide⟩
abbrev kX6_purseOf : MD := (yX6_purseOf, cX6_purseOf, 4, some .int)
set_option maxRecDepth 40000 in
theorem ok_X6_purseOf : MDok kX6_purseOf 1 := ⟨by decide +kernel, mem_t 1077 rfl rfl, ln_X6, by decide⟩
abbrev kX6_valuesOf : MD := (yX6_valuesOf, cX6_valuesOf, 4, some .int)
set_option maxRecDepth 40000 in
theorem ok_X6_valuesOf : MDok kX6_valuesOf 1 := ⟨by decide +kernel, mem_t 1085 rfl rfl, ln_X6, by decide⟩
abbrev kX6_exactOf : MD := (yX6_exactOf, cX6_exactOf, 7, some .int)
set_option maxRecDepth 40000 in
theorem ok_X6_exactOf : MDok kX6_exactOf 2 := ⟨by decide +kernel, mem_t 1073 rfl rfl, ln_X6, by decide⟩
abbrev kX6_laysAside : MD := (yX6_laysAside, cX6_laysAside, 2, none)
set_option maxRecDepth 40000 in
theorem ok_X6_laysAside : MDok kX6_laysAside 0 := ⟨by decide +kernel, mem_t 1110 rfl rfl, ln_X6, by decide⟩
abbrev kX6_laysBack : MD := (yX6_laysBack, cX6_laysBack, 2, none)
set_option maxRecDepth 40000 in
theorem ok_X6_laysBack : MDok kX6_laysBack 0 := ⟨by decide +kernel, mem_t 1114 rfl rfl, ln_X6, by decide⟩
abbrev kX6_taxOf : MD := (yX6_taxOf, cX6_taxOf, 9, some .int)
set_option maxRecDepth 40000 in
theorem ok_X6_taxOf : MDok kX6_taxOf 1 := ⟨by decide +kernel, mem_t 1118 rfl rfl, ln_X6, by decide⟩
abbrev kX6_goneOf : MD := (yX6_goneOf, cX6_goneOf, 3, some .int)
set_option maxRecDepth 40000 in
theorem ok_X6_goneOf : MDok kX6_goneOf 1 := ⟨by decide +kernel, mem_t 1106 rfl rfl, ln_X6, by decide⟩
abbrev kX6_spendOf : MD := (yX6_spendOf, cX6_spendOf, 7, some .int)
set_option maxRecDepth 40000 in
theorem ok_X6_spendOf : MDok kX6_spendOf 1 := ⟨by decide +kernel, mem_t 1102 rfl rfl, ln_X6, by decide⟩
abbrev kX6_turnedOf : MD := (yX6_turnedOf, cX6_turnedOf, 4, some .int)
set_option maxRecDepth 40000 in
theorem ok_X6_turnedOf : MDok kX6_turnedOf 1 := ⟨by decide +kernel, mem_t 1098 rfl rfl, ln_X6, by decide⟩
abbrev kX6_richOf : MD := (yX6_richOf, cX6_richOf, 4, some .int)
set_option maxRecDepth 40000 in
theorem ok_X6_richOf : MDok kX6_richOf 1 := ⟨by decide +kernel, mem_t 1094 rfl rfl, ln_X6, by decide⟩
abbrev kX6_overOf : MD := (yX6_overOf, cX6_overOf, 9, some .int)
set_option maxRecDepth 40000 in
theorem ok_X6_overOf : MDok kX6_overOf 2 := ⟨by decide +kernel, mem_t 1131 rfl rfl, ln_X6, by decide⟩
abbrev kX6_bothBehind : MD := (yX6_bothBehind, cX6_bothBehind, 4, some .int)
set_option maxRecDepth 40000 in
theorem ok_X6_bothBehind : MDok kX6_bothBehind 2 := ⟨by decide +kernel, mem_t 1143 rfl rfl, ln_X6, by decide⟩
abbrev kX6_firstOther : MD := (yX6_firstOther, cX6_firstOther, 5, some .int)
set_option maxRecDepth 40000 in
theorem ok_X6_firstOther : MDok kX6_firstOther 2 := ⟨by decide +kernel, mem_t 1154 rfl rfl, ln_X6, by decide⟩
abbrev kX6_isSheet : MD := (yX6_isSheet, cX6_isSheet, 1, some .boolean)
set_option maxRecDepth 40000 in
theorem ok_X6_isSheet : MDok kX6_isSheet 1 := ⟨by decide +kernel, mem_t 1150 rfl rfl, ln_X6, by decide⟩
abbrev kX6_likeSet : MD := (yX6_likeSet, cX6_likeSet, 4, some .int)
set_option maxRecDepth 40000 in
theorem ok_X6_likeSet : MDok kX6_likeSet 1 := ⟨by decide +kernel, mem_t 1158 rfl rfl, ln_X6, by decide⟩
abbrev kX6_sheet : MD := (yX6_sheet, cX6_sheet, 5, some .int)
set_option maxRecDepth 40000 in
theorem ok_X6_sheet : MDok kX6_sheet 3 := ⟨by decide +kernel, mem_t 1166 rfl rfl, ln_X6, by decide⟩
abbrev kX6_draws : MD := (yX6_draws, cX6_draws, 4, none)
set_option maxRecDepth 40000 in
theorem ok_X6_draws : MDok kX6_draws 1 := ⟨by decide +kernel, mem_t 1176 rfl rfl, ln_X6, by decide⟩
abbrev kX6_coin : MD := (yX6_coin, cX6_coin, 4, some .int)
set_option maxRecDepth 40000 in
theorem ok_X6_coin : MDok kX6_coin 3 := ⟨by decide +kernel, mem_t 1025 rfl rfl, ln_X6, by decide⟩
abbrev kX6_over : MD := (yX6_over, cX6_over, 1, some .int)
set_option maxRecDepth 40000 in
theorem ok_X6_over : MDok kX6_over 1 := ⟨by decide +kernel, mem_t 1217 rfl rfl, ln_X6, by decide⟩
abbrev kX3_put : MD := (yX3_put, cX3_put, 2, some .boolean)
set_option maxRecDepth 40000 in
theorem ok_X3_put : MDok kX3_put 1 := ⟨by decide +kernel, mem_t 237 rfl rfl, ln_X3, by decide⟩
abbrev kX3_readOne : MD := (yX3_readOne, cX3_readOne, 2, some .boolean)
set_option maxRecDepth 40000 in
theorem ok_X3_readOne : MDok kX3_readOne 1 := ⟨by decide +kernel, mem_t 233 rfl rfl, ln_X3, by decide⟩
abbrev kX3_levelOf : MD := (yX3_levelOf, cX3_levelOf, 1, some .int)
set_option maxRecDepth 40000 in
theorem ok_X3_levelOf : MDok kX3_levelOf 1 := ⟨by decide +kernel, mem_t 240 rfl rfl, ln_X3, by decide⟩
abbrev kX5_init : MD := (yX5_init, cX5_init, 2, none)
set_option maxRecDepth 40000 in
theorem ok_X5_init : MDok kX5_init 0 := ⟨by decide +kernel, mem_t 20 rfl rfl, ln_X5, by decide⟩
abbrev kX6_init : MD := (yX6_init, cX6_init, 1, none)
set_option maxRecDepth 40000 in
theorem ok_X6_init : MDok kX6_init 0 := ⟨by decide +kernel, mem_t 658 rfl rfl, ln_X6, by decide⟩
abbrev kX5_set : MD := (yX5_set, cX5_set, 5, some .int)
set_option maxRecDepth 40000 in
theorem ok_X5_set : MDok kX5_set 3 := ⟨by decide +kernel, mem_t 319 rfl rfl, ln_X5, by decide⟩
abbrev kX6_set : MD := (yX6_set, cX6_set, 5, some .int)
set_option maxRecDepth 40000 in
theorem ok_X6_set : MDok kX6_set 3 := ⟨by decide +kernel, mem_t 782 rfl rfl, ln_X6, by decide⟩
abbrev kX5_told : MD := (yX5_told, cX5_told, 4, some .int)
set_option maxRecDepth 40000 in
theorem ok_X5_told : MDok kX5_told 2 := ⟨by decide +kernel, mem_t 351 rfl rfl, ln_X5, by decide⟩
abbrev kX5_feed : MD := (yX5_feed, cX5_feed, 2, some .int)
set_option maxRecDepth 40000 in
theorem ok_X5_feed : MDok kX5_feed 1 := ⟨by decide +kernel, mem_t 409 rfl rfl, ln_X5, by decide⟩
abbrev kX6_feed : MD := (yX6_feed, cX6_feed, 2, some .int)
set_option maxRecDepth 40000 in
theorem ok_X6_feed : MDok kX6_feed 1 := ⟨by decide +kernel, mem_t 1032 rfl rfl, ln_X6, by decide⟩
abbrev kX5_text : MD := (yX5_text, cX5_text, 2, some .int)
set_option maxRecDepth 40000 in
theorem ok_X5_text : MDok kX5_text 0 := ⟨by decide +kernel, mem_t 413 rfl rfl, ln_X5, by decide⟩
abbrev kX6_text : MD := (yX6_text, cX6_text, 2, some .int)
set_option maxRecDepth 40000 in
theorem ok_X6_text : MDok kX6_text 0 := ⟨by decide +kernel, mem_t 1037 rfl rfl, ln_X6, by decide⟩
abbrev kX5_force : MD := (yX5_force, cX5_force, 3, some .int)
set_option maxRecDepth 40000 in
theorem ok_X5_force : MDok kX5_force 1 := ⟨by decide +kernel, mem_t 417 rfl rfl, ln_X5, by decide⟩
abbrev kX6_force : MD := (yX6_force, cX6_force, 3, some .int)
set_option maxRecDepth 40000 in
theorem ok_X6_force : MDok kX6_force 1 := ⟨by decide +kernel, mem_t 1041 rfl rfl, ln_X6, by decide⟩
abbrev kX5_day : MD := (yX5_day, cX5_day, 3, some .int)
set_option maxRecDepth 40000 in
theorem ok_X5_day : MDok kX5_day 0 := ⟨by decide +kernel, mem_t 421 rfl rfl, ln_X5, by decide⟩
abbrev kX6_day : MD := (yX6_day, cX6_day, 1, some .int)
set_option maxRecDepth 40000 in
theorem ok_X6_day : MDok kX6_day 0 := ⟨by decide +kernel, mem_t 1045 rfl rfl, ln_X6, by decide⟩
abbrev kX5_pay : MD := (yX5_pay, cX5_pay, 4, some .int)
set_option maxRecDepth 40000 in
theorem ok_X5_pay : MDok kX5_pay 2 := ⟨by decide +kernel, mem_t 425 rfl rfl, ln_X5, by decide⟩
abbrev kX6_pay : MD := (yX6_pay, cX6_pay, 4, some .int)
set_option maxRecDepth 40000 in
theorem ok_X6_pay : MDok kX6_pay 2 := ⟨by decide +kernel, mem_t 1056 rfl rfl, ln_X6, by decide⟩
abbrev kX5_buy : MD := (yX5_buy, cX5_buy, 6, some .int)
set_option maxRecDepth 40000 in
theorem ok_X5_buy : MDok kX5_buy 3 := ⟨by decide +kernel, mem_t 433 rfl rfl, ln_X5, by decide⟩
abbrev kX6_buy : MD := (yX6_buy, cX6_buy, 6, some .int)
set_option maxRecDepth 40000 in
theorem ok_X6_buy : MDok kX6_buy 3 := ⟨by decide +kernel, mem_t 1068 rfl rfl, ln_X6, by decide⟩
abbrev kX5_has : MD := (yX5_has, cX5_has, 3, some .int)
set_option maxRecDepth 40000 in
theorem ok_X5_has : MDok kX5_has 2 := ⟨by decide +kernel, mem_t 461 rfl rfl, ln_X5, by decide⟩
abbrev kX6_has : MD := (yX6_has, cX6_has, 3, some .int)
set_option maxRecDepth 40000 in
theorem ok_X6_has : MDok kX6_has 2 := ⟨by decide +kernel, mem_t 1089 rfl rfl, ln_X6, by decide⟩
abbrev kX5_run : MD := (yX5_run, cX5_run, 4, some .int)
set_option maxRecDepth 40000 in
theorem ok_X5_run : MDok kX5_run 3 := ⟨by decide +kernel, mem_t 493 rfl rfl, ln_X5, by decide⟩
abbrev kX6_run : MD := (yX6_run, cX6_run, 5, some .int)
set_option maxRecDepth 40000 in
theorem ok_X6_run : MDok kX6_run 3 := ⟨by decide +kernel, mem_t 1122 rfl rfl, ln_X6, by decide⟩
abbrev kX5_exact : MD := (yX5_exact, cX5_exact, 5, some .int)
set_option maxRecDepth 40000 in
theorem ok_X5_exact : MDok kX5_exact 3 := ⟨by decide +kernel, mem_t 497 rfl rfl, ln_X5, by decide⟩
abbrev kX6_exact : MD := (yX6_exact, cX6_exact, 5, some .int)
set_option maxRecDepth 40000 in
theorem ok_X6_exact : MDok kX6_exact 3 := ⟨by decide +kernel, mem_t 1127 rfl rfl, ln_X6, by decide⟩
abbrev kX5_wise : MD := (yX5_wise, cX5_wise, 6, some .int)
set_option maxRecDepth 40000 in
theorem ok_X5_wise : MDok kX5_wise 4 := ⟨by decide +kernel, mem_t 505 rfl rfl, ln_X5, by decide⟩
abbrev kX6_wise : MD := (yX6_wise, cX6_wise, 11, some .int)
set_option maxRecDepth 40000 in
theorem ok_X6_wise : MDok kX6_wise 4 := ⟨by decide +kernel, mem_t 1135 rfl rfl, ln_X6, by decide⟩
abbrev kX5_change : MD := (yX5_change, cX5_change, 6, some .int)
set_option maxRecDepth 40000 in
theorem ok_X5_change : MDok kX5_change 3 := ⟨by decide +kernel, mem_t 517 rfl rfl, ln_X5, by decide⟩
abbrev kX6_change : MD := (yX6_change, cX6_change, 12, some .int)
set_option maxRecDepth 40000 in
theorem ok_X6_change : MDok kX6_change 3 := ⟨by decide +kernel, mem_t 1139 rfl rfl, ln_X6, by decide⟩
abbrev kX5_tells : MD := (yX5_tells, cX5_tells, 6, some .int)
set_option maxRecDepth 40000 in
theorem ok_X5_tells : MDok kX5_tells 3 := ⟨by decide +kernel, mem_t 533 rfl rfl, ln_X5, by decide⟩
abbrev kX6_tells : MD := (yX6_tells, cX6_tells, 11, some .int)
set_option maxRecDepth 40000 in
theorem ok_X6_tells : MDok kX6_tells 3 := ⟨by decide +kernel, mem_t 1147 rfl rfl, ln_X6, by decide⟩
abbrev kX5_film : MD := (yX5_film, cX5_film, 5, some .int)
set_option maxRecDepth 40000 in
theorem ok_X5_film : MDok kX5_film 3 := ⟨by decide +kernel, mem_t 572 rfl rfl, ln_X5, by decide⟩
abbrev kX6_film : MD := (yX6_film, cX6_film, 5, some .int)
set_option maxRecDepth 40000 in
theorem ok_X6_film : MDok kX6_film 3 := ⟨by decide +kernel, mem_t 1162 rfl rfl, ln_X6, by decide⟩
abbrev kX5_drawn : MD := (yX5_drawn, cX5_drawn, 6, some .int)
set_option maxRecDepth 40000 in
theorem ok_X5_drawn : MDok kX5_drawn 2 := ⟨by decide +kernel, mem_t 587 rfl rfl, ln_X5, by decide⟩
abbrev kX6_drawn : MD := (yX6_drawn, cX6_drawn, 4, some .int)
set_option maxRecDepth 40000 in
theorem ok_X6_drawn : MDok kX6_drawn 2 := ⟨by decide +kernel, mem_t 1172 rfl rfl, ln_X6, by decide⟩
abbrev kX5_chance : MD := (yX5_chance, cX5_chance, 8, some .long)
set_option maxRecDepth 40000 in
theorem ok_X5_chance : MDok kX5_chance 5 := ⟨by decide +kernel, mem_t 598 rfl rfl, ln_X5, by decide⟩
abbrev kX6_chance : MD := (yX6_chance, cX6_chance, 14, some .long)
set_option maxRecDepth 40000 in
theorem ok_X6_chance : MDok kX6_chance 5 := ⟨by decide +kernel, mem_t 1181 rfl rfl, ln_X6, by decide⟩
abbrev kX5_image : MD := (yX5_image, cX5_image, 2, some .int)
set_option maxRecDepth 40000 in
theorem ok_X5_image : MDok kX5_image 0 := ⟨by decide +kernel, mem_t 610 rfl rfl, ln_X5, by decide⟩
abbrev kX6_image : MD := (yX6_image, cX6_image, 2, some .int)
set_option maxRecDepth 40000 in
theorem ok_X6_image : MDok kX6_image 0 := ⟨by decide +kernel, mem_t 1188 rfl rfl, ln_X6, by decide⟩
abbrev kX5_back : MD := (yX5_back, cX5_back, 2, some .int)
set_option maxRecDepth 40000 in
theorem ok_X5_back : MDok kX5_back 0 := ⟨by decide +kernel, mem_t 614 rfl rfl, ln_X5, by decide⟩
abbrev kX6_back : MD := (yX6_back, cX6_back, 2, some .int)
set_option maxRecDepth 40000 in
theorem ok_X6_back : MDok kX6_back 0 := ⟨by decide +kernel, mem_t 1192 rfl rfl, ln_X6, by decide⟩
abbrev kX5_count : MD := (yX5_count, cX5_count, 2, some .int)
set_option maxRecDepth 40000 in
theorem ok_X5_count : MDok kX5_count 1 := ⟨by decide +kernel, mem_t 618 rfl rfl, ln_X5, by decide⟩
abbrev kX6_count : MD := (yX6_count, cX6_count, 4, some .int)
set_option maxRecDepth 40000 in
theorem ok_X6_count : MDok kX6_count 1 := ⟨by decide +kernel, mem_t 1196 rfl rfl, ln_X6, by decide⟩
abbrev kX5_sheet : MD := (yX5_sheet, cX5_sheet, 4, some .int)
set_option maxRecDepth 40000 in
theorem ok_X5_sheet : MDok kX5_sheet 3 := ⟨by decide +kernel, mem_t 626 rfl rfl, ln_X5, by decide⟩
abbrev kX5_cell : MD := (yX5_cell, cX5_cell, 5, some .int)
set_option maxRecDepth 40000 in
theorem ok_X5_cell : MDok kX5_cell 3 := ⟨by decide +kernel, mem_t 630 rfl rfl, ln_X5, by decide⟩
abbrev kX6_cell : MD := (yX6_cell, cX6_cell, 4, some .int)
set_option maxRecDepth 40000 in
theorem ok_X6_cell : MDok kX6_cell 3 := ⟨by decide +kernel, mem_t 1201 rfl rfl, ln_X6, by decide⟩
abbrev kX5_copy : MD := (yX5_copy, cX5_copy, 8, some .int)
set_option maxRecDepth 40000 in
theorem ok_X5_copy : MDok kX5_copy 5 := ⟨by decide +kernel, mem_t 634 rfl rfl, ln_X5, by decide⟩
abbrev kX6_copy : MD := (yX6_copy, cX6_copy, 9, some .int)
set_option maxRecDepth 40000 in
theorem ok_X6_copy : MDok kX6_copy 5 := ⟨by decide +kernel, mem_t 1205 rfl rfl, ln_X6, by decide⟩
abbrev kX5_coins : MD := (yX5_coins, cX5_coins, 9, some .int)
set_option maxRecDepth 40000 in
theorem ok_X5_coins : MDok kX5_coins 4 := ⟨by decide +kernel, mem_t 643 rfl rfl, ln_X5, by decide⟩
abbrev kX6_coins : MD := (yX6_coins, cX6_coins, 8, some .int)
set_option maxRecDepth 40000 in
theorem ok_X6_coins : MDok kX6_coins 4 := ⟨by decide +kernel, mem_t 1209 rfl rfl, ln_X6, by decide⟩
abbrev kX5_taken : MD := (yX5_taken, cX5_taken, 3, some .int)
set_option maxRecDepth 40000 in
theorem ok_X5_taken : MDok kX5_taken 2 := ⟨by decide +kernel, mem_t 648 rfl rfl, ln_X5, by decide⟩
abbrev kX6_taken : MD := (yX6_taken, cX6_taken, 4, some .int)
set_option maxRecDepth 40000 in
theorem ok_X6_taken : MDok kX6_taken 2 := ⟨by decide +kernel, mem_t 1214 rfl rfl, ln_X6, by decide⟩
abbrev kJ0_length_8abf5 : MD := (yJ0_length_8abf5, cJ0_length_8abf5, 1, some .int)
set_option maxRecDepth 40000 in
theorem ok_J0_length_8abf5 : MDok kJ0_length_8abf5 0 := ⟨by decide +kernel, mem_t 144 rfl rfl, ln_J0, by decide⟩
abbrev kJ0_coder_7d493 : MD := (yJ0_coder_7d493, cJ0_coder_7d493, 1, some .byte)
set_option maxRecDepth 40000 in
theorem ok_J0_coder_7d493 : MDok kJ0_coder_7d493 0 := ⟨by decide +kernel, mem_t 148 rfl rfl, ln_J0, by decide⟩
abbrev kJ0_isLatin1_aae02 : MD := (yJ0_isLatin1_aae02, cJ0_isLatin1_aae02, 1, some .boolean)
set_option maxRecDepth 40000 in
theorem ok_J0_isLatin1_aae02 : MDok kJ0_isLatin1_aae02 0 := ⟨by decide +kernel, mem_t 158 rfl rfl, ln_J0, by decide⟩
abbrev kJ0_charAt_5068e : MD := (yJ0_charAt_5068e, cJ0_charAt_5068e, 2, some .char)
set_option maxRecDepth 40000 in
theorem ok_J0_charAt_5068e : MDok kJ0_charAt_5068e 1 := ⟨by decide +kernel, mem_t 154 rfl rfl, ln_J0, by decide⟩
abbrev kJ1_charAt_3b067 : MD := (yJ1_charAt_3b067, cJ1_charAt_3b067, 2, some .char)
set_option maxRecDepth 40000 in
theorem ok_J1_charAt_3b067 : MDok kJ1_charAt_3b067 2 := ⟨by decide +kernel, mem_t 161 rfl rfl, ln_J1, by decide⟩
abbrev kJ0_checkIndex_df160 : MD := (yJ0_checkIndex_df160, cJ0_checkIndex_df160, 2, none)
set_option maxRecDepth 40000 in
theorem ok_J0_checkIndex_df160 : MDok kJ0_checkIndex_df160 2 := ⟨by decide +kernel, mem_t 164 rfl rfl, ln_J0, by decide⟩
abbrev kJ3_checkIndex_8e157 : MD := (yJ3_checkIndex_8e157, cJ3_checkIndex_8e157, 3, some .int)
set_option maxRecDepth 40000 in
theorem ok_J3_checkIndex_8e157 : MDok kJ3_checkIndex_8e157 3 := ⟨by decide +kernel, mem_t 169 rfl rfl, ln_J3, by decide⟩
theorem cls0 : ClsOK 0 RX0 TX0 6 := ⟨rfl, by decide +kernel, tyX0_ok, nmX0, rfl, by decide⟩
theorem nf0 : ∀ j, j < 6 → tyC 0 j ≠ .float ∧ tyC 0 j ≠ .double := by decide +kernel
theorem cls1 : ClsOK 1 RX1 TX1 5 := ⟨rfl, by decide +kernel, tyX1_ok, nmX1, rfl, by decide⟩
theorem nf1 : ∀ j, j < 5 → tyC 1 j ≠ .float ∧ tyC 1 j ≠ .double := by decide +kernel
theorem cls2 : ClsOK 2 RX2 TX2 3 := ⟨rfl, by decide +kernel, tyX2_ok, nmX2, rfl, by decide⟩
theorem nf2 : ∀ j, j < 3 → tyC 2 j ≠ .float ∧ tyC 2 j ≠ .double := by decide +kernel
theorem cls3 : ClsOK 3 RX3 TX3 8 := ⟨rfl, by decide +kernel, tyX3_ok, nmX3, rfl, by decide⟩
theorem nf3 : ∀ j, j < 8 → tyC 3 j ≠ .float ∧ tyC 3 j ≠ .double := by decide +kernel
theorem cls4 : ClsOK 4 RX4 TX4 3 := ⟨rfl, by decide +kernel, tyX4_ok, nmX4, rfl, by decide⟩
theorem nf4 : ∀ j, j < 3 → tyC 4 j ≠ .float ∧ tyC 4 j ≠ .double := by decide +kernel
theorem cls5 : ClsOK 5 RX5 TX5 11 := ⟨rfl, by decide +kernel, tyX5_ok, nmX5, rfl, by decide⟩
theorem nf5 : ∀ j, j < 11 → tyC 5 j ≠ .float ∧ tyC 5 j ≠ .double := by decide +kernel
theorem cls6 : ClsOK 6 RX6 TX6 38 := ⟨rfl, by decide +kernel, tyX6_ok, nmX6, rfl, by decide⟩
theorem nf6 : ∀ j, j < 38 → tyC 6 j ≠ .float ∧ tyC 6 j ≠ .double := by decide +kernel
