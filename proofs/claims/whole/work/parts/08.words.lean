theorem kM_0 : LM[0]? = some (11, 0) := by decide +kernel
theorem kM_1 : LM[1]? = some (20, 1000) := by decide +kernel
theorem kM_10 : LM[10]? = some (20, 2) := by decide +kernel
theorem kM_11 : LM[11]? = some (20, 2) := by decide +kernel
theorem kM_12 : LM[12]? = some (20, 2000) := by decide +kernel
theorem kM_13 : LM[13]? = some (20, 7) := by decide +kernel
theorem kM_14 : LM[14]? = some (23, 7) := by decide +kernel
theorem kM_15 : LM[15]? = some (20, 7) := by decide +kernel
theorem kM_16 : LM[16]? = some (20, 7) := by decide +kernel
theorem kM_17 : LM[17]? = some (20, 7) := by decide +kernel
theorem kM_18 : LM[18]? = some (20, 7) := by decide +kernel
theorem kM_19 : LM[19]? = some (20, 7) := by decide +kernel
theorem kM_2 : LM[2]? = some (20, 6) := by decide +kernel
theorem kM_20 : LM[20]? = some (20, 7) := by decide +kernel
theorem kM_21 : LM[21]? = some (20, 7) := by decide +kernel
theorem kM_22 : LM[22]? = some (20, 7) := by decide +kernel
theorem kM_23 : LM[23]? = some (20, 7) := by decide +kernel
theorem kM_24 : LM[24]? = some (20, 20) := by decide +kernel
theorem kM_25 : LM[25]? = some (20, 6) := by decide +kernel
theorem kM_26 : LM[26]? = some (20, 240) := by decide +kernel
theorem kM_27 : LM[27]? = some (20, 240) := by decide +kernel
theorem kM_28 : LM[28]? = some (20, 240) := by decide +kernel
theorem kM_29 : LM[29]? = some (20, 240) := by decide +kernel
theorem kM_3 : LM[3]? = some (21, 12) := by decide +kernel
theorem kM_30 : LM[30]? = some (20, 5) := by decide +kernel
theorem kM_31 : LM[31]? = some (20, 40) := by decide +kernel
theorem kM_32 : LM[32]? = some (23, 40) := by decide +kernel
theorem kM_33 : LM[33]? = some (20, 14) := by decide +kernel
theorem kM_34 : LM[34]? = some (20, 14) := by decide +kernel
theorem kM_35 : LM[35]? = some (20, 14) := by decide +kernel
theorem kM_36 : LM[36]? = some (20, 56) := by decide +kernel
theorem kM_37 : LM[37]? = some (20, 224) := by decide +kernel
theorem kM_38 : LM[38]? = some (23, 4) := by decide +kernel
theorem kM_39 : LM[39]? = some (23, 1891) := by decide +kernel
theorem kM_4 : LM[4]? = some (21, 10) := by decide +kernel
theorem kM_5 : LM[5]? = some (20, 12) := by decide +kernel
theorem kM_6 : LM[6]? = some (20, 12) := by decide +kernel
theorem kM_7 : LM[7]? = some (20, 12) := by decide +kernel
theorem kM_8 : LM[8]? = some (20, 10) := by decide +kernel
theorem kM_9 : LM[9]? = some (20, 10) := by decide +kernel
theorem kX_0 : LX[0]? = some (10, 0) := by decide +kernel
theorem kX_1 : LX[1]? = some (4, 0) := by decide +kernel
theorem kX_10 : LX[10]? = some (7, 0) := by decide +kernel
theorem kX_13 : LX[13]? = some (6, 0) := by decide +kernel
theorem kX_2 : LX[2]? = some (2, 0) := by decide +kernel
theorem kX_3 : LX[3]? = some (9, 0) := by decide +kernel
theorem kX_4 : LX[4]? = some (22, 1000) := by decide +kernel
theorem kX_49 : LX[49]? = some (24, 16) := by decide +kernel
theorem kX_5 : LX[5]? = some (0, 0) := by decide +kernel
theorem kX_50 : LX[50]? = some (25, 4) := by decide +kernel
theorem kX_6 : LX[6]? = some (20, 32) := by decide +kernel
theorem kX_7 : LX[7]? = some (7, 0) := by decide +kernel
theorem kX_8 : LX[8]? = some (20, 6) := by decide +kernel
theorem kX_9 : LX[9]? = some (20, 5) := by decide +kernel
theorem kb_10 : (Int8.ofInt 10).toInt32 = 10 := by decide
theorem kb_100 : (Int8.ofInt 100).toInt32 = 100 := by decide
theorem kb_11 : (Int8.ofInt 11).toInt32 = 11 := by decide
theorem kb_12 : (Int8.ofInt 12).toInt32 = 12 := by decide
theorem kb_122 : (Int8.ofInt 122).toInt32 = 122 := by decide
theorem kb_126 : (Int8.ofInt 126).toInt32 = 126 := by decide
theorem kb_14 : (Int8.ofInt 14).toInt32 = 14 := by decide
theorem kb_16 : (Int8.ofInt 16).toInt32 = 16 := by decide
theorem kb_20 : (Int8.ofInt 20).toInt32 = 20 := by decide
theorem kb_21 : (Int8.ofInt 21).toInt32 = 21 := by decide
theorem kb_22 : (Int8.ofInt 22).toInt32 = 22 := by decide
theorem kb_24 : (Int8.ofInt 24).toInt32 = 24 := by decide
theorem kb_25 : (Int8.ofInt 25).toInt32 = 25 := by decide
theorem kb_26 : (Int8.ofInt 26).toInt32 = 26 := by decide
theorem kb_27 : (Int8.ofInt 27).toInt32 = 27 := by decide
theorem kb_28 : (Int8.ofInt 28).toInt32 = 28 := by decide
theorem kb_29 : (Int8.ofInt 29).toInt32 = 29 := by decide
theorem kb_30 : (Int8.ofInt 30).toInt32 = 30 := by decide
theorem kb_31 : (Int8.ofInt 31).toInt32 = 31 := by decide
theorem kb_32 : (Int8.ofInt 32).toInt32 = 32 := by decide
theorem kb_40 : (Int8.ofInt 40).toInt32 = 40 := by decide
theorem kb_41 : (Int8.ofInt 41).toInt32 = 41 := by decide
theorem kb_42 : (Int8.ofInt 42).toInt32 = 42 := by decide
theorem kb_43 : (Int8.ofInt 43).toInt32 = 43 := by decide
theorem kb_45 : (Int8.ofInt 45).toInt32 = 45 := by decide
theorem kb_48 : (Int8.ofInt 48).toInt32 = 48 := by decide
theorem kb_56 : (Int8.ofInt 56).toInt32 = 56 := by decide
theorem kb_57 : (Int8.ofInt 57).toInt32 = 57 := by decide
theorem kb_59 : (Int8.ofInt 59).toInt32 = 59 := by decide
theorem kb_6 : (Int8.ofInt 6).toInt32 = 6 := by decide
theorem kb_60 : (Int8.ofInt 60).toInt32 = 60 := by decide
theorem kb_61 : (Int8.ofInt 61).toInt32 = 61 := by decide
theorem kb_63 : (Int8.ofInt 63).toInt32 = 63 := by decide
theorem kb_7 : (Int8.ofInt 7).toInt32 = 7 := by decide
theorem kb_8 : (Int8.ofInt 8).toInt32 = 8 := by decide
theorem kb_9 : (Int8.ofInt 9).toInt32 = 9 := by decide
theorem kb_97 : (Int8.ofInt 97).toInt32 = 97 := by decide
theorem kb_99 : (Int8.ofInt 99).toInt32 = 99 := by decide
theorem kb_m10 : (Int8.ofInt (-10)).toInt32 = (-10) := by decide
theorem kb_m11 : (Int8.ofInt (-11)).toInt32 = (-11) := by decide
theorem kb_m12 : (Int8.ofInt (-12)).toInt32 = (-12) := by decide
theorem kb_m2 : (Int8.ofInt (-2)).toInt32 = (-2) := by decide
theorem kb_m3 : (Int8.ofInt (-3)).toInt32 = (-3) := by decide
theorem kb_m4 : (Int8.ofInt (-4)).toInt32 = (-4) := by decide
theorem kb_m5 : (Int8.ofInt (-5)).toInt32 = (-5) := by decide
theorem kb_m6 : (Int8.ofInt (-6)).toInt32 = (-6) := by decide
theorem kb_m7 : (Int8.ofInt (-7)).toInt32 = (-7) := by decide
theorem kb_m8 : (Int8.ofInt (-8)).toInt32 = (-8) := by decide
theorem kb_m9 : (Int8.ofInt (-9)).toInt32 = (-9) := by decide
theorem ki_0 : Int32.ofInt 0 = 0 := by decide
theorem ki_1 : Int32.ofInt 1 = 1 := by decide
theorem ki_2 : Int32.ofInt 2 = 2 := by decide
theorem ki_3 : Int32.ofInt 3 = 3 := by decide
theorem ki_4 : Int32.ofInt 4 = 4 := by decide
theorem ki_5 : Int32.ofInt 5 = 5 := by decide
theorem ki_m1 : Int32.ofInt (-1) = (-1) := by decide
theorem ki_m8 : Int32.ofInt (-8) = (-8) := by decide
theorem ks_1000 : (Int16.ofInt 1000).toInt32 = 1000 := by decide
theorem ks_200 : (Int16.ofInt 200).toInt32 = 200 := by decide
theorem ks_210 : (Int16.ofInt 210).toInt32 = 210 := by decide
theorem ks_255 : (Int16.ofInt 255).toInt32 = 255 := by decide
theorem ks_9999 : (Int16.ofInt 9999).toInt32 = 9999 := by decide
theorem lyX_1_0 {i : Nat} (h : LX[i]? = some (1, 0)) : LX[i + 1]? = some (20, 1000) := fx_ly (by decide +kernel) h
theorem lyX_1_2 {i : Nat} (h : LX[i]? = some (1, 0)) : LX[i + 2]? = some (20, 32) := fx_ly (by decide +kernel) h
theorem lyX_3_1 {i : Nat} (h : LX[i]? = some (3, 0)) : LX[i + 1]? = some (7, 0) := fx_ly (by decide +kernel) h
theorem lyX_3_2 {i : Nat} (h : LX[i]? = some (3, 0)) : LX[i + 4]? = some (8, 0) := fx_ly (by decide +kernel) h
theorem lyX_3_3 {i : Nat} (h : LX[i]? = some (3, 0)) : LX[i + 9]? = some (6, 0) := fx_ly (by decide +kernel) h
theorem lyX_5_1 {i : Nat} (h : LX[i]? = some (5, 0)) : LX[i + 1]? = some (21, 6) := fx_ly (by decide +kernel) h
theorem lyX_5_12 {i : Nat} (h : LX[i]? = some (5, 0)) : LX[i + 8]? = some (1, 0) := fx_ly (by decide +kernel) h
theorem lyX_5_2 {i : Nat} (h : LX[i]? = some (5, 0)) : LX[i + 2]? = some (20, 6) := fx_ly (by decide +kernel) h
theorem lyX_5_3 {i : Nat} (h : LX[i]? = some (5, 0)) : LX[i + 3]? = some (20, 6) := fx_ly (by decide +kernel) h
theorem lyX_5_4 {i : Nat} (h : LX[i]? = some (5, 0)) : LX[i + 4]? = some (20, 6) := fx_ly (by decide +kernel) h
theorem lyX_5_6 {i : Nat} (h : LX[i]? = some (5, 0)) : LX[i + 5]? = some (21, 5) := fx_ly (by decide +kernel) h
theorem lyX_5_7 {i : Nat} (h : LX[i]? = some (5, 0)) : LX[i + 6]? = some (20, 5) := fx_ly (by decide +kernel) h
theorem lyX_5_8 {i : Nat} (h : LX[i]? = some (5, 0)) : LX[i + 7]? = some (20, 5) := fx_ly (by decide +kernel) h
theorem lyX_6_1 {i : Nat} (h : LX[i]? = some (6, 0)) : LX[i + 1]? = some (20, 8) := fx_ly (by decide +kernel) h
theorem lyX_6_2 {i : Nat} (h : LX[i]? = some (6, 0)) : LX[i + 2]? = some (23, 8) := fx_ly (by decide +kernel) h
theorem lyX_6_3 {i : Nat} (h : LX[i]? = some (6, 0)) : LX[i + 3]? = some (20, 31) := fx_ly (by decide +kernel) h
theorem lyX_7_0 {i : Nat} (h : LX[i]? = some (7, 0)) : LX[i + 1]? = some (20, 6) := fx_ly (by decide +kernel) h
theorem lyX_7_1 {i : Nat} (h : LX[i]? = some (7, 0)) : LX[i + 2]? = some (20, 5) := fx_ly (by decide +kernel) h
theorem lyX_8_1 {i : Nat} (h : LX[i]? = some (8, 0)) : LX[i + 1]? = some (20, 40) := fx_ly (by decide +kernel) h
theorem lyX_8_2 {i : Nat} (h : LX[i]? = some (8, 0)) : LX[i + 2]? = some (20, 40) := fx_ly (by decide +kernel) h
theorem lyX_8_3 {i : Nat} (h : LX[i]? = some (8, 0)) : LX[i + 3]? = some (20, 40) := fx_ly (by decide +kernel) h
theorem lyX_8_4 {i : Nat} (h : LX[i]? = some (8, 0)) : LX[i + 4]? = some (20, 40) := fx_ly (by decide +kernel) h
theorem inT_X0 : ∀ w ∈ u_ws RX0 TX0 3, w ∈ fx_tb := fx_inws [365, 367, 369] (by decide +kernel)
theorem kF_X0_9 : Cond.fieldLink RX0 9 (TX0 0).1 (TX0 0).2.1 (TX0 0).2.2.1 ∈ fx_tb := fx_tb_in (List.mem_of_getElem? (i := 362) (by decide +kernel)) (by decide +kernel)
theorem kF_X0_15 : Cond.fieldLink RX0 15 (TX0 1).1 (TX0 1).2.1 (TX0 1).2.2.1 ∈ fx_tb := fx_tb_in (List.mem_of_getElem? (i := 363) (by decide +kernel)) (by decide +kernel)
theorem kF_X0_19 : Cond.fieldLink RX0 19 (TX0 2).1 (TX0 2).2.1 (TX0 2).2.2.1 ∈ fx_tb := fx_tb_in (List.mem_of_getElem? (i := 364) (by decide +kernel)) (by decide +kernel)
theorem kL_X0_22 : Cond.methodLink RX0 22 yX0_isMajority ∈ fx_tb := fx_tb_in (List.mem_of_getElem? (i := 1016) (by decide +kernel)) (by decide +kernel)
theorem kI_X0_isMajority : Cond.instanceMethod yX0_isMajority ∈ fx_tb := fx_tb_in (List.mem_of_getElem? (i := 1018) (by decide +kernel)) (by decide +kernel)
theorem kS_X0_isMajority : Cond.selects RX0 yX0_isMajority yX0_isMajority ∈ fx_tb := fx_tb_in (List.mem_of_getElem? (i := 25) (by decide +kernel)) (by decide +kernel)
theorem kN_X0 : Cond.initialized RX0 ∈ fx_tb := fx_tb_in (List.mem_of_getElem? (i := 104) (by decide +kernel)) (by decide +kernel)
theorem kMV_X0_22 : ∀ w ∈ ([.methodLink RX0 22 yX0_isMajority, .instanceMethod yX0_isMajority, .selects RX0 yX0_isMajority yX0_isMajority, .initialized RX0] : List Cond), w ∈ fx_tb := fx_l4 kL_X0_22 kI_X0_isMajority kS_X0_isMajority kN_X0
theorem kC_X0_isMajority : Cond.code yX0_isMajority cX0_isMajority 2 (some .boolean) ∈ fx_tb := fx_tb_in (List.mem_of_getElem? (i := 1019) (by decide +kernel)) (by decide +kernel)
theorem hd_X0_isMajority : yX0_isMajority.cls = RX0 ∧ yX0_isMajority.cls ≠ "java/lang/invoke/MethodHandle" ∧ yX0_isMajority.cls ≠ "java/lang/invoke/VarHandle" ∧ (parseMethodDescriptor yX0_isMajority.desc).map (fun d => d.parameters.length) = some 1 := by decide +kernel
theorem kK_J6_265 : Cond.constant RJ6 265 1431655765 ∈ fx_tb := fx_tb_in (List.mem_of_getElem? (i := 993) (by decide +kernel)) (by decide +kernel)
theorem kK_J6_266 : Cond.constant RJ6 266 858993459 ∈ fx_tb := fx_tb_in (List.mem_of_getElem? (i := 994) (by decide +kernel)) (by decide +kernel)
theorem kK_J6_267 : Cond.constant RJ6 267 252645135 ∈ fx_tb := fx_tb_in (List.mem_of_getElem? (i := 995) (by decide +kernel)) (by decide +kernel)
theorem kL_X0_26 : Cond.methodLink RX0 26 yJ6_bitCount_0f7a4 ∈ fx_tb := fx_tb_in (List.mem_of_getElem? (i := 1041) (by decide +kernel)) (by decide +kernel)
theorem kT_J6_bitCount_0f7a4 : Cond.static yJ6_bitCount_0f7a4 ∈ fx_tb := fx_tb_in (List.mem_of_getElem? (i := 991) (by decide +kernel)) (by decide +kernel)
theorem kNy_J6_bitCount_0f7a4 : Cond.initialized yJ6_bitCount_0f7a4.cls ∈ fx_tb := fx_tb_in (List.mem_of_getElem? (i := 115) (by decide +kernel)) (by decide +kernel)
theorem kMS_X0_26 : ∀ w ∈ ([.methodLink RX0 26 yJ6_bitCount_0f7a4, .static yJ6_bitCount_0f7a4, .initialized yJ6_bitCount_0f7a4.cls] : List Cond), w ∈ fx_tb := fx_l3 kL_X0_26 kT_J6_bitCount_0f7a4 kNy_J6_bitCount_0f7a4
theorem kC_J6_bitCount_0f7a4 : Cond.code yJ6_bitCount_0f7a4 cJ6_bitCount_0f7a4 1 (some .int) ∈ fx_tb := fx_tb_in (List.mem_of_getElem? (i := 992) (by decide +kernel)) (by decide +kernel)
theorem hd_J6_bitCount_0f7a4 : yJ6_bitCount_0f7a4.cls = RJ6 ∧ yJ6_bitCount_0f7a4.cls ≠ "java/lang/invoke/MethodHandle" ∧ yJ6_bitCount_0f7a4.cls ≠ "java/lang/invoke/VarHandle" ∧ (parseMethodDescriptor yJ6_bitCount_0f7a4.desc).map (fun d => d.parameters.length) = some 1 := by decide +kernel
theorem inT_X1 : ∀ w ∈ u_ws RX1 TX1 3, w ∈ fx_tb := fx_inws [206, 208, 210] (by decide +kernel)
theorem kF_X1_18 : Cond.fieldLink RX1 18 (TX1 1).1 (TX1 1).2.1 (TX1 1).2.2.1 ∈ fx_tb := fx_tb_in (List.mem_of_getElem? (i := 203) (by decide +kernel)) (by decide +kernel)
theorem kF_X1_9 : Cond.fieldLink RX1 9 (TX1 0).1 (TX1 0).2.1 (TX1 0).2.2.1 ∈ fx_tb := fx_tb_in (List.mem_of_getElem? (i := 202) (by decide +kernel)) (by decide +kernel)
theorem kL_X1_26 : Cond.methodLink RX1 26 yX1_truth ∈ fx_tb := fx_tb_in (List.mem_of_getElem? (i := 920) (by decide +kernel)) (by decide +kernel)
theorem kT_X1_truth : Cond.static yX1_truth ∈ fx_tb := fx_tb_in (List.mem_of_getElem? (i := 921) (by decide +kernel)) (by decide +kernel)
theorem kNy_X1_truth : Cond.initialized yX1_truth.cls ∈ fx_tb := fx_tb_in (List.mem_of_getElem? (i := 100) (by decide +kernel)) (by decide +kernel)
theorem kMS_X1_26 : ∀ w ∈ ([.methodLink RX1 26 yX1_truth, .static yX1_truth, .initialized yX1_truth.cls] : List Cond), w ∈ fx_tb := fx_l3 kL_X1_26 kT_X1_truth kNy_X1_truth
theorem kC_X1_truth : Cond.code yX1_truth cX1_truth 1 (some .int) ∈ fx_tb := fx_tb_in (List.mem_of_getElem? (i := 922) (by decide +kernel)) (by decide +kernel)
theorem hd_X1_truth : yX1_truth.cls = RX1 ∧ yX1_truth.cls ≠ "java/lang/invoke/MethodHandle" ∧ yX1_truth.cls ≠ "java/lang/invoke/VarHandle" ∧ (parseMethodDescriptor yX1_truth.desc).map (fun d => d.parameters.length) = some 1 := by decide +kernel
theorem kF_X1_15 : Cond.fieldLink RX1 15 (TX1 2).1 (TX1 2).2.1 (TX1 2).2.2.1 ∈ fx_tb := fx_tb_in (List.mem_of_getElem? (i := 205) (by decide +kernel)) (by decide +kernel)
theorem kL_X1_30 : Cond.methodLink RX1 30 yX1_fact ∈ fx_tb := fx_tb_in (List.mem_of_getElem? (i := 923) (by decide +kernel)) (by decide +kernel)
theorem kT_X1_fact : Cond.static yX1_fact ∈ fx_tb := fx_tb_in (List.mem_of_getElem? (i := 924) (by decide +kernel)) (by decide +kernel)
theorem kNy_X1_fact : Cond.initialized yX1_fact.cls ∈ fx_tb := fx_tb_in (List.mem_of_getElem? (i := 100) (by decide +kernel)) (by decide +kernel)
theorem kMS_X1_30 : ∀ w ∈ ([.methodLink RX1 30 yX1_fact, .static yX1_fact, .initialized yX1_fact.cls] : List Cond), w ∈ fx_tb := fx_l3 kL_X1_30 kT_X1_fact kNy_X1_fact
theorem kC_X1_fact : Cond.code yX1_fact cX1_fact 5 (some .int) ∈ fx_tb := fx_tb_in (List.mem_of_getElem? (i := 925) (by decide +kernel)) (by decide +kernel)
theorem hd_X1_fact : yX1_fact.cls = RX1 ∧ yX1_fact.cls ≠ "java/lang/invoke/MethodHandle" ∧ yX1_fact.cls ≠ "java/lang/invoke/VarHandle" ∧ (parseMethodDescriptor yX1_fact.desc).map (fun d => d.parameters.length) = some 5 := by decide +kernel
theorem kL_X1_22 : Cond.methodLink RX1 22 yX1_combine ∈ fx_tb := fx_tb_in (List.mem_of_getElem? (i := 917) (by decide +kernel)) (by decide +kernel)
theorem kT_X1_combine : Cond.static yX1_combine ∈ fx_tb := fx_tb_in (List.mem_of_getElem? (i := 918) (by decide +kernel)) (by decide +kernel)
theorem kNy_X1_combine : Cond.initialized yX1_combine.cls ∈ fx_tb := fx_tb_in (List.mem_of_getElem? (i := 100) (by decide +kernel)) (by decide +kernel)
theorem kMS_X1_22 : ∀ w ∈ ([.methodLink RX1 22 yX1_combine, .static yX1_combine, .initialized yX1_combine.cls] : List Cond), w ∈ fx_tb := fx_l3 kL_X1_22 kT_X1_combine kNy_X1_combine
theorem kC_X1_combine : Cond.code yX1_combine cX1_combine 3 (some .int) ∈ fx_tb := fx_tb_in (List.mem_of_getElem? (i := 919) (by decide +kernel)) (by decide +kernel)
theorem hd_X1_combine : yX1_combine.cls = RX1 ∧ yX1_combine.cls ≠ "java/lang/invoke/MethodHandle" ∧ yX1_combine.cls ≠ "java/lang/invoke/VarHandle" ∧ (parseMethodDescriptor yX1_combine.desc).map (fun d => d.parameters.length) = some 3 := by decide +kernel
theorem inT_X9 : ∀ w ∈ u_ws RX9 TX9 9, w ∈ fx_tb := fx_inws [147, 149, 151, 153, 155, 157, 159, 161, 163] (by decide +kernel)
theorem kF_X9_41 : Cond.fieldLink RX9 41 (TX9 4).1 (TX9 4).2.1 (TX9 4).2.2.1 ∈ fx_tb := fx_tb_in (List.mem_of_getElem? (i := 139) (by decide +kernel)) (by decide +kernel)
theorem kF_X9_59 : Cond.fieldLink RX9 59 (TX9 7).1 (TX9 7).2.1 (TX9 7).2.2.1 ∈ fx_tb := fx_tb_in (List.mem_of_getElem? (i := 144) (by decide +kernel)) (by decide +kernel)
theorem kFw_X9_88 : Cond.fieldLink RX9 88 "HalfShop$Word" "key" "J" ∈ fx_tb := fx_tb_in (List.mem_of_getElem? (i := 1903) (by decide +kernel)) (by decide +kernel)
theorem kF_X9_72 : Cond.fieldLink RX9 72 (TX9 6).1 (TX9 6).2.1 (TX9 6).2.2.1 ∈ fx_tb := fx_tb_in (List.mem_of_getElem? (i := 142) (by decide +kernel)) (by decide +kernel)
theorem inT_X2 : ∀ w ∈ u_ws RX2 TX2 1, w ∈ fx_tb := fx_inws [180] (by decide +kernel)
theorem kF_X2_9 : Cond.fieldLink RX2 9 (TX2 0).1 (TX2 0).2.1 (TX2 0).2.2.1 ∈ fx_tb := fx_tb_in (List.mem_of_getElem? (i := 179) (by decide +kernel)) (by decide +kernel)
theorem kFw_X2_68 : Cond.fieldLink RX2 68 "HalfShop$Word" "AND" "LHalfShop$Word;" ∈ fx_tb := fx_tb_in (List.mem_of_getElem? (i := 747) (by decide +kernel)) (by decide +kernel)
theorem kL_X2_48 : Cond.methodLink RX2 48 yX9_isWord ∈ fx_tb := fx_tb_in (List.mem_of_getElem? (i := 722) (by decide +kernel)) (by decide +kernel)
theorem kI_X9_isWord : Cond.instanceMethod yX9_isWord ∈ fx_tb := fx_tb_in (List.mem_of_getElem? (i := 602) (by decide +kernel)) (by decide +kernel)
theorem kS_X9_isWord : Cond.selects RX9 yX9_isWord yX9_isWord ∈ fx_tb := fx_tb_in (List.mem_of_getElem? (i := 603) (by decide +kernel)) (by decide +kernel)
theorem kN_X9 : Cond.initialized RX9 ∈ fx_tb := fx_tb_in (List.mem_of_getElem? (i := 96) (by decide +kernel)) (by decide +kernel)
theorem kMV_X2_48 : ∀ w ∈ ([.methodLink RX2 48 yX9_isWord, .instanceMethod yX9_isWord, .selects RX9 yX9_isWord yX9_isWord, .initialized RX9] : List Cond), w ∈ fx_tb := fx_l4 kL_X2_48 kI_X9_isWord kS_X9_isWord kN_X9
theorem kC_X9_isWord : Cond.code yX9_isWord cX9_isWord 2 (some .boolean) ∈ fx_tb := fx_tb_in (List.mem_of_getElem? (i := 604) (by decide +kernel)) (by decide +kernel)
theorem hd_X9_isWord : yX9_isWord.cls = RX9 ∧ yX9_isWord.cls ≠ "java/lang/invoke/MethodHandle" ∧ yX9_isWord.cls ≠ "java/lang/invoke/VarHandle" ∧ (parseMethodDescriptor yX9_isWord.desc).map (fun d => d.parameters.length) = some 1 := by decide +kernel
theorem kFw_X2_71 : Cond.fieldLink RX2 71 "HalfShop$Word" "OR" "LHalfShop$Word;" ∈ fx_tb := fx_tb_in (List.mem_of_getElem? (i := 749) (by decide +kernel)) (by decide +kernel)
theorem kL_X2_52 : Cond.methodLink RX2 52 yX9_isSign ∈ fx_tb := fx_tb_in (List.mem_of_getElem? (i := 731) (by decide +kernel)) (by decide +kernel)
theorem kI_X9_isSign : Cond.instanceMethod yX9_isSign ∈ fx_tb := fx_tb_in (List.mem_of_getElem? (i := 732) (by decide +kernel)) (by decide +kernel)
theorem kS_X9_isSign : Cond.selects RX9 yX9_isSign yX9_isSign ∈ fx_tb := fx_tb_in (List.mem_of_getElem? (i := 733) (by decide +kernel)) (by decide +kernel)
theorem kMV_X2_52 : ∀ w ∈ ([.methodLink RX2 52 yX9_isSign, .instanceMethod yX9_isSign, .selects RX9 yX9_isSign yX9_isSign, .initialized RX9] : List Cond), w ∈ fx_tb := fx_l4 kL_X2_52 kI_X9_isSign kS_X9_isSign kN_X9
theorem kC_X9_isSign : Cond.code yX9_isSign cX9_isSign 2 (some .boolean) ∈ fx_tb := fx_tb_in (List.mem_of_getElem? (i := 734) (by decide +kernel)) (by decide +kernel)
theorem hd_X9_isSign : yX9_isSign.cls = RX9 ∧ yX9_isSign.cls ≠ "java/lang/invoke/MethodHandle" ∧ yX9_isSign.cls ≠ "java/lang/invoke/VarHandle" ∧ (parseMethodDescriptor yX9_isSign.desc).map (fun d => d.parameters.length) = some 1 := by decide +kernel
theorem kK_X10_117 : Cond.constantLong RX10 117 32 ∈ fx_tb := fx_tb_in (List.mem_of_getElem? (i := 488) (by decide +kernel)) (by decide +kernel)
theorem kF_X9_34 : Cond.fieldLink RX9 34 (TX9 2).1 (TX9 2).2.1 (TX9 2).2.2.1 ∈ fx_tb := fx_tb_in (List.mem_of_getElem? (i := 137) (by decide +kernel)) (by decide +kernel)
theorem kF_X9_28 : Cond.fieldLink RX9 28 (TX9 3).1 (TX9 3).2.1 (TX9 3).2.2.1 ∈ fx_tb := fx_tb_in (List.mem_of_getElem? (i := 138) (by decide +kernel)) (by decide +kernel)
theorem kF_X9_21 : Cond.fieldLink RX9 21 (TX9 1).1 (TX9 1).2.1 (TX9 1).2.2.1 ∈ fx_tb := fx_tb_in (List.mem_of_getElem? (i := 136) (by decide +kernel)) (by decide +kernel)
theorem kF_X9_9 : Cond.fieldLink RX9 9 (TX9 0).1 (TX9 0).2.1 (TX9 0).2.2.1 ∈ fx_tb := fx_tb_in (List.mem_of_getElem? (i := 134) (by decide +kernel)) (by decide +kernel)
theorem kL_X9_44 : Cond.methodLink RX9 44 yX9_isLetter ∈ fx_tb := fx_tb_in (List.mem_of_getElem? (i := 478) (by decide +kernel)) (by decide +kernel)
theorem kT_X9_isLetter : Cond.static yX9_isLetter ∈ fx_tb := fx_tb_in (List.mem_of_getElem? (i := 479) (by decide +kernel)) (by decide +kernel)
theorem kNy_X9_isLetter : Cond.initialized yX9_isLetter.cls ∈ fx_tb := fx_tb_in (List.mem_of_getElem? (i := 96) (by decide +kernel)) (by decide +kernel)
theorem kMS_X9_44 : ∀ w ∈ ([.methodLink RX9 44 yX9_isLetter, .static yX9_isLetter, .initialized yX9_isLetter.cls] : List Cond), w ∈ fx_tb := fx_l3 kL_X9_44 kT_X9_isLetter kNy_X9_isLetter
theorem kC_X9_isLetter : Cond.code yX9_isLetter cX9_isLetter 1 (some .boolean) ∈ fx_tb := fx_tb_in (List.mem_of_getElem? (i := 480) (by decide +kernel)) (by decide +kernel)
theorem hd_X9_isLetter : yX9_isLetter.cls = RX9 ∧ yX9_isLetter.cls ≠ "java/lang/invoke/MethodHandle" ∧ yX9_isLetter.cls ≠ "java/lang/invoke/VarHandle" ∧ (parseMethodDescriptor yX9_isLetter.desc).map (fun d => d.parameters.length) = some 1 := by decide +kernel
theorem kL_X9_63 : Cond.methodLink RX9 63 yX10_withLetter ∈ fx_tb := fx_tb_in (List.mem_of_getElem? (i := 485) (by decide +kernel)) (by decide +kernel)
theorem kT_X10_withLetter : Cond.static yX10_withLetter ∈ fx_tb := fx_tb_in (List.mem_of_getElem? (i := 486) (by decide +kernel)) (by decide +kernel)
theorem kNy_X10_withLetter : Cond.initialized yX10_withLetter.cls ∈ fx_tb := fx_tb_in (List.mem_of_getElem? (i := 108) (by decide +kernel)) (by decide +kernel)
theorem kMS_X9_63 : ∀ w ∈ ([.methodLink RX9 63 yX10_withLetter, .static yX10_withLetter, .initialized yX10_withLetter.cls] : List Cond), w ∈ fx_tb := fx_l3 kL_X9_63 kT_X10_withLetter kNy_X10_withLetter
theorem kC_X10_withLetter : Cond.code yX10_withLetter cX10_withLetter 3 (some .long) ∈ fx_tb := fx_tb_in (List.mem_of_getElem? (i := 487) (by decide +kernel)) (by decide +kernel)
theorem hd_X10_withLetter : yX10_withLetter.cls = RX10 ∧ yX10_withLetter.cls ≠ "java/lang/invoke/MethodHandle" ∧ yX10_withLetter.cls ≠ "java/lang/invoke/VarHandle" ∧ (parseMethodDescriptor yX10_withLetter.desc).map (fun d => d.parameters.length) = some 2 := by decide +kernel
theorem kF_X9_69 : Cond.fieldLink RX9 69 (TX9 5).1 (TX9 5).2.1 (TX9 5).2.2.1 ∈ fx_tb := fx_tb_in (List.mem_of_getElem? (i := 141) (by decide +kernel)) (by decide +kernel)
theorem kL_X9_50 : Cond.methodLink RX9 50 yX9_isDigit ∈ fx_tb := fx_tb_in (List.mem_of_getElem? (i := 489) (by decide +kernel)) (by decide +kernel)
theorem kT_X9_isDigit : Cond.static yX9_isDigit ∈ fx_tb := fx_tb_in (List.mem_of_getElem? (i := 490) (by decide +kernel)) (by decide +kernel)
theorem kNy_X9_isDigit : Cond.initialized yX9_isDigit.cls ∈ fx_tb := fx_tb_in (List.mem_of_getElem? (i := 96) (by decide +kernel)) (by decide +kernel)
theorem kMS_X9_50 : ∀ w ∈ ([.methodLink RX9 50 yX9_isDigit, .static yX9_isDigit, .initialized yX9_isDigit.cls] : List Cond), w ∈ fx_tb := fx_l3 kL_X9_50 kT_X9_isDigit kNy_X9_isDigit
theorem kC_X9_isDigit : Cond.code yX9_isDigit cX9_isDigit 1 (some .boolean) ∈ fx_tb := fx_tb_in (List.mem_of_getElem? (i := 491) (by decide +kernel)) (by decide +kernel)
theorem hd_X9_isDigit : yX9_isDigit.cls = RX9 ∧ yX9_isDigit.cls ≠ "java/lang/invoke/MethodHandle" ∧ yX9_isDigit.cls ≠ "java/lang/invoke/VarHandle" ∧ (parseMethodDescriptor yX9_isDigit.desc).map (fun d => d.parameters.length) = some 1 := by decide +kernel
theorem kFw_J0_38 : Cond.fieldLink RJ0 38 "java/lang/String" "COMPACT_STRINGS" "Z" ∈ fx_tb := fx_tb_in (List.mem_of_getElem? (i := 513) (by decide +kernel)) (by decide +kernel)
theorem kFw_J0_15 : Cond.fieldLink RJ0 15 "java/lang/String" "coder" "B" ∈ fx_tb := fx_tb_in (List.mem_of_getElem? (i := 1901) (by decide +kernel)) (by decide +kernel)
theorem kFw_J0_9 : Cond.fieldLink RJ0 9 "java/lang/String" "value" "[B" ∈ fx_tb := fx_tb_in (List.mem_of_getElem? (i := 1902) (by decide +kernel)) (by decide +kernel)
theorem kL_J0_335 : Cond.methodLink RJ0 335 yJ0_coder_7d493 ∈ fx_tb := fx_tb_in (List.mem_of_getElem? (i := 519) (by decide +kernel)) (by decide +kernel)
theorem kI_J0_coder_7d493 : Cond.instanceMethod yJ0_coder_7d493 ∈ fx_tb := fx_tb_in (List.mem_of_getElem? (i := 520) (by decide +kernel)) (by decide +kernel)
theorem kS_J0_coder_7d493 : Cond.selects RJ0 yJ0_coder_7d493 yJ0_coder_7d493 ∈ fx_tb := fx_tb_in (List.mem_of_getElem? (i := 521) (by decide +kernel)) (by decide +kernel)
theorem kN_J0 : Cond.initialized RJ0 ∈ fx_tb := fx_tb_in (List.mem_of_getElem? (i := 109) (by decide +kernel)) (by decide +kernel)
theorem kMV_J0_335 : ∀ w ∈ ([.methodLink RJ0 335 yJ0_coder_7d493, .instanceMethod yJ0_coder_7d493, .selects RJ0 yJ0_coder_7d493 yJ0_coder_7d493, .initialized RJ0] : List Cond), w ∈ fx_tb := fx_l4 kL_J0_335 kI_J0_coder_7d493 kS_J0_coder_7d493 kN_J0
theorem kC_J0_coder_7d493 : Cond.code yJ0_coder_7d493 cJ0_coder_7d493 1 (some .byte) ∈ fx_tb := fx_tb_in (List.mem_of_getElem? (i := 522) (by decide +kernel)) (by decide +kernel)
theorem hd_J0_coder_7d493 : yJ0_coder_7d493.cls = RJ0 ∧ yJ0_coder_7d493.cls ≠ "java/lang/invoke/MethodHandle" ∧ yJ0_coder_7d493.cls ≠ "java/lang/invoke/VarHandle" ∧ (parseMethodDescriptor yJ0_coder_7d493.desc).map (fun d => d.parameters.length) = some 0 := by decide +kernel
theorem kL_J1_88 : Cond.methodLink RJ1 88 yJ1_canEncode_9a6ad ∈ fx_tb := fx_tb_in (List.mem_of_getElem? (i := 526) (by decide +kernel)) (by decide +kernel)
theorem kT_J1_canEncode_9a6ad : Cond.static yJ1_canEncode_9a6ad ∈ fx_tb := fx_tb_in (List.mem_of_getElem? (i := 527) (by decide +kernel)) (by decide +kernel)
theorem kNy_J1_canEncode_9a6ad : Cond.initialized yJ1_canEncode_9a6ad.cls ∈ fx_tb := fx_tb_in (List.mem_of_getElem? (i := 110) (by decide +kernel)) (by decide +kernel)
theorem kMS_J1_88 : ∀ w ∈ ([.methodLink RJ1 88 yJ1_canEncode_9a6ad, .static yJ1_canEncode_9a6ad, .initialized yJ1_canEncode_9a6ad.cls] : List Cond), w ∈ fx_tb := fx_l3 kL_J1_88 kT_J1_canEncode_9a6ad kNy_J1_canEncode_9a6ad
theorem kC_J1_canEncode_9a6ad : Cond.code yJ1_canEncode_9a6ad cJ1_canEncode_9a6ad 1 (some .boolean) ∈ fx_tb := fx_tb_in (List.mem_of_getElem? (i := 528) (by decide +kernel)) (by decide +kernel)
theorem hd_J1_canEncode_9a6ad : yJ1_canEncode_9a6ad.cls = RJ1 ∧ yJ1_canEncode_9a6ad.cls ≠ "java/lang/invoke/MethodHandle" ∧ yJ1_canEncode_9a6ad.cls ≠ "java/lang/invoke/VarHandle" ∧ (parseMethodDescriptor yJ1_canEncode_9a6ad.desc).map (fun d => d.parameters.length) = some 1 := by decide +kernel
theorem kL_J1_92 : Cond.methodLink RJ1 92 Lib.Math.max.name ∈ fx_tb := fx_tb_in (List.mem_of_getElem? (i := 529) (by decide +kernel)) (by decide +kernel)
theorem kMt_max : Cond.static Lib.Math.max.name ∈ fx_tb := fx_tb_in (List.mem_of_getElem? (i := 530) (by decide +kernel)) (by decide +kernel)
theorem kMi : Cond.initialized "java/lang/Math" ∈ fx_tb := fx_tb_in (List.mem_of_getElem? (i := 111) (by decide +kernel)) (by decide +kernel)
theorem kMc_max : Cond.code Lib.Math.max.name Lib.Math.max.code 2 (some .int) ∈ fx_tb := fx_tb_in (List.mem_of_getElem? (i := 531) (by decide +kernel)) (by decide +kernel)
theorem kL_J1_38 : Cond.methodLink RJ1 38 Lib.Math.min.name ∈ fx_tb := fx_tb_in (List.mem_of_getElem? (i := 532) (by decide +kernel)) (by decide +kernel)
theorem kMt_min : Cond.static Lib.Math.min.name ∈ fx_tb := fx_tb_in (List.mem_of_getElem? (i := 533) (by decide +kernel)) (by decide +kernel)
theorem kMc_min : Cond.code Lib.Math.min.name Lib.Math.min.code 2 (some .int) ∈ fx_tb := fx_tb_in (List.mem_of_getElem? (i := 534) (by decide +kernel)) (by decide +kernel)
theorem kL_J1_95 : Cond.methodLink RJ1 95 yJ1_indexOfChar_4cfef ∈ fx_tb := fx_tb_in (List.mem_of_getElem? (i := 535) (by decide +kernel)) (by decide +kernel)
theorem kT_J1_indexOfChar_4cfef : Cond.static yJ1_indexOfChar_4cfef ∈ fx_tb := fx_tb_in (List.mem_of_getElem? (i := 536) (by decide +kernel)) (by decide +kernel)
theorem kNy_J1_indexOfChar_4cfef : Cond.initialized yJ1_indexOfChar_4cfef.cls ∈ fx_tb := fx_tb_in (List.mem_of_getElem? (i := 110) (by decide +kernel)) (by decide +kernel)
theorem kMS_J1_95 : ∀ w ∈ ([.methodLink RJ1 95 yJ1_indexOfChar_4cfef, .static yJ1_indexOfChar_4cfef, .initialized yJ1_indexOfChar_4cfef.cls] : List Cond), w ∈ fx_tb := fx_l3 kL_J1_95 kT_J1_indexOfChar_4cfef kNy_J1_indexOfChar_4cfef
theorem kC_J1_indexOfChar_4cfef : Cond.code yJ1_indexOfChar_4cfef cJ1_indexOfChar_4cfef 6 (some .int) ∈ fx_tb := fx_tb_in (List.mem_of_getElem? (i := 537) (by decide +kernel)) (by decide +kernel)
theorem hd_J1_indexOfChar_4cfef : yJ1_indexOfChar_4cfef.cls = RJ1 ∧ yJ1_indexOfChar_4cfef.cls ≠ "java/lang/invoke/MethodHandle" ∧ yJ1_indexOfChar_4cfef.cls ≠ "java/lang/invoke/VarHandle" ∧ (parseMethodDescriptor yJ1_indexOfChar_4cfef.desc).map (fun d => d.parameters.length) = some 4 := by decide +kernel
theorem kL_J0_492 : Cond.methodLink RJ0 492 yJ0_isLatin1_aae02 ∈ fx_tb := fx_tb_in (List.mem_of_getElem? (i := 509) (by decide +kernel)) (by decide +kernel)
theorem kI_J0_isLatin1_aae02 : Cond.instanceMethod yJ0_isLatin1_aae02 ∈ fx_tb := fx_tb_in (List.mem_of_getElem? (i := 510) (by decide +kernel)) (by decide +kernel)
theorem kS_J0_isLatin1_aae02 : Cond.selects RJ0 yJ0_isLatin1_aae02 yJ0_isLatin1_aae02 ∈ fx_tb := fx_tb_in (List.mem_of_getElem? (i := 511) (by decide +kernel)) (by decide +kernel)
theorem kMV_J0_492 : ∀ w ∈ ([.methodLink RJ0 492 yJ0_isLatin1_aae02, .instanceMethod yJ0_isLatin1_aae02, .selects RJ0 yJ0_isLatin1_aae02 yJ0_isLatin1_aae02, .initialized RJ0] : List Cond), w ∈ fx_tb := fx_l4 kL_J0_492 kI_J0_isLatin1_aae02 kS_J0_isLatin1_aae02 kN_J0
theorem kC_J0_isLatin1_aae02 : Cond.code yJ0_isLatin1_aae02 cJ0_isLatin1_aae02 1 (some .boolean) ∈ fx_tb := fx_tb_in (List.mem_of_getElem? (i := 512) (by decide +kernel)) (by decide +kernel)
theorem hd_J0_isLatin1_aae02 : yJ0_isLatin1_aae02.cls = RJ0 ∧ yJ0_isLatin1_aae02.cls ≠ "java/lang/invoke/MethodHandle" ∧ yJ0_isLatin1_aae02.cls ≠ "java/lang/invoke/VarHandle" ∧ (parseMethodDescriptor yJ0_isLatin1_aae02.desc).map (fun d => d.parameters.length) = some 0 := by decide +kernel
theorem kL_J0_505 : Cond.methodLink RJ0 505 yJ0_length_8abf5 ∈ fx_tb := fx_tb_in (List.mem_of_getElem? (i := 515) (by decide +kernel)) (by decide +kernel)
theorem kI_J0_length_8abf5 : Cond.instanceMethod yJ0_length_8abf5 ∈ fx_tb := fx_tb_in (List.mem_of_getElem? (i := 516) (by decide +kernel)) (by decide +kernel)
theorem kS_J0_length_8abf5 : Cond.selects RJ0 yJ0_length_8abf5 yJ0_length_8abf5 ∈ fx_tb := fx_tb_in (List.mem_of_getElem? (i := 517) (by decide +kernel)) (by decide +kernel)
theorem kMV_J0_505 : ∀ w ∈ ([.methodLink RJ0 505 yJ0_length_8abf5, .instanceMethod yJ0_length_8abf5, .selects RJ0 yJ0_length_8abf5 yJ0_length_8abf5, .initialized RJ0] : List Cond), w ∈ fx_tb := fx_l4 kL_J0_505 kI_J0_length_8abf5 kS_J0_length_8abf5 kN_J0
theorem kC_J0_length_8abf5 : Cond.code yJ0_length_8abf5 cJ0_length_8abf5 1 (some .int) ∈ fx_tb := fx_tb_in (List.mem_of_getElem? (i := 518) (by decide +kernel)) (by decide +kernel)
theorem hd_J0_length_8abf5 : yJ0_length_8abf5.cls = RJ0 ∧ yJ0_length_8abf5.cls ≠ "java/lang/invoke/MethodHandle" ∧ yJ0_length_8abf5.cls ≠ "java/lang/invoke/VarHandle" ∧ (parseMethodDescriptor yJ0_length_8abf5.desc).map (fun d => d.parameters.length) = some 0 := by decide +kernel
theorem kL_J0_637 : Cond.methodLink RJ0 637 yJ1_indexOf_4cfef ∈ fx_tb := fx_tb_in (List.mem_of_getElem? (i := 523) (by decide +kernel)) (by decide +kernel)
theorem kT_J1_indexOf_4cfef : Cond.static yJ1_indexOf_4cfef ∈ fx_tb := fx_tb_in (List.mem_of_getElem? (i := 524) (by decide +kernel)) (by decide +kernel)
theorem kNy_J1_indexOf_4cfef : Cond.initialized yJ1_indexOf_4cfef.cls ∈ fx_tb := fx_tb_in (List.mem_of_getElem? (i := 110) (by decide +kernel)) (by decide +kernel)
theorem kMS_J0_637 : ∀ w ∈ ([.methodLink RJ0 637 yJ1_indexOf_4cfef, .static yJ1_indexOf_4cfef, .initialized yJ1_indexOf_4cfef.cls] : List Cond), w ∈ fx_tb := fx_l3 kL_J0_637 kT_J1_indexOf_4cfef kNy_J1_indexOf_4cfef
theorem kC_J1_indexOf_4cfef : Cond.code yJ1_indexOf_4cfef cJ1_indexOf_4cfef 4 (some .int) ∈ fx_tb := fx_tb_in (List.mem_of_getElem? (i := 525) (by decide +kernel)) (by decide +kernel)
theorem hd_J1_indexOf_4cfef : yJ1_indexOf_4cfef.cls = RJ1 ∧ yJ1_indexOf_4cfef.cls ≠ "java/lang/invoke/MethodHandle" ∧ yJ1_indexOf_4cfef.cls ≠ "java/lang/invoke/VarHandle" ∧ (parseMethodDescriptor yJ1_indexOf_4cfef.desc).map (fun d => d.parameters.length) = some 4 := by decide +kernel
theorem kL_J0_633 : Cond.methodLink RJ0 633 yJ0_indexOf_7cf53 ∈ fx_tb := fx_tb_in (List.mem_of_getElem? (i := 505) (by decide +kernel)) (by decide +kernel)
theorem kI_J0_indexOf_7cf53 : Cond.instanceMethod yJ0_indexOf_7cf53 ∈ fx_tb := fx_tb_in (List.mem_of_getElem? (i := 506) (by decide +kernel)) (by decide +kernel)
theorem kS_J0_indexOf_7cf53 : Cond.selects RJ0 yJ0_indexOf_7cf53 yJ0_indexOf_7cf53 ∈ fx_tb := fx_tb_in (List.mem_of_getElem? (i := 507) (by decide +kernel)) (by decide +kernel)
theorem kMV_J0_633 : ∀ w ∈ ([.methodLink RJ0 633 yJ0_indexOf_7cf53, .instanceMethod yJ0_indexOf_7cf53, .selects RJ0 yJ0_indexOf_7cf53 yJ0_indexOf_7cf53, .initialized RJ0] : List Cond), w ∈ fx_tb := fx_l4 kL_J0_633 kI_J0_indexOf_7cf53 kS_J0_indexOf_7cf53 kN_J0
theorem kC_J0_indexOf_7cf53 : Cond.code yJ0_indexOf_7cf53 cJ0_indexOf_7cf53 3 (some .int) ∈ fx_tb := fx_tb_in (List.mem_of_getElem? (i := 508) (by decide +kernel)) (by decide +kernel)
theorem hd_J0_indexOf_7cf53 : yJ0_indexOf_7cf53.cls = RJ0 ∧ yJ0_indexOf_7cf53.cls ≠ "java/lang/invoke/MethodHandle" ∧ yJ0_indexOf_7cf53.cls ≠ "java/lang/invoke/VarHandle" ∧ (parseMethodDescriptor yJ0_indexOf_7cf53.desc).map (fun d => d.parameters.length) = some 2 := by decide +kernel
theorem kL_X9_78 : Cond.methodLink RX9 78 yJ0_indexOf_0f7a4 ∈ fx_tb := fx_tb_in (List.mem_of_getElem? (i := 501) (by decide +kernel)) (by decide +kernel)
theorem kI_J0_indexOf_0f7a4 : Cond.instanceMethod yJ0_indexOf_0f7a4 ∈ fx_tb := fx_tb_in (List.mem_of_getElem? (i := 502) (by decide +kernel)) (by decide +kernel)
theorem kS_J0_indexOf_0f7a4 : Cond.selects RJ0 yJ0_indexOf_0f7a4 yJ0_indexOf_0f7a4 ∈ fx_tb := fx_tb_in (List.mem_of_getElem? (i := 503) (by decide +kernel)) (by decide +kernel)
theorem kMV_X9_78 : ∀ w ∈ ([.methodLink RX9 78 yJ0_indexOf_0f7a4, .instanceMethod yJ0_indexOf_0f7a4, .selects RJ0 yJ0_indexOf_0f7a4 yJ0_indexOf_0f7a4, .initialized RJ0] : List Cond), w ∈ fx_tb := fx_l4 kL_X9_78 kI_J0_indexOf_0f7a4 kS_J0_indexOf_0f7a4 kN_J0
theorem kC_J0_indexOf_0f7a4 : Cond.code yJ0_indexOf_0f7a4 cJ0_indexOf_0f7a4 2 (some .int) ∈ fx_tb := fx_tb_in (List.mem_of_getElem? (i := 504) (by decide +kernel)) (by decide +kernel)
theorem hd_J0_indexOf_0f7a4 : yJ0_indexOf_0f7a4.cls = RJ0 ∧ yJ0_indexOf_0f7a4.cls ≠ "java/lang/invoke/MethodHandle" ∧ yJ0_indexOf_0f7a4.cls ≠ "java/lang/invoke/VarHandle" ∧ (parseMethodDescriptor yJ0_indexOf_0f7a4.desc).map (fun d => d.parameters.length) = some 1 := by decide +kernel
theorem kL_X9_56 : Cond.methodLink RX9 56 yX9_readSign ∈ fx_tb := fx_tb_in (List.mem_of_getElem? (i := 496) (by decide +kernel)) (by decide +kernel)
theorem kI_X9_readSign : Cond.instanceMethod yX9_readSign ∈ fx_tb := fx_tb_in (List.mem_of_getElem? (i := 498) (by decide +kernel)) (by decide +kernel)
theorem kS_X9_readSign : Cond.selects RX9 yX9_readSign yX9_readSign ∈ fx_tb := fx_tb_in (List.mem_of_getElem? (i := 3) (by decide +kernel)) (by decide +kernel)
theorem kMV_X9_56 : ∀ w ∈ ([.methodLink RX9 56 yX9_readSign, .instanceMethod yX9_readSign, .selects RX9 yX9_readSign yX9_readSign, .initialized RX9] : List Cond), w ∈ fx_tb := fx_l4 kL_X9_56 kI_X9_readSign kS_X9_readSign kN_X9
theorem kC_X9_readSign : Cond.code yX9_readSign cX9_readSign 1 none ∈ fx_tb := fx_tb_in (List.mem_of_getElem? (i := 499) (by decide +kernel)) (by decide +kernel)
theorem hd_X9_readSign : yX9_readSign.cls = RX9 ∧ yX9_readSign.cls ≠ "java/lang/invoke/MethodHandle" ∧ yX9_readSign.cls ≠ "java/lang/invoke/VarHandle" ∧ (parseMethodDescriptor yX9_readSign.desc).map (fun d => d.parameters.length) = some 0 := by decide +kernel
theorem kL_X9_53 : Cond.methodLink RX9 53 yX9_readNumber ∈ fx_tb := fx_tb_in (List.mem_of_getElem? (i := 492) (by decide +kernel)) (by decide +kernel)
theorem kI_X9_readNumber : Cond.instanceMethod yX9_readNumber ∈ fx_tb := fx_tb_in (List.mem_of_getElem? (i := 494) (by decide +kernel)) (by decide +kernel)
theorem kS_X9_readNumber : Cond.selects RX9 yX9_readNumber yX9_readNumber ∈ fx_tb := fx_tb_in (List.mem_of_getElem? (i := 2) (by decide +kernel)) (by decide +kernel)
theorem kMV_X9_53 : ∀ w ∈ ([.methodLink RX9 53 yX9_readNumber, .instanceMethod yX9_readNumber, .selects RX9 yX9_readNumber yX9_readNumber, .initialized RX9] : List Cond), w ∈ fx_tb := fx_l4 kL_X9_53 kI_X9_readNumber kS_X9_readNumber kN_X9
theorem kC_X9_readNumber : Cond.code yX9_readNumber cX9_readNumber 1 none ∈ fx_tb := fx_tb_in (List.mem_of_getElem? (i := 495) (by decide +kernel)) (by decide +kernel)
theorem hd_X9_readNumber : yX9_readNumber.cls = RX9 ∧ yX9_readNumber.cls ≠ "java/lang/invoke/MethodHandle" ∧ yX9_readNumber.cls ≠ "java/lang/invoke/VarHandle" ∧ (parseMethodDescriptor yX9_readNumber.desc).map (fun d => d.parameters.length) = some 0 := by decide +kernel
theorem kL_X9_47 : Cond.methodLink RX9 47 yX9_readWord ∈ fx_tb := fx_tb_in (List.mem_of_getElem? (i := 481) (by decide +kernel)) (by decide +kernel)
theorem kI_X9_readWord : Cond.instanceMethod yX9_readWord ∈ fx_tb := fx_tb_in (List.mem_of_getElem? (i := 483) (by decide +kernel)) (by decide +kernel)
theorem kS_X9_readWord : Cond.selects RX9 yX9_readWord yX9_readWord ∈ fx_tb := fx_tb_in (List.mem_of_getElem? (i := 1) (by decide +kernel)) (by decide +kernel)
theorem kMV_X9_47 : ∀ w ∈ ([.methodLink RX9 47 yX9_readWord, .instanceMethod yX9_readWord, .selects RX9 yX9_readWord yX9_readWord, .initialized RX9] : List Cond), w ∈ fx_tb := fx_l4 kL_X9_47 kI_X9_readWord kS_X9_readWord kN_X9
theorem kC_X9_readWord : Cond.code yX9_readWord cX9_readWord 1 none ∈ fx_tb := fx_tb_in (List.mem_of_getElem? (i := 484) (by decide +kernel)) (by decide +kernel)
theorem hd_X9_readWord : yX9_readWord.cls = RX9 ∧ yX9_readWord.cls ≠ "java/lang/invoke/MethodHandle" ∧ yX9_readWord.cls ≠ "java/lang/invoke/VarHandle" ∧ (parseMethodDescriptor yX9_readWord.desc).map (fun d => d.parameters.length) = some 0 := by decide +kernel
theorem kL_X9_37 : Cond.methodLink RX9 37 yX9_isBlank ∈ fx_tb := fx_tb_in (List.mem_of_getElem? (i := 475) (by decide +kernel)) (by decide +kernel)
theorem kT_X9_isBlank : Cond.static yX9_isBlank ∈ fx_tb := fx_tb_in (List.mem_of_getElem? (i := 476) (by decide +kernel)) (by decide +kernel)
theorem kNy_X9_isBlank : Cond.initialized yX9_isBlank.cls ∈ fx_tb := fx_tb_in (List.mem_of_getElem? (i := 96) (by decide +kernel)) (by decide +kernel)
theorem kMS_X9_37 : ∀ w ∈ ([.methodLink RX9 37 yX9_isBlank, .static yX9_isBlank, .initialized yX9_isBlank.cls] : List Cond), w ∈ fx_tb := fx_l3 kL_X9_37 kT_X9_isBlank kNy_X9_isBlank
theorem kC_X9_isBlank : Cond.code yX9_isBlank cX9_isBlank 1 (some .boolean) ∈ fx_tb := fx_tb_in (List.mem_of_getElem? (i := 477) (by decide +kernel)) (by decide +kernel)
theorem hd_X9_isBlank : yX9_isBlank.cls = RX9 ∧ yX9_isBlank.cls ≠ "java/lang/invoke/MethodHandle" ∧ yX9_isBlank.cls ≠ "java/lang/invoke/VarHandle" ∧ (parseMethodDescriptor yX9_isBlank.desc).map (fun d => d.parameters.length) = some 1 := by decide +kernel
theorem kFw_X2_74 : Cond.fieldLink RX2 74 "HalfShop$Word" "SO" "LHalfShop$Word;" ∈ fx_tb := fx_tb_in (List.mem_of_getElem? (i := 720) (by decide +kernel)) (by decide +kernel)
theorem kFw_X2_77 : Cond.fieldLink RX2 77 "HalfShop$Word" "HALF" "LHalfShop$Word;" ∈ fx_tb := fx_tb_in (List.mem_of_getElem? (i := 723) (by decide +kernel)) (by decide +kernel)
theorem kFw_X2_80 : Cond.fieldLink RX2 80 "HalfShop$Word" "VOTES" "LHalfShop$Word;" ∈ fx_tb := fx_tb_in (List.mem_of_getElem? (i := 725) (by decide +kernel)) (by decide +kernel)
theorem kFw_X2_83 : Cond.fieldLink RX2 83 "HalfShop$Word" "DATE" "LHalfShop$Word;" ∈ fx_tb := fx_tb_in (List.mem_of_getElem? (i := 727) (by decide +kernel)) (by decide +kernel)
theorem kF_X9_25 : Cond.fieldLink RX9 25 (TX9 8).1 (TX9 8).2.1 (TX9 8).2.2.1 ∈ fx_tb := fx_tb_in (List.mem_of_getElem? (i := 146) (by decide +kernel)) (by decide +kernel)
theorem kL_X2_19 : Cond.methodLink RX2 19 yX2_readLevel ∈ fx_tb := fx_tb_in (List.mem_of_getElem? (i := 742) (by decide +kernel)) (by decide +kernel)
theorem kI_X2_readLevel : Cond.instanceMethod yX2_readLevel ∈ fx_tb := fx_tb_in (List.mem_of_getElem? (i := 710) (by decide +kernel)) (by decide +kernel)
theorem kS_X2_readLevel : Cond.selects RX2 yX2_readLevel yX2_readLevel ∈ fx_tb := fx_tb_in (List.mem_of_getElem? (i := 15) (by decide +kernel)) (by decide +kernel)
theorem kN_X2 : Cond.initialized RX2 ∈ fx_tb := fx_tb_in (List.mem_of_getElem? (i := 98) (by decide +kernel)) (by decide +kernel)
theorem kMV_X2_19 : ∀ w ∈ ([.methodLink RX2 19 yX2_readLevel, .instanceMethod yX2_readLevel, .selects RX2 yX2_readLevel yX2_readLevel, .initialized RX2] : List Cond), w ∈ fx_tb := fx_l4 kL_X2_19 kI_X2_readLevel kS_X2_readLevel kN_X2
theorem kC_X2_readLevel : Cond.code yX2_readLevel cX2_readLevel 7 (some .boolean) ∈ fx_tb := fx_tb_in (List.mem_of_getElem? (i := 711) (by decide +kernel)) (by decide +kernel)
theorem hd_X2_readLevel : yX2_readLevel.cls = RX2 ∧ yX2_readLevel.cls ≠ "java/lang/invoke/MethodHandle" ∧ yX2_readLevel.cls ≠ "java/lang/invoke/VarHandle" ∧ (parseMethodDescriptor yX2_readLevel.desc).map (fun d => d.parameters.length) = some 3 := by decide +kernel
theorem kL_X2_23 : Cond.methodLink RX2 23 yX2_stepHere ∈ fx_tb := fx_tb_in (List.mem_of_getElem? (i := 743) (by decide +kernel)) (by decide +kernel)
theorem kI_X2_stepHere : Cond.instanceMethod yX2_stepHere ∈ fx_tb := fx_tb_in (List.mem_of_getElem? (i := 745) (by decide +kernel)) (by decide +kernel)
theorem kS_X2_stepHere : Cond.selects RX2 yX2_stepHere yX2_stepHere ∈ fx_tb := fx_tb_in (List.mem_of_getElem? (i := 18) (by decide +kernel)) (by decide +kernel)
theorem kMV_X2_23 : ∀ w ∈ ([.methodLink RX2 23 yX2_stepHere, .instanceMethod yX2_stepHere, .selects RX2 yX2_stepHere yX2_stepHere, .initialized RX2] : List Cond), w ∈ fx_tb := fx_l4 kL_X2_23 kI_X2_stepHere kS_X2_stepHere kN_X2
theorem kC_X2_stepHere : Cond.code yX2_stepHere cX2_stepHere 2 (some .int) ∈ fx_tb := fx_tb_in (List.mem_of_getElem? (i := 746) (by decide +kernel)) (by decide +kernel)
theorem hd_X2_stepHere : yX2_stepHere.cls = RX2 ∧ yX2_stepHere.cls ≠ "java/lang/invoke/MethodHandle" ∧ yX2_stepHere.cls ≠ "java/lang/invoke/VarHandle" ∧ (parseMethodDescriptor yX2_stepHere.desc).map (fun d => d.parameters.length) = some 1 := by decide +kernel
theorem kL_X2_27 : Cond.methodLink RX2 27 yX9_advance ∈ fx_tb := fx_tb_in (List.mem_of_getElem? (i := 737) (by decide +kernel)) (by decide +kernel)
theorem kI_X9_advance : Cond.instanceMethod yX9_advance ∈ fx_tb := fx_tb_in (List.mem_of_getElem? (i := 472) (by decide +kernel)) (by decide +kernel)
theorem kS_X9_advance : Cond.selects RX9 yX9_advance yX9_advance ∈ fx_tb := fx_tb_in (List.mem_of_getElem? (i := 473) (by decide +kernel)) (by decide +kernel)
theorem kMV_X2_27 : ∀ w ∈ ([.methodLink RX2 27 yX9_advance, .instanceMethod yX9_advance, .selects RX9 yX9_advance yX9_advance, .initialized RX9] : List Cond), w ∈ fx_tb := fx_l4 kL_X2_27 kI_X9_advance kS_X9_advance kN_X9
theorem kC_X9_advance : Cond.code yX9_advance cX9_advance 1 none ∈ fx_tb := fx_tb_in (List.mem_of_getElem? (i := 474) (by decide +kernel)) (by decide +kernel)
theorem hd_X9_advance : yX9_advance.cls = RX9 ∧ yX9_advance.cls ≠ "java/lang/invoke/MethodHandle" ∧ yX9_advance.cls ≠ "java/lang/invoke/VarHandle" ∧ (parseMethodDescriptor yX9_advance.desc).map (fun d => d.parameters.length) = some 0 := by decide +kernel
theorem kL_X2_32 : Cond.methodLink RX2 32 yX1_put ∈ fx_tb := fx_tb_in (List.mem_of_getElem? (i := 738) (by decide +kernel)) (by decide +kernel)
theorem kI_X1_put : Cond.instanceMethod yX1_put ∈ fx_tb := fx_tb_in (List.mem_of_getElem? (i := 739) (by decide +kernel)) (by decide +kernel)
theorem kS_X1_put : Cond.selects RX1 yX1_put yX1_put ∈ fx_tb := fx_tb_in (List.mem_of_getElem? (i := 740) (by decide +kernel)) (by decide +kernel)
theorem kN_X1 : Cond.initialized RX1 ∈ fx_tb := fx_tb_in (List.mem_of_getElem? (i := 100) (by decide +kernel)) (by decide +kernel)
theorem kMV_X2_32 : ∀ w ∈ ([.methodLink RX2 32 yX1_put, .instanceMethod yX1_put, .selects RX1 yX1_put yX1_put, .initialized RX1] : List Cond), w ∈ fx_tb := fx_l4 kL_X2_32 kI_X1_put kS_X1_put kN_X1
theorem kC_X1_put : Cond.code yX1_put cX1_put 2 none ∈ fx_tb := fx_tb_in (List.mem_of_getElem? (i := 741) (by decide +kernel)) (by decide +kernel)
theorem hd_X1_put : yX1_put.cls = RX1 ∧ yX1_put.cls ≠ "java/lang/invoke/MethodHandle" ∧ yX1_put.cls ≠ "java/lang/invoke/VarHandle" ∧ (parseMethodDescriptor yX1_put.desc).map (fun d => d.parameters.length) = some 1 := by decide +kernel
theorem kL_X2_15 : Cond.methodLink RX2 15 yX2_readPart ∈ fx_tb := fx_tb_in (List.mem_of_getElem? (i := 712) (by decide +kernel)) (by decide +kernel)
theorem kI_X2_readPart : Cond.instanceMethod yX2_readPart ∈ fx_tb := fx_tb_in (List.mem_of_getElem? (i := 714) (by decide +kernel)) (by decide +kernel)
theorem kS_X2_readPart : Cond.selects RX2 yX2_readPart yX2_readPart ∈ fx_tb := fx_tb_in (List.mem_of_getElem? (i := 16) (by decide +kernel)) (by decide +kernel)
theorem kMV_X2_15 : ∀ w ∈ ([.methodLink RX2 15 yX2_readPart, .instanceMethod yX2_readPart, .selects RX2 yX2_readPart yX2_readPart, .initialized RX2] : List Cond), w ∈ fx_tb := fx_l4 kL_X2_15 kI_X2_readPart kS_X2_readPart kN_X2
theorem kC_X2_readPart : Cond.code yX2_readPart cX2_readPart 7 (some .boolean) ∈ fx_tb := fx_tb_in (List.mem_of_getElem? (i := 715) (by decide +kernel)) (by decide +kernel)
theorem hd_X2_readPart : yX2_readPart.cls = RX2 ∧ yX2_readPart.cls ≠ "java/lang/invoke/MethodHandle" ∧ yX2_readPart.cls ≠ "java/lang/invoke/VarHandle" ∧ (parseMethodDescriptor yX2_readPart.desc).map (fun d => d.parameters.length) = some 2 := by decide +kernel
theorem kL_X2_38 : Cond.methodLink RX2 38 yX2_factHere ∈ fx_tb := fx_tb_in (List.mem_of_getElem? (i := 716) (by decide +kernel)) (by decide +kernel)
theorem kI_X2_factHere : Cond.instanceMethod yX2_factHere ∈ fx_tb := fx_tb_in (List.mem_of_getElem? (i := 718) (by decide +kernel)) (by decide +kernel)
theorem kS_X2_factHere : Cond.selects RX2 yX2_factHere yX2_factHere ∈ fx_tb := fx_tb_in (List.mem_of_getElem? (i := 17) (by decide +kernel)) (by decide +kernel)
theorem kMV_X2_38 : ∀ w ∈ ([.methodLink RX2 38 yX2_factHere, .instanceMethod yX2_factHere, .selects RX2 yX2_factHere yX2_factHere, .initialized RX2] : List Cond), w ∈ fx_tb := fx_l4 kL_X2_38 kI_X2_factHere kS_X2_factHere kN_X2
theorem kC_X2_factHere : Cond.code yX2_factHere cX2_factHere 1 (some .int) ∈ fx_tb := fx_tb_in (List.mem_of_getElem? (i := 719) (by decide +kernel)) (by decide +kernel)
theorem hd_X2_factHere : yX2_factHere.cls = RX2 ∧ yX2_factHere.cls ≠ "java/lang/invoke/MethodHandle" ∧ yX2_factHere.cls ≠ "java/lang/invoke/VarHandle" ∧ (parseMethodDescriptor yX2_factHere.desc).map (fun d => d.parameters.length) = some 0 := by decide +kernel
theorem kFw_X2_42 : Cond.fieldLink RX2 42 "HalfShop$Word" "NOT" "LHalfShop$Word;" ∈ fx_tb := fx_tb_in (List.mem_of_getElem? (i := 729) (by decide +kernel)) (by decide +kernel)
theorem kF_X2_64 : Cond.fieldLink RX2 64 (TX9 5).1 (TX9 5).2.1 (TX9 5).2.2.1 ∈ fx_tb := fx_tb_in (List.mem_of_getElem? (i := 140) (by decide +kernel)) (by decide +kernel)
theorem kL_X2_60 : Cond.methodLink RX2 60 yX9_wrong ∈ fx_tb := fx_tb_in (List.mem_of_getElem? (i := 736) (by decide +kernel)) (by decide +kernel)
theorem kI_X9_wrong : Cond.instanceMethod yX9_wrong ∈ fx_tb := fx_tb_in (List.mem_of_getElem? (i := 610) (by decide +kernel)) (by decide +kernel)
theorem kS_X9_wrong : Cond.selects RX9 yX9_wrong yX9_wrong ∈ fx_tb := fx_tb_in (List.mem_of_getElem? (i := 611) (by decide +kernel)) (by decide +kernel)
theorem kMV_X2_60 : ∀ w ∈ ([.methodLink RX2 60 yX9_wrong, .instanceMethod yX9_wrong, .selects RX9 yX9_wrong yX9_wrong, .initialized RX9] : List Cond), w ∈ fx_tb := fx_l4 kL_X2_60 kI_X9_wrong kS_X9_wrong kN_X9
theorem kC_X9_wrong : Cond.code yX9_wrong cX9_wrong 2 (some .boolean) ∈ fx_tb := fx_tb_in (List.mem_of_getElem? (i := 612) (by decide +kernel)) (by decide +kernel)
theorem hd_X9_wrong : yX9_wrong.cls = RX9 ∧ yX9_wrong.cls ≠ "java/lang/invoke/MethodHandle" ∧ yX9_wrong.cls ≠ "java/lang/invoke/VarHandle" ∧ (parseMethodDescriptor yX9_wrong.desc).map (fun d => d.parameters.length) = some 1 := by decide +kernel
theorem kL_X2_56 : Cond.methodLink RX2 56 yX9_isNumber ∈ fx_tb := fx_tb_in (List.mem_of_getElem? (i := 735) (by decide +kernel)) (by decide +kernel)
theorem kI_X9_isNumber : Cond.instanceMethod yX9_isNumber ∈ fx_tb := fx_tb_in (List.mem_of_getElem? (i := 660) (by decide +kernel)) (by decide +kernel)
theorem kS_X9_isNumber : Cond.selects RX9 yX9_isNumber yX9_isNumber ∈ fx_tb := fx_tb_in (List.mem_of_getElem? (i := 661) (by decide +kernel)) (by decide +kernel)
theorem kMV_X2_56 : ∀ w ∈ ([.methodLink RX2 56 yX9_isNumber, .instanceMethod yX9_isNumber, .selects RX9 yX9_isNumber yX9_isNumber, .initialized RX9] : List Cond), w ∈ fx_tb := fx_l4 kL_X2_56 kI_X9_isNumber kS_X9_isNumber kN_X9
theorem kC_X9_isNumber : Cond.code yX9_isNumber cX9_isNumber 1 (some .boolean) ∈ fx_tb := fx_tb_in (List.mem_of_getElem? (i := 662) (by decide +kernel)) (by decide +kernel)
theorem hd_X9_isNumber : yX9_isNumber.cls = RX9 ∧ yX9_isNumber.cls ≠ "java/lang/invoke/MethodHandle" ∧ yX9_isNumber.cls ≠ "java/lang/invoke/VarHandle" ∧ (parseMethodDescriptor yX9_isNumber.desc).map (fun d => d.parameters.length) = some 0 := by decide +kernel
theorem inT_X7 : ∀ w ∈ u_ws RX7 TX7 5, w ∈ fx_tb := fx_inws [324, 326, 328, 330, 332] (by decide +kernel)
theorem kF_X7_33 : Cond.fieldLink RX7 33 (TX7 2).1 (TX7 2).2.1 (TX7 2).2.2.1 ∈ fx_tb := fx_tb_in (List.mem_of_getElem? (i := 318) (by decide +kernel)) (by decide +kernel)
theorem kF_X7_37 : Cond.fieldLink RX7 37 (TX7 3).1 (TX7 3).2.1 (TX7 3).2.2.1 ∈ fx_tb := fx_tb_in (List.mem_of_getElem? (i := 320) (by decide +kernel)) (by decide +kernel)
theorem kF_X7_40 : Cond.fieldLink RX7 40 (TX7 4).1 (TX7 4).2.1 (TX7 4).2.2.1 ∈ fx_tb := fx_tb_in (List.mem_of_getElem? (i := 322) (by decide +kernel)) (by decide +kernel)
theorem kF_X7_15 : Cond.fieldLink RX7 15 (TX7 1).1 (TX7 1).2.1 (TX7 1).2.2.1 ∈ fx_tb := fx_tb_in (List.mem_of_getElem? (i := 316) (by decide +kernel)) (by decide +kernel)
theorem kF_X7_9 : Cond.fieldLink RX7 9 (TX7 0).1 (TX7 0).2.1 (TX7 0).2.2.1 ∈ fx_tb := fx_tb_in (List.mem_of_getElem? (i := 314) (by decide +kernel)) (by decide +kernel)
theorem inT_X8 : ∀ w ∈ u_ws RX8 TX8 5, w ∈ fx_tb := fx_inws [297, 299, 301, 303, 305] (by decide +kernel)
theorem kF_X8_24 : Cond.fieldLink RX8 24 (TX8 0).1 (TX8 0).2.1 (TX8 0).2.2.1 ∈ fx_tb := fx_tb_in (List.mem_of_getElem? (i := 286) (by decide +kernel)) (by decide +kernel)
theorem kF_X8_9 : Cond.fieldLink RX8 9 (TX8 1).1 (TX8 1).2.1 (TX8 1).2.2.1 ∈ fx_tb := fx_tb_in (List.mem_of_getElem? (i := 289) (by decide +kernel)) (by decide +kernel)
theorem kF_X8_15 : Cond.fieldLink RX8 15 (TX8 2).1 (TX8 2).2.1 (TX8 2).2.2.1 ∈ fx_tb := fx_tb_in (List.mem_of_getElem? (i := 291) (by decide +kernel)) (by decide +kernel)
theorem kF_X8_18 : Cond.fieldLink RX8 18 (TX8 3).1 (TX8 3).2.1 (TX8 3).2.2.1 ∈ fx_tb := fx_tb_in (List.mem_of_getElem? (i := 293) (by decide +kernel)) (by decide +kernel)
theorem kF_X8_21 : Cond.fieldLink RX8 21 (TX8 4).1 (TX8 4).2.1 (TX8 4).2.2.1 ∈ fx_tb := fx_tb_in (List.mem_of_getElem? (i := 295) (by decide +kernel)) (by decide +kernel)
theorem kL_X8_28 : Cond.methodLink RX8 28 yX8_put ∈ fx_tb := fx_tb_in (List.mem_of_getElem? (i := 1155) (by decide +kernel)) (by decide +kernel)
theorem kI_X8_put : Cond.instanceMethod yX8_put ∈ fx_tb := fx_tb_in (List.mem_of_getElem? (i := 804) (by decide +kernel)) (by decide +kernel)
theorem kS_X8_put : Cond.selects RX8 yX8_put yX8_put ∈ fx_tb := fx_tb_in (List.mem_of_getElem? (i := 805) (by decide +kernel)) (by decide +kernel)
theorem kN_X8 : Cond.initialized RX8 ∈ fx_tb := fx_tb_in (List.mem_of_getElem? (i := 101) (by decide +kernel)) (by decide +kernel)
theorem kMV_X8_28 : ∀ w ∈ ([.methodLink RX8 28 yX8_put, .instanceMethod yX8_put, .selects RX8 yX8_put yX8_put, .initialized RX8] : List Cond), w ∈ fx_tb := fx_l4 kL_X8_28 kI_X8_put kS_X8_put kN_X8
theorem kC_X8_put : Cond.code yX8_put cX8_put 5 none ∈ fx_tb := fx_tb_in (List.mem_of_getElem? (i := 806) (by decide +kernel)) (by decide +kernel)
theorem hd_X8_put : yX8_put.cls = RX8 ∧ yX8_put.cls ≠ "java/lang/invoke/MethodHandle" ∧ yX8_put.cls ≠ "java/lang/invoke/VarHandle" ∧ (parseMethodDescriptor yX8_put.desc).map (fun d => d.parameters.length) = some 4 := by decide +kernel
theorem inT_X6 : ∀ w ∈ u_ws RX6 TX6 4, w ∈ fx_tb := fx_inws [346, 348, 350, 352] (by decide +kernel)
theorem kF_X6_22 : Cond.fieldLink RX6 22 (TX6 0).1 (TX6 0).2.1 (TX6 0).2.2.1 ∈ fx_tb := fx_tb_in (List.mem_of_getElem? (i := 341) (by decide +kernel)) (by decide +kernel)
theorem kF_X6_9 : Cond.fieldLink RX6 9 (TX6 1).1 (TX6 1).2.1 (TX6 1).2.2.1 ∈ fx_tb := fx_tb_in (List.mem_of_getElem? (i := 343) (by decide +kernel)) (by decide +kernel)
theorem kF_X6_15 : Cond.fieldLink RX6 15 (TX6 2).1 (TX6 2).2.1 (TX6 2).2.2.1 ∈ fx_tb := fx_tb_in (List.mem_of_getElem? (i := 344) (by decide +kernel)) (by decide +kernel)
theorem kL_X6_26 : Cond.methodLink RX6 26 yX6_put ∈ fx_tb := fx_tb_in (List.mem_of_getElem? (i := 1160) (by decide +kernel)) (by decide +kernel)
theorem kI_X6_put : Cond.instanceMethod yX6_put ∈ fx_tb := fx_tb_in (List.mem_of_getElem? (i := 1079) (by decide +kernel)) (by decide +kernel)
theorem kS_X6_put : Cond.selects RX6 yX6_put yX6_put ∈ fx_tb := fx_tb_in (List.mem_of_getElem? (i := 1080) (by decide +kernel)) (by decide +kernel)
theorem kN_X6 : Cond.initialized RX6 ∈ fx_tb := fx_tb_in (List.mem_of_getElem? (i := 103) (by decide +kernel)) (by decide +kernel)
theorem kMV_X6_26 : ∀ w ∈ ([.methodLink RX6 26 yX6_put, .instanceMethod yX6_put, .selects RX6 yX6_put yX6_put, .initialized RX6] : List Cond), w ∈ fx_tb := fx_l4 kL_X6_26 kI_X6_put kS_X6_put kN_X6
theorem kC_X6_put : Cond.code yX6_put cX6_put 3 (some .boolean) ∈ fx_tb := fx_tb_in (List.mem_of_getElem? (i := 1081) (by decide +kernel)) (by decide +kernel)
theorem hd_X6_put : yX6_put.cls = RX6 ∧ yX6_put.cls ≠ "java/lang/invoke/MethodHandle" ∧ yX6_put.cls ≠ "java/lang/invoke/VarHandle" ∧ (parseMethodDescriptor yX6_put.desc).map (fun d => d.parameters.length) = some 2 := by decide +kernel
theorem inT_X3 : ∀ w ∈ u_ws RX3 TX3 4, w ∈ fx_tb := fx_inws [394, 396, 398, 400] (by decide +kernel)
theorem kF_X3_10 : Cond.fieldLink RX3 10 (TX3 1).1 (TX3 1).2.1 (TX3 1).2.2.1 ∈ fx_tb := fx_tb_in (List.mem_of_getElem? (i := 388) (by decide +kernel)) (by decide +kernel)
theorem kL_X3_30 : Cond.methodLink RX3 30 yX7_copyOf ∈ fx_tb := fx_tb_in (List.mem_of_getElem? (i := 1150) (by decide +kernel)) (by decide +kernel)
theorem kI_X7_copyOf : Cond.instanceMethod yX7_copyOf ∈ fx_tb := fx_tb_in (List.mem_of_getElem? (i := 845) (by decide +kernel)) (by decide +kernel)
theorem kS_X7_copyOf : Cond.selects RX7 yX7_copyOf yX7_copyOf ∈ fx_tb := fx_tb_in (List.mem_of_getElem? (i := 846) (by decide +kernel)) (by decide +kernel)
theorem kN_X7 : Cond.initialized RX7 ∈ fx_tb := fx_tb_in (List.mem_of_getElem? (i := 102) (by decide +kernel)) (by decide +kernel)
theorem kMV_X3_30 : ∀ w ∈ ([.methodLink RX3 30 yX7_copyOf, .instanceMethod yX7_copyOf, .selects RX7 yX7_copyOf yX7_copyOf, .initialized RX7] : List Cond), w ∈ fx_tb := fx_l4 kL_X3_30 kI_X7_copyOf kS_X7_copyOf kN_X7
theorem kC_X7_copyOf : Cond.code yX7_copyOf cX7_copyOf 3 none ∈ fx_tb := fx_tb_in (List.mem_of_getElem? (i := 847) (by decide +kernel)) (by decide +kernel)
theorem hd_X7_copyOf : yX7_copyOf.cls = RX7 ∧ yX7_copyOf.cls ≠ "java/lang/invoke/MethodHandle" ∧ yX7_copyOf.cls ≠ "java/lang/invoke/VarHandle" ∧ (parseMethodDescriptor yX7_copyOf.desc).map (fun d => d.parameters.length) = some 1 := by decide +kernel
theorem kF_X3_19 : Cond.fieldLink RX3 19 (TX3 2).1 (TX3 2).2.1 (TX3 2).2.2.1 ∈ fx_tb := fx_tb_in (List.mem_of_getElem? (i := 390) (by decide +kernel)) (by decide +kernel)
theorem kL_X3_34 : Cond.methodLink RX3 34 yX8_copyOf ∈ fx_tb := fx_tb_in (List.mem_of_getElem? (i := 1151) (by decide +kernel)) (by decide +kernel)
theorem kI_X8_copyOf : Cond.instanceMethod yX8_copyOf ∈ fx_tb := fx_tb_in (List.mem_of_getElem? (i := 1152) (by decide +kernel)) (by decide +kernel)
theorem kS_X8_copyOf : Cond.selects RX8 yX8_copyOf yX8_copyOf ∈ fx_tb := fx_tb_in (List.mem_of_getElem? (i := 1153) (by decide +kernel)) (by decide +kernel)
theorem kMV_X3_34 : ∀ w ∈ ([.methodLink RX3 34 yX8_copyOf, .instanceMethod yX8_copyOf, .selects RX8 yX8_copyOf yX8_copyOf, .initialized RX8] : List Cond), w ∈ fx_tb := fx_l4 kL_X3_34 kI_X8_copyOf kS_X8_copyOf kN_X8
theorem kC_X8_copyOf : Cond.code yX8_copyOf cX8_copyOf 3 none ∈ fx_tb := fx_tb_in (List.mem_of_getElem? (i := 1154) (by decide +kernel)) (by decide +kernel)
theorem hd_X8_copyOf : yX8_copyOf.cls = RX8 ∧ yX8_copyOf.cls ≠ "java/lang/invoke/MethodHandle" ∧ yX8_copyOf.cls ≠ "java/lang/invoke/VarHandle" ∧ (parseMethodDescriptor yX8_copyOf.desc).map (fun d => d.parameters.length) = some 1 := by decide +kernel
theorem kF_X3_26 : Cond.fieldLink RX3 26 (TX3 3).1 (TX3 3).2.1 (TX3 3).2.2.1 ∈ fx_tb := fx_tb_in (List.mem_of_getElem? (i := 392) (by decide +kernel)) (by decide +kernel)
theorem kL_X3_37 : Cond.methodLink RX3 37 yX6_copyOf ∈ fx_tb := fx_tb_in (List.mem_of_getElem? (i := 1156) (by decide +kernel)) (by decide +kernel)
theorem kI_X6_copyOf : Cond.instanceMethod yX6_copyOf ∈ fx_tb := fx_tb_in (List.mem_of_getElem? (i := 1157) (by decide +kernel)) (by decide +kernel)
theorem kS_X6_copyOf : Cond.selects RX6 yX6_copyOf yX6_copyOf ∈ fx_tb := fx_tb_in (List.mem_of_getElem? (i := 1158) (by decide +kernel)) (by decide +kernel)
theorem kMV_X3_37 : ∀ w ∈ ([.methodLink RX3 37 yX6_copyOf, .instanceMethod yX6_copyOf, .selects RX6 yX6_copyOf yX6_copyOf, .initialized RX6] : List Cond), w ∈ fx_tb := fx_l4 kL_X3_37 kI_X6_copyOf kS_X6_copyOf kN_X6
theorem kC_X6_copyOf : Cond.code yX6_copyOf cX6_copyOf 3 none ∈ fx_tb := fx_tb_in (List.mem_of_getElem? (i := 1159) (by decide +kernel)) (by decide +kernel)
theorem hd_X6_copyOf : yX6_copyOf.cls = RX6 ∧ yX6_copyOf.cls ≠ "java/lang/invoke/MethodHandle" ∧ yX6_copyOf.cls ≠ "java/lang/invoke/VarHandle" ∧ (parseMethodDescriptor yX6_copyOf.desc).map (fun d => d.parameters.length) = some 1 := by decide +kernel
theorem kF_X3_40 : Cond.fieldLink RX3 40 (TX3 0).1 (TX3 0).2.1 (TX3 0).2.2.1 ∈ fx_tb := fx_tb_in (List.mem_of_getElem? (i := 386) (by decide +kernel)) (by decide +kernel)
theorem kL_X9_31 : Cond.methodLink RX9 31 yX9_advance ∈ fx_tb := fx_tb_in (List.mem_of_getElem? (i := 471) (by decide +kernel)) (by decide +kernel)
theorem kMV_X9_31 : ∀ w ∈ ([.methodLink RX9 31 yX9_advance, .instanceMethod yX9_advance, .selects RX9 yX9_advance yX9_advance, .initialized RX9] : List Cond), w ∈ fx_tb := fx_l4 kL_X9_31 kI_X9_advance kS_X9_advance kN_X9
theorem inT_X5 : ∀ w ∈ u_ws RX5 TX5 13, w ∈ fx_tb := fx_inws [253, 255, 257, 259, 261, 263, 265, 267, 269, 271, 273, 275, 277] (by decide +kernel)
theorem kF_X5_45 : Cond.fieldLink RX5 45 (TX5 0).1 (TX5 0).2.1 (TX5 0).2.2.1 ∈ fx_tb := fx_tb_in (List.mem_of_getElem? (i := 215) (by decide +kernel)) (by decide +kernel)
theorem kF_X5_48 : Cond.fieldLink RX5 48 (TX5 5).1 (TX5 5).2.1 (TX5 5).2.2.1 ∈ fx_tb := fx_tb_in (List.mem_of_getElem? (i := 231) (by decide +kernel)) (by decide +kernel)
theorem kF_X5_34 : Cond.fieldLink RX5 34 (TX5 9).1 (TX5 9).2.1 (TX5 9).2.2.1 ∈ fx_tb := fx_tb_in (List.mem_of_getElem? (i := 243) (by decide +kernel)) (by decide +kernel)
theorem kF_X5_51 : Cond.fieldLink RX5 51 (TX5 10).1 (TX5 10).2.1 (TX5 10).2.2.1 ∈ fx_tb := fx_tb_in (List.mem_of_getElem? (i := 247) (by decide +kernel)) (by decide +kernel)
theorem kF_X5_55 : Cond.fieldLink RX5 55 (TX5 11).1 (TX5 11).2.1 (TX5 11).2.2.1 ∈ fx_tb := fx_tb_in (List.mem_of_getElem? (i := 249) (by decide +kernel)) (by decide +kernel)
theorem kF_X5_41 : Cond.fieldLink RX5 41 (TX5 12).1 (TX5 12).2.1 (TX5 12).2.2.1 ∈ fx_tb := fx_tb_in (List.mem_of_getElem? (i := 251) (by decide +kernel)) (by decide +kernel)
theorem kF_X5_58 : Cond.fieldLink RX5 58 (TX1 1).1 (TX1 1).2.1 (TX1 1).2.2.1 ∈ fx_tb := fx_tb_in (List.mem_of_getElem? (i := 204) (by decide +kernel)) (by decide +kernel)
theorem kFw_X10_119 : Cond.fieldLink RX10 119 "HalfShop$Word" "ALL" "[LHalfShop$Word;" ∈ fx_tb := fx_tb_in (List.mem_of_getElem? (i := 625) (by decide +kernel)) (by decide +kernel)
theorem kFw_X10_109 : Cond.fieldLink RX10 109 "HalfShop$Word" "key" "J" ∈ fx_tb := fx_tb_in (List.mem_of_getElem? (i := 1904) (by decide +kernel)) (by decide +kernel)
theorem kFw_X10_113 : Cond.fieldLink RX10 113 "HalfShop$Word" "reserved" "Z" ∈ fx_tb := fx_tb_in (List.mem_of_getElem? (i := 1905) (by decide +kernel)) (by decide +kernel)
theorem kL_X9_84 : Cond.methodLink RX9 84 yX10_isReserved ∈ fx_tb := fx_tb_in (List.mem_of_getElem? (i := 622) (by decide +kernel)) (by decide +kernel)
theorem kT_X10_isReserved : Cond.static yX10_isReserved ∈ fx_tb := fx_tb_in (List.mem_of_getElem? (i := 623) (by decide +kernel)) (by decide +kernel)
theorem kNy_X10_isReserved : Cond.initialized yX10_isReserved.cls ∈ fx_tb := fx_tb_in (List.mem_of_getElem? (i := 108) (by decide +kernel)) (by decide +kernel)
theorem kMS_X9_84 : ∀ w ∈ ([.methodLink RX9 84 yX10_isReserved, .static yX10_isReserved, .initialized yX10_isReserved.cls] : List Cond), w ∈ fx_tb := fx_l3 kL_X9_84 kT_X10_isReserved kNy_X10_isReserved
theorem kC_X10_isReserved : Cond.code yX10_isReserved cX10_isReserved 3 (some .boolean) ∈ fx_tb := fx_tb_in (List.mem_of_getElem? (i := 624) (by decide +kernel)) (by decide +kernel)
theorem hd_X10_isReserved : yX10_isReserved.cls = RX10 ∧ yX10_isReserved.cls ≠ "java/lang/invoke/MethodHandle" ∧ yX10_isReserved.cls ≠ "java/lang/invoke/VarHandle" ∧ (parseMethodDescriptor yX10_isReserved.desc).map (fun d => d.parameters.length) = some 1 := by decide +kernel
theorem kF_X5_9 : Cond.fieldLink RX5 9 (TX5 1).1 (TX5 1).2.1 (TX5 1).2.2.1 ∈ fx_tb := fx_tb_in (List.mem_of_getElem? (i := 219) (by decide +kernel)) (by decide +kernel)
theorem kF_X5_25 : Cond.fieldLink RX5 25 (TX5 6).1 (TX5 6).2.1 (TX5 6).2.2.1 ∈ fx_tb := fx_tb_in (List.mem_of_getElem? (i := 235) (by decide +kernel)) (by decide +kernel)
theorem inT_X4 : ∀ w ∈ u_ws RX4 TX4 2, w ∈ fx_tb := fx_inws [185, 187] (by decide +kernel)
theorem kF_X4_9 : Cond.fieldLink RX4 9 (TX4 0).1 (TX4 0).2.1 (TX4 0).2.2.1 ∈ fx_tb := fx_tb_in (List.mem_of_getElem? (i := 183) (by decide +kernel)) (by decide +kernel)
theorem kL_X4_232 : Cond.methodLink RX4 232 yX9_isName ∈ fx_tb := fx_tb_in (List.mem_of_getElem? (i := 618) (by decide +kernel)) (by decide +kernel)
theorem kI_X9_isName : Cond.instanceMethod yX9_isName ∈ fx_tb := fx_tb_in (List.mem_of_getElem? (i := 619) (by decide +kernel)) (by decide +kernel)
theorem kS_X9_isName : Cond.selects RX9 yX9_isName yX9_isName ∈ fx_tb := fx_tb_in (List.mem_of_getElem? (i := 620) (by decide +kernel)) (by decide +kernel)
theorem kMV_X4_232 : ∀ w ∈ ([.methodLink RX4 232 yX9_isName, .instanceMethod yX9_isName, .selects RX9 yX9_isName yX9_isName, .initialized RX9] : List Cond), w ∈ fx_tb := fx_l4 kL_X4_232 kI_X9_isName kS_X9_isName kN_X9
theorem kC_X9_isName : Cond.code yX9_isName cX9_isName 1 (some .boolean) ∈ fx_tb := fx_tb_in (List.mem_of_getElem? (i := 621) (by decide +kernel)) (by decide +kernel)
theorem hd_X9_isName : yX9_isName.cls = RX9 ∧ yX9_isName.cls ≠ "java/lang/invoke/MethodHandle" ∧ yX9_isName.cls ≠ "java/lang/invoke/VarHandle" ∧ (parseMethodDescriptor yX9_isName.desc).map (fun d => d.parameters.length) = some 0 := by decide +kernel
theorem kF_X4_107 : Cond.fieldLink RX4 107 (TX9 7).1 (TX9 7).2.1 (TX9 7).2.2.1 ∈ fx_tb := fx_tb_in (List.mem_of_getElem? (i := 143) (by decide +kernel)) (by decide +kernel)
theorem kL_X4_235 : Cond.methodLink RX4 235 yX5_wareNamed ∈ fx_tb := fx_tb_in (List.mem_of_getElem? (i := 627) (by decide +kernel)) (by decide +kernel)
theorem kI_X5_wareNamed : Cond.instanceMethod yX5_wareNamed ∈ fx_tb := fx_tb_in (List.mem_of_getElem? (i := 628) (by decide +kernel)) (by decide +kernel)
theorem kS_X5_wareNamed : Cond.selects RX5 yX5_wareNamed yX5_wareNamed ∈ fx_tb := fx_tb_in (List.mem_of_getElem? (i := 629) (by decide +kernel)) (by decide +kernel)
theorem kN_X5 : Cond.initialized RX5 ∈ fx_tb := fx_tb_in (List.mem_of_getElem? (i := 99) (by decide +kernel)) (by decide +kernel)
theorem kMV_X4_235 : ∀ w ∈ ([.methodLink RX4 235 yX5_wareNamed, .instanceMethod yX5_wareNamed, .selects RX5 yX5_wareNamed yX5_wareNamed, .initialized RX5] : List Cond), w ∈ fx_tb := fx_l4 kL_X4_235 kI_X5_wareNamed kS_X5_wareNamed kN_X5
theorem kC_X5_wareNamed : Cond.code yX5_wareNamed cX5_wareNamed 4 (some .int) ∈ fx_tb := fx_tb_in (List.mem_of_getElem? (i := 630) (by decide +kernel)) (by decide +kernel)
theorem hd_X5_wareNamed : yX5_wareNamed.cls = RX5 ∧ yX5_wareNamed.cls ≠ "java/lang/invoke/MethodHandle" ∧ yX5_wareNamed.cls ≠ "java/lang/invoke/VarHandle" ∧ (parseMethodDescriptor yX5_wareNamed.desc).map (fun d => d.parameters.length) = some 1 := by decide +kernel
theorem kL_X4_97 : Cond.methodLink RX4 97 yX9_wrong ∈ fx_tb := fx_tb_in (List.mem_of_getElem? (i := 609) (by decide +kernel)) (by decide +kernel)
theorem kMV_X4_97 : ∀ w ∈ ([.methodLink RX4 97 yX9_wrong, .instanceMethod yX9_wrong, .selects RX9 yX9_wrong yX9_wrong, .initialized RX9] : List Cond), w ∈ fx_tb := fx_l4 kL_X4_97 kI_X9_wrong kS_X9_wrong kN_X9
theorem kL_X4_239 : Cond.methodLink RX4 239 yX5_partyNamed ∈ fx_tb := fx_tb_in (List.mem_of_getElem? (i := 631) (by decide +kernel)) (by decide +kernel)
theorem kI_X5_partyNamed : Cond.instanceMethod yX5_partyNamed ∈ fx_tb := fx_tb_in (List.mem_of_getElem? (i := 632) (by decide +kernel)) (by decide +kernel)
theorem kS_X5_partyNamed : Cond.selects RX5 yX5_partyNamed yX5_partyNamed ∈ fx_tb := fx_tb_in (List.mem_of_getElem? (i := 633) (by decide +kernel)) (by decide +kernel)
theorem kMV_X4_239 : ∀ w ∈ ([.methodLink RX4 239 yX5_partyNamed, .instanceMethod yX5_partyNamed, .selects RX5 yX5_partyNamed yX5_partyNamed, .initialized RX5] : List Cond), w ∈ fx_tb := fx_l4 kL_X4_239 kI_X5_partyNamed kS_X5_partyNamed kN_X5
theorem kC_X5_partyNamed : Cond.code yX5_partyNamed cX5_partyNamed 4 (some .int) ∈ fx_tb := fx_tb_in (List.mem_of_getElem? (i := 634) (by decide +kernel)) (by decide +kernel)
theorem hd_X5_partyNamed : yX5_partyNamed.cls = RX5 ∧ yX5_partyNamed.cls ≠ "java/lang/invoke/MethodHandle" ∧ yX5_partyNamed.cls ≠ "java/lang/invoke/VarHandle" ∧ (parseMethodDescriptor yX5_partyNamed.desc).map (fun d => d.parameters.length) = some 1 := by decide +kernel
theorem kL_X4_104 : Cond.methodLink RX4 104 yX9_advance ∈ fx_tb := fx_tb_in (List.mem_of_getElem? (i := 613) (by decide +kernel)) (by decide +kernel)
theorem kMV_X4_104 : ∀ w ∈ ([.methodLink RX4 104 yX9_advance, .instanceMethod yX9_advance, .selects RX9 yX9_advance yX9_advance, .initialized RX9] : List Cond), w ∈ fx_tb := fx_l4 kL_X4_104 kI_X9_advance kS_X9_advance kN_X9
theorem kFw_X4_147 : Cond.fieldLink RX4 147 "HalfShop$Word" "PLAIN" "LHalfShop$Word;" ∈ fx_tb := fx_tb_in (List.mem_of_getElem? (i := 639) (by decide +kernel)) (by decide +kernel)
theorem kL_X4_66 : Cond.methodLink RX4 66 yX9_isWord ∈ fx_tb := fx_tb_in (List.mem_of_getElem? (i := 601) (by decide +kernel)) (by decide +kernel)
theorem kMV_X4_66 : ∀ w ∈ ([.methodLink RX4 66 yX9_isWord, .instanceMethod yX9_isWord, .selects RX9 yX9_isWord yX9_isWord, .initialized RX9] : List Cond), w ∈ fx_tb := fx_l4 kL_X4_66 kI_X9_isWord kS_X9_isWord kN_X9
theorem kF_X4_159 : Cond.fieldLink RX4 159 (TX5 2).1 (TX5 2).2.1 (TX5 2).2.2.1 ∈ fx_tb := fx_tb_in (List.mem_of_getElem? (i := 223) (by decide +kernel)) (by decide +kernel)
theorem kFw_X4_150 : Cond.fieldLink RX4 150 "HalfShop$Word" "BRIDGE" "LHalfShop$Word;" ∈ fx_tb := fx_tb_in (List.mem_of_getElem? (i := 641) (by decide +kernel)) (by decide +kernel)
theorem kFw_X4_153 : Cond.fieldLink RX4 153 "HalfShop$Word" "LETTER" "LHalfShop$Word;" ∈ fx_tb := fx_tb_in (List.mem_of_getElem? (i := 643) (by decide +kernel)) (by decide +kernel)
theorem kFw_X4_156 : Cond.fieldLink RX4 156 "HalfShop$Word" "CLOCK" "LHalfShop$Word;" ∈ fx_tb := fx_tb_in (List.mem_of_getElem? (i := 645) (by decide +kernel)) (by decide +kernel)
theorem kL_X9_89 : Cond.methodLink RX9 89 yX9_isWord ∈ fx_tb := fx_tb_in (List.mem_of_getElem? (i := 653) (by decide +kernel)) (by decide +kernel)
theorem kMV_X9_89 : ∀ w ∈ ([.methodLink RX9 89 yX9_isWord, .instanceMethod yX9_isWord, .selects RX9 yX9_isWord yX9_isWord, .initialized RX9] : List Cond), w ∈ fx_tb := fx_l4 kL_X9_89 kI_X9_isWord kS_X9_isWord kN_X9
theorem kL_X9_93 : Cond.methodLink RX9 93 yX9_wrong ∈ fx_tb := fx_tb_in (List.mem_of_getElem? (i := 654) (by decide +kernel)) (by decide +kernel)
theorem kMV_X9_93 : ∀ w ∈ ([.methodLink RX9 93 yX9_wrong, .instanceMethod yX9_wrong, .selects RX9 yX9_wrong yX9_wrong, .initialized RX9] : List Cond), w ∈ fx_tb := fx_l4 kL_X9_93 kI_X9_wrong kS_X9_wrong kN_X9
theorem kL_X9_100 : Cond.methodLink RX9 100 yX9_isNumber ∈ fx_tb := fx_tb_in (List.mem_of_getElem? (i := 659) (by decide +kernel)) (by decide +kernel)
theorem kMV_X9_100 : ∀ w ∈ ([.methodLink RX9 100 yX9_isNumber, .instanceMethod yX9_isNumber, .selects RX9 yX9_isNumber yX9_isNumber, .initialized RX9] : List Cond), w ∈ fx_tb := fx_l4 kL_X9_100 kI_X9_isNumber kS_X9_isNumber kN_X9
theorem kF_X4_101 : Cond.fieldLink RX4 101 (TX5 0).1 (TX5 0).2.1 (TX5 0).2.2.1 ∈ fx_tb := fx_tb_in (List.mem_of_getElem? (i := 216) (by decide +kernel)) (by decide +kernel)
theorem kL_X4_111 : Cond.methodLink RX4 111 yX4_takeNewName ∈ fx_tb := fx_tb_in (List.mem_of_getElem? (i := 614) (by decide +kernel)) (by decide +kernel)
theorem kI_X4_takeNewName : Cond.instanceMethod yX4_takeNewName ∈ fx_tb := fx_tb_in (List.mem_of_getElem? (i := 616) (by decide +kernel)) (by decide +kernel)
theorem kS_X4_takeNewName : Cond.selects RX4 yX4_takeNewName yX4_takeNewName ∈ fx_tb := fx_tb_in (List.mem_of_getElem? (i := 6) (by decide +kernel)) (by decide +kernel)
theorem kN_X4 : Cond.initialized RX4 ∈ fx_tb := fx_tb_in (List.mem_of_getElem? (i := 97) (by decide +kernel)) (by decide +kernel)
theorem kMV_X4_111 : ∀ w ∈ ([.methodLink RX4 111 yX4_takeNewName, .instanceMethod yX4_takeNewName, .selects RX4 yX4_takeNewName yX4_takeNewName, .initialized RX4] : List Cond), w ∈ fx_tb := fx_l4 kL_X4_111 kI_X4_takeNewName kS_X4_takeNewName kN_X4
theorem kC_X4_takeNewName : Cond.code yX4_takeNewName cX4_takeNewName 2 (some .boolean) ∈ fx_tb := fx_tb_in (List.mem_of_getElem? (i := 617) (by decide +kernel)) (by decide +kernel)
theorem hd_X4_takeNewName : yX4_takeNewName.cls = RX4 ∧ yX4_takeNewName.cls ≠ "java/lang/invoke/MethodHandle" ∧ yX4_takeNewName.cls ≠ "java/lang/invoke/VarHandle" ∧ (parseMethodDescriptor yX4_takeNewName.desc).map (fun d => d.parameters.length) = some 1 := by decide +kernel
theorem kL_X4_114 : Cond.methodLink RX4 114 yX4_takeKind ∈ fx_tb := fx_tb_in (List.mem_of_getElem? (i := 635) (by decide +kernel)) (by decide +kernel)
theorem kI_X4_takeKind : Cond.instanceMethod yX4_takeKind ∈ fx_tb := fx_tb_in (List.mem_of_getElem? (i := 637) (by decide +kernel)) (by decide +kernel)
theorem kS_X4_takeKind : Cond.selects RX4 yX4_takeKind yX4_takeKind ∈ fx_tb := fx_tb_in (List.mem_of_getElem? (i := 7) (by decide +kernel)) (by decide +kernel)
theorem kMV_X4_114 : ∀ w ∈ ([.methodLink RX4 114 yX4_takeKind, .instanceMethod yX4_takeKind, .selects RX4 yX4_takeKind yX4_takeKind, .initialized RX4] : List Cond), w ∈ fx_tb := fx_l4 kL_X4_114 kI_X4_takeKind kS_X4_takeKind kN_X4
theorem kC_X4_takeKind : Cond.code yX4_takeKind cX4_takeKind 4 (some .boolean) ∈ fx_tb := fx_tb_in (List.mem_of_getElem? (i := 638) (by decide +kernel)) (by decide +kernel)
theorem hd_X4_takeKind : yX4_takeKind.cls = RX4 ∧ yX4_takeKind.cls ≠ "java/lang/invoke/MethodHandle" ∧ yX4_takeKind.cls ≠ "java/lang/invoke/VarHandle" ∧ (parseMethodDescriptor yX4_takeKind.desc).map (fun d => d.parameters.length) = some 2 := by decide +kernel
theorem kFw_X4_118 : Cond.fieldLink RX4 118 "HalfShop$Word" "WHOLE" "LHalfShop$Word;" ∈ fx_tb := fx_tb_in (List.mem_of_getElem? (i := 647) (by decide +kernel)) (by decide +kernel)
theorem kL_X4_121 : Cond.methodLink RX4 121 yX9_takeWord ∈ fx_tb := fx_tb_in (List.mem_of_getElem? (i := 649) (by decide +kernel)) (by decide +kernel)
theorem kI_X9_takeWord : Cond.instanceMethod yX9_takeWord ∈ fx_tb := fx_tb_in (List.mem_of_getElem? (i := 650) (by decide +kernel)) (by decide +kernel)
theorem kS_X9_takeWord : Cond.selects RX9 yX9_takeWord yX9_takeWord ∈ fx_tb := fx_tb_in (List.mem_of_getElem? (i := 651) (by decide +kernel)) (by decide +kernel)
theorem kMV_X4_121 : ∀ w ∈ ([.methodLink RX4 121 yX9_takeWord, .instanceMethod yX9_takeWord, .selects RX9 yX9_takeWord yX9_takeWord, .initialized RX9] : List Cond), w ∈ fx_tb := fx_l4 kL_X4_121 kI_X9_takeWord kS_X9_takeWord kN_X9
theorem kC_X9_takeWord : Cond.code yX9_takeWord cX9_takeWord 2 (some .boolean) ∈ fx_tb := fx_tb_in (List.mem_of_getElem? (i := 652) (by decide +kernel)) (by decide +kernel)
theorem hd_X9_takeWord : yX9_takeWord.cls = RX9 ∧ yX9_takeWord.cls ≠ "java/lang/invoke/MethodHandle" ∧ yX9_takeWord.cls ≠ "java/lang/invoke/VarHandle" ∧ (parseMethodDescriptor yX9_takeWord.desc).map (fun d => d.parameters.length) = some 1 := by decide +kernel
theorem kL_X4_124 : Cond.methodLink RX4 124 yX9_takeNumber ∈ fx_tb := fx_tb_in (List.mem_of_getElem? (i := 655) (by decide +kernel)) (by decide +kernel)
theorem kI_X9_takeNumber : Cond.instanceMethod yX9_takeNumber ∈ fx_tb := fx_tb_in (List.mem_of_getElem? (i := 656) (by decide +kernel)) (by decide +kernel)
theorem kS_X9_takeNumber : Cond.selects RX9 yX9_takeNumber yX9_takeNumber ∈ fx_tb := fx_tb_in (List.mem_of_getElem? (i := 657) (by decide +kernel)) (by decide +kernel)
theorem kMV_X4_124 : ∀ w ∈ ([.methodLink RX4 124 yX9_takeNumber, .instanceMethod yX9_takeNumber, .selects RX9 yX9_takeNumber yX9_takeNumber, .initialized RX9] : List Cond), w ∈ fx_tb := fx_l4 kL_X4_124 kI_X9_takeNumber kS_X9_takeNumber kN_X9
theorem kC_X9_takeNumber : Cond.code yX9_takeNumber cX9_takeNumber 4 (some .int) ∈ fx_tb := fx_tb_in (List.mem_of_getElem? (i := 658) (by decide +kernel)) (by decide +kernel)
theorem hd_X9_takeNumber : yX9_takeNumber.cls = RX9 ∧ yX9_takeNumber.cls ≠ "java/lang/invoke/MethodHandle" ∧ yX9_takeNumber.cls ≠ "java/lang/invoke/VarHandle" ∧ (parseMethodDescriptor yX9_takeNumber.desc).map (fun d => d.parameters.length) = some 2 := by decide +kernel
theorem kFw_X4_128 : Cond.fieldLink RX4 128 "HalfShop$Word" "DONE" "LHalfShop$Word;" ∈ fx_tb := fx_tb_in (List.mem_of_getElem? (i := 663) (by decide +kernel)) (by decide +kernel)
theorem kF_X4_131 : Cond.fieldLink RX4 131 (TX5 1).1 (TX5 1).2.1 (TX5 1).2.2.1 ∈ fx_tb := fx_tb_in (List.mem_of_getElem? (i := 220) (by decide +kernel)) (by decide +kernel)
theorem kF_X4_135 : Cond.fieldLink RX4 135 (TX5 3).1 (TX5 3).2.1 (TX5 3).2.2.1 ∈ fx_tb := fx_tb_in (List.mem_of_getElem? (i := 227) (by decide +kernel)) (by decide +kernel)
theorem kF_X4_139 : Cond.fieldLink RX4 139 (TX5 4).1 (TX5 4).2.1 (TX5 4).2.2.1 ∈ fx_tb := fx_tb_in (List.mem_of_getElem? (i := 230) (by decide +kernel)) (by decide +kernel)
theorem kL_X4_142 : Cond.methodLink RX4 142 Lib.Math.min.name ∈ fx_tb := fx_tb_in (List.mem_of_getElem? (i := 665) (by decide +kernel)) (by decide +kernel)
theorem kF_X4_162 : Cond.fieldLink RX4 162 (TX5 5).1 (TX5 5).2.1 (TX5 5).2.2.1 ∈ fx_tb := fx_tb_in (List.mem_of_getElem? (i := 232) (by decide +kernel)) (by decide +kernel)
theorem kFw_X4_165 : Cond.fieldLink RX4 165 "HalfShop$Word" "SEATS" "LHalfShop$Word;" ∈ fx_tb := fx_tb_in (List.mem_of_getElem? (i := 672) (by decide +kernel)) (by decide +kernel)
theorem kF_X4_168 : Cond.fieldLink RX4 168 (TX5 6).1 (TX5 6).2.1 (TX5 6).2.2.1 ∈ fx_tb := fx_tb_in (List.mem_of_getElem? (i := 236) (by decide +kernel)) (by decide +kernel)
theorem kF_X4_171 : Cond.fieldLink RX4 171 (TX5 7).1 (TX5 7).2.1 (TX5 7).2.2.1 ∈ fx_tb := fx_tb_in (List.mem_of_getElem? (i := 239) (by decide +kernel)) (by decide +kernel)
theorem kF_X4_174 : Cond.fieldLink RX4 174 (TX5 8).1 (TX5 8).2.1 (TX5 8).2.2.1 ∈ fx_tb := fx_tb_in (List.mem_of_getElem? (i := 242) (by decide +kernel)) (by decide +kernel)
theorem kF_X5_31 : Cond.fieldLink RX5 31 (TX5 8).1 (TX5 8).2.1 (TX5 8).2.2.1 ∈ fx_tb := fx_tb_in (List.mem_of_getElem? (i := 240) (by decide +kernel)) (by decide +kernel)
theorem kL_X4_177 : Cond.methodLink RX4 177 yX4_partyHere ∈ fx_tb := fx_tb_in (List.mem_of_getElem? (i := 680) (by decide +kernel)) (by decide +kernel)
theorem kI_X4_partyHere : Cond.instanceMethod yX4_partyHere ∈ fx_tb := fx_tb_in (List.mem_of_getElem? (i := 682) (by decide +kernel)) (by decide +kernel)
theorem kS_X4_partyHere : Cond.selects RX4 yX4_partyHere yX4_partyHere ∈ fx_tb := fx_tb_in (List.mem_of_getElem? (i := 10) (by decide +kernel)) (by decide +kernel)
theorem kMV_X4_177 : ∀ w ∈ ([.methodLink RX4 177 yX4_partyHere, .instanceMethod yX4_partyHere, .selects RX4 yX4_partyHere yX4_partyHere, .initialized RX4] : List Cond), w ∈ fx_tb := fx_l4 kL_X4_177 kI_X4_partyHere kS_X4_partyHere kN_X4
theorem kC_X4_partyHere : Cond.code yX4_partyHere cX4_partyHere 2 (some .int) ∈ fx_tb := fx_tb_in (List.mem_of_getElem? (i := 683) (by decide +kernel)) (by decide +kernel)
theorem hd_X4_partyHere : yX4_partyHere.cls = RX4 ∧ yX4_partyHere.cls ≠ "java/lang/invoke/MethodHandle" ∧ yX4_partyHere.cls ≠ "java/lang/invoke/VarHandle" ∧ (parseMethodDescriptor yX4_partyHere.desc).map (fun d => d.parameters.length) = some 1 := by decide +kernel
theorem kL_X4_181 : Cond.methodLink RX4 181 yX4_takeNamed ∈ fx_tb := fx_tb_in (List.mem_of_getElem? (i := 684) (by decide +kernel)) (by decide +kernel)
theorem kI_X4_takeNamed : Cond.instanceMethod yX4_takeNamed ∈ fx_tb := fx_tb_in (List.mem_of_getElem? (i := 686) (by decide +kernel)) (by decide +kernel)
theorem kS_X4_takeNamed : Cond.selects RX4 yX4_takeNamed yX4_takeNamed ∈ fx_tb := fx_tb_in (List.mem_of_getElem? (i := 11) (by decide +kernel)) (by decide +kernel)
theorem kMV_X4_181 : ∀ w ∈ ([.methodLink RX4 181 yX4_takeNamed, .instanceMethod yX4_takeNamed, .selects RX4 yX4_takeNamed yX4_takeNamed, .initialized RX4] : List Cond), w ∈ fx_tb := fx_l4 kL_X4_181 kI_X4_takeNamed kS_X4_takeNamed kN_X4
theorem kC_X4_takeNamed : Cond.code yX4_takeNamed cX4_takeNamed 3 (some .int) ∈ fx_tb := fx_tb_in (List.mem_of_getElem? (i := 687) (by decide +kernel)) (by decide +kernel)
theorem hd_X4_takeNamed : yX4_takeNamed.cls = RX4 ∧ yX4_takeNamed.cls ≠ "java/lang/invoke/MethodHandle" ∧ yX4_takeNamed.cls ≠ "java/lang/invoke/VarHandle" ∧ (parseMethodDescriptor yX4_takeNamed.desc).map (fun d => d.parameters.length) = some 2 := by decide +kernel
theorem kL_X4_184 : Cond.methodLink RX4 184 yX4_wareHere ∈ fx_tb := fx_tb_in (List.mem_of_getElem? (i := 688) (by decide +kernel)) (by decide +kernel)
theorem kI_X4_wareHere : Cond.instanceMethod yX4_wareHere ∈ fx_tb := fx_tb_in (List.mem_of_getElem? (i := 690) (by decide +kernel)) (by decide +kernel)
theorem kS_X4_wareHere : Cond.selects RX4 yX4_wareHere yX4_wareHere ∈ fx_tb := fx_tb_in (List.mem_of_getElem? (i := 12) (by decide +kernel)) (by decide +kernel)
theorem kMV_X4_184 : ∀ w ∈ ([.methodLink RX4 184 yX4_wareHere, .instanceMethod yX4_wareHere, .selects RX4 yX4_wareHere yX4_wareHere, .initialized RX4] : List Cond), w ∈ fx_tb := fx_l4 kL_X4_184 kI_X4_wareHere kS_X4_wareHere kN_X4
theorem kC_X4_wareHere : Cond.code yX4_wareHere cX4_wareHere 2 (some .int) ∈ fx_tb := fx_tb_in (List.mem_of_getElem? (i := 691) (by decide +kernel)) (by decide +kernel)
theorem hd_X4_wareHere : yX4_wareHere.cls = RX4 ∧ yX4_wareHere.cls ≠ "java/lang/invoke/MethodHandle" ∧ yX4_wareHere.cls ≠ "java/lang/invoke/VarHandle" ∧ (parseMethodDescriptor yX4_wareHere.desc).map (fun d => d.parameters.length) = some 1 := by decide +kernel
theorem kL_X4_187 : Cond.methodLink RX4 187 yX5_isFor ∈ fx_tb := fx_tb_in (List.mem_of_getElem? (i := 692) (by decide +kernel)) (by decide +kernel)
theorem kI_X5_isFor : Cond.instanceMethod yX5_isFor ∈ fx_tb := fx_tb_in (List.mem_of_getElem? (i := 693) (by decide +kernel)) (by decide +kernel)
theorem kS_X5_isFor : Cond.selects RX5 yX5_isFor yX5_isFor ∈ fx_tb := fx_tb_in (List.mem_of_getElem? (i := 694) (by decide +kernel)) (by decide +kernel)
theorem kMV_X4_187 : ∀ w ∈ ([.methodLink RX4 187 yX5_isFor, .instanceMethod yX5_isFor, .selects RX5 yX5_isFor yX5_isFor, .initialized RX5] : List Cond), w ∈ fx_tb := fx_l4 kL_X4_187 kI_X5_isFor kS_X5_isFor kN_X5
theorem kC_X5_isFor : Cond.code yX5_isFor cX5_isFor 3 (some .boolean) ∈ fx_tb := fx_tb_in (List.mem_of_getElem? (i := 695) (by decide +kernel)) (by decide +kernel)
theorem hd_X5_isFor : yX5_isFor.cls = RX5 ∧ yX5_isFor.cls ≠ "java/lang/invoke/MethodHandle" ∧ yX5_isFor.cls ≠ "java/lang/invoke/VarHandle" ∧ (parseMethodDescriptor yX5_isFor.desc).map (fun d => d.parameters.length) = some 2 := by decide +kernel
theorem kF_X4_191 : Cond.fieldLink RX4 191 (TX5 10).1 (TX5 10).2.1 (TX5 10).2.2.1 ∈ fx_tb := fx_tb_in (List.mem_of_getElem? (i := 248) (by decide +kernel)) (by decide +kernel)
theorem kF_X4_195 : Cond.fieldLink RX4 195 (TX5 9).1 (TX5 9).2.1 (TX5 9).2.2.1 ∈ fx_tb := fx_tb_in (List.mem_of_getElem? (i := 245) (by decide +kernel)) (by decide +kernel)
theorem kF_X4_198 : Cond.fieldLink RX4 198 (TX5 11).1 (TX5 11).2.1 (TX5 11).2.2.1 ∈ fx_tb := fx_tb_in (List.mem_of_getElem? (i := 250) (by decide +kernel)) (by decide +kernel)
theorem kF_X4_20 : Cond.fieldLink RX4 20 (TX4 1).1 (TX4 1).2.1 (TX4 1).2.2.1 ∈ fx_tb := fx_tb_in (List.mem_of_getElem? (i := 184) (by decide +kernel)) (by decide +kernel)
theorem kF_X4_201 : Cond.fieldLink RX4 201 (TX5 12).1 (TX5 12).2.1 (TX5 12).2.2.1 ∈ fx_tb := fx_tb_in (List.mem_of_getElem? (i := 252) (by decide +kernel)) (by decide +kernel)
theorem kNy_X2_readLevel : Cond.initialized yX2_readLevel.cls ∈ fx_tb := fx_tb_in (List.mem_of_getElem? (i := 98) (by decide +kernel)) (by decide +kernel)
theorem kVN_X2_readLevel : ∀ w ∈ ([.instanceMethod yX2_readLevel, .selects RX2 yX2_readLevel yX2_readLevel, .initialized yX2_readLevel.cls] : List Cond), w ∈ fx_tb := fx_l3 kI_X2_readLevel kS_X2_readLevel kNy_X2_readLevel
theorem kFw_X4_60 : Cond.fieldLink RX4 60 "HalfShop$Word" "WARE" "LHalfShop$Word;" ∈ fx_tb := fx_tb_in (List.mem_of_getElem? (i := 599) (by decide +kernel)) (by decide +kernel)
theorem kFw_X4_73 : Cond.fieldLink RX4 73 "HalfShop$Word" "PARTY" "LHalfShop$Word;" ∈ fx_tb := fx_tb_in (List.mem_of_getElem? (i := 666) (by decide +kernel)) (by decide +kernel)
theorem kFw_X4_79 : Cond.fieldLink RX4 79 "HalfShop$Word" "FOR" "LHalfShop$Word;" ∈ fx_tb := fx_tb_in (List.mem_of_getElem? (i := 674) (by decide +kernel)) (by decide +kernel)
theorem kFw_X4_85 : Cond.fieldLink RX4 85 "HalfShop$Word" "FINE" "LHalfShop$Word;" ∈ fx_tb := fx_tb_in (List.mem_of_getElem? (i := 696) (by decide +kernel)) (by decide +kernel)
theorem kFw_X4_91 : Cond.fieldLink RX4 91 "HalfShop$Word" "WORKS" "LHalfShop$Word;" ∈ fx_tb := fx_tb_in (List.mem_of_getElem? (i := 702) (by decide +kernel)) (by decide +kernel)
theorem kL_X4_94 : Cond.methodLink RX4 94 yX4_readWorks ∈ fx_tb := fx_tb_in (List.mem_of_getElem? (i := 704) (by decide +kernel)) (by decide +kernel)
theorem kI_X4_readWorks : Cond.instanceMethod yX4_readWorks ∈ fx_tb := fx_tb_in (List.mem_of_getElem? (i := 706) (by decide +kernel)) (by decide +kernel)
theorem kS_X4_readWorks : Cond.selects RX4 yX4_readWorks yX4_readWorks ∈ fx_tb := fx_tb_in (List.mem_of_getElem? (i := 14) (by decide +kernel)) (by decide +kernel)
theorem kMV_X4_94 : ∀ w ∈ ([.methodLink RX4 94 yX4_readWorks, .instanceMethod yX4_readWorks, .selects RX4 yX4_readWorks yX4_readWorks, .initialized RX4] : List Cond), w ∈ fx_tb := fx_l4 kL_X4_94 kI_X4_readWorks kS_X4_readWorks kN_X4
theorem kC_X4_readWorks : Cond.code yX4_readWorks cX4_readWorks 2 (some .boolean) ∈ fx_tb := fx_tb_in (List.mem_of_getElem? (i := 707) (by decide +kernel)) (by decide +kernel)
theorem hd_X4_readWorks : yX4_readWorks.cls = RX4 ∧ yX4_readWorks.cls ≠ "java/lang/invoke/MethodHandle" ∧ yX4_readWorks.cls ≠ "java/lang/invoke/VarHandle" ∧ (parseMethodDescriptor yX4_readWorks.desc).map (fun d => d.parameters.length) = some 1 := by decide +kernel
theorem kL_X4_88 : Cond.methodLink RX4 88 yX4_readFine ∈ fx_tb := fx_tb_in (List.mem_of_getElem? (i := 698) (by decide +kernel)) (by decide +kernel)
theorem kI_X4_readFine : Cond.instanceMethod yX4_readFine ∈ fx_tb := fx_tb_in (List.mem_of_getElem? (i := 700) (by decide +kernel)) (by decide +kernel)
theorem kS_X4_readFine : Cond.selects RX4 yX4_readFine yX4_readFine ∈ fx_tb := fx_tb_in (List.mem_of_getElem? (i := 13) (by decide +kernel)) (by decide +kernel)
theorem kMV_X4_88 : ∀ w ∈ ([.methodLink RX4 88 yX4_readFine, .instanceMethod yX4_readFine, .selects RX4 yX4_readFine yX4_readFine, .initialized RX4] : List Cond), w ∈ fx_tb := fx_l4 kL_X4_88 kI_X4_readFine kS_X4_readFine kN_X4
theorem kC_X4_readFine : Cond.code yX4_readFine cX4_readFine 3 (some .boolean) ∈ fx_tb := fx_tb_in (List.mem_of_getElem? (i := 701) (by decide +kernel)) (by decide +kernel)
theorem hd_X4_readFine : yX4_readFine.cls = RX4 ∧ yX4_readFine.cls ≠ "java/lang/invoke/MethodHandle" ∧ yX4_readFine.cls ≠ "java/lang/invoke/VarHandle" ∧ (parseMethodDescriptor yX4_readFine.desc).map (fun d => d.parameters.length) = some 1 := by decide +kernel
theorem kL_X4_82 : Cond.methodLink RX4 82 yX4_readCause ∈ fx_tb := fx_tb_in (List.mem_of_getElem? (i := 676) (by decide +kernel)) (by decide +kernel)
theorem kI_X4_readCause : Cond.instanceMethod yX4_readCause ∈ fx_tb := fx_tb_in (List.mem_of_getElem? (i := 678) (by decide +kernel)) (by decide +kernel)
theorem kS_X4_readCause : Cond.selects RX4 yX4_readCause yX4_readCause ∈ fx_tb := fx_tb_in (List.mem_of_getElem? (i := 9) (by decide +kernel)) (by decide +kernel)
theorem kMV_X4_82 : ∀ w ∈ ([.methodLink RX4 82 yX4_readCause, .instanceMethod yX4_readCause, .selects RX4 yX4_readCause yX4_readCause, .initialized RX4] : List Cond), w ∈ fx_tb := fx_l4 kL_X4_82 kI_X4_readCause kS_X4_readCause kN_X4
theorem kC_X4_readCause : Cond.code yX4_readCause cX4_readCause 5 (some .boolean) ∈ fx_tb := fx_tb_in (List.mem_of_getElem? (i := 679) (by decide +kernel)) (by decide +kernel)
theorem hd_X4_readCause : yX4_readCause.cls = RX4 ∧ yX4_readCause.cls ≠ "java/lang/invoke/MethodHandle" ∧ yX4_readCause.cls ≠ "java/lang/invoke/VarHandle" ∧ (parseMethodDescriptor yX4_readCause.desc).map (fun d => d.parameters.length) = some 1 := by decide +kernel
theorem kL_X4_76 : Cond.methodLink RX4 76 yX4_readParty ∈ fx_tb := fx_tb_in (List.mem_of_getElem? (i := 668) (by decide +kernel)) (by decide +kernel)
theorem kI_X4_readParty : Cond.instanceMethod yX4_readParty ∈ fx_tb := fx_tb_in (List.mem_of_getElem? (i := 670) (by decide +kernel)) (by decide +kernel)
theorem kS_X4_readParty : Cond.selects RX4 yX4_readParty yX4_readParty ∈ fx_tb := fx_tb_in (List.mem_of_getElem? (i := 8) (by decide +kernel)) (by decide +kernel)
theorem kMV_X4_76 : ∀ w ∈ ([.methodLink RX4 76 yX4_readParty, .instanceMethod yX4_readParty, .selects RX4 yX4_readParty yX4_readParty, .initialized RX4] : List Cond), w ∈ fx_tb := fx_l4 kL_X4_76 kI_X4_readParty kS_X4_readParty kN_X4
theorem kC_X4_readParty : Cond.code yX4_readParty cX4_readParty 6 (some .boolean) ∈ fx_tb := fx_tb_in (List.mem_of_getElem? (i := 671) (by decide +kernel)) (by decide +kernel)
theorem hd_X4_readParty : yX4_readParty.cls = RX4 ∧ yX4_readParty.cls ≠ "java/lang/invoke/MethodHandle" ∧ yX4_readParty.cls ≠ "java/lang/invoke/VarHandle" ∧ (parseMethodDescriptor yX4_readParty.desc).map (fun d => d.parameters.length) = some 1 := by decide +kernel
theorem kL_X4_70 : Cond.methodLink RX4 70 yX4_readWare ∈ fx_tb := fx_tb_in (List.mem_of_getElem? (i := 605) (by decide +kernel)) (by decide +kernel)
theorem kI_X4_readWare : Cond.instanceMethod yX4_readWare ∈ fx_tb := fx_tb_in (List.mem_of_getElem? (i := 607) (by decide +kernel)) (by decide +kernel)
theorem kS_X4_readWare : Cond.selects RX4 yX4_readWare yX4_readWare ∈ fx_tb := fx_tb_in (List.mem_of_getElem? (i := 5) (by decide +kernel)) (by decide +kernel)
theorem kMV_X4_70 : ∀ w ∈ ([.methodLink RX4 70 yX4_readWare, .instanceMethod yX4_readWare, .selects RX4 yX4_readWare yX4_readWare, .initialized RX4] : List Cond), w ∈ fx_tb := fx_l4 kL_X4_70 kI_X4_readWare kS_X4_readWare kN_X4
theorem kC_X4_readWare : Cond.code yX4_readWare cX4_readWare 7 (some .boolean) ∈ fx_tb := fx_tb_in (List.mem_of_getElem? (i := 608) (by decide +kernel)) (by decide +kernel)
theorem hd_X4_readWare : yX4_readWare.cls = RX4 ∧ yX4_readWare.cls ≠ "java/lang/invoke/MethodHandle" ∧ yX4_readWare.cls ≠ "java/lang/invoke/VarHandle" ∧ (parseMethodDescriptor yX4_readWare.desc).map (fun d => d.parameters.length) = some 1 := by decide +kernel
theorem kL_X9_97 : Cond.methodLink RX9 97 yX9_isSign ∈ fx_tb := fx_tb_in (List.mem_of_getElem? (i := 755) (by decide +kernel)) (by decide +kernel)
theorem kMV_X9_97 : ∀ w ∈ ([.methodLink RX9 97 yX9_isSign, .instanceMethod yX9_isSign, .selects RX9 yX9_isSign yX9_isSign, .initialized RX9] : List Cond), w ∈ fx_tb := fx_l4 kL_X9_97 kI_X9_isSign kS_X9_isSign kN_X9
theorem kL_X4_24 : Cond.methodLink RX4 24 yX9_begin ∈ fx_tb := fx_tb_in (List.mem_of_getElem? (i := 467) (by decide +kernel)) (by decide +kernel)
theorem kI_X9_begin : Cond.instanceMethod yX9_begin ∈ fx_tb := fx_tb_in (List.mem_of_getElem? (i := 468) (by decide +kernel)) (by decide +kernel)
theorem kS_X9_begin : Cond.selects RX9 yX9_begin yX9_begin ∈ fx_tb := fx_tb_in (List.mem_of_getElem? (i := 469) (by decide +kernel)) (by decide +kernel)
theorem kMV_X4_24 : ∀ w ∈ ([.methodLink RX4 24 yX9_begin, .instanceMethod yX9_begin, .selects RX9 yX9_begin yX9_begin, .initialized RX9] : List Cond), w ∈ fx_tb := fx_l4 kL_X4_24 kI_X9_begin kS_X9_begin kN_X9
theorem kC_X9_begin : Cond.code yX9_begin cX9_begin 1 none ∈ fx_tb := fx_tb_in (List.mem_of_getElem? (i := 470) (by decide +kernel)) (by decide +kernel)
theorem hd_X9_begin : yX9_begin.cls = RX9 ∧ yX9_begin.cls ≠ "java/lang/invoke/MethodHandle" ∧ yX9_begin.cls ≠ "java/lang/invoke/VarHandle" ∧ (parseMethodDescriptor yX9_begin.desc).map (fun d => d.parameters.length) = some 0 := by decide +kernel
theorem kL_X4_29 : Cond.methodLink RX4 29 yX5_clear ∈ fx_tb := fx_tb_in (List.mem_of_getElem? (i := 587) (by decide +kernel)) (by decide +kernel)
theorem kI_X5_clear : Cond.instanceMethod yX5_clear ∈ fx_tb := fx_tb_in (List.mem_of_getElem? (i := 588) (by decide +kernel)) (by decide +kernel)
theorem kS_X5_clear : Cond.selects RX5 yX5_clear yX5_clear ∈ fx_tb := fx_tb_in (List.mem_of_getElem? (i := 589) (by decide +kernel)) (by decide +kernel)
theorem kMV_X4_29 : ∀ w ∈ ([.methodLink RX4 29 yX5_clear, .instanceMethod yX5_clear, .selects RX5 yX5_clear yX5_clear, .initialized RX5] : List Cond), w ∈ fx_tb := fx_l4 kL_X4_29 kI_X5_clear kS_X5_clear kN_X5
theorem kC_X5_clear : Cond.code yX5_clear cX5_clear 1 none ∈ fx_tb := fx_tb_in (List.mem_of_getElem? (i := 590) (by decide +kernel)) (by decide +kernel)
theorem hd_X5_clear : yX5_clear.cls = RX5 ∧ yX5_clear.cls ≠ "java/lang/invoke/MethodHandle" ∧ yX5_clear.cls ≠ "java/lang/invoke/VarHandle" ∧ (parseMethodDescriptor yX5_clear.desc).map (fun d => d.parameters.length) = some 0 := by decide +kernel
theorem kL_X4_46 : Cond.methodLink RX4 46 yX9_clear ∈ fx_tb := fx_tb_in (List.mem_of_getElem? (i := 756) (by decide +kernel)) (by decide +kernel)
theorem kI_X9_clear : Cond.instanceMethod yX9_clear ∈ fx_tb := fx_tb_in (List.mem_of_getElem? (i := 757) (by decide +kernel)) (by decide +kernel)
theorem kS_X9_clear : Cond.selects RX9 yX9_clear yX9_clear ∈ fx_tb := fx_tb_in (List.mem_of_getElem? (i := 758) (by decide +kernel)) (by decide +kernel)
theorem kMV_X4_46 : ∀ w ∈ ([.methodLink RX4 46 yX9_clear, .instanceMethod yX9_clear, .selects RX9 yX9_clear yX9_clear, .initialized RX9] : List Cond), w ∈ fx_tb := fx_l4 kL_X4_46 kI_X9_clear kS_X9_clear kN_X9
theorem kC_X9_clear : Cond.code yX9_clear cX9_clear 1 none ∈ fx_tb := fx_tb_in (List.mem_of_getElem? (i := 759) (by decide +kernel)) (by decide +kernel)
theorem hd_X9_clear : yX9_clear.cls = RX9 ∧ yX9_clear.cls ≠ "java/lang/invoke/MethodHandle" ∧ yX9_clear.cls ≠ "java/lang/invoke/VarHandle" ∧ (parseMethodDescriptor yX9_clear.desc).map (fun d => d.parameters.length) = some 0 := by decide +kernel
theorem kF_X4_47 : Cond.fieldLink RX4 47 (TX9 8).1 (TX9 8).2.1 (TX9 8).2.2.1 ∈ fx_tb := fx_tb_in (List.mem_of_getElem? (i := 145) (by decide +kernel)) (by decide +kernel)
theorem kL_X4_34 : Cond.methodLink RX4 34 yX9_atEnd ∈ fx_tb := fx_tb_in (List.mem_of_getElem? (i := 591) (by decide +kernel)) (by decide +kernel)
theorem kI_X9_atEnd : Cond.instanceMethod yX9_atEnd ∈ fx_tb := fx_tb_in (List.mem_of_getElem? (i := 592) (by decide +kernel)) (by decide +kernel)
theorem kS_X9_atEnd : Cond.selects RX9 yX9_atEnd yX9_atEnd ∈ fx_tb := fx_tb_in (List.mem_of_getElem? (i := 593) (by decide +kernel)) (by decide +kernel)
theorem kMV_X4_34 : ∀ w ∈ ([.methodLink RX4 34 yX9_atEnd, .instanceMethod yX9_atEnd, .selects RX9 yX9_atEnd yX9_atEnd, .initialized RX9] : List Cond), w ∈ fx_tb := fx_l4 kL_X4_34 kI_X9_atEnd kS_X9_atEnd kN_X9
theorem kC_X9_atEnd : Cond.code yX9_atEnd cX9_atEnd 1 (some .boolean) ∈ fx_tb := fx_tb_in (List.mem_of_getElem? (i := 594) (by decide +kernel)) (by decide +kernel)
theorem hd_X9_atEnd : yX9_atEnd.cls = RX9 ∧ yX9_atEnd.cls ≠ "java/lang/invoke/MethodHandle" ∧ yX9_atEnd.cls ≠ "java/lang/invoke/VarHandle" ∧ (parseMethodDescriptor yX9_atEnd.desc).map (fun d => d.parameters.length) = some 0 := by decide +kernel
theorem kL_X4_38 : Cond.methodLink RX4 38 yX4_readTelling ∈ fx_tb := fx_tb_in (List.mem_of_getElem? (i := 595) (by decide +kernel)) (by decide +kernel)
theorem kI_X4_readTelling : Cond.instanceMethod yX4_readTelling ∈ fx_tb := fx_tb_in (List.mem_of_getElem? (i := 597) (by decide +kernel)) (by decide +kernel)
theorem kS_X4_readTelling : Cond.selects RX4 yX4_readTelling yX4_readTelling ∈ fx_tb := fx_tb_in (List.mem_of_getElem? (i := 4) (by decide +kernel)) (by decide +kernel)
theorem kMV_X4_38 : ∀ w ∈ ([.methodLink RX4 38 yX4_readTelling, .instanceMethod yX4_readTelling, .selects RX4 yX4_readTelling yX4_readTelling, .initialized RX4] : List Cond), w ∈ fx_tb := fx_l4 kL_X4_38 kI_X4_readTelling kS_X4_readTelling kN_X4
theorem kC_X4_readTelling : Cond.code yX4_readTelling cX4_readTelling 2 (some .boolean) ∈ fx_tb := fx_tb_in (List.mem_of_getElem? (i := 598) (by decide +kernel)) (by decide +kernel)
theorem hd_X4_readTelling : yX4_readTelling.cls = RX4 ∧ yX4_readTelling.cls ≠ "java/lang/invoke/MethodHandle" ∧ yX4_readTelling.cls ≠ "java/lang/invoke/VarHandle" ∧ (parseMethodDescriptor yX4_readTelling.desc).map (fun d => d.parameters.length) = some 1 := by decide +kernel
theorem kL_X4_42 : Cond.methodLink RX4 42 yX9_takeSign ∈ fx_tb := fx_tb_in (List.mem_of_getElem? (i := 751) (by decide +kernel)) (by decide +kernel)
theorem kI_X9_takeSign : Cond.instanceMethod yX9_takeSign ∈ fx_tb := fx_tb_in (List.mem_of_getElem? (i := 752) (by decide +kernel)) (by decide +kernel)
theorem kS_X9_takeSign : Cond.selects RX9 yX9_takeSign yX9_takeSign ∈ fx_tb := fx_tb_in (List.mem_of_getElem? (i := 753) (by decide +kernel)) (by decide +kernel)
theorem kMV_X4_42 : ∀ w ∈ ([.methodLink RX4 42 yX9_takeSign, .instanceMethod yX9_takeSign, .selects RX9 yX9_takeSign yX9_takeSign, .initialized RX9] : List Cond), w ∈ fx_tb := fx_l4 kL_X4_42 kI_X9_takeSign kS_X9_takeSign kN_X9
theorem kC_X9_takeSign : Cond.code yX9_takeSign cX9_takeSign 2 (some .boolean) ∈ fx_tb := fx_tb_in (List.mem_of_getElem? (i := 754) (by decide +kernel)) (by decide +kernel)
theorem hd_X9_takeSign : yX9_takeSign.cls = RX9 ∧ yX9_takeSign.cls ≠ "java/lang/invoke/MethodHandle" ∧ yX9_takeSign.cls ≠ "java/lang/invoke/VarHandle" ∧ (parseMethodDescriptor yX9_takeSign.desc).map (fun d => d.parameters.length) = some 1 := by decide +kernel
theorem kFw_X4_217 : Cond.fieldLink RX4 217 "HalfShop$Word" "WORK" "LHalfShop$Word;" ∈ fx_tb := fx_tb_in (List.mem_of_getElem? (i := 793) (by decide +kernel)) (by decide +kernel)
theorem kFw_X4_220 : Cond.fieldLink RX4 220 "HalfShop$Word" "STOP" "LHalfShop$Word;" ∈ fx_tb := fx_tb_in (List.mem_of_getElem? (i := 795) (by decide +kernel)) (by decide +kernel)
theorem kFw_X4_223 : Cond.fieldLink RX4 223 "HalfShop$Word" "JOIN" "LHalfShop$Word;" ∈ fx_tb := fx_tb_in (List.mem_of_getElem? (i := 797) (by decide +kernel)) (by decide +kernel)
theorem kFw_X4_226 : Cond.fieldLink RX4 226 "HalfShop$Word" "LEND" "LHalfShop$Word;" ∈ fx_tb := fx_tb_in (List.mem_of_getElem? (i := 799) (by decide +kernel)) (by decide +kernel)
theorem kFw_X4_229 : Cond.fieldLink RX4 229 "HalfShop$Word" "WEEK" "LHalfShop$Word;" ∈ fx_tb := fx_tb_in (List.mem_of_getElem? (i := 801) (by decide +kernel)) (by decide +kernel)
theorem kL_X4_209 : Cond.methodLink RX4 209 yX4_deedHere ∈ fx_tb := fx_tb_in (List.mem_of_getElem? (i := 789) (by decide +kernel)) (by decide +kernel)
theorem kI_X4_deedHere : Cond.instanceMethod yX4_deedHere ∈ fx_tb := fx_tb_in (List.mem_of_getElem? (i := 791) (by decide +kernel)) (by decide +kernel)
theorem kS_X4_deedHere : Cond.selects RX4 yX4_deedHere yX4_deedHere ∈ fx_tb := fx_tb_in (List.mem_of_getElem? (i := 21) (by decide +kernel)) (by decide +kernel)
theorem kMV_X4_209 : ∀ w ∈ ([.methodLink RX4 209 yX4_deedHere, .instanceMethod yX4_deedHere, .selects RX4 yX4_deedHere yX4_deedHere, .initialized RX4] : List Cond), w ∈ fx_tb := fx_l4 kL_X4_209 kI_X4_deedHere kS_X4_deedHere kN_X4
theorem kC_X4_deedHere : Cond.code yX4_deedHere cX4_deedHere 1 (some .int) ∈ fx_tb := fx_tb_in (List.mem_of_getElem? (i := 792) (by decide +kernel)) (by decide +kernel)
theorem hd_X4_deedHere : yX4_deedHere.cls = RX4 ∧ yX4_deedHere.cls ≠ "java/lang/invoke/MethodHandle" ∧ yX4_deedHere.cls ≠ "java/lang/invoke/VarHandle" ∧ (parseMethodDescriptor yX4_deedHere.desc).map (fun d => d.parameters.length) = some 0 := by decide +kernel
theorem kF_X4_51 : Cond.fieldLink RX4 51 (TX8 0).1 (TX8 0).2.1 (TX8 0).2.2.1 ∈ fx_tb := fx_tb_in (List.mem_of_getElem? (i := 287) (by decide +kernel)) (by decide +kernel)
theorem kL_X4_213 : Cond.methodLink RX4 213 yX8_put ∈ fx_tb := fx_tb_in (List.mem_of_getElem? (i := 803) (by decide +kernel)) (by decide +kernel)
theorem kMV_X4_213 : ∀ w ∈ ([.methodLink RX4 213 yX8_put, .instanceMethod yX8_put, .selects RX8 yX8_put yX8_put, .initialized RX8] : List Cond), w ∈ fx_tb := fx_l4 kL_X4_213 kI_X8_put kS_X8_put kN_X8
theorem kL_X4_56 : Cond.methodLink RX4 56 yX4_readLine ∈ fx_tb := fx_tb_in (List.mem_of_getElem? (i := 785) (by decide +kernel)) (by decide +kernel)
theorem kI_X4_readLine : Cond.instanceMethod yX4_readLine ∈ fx_tb := fx_tb_in (List.mem_of_getElem? (i := 787) (by decide +kernel)) (by decide +kernel)
theorem kS_X4_readLine : Cond.selects RX4 yX4_readLine yX4_readLine ∈ fx_tb := fx_tb_in (List.mem_of_getElem? (i := 20) (by decide +kernel)) (by decide +kernel)
theorem kMV_X4_56 : ∀ w ∈ ([.methodLink RX4 56 yX4_readLine, .instanceMethod yX4_readLine, .selects RX4 yX4_readLine yX4_readLine, .initialized RX4] : List Cond), w ∈ fx_tb := fx_l4 kL_X4_56 kI_X4_readLine kS_X4_readLine kN_X4
theorem kC_X4_readLine : Cond.code yX4_readLine cX4_readLine 8 (some .boolean) ∈ fx_tb := fx_tb_in (List.mem_of_getElem? (i := 788) (by decide +kernel)) (by decide +kernel)
theorem hd_X4_readLine : yX4_readLine.cls = RX4 ∧ yX4_readLine.cls ≠ "java/lang/invoke/MethodHandle" ∧ yX4_readLine.cls ≠ "java/lang/invoke/VarHandle" ∧ (parseMethodDescriptor yX4_readLine.desc).map (fun d => d.parameters.length) = some 2 := by decide +kernel
theorem kF_X5_19 : Cond.fieldLink RX5 19 (TX5 3).1 (TX5 3).2.1 (TX5 3).2.2.1 ∈ fx_tb := fx_tb_in (List.mem_of_getElem? (i := 225) (by decide +kernel)) (by decide +kernel)
theorem kL_X5_61 : Cond.methodLink RX5 61 yX5_hasWare ∈ fx_tb := fx_tb_in (List.mem_of_getElem? (i := 879) (by decide +kernel)) (by decide +kernel)
theorem kI_X5_hasWare : Cond.instanceMethod yX5_hasWare ∈ fx_tb := fx_tb_in (List.mem_of_getElem? (i := 769) (by decide +kernel)) (by decide +kernel)
theorem kS_X5_hasWare : Cond.selects RX5 yX5_hasWare yX5_hasWare ∈ fx_tb := fx_tb_in (List.mem_of_getElem? (i := 770) (by decide +kernel)) (by decide +kernel)
theorem kMV_X5_61 : ∀ w ∈ ([.methodLink RX5 61 yX5_hasWare, .instanceMethod yX5_hasWare, .selects RX5 yX5_hasWare yX5_hasWare, .initialized RX5] : List Cond), w ∈ fx_tb := fx_l4 kL_X5_61 kI_X5_hasWare kS_X5_hasWare kN_X5
theorem kC_X5_hasWare : Cond.code yX5_hasWare cX5_hasWare 2 (some .boolean) ∈ fx_tb := fx_tb_in (List.mem_of_getElem? (i := 771) (by decide +kernel)) (by decide +kernel)
theorem hd_X5_hasWare : yX5_hasWare.cls = RX5 ∧ yX5_hasWare.cls ≠ "java/lang/invoke/MethodHandle" ∧ yX5_hasWare.cls ≠ "java/lang/invoke/VarHandle" ∧ (parseMethodDescriptor yX5_hasWare.desc).map (fun d => d.parameters.length) = some 1 := by decide +kernel
theorem kL_X5_65 : Cond.methodLink RX5 65 yJ6_bitCount_0f7a4 ∈ fx_tb := fx_tb_in (List.mem_of_getElem? (i := 1060) (by decide +kernel)) (by decide +kernel)
theorem kMS_X5_65 : ∀ w ∈ ([.methodLink RX5 65 yJ6_bitCount_0f7a4, .static yJ6_bitCount_0f7a4, .initialized yJ6_bitCount_0f7a4.cls] : List Cond), w ∈ fx_tb := fx_l3 kL_X5_65 kT_J6_bitCount_0f7a4 kNy_J6_bitCount_0f7a4
theorem kL_X5_71 : Cond.methodLink RX5 71 yX1_value ∈ fx_tb := fx_tb_in (List.mem_of_getElem? (i := 913) (by decide +kernel)) (by decide +kernel)
theorem kI_X1_value : Cond.instanceMethod yX1_value ∈ fx_tb := fx_tb_in (List.mem_of_getElem? (i := 914) (by decide +kernel)) (by decide +kernel)
theorem kS_X1_value : Cond.selects RX1 yX1_value yX1_value ∈ fx_tb := fx_tb_in (List.mem_of_getElem? (i := 915) (by decide +kernel)) (by decide +kernel)
theorem kMV_X5_71 : ∀ w ∈ ([.methodLink RX5 71 yX1_value, .instanceMethod yX1_value, .selects RX1 yX1_value yX1_value, .initialized RX1] : List Cond), w ∈ fx_tb := fx_l4 kL_X5_71 kI_X1_value kS_X1_value kN_X1
theorem kC_X1_value : Cond.code yX1_value cX1_value 8 (some .int) ∈ fx_tb := fx_tb_in (List.mem_of_getElem? (i := 916) (by decide +kernel)) (by decide +kernel)
theorem hd_X1_value : yX1_value.cls = RX1 ∧ yX1_value.cls ≠ "java/lang/invoke/MethodHandle" ∧ yX1_value.cls ≠ "java/lang/invoke/VarHandle" ∧ (parseMethodDescriptor yX1_value.desc).map (fun d => d.parameters.length) = some 4 := by decide +kernel
theorem kL_X5_75 : Cond.methodLink RX5 75 Lib.Math.min.name ∈ fx_tb := fx_tb_in (List.mem_of_getElem? (i := 926) (by decide +kernel)) (by decide +kernel)
theorem kL_X5_81 : Cond.methodLink RX5 81 Lib.Math.max.name ∈ fx_tb := fx_tb_in (List.mem_of_getElem? (i := 927) (by decide +kernel)) (by decide +kernel)
theorem kL_X6_34 : Cond.methodLink RX6 34 yX5_weekWork ∈ fx_tb := fx_tb_in (List.mem_of_getElem? (i := 1093) (by decide +kernel)) (by decide +kernel)
theorem kI_X5_weekWork : Cond.instanceMethod yX5_weekWork ∈ fx_tb := fx_tb_in (List.mem_of_getElem? (i := 910) (by decide +kernel)) (by decide +kernel)
theorem kS_X5_weekWork : Cond.selects RX5 yX5_weekWork yX5_weekWork ∈ fx_tb := fx_tb_in (List.mem_of_getElem? (i := 911) (by decide +kernel)) (by decide +kernel)
theorem kMV_X6_34 : ∀ w ∈ ([.methodLink RX6 34 yX5_weekWork, .instanceMethod yX5_weekWork, .selects RX5 yX5_weekWork yX5_weekWork, .initialized RX5] : List Cond), w ∈ fx_tb := fx_l4 kL_X6_34 kI_X5_weekWork kS_X5_weekWork kN_X5
theorem kC_X5_weekWork : Cond.code yX5_weekWork cX5_weekWork 7 (some .int) ∈ fx_tb := fx_tb_in (List.mem_of_getElem? (i := 912) (by decide +kernel)) (by decide +kernel)
theorem hd_X5_weekWork : yX5_weekWork.cls = RX5 ∧ yX5_weekWork.cls ≠ "java/lang/invoke/MethodHandle" ∧ yX5_weekWork.cls ≠ "java/lang/invoke/VarHandle" ∧ (parseMethodDescriptor yX5_weekWork.desc).map (fun d => d.parameters.length) = some 5 := by decide +kernel
theorem kF_X6_19 : Cond.fieldLink RX6 19 (TX6 3).1 (TX6 3).2.1 (TX6 3).2.2.1 ∈ fx_tb := fx_tb_in (List.mem_of_getElem? (i := 345) (by decide +kernel)) (by decide +kernel)
theorem kL_X6_30 : Cond.methodLink RX6 30 yX6_weeksTo ∈ fx_tb := fx_tb_in (List.mem_of_getElem? (i := 1090) (by decide +kernel)) (by decide +kernel)
theorem kT_X6_weeksTo : Cond.static yX6_weeksTo ∈ fx_tb := fx_tb_in (List.mem_of_getElem? (i := 1091) (by decide +kernel)) (by decide +kernel)
theorem kNy_X6_weeksTo : Cond.initialized yX6_weeksTo.cls ∈ fx_tb := fx_tb_in (List.mem_of_getElem? (i := 103) (by decide +kernel)) (by decide +kernel)
theorem kMS_X6_30 : ∀ w ∈ ([.methodLink RX6 30 yX6_weeksTo, .static yX6_weeksTo, .initialized yX6_weeksTo.cls] : List Cond), w ∈ fx_tb := fx_l3 kL_X6_30 kT_X6_weeksTo kNy_X6_weeksTo
theorem kC_X6_weeksTo : Cond.code yX6_weeksTo cX6_weeksTo 5 (some .int) ∈ fx_tb := fx_tb_in (List.mem_of_getElem? (i := 1092) (by decide +kernel)) (by decide +kernel)
theorem hd_X6_weeksTo : yX6_weeksTo.cls = RX6 ∧ yX6_weeksTo.cls ≠ "java/lang/invoke/MethodHandle" ∧ yX6_weeksTo.cls ≠ "java/lang/invoke/VarHandle" ∧ (parseMethodDescriptor yX6_weeksTo.desc).map (fun d => d.parameters.length) = some 3 := by decide +kernel
theorem kL_X6_50 : Cond.methodLink RX6 50 yX6_allows ∈ fx_tb := fx_tb_in (List.mem_of_getElem? (i := 1110) (by decide +kernel)) (by decide +kernel)
theorem kI_X6_allows : Cond.instanceMethod yX6_allows ∈ fx_tb := fx_tb_in (List.mem_of_getElem? (i := 1095) (by decide +kernel)) (by decide +kernel)
theorem kS_X6_allows : Cond.selects RX6 yX6_allows yX6_allows ∈ fx_tb := fx_tb_in (List.mem_of_getElem? (i := 1096) (by decide +kernel)) (by decide +kernel)
theorem kMV_X6_50 : ∀ w ∈ ([.methodLink RX6 50 yX6_allows, .instanceMethod yX6_allows, .selects RX6 yX6_allows yX6_allows, .initialized RX6] : List Cond), w ∈ fx_tb := fx_l4 kL_X6_50 kI_X6_allows kS_X6_allows kN_X6
theorem kC_X6_allows : Cond.code yX6_allows cX6_allows 3 (some .boolean) ∈ fx_tb := fx_tb_in (List.mem_of_getElem? (i := 1097) (by decide +kernel)) (by decide +kernel)
theorem hd_X6_allows : yX6_allows.cls = RX6 ∧ yX6_allows.cls ≠ "java/lang/invoke/MethodHandle" ∧ yX6_allows.cls ≠ "java/lang/invoke/VarHandle" ∧ (parseMethodDescriptor yX6_allows.desc).map (fun d => d.parameters.length) = some 1 := by decide +kernel
theorem kL_X6_40 : Cond.methodLink RX6 40 yX6_allowedBy ∈ fx_tb := fx_tb_in (List.mem_of_getElem? (i := 1106) (by decide +kernel)) (by decide +kernel)
theorem kI_X6_allowedBy : Cond.instanceMethod yX6_allowedBy ∈ fx_tb := fx_tb_in (List.mem_of_getElem? (i := 1108) (by decide +kernel)) (by decide +kernel)
theorem kS_X6_allowedBy : Cond.selects RX6 yX6_allowedBy yX6_allowedBy ∈ fx_tb := fx_tb_in (List.mem_of_getElem? (i := 26) (by decide +kernel)) (by decide +kernel)
theorem kMV_X6_40 : ∀ w ∈ ([.methodLink RX6 40 yX6_allowedBy, .instanceMethod yX6_allowedBy, .selects RX6 yX6_allowedBy yX6_allowedBy, .initialized RX6] : List Cond), w ∈ fx_tb := fx_l4 kL_X6_40 kI_X6_allowedBy kS_X6_allowedBy kN_X6
theorem kC_X6_allowedBy : Cond.code yX6_allowedBy cX6_allowedBy 4 (some .int) ∈ fx_tb := fx_tb_in (List.mem_of_getElem? (i := 1109) (by decide +kernel)) (by decide +kernel)
theorem hd_X6_allowedBy : yX6_allowedBy.cls = RX6 ∧ yX6_allowedBy.cls ≠ "java/lang/invoke/MethodHandle" ∧ yX6_allowedBy.cls ≠ "java/lang/invoke/VarHandle" ∧ (parseMethodDescriptor yX6_allowedBy.desc).map (fun d => d.parameters.length) = some 1 := by decide +kernel
theorem kL_X6_44 : Cond.methodLink RX6 44 Lib.Math.max.name ∈ fx_tb := fx_tb_in (List.mem_of_getElem? (i := 1111) (by decide +kernel)) (by decide +kernel)
theorem kL_X7_27 : Cond.methodLink RX7 27 yX5_hasParty ∈ fx_tb := fx_tb_in (List.mem_of_getElem? (i := 772) (by decide +kernel)) (by decide +kernel)
theorem kI_X5_hasParty : Cond.instanceMethod yX5_hasParty ∈ fx_tb := fx_tb_in (List.mem_of_getElem? (i := 773) (by decide +kernel)) (by decide +kernel)
theorem kS_X5_hasParty : Cond.selects RX5 yX5_hasParty yX5_hasParty ∈ fx_tb := fx_tb_in (List.mem_of_getElem? (i := 774) (by decide +kernel)) (by decide +kernel)
theorem kMV_X7_27 : ∀ w ∈ ([.methodLink RX7 27 yX5_hasParty, .instanceMethod yX5_hasParty, .selects RX5 yX5_hasParty yX5_hasParty, .initialized RX5] : List Cond), w ∈ fx_tb := fx_l4 kL_X7_27 kI_X5_hasParty kS_X5_hasParty kN_X5
theorem kC_X5_hasParty : Cond.code yX5_hasParty cX5_hasParty 2 (some .boolean) ∈ fx_tb := fx_tb_in (List.mem_of_getElem? (i := 775) (by decide +kernel)) (by decide +kernel)
theorem hd_X5_hasParty : yX5_hasParty.cls = RX5 ∧ yX5_hasParty.cls ≠ "java/lang/invoke/MethodHandle" ∧ yX5_hasParty.cls ≠ "java/lang/invoke/VarHandle" ∧ (parseMethodDescriptor yX5_hasParty.desc).map (fun d => d.parameters.length) = some 1 := by decide +kernel
theorem kF_X7_30 : Cond.fieldLink RX7 30 (TX5 7).1 (TX5 7).2.1 (TX5 7).2.2.1 ∈ fx_tb := fx_tb_in (List.mem_of_getElem? (i := 238) (by decide +kernel)) (by decide +kernel)
theorem kL_X7_18 : Cond.methodLink RX7 18 yX5_hasWare ∈ fx_tb := fx_tb_in (List.mem_of_getElem? (i := 768) (by decide +kernel)) (by decide +kernel)
theorem kMV_X7_18 : ∀ w ∈ ([.methodLink RX7 18 yX5_hasWare, .instanceMethod yX5_hasWare, .selects RX5 yX5_hasWare yX5_hasWare, .initialized RX5] : List Cond), w ∈ fx_tb := fx_l4 kL_X7_18 kI_X5_hasWare kS_X5_hasWare kN_X5
theorem kF_X7_24 : Cond.fieldLink RX7 24 (TX5 4).1 (TX5 4).2.1 (TX5 4).2.2.1 ∈ fx_tb := fx_tb_in (List.mem_of_getElem? (i := 229) (by decide +kernel)) (by decide +kernel)
theorem kL_X7_43 : Cond.methodLink RX7 43 yX5_halfOf ∈ fx_tb := fx_tb_in (List.mem_of_getElem? (i := 856) (by decide +kernel)) (by decide +kernel)
theorem kI_X5_halfOf : Cond.instanceMethod yX5_halfOf ∈ fx_tb := fx_tb_in (List.mem_of_getElem? (i := 813) (by decide +kernel)) (by decide +kernel)
theorem kS_X5_halfOf : Cond.selects RX5 yX5_halfOf yX5_halfOf ∈ fx_tb := fx_tb_in (List.mem_of_getElem? (i := 814) (by decide +kernel)) (by decide +kernel)
theorem kMV_X7_43 : ∀ w ∈ ([.methodLink RX7 43 yX5_halfOf, .instanceMethod yX5_halfOf, .selects RX5 yX5_halfOf yX5_halfOf, .initialized RX5] : List Cond), w ∈ fx_tb := fx_l4 kL_X7_43 kI_X5_halfOf kS_X5_halfOf kN_X5
theorem kC_X5_halfOf : Cond.code yX5_halfOf cX5_halfOf 2 (some .int) ∈ fx_tb := fx_tb_in (List.mem_of_getElem? (i := 815) (by decide +kernel)) (by decide +kernel)
theorem hd_X5_halfOf : yX5_halfOf.cls = RX5 ∧ yX5_halfOf.cls ≠ "java/lang/invoke/MethodHandle" ∧ yX5_halfOf.cls ≠ "java/lang/invoke/VarHandle" ∧ (parseMethodDescriptor yX5_halfOf.desc).map (fun d => d.parameters.length) = some 1 := by decide +kernel
theorem kL_X7_47 : Cond.methodLink RX7 47 Lib.Math.min.name ∈ fx_tb := fx_tb_in (List.mem_of_getElem? (i := 857) (by decide +kernel)) (by decide +kernel)
theorem kL_X7_53 : Cond.methodLink RX7 53 Lib.Math.max.name ∈ fx_tb := fx_tb_in (List.mem_of_getElem? (i := 858) (by decide +kernel)) (by decide +kernel)
theorem kF_X7_56 : Cond.fieldLink RX7 56 (TX5 9).1 (TX5 9).2.1 (TX5 9).2.2.1 ∈ fx_tb := fx_tb_in (List.mem_of_getElem? (i := 244) (by decide +kernel)) (by decide +kernel)
theorem kL_X7_59 : Cond.methodLink RX7 59 yX5_couldPair ∈ fx_tb := fx_tb_in (List.mem_of_getElem? (i := 875) (by decide +kernel)) (by decide +kernel)
theorem kI_X5_couldPair : Cond.instanceMethod yX5_couldPair ∈ fx_tb := fx_tb_in (List.mem_of_getElem? (i := 876) (by decide +kernel)) (by decide +kernel)
theorem kS_X5_couldPair : Cond.selects RX5 yX5_couldPair yX5_couldPair ∈ fx_tb := fx_tb_in (List.mem_of_getElem? (i := 877) (by decide +kernel)) (by decide +kernel)
theorem kMV_X7_59 : ∀ w ∈ ([.methodLink RX7 59 yX5_couldPair, .instanceMethod yX5_couldPair, .selects RX5 yX5_couldPair yX5_couldPair, .initialized RX5] : List Cond), w ∈ fx_tb := fx_l4 kL_X7_59 kI_X5_couldPair kS_X5_couldPair kN_X5
theorem kC_X5_couldPair : Cond.code yX5_couldPair cX5_couldPair 3 (some .boolean) ∈ fx_tb := fx_tb_in (List.mem_of_getElem? (i := 878) (by decide +kernel)) (by decide +kernel)
theorem hd_X5_couldPair : yX5_couldPair.cls = RX5 ∧ yX5_couldPair.cls ≠ "java/lang/invoke/MethodHandle" ∧ yX5_couldPair.cls ≠ "java/lang/invoke/VarHandle" ∧ (parseMethodDescriptor yX5_couldPair.desc).map (fun d => d.parameters.length) = some 2 := by decide +kernel
theorem kL_X7_63 : Cond.methodLink RX7 63 yX7_isHalf ∈ fx_tb := fx_tb_in (List.mem_of_getElem? (i := 880) (by decide +kernel)) (by decide +kernel)
theorem kI_X7_isHalf : Cond.instanceMethod yX7_isHalf ∈ fx_tb := fx_tb_in (List.mem_of_getElem? (i := 881) (by decide +kernel)) (by decide +kernel)
theorem kS_X7_isHalf : Cond.selects RX7 yX7_isHalf yX7_isHalf ∈ fx_tb := fx_tb_in (List.mem_of_getElem? (i := 882) (by decide +kernel)) (by decide +kernel)
theorem kMV_X7_63 : ∀ w ∈ ([.methodLink RX7 63 yX7_isHalf, .instanceMethod yX7_isHalf, .selects RX7 yX7_isHalf yX7_isHalf, .initialized RX7] : List Cond), w ∈ fx_tb := fx_l4 kL_X7_63 kI_X7_isHalf kS_X7_isHalf kN_X7
theorem kC_X7_isHalf : Cond.code yX7_isHalf cX7_isHalf 3 (some .boolean) ∈ fx_tb := fx_tb_in (List.mem_of_getElem? (i := 883) (by decide +kernel)) (by decide +kernel)
theorem hd_X7_isHalf : yX7_isHalf.cls = RX7 ∧ yX7_isHalf.cls ≠ "java/lang/invoke/MethodHandle" ∧ yX7_isHalf.cls ≠ "java/lang/invoke/VarHandle" ∧ (parseMethodDescriptor yX7_isHalf.desc).map (fun d => d.parameters.length) = some 2 := by decide +kernel
theorem kF_X7_123 : Cond.fieldLink RX7 123 (TX5 5).1 (TX5 5).2.1 (TX5 5).2.2.1 ∈ fx_tb := fx_tb_in (List.mem_of_getElem? (i := 233) (by decide +kernel)) (by decide +kernel)
theorem kL_X7_126 : Cond.methodLink RX7 126 yX5_isFor ∈ fx_tb := fx_tb_in (List.mem_of_getElem? (i := 820) (by decide +kernel)) (by decide +kernel)
theorem kMV_X7_126 : ∀ w ∈ ([.methodLink RX7 126 yX5_isFor, .instanceMethod yX5_isFor, .selects RX5 yX5_isFor yX5_isFor, .initialized RX5] : List Cond), w ∈ fx_tb := fx_l4 kL_X7_126 kI_X5_isFor kS_X5_isFor kN_X5
theorem kF_X7_67 : Cond.fieldLink RX7 67 (TX5 0).1 (TX5 0).2.1 (TX5 0).2.2.1 ∈ fx_tb := fx_tb_in (List.mem_of_getElem? (i := 217) (by decide +kernel)) (by decide +kernel)
theorem kL_X7_70 : Cond.methodLink RX7 70 yX7_votesFor ∈ fx_tb := fx_tb_in (List.mem_of_getElem? (i := 908) (by decide +kernel)) (by decide +kernel)
theorem kI_X7_votesFor : Cond.instanceMethod yX7_votesFor ∈ fx_tb := fx_tb_in (List.mem_of_getElem? (i := 817) (by decide +kernel)) (by decide +kernel)
theorem kS_X7_votesFor : Cond.selects RX7 yX7_votesFor yX7_votesFor ∈ fx_tb := fx_tb_in (List.mem_of_getElem? (i := 818) (by decide +kernel)) (by decide +kernel)
theorem kMV_X7_70 : ∀ w ∈ ([.methodLink RX7 70 yX7_votesFor, .instanceMethod yX7_votesFor, .selects RX7 yX7_votesFor yX7_votesFor, .initialized RX7] : List Cond), w ∈ fx_tb := fx_l4 kL_X7_70 kI_X7_votesFor kS_X7_votesFor kN_X7
theorem kC_X7_votesFor : Cond.code yX7_votesFor cX7_votesFor 5 (some .int) ∈ fx_tb := fx_tb_in (List.mem_of_getElem? (i := 819) (by decide +kernel)) (by decide +kernel)
theorem hd_X7_votesFor : yX7_votesFor.cls = RX7 ∧ yX7_votesFor.cls ≠ "java/lang/invoke/MethodHandle" ∧ yX7_votesFor.cls ≠ "java/lang/invoke/VarHandle" ∧ (parseMethodDescriptor yX7_votesFor.desc).map (fun d => d.parameters.length) = some 2 := by decide +kernel
theorem kF_X7_74 : Cond.fieldLink RX7 74 (TX5 2).1 (TX5 2).2.1 (TX5 2).2.2.1 ∈ fx_tb := fx_tb_in (List.mem_of_getElem? (i := 224) (by decide +kernel)) (by decide +kernel)
theorem kL_X7_77 : Cond.methodLink RX7 77 yX5_weekWork ∈ fx_tb := fx_tb_in (List.mem_of_getElem? (i := 909) (by decide +kernel)) (by decide +kernel)
theorem kMV_X7_77 : ∀ w ∈ ([.methodLink RX7 77 yX5_weekWork, .instanceMethod yX5_weekWork, .selects RX5 yX5_weekWork yX5_weekWork, .initialized RX5] : List Cond), w ∈ fx_tb := fx_l4 kL_X7_77 kI_X5_weekWork kS_X5_weekWork kN_X5
theorem kL_X7_81 : Cond.methodLink RX7 81 yX7_workOn ∈ fx_tb := fx_tb_in (List.mem_of_getElem? (i := 928) (by decide +kernel)) (by decide +kernel)
theorem kI_X7_workOn : Cond.instanceMethod yX7_workOn ∈ fx_tb := fx_tb_in (List.mem_of_getElem? (i := 853) (by decide +kernel)) (by decide +kernel)
theorem kS_X7_workOn : Cond.selects RX7 yX7_workOn yX7_workOn ∈ fx_tb := fx_tb_in (List.mem_of_getElem? (i := 854) (by decide +kernel)) (by decide +kernel)
theorem kMV_X7_81 : ∀ w ∈ ([.methodLink RX7 81 yX7_workOn, .instanceMethod yX7_workOn, .selects RX7 yX7_workOn yX7_workOn, .initialized RX7] : List Cond), w ∈ fx_tb := fx_l4 kL_X7_81 kI_X7_workOn kS_X7_workOn kN_X7
theorem kC_X7_workOn : Cond.code yX7_workOn cX7_workOn 7 (some .int) ∈ fx_tb := fx_tb_in (List.mem_of_getElem? (i := 855) (by decide +kernel)) (by decide +kernel)
theorem hd_X7_workOn : yX7_workOn.cls = RX7 ∧ yX7_workOn.cls ≠ "java/lang/invoke/MethodHandle" ∧ yX7_workOn.cls ≠ "java/lang/invoke/VarHandle" ∧ (parseMethodDescriptor yX7_workOn.desc).map (fun d => d.parameters.length) = some 3 := by decide +kernel
theorem kF_X7_85 : Cond.fieldLink RX7 85 (TX8 2).1 (TX8 2).2.1 (TX8 2).2.2.1 ∈ fx_tb := fx_tb_in (List.mem_of_getElem? (i := 292) (by decide +kernel)) (by decide +kernel)
theorem kF_X7_90 : Cond.fieldLink RX7 90 (TX8 3).1 (TX8 3).2.1 (TX8 3).2.2.1 ∈ fx_tb := fx_tb_in (List.mem_of_getElem? (i := 294) (by decide +kernel)) (by decide +kernel)
theorem kF_X7_93 : Cond.fieldLink RX7 93 (TX8 4).1 (TX8 4).2.1 (TX8 4).2.2.1 ∈ fx_tb := fx_tb_in (List.mem_of_getElem? (i := 296) (by decide +kernel)) (by decide +kernel)
theorem kF_X7_96 : Cond.fieldLink RX7 96 (TX8 1).1 (TX8 1).2.1 (TX8 1).2.2.1 ∈ fx_tb := fx_tb_in (List.mem_of_getElem? (i := 290) (by decide +kernel)) (by decide +kernel)
theorem kL_X7_99 : Cond.methodLink RX7 99 yX7_takeOff ∈ fx_tb := fx_tb_in (List.mem_of_getElem? (i := 941) (by decide +kernel)) (by decide +kernel)
theorem kI_X7_takeOff : Cond.instanceMethod yX7_takeOff ∈ fx_tb := fx_tb_in (List.mem_of_getElem? (i := 864) (by decide +kernel)) (by decide +kernel)
theorem kS_X7_takeOff : Cond.selects RX7 yX7_takeOff yX7_takeOff ∈ fx_tb := fx_tb_in (List.mem_of_getElem? (i := 865) (by decide +kernel)) (by decide +kernel)
theorem kMV_X7_99 : ∀ w ∈ ([.methodLink RX7 99 yX7_takeOff, .instanceMethod yX7_takeOff, .selects RX7 yX7_takeOff yX7_takeOff, .initialized RX7] : List Cond), w ∈ fx_tb := fx_l4 kL_X7_99 kI_X7_takeOff kS_X7_takeOff kN_X7
theorem kC_X7_takeOff : Cond.code yX7_takeOff cX7_takeOff 3 none ∈ fx_tb := fx_tb_in (List.mem_of_getElem? (i := 866) (by decide +kernel)) (by decide +kernel)
theorem hd_X7_takeOff : yX7_takeOff.cls = RX7 ∧ yX7_takeOff.cls ≠ "java/lang/invoke/MethodHandle" ∧ yX7_takeOff.cls ≠ "java/lang/invoke/VarHandle" ∧ (parseMethodDescriptor yX7_takeOff.desc).map (fun d => d.parameters.length) = some 2 := by decide +kernel
theorem kL_X7_103 : Cond.methodLink RX7 103 yX7_canJoin ∈ fx_tb := fx_tb_in (List.mem_of_getElem? (i := 942) (by decide +kernel)) (by decide +kernel)
theorem kI_X7_canJoin : Cond.instanceMethod yX7_canJoin ∈ fx_tb := fx_tb_in (List.mem_of_getElem? (i := 872) (by decide +kernel)) (by decide +kernel)
theorem kS_X7_canJoin : Cond.selects RX7 yX7_canJoin yX7_canJoin ∈ fx_tb := fx_tb_in (List.mem_of_getElem? (i := 873) (by decide +kernel)) (by decide +kernel)
theorem kMV_X7_103 : ∀ w ∈ ([.methodLink RX7 103 yX7_canJoin, .instanceMethod yX7_canJoin, .selects RX7 yX7_canJoin yX7_canJoin, .initialized RX7] : List Cond), w ∈ fx_tb := fx_l4 kL_X7_103 kI_X7_canJoin kS_X7_canJoin kN_X7
theorem kC_X7_canJoin : Cond.code yX7_canJoin cX7_canJoin 4 (some .boolean) ∈ fx_tb := fx_tb_in (List.mem_of_getElem? (i := 874) (by decide +kernel)) (by decide +kernel)
theorem hd_X7_canJoin : yX7_canJoin.cls = RX7 ∧ yX7_canJoin.cls ≠ "java/lang/invoke/MethodHandle" ∧ yX7_canJoin.cls ≠ "java/lang/invoke/VarHandle" ∧ (parseMethodDescriptor yX7_canJoin.desc).map (fun d => d.parameters.length) = some 3 := by decide +kernel
theorem kL_X7_107 : Cond.methodLink RX7 107 yX7_arrest ∈ fx_tb := fx_tb_in (List.mem_of_getElem? (i := 943) (by decide +kernel)) (by decide +kernel)
theorem kI_X7_arrest : Cond.instanceMethod yX7_arrest ∈ fx_tb := fx_tb_in (List.mem_of_getElem? (i := 885) (by decide +kernel)) (by decide +kernel)
theorem kS_X7_arrest : Cond.selects RX7 yX7_arrest yX7_arrest ∈ fx_tb := fx_tb_in (List.mem_of_getElem? (i := 886) (by decide +kernel)) (by decide +kernel)
theorem kMV_X7_107 : ∀ w ∈ ([.methodLink RX7 107 yX7_arrest, .instanceMethod yX7_arrest, .selects RX7 yX7_arrest yX7_arrest, .initialized RX7] : List Cond), w ∈ fx_tb := fx_l4 kL_X7_107 kI_X7_arrest kS_X7_arrest kN_X7
theorem kC_X7_arrest : Cond.code yX7_arrest cX7_arrest 4 none ∈ fx_tb := fx_tb_in (List.mem_of_getElem? (i := 887) (by decide +kernel)) (by decide +kernel)
theorem hd_X7_arrest : yX7_arrest.cls = RX7 ∧ yX7_arrest.cls ≠ "java/lang/invoke/MethodHandle" ∧ yX7_arrest.cls ≠ "java/lang/invoke/VarHandle" ∧ (parseMethodDescriptor yX7_arrest.desc).map (fun d => d.parameters.length) = some 3 := by decide +kernel
theorem kL_X7_111 : Cond.methodLink RX7 111 yX7_canLend ∈ fx_tb := fx_tb_in (List.mem_of_getElem? (i := 944) (by decide +kernel)) (by decide +kernel)
theorem kI_X7_canLend : Cond.instanceMethod yX7_canLend ∈ fx_tb := fx_tb_in (List.mem_of_getElem? (i := 893) (by decide +kernel)) (by decide +kernel)
theorem kS_X7_canLend : Cond.selects RX7 yX7_canLend yX7_canLend ∈ fx_tb := fx_tb_in (List.mem_of_getElem? (i := 894) (by decide +kernel)) (by decide +kernel)
theorem kMV_X7_111 : ∀ w ∈ ([.methodLink RX7 111 yX7_canLend, .instanceMethod yX7_canLend, .selects RX7 yX7_canLend yX7_canLend, .initialized RX7] : List Cond), w ∈ fx_tb := fx_l4 kL_X7_111 kI_X7_canLend kS_X7_canLend kN_X7
theorem kC_X7_canLend : Cond.code yX7_canLend cX7_canLend 5 (some .boolean) ∈ fx_tb := fx_tb_in (List.mem_of_getElem? (i := 895) (by decide +kernel)) (by decide +kernel)
theorem hd_X7_canLend : yX7_canLend.cls = RX7 ∧ yX7_canLend.cls ≠ "java/lang/invoke/MethodHandle" ∧ yX7_canLend.cls ≠ "java/lang/invoke/VarHandle" ∧ (parseMethodDescriptor yX7_canLend.desc).map (fun d => d.parameters.length) = some 4 := by decide +kernel
theorem kL_X7_115 : Cond.methodLink RX7 115 yX7_moveSeats ∈ fx_tb := fx_tb_in (List.mem_of_getElem? (i := 945) (by decide +kernel)) (by decide +kernel)
theorem kI_X7_moveSeats : Cond.instanceMethod yX7_moveSeats ∈ fx_tb := fx_tb_in (List.mem_of_getElem? (i := 897) (by decide +kernel)) (by decide +kernel)
theorem kS_X7_moveSeats : Cond.selects RX7 yX7_moveSeats yX7_moveSeats ∈ fx_tb := fx_tb_in (List.mem_of_getElem? (i := 898) (by decide +kernel)) (by decide +kernel)
theorem kMV_X7_115 : ∀ w ∈ ([.methodLink RX7 115 yX7_moveSeats, .instanceMethod yX7_moveSeats, .selects RX7 yX7_moveSeats yX7_moveSeats, .initialized RX7] : List Cond), w ∈ fx_tb := fx_l4 kL_X7_115 kI_X7_moveSeats kS_X7_moveSeats kN_X7
theorem kC_X7_moveSeats : Cond.code yX7_moveSeats cX7_moveSeats 4 none ∈ fx_tb := fx_tb_in (List.mem_of_getElem? (i := 899) (by decide +kernel)) (by decide +kernel)
theorem hd_X7_moveSeats : yX7_moveSeats.cls = RX7 ∧ yX7_moveSeats.cls ≠ "java/lang/invoke/MethodHandle" ∧ yX7_moveSeats.cls ≠ "java/lang/invoke/VarHandle" ∧ (parseMethodDescriptor yX7_moveSeats.desc).map (fun d => d.parameters.length) = some 3 := by decide +kernel
theorem kL_X7_119 : Cond.methodLink RX7 119 yX7_passWeek ∈ fx_tb := fx_tb_in (List.mem_of_getElem? (i := 946) (by decide +kernel)) (by decide +kernel)
theorem kI_X7_passWeek : Cond.instanceMethod yX7_passWeek ∈ fx_tb := fx_tb_in (List.mem_of_getElem? (i := 905) (by decide +kernel)) (by decide +kernel)
theorem kS_X7_passWeek : Cond.selects RX7 yX7_passWeek yX7_passWeek ∈ fx_tb := fx_tb_in (List.mem_of_getElem? (i := 906) (by decide +kernel)) (by decide +kernel)
theorem kMV_X7_119 : ∀ w ∈ ([.methodLink RX7 119 yX7_passWeek, .instanceMethod yX7_passWeek, .selects RX7 yX7_passWeek yX7_passWeek, .initialized RX7] : List Cond), w ∈ fx_tb := fx_l4 kL_X7_119 kI_X7_passWeek kS_X7_passWeek kN_X7
theorem kC_X7_passWeek : Cond.code yX7_passWeek cX7_passWeek 6 (some .int) ∈ fx_tb := fx_tb_in (List.mem_of_getElem? (i := 907) (by decide +kernel)) (by decide +kernel)
theorem hd_X7_passWeek : yX7_passWeek.cls = RX7 ∧ yX7_passWeek.cls ≠ "java/lang/invoke/MethodHandle" ∧ yX7_passWeek.cls ≠ "java/lang/invoke/VarHandle" ∧ (parseMethodDescriptor yX7_passWeek.desc).map (fun d => d.parameters.length) = some 1 := by decide +kernel
theorem kL_X7_129 : Cond.methodLink RX7 129 yX7_allSeats ∈ fx_tb := fx_tb_in (List.mem_of_getElem? (i := 1050) (by decide +kernel)) (by decide +kernel)
theorem kI_X7_allSeats : Cond.instanceMethod yX7_allSeats ∈ fx_tb := fx_tb_in (List.mem_of_getElem? (i := 822) (by decide +kernel)) (by decide +kernel)
theorem kS_X7_allSeats : Cond.selects RX7 yX7_allSeats yX7_allSeats ∈ fx_tb := fx_tb_in (List.mem_of_getElem? (i := 823) (by decide +kernel)) (by decide +kernel)
theorem kMV_X7_129 : ∀ w ∈ ([.methodLink RX7 129 yX7_allSeats, .instanceMethod yX7_allSeats, .selects RX7 yX7_allSeats yX7_allSeats, .initialized RX7] : List Cond), w ∈ fx_tb := fx_l4 kL_X7_129 kI_X7_allSeats kS_X7_allSeats kN_X7
theorem kC_X7_allSeats : Cond.code yX7_allSeats cX7_allSeats 3 (some .int) ∈ fx_tb := fx_tb_in (List.mem_of_getElem? (i := 824) (by decide +kernel)) (by decide +kernel)
theorem hd_X7_allSeats : yX7_allSeats.cls = RX7 ∧ yX7_allSeats.cls ≠ "java/lang/invoke/MethodHandle" ∧ yX7_allSeats.cls ≠ "java/lang/invoke/VarHandle" ∧ (parseMethodDescriptor yX7_allSeats.desc).map (fun d => d.parameters.length) = some 0 := by decide +kernel
theorem kT_X11_standing : Cond.static yX11_standing ∈ fx_tb := fx_tb_in (List.mem_of_getElem? (i := 826) (by decide +kernel)) (by decide +kernel)
theorem kNy_X11_standing : Cond.initialized yX11_standing.cls ∈ fx_tb := fx_tb_in (List.mem_of_getElem? (i := 95) (by decide +kernel)) (by decide +kernel)
theorem kSN_X11_standing : ∀ w ∈ ([.static yX11_standing, .initialized yX11_standing.cls] : List Cond), w ∈ fx_tb := fx_l2 kT_X11_standing kNy_X11_standing
theorem kC_X11_standing : Cond.code yX11_standing cX11_standing 2 (some .int) ∈ fx_tb := fx_tb_in (List.mem_of_getElem? (i := 827) (by decide +kernel)) (by decide +kernel)
theorem hd_X11_standing : yX11_standing.cls = RX11 ∧ yX11_standing.cls ≠ "java/lang/invoke/MethodHandle" ∧ yX11_standing.cls ≠ "java/lang/invoke/VarHandle" ∧ (parseMethodDescriptor yX11_standing.desc).map (fun d => d.parameters.length) = some 2 := by decide +kernel
theorem kK_X9_15 : Cond.constantLong RX9 15 255 ∈ fx_tb := fx_tb_in (List.mem_of_getElem? (i := 454) (by decide +kernel)) (by decide +kernel)
theorem kL_X9_17 : Cond.methodLink RX9 17 yX9_putSign ∈ fx_tb := fx_tb_in (List.mem_of_getElem? (i := 455) (by decide +kernel)) (by decide +kernel)
theorem kI_X9_putSign : Cond.instanceMethod yX9_putSign ∈ fx_tb := fx_tb_in (List.mem_of_getElem? (i := 457) (by decide +kernel)) (by decide +kernel)
theorem kS_X9_putSign : Cond.selects RX9 yX9_putSign yX9_putSign ∈ fx_tb := fx_tb_in (List.mem_of_getElem? (i := 0) (by decide +kernel)) (by decide +kernel)
theorem kMV_X9_17 : ∀ w ∈ ([.methodLink RX9 17 yX9_putSign, .instanceMethod yX9_putSign, .selects RX9 yX9_putSign yX9_putSign, .initialized RX9] : List Cond), w ∈ fx_tb := fx_l4 kL_X9_17 kI_X9_putSign kS_X9_putSign kN_X9
theorem kC_X9_putSign : Cond.code yX9_putSign cX9_putSign 3 none ∈ fx_tb := fx_tb_in (List.mem_of_getElem? (i := 458) (by decide +kernel)) (by decide +kernel)
theorem hd_X9_putSign : yX9_putSign.cls = RX9 ∧ yX9_putSign.cls ≠ "java/lang/invoke/MethodHandle" ∧ yX9_putSign.cls ≠ "java/lang/invoke/VarHandle" ∧ (parseMethodDescriptor yX9_putSign.desc).map (fun d => d.parameters.length) = some 1 := by decide +kernel
theorem inT_X11 : ∀ w ∈ u_ws RX11 TX11 14, w ∈ fx_tb := fx_inws [417, 419, 421, 423, 425, 427, 429, 431, 433, 435, 437, 439, 441, 443] (by decide +kernel)
theorem kF_X11_10 : Cond.fieldLink RX11 10 (TX11 0).1 (TX11 0).2.1 (TX11 0).2.2.1 ∈ fx_tb := fx_tb_in (List.mem_of_getElem? (i := 403) (by decide +kernel)) (by decide +kernel)
theorem kL_X11_80 : Cond.methodLink RX11 80 yX9_putBytes ∈ fx_tb := fx_tb_in (List.mem_of_getElem? (i := 450) (by decide +kernel)) (by decide +kernel)
theorem kI_X9_putBytes : Cond.instanceMethod yX9_putBytes ∈ fx_tb := fx_tb_in (List.mem_of_getElem? (i := 451) (by decide +kernel)) (by decide +kernel)
theorem kS_X9_putBytes : Cond.selects RX9 yX9_putBytes yX9_putBytes ∈ fx_tb := fx_tb_in (List.mem_of_getElem? (i := 452) (by decide +kernel)) (by decide +kernel)
theorem kMV_X11_80 : ∀ w ∈ ([.methodLink RX11 80 yX9_putBytes, .instanceMethod yX9_putBytes, .selects RX9 yX9_putBytes yX9_putBytes, .initialized RX9] : List Cond), w ∈ fx_tb := fx_l4 kL_X11_80 kI_X9_putBytes kS_X9_putBytes kN_X9
theorem kC_X9_putBytes : Cond.code yX9_putBytes cX9_putBytes 4 none ∈ fx_tb := fx_tb_in (List.mem_of_getElem? (i := 453) (by decide +kernel)) (by decide +kernel)
theorem hd_X9_putBytes : yX9_putBytes.cls = RX9 ∧ yX9_putBytes.cls ≠ "java/lang/invoke/MethodHandle" ∧ yX9_putBytes.cls ≠ "java/lang/invoke/VarHandle" ∧ (parseMethodDescriptor yX9_putBytes.desc).map (fun d => d.parameters.length) = some 1 := by decide +kernel
theorem kF_X11_84 : Cond.fieldLink RX11 84 (TX9 1).1 (TX9 1).2.1 (TX9 1).2.2.1 ∈ fx_tb := fx_tb_in (List.mem_of_getElem? (i := 135) (by decide +kernel)) (by decide +kernel)
theorem kF_X11_28 : Cond.fieldLink RX11 28 (TX11 2).1 (TX11 2).2.1 (TX11 2).2.2.1 ∈ fx_tb := fx_tb_in (List.mem_of_getElem? (i := 405) (by decide +kernel)) (by decide +kernel)
theorem kF_X11_32 : Cond.fieldLink RX11 32 (TX11 3).1 (TX11 3).2.1 (TX11 3).2.2.1 ∈ fx_tb := fx_tb_in (List.mem_of_getElem? (i := 406) (by decide +kernel)) (by decide +kernel)
theorem kF_X11_48 : Cond.fieldLink RX11 48 (TX11 6).1 (TX11 6).2.1 (TX11 6).2.2.1 ∈ fx_tb := fx_tb_in (List.mem_of_getElem? (i := 409) (by decide +kernel)) (by decide +kernel)
theorem kL_X11_186 : Cond.methodLink RX11 186 yX7_begin ∈ fx_tb := fx_tb_in (List.mem_of_getElem? (i := 764) (by decide +kernel)) (by decide +kernel)
theorem kI_X7_begin : Cond.instanceMethod yX7_begin ∈ fx_tb := fx_tb_in (List.mem_of_getElem? (i := 765) (by decide +kernel)) (by decide +kernel)
theorem kS_X7_begin : Cond.selects RX7 yX7_begin yX7_begin ∈ fx_tb := fx_tb_in (List.mem_of_getElem? (i := 766) (by decide +kernel)) (by decide +kernel)
theorem kMV_X11_186 : ∀ w ∈ ([.methodLink RX11 186 yX7_begin, .instanceMethod yX7_begin, .selects RX7 yX7_begin yX7_begin, .initialized RX7] : List Cond), w ∈ fx_tb := fx_l4 kL_X11_186 kI_X7_begin kS_X7_begin kN_X7
theorem kC_X7_begin : Cond.code yX7_begin cX7_begin 3 none ∈ fx_tb := fx_tb_in (List.mem_of_getElem? (i := 767) (by decide +kernel)) (by decide +kernel)
theorem hd_X7_begin : yX7_begin.cls = RX7 ∧ yX7_begin.cls ≠ "java/lang/invoke/MethodHandle" ∧ yX7_begin.cls ≠ "java/lang/invoke/VarHandle" ∧ (parseMethodDescriptor yX7_begin.desc).map (fun d => d.parameters.length) = some 1 := by decide +kernel
theorem kF_X11_38 : Cond.fieldLink RX11 38 (TX11 4).1 (TX11 4).2.1 (TX11 4).2.2.1 ∈ fx_tb := fx_tb_in (List.mem_of_getElem? (i := 407) (by decide +kernel)) (by decide +kernel)
theorem kF_X11_190 : Cond.fieldLink RX11 190 (TX8 0).1 (TX8 0).2.1 (TX8 0).2.2.1 ∈ fx_tb := fx_tb_in (List.mem_of_getElem? (i := 288) (by decide +kernel)) (by decide +kernel)
theorem kF_X11_58 : Cond.fieldLink RX11 58 (TX11 8).1 (TX11 8).2.1 (TX11 8).2.2.1 ∈ fx_tb := fx_tb_in (List.mem_of_getElem? (i := 411) (by decide +kernel)) (by decide +kernel)
theorem kF_X11_329 : Cond.fieldLink RX11 329 (TX6 0).1 (TX6 0).2.1 (TX6 0).2.2.1 ∈ fx_tb := fx_tb_in (List.mem_of_getElem? (i := 342) (by decide +kernel)) (by decide +kernel)
theorem kF_X11_171 : Cond.fieldLink RX11 171 (TX11 11).1 (TX11 11).2.1 (TX11 11).2.2.1 ∈ fx_tb := fx_tb_in (List.mem_of_getElem? (i := 414) (by decide +kernel)) (by decide +kernel)
theorem kF_X11_75 : Cond.fieldLink RX11 75 (TX11 13).1 (TX11 13).2.1 (TX11 13).2.2.1 ∈ fx_tb := fx_tb_in (List.mem_of_getElem? (i := 416) (by decide +kernel)) (by decide +kernel)
theorem kF_X11_311 : Cond.fieldLink RX11 311 (TX3 0).1 (TX3 0).2.1 (TX3 0).2.2.1 ∈ fx_tb := fx_tb_in (List.mem_of_getElem? (i := 387) (by decide +kernel)) (by decide +kernel)
theorem kF_X11_21 : Cond.fieldLink RX11 21 (TX11 1).1 (TX11 1).2.1 (TX11 1).2.2.1 ∈ fx_tb := fx_tb_in (List.mem_of_getElem? (i := 404) (by decide +kernel)) (by decide +kernel)
theorem kL_X11_88 : Cond.methodLink RX11 88 yX4_readRepublic ∈ fx_tb := fx_tb_in (List.mem_of_getElem? (i := 463) (by decide +kernel)) (by decide +kernel)
theorem kI_X4_readRepublic : Cond.instanceMethod yX4_readRepublic ∈ fx_tb := fx_tb_in (List.mem_of_getElem? (i := 464) (by decide +kernel)) (by decide +kernel)
theorem kS_X4_readRepublic : Cond.selects RX4 yX4_readRepublic yX4_readRepublic ∈ fx_tb := fx_tb_in (List.mem_of_getElem? (i := 465) (by decide +kernel)) (by decide +kernel)
theorem kMV_X11_88 : ∀ w ∈ ([.methodLink RX11 88 yX4_readRepublic, .instanceMethod yX4_readRepublic, .selects RX4 yX4_readRepublic yX4_readRepublic, .initialized RX4] : List Cond), w ∈ fx_tb := fx_l4 kL_X11_88 kI_X4_readRepublic kS_X4_readRepublic kN_X4
theorem kC_X4_readRepublic : Cond.code yX4_readRepublic cX4_readRepublic 4 (some .int) ∈ fx_tb := fx_tb_in (List.mem_of_getElem? (i := 466) (by decide +kernel)) (by decide +kernel)
theorem hd_X4_readRepublic : yX4_readRepublic.cls = RX4 ∧ yX4_readRepublic.cls ≠ "java/lang/invoke/MethodHandle" ∧ yX4_readRepublic.cls ≠ "java/lang/invoke/VarHandle" ∧ (parseMethodDescriptor yX4_readRepublic.desc).map (fun d => d.parameters.length) = some 1 := by decide +kernel
theorem kL_X11_92 : Cond.methodLink RX11 92 yX11_settle ∈ fx_tb := fx_tb_in (List.mem_of_getElem? (i := 760) (by decide +kernel)) (by decide +kernel)
theorem kI_X11_settle : Cond.instanceMethod yX11_settle ∈ fx_tb := fx_tb_in (List.mem_of_getElem? (i := 762) (by decide +kernel)) (by decide +kernel)
theorem kS_X11_settle : Cond.selects RX11 yX11_settle yX11_settle ∈ fx_tb := fx_tb_in (List.mem_of_getElem? (i := 19) (by decide +kernel)) (by decide +kernel)
theorem kN_X11 : Cond.initialized RX11 ∈ fx_tb := fx_tb_in (List.mem_of_getElem? (i := 95) (by decide +kernel)) (by decide +kernel)
theorem kMV_X11_92 : ∀ w ∈ ([.methodLink RX11 92 yX11_settle, .instanceMethod yX11_settle, .selects RX11 yX11_settle yX11_settle, .initialized RX11] : List Cond), w ∈ fx_tb := fx_l4 kL_X11_92 kI_X11_settle kS_X11_settle kN_X11
theorem kC_X11_settle : Cond.code yX11_settle cX11_settle 3 none ∈ fx_tb := fx_tb_in (List.mem_of_getElem? (i := 763) (by decide +kernel)) (by decide +kernel)
theorem hd_X11_settle : yX11_settle.cls = RX11 ∧ yX11_settle.cls ≠ "java/lang/invoke/MethodHandle" ∧ yX11_settle.cls ≠ "java/lang/invoke/VarHandle" ∧ (parseMethodDescriptor yX11_settle.desc).map (fun d => d.parameters.length) = some 0 := by decide +kernel
theorem kF_X11_42 : Cond.fieldLink RX11 42 (TX11 5).1 (TX11 5).2.1 (TX11 5).2.2.1 ∈ fx_tb := fx_tb_in (List.mem_of_getElem? (i := 408) (by decide +kernel)) (by decide +kernel)
theorem kL_X11_95 : Cond.methodLink RX11 95 yX4_readTerm ∈ fx_tb := fx_tb_in (List.mem_of_getElem? (i := 781) (by decide +kernel)) (by decide +kernel)
theorem kI_X4_readTerm : Cond.instanceMethod yX4_readTerm ∈ fx_tb := fx_tb_in (List.mem_of_getElem? (i := 782) (by decide +kernel)) (by decide +kernel)
theorem kS_X4_readTerm : Cond.selects RX4 yX4_readTerm yX4_readTerm ∈ fx_tb := fx_tb_in (List.mem_of_getElem? (i := 783) (by decide +kernel)) (by decide +kernel)
theorem kMV_X11_95 : ∀ w ∈ ([.methodLink RX11 95 yX4_readTerm, .instanceMethod yX4_readTerm, .selects RX4 yX4_readTerm yX4_readTerm, .initialized RX4] : List Cond), w ∈ fx_tb := fx_l4 kL_X11_95 kI_X4_readTerm kS_X4_readTerm kN_X4
theorem kC_X4_readTerm : Cond.code yX4_readTerm cX4_readTerm 5 (some .int) ∈ fx_tb := fx_tb_in (List.mem_of_getElem? (i := 784) (by decide +kernel)) (by decide +kernel)
theorem hd_X4_readTerm : yX4_readTerm.cls = RX4 ∧ yX4_readTerm.cls ≠ "java/lang/invoke/MethodHandle" ∧ yX4_readTerm.cls ≠ "java/lang/invoke/VarHandle" ∧ (parseMethodDescriptor yX4_readTerm.desc).map (fun d => d.parameters.length) = some 2 := by decide +kernel
theorem kL_X11_99 : Cond.methodLink RX11 99 yX5_hasWare ∈ fx_tb := fx_tb_in (List.mem_of_getElem? (i := 811) (by decide +kernel)) (by decide +kernel)
theorem kMV_X11_99 : ∀ w ∈ ([.methodLink RX11 99 yX5_hasWare, .instanceMethod yX5_hasWare, .selects RX5 yX5_hasWare yX5_hasWare, .initialized RX5] : List Cond), w ∈ fx_tb := fx_l4 kL_X11_99 kI_X5_hasWare kS_X5_hasWare kN_X5
theorem kF_X11_103 : Cond.fieldLink RX11 103 (TX5 2).1 (TX5 2).2.1 (TX5 2).2.2.1 ∈ fx_tb := fx_tb_in (List.mem_of_getElem? (i := 222) (by decide +kernel)) (by decide +kernel)
theorem kF_X11_107 : Cond.fieldLink RX11 107 (TX5 3).1 (TX5 3).2.1 (TX5 3).2.2.1 ∈ fx_tb := fx_tb_in (List.mem_of_getElem? (i := 226) (by decide +kernel)) (by decide +kernel)
theorem kF_X11_110 : Cond.fieldLink RX11 110 (TX7 0).1 (TX7 0).2.1 (TX7 0).2.2.1 ∈ fx_tb := fx_tb_in (List.mem_of_getElem? (i := 315) (by decide +kernel)) (by decide +kernel)
theorem kL_X11_113 : Cond.methodLink RX11 113 yX5_halfOf ∈ fx_tb := fx_tb_in (List.mem_of_getElem? (i := 812) (by decide +kernel)) (by decide +kernel)
theorem kMV_X11_113 : ∀ w ∈ ([.methodLink RX11 113 yX5_halfOf, .instanceMethod yX5_halfOf, .selects RX5 yX5_halfOf yX5_halfOf, .initialized RX5] : List Cond), w ∈ fx_tb := fx_l4 kL_X11_113 kI_X5_halfOf kS_X5_halfOf kN_X5
theorem kL_X11_117 : Cond.methodLink RX11 117 yX7_votesFor ∈ fx_tb := fx_tb_in (List.mem_of_getElem? (i := 816) (by decide +kernel)) (by decide +kernel)
theorem kMV_X11_117 : ∀ w ∈ ([.methodLink RX11 117 yX7_votesFor, .instanceMethod yX7_votesFor, .selects RX7 yX7_votesFor yX7_votesFor, .initialized RX7] : List Cond), w ∈ fx_tb := fx_l4 kL_X11_117 kI_X7_votesFor kS_X7_votesFor kN_X7
theorem kL_X11_121 : Cond.methodLink RX11 121 yX7_allSeats ∈ fx_tb := fx_tb_in (List.mem_of_getElem? (i := 821) (by decide +kernel)) (by decide +kernel)
theorem kMV_X11_121 : ∀ w ∈ ([.methodLink RX11 121 yX7_allSeats, .instanceMethod yX7_allSeats, .selects RX7 yX7_allSeats yX7_allSeats, .initialized RX7] : List Cond), w ∈ fx_tb := fx_l4 kL_X11_121 kI_X7_allSeats kS_X7_allSeats kN_X7
theorem kL_X11_125 : Cond.methodLink RX11 125 yX11_standing ∈ fx_tb := fx_tb_in (List.mem_of_getElem? (i := 825) (by decide +kernel)) (by decide +kernel)
theorem kMS_X11_125 : ∀ w ∈ ([.methodLink RX11 125 yX11_standing, .static yX11_standing, .initialized yX11_standing.cls] : List Cond), w ∈ fx_tb := fx_l3 kL_X11_125 kT_X11_standing kNy_X11_standing
theorem kL_X11_129 : Cond.methodLink RX11 129 yX5_hasParty ∈ fx_tb := fx_tb_in (List.mem_of_getElem? (i := 832) (by decide +kernel)) (by decide +kernel)
theorem kMV_X11_129 : ∀ w ∈ ([.methodLink RX11 129 yX5_hasParty, .instanceMethod yX5_hasParty, .selects RX5 yX5_hasParty yX5_hasParty, .initialized RX5] : List Cond), w ∈ fx_tb := fx_l4 kL_X11_129 kI_X5_hasParty kS_X5_hasParty kN_X5
theorem kF_X11_132 : Cond.fieldLink RX11 132 (TX7 1).1 (TX7 1).2.1 (TX7 1).2.2.1 ∈ fx_tb := fx_tb_in (List.mem_of_getElem? (i := 317) (by decide +kernel)) (by decide +kernel)
theorem kF_X11_135 : Cond.fieldLink RX11 135 (TX5 8).1 (TX5 8).2.1 (TX5 8).2.2.1 ∈ fx_tb := fx_tb_in (List.mem_of_getElem? (i := 241) (by decide +kernel)) (by decide +kernel)
theorem kF_X11_69 : Cond.fieldLink RX11 69 (TX11 10).1 (TX11 10).2.1 (TX11 10).2.2.1 ∈ fx_tb := fx_tb_in (List.mem_of_getElem? (i := 413) (by decide +kernel)) (by decide +kernel)
theorem kF_X11_174 : Cond.fieldLink RX11 174 (TX11 12).1 (TX11 12).2.1 (TX11 12).2.2.1 ∈ fx_tb := fx_tb_in (List.mem_of_getElem? (i := 415) (by decide +kernel)) (by decide +kernel)
theorem kL_X11_182 : Cond.methodLink RX11 182 yX7_copyOf ∈ fx_tb := fx_tb_in (List.mem_of_getElem? (i := 844) (by decide +kernel)) (by decide +kernel)
theorem kMV_X11_182 : ∀ w ∈ ([.methodLink RX11 182 yX7_copyOf, .instanceMethod yX7_copyOf, .selects RX7 yX7_copyOf yX7_copyOf, .initialized RX7] : List Cond), w ∈ fx_tb := fx_l4 kL_X11_182 kI_X7_copyOf kS_X7_copyOf kN_X7
theorem kL_X11_177 : Cond.methodLink RX11 177 yJ9_floorMod_7cf53 ∈ fx_tb := fx_tb_in (List.mem_of_getElem? (i := 848) (by decide +kernel)) (by decide +kernel)
theorem kT_J9_floorMod_7cf53 : Cond.static yJ9_floorMod_7cf53 ∈ fx_tb := fx_tb_in (List.mem_of_getElem? (i := 849) (by decide +kernel)) (by decide +kernel)
theorem kNy_J9_floorMod_7cf53 : Cond.initialized yJ9_floorMod_7cf53.cls ∈ fx_tb := fx_tb_in (List.mem_of_getElem? (i := 111) (by decide +kernel)) (by decide +kernel)
theorem kMS_X11_177 : ∀ w ∈ ([.methodLink RX11 177 yJ9_floorMod_7cf53, .static yJ9_floorMod_7cf53, .initialized yJ9_floorMod_7cf53.cls] : List Cond), w ∈ fx_tb := fx_l3 kL_X11_177 kT_J9_floorMod_7cf53 kNy_J9_floorMod_7cf53
theorem kC_J9_floorMod_7cf53 : Cond.code yJ9_floorMod_7cf53 cJ9_floorMod_7cf53 3 (some .int) ∈ fx_tb := fx_tb_in (List.mem_of_getElem? (i := 850) (by decide +kernel)) (by decide +kernel)
theorem hd_J9_floorMod_7cf53 : yJ9_floorMod_7cf53.cls = RJ9 ∧ yJ9_floorMod_7cf53.cls ≠ "java/lang/invoke/MethodHandle" ∧ yJ9_floorMod_7cf53.cls ≠ "java/lang/invoke/VarHandle" ∧ (parseMethodDescriptor yJ9_floorMod_7cf53.desc).map (fun d => d.parameters.length) = some 2 := by decide +kernel
theorem kL_X11_332 : Cond.methodLink RX11 332 Lib.Math.min.name ∈ fx_tb := fx_tb_in (List.mem_of_getElem? (i := 851) (by decide +kernel)) (by decide +kernel)
theorem kL_X11_138 : Cond.methodLink RX11 138 yX11_isLot ∈ fx_tb := fx_tb_in (List.mem_of_getElem? (i := 837) (by decide +kernel)) (by decide +kernel)
theorem kT_X11_isLot : Cond.static yX11_isLot ∈ fx_tb := fx_tb_in (List.mem_of_getElem? (i := 838) (by decide +kernel)) (by decide +kernel)
theorem kNy_X11_isLot : Cond.initialized yX11_isLot.cls ∈ fx_tb := fx_tb_in (List.mem_of_getElem? (i := 95) (by decide +kernel)) (by decide +kernel)
theorem kMS_X11_138 : ∀ w ∈ ([.methodLink RX11 138 yX11_isLot, .static yX11_isLot, .initialized yX11_isLot.cls] : List Cond), w ∈ fx_tb := fx_l3 kL_X11_138 kT_X11_isLot kNy_X11_isLot
theorem kC_X11_isLot : Cond.code yX11_isLot cX11_isLot 1 (some .boolean) ∈ fx_tb := fx_tb_in (List.mem_of_getElem? (i := 839) (by decide +kernel)) (by decide +kernel)
theorem hd_X11_isLot : yX11_isLot.cls = RX11 ∧ yX11_isLot.cls ≠ "java/lang/invoke/MethodHandle" ∧ yX11_isLot.cls ≠ "java/lang/invoke/VarHandle" ∧ (parseMethodDescriptor yX11_isLot.desc).map (fun d => d.parameters.length) = some 1 := by decide +kernel
theorem kL_X11_141 : Cond.methodLink RX11 141 yX11_keepPast ∈ fx_tb := fx_tb_in (List.mem_of_getElem? (i := 840) (by decide +kernel)) (by decide +kernel)
theorem kI_X11_keepPast : Cond.instanceMethod yX11_keepPast ∈ fx_tb := fx_tb_in (List.mem_of_getElem? (i := 842) (by decide +kernel)) (by decide +kernel)
theorem kS_X11_keepPast : Cond.selects RX11 yX11_keepPast yX11_keepPast ∈ fx_tb := fx_tb_in (List.mem_of_getElem? (i := 22) (by decide +kernel)) (by decide +kernel)
theorem kMV_X11_141 : ∀ w ∈ ([.methodLink RX11 141 yX11_keepPast, .instanceMethod yX11_keepPast, .selects RX11 yX11_keepPast yX11_keepPast, .initialized RX11] : List Cond), w ∈ fx_tb := fx_l4 kL_X11_141 kI_X11_keepPast kS_X11_keepPast kN_X11
theorem kC_X11_keepPast : Cond.code yX11_keepPast cX11_keepPast 1 none ∈ fx_tb := fx_tb_in (List.mem_of_getElem? (i := 843) (by decide +kernel)) (by decide +kernel)
theorem hd_X11_keepPast : yX11_keepPast.cls = RX11 ∧ yX11_keepPast.cls ≠ "java/lang/invoke/MethodHandle" ∧ yX11_keepPast.cls ≠ "java/lang/invoke/VarHandle" ∧ (parseMethodDescriptor yX11_keepPast.desc).map (fun d => d.parameters.length) = some 0 := by decide +kernel
theorem kL_X11_144 : Cond.methodLink RX11 144 yX7_workOn ∈ fx_tb := fx_tb_in (List.mem_of_getElem? (i := 852) (by decide +kernel)) (by decide +kernel)
theorem kMV_X11_144 : ∀ w ∈ ([.methodLink RX11 144 yX7_workOn, .instanceMethod yX7_workOn, .selects RX7 yX7_workOn yX7_workOn, .initialized RX7] : List Cond), w ∈ fx_tb := fx_l4 kL_X11_144 kI_X7_workOn kS_X7_workOn kN_X7
theorem kL_X11_148 : Cond.methodLink RX11 148 yX7_takeOff ∈ fx_tb := fx_tb_in (List.mem_of_getElem? (i := 863) (by decide +kernel)) (by decide +kernel)
theorem kMV_X11_148 : ∀ w ∈ ([.methodLink RX11 148 yX7_takeOff, .instanceMethod yX7_takeOff, .selects RX7 yX7_takeOff yX7_takeOff, .initialized RX7] : List Cond), w ∈ fx_tb := fx_l4 kL_X11_148 kI_X7_takeOff kS_X7_takeOff kN_X7
theorem kL_X11_152 : Cond.methodLink RX11 152 yX7_canJoin ∈ fx_tb := fx_tb_in (List.mem_of_getElem? (i := 871) (by decide +kernel)) (by decide +kernel)
theorem kMV_X11_152 : ∀ w ∈ ([.methodLink RX11 152 yX7_canJoin, .instanceMethod yX7_canJoin, .selects RX7 yX7_canJoin yX7_canJoin, .initialized RX7] : List Cond), w ∈ fx_tb := fx_l4 kL_X11_152 kI_X7_canJoin kS_X7_canJoin kN_X7
theorem kL_X11_156 : Cond.methodLink RX11 156 yX7_arrest ∈ fx_tb := fx_tb_in (List.mem_of_getElem? (i := 884) (by decide +kernel)) (by decide +kernel)
theorem kMV_X11_156 : ∀ w ∈ ([.methodLink RX11 156 yX7_arrest, .instanceMethod yX7_arrest, .selects RX7 yX7_arrest yX7_arrest, .initialized RX7] : List Cond), w ∈ fx_tb := fx_l4 kL_X11_156 kI_X7_arrest kS_X7_arrest kN_X7
theorem kL_X11_160 : Cond.methodLink RX11 160 yX7_canLend ∈ fx_tb := fx_tb_in (List.mem_of_getElem? (i := 892) (by decide +kernel)) (by decide +kernel)
theorem kMV_X11_160 : ∀ w ∈ ([.methodLink RX11 160 yX7_canLend, .instanceMethod yX7_canLend, .selects RX7 yX7_canLend yX7_canLend, .initialized RX7] : List Cond), w ∈ fx_tb := fx_l4 kL_X11_160 kI_X7_canLend kS_X7_canLend kN_X7
theorem kL_X11_164 : Cond.methodLink RX11 164 yX7_moveSeats ∈ fx_tb := fx_tb_in (List.mem_of_getElem? (i := 896) (by decide +kernel)) (by decide +kernel)
theorem kMV_X11_164 : ∀ w ∈ ([.methodLink RX11 164 yX7_moveSeats, .instanceMethod yX7_moveSeats, .selects RX7 yX7_moveSeats yX7_moveSeats, .initialized RX7] : List Cond), w ∈ fx_tb := fx_l4 kL_X11_164 kI_X7_moveSeats kS_X7_moveSeats kN_X7
theorem kL_X11_168 : Cond.methodLink RX11 168 yX7_passWeek ∈ fx_tb := fx_tb_in (List.mem_of_getElem? (i := 904) (by decide +kernel)) (by decide +kernel)
theorem kMV_X11_168 : ∀ w ∈ ([.methodLink RX11 168 yX7_passWeek, .instanceMethod yX7_passWeek, .selects RX7 yX7_passWeek yX7_passWeek, .initialized RX7] : List Cond), w ∈ fx_tb := fx_l4 kL_X11_168 kI_X7_passWeek kS_X7_passWeek kN_X7
theorem kF_X11_52 : Cond.fieldLink RX11 52 (TX11 7).1 (TX11 7).2.1 (TX11 7).2.2.1 ∈ fx_tb := fx_tb_in (List.mem_of_getElem? (i := 410) (by decide +kernel)) (by decide +kernel)
theorem kF_X11_193 : Cond.fieldLink RX11 193 (TX7 3).1 (TX7 3).2.1 (TX7 3).2.2.1 ∈ fx_tb := fx_tb_in (List.mem_of_getElem? (i := 321) (by decide +kernel)) (by decide +kernel)
theorem kL_X11_196 : Cond.methodLink RX11 196 yX7_follow ∈ fx_tb := fx_tb_in (List.mem_of_getElem? (i := 937) (by decide +kernel)) (by decide +kernel)
theorem kI_X7_follow : Cond.instanceMethod yX7_follow ∈ fx_tb := fx_tb_in (List.mem_of_getElem? (i := 938) (by decide +kernel)) (by decide +kernel)
theorem kS_X7_follow : Cond.selects RX7 yX7_follow yX7_follow ∈ fx_tb := fx_tb_in (List.mem_of_getElem? (i := 939) (by decide +kernel)) (by decide +kernel)
theorem kMV_X11_196 : ∀ w ∈ ([.methodLink RX11 196 yX7_follow, .instanceMethod yX7_follow, .selects RX7 yX7_follow yX7_follow, .initialized RX7] : List Cond), w ∈ fx_tb := fx_l4 kL_X11_196 kI_X7_follow kS_X7_follow kN_X7
theorem kC_X7_follow : Cond.code yX7_follow cX7_follow 7 (some .boolean) ∈ fx_tb := fx_tb_in (List.mem_of_getElem? (i := 940) (by decide +kernel)) (by decide +kernel)
theorem hd_X7_follow : yX7_follow.cls = RX7 ∧ yX7_follow.cls ≠ "java/lang/invoke/MethodHandle" ∧ yX7_follow.cls ≠ "java/lang/invoke/VarHandle" ∧ (parseMethodDescriptor yX7_follow.desc).map (fun d => d.parameters.length) = some 3 := by decide +kernel
theorem kF_X11_203 : Cond.fieldLink RX11 203 (TX7 2).1 (TX7 2).2.1 (TX7 2).2.2.1 ∈ fx_tb := fx_tb_in (List.mem_of_getElem? (i := 319) (by decide +kernel)) (by decide +kernel)
theorem kL_X11_206 : Cond.methodLink RX11 206 yX5_weekWork ∈ fx_tb := fx_tb_in (List.mem_of_getElem? (i := 955) (by decide +kernel)) (by decide +kernel)
theorem kMV_X11_206 : ∀ w ∈ ([.methodLink RX11 206 yX5_weekWork, .instanceMethod yX5_weekWork, .selects RX5 yX5_weekWork yX5_weekWork, .initialized RX5] : List Cond), w ∈ fx_tb := fx_l4 kL_X11_206 kI_X5_weekWork kS_X5_weekWork kN_X5
theorem kL_X11_200 : Cond.methodLink RX11 200 yX11_weeksToHalf ∈ fx_tb := fx_tb_in (List.mem_of_getElem? (i := 951) (by decide +kernel)) (by decide +kernel)
theorem kI_X11_weeksToHalf : Cond.instanceMethod yX11_weeksToHalf ∈ fx_tb := fx_tb_in (List.mem_of_getElem? (i := 953) (by decide +kernel)) (by decide +kernel)
theorem kS_X11_weeksToHalf : Cond.selects RX11 yX11_weeksToHalf yX11_weeksToHalf ∈ fx_tb := fx_tb_in (List.mem_of_getElem? (i := 23) (by decide +kernel)) (by decide +kernel)
theorem kMV_X11_200 : ∀ w ∈ ([.methodLink RX11 200 yX11_weeksToHalf, .instanceMethod yX11_weeksToHalf, .selects RX11 yX11_weeksToHalf yX11_weeksToHalf, .initialized RX11] : List Cond), w ∈ fx_tb := fx_l4 kL_X11_200 kI_X11_weeksToHalf kS_X11_weeksToHalf kN_X11
theorem kC_X11_weeksToHalf : Cond.code yX11_weeksToHalf cX11_weeksToHalf 6 (some .int) ∈ fx_tb := fx_tb_in (List.mem_of_getElem? (i := 954) (by decide +kernel)) (by decide +kernel)
theorem hd_X11_weeksToHalf : yX11_weeksToHalf.cls = RX11 ∧ yX11_weeksToHalf.cls ≠ "java/lang/invoke/MethodHandle" ∧ yX11_weeksToHalf.cls ≠ "java/lang/invoke/VarHandle" ∧ (parseMethodDescriptor yX11_weeksToHalf.desc).map (fun d => d.parameters.length) = some 1 := by decide +kernel
theorem kL_X11_210 : Cond.methodLink RX11 210 yX5_couldPair ∈ fx_tb := fx_tb_in (List.mem_of_getElem? (i := 964) (by decide +kernel)) (by decide +kernel)
theorem kMV_X11_210 : ∀ w ∈ ([.methodLink RX11 210 yX5_couldPair, .instanceMethod yX5_couldPair, .selects RX5 yX5_couldPair yX5_couldPair, .initialized RX5] : List Cond), w ∈ fx_tb := fx_l4 kL_X11_210 kI_X5_couldPair kS_X5_couldPair kN_X5
theorem kL_X11_214 : Cond.methodLink RX11 214 Lib.Math.max.name ∈ fx_tb := fx_tb_in (List.mem_of_getElem? (i := 965) (by decide +kernel)) (by decide +kernel)
theorem kF_X11_217 : Cond.fieldLink RX11 217 (TX5 0).1 (TX5 0).2.1 (TX5 0).2.2.1 ∈ fx_tb := fx_tb_in (List.mem_of_getElem? (i := 218) (by decide +kernel)) (by decide +kernel)
theorem kL_X11_229 : Cond.methodLink RX11 229 yJ6_bitCount_0f7a4 ∈ fx_tb := fx_tb_in (List.mem_of_getElem? (i := 990) (by decide +kernel)) (by decide +kernel)
theorem kMS_X11_229 : ∀ w ∈ ([.methodLink RX11 229 yJ6_bitCount_0f7a4, .static yJ6_bitCount_0f7a4, .initialized yJ6_bitCount_0f7a4.cls] : List Cond), w ∈ fx_tb := fx_l3 kL_X11_229 kT_J6_bitCount_0f7a4 kNy_J6_bitCount_0f7a4
theorem kL_X11_223 : Cond.methodLink RX11 223 yX7_lackOf ∈ fx_tb := fx_tb_in (List.mem_of_getElem? (i := 982) (by decide +kernel)) (by decide +kernel)
theorem kI_X7_lackOf : Cond.instanceMethod yX7_lackOf ∈ fx_tb := fx_tb_in (List.mem_of_getElem? (i := 983) (by decide +kernel)) (by decide +kernel)
theorem kS_X7_lackOf : Cond.selects RX7 yX7_lackOf yX7_lackOf ∈ fx_tb := fx_tb_in (List.mem_of_getElem? (i := 984) (by decide +kernel)) (by decide +kernel)
theorem kMV_X11_223 : ∀ w ∈ ([.methodLink RX11 223 yX7_lackOf, .instanceMethod yX7_lackOf, .selects RX7 yX7_lackOf yX7_lackOf, .initialized RX7] : List Cond), w ∈ fx_tb := fx_l4 kL_X11_223 kI_X7_lackOf kS_X7_lackOf kN_X7
theorem kC_X7_lackOf : Cond.code yX7_lackOf cX7_lackOf 5 (some .int) ∈ fx_tb := fx_tb_in (List.mem_of_getElem? (i := 985) (by decide +kernel)) (by decide +kernel)
theorem hd_X7_lackOf : yX7_lackOf.cls = RX7 ∧ yX7_lackOf.cls ≠ "java/lang/invoke/MethodHandle" ∧ yX7_lackOf.cls ≠ "java/lang/invoke/VarHandle" ∧ (parseMethodDescriptor yX7_lackOf.desc).map (fun d => d.parameters.length) = some 2 := by decide +kernel
theorem kL_X11_220 : Cond.methodLink RX11 220 yX7_halfDone ∈ fx_tb := fx_tb_in (List.mem_of_getElem? (i := 978) (by decide +kernel)) (by decide +kernel)
theorem kI_X7_halfDone : Cond.instanceMethod yX7_halfDone ∈ fx_tb := fx_tb_in (List.mem_of_getElem? (i := 979) (by decide +kernel)) (by decide +kernel)
theorem kS_X7_halfDone : Cond.selects RX7 yX7_halfDone yX7_halfDone ∈ fx_tb := fx_tb_in (List.mem_of_getElem? (i := 980) (by decide +kernel)) (by decide +kernel)
theorem kMV_X11_220 : ∀ w ∈ ([.methodLink RX11 220 yX7_halfDone, .instanceMethod yX7_halfDone, .selects RX7 yX7_halfDone yX7_halfDone, .initialized RX7] : List Cond), w ∈ fx_tb := fx_l4 kL_X11_220 kI_X7_halfDone kS_X7_halfDone kN_X7
theorem kC_X7_halfDone : Cond.code yX7_halfDone cX7_halfDone 4 (some .int) ∈ fx_tb := fx_tb_in (List.mem_of_getElem? (i := 981) (by decide +kernel)) (by decide +kernel)
theorem hd_X7_halfDone : yX7_halfDone.cls = RX7 ∧ yX7_halfDone.cls ≠ "java/lang/invoke/MethodHandle" ∧ yX7_halfDone.cls ≠ "java/lang/invoke/VarHandle" ∧ (parseMethodDescriptor yX7_halfDone.desc).map (fun d => d.parameters.length) = some 1 := by decide +kernel
theorem kL_X11_226 : Cond.methodLink RX11 226 yX11_isBetter ∈ fx_tb := fx_tb_in (List.mem_of_getElem? (i := 986) (by decide +kernel)) (by decide +kernel)
theorem kI_X11_isBetter : Cond.instanceMethod yX11_isBetter ∈ fx_tb := fx_tb_in (List.mem_of_getElem? (i := 988) (by decide +kernel)) (by decide +kernel)
theorem kS_X11_isBetter : Cond.selects RX11 yX11_isBetter yX11_isBetter ∈ fx_tb := fx_tb_in (List.mem_of_getElem? (i := 24) (by decide +kernel)) (by decide +kernel)
theorem kMV_X11_226 : ∀ w ∈ ([.methodLink RX11 226 yX11_isBetter, .instanceMethod yX11_isBetter, .selects RX11 yX11_isBetter yX11_isBetter, .initialized RX11] : List Cond), w ∈ fx_tb := fx_l4 kL_X11_226 kI_X11_isBetter kS_X11_isBetter kN_X11
theorem kC_X11_isBetter : Cond.code yX11_isBetter cX11_isBetter 4 (some .boolean) ∈ fx_tb := fx_tb_in (List.mem_of_getElem? (i := 989) (by decide +kernel)) (by decide +kernel)
theorem hd_X11_isBetter : yX11_isBetter.cls = RX11 ∧ yX11_isBetter.cls ≠ "java/lang/invoke/MethodHandle" ∧ yX11_isBetter.cls ≠ "java/lang/invoke/VarHandle" ∧ (parseMethodDescriptor yX11_isBetter.desc).map (fun d => d.parameters.length) = some 2 := by decide +kernel
theorem kF_X11_65 : Cond.fieldLink RX11 65 (TX11 9).1 (TX11 9).2.1 (TX11 9).2.2.1 ∈ fx_tb := fx_tb_in (List.mem_of_getElem? (i := 412) (by decide +kernel)) (by decide +kernel)
theorem kF_X11_234 : Cond.fieldLink RX11 234 (TX5 5).1 (TX5 5).2.1 (TX5 5).2.2.1 ∈ fx_tb := fx_tb_in (List.mem_of_getElem? (i := 234) (by decide +kernel)) (by decide +kernel)
theorem kL_X11_237 : Cond.methodLink RX11 237 yX0_meet ∈ fx_tb := fx_tb_in (List.mem_of_getElem? (i := 1000) (by decide +kernel)) (by decide +kernel)
theorem kI_X0_meet : Cond.instanceMethod yX0_meet ∈ fx_tb := fx_tb_in (List.mem_of_getElem? (i := 1001) (by decide +kernel)) (by decide +kernel)
theorem kS_X0_meet : Cond.selects RX0 yX0_meet yX0_meet ∈ fx_tb := fx_tb_in (List.mem_of_getElem? (i := 1002) (by decide +kernel)) (by decide +kernel)
theorem kMV_X11_237 : ∀ w ∈ ([.methodLink RX11 237 yX0_meet, .instanceMethod yX0_meet, .selects RX0 yX0_meet yX0_meet, .initialized RX0] : List Cond), w ∈ fx_tb := fx_l4 kL_X11_237 kI_X0_meet kS_X0_meet kN_X0
theorem kC_X0_meet : Cond.code yX0_meet cX0_meet 5 none ∈ fx_tb := fx_tb_in (List.mem_of_getElem? (i := 1003) (by decide +kernel)) (by decide +kernel)
theorem hd_X0_meet : yX0_meet.cls = RX0 ∧ yX0_meet.cls ≠ "java/lang/invoke/MethodHandle" ∧ yX0_meet.cls ≠ "java/lang/invoke/VarHandle" ∧ (parseMethodDescriptor yX0_meet.desc).map (fun d => d.parameters.length) = some 2 := by decide +kernel
theorem kL_X11_241 : Cond.methodLink RX11 241 yX0_setsOf ∈ fx_tb := fx_tb_in (List.mem_of_getElem? (i := 1004) (by decide +kernel)) (by decide +kernel)
theorem kI_X0_setsOf : Cond.instanceMethod yX0_setsOf ∈ fx_tb := fx_tb_in (List.mem_of_getElem? (i := 1005) (by decide +kernel)) (by decide +kernel)
theorem kS_X0_setsOf : Cond.selects RX0 yX0_setsOf yX0_setsOf ∈ fx_tb := fx_tb_in (List.mem_of_getElem? (i := 1006) (by decide +kernel)) (by decide +kernel)
theorem kMV_X11_241 : ∀ w ∈ ([.methodLink RX11 241 yX0_setsOf, .instanceMethod yX0_setsOf, .selects RX0 yX0_setsOf yX0_setsOf, .initialized RX0] : List Cond), w ∈ fx_tb := fx_l4 kL_X11_241 kI_X0_setsOf kS_X0_setsOf kN_X0
theorem kC_X0_setsOf : Cond.code yX0_setsOf cX0_setsOf 4 (some .int) ∈ fx_tb := fx_tb_in (List.mem_of_getElem? (i := 1007) (by decide +kernel)) (by decide +kernel)
theorem hd_X0_setsOf : yX0_setsOf.cls = RX0 ∧ yX0_setsOf.cls ≠ "java/lang/invoke/MethodHandle" ∧ yX0_setsOf.cls ≠ "java/lang/invoke/VarHandle" ∧ (parseMethodDescriptor yX0_setsOf.desc).map (fun d => d.parameters.length) = some 1 := by decide +kernel
theorem kL_X11_244 : Cond.methodLink RX11 244 yX0_turnsBy ∈ fx_tb := fx_tb_in (List.mem_of_getElem? (i := 1012) (by decide +kernel)) (by decide +kernel)
theorem kI_X0_turnsBy : Cond.instanceMethod yX0_turnsBy ∈ fx_tb := fx_tb_in (List.mem_of_getElem? (i := 1013) (by decide +kernel)) (by decide +kernel)
theorem kS_X0_turnsBy : Cond.selects RX0 yX0_turnsBy yX0_turnsBy ∈ fx_tb := fx_tb_in (List.mem_of_getElem? (i := 1014) (by decide +kernel)) (by decide +kernel)
theorem kMV_X11_244 : ∀ w ∈ ([.methodLink RX11 244 yX0_turnsBy, .instanceMethod yX0_turnsBy, .selects RX0 yX0_turnsBy yX0_turnsBy, .initialized RX0] : List Cond), w ∈ fx_tb := fx_l4 kL_X11_244 kI_X0_turnsBy kS_X0_turnsBy kN_X0
theorem kC_X0_turnsBy : Cond.code yX0_turnsBy cX0_turnsBy 5 (some .int) ∈ fx_tb := fx_tb_in (List.mem_of_getElem? (i := 1015) (by decide +kernel)) (by decide +kernel)
theorem hd_X0_turnsBy : yX0_turnsBy.cls = RX0 ∧ yX0_turnsBy.cls ≠ "java/lang/invoke/MethodHandle" ∧ yX0_turnsBy.cls ≠ "java/lang/invoke/VarHandle" ∧ (parseMethodDescriptor yX0_turnsBy.desc).map (fun d => d.parameters.length) = some 1 := by decide +kernel
theorem kK_X11_247 : Cond.constant RX11 247 1000000 ∈ fx_tb := fx_tb_in (List.mem_of_getElem? (i := 1024) (by decide +kernel)) (by decide +kernel)
theorem kL_X11_248 : Cond.methodLink RX11 248 yX0_inEveryMajority ∈ fx_tb := fx_tb_in (List.mem_of_getElem? (i := 1029) (by decide +kernel)) (by decide +kernel)
theorem kI_X0_inEveryMajority : Cond.instanceMethod yX0_inEveryMajority ∈ fx_tb := fx_tb_in (List.mem_of_getElem? (i := 1030) (by decide +kernel)) (by decide +kernel)
theorem kS_X0_inEveryMajority : Cond.selects RX0 yX0_inEveryMajority yX0_inEveryMajority ∈ fx_tb := fx_tb_in (List.mem_of_getElem? (i := 1031) (by decide +kernel)) (by decide +kernel)
theorem kMV_X11_248 : ∀ w ∈ ([.methodLink RX11 248 yX0_inEveryMajority, .instanceMethod yX0_inEveryMajority, .selects RX0 yX0_inEveryMajority yX0_inEveryMajority, .initialized RX0] : List Cond), w ∈ fx_tb := fx_l4 kL_X11_248 kI_X0_inEveryMajority kS_X0_inEveryMajority kN_X0
theorem kC_X0_inEveryMajority : Cond.code yX0_inEveryMajority cX0_inEveryMajority 3 (some .int) ∈ fx_tb := fx_tb_in (List.mem_of_getElem? (i := 1032) (by decide +kernel)) (by decide +kernel)
theorem hd_X0_inEveryMajority : yX0_inEveryMajority.cls = RX0 ∧ yX0_inEveryMajority.cls ≠ "java/lang/invoke/MethodHandle" ∧ yX0_inEveryMajority.cls ≠ "java/lang/invoke/VarHandle" ∧ (parseMethodDescriptor yX0_inEveryMajority.desc).map (fun d => d.parameters.length) = some 0 := by decide +kernel
theorem kL_X11_251 : Cond.methodLink RX11 251 yX0_leastMajority ∈ fx_tb := fx_tb_in (List.mem_of_getElem? (i := 1037) (by decide +kernel)) (by decide +kernel)
theorem kI_X0_leastMajority : Cond.instanceMethod yX0_leastMajority ∈ fx_tb := fx_tb_in (List.mem_of_getElem? (i := 1038) (by decide +kernel)) (by decide +kernel)
theorem kS_X0_leastMajority : Cond.selects RX0 yX0_leastMajority yX0_leastMajority ∈ fx_tb := fx_tb_in (List.mem_of_getElem? (i := 1039) (by decide +kernel)) (by decide +kernel)
theorem kMV_X11_251 : ∀ w ∈ ([.methodLink RX11 251 yX0_leastMajority, .instanceMethod yX0_leastMajority, .selects RX0 yX0_leastMajority yX0_leastMajority, .initialized RX0] : List Cond), w ∈ fx_tb := fx_l4 kL_X11_251 kI_X0_leastMajority kS_X0_leastMajority kN_X0
theorem kC_X0_leastMajority : Cond.code yX0_leastMajority cX0_leastMajority 3 (some .int) ∈ fx_tb := fx_tb_in (List.mem_of_getElem? (i := 1040) (by decide +kernel)) (by decide +kernel)
theorem hd_X0_leastMajority : yX0_leastMajority.cls = RX0 ∧ yX0_leastMajority.cls ≠ "java/lang/invoke/MethodHandle" ∧ yX0_leastMajority.cls ≠ "java/lang/invoke/VarHandle" ∧ (parseMethodDescriptor yX0_leastMajority.desc).map (fun d => d.parameters.length) = some 0 := by decide +kernel
theorem kL_X11_254 : Cond.methodLink RX11 254 yX7_wouldHalve ∈ fx_tb := fx_tb_in (List.mem_of_getElem? (i := 1046) (by decide +kernel)) (by decide +kernel)
theorem kI_X7_wouldHalve : Cond.instanceMethod yX7_wouldHalve ∈ fx_tb := fx_tb_in (List.mem_of_getElem? (i := 1047) (by decide +kernel)) (by decide +kernel)
theorem kS_X7_wouldHalve : Cond.selects RX7 yX7_wouldHalve yX7_wouldHalve ∈ fx_tb := fx_tb_in (List.mem_of_getElem? (i := 1048) (by decide +kernel)) (by decide +kernel)
theorem kMV_X11_254 : ∀ w ∈ ([.methodLink RX11 254 yX7_wouldHalve, .instanceMethod yX7_wouldHalve, .selects RX7 yX7_wouldHalve yX7_wouldHalve, .initialized RX7] : List Cond), w ∈ fx_tb := fx_l4 kL_X11_254 kI_X7_wouldHalve kS_X7_wouldHalve kN_X7
theorem kC_X7_wouldHalve : Cond.code yX7_wouldHalve cX7_wouldHalve 7 (some .boolean) ∈ fx_tb := fx_tb_in (List.mem_of_getElem? (i := 1049) (by decide +kernel)) (by decide +kernel)
theorem hd_X7_wouldHalve : yX7_wouldHalve.cls = RX7 ∧ yX7_wouldHalve.cls ≠ "java/lang/invoke/MethodHandle" ∧ yX7_wouldHalve.cls ≠ "java/lang/invoke/VarHandle" ∧ (parseMethodDescriptor yX7_wouldHalve.desc).map (fun d => d.parameters.length) = some 5 := by decide +kernel
theorem kL_X11_258 : Cond.methodLink RX11 258 yX5_agreement ∈ fx_tb := fx_tb_in (List.mem_of_getElem? (i := 1056) (by decide +kernel)) (by decide +kernel)
theorem kI_X5_agreement : Cond.instanceMethod yX5_agreement ∈ fx_tb := fx_tb_in (List.mem_of_getElem? (i := 1057) (by decide +kernel)) (by decide +kernel)
theorem kS_X5_agreement : Cond.selects RX5 yX5_agreement yX5_agreement ∈ fx_tb := fx_tb_in (List.mem_of_getElem? (i := 1058) (by decide +kernel)) (by decide +kernel)
theorem kMV_X11_258 : ∀ w ∈ ([.methodLink RX11 258 yX5_agreement, .instanceMethod yX5_agreement, .selects RX5 yX5_agreement yX5_agreement, .initialized RX5] : List Cond), w ∈ fx_tb := fx_l4 kL_X11_258 kI_X5_agreement kS_X5_agreement kN_X5
theorem kC_X5_agreement : Cond.code yX5_agreement cX5_agreement 3 (some .int) ∈ fx_tb := fx_tb_in (List.mem_of_getElem? (i := 1059) (by decide +kernel)) (by decide +kernel)
theorem hd_X5_agreement : yX5_agreement.cls = RX5 ∧ yX5_agreement.cls ≠ "java/lang/invoke/MethodHandle" ∧ yX5_agreement.cls ≠ "java/lang/invoke/VarHandle" ∧ (parseMethodDescriptor yX5_agreement.desc).map (fun d => d.parameters.length) = some 2 := by decide +kernel
theorem kL_X11_261 : Cond.methodLink RX11 261 yX5_isFor ∈ fx_tb := fx_tb_in (List.mem_of_getElem? (i := 1069) (by decide +kernel)) (by decide +kernel)
theorem kMV_X11_261 : ∀ w ∈ ([.methodLink RX11 261 yX5_isFor, .instanceMethod yX5_isFor, .selects RX5 yX5_isFor yX5_isFor, .initialized RX5] : List Cond), w ∈ fx_tb := fx_l4 kL_X11_261 kI_X5_isFor kS_X5_isFor kN_X5
theorem kL_X11_264 : Cond.methodLink RX11 264 yX6_put ∈ fx_tb := fx_tb_in (List.mem_of_getElem? (i := 1078) (by decide +kernel)) (by decide +kernel)
theorem kMV_X11_264 : ∀ w ∈ ([.methodLink RX11 264 yX6_put, .instanceMethod yX6_put, .selects RX6 yX6_put yX6_put, .initialized RX6] : List Cond), w ∈ fx_tb := fx_l4 kL_X11_264 kI_X6_put kS_X6_put kN_X6
theorem kL_X11_268 : Cond.methodLink RX11 268 yX6_lookAhead ∈ fx_tb := fx_tb_in (List.mem_of_getElem? (i := 1086) (by decide +kernel)) (by decide +kernel)
theorem kI_X6_lookAhead : Cond.instanceMethod yX6_lookAhead ∈ fx_tb := fx_tb_in (List.mem_of_getElem? (i := 1087) (by decide +kernel)) (by decide +kernel)
theorem kS_X6_lookAhead : Cond.selects RX6 yX6_lookAhead yX6_lookAhead ∈ fx_tb := fx_tb_in (List.mem_of_getElem? (i := 1088) (by decide +kernel)) (by decide +kernel)
theorem kMV_X11_268 : ∀ w ∈ ([.methodLink RX11 268 yX6_lookAhead, .instanceMethod yX6_lookAhead, .selects RX6 yX6_lookAhead yX6_lookAhead, .initialized RX6] : List Cond), w ∈ fx_tb := fx_l4 kL_X11_268 kI_X6_lookAhead kS_X6_lookAhead kN_X6
theorem kC_X6_lookAhead : Cond.code yX6_lookAhead cX6_lookAhead 4 none ∈ fx_tb := fx_tb_in (List.mem_of_getElem? (i := 1089) (by decide +kernel)) (by decide +kernel)
theorem hd_X6_lookAhead : yX6_lookAhead.cls = RX6 ∧ yX6_lookAhead.cls ≠ "java/lang/invoke/MethodHandle" ∧ yX6_lookAhead.cls ≠ "java/lang/invoke/VarHandle" ∧ (parseMethodDescriptor yX6_lookAhead.desc).map (fun d => d.parameters.length) = some 2 := by decide +kernel
theorem kL_X11_272 : Cond.methodLink RX11 272 yX6_allows ∈ fx_tb := fx_tb_in (List.mem_of_getElem? (i := 1094) (by decide +kernel)) (by decide +kernel)
theorem kMV_X11_272 : ∀ w ∈ ([.methodLink RX11 272 yX6_allows, .instanceMethod yX6_allows, .selects RX6 yX6_allows yX6_allows, .initialized RX6] : List Cond), w ∈ fx_tb := fx_l4 kL_X11_272 kI_X6_allows kS_X6_allows kN_X6
theorem kL_X11_275 : Cond.methodLink RX11 275 yX6_bestQuestion ∈ fx_tb := fx_tb_in (List.mem_of_getElem? (i := 1102) (by decide +kernel)) (by decide +kernel)
theorem kI_X6_bestQuestion : Cond.instanceMethod yX6_bestQuestion ∈ fx_tb := fx_tb_in (List.mem_of_getElem? (i := 1103) (by decide +kernel)) (by decide +kernel)
theorem kS_X6_bestQuestion : Cond.selects RX6 yX6_bestQuestion yX6_bestQuestion ∈ fx_tb := fx_tb_in (List.mem_of_getElem? (i := 1104) (by decide +kernel)) (by decide +kernel)
theorem kMV_X11_275 : ∀ w ∈ ([.methodLink RX11 275 yX6_bestQuestion, .instanceMethod yX6_bestQuestion, .selects RX6 yX6_bestQuestion yX6_bestQuestion, .initialized RX6] : List Cond), w ∈ fx_tb := fx_l4 kL_X11_275 kI_X6_bestQuestion kS_X6_bestQuestion kN_X6
theorem kC_X6_bestQuestion : Cond.code yX6_bestQuestion cX6_bestQuestion 7 (some .int) ∈ fx_tb := fx_tb_in (List.mem_of_getElem? (i := 1105) (by decide +kernel)) (by decide +kernel)
theorem hd_X6_bestQuestion : yX6_bestQuestion.cls = RX6 ∧ yX6_bestQuestion.cls ≠ "java/lang/invoke/MethodHandle" ∧ yX6_bestQuestion.cls ≠ "java/lang/invoke/VarHandle" ∧ (parseMethodDescriptor yX6_bestQuestion.desc).map (fun d => d.parameters.length) = some 0 := by decide +kernel
theorem kL_X11_278 : Cond.methodLink RX11 278 yX11_finedWays ∈ fx_tb := fx_tb_in (List.mem_of_getElem? (i := 1116) (by decide +kernel)) (by decide +kernel)
theorem kI_X11_finedWays : Cond.instanceMethod yX11_finedWays ∈ fx_tb := fx_tb_in (List.mem_of_getElem? (i := 1118) (by decide +kernel)) (by decide +kernel)
theorem kS_X11_finedWays : Cond.selects RX11 yX11_finedWays yX11_finedWays ∈ fx_tb := fx_tb_in (List.mem_of_getElem? (i := 27) (by decide +kernel)) (by decide +kernel)
theorem kMV_X11_278 : ∀ w ∈ ([.methodLink RX11 278 yX11_finedWays, .instanceMethod yX11_finedWays, .selects RX11 yX11_finedWays yX11_finedWays, .initialized RX11] : List Cond), w ∈ fx_tb := fx_l4 kL_X11_278 kI_X11_finedWays kS_X11_finedWays kN_X11
theorem kC_X11_finedWays : Cond.code yX11_finedWays cX11_finedWays 11 (some .int) ∈ fx_tb := fx_tb_in (List.mem_of_getElem? (i := 1119) (by decide +kernel)) (by decide +kernel)
theorem hd_X11_finedWays : yX11_finedWays.cls = RX11 ∧ yX11_finedWays.cls ≠ "java/lang/invoke/MethodHandle" ∧ yX11_finedWays.cls ≠ "java/lang/invoke/VarHandle" ∧ (parseMethodDescriptor yX11_finedWays.desc).map (fun d => d.parameters.length) = some 5 := by decide +kernel
theorem kK_X11_342 : Cond.constantLong RX11 342 1103515245 ∈ fx_tb := fx_tb_in (List.mem_of_getElem? (i := 1131) (by decide +kernel)) (by decide +kernel)
theorem kK_X11_344 : Cond.constantLong RX11 344 12345 ∈ fx_tb := fx_tb_in (List.mem_of_getElem? (i := 1132) (by decide +kernel)) (by decide +kernel)
theorem kK_X11_346 : Cond.constantLong RX11 346 2147483648 ∈ fx_tb := fx_tb_in (List.mem_of_getElem? (i := 1133) (by decide +kernel)) (by decide +kernel)
theorem kK_X11_348 : Cond.constantLong RX11 348 65536 ∈ fx_tb := fx_tb_in (List.mem_of_getElem? (i := 1137) (by decide +kernel)) (by decide +kernel)
theorem kL_X11_335 : Cond.methodLink RX11 335 yX11_nextDraw ∈ fx_tb := fx_tb_in (List.mem_of_getElem? (i := 1128) (by decide +kernel)) (by decide +kernel)
theorem kT_X11_nextDraw : Cond.static yX11_nextDraw ∈ fx_tb := fx_tb_in (List.mem_of_getElem? (i := 1129) (by decide +kernel)) (by decide +kernel)
theorem kNy_X11_nextDraw : Cond.initialized yX11_nextDraw.cls ∈ fx_tb := fx_tb_in (List.mem_of_getElem? (i := 95) (by decide +kernel)) (by decide +kernel)
theorem kMS_X11_335 : ∀ w ∈ ([.methodLink RX11 335 yX11_nextDraw, .static yX11_nextDraw, .initialized yX11_nextDraw.cls] : List Cond), w ∈ fx_tb := fx_l3 kL_X11_335 kT_X11_nextDraw kNy_X11_nextDraw
theorem kC_X11_nextDraw : Cond.code yX11_nextDraw cX11_nextDraw 2 (some .long) ∈ fx_tb := fx_tb_in (List.mem_of_getElem? (i := 1130) (by decide +kernel)) (by decide +kernel)
theorem hd_X11_nextDraw : yX11_nextDraw.cls = RX11 ∧ yX11_nextDraw.cls ≠ "java/lang/invoke/MethodHandle" ∧ yX11_nextDraw.cls ≠ "java/lang/invoke/VarHandle" ∧ (parseMethodDescriptor yX11_nextDraw.desc).map (fun d => d.parameters.length) = some 1 := by decide +kernel
theorem kL_X11_338 : Cond.methodLink RX11 338 yX11_drawn ∈ fx_tb := fx_tb_in (List.mem_of_getElem? (i := 1134) (by decide +kernel)) (by decide +kernel)
theorem kT_X11_drawn : Cond.static yX11_drawn ∈ fx_tb := fx_tb_in (List.mem_of_getElem? (i := 1135) (by decide +kernel)) (by decide +kernel)
theorem kNy_X11_drawn : Cond.initialized yX11_drawn.cls ∈ fx_tb := fx_tb_in (List.mem_of_getElem? (i := 95) (by decide +kernel)) (by decide +kernel)
theorem kMS_X11_338 : ∀ w ∈ ([.methodLink RX11 338 yX11_drawn, .static yX11_drawn, .initialized yX11_drawn.cls] : List Cond), w ∈ fx_tb := fx_l3 kL_X11_338 kT_X11_drawn kNy_X11_drawn
theorem kC_X11_drawn : Cond.code yX11_drawn cX11_drawn 3 (some .int) ∈ fx_tb := fx_tb_in (List.mem_of_getElem? (i := 1136) (by decide +kernel)) (by decide +kernel)
theorem hd_X11_drawn : yX11_drawn.cls = RX11 ∧ yX11_drawn.cls ≠ "java/lang/invoke/MethodHandle" ∧ yX11_drawn.cls ≠ "java/lang/invoke/VarHandle" ∧ (parseMethodDescriptor yX11_drawn.desc).map (fun d => d.parameters.length) = some 2 := by decide +kernel
theorem kL_X11_304 : Cond.methodLink RX11 304 yX7_allDone ∈ fx_tb := fx_tb_in (List.mem_of_getElem? (i := 1138) (by decide +kernel)) (by decide +kernel)
theorem kI_X7_allDone : Cond.instanceMethod yX7_allDone ∈ fx_tb := fx_tb_in (List.mem_of_getElem? (i := 1139) (by decide +kernel)) (by decide +kernel)
theorem kS_X7_allDone : Cond.selects RX7 yX7_allDone yX7_allDone ∈ fx_tb := fx_tb_in (List.mem_of_getElem? (i := 1140) (by decide +kernel)) (by decide +kernel)
theorem kMV_X11_304 : ∀ w ∈ ([.methodLink RX11 304 yX7_allDone, .instanceMethod yX7_allDone, .selects RX7 yX7_allDone yX7_allDone, .initialized RX7] : List Cond), w ∈ fx_tb := fx_l4 kL_X11_304 kI_X7_allDone kS_X7_allDone kN_X7
theorem kC_X7_allDone : Cond.code yX7_allDone cX7_allDone 3 (some .int) ∈ fx_tb := fx_tb_in (List.mem_of_getElem? (i := 1141) (by decide +kernel)) (by decide +kernel)
theorem hd_X7_allDone : yX7_allDone.cls = RX7 ∧ yX7_allDone.cls ≠ "java/lang/invoke/MethodHandle" ∧ yX7_allDone.cls ≠ "java/lang/invoke/VarHandle" ∧ (parseMethodDescriptor yX7_allDone.desc).map (fun d => d.parameters.length) = some 0 := by decide +kernel
theorem kF_X11_301 : Cond.fieldLink RX11 301 (TX7 4).1 (TX7 4).2.1 (TX7 4).2.2.1 ∈ fx_tb := fx_tb_in (List.mem_of_getElem? (i := 323) (by decide +kernel)) (by decide +kernel)
theorem kL_X11_297 : Cond.methodLink RX11 297 yX11_drawDeed ∈ fx_tb := fx_tb_in (List.mem_of_getElem? (i := 1124) (by decide +kernel)) (by decide +kernel)
theorem kI_X11_drawDeed : Cond.instanceMethod yX11_drawDeed ∈ fx_tb := fx_tb_in (List.mem_of_getElem? (i := 1126) (by decide +kernel)) (by decide +kernel)
theorem kS_X11_drawDeed : Cond.selects RX11 yX11_drawDeed yX11_drawDeed ∈ fx_tb := fx_tb_in (List.mem_of_getElem? (i := 28) (by decide +kernel)) (by decide +kernel)
theorem kMV_X11_297 : ∀ w ∈ ([.methodLink RX11 297 yX11_drawDeed, .instanceMethod yX11_drawDeed, .selects RX11 yX11_drawDeed yX11_drawDeed, .initialized RX11] : List Cond), w ∈ fx_tb := fx_l4 kL_X11_297 kI_X11_drawDeed kS_X11_drawDeed kN_X11
theorem kC_X11_drawDeed : Cond.code yX11_drawDeed cX11_drawDeed 8 (some .long) ∈ fx_tb := fx_tb_in (List.mem_of_getElem? (i := 1127) (by decide +kernel)) (by decide +kernel)
theorem hd_X11_drawDeed : yX11_drawDeed.cls = RX11 ∧ yX11_drawDeed.cls ≠ "java/lang/invoke/MethodHandle" ∧ yX11_drawDeed.cls ≠ "java/lang/invoke/VarHandle" ∧ (parseMethodDescriptor yX11_drawDeed.desc).map (fun d => d.parameters.length) = some 1 := by decide +kernel
theorem kF_X11_315 : Cond.fieldLink RX11 315 (TX3 1).1 (TX3 1).2.1 (TX3 1).2.2.1 ∈ fx_tb := fx_tb_in (List.mem_of_getElem? (i := 389) (by decide +kernel)) (by decide +kernel)
theorem kF_X11_318 : Cond.fieldLink RX11 318 (TX3 2).1 (TX3 2).2.1 (TX3 2).2.2.1 ∈ fx_tb := fx_tb_in (List.mem_of_getElem? (i := 391) (by decide +kernel)) (by decide +kernel)
theorem kL_X11_319 : Cond.methodLink RX11 319 yX8_copyOf ∈ fx_tb := fx_tb_in (List.mem_of_getElem? (i := 1161) (by decide +kernel)) (by decide +kernel)
theorem kMV_X11_319 : ∀ w ∈ ([.methodLink RX11 319 yX8_copyOf, .instanceMethod yX8_copyOf, .selects RX8 yX8_copyOf yX8_copyOf, .initialized RX8] : List Cond), w ∈ fx_tb := fx_l4 kL_X11_319 kI_X8_copyOf kS_X8_copyOf kN_X8
theorem kF_X11_322 : Cond.fieldLink RX11 322 (TX3 3).1 (TX3 3).2.1 (TX3 3).2.2.1 ∈ fx_tb := fx_tb_in (List.mem_of_getElem? (i := 393) (by decide +kernel)) (by decide +kernel)
theorem kL_X11_323 : Cond.methodLink RX11 323 yX6_copyOf ∈ fx_tb := fx_tb_in (List.mem_of_getElem? (i := 1162) (by decide +kernel)) (by decide +kernel)
theorem kMV_X11_323 : ∀ w ∈ ([.methodLink RX11 323 yX6_copyOf, .instanceMethod yX6_copyOf, .selects RX6 yX6_copyOf yX6_copyOf, .initialized RX6] : List Cond), w ∈ fx_tb := fx_l4 kL_X11_323 kI_X6_copyOf kS_X6_copyOf kN_X6
theorem kL_X11_307 : Cond.methodLink RX11 307 yX3_lay ∈ fx_tb := fx_tb_in (List.mem_of_getElem? (i := 1146) (by decide +kernel)) (by decide +kernel)
theorem kI_X3_lay : Cond.instanceMethod yX3_lay ∈ fx_tb := fx_tb_in (List.mem_of_getElem? (i := 1147) (by decide +kernel)) (by decide +kernel)
theorem kS_X3_lay : Cond.selects RX3 yX3_lay yX3_lay ∈ fx_tb := fx_tb_in (List.mem_of_getElem? (i := 1148) (by decide +kernel)) (by decide +kernel)
theorem kN_X3 : Cond.initialized RX3 ∈ fx_tb := fx_tb_in (List.mem_of_getElem? (i := 105) (by decide +kernel)) (by decide +kernel)
theorem kMV_X11_307 : ∀ w ∈ ([.methodLink RX11 307 yX3_lay, .instanceMethod yX3_lay, .selects RX3 yX3_lay yX3_lay, .initialized RX3] : List Cond), w ∈ fx_tb := fx_l4 kL_X11_307 kI_X3_lay kS_X3_lay kN_X3
theorem kC_X3_lay : Cond.code yX3_lay cX3_lay 4 none ∈ fx_tb := fx_tb_in (List.mem_of_getElem? (i := 1149) (by decide +kernel)) (by decide +kernel)
theorem hd_X3_lay : yX3_lay.cls = RX3 ∧ yX3_lay.cls ≠ "java/lang/invoke/MethodHandle" ∧ yX3_lay.cls ≠ "java/lang/invoke/VarHandle" ∧ (parseMethodDescriptor yX3_lay.desc).map (fun d => d.parameters.length) = some 3 := by decide +kernel
theorem kF_X11_326 : Cond.fieldLink RX11 326 (TX5 9).1 (TX5 9).2.1 (TX5 9).2.2.1 ∈ fx_tb := fx_tb_in (List.mem_of_getElem? (i := 246) (by decide +kernel)) (by decide +kernel)
theorem kL_X11_350 : Cond.methodLink RX11 350 yX11_gain ∈ fx_tb := fx_tb_in (List.mem_of_getElem? (i := 1246) (by decide +kernel)) (by decide +kernel)
theorem kT_X11_gain : Cond.static yX11_gain ∈ fx_tb := fx_tb_in (List.mem_of_getElem? (i := 1247) (by decide +kernel)) (by decide +kernel)
theorem kNy_X11_gain : Cond.initialized yX11_gain.cls ∈ fx_tb := fx_tb_in (List.mem_of_getElem? (i := 95) (by decide +kernel)) (by decide +kernel)
theorem kMS_X11_350 : ∀ w ∈ ([.methodLink RX11 350 yX11_gain, .static yX11_gain, .initialized yX11_gain.cls] : List Cond), w ∈ fx_tb := fx_l3 kL_X11_350 kT_X11_gain kNy_X11_gain
theorem kC_X11_gain : Cond.code yX11_gain cX11_gain 5 (some .int) ∈ fx_tb := fx_tb_in (List.mem_of_getElem? (i := 1248) (by decide +kernel)) (by decide +kernel)
theorem hd_X11_gain : yX11_gain.cls = RX11 ∧ yX11_gain.cls ≠ "java/lang/invoke/MethodHandle" ∧ yX11_gain.cls ≠ "java/lang/invoke/VarHandle" ∧ (parseMethodDescriptor yX11_gain.desc).map (fun d => d.parameters.length) = some 5 := by decide +kernel
theorem inT_X12 : ∀ w ∈ u_ws RX12 TX12 55, w ∈ fx_tb := fx_inws [1315, 1317, 1319, 1321, 1323, 1325, 1327, 1329, 1331, 1333, 1335, 1337, 1339, 1341, 1343, 1345, 1347, 1349, 1351, 1353, 1355, 1357, 1359, 1361, 1363, 1365, 1367, 1369, 1371, 1373, 1375, 1377, 1379, 1381, 1383, 1385, 1387, 1389, 1391, 1393, 1395, 1397, 1399, 1401, 1403, 1405, 1407, 1409, 1411, 1413, 1415, 1417, 1419, 1421, 1423] (by decide +kernel)
theorem kF_X12_133 : Cond.fieldLink RX12 133 (TX12 0).1 (TX12 0).2.1 (TX12 0).2.2.1 ∈ fx_tb := fx_tb_in (List.mem_of_getElem? (i := 1260) (by decide +kernel)) (by decide +kernel)
theorem kF_X12_139 : Cond.fieldLink RX12 139 (TX12 1).1 (TX12 1).2.1 (TX12 1).2.2.1 ∈ fx_tb := fx_tb_in (List.mem_of_getElem? (i := 1261) (by decide +kernel)) (by decide +kernel)
theorem kK_X12_137 : Cond.constantLong RX12 137 255 ∈ fx_tb := fx_tb_in (List.mem_of_getElem? (i := 1434) (by decide +kernel)) (by decide +kernel)
theorem kF_X12_7 : Cond.fieldLink RX12 7 (TX12 2).1 (TX12 2).2.1 (TX12 2).2.2.1 ∈ fx_tb := fx_tb_in (List.mem_of_getElem? (i := 1262) (by decide +kernel)) (by decide +kernel)
theorem kF_X12_142 : Cond.fieldLink RX12 142 (TX12 3).1 (TX12 3).2.1 (TX12 3).2.2.1 ∈ fx_tb := fx_tb_in (List.mem_of_getElem? (i := 1263) (by decide +kernel)) (by decide +kernel)
theorem kF_X12_145 : Cond.fieldLink RX12 145 (TX12 4).1 (TX12 4).2.1 (TX12 4).2.2.1 ∈ fx_tb := fx_tb_in (List.mem_of_getElem? (i := 1264) (by decide +kernel)) (by decide +kernel)
theorem kF_X12_148 : Cond.fieldLink RX12 148 (TX12 5).1 (TX12 5).2.1 (TX12 5).2.2.1 ∈ fx_tb := fx_tb_in (List.mem_of_getElem? (i := 1265) (by decide +kernel)) (by decide +kernel)
theorem kF_X12_151 : Cond.fieldLink RX12 151 (TX12 7).1 (TX12 7).2.1 (TX12 7).2.2.1 ∈ fx_tb := fx_tb_in (List.mem_of_getElem? (i := 1267) (by decide +kernel)) (by decide +kernel)
theorem kF_X12_155 : Cond.fieldLink RX12 155 (TX12 8).1 (TX12 8).2.1 (TX12 8).2.2.1 ∈ fx_tb := fx_tb_in (List.mem_of_getElem? (i := 1268) (by decide +kernel)) (by decide +kernel)
theorem kF_X12_158 : Cond.fieldLink RX12 158 (TX12 6).1 (TX12 6).2.1 (TX12 6).2.2.1 ∈ fx_tb := fx_tb_in (List.mem_of_getElem? (i := 1266) (by decide +kernel)) (by decide +kernel)
theorem kL_X12_161 : Cond.methodLink RX12 161 yX12_signAt ∈ fx_tb := fx_tb_in (List.mem_of_getElem? (i := 1451) (by decide +kernel)) (by decide +kernel)
theorem kI_X12_signAt : Cond.instanceMethod yX12_signAt ∈ fx_tb := fx_tb_in (List.mem_of_getElem? (i := 1453) (by decide +kernel)) (by decide +kernel)
theorem kS_X12_signAt : Cond.selects RX12 yX12_signAt yX12_signAt ∈ fx_tb := fx_tb_in (List.mem_of_getElem? (i := 34) (by decide +kernel)) (by decide +kernel)
theorem kN_X12 : Cond.initialized RX12 ∈ fx_tb := fx_tb_in (List.mem_of_getElem? (i := 106) (by decide +kernel)) (by decide +kernel)
theorem kMV_X12_161 : ∀ w ∈ ([.methodLink RX12 161 yX12_signAt, .instanceMethod yX12_signAt, .selects RX12 yX12_signAt yX12_signAt, .initialized RX12] : List Cond), w ∈ fx_tb := fx_l4 kL_X12_161 kI_X12_signAt kS_X12_signAt kN_X12
theorem kC_X12_signAt : Cond.code yX12_signAt cX12_signAt 2 (some .int) ∈ fx_tb := fx_tb_in (List.mem_of_getElem? (i := 1454) (by decide +kernel)) (by decide +kernel)
theorem hd_X12_signAt : yX12_signAt.cls = RX12 ∧ yX12_signAt.cls ≠ "java/lang/invoke/MethodHandle" ∧ yX12_signAt.cls ≠ "java/lang/invoke/VarHandle" ∧ (parseMethodDescriptor yX12_signAt.desc).map (fun d => d.parameters.length) = some 1 := by decide +kernel
theorem kK_X12_165 : Cond.constantLong RX12 165 27 ∈ fx_tb := fx_tb_in (List.mem_of_getElem? (i := 1455) (by decide +kernel)) (by decide +kernel)
theorem kK_X12_167 : Cond.constantLong RX12 167 96 ∈ fx_tb := fx_tb_in (List.mem_of_getElem? (i := 1456) (by decide +kernel)) (by decide +kernel)
theorem kF_X12_169 : Cond.fieldLink RX12 169 (TX12 9).1 (TX12 9).2.1 (TX12 9).2.2.1 ∈ fx_tb := fx_tb_in (List.mem_of_getElem? (i := 1269) (by decide +kernel)) (by decide +kernel)
theorem kF_X12_13 : Cond.fieldLink RX12 13 (TX12 10).1 (TX12 10).2.1 (TX12 10).2.2.1 ∈ fx_tb := fx_tb_in (List.mem_of_getElem? (i := 1270) (by decide +kernel)) (by decide +kernel)
theorem kF_X12_44 : Cond.fieldLink RX12 44 (TX12 20).1 (TX12 20).2.1 (TX12 20).2.2.1 ∈ fx_tb := fx_tb_in (List.mem_of_getElem? (i := 1280) (by decide +kernel)) (by decide +kernel)
theorem kF_X12_172 : Cond.fieldLink RX12 172 (TX12 21).1 (TX12 21).2.1 (TX12 21).2.2.1 ∈ fx_tb := fx_tb_in (List.mem_of_getElem? (i := 1281) (by decide +kernel)) (by decide +kernel)
theorem kK_X12_175 : Cond.constantLong RX12 175 528 ∈ fx_tb := fx_tb_in (List.mem_of_getElem? (i := 1557) (by decide +kernel)) (by decide +kernel)
theorem kK_X12_177 : Cond.constantLong RX12 177 158523 ∈ fx_tb := fx_tb_in (List.mem_of_getElem? (i := 1558) (by decide +kernel)) (by decide +kernel)
theorem kK_X12_179 : Cond.constantLong RX12 179 12001681 ∈ fx_tb := fx_tb_in (List.mem_of_getElem? (i := 1559) (by decide +kernel)) (by decide +kernel)
theorem kK_X12_181 : Cond.constantLong RX12 181 80006 ∈ fx_tb := fx_tb_in (List.mem_of_getElem? (i := 1560) (by decide +kernel)) (by decide +kernel)
theorem kF_X12_50 : Cond.fieldLink RX12 50 (TX12 24).1 (TX12 24).2.1 (TX12 24).2.2.1 ∈ fx_tb := fx_tb_in (List.mem_of_getElem? (i := 1284) (by decide +kernel)) (by decide +kernel)
theorem kL_X12_193 : Cond.methodLink RX12 193 yX12_isSign ∈ fx_tb := fx_tb_in (List.mem_of_getElem? (i := 1521) (by decide +kernel)) (by decide +kernel)
theorem kI_X12_isSign : Cond.instanceMethod yX12_isSign ∈ fx_tb := fx_tb_in (List.mem_of_getElem? (i := 1523) (by decide +kernel)) (by decide +kernel)
theorem kS_X12_isSign : Cond.selects RX12 yX12_isSign yX12_isSign ∈ fx_tb := fx_tb_in (List.mem_of_getElem? (i := 45) (by decide +kernel)) (by decide +kernel)
theorem kMV_X12_193 : ∀ w ∈ ([.methodLink RX12 193 yX12_isSign, .instanceMethod yX12_isSign, .selects RX12 yX12_isSign yX12_isSign, .initialized RX12] : List Cond), w ∈ fx_tb := fx_l4 kL_X12_193 kI_X12_isSign kS_X12_isSign kN_X12
theorem kC_X12_isSign : Cond.code yX12_isSign cX12_isSign 2 (some .boolean) ∈ fx_tb := fx_tb_in (List.mem_of_getElem? (i := 1524) (by decide +kernel)) (by decide +kernel)
theorem hd_X12_isSign : yX12_isSign.cls = RX12 ∧ yX12_isSign.cls ≠ "java/lang/invoke/MethodHandle" ∧ yX12_isSign.cls ≠ "java/lang/invoke/VarHandle" ∧ (parseMethodDescriptor yX12_isSign.desc).map (fun d => d.parameters.length) = some 1 := by decide +kernel
theorem kL_X12_203 : Cond.methodLink RX12 203 yX12_nextToken ∈ fx_tb := fx_tb_in (List.mem_of_getElem? (i := 1447) (by decide +kernel)) (by decide +kernel)
theorem kI_X12_nextToken : Cond.instanceMethod yX12_nextToken ∈ fx_tb := fx_tb_in (List.mem_of_getElem? (i := 1449) (by decide +kernel)) (by decide +kernel)
theorem kS_X12_nextToken : Cond.selects RX12 yX12_nextToken yX12_nextToken ∈ fx_tb := fx_tb_in (List.mem_of_getElem? (i := 33) (by decide +kernel)) (by decide +kernel)
theorem kMV_X12_203 : ∀ w ∈ ([.methodLink RX12 203 yX12_nextToken, .instanceMethod yX12_nextToken, .selects RX12 yX12_nextToken yX12_nextToken, .initialized RX12] : List Cond), w ∈ fx_tb := fx_l4 kL_X12_203 kI_X12_nextToken kS_X12_nextToken kN_X12
theorem kC_X12_nextToken : Cond.code yX12_nextToken cX12_nextToken 2 none ∈ fx_tb := fx_tb_in (List.mem_of_getElem? (i := 1450) (by decide +kernel)) (by decide +kernel)
theorem hd_X12_nextToken : yX12_nextToken.cls = RX12 ∧ yX12_nextToken.cls ≠ "java/lang/invoke/MethodHandle" ∧ yX12_nextToken.cls ≠ "java/lang/invoke/VarHandle" ∧ (parseMethodDescriptor yX12_nextToken.desc).map (fun d => d.parameters.length) = some 0 := by decide +kernel
theorem kL_X12_200 : Cond.methodLink RX12 200 yX12_puts ∈ fx_tb := fx_tb_in (List.mem_of_getElem? (i := 1561) (by decide +kernel)) (by decide +kernel)
theorem kI_X12_puts : Cond.instanceMethod yX12_puts ∈ fx_tb := fx_tb_in (List.mem_of_getElem? (i := 1563) (by decide +kernel)) (by decide +kernel)
theorem kS_X12_puts : Cond.selects RX12 yX12_puts yX12_puts ∈ fx_tb := fx_tb_in (List.mem_of_getElem? (i := 54) (by decide +kernel)) (by decide +kernel)
theorem kMV_X12_200 : ∀ w ∈ ([.methodLink RX12 200 yX12_puts, .instanceMethod yX12_puts, .selects RX12 yX12_puts yX12_puts, .initialized RX12] : List Cond), w ∈ fx_tb := fx_l4 kL_X12_200 kI_X12_puts kS_X12_puts kN_X12
theorem kC_X12_puts : Cond.code yX12_puts cX12_puts 2 none ∈ fx_tb := fx_tb_in (List.mem_of_getElem? (i := 1564) (by decide +kernel)) (by decide +kernel)
theorem hd_X12_puts : yX12_puts.cls = RX12 ∧ yX12_puts.cls ≠ "java/lang/invoke/MethodHandle" ∧ yX12_puts.cls ≠ "java/lang/invoke/VarHandle" ∧ (parseMethodDescriptor yX12_puts.desc).map (fun d => d.parameters.length) = some 1 := by decide +kernel
theorem kK_X12_206 : Cond.constantLong RX12 206 1111 ∈ fx_tb := fx_tb_in (List.mem_of_getElem? (i := 1495) (by decide +kernel)) (by decide +kernel)
theorem kL_X12_189 : Cond.methodLink RX12 189 yX12_isWord ∈ fx_tb := fx_tb_in (List.mem_of_getElem? (i := 1458) (by decide +kernel)) (by decide +kernel)
theorem kI_X12_isWord : Cond.instanceMethod yX12_isWord ∈ fx_tb := fx_tb_in (List.mem_of_getElem? (i := 1460) (by decide +kernel)) (by decide +kernel)
theorem kS_X12_isWord : Cond.selects RX12 yX12_isWord yX12_isWord ∈ fx_tb := fx_tb_in (List.mem_of_getElem? (i := 35) (by decide +kernel)) (by decide +kernel)
theorem kMV_X12_189 : ∀ w ∈ ([.methodLink RX12 189 yX12_isWord, .instanceMethod yX12_isWord, .selects RX12 yX12_isWord yX12_isWord, .initialized RX12] : List Cond), w ∈ fx_tb := fx_l4 kL_X12_189 kI_X12_isWord kS_X12_isWord kN_X12
theorem kC_X12_isWord : Cond.code yX12_isWord cX12_isWord 3 (some .boolean) ∈ fx_tb := fx_tb_in (List.mem_of_getElem? (i := 1461) (by decide +kernel)) (by decide +kernel)
theorem hd_X12_isWord : yX12_isWord.cls = RX12 ∧ yX12_isWord.cls ≠ "java/lang/invoke/MethodHandle" ∧ yX12_isWord.cls ≠ "java/lang/invoke/VarHandle" ∧ (parseMethodDescriptor yX12_isWord.desc).map (fun d => d.parameters.length) = some 1 := by decide +kernel
theorem kK_X12_208 : Cond.constantLong RX12 208 423 ∈ fx_tb := fx_tb_in (List.mem_of_getElem? (i := 1496) (by decide +kernel)) (by decide +kernel)
theorem kL_X12_197 : Cond.methodLink RX12 197 yX12_fails ∈ fx_tb := fx_tb_in (List.mem_of_getElem? (i := 1466) (by decide +kernel)) (by decide +kernel)
theorem kI_X12_fails : Cond.instanceMethod yX12_fails ∈ fx_tb := fx_tb_in (List.mem_of_getElem? (i := 1468) (by decide +kernel)) (by decide +kernel)
theorem kS_X12_fails : Cond.selects RX12 yX12_fails yX12_fails ∈ fx_tb := fx_tb_in (List.mem_of_getElem? (i := 37) (by decide +kernel)) (by decide +kernel)
theorem kMV_X12_197 : ∀ w ∈ ([.methodLink RX12 197 yX12_fails, .instanceMethod yX12_fails, .selects RX12 yX12_fails yX12_fails, .initialized RX12] : List Cond), w ∈ fx_tb := fx_l4 kL_X12_197 kI_X12_fails kS_X12_fails kN_X12
theorem kC_X12_fails : Cond.code yX12_fails cX12_fails 2 (some .boolean) ∈ fx_tb := fx_tb_in (List.mem_of_getElem? (i := 1469) (by decide +kernel)) (by decide +kernel)
theorem hd_X12_fails : yX12_fails.cls = RX12 ∧ yX12_fails.cls ≠ "java/lang/invoke/MethodHandle" ∧ yX12_fails.cls ≠ "java/lang/invoke/VarHandle" ∧ (parseMethodDescriptor yX12_fails.desc).map (fun d => d.parameters.length) = some 1 := by decide +kernel
theorem kF_X12_47 : Cond.fieldLink RX12 47 (TX12 23).1 (TX12 23).2.1 (TX12 23).2.2.1 ∈ fx_tb := fx_tb_in (List.mem_of_getElem? (i := 1283) (by decide +kernel)) (by decide +kernel)
theorem kL_X12_183 : Cond.methodLink RX12 183 yX12_fact ∈ fx_tb := fx_tb_in (List.mem_of_getElem? (i := 1553) (by decide +kernel)) (by decide +kernel)
theorem kI_X12_fact : Cond.instanceMethod yX12_fact ∈ fx_tb := fx_tb_in (List.mem_of_getElem? (i := 1555) (by decide +kernel)) (by decide +kernel)
theorem kS_X12_fact : Cond.selects RX12 yX12_fact yX12_fact ∈ fx_tb := fx_tb_in (List.mem_of_getElem? (i := 53) (by decide +kernel)) (by decide +kernel)
theorem kMV_X12_183 : ∀ w ∈ ([.methodLink RX12 183 yX12_fact, .instanceMethod yX12_fact, .selects RX12 yX12_fact yX12_fact, .initialized RX12] : List Cond), w ∈ fx_tb := fx_l4 kL_X12_183 kI_X12_fact kS_X12_fact kN_X12
theorem kC_X12_fact : Cond.code yX12_fact cX12_fact 1 (some .int) ∈ fx_tb := fx_tb_in (List.mem_of_getElem? (i := 1556) (by decide +kernel)) (by decide +kernel)
theorem hd_X12_fact : yX12_fact.cls = RX12 ∧ yX12_fact.cls ≠ "java/lang/invoke/MethodHandle" ∧ yX12_fact.cls ≠ "java/lang/invoke/VarHandle" ∧ (parseMethodDescriptor yX12_fact.desc).map (fun d => d.parameters.length) = some 0 := by decide +kernel
theorem kK_X12_187 : Cond.constantLong RX12 187 10631 ∈ fx_tb := fx_tb_in (List.mem_of_getElem? (i := 1494) (by decide +kernel)) (by decide +kernel)
theorem kF_X12_57 : Cond.fieldLink RX12 57 (TX12 26).1 (TX12 26).2.1 (TX12 26).2.2.1 ∈ fx_tb := fx_tb_in (List.mem_of_getElem? (i := 1286) (by decide +kernel)) (by decide +kernel)
theorem kF_X12_63 : Cond.fieldLink RX12 63 (TX12 28).1 (TX12 28).2.1 (TX12 28).2.2.1 ∈ fx_tb := fx_tb_in (List.mem_of_getElem? (i := 1288) (by decide +kernel)) (by decide +kernel)
theorem kF_X12_66 : Cond.fieldLink RX12 66 (TX12 29).1 (TX12 29).2.1 (TX12 29).2.2.1 ∈ fx_tb := fx_tb_in (List.mem_of_getElem? (i := 1289) (by decide +kernel)) (by decide +kernel)
theorem kF_X12_69 : Cond.fieldLink RX12 69 (TX12 30).1 (TX12 30).2.1 (TX12 30).2.2.1 ∈ fx_tb := fx_tb_in (List.mem_of_getElem? (i := 1290) (by decide +kernel)) (by decide +kernel)
theorem kF_X12_75 : Cond.fieldLink RX12 75 (TX12 32).1 (TX12 32).2.1 (TX12 32).2.2.1 ∈ fx_tb := fx_tb_in (List.mem_of_getElem? (i := 1292) (by decide +kernel)) (by decide +kernel)
theorem kF_X12_72 : Cond.fieldLink RX12 72 (TX12 31).1 (TX12 31).2.1 (TX12 31).2.2.1 ∈ fx_tb := fx_tb_in (List.mem_of_getElem? (i := 1291) (by decide +kernel)) (by decide +kernel)
theorem kL_X12_210 : Cond.methodLink RX12 210 yX12_sums ∈ fx_tb := fx_tb_in (List.mem_of_getElem? (i := 1703) (by decide +kernel)) (by decide +kernel)
theorem kI_X12_sums : Cond.instanceMethod yX12_sums ∈ fx_tb := fx_tb_in (List.mem_of_getElem? (i := 1705) (by decide +kernel)) (by decide +kernel)
theorem kS_X12_sums : Cond.selects RX12 yX12_sums yX12_sums ∈ fx_tb := fx_tb_in (List.mem_of_getElem? (i := 79) (by decide +kernel)) (by decide +kernel)
theorem kMV_X12_210 : ∀ w ∈ ([.methodLink RX12 210 yX12_sums, .instanceMethod yX12_sums, .selects RX12 yX12_sums yX12_sums, .initialized RX12] : List Cond), w ∈ fx_tb := fx_l4 kL_X12_210 kI_X12_sums kS_X12_sums kN_X12
theorem kC_X12_sums : Cond.code yX12_sums cX12_sums 2 none ∈ fx_tb := fx_tb_in (List.mem_of_getElem? (i := 1706) (by decide +kernel)) (by decide +kernel)
theorem hd_X12_sums : yX12_sums.cls = RX12 ∧ yX12_sums.cls ≠ "java/lang/invoke/MethodHandle" ∧ yX12_sums.cls ≠ "java/lang/invoke/VarHandle" ∧ (parseMethodDescriptor yX12_sums.desc).map (fun d => d.parameters.length) = some 1 := by decide +kernel
theorem kF_X12_54 : Cond.fieldLink RX12 54 (TX12 25).1 (TX12 25).2.1 (TX12 25).2.2.1 ∈ fx_tb := fx_tb_in (List.mem_of_getElem? (i := 1285) (by decide +kernel)) (by decide +kernel)
theorem kF_X12_60 : Cond.fieldLink RX12 60 (TX12 27).1 (TX12 27).2.1 (TX12 27).2.2.1 ∈ fx_tb := fx_tb_in (List.mem_of_getElem? (i := 1287) (by decide +kernel)) (by decide +kernel)
theorem kL_X12_213 : Cond.methodLink RX12 213 yX12_opens ∈ fx_tb := fx_tb_in (List.mem_of_getElem? (i := 1699) (by decide +kernel)) (by decide +kernel)
theorem kI_X12_opens : Cond.instanceMethod yX12_opens ∈ fx_tb := fx_tb_in (List.mem_of_getElem? (i := 1701) (by decide +kernel)) (by decide +kernel)
theorem kS_X12_opens : Cond.selects RX12 yX12_opens yX12_opens ∈ fx_tb := fx_tb_in (List.mem_of_getElem? (i := 78) (by decide +kernel)) (by decide +kernel)
theorem kMV_X12_213 : ∀ w ∈ ([.methodLink RX12 213 yX12_opens, .instanceMethod yX12_opens, .selects RX12 yX12_opens yX12_opens, .initialized RX12] : List Cond), w ∈ fx_tb := fx_l4 kL_X12_213 kI_X12_opens kS_X12_opens kN_X12
theorem kC_X12_opens : Cond.code yX12_opens cX12_opens 2 none ∈ fx_tb := fx_tb_in (List.mem_of_getElem? (i := 1702) (by decide +kernel)) (by decide +kernel)
theorem hd_X12_opens : yX12_opens.cls = RX12 ∧ yX12_opens.cls ≠ "java/lang/invoke/MethodHandle" ∧ yX12_opens.cls ≠ "java/lang/invoke/VarHandle" ∧ (parseMethodDescriptor yX12_opens.desc).map (fun d => d.parameters.length) = some 1 := by decide +kernel
theorem kF_X12_38 : Cond.fieldLink RX12 38 (TX12 18).1 (TX12 18).2.1 (TX12 18).2.2.1 ∈ fx_tb := fx_tb_in (List.mem_of_getElem? (i := 1278) (by decide +kernel)) (by decide +kernel)
theorem kL_X12_216 : Cond.methodLink RX12 216 yX12_tests ∈ fx_tb := fx_tb_in (List.mem_of_getElem? (i := 1707) (by decide +kernel)) (by decide +kernel)
theorem kI_X12_tests : Cond.instanceMethod yX12_tests ∈ fx_tb := fx_tb_in (List.mem_of_getElem? (i := 1709) (by decide +kernel)) (by decide +kernel)
theorem kS_X12_tests : Cond.selects RX12 yX12_tests yX12_tests ∈ fx_tb := fx_tb_in (List.mem_of_getElem? (i := 80) (by decide +kernel)) (by decide +kernel)
theorem kMV_X12_216 : ∀ w ∈ ([.methodLink RX12 216 yX12_tests, .instanceMethod yX12_tests, .selects RX12 yX12_tests yX12_tests, .initialized RX12] : List Cond), w ∈ fx_tb := fx_l4 kL_X12_216 kI_X12_tests kS_X12_tests kN_X12
theorem kC_X12_tests : Cond.code yX12_tests cX12_tests 3 none ∈ fx_tb := fx_tb_in (List.mem_of_getElem? (i := 1710) (by decide +kernel)) (by decide +kernel)
theorem hd_X12_tests : yX12_tests.cls = RX12 ∧ yX12_tests.cls ≠ "java/lang/invoke/MethodHandle" ∧ yX12_tests.cls ≠ "java/lang/invoke/VarHandle" ∧ (parseMethodDescriptor yX12_tests.desc).map (fun d => d.parameters.length) = some 1 := by decide +kernel
theorem kF_X12_41 : Cond.fieldLink RX12 41 (TX12 19).1 (TX12 19).2.1 (TX12 19).2.2.1 ∈ fx_tb := fx_tb_in (List.mem_of_getElem? (i := 1279) (by decide +kernel)) (by decide +kernel)
theorem kF_X12_78 : Cond.fieldLink RX12 78 (TX12 33).1 (TX12 33).2.1 (TX12 33).2.2.1 ∈ fx_tb := fx_tb_in (List.mem_of_getElem? (i := 1293) (by decide +kernel)) (by decide +kernel)
theorem kF_X12_81 : Cond.fieldLink RX12 81 (TX12 34).1 (TX12 34).2.1 (TX12 34).2.2.1 ∈ fx_tb := fx_tb_in (List.mem_of_getElem? (i := 1294) (by decide +kernel)) (by decide +kernel)
theorem kK_X12_219 : Cond.constantLong RX12 219 453929 ∈ fx_tb := fx_tb_in (List.mem_of_getElem? (i := 1457) (by decide +kernel)) (by decide +kernel)
theorem kK_X12_221 : Cond.constantLong RX12 221 12391871 ∈ fx_tb := fx_tb_in (List.mem_of_getElem? (i := 1478) (by decide +kernel)) (by decide +kernel)
theorem kK_X12_223 : Cond.constantLong RX12 223 90050 ∈ fx_tb := fx_tb_in (List.mem_of_getElem? (i := 1479) (by decide +kernel)) (by decide +kernel)
theorem kK_X12_225 : Cond.constantLong RX12 225 8536426 ∈ fx_tb := fx_tb_in (List.mem_of_getElem? (i := 1480) (by decide +kernel)) (by decide +kernel)
theorem kK_X12_227 : Cond.constantLong RX12 227 10197082 ∈ fx_tb := fx_tb_in (List.mem_of_getElem? (i := 1481) (by decide +kernel)) (by decide +kernel)
theorem kK_X12_229 : Cond.constantLong RX12 229 4797 ∈ fx_tb := fx_tb_in (List.mem_of_getElem? (i := 1482) (by decide +kernel)) (by decide +kernel)
theorem kK_X12_231 : Cond.constantLong RX12 231 125042 ∈ fx_tb := fx_tb_in (List.mem_of_getElem? (i := 1483) (by decide +kernel)) (by decide +kernel)
theorem kK_X12_233 : Cond.constantLong RX12 233 12531826 ∈ fx_tb := fx_tb_in (List.mem_of_getElem? (i := 1484) (by decide +kernel)) (by decide +kernel)
theorem kK_X12_235 : Cond.constantLong RX12 235 464141 ∈ fx_tb := fx_tb_in (List.mem_of_getElem? (i := 1485) (by decide +kernel)) (by decide +kernel)
theorem kK_X12_237 : Cond.constantLong RX12 237 388978 ∈ fx_tb := fx_tb_in (List.mem_of_getElem? (i := 1486) (by decide +kernel)) (by decide +kernel)
theorem kK_X12_239 : Cond.constantLong RX12 239 208022 ∈ fx_tb := fx_tb_in (List.mem_of_getElem? (i := 1487) (by decide +kernel)) (by decide +kernel)
theorem kK_X12_241 : Cond.constantLong RX12 241 240223 ∈ fx_tb := fx_tb_in (List.mem_of_getElem? (i := 1488) (by decide +kernel)) (by decide +kernel)
theorem kK_X12_243 : Cond.constantLong RX12 243 456500 ∈ fx_tb := fx_tb_in (List.mem_of_getElem? (i := 1489) (by decide +kernel)) (by decide +kernel)
theorem kK_X12_245 : Cond.constantLong RX12 245 8740238 ∈ fx_tb := fx_tb_in (List.mem_of_getElem? (i := 1490) (by decide +kernel)) (by decide +kernel)
theorem kK_X12_247 : Cond.constantLong RX12 247 38444009 ∈ fx_tb := fx_tb_in (List.mem_of_getElem? (i := 1491) (by decide +kernel)) (by decide +kernel)
theorem kK_X12_249 : Cond.constantLong RX12 249 175252482 ∈ fx_tb := fx_tb_in (List.mem_of_getElem? (i := 1492) (by decide +kernel)) (by decide +kernel)
theorem kK_X12_251 : Cond.constantLong RX12 251 1841546 ∈ fx_tb := fx_tb_in (List.mem_of_getElem? (i := 1493) (by decide +kernel)) (by decide +kernel)
theorem kF_X12_16 : Cond.fieldLink RX12 16 (TX12 11).1 (TX12 11).2.1 (TX12 11).2.2.1 ∈ fx_tb := fx_tb_in (List.mem_of_getElem? (i := 1271) (by decide +kernel)) (by decide +kernel)
theorem kF_X12_20 : Cond.fieldLink RX12 20 (TX12 12).1 (TX12 12).2.1 (TX12 12).2.2.1 ∈ fx_tb := fx_tb_in (List.mem_of_getElem? (i := 1272) (by decide +kernel)) (by decide +kernel)
theorem kL_X12_253 : Cond.methodLink RX12 253 yX12_within ∈ fx_tb := fx_tb_in (List.mem_of_getElem? (i := 1513) (by decide +kernel)) (by decide +kernel)
theorem kT_X12_within : Cond.static yX12_within ∈ fx_tb := fx_tb_in (List.mem_of_getElem? (i := 1514) (by decide +kernel)) (by decide +kernel)
theorem kNy_X12_within : Cond.initialized yX12_within.cls ∈ fx_tb := fx_tb_in (List.mem_of_getElem? (i := 106) (by decide +kernel)) (by decide +kernel)
theorem kMS_X12_253 : ∀ w ∈ ([.methodLink RX12 253 yX12_within, .static yX12_within, .initialized yX12_within.cls] : List Cond), w ∈ fx_tb := fx_l3 kL_X12_253 kT_X12_within kNy_X12_within
theorem kC_X12_within : Cond.code yX12_within cX12_within 3 (some .boolean) ∈ fx_tb := fx_tb_in (List.mem_of_getElem? (i := 1515) (by decide +kernel)) (by decide +kernel)
theorem hd_X12_within : yX12_within.cls = RX12 ∧ yX12_within.cls ≠ "java/lang/invoke/MethodHandle" ∧ yX12_within.cls ≠ "java/lang/invoke/VarHandle" ∧ (parseMethodDescriptor yX12_within.desc).map (fun d => d.parameters.length) = some 3 := by decide +kernel
theorem kF_X12_257 : Cond.fieldLink RX12 257 (TX12 35).1 (TX12 35).2.1 (TX12 35).2.2.1 ∈ fx_tb := fx_tb_in (List.mem_of_getElem? (i := 1295) (by decide +kernel)) (by decide +kernel)
theorem kL_X12_260 : Cond.methodLink RX12 260 yX12_needsNumber ∈ fx_tb := fx_tb_in (List.mem_of_getElem? (i := 1509) (by decide +kernel)) (by decide +kernel)
theorem kI_X12_needsNumber : Cond.instanceMethod yX12_needsNumber ∈ fx_tb := fx_tb_in (List.mem_of_getElem? (i := 1511) (by decide +kernel)) (by decide +kernel)
theorem kS_X12_needsNumber : Cond.selects RX12 yX12_needsNumber yX12_needsNumber ∈ fx_tb := fx_tb_in (List.mem_of_getElem? (i := 43) (by decide +kernel)) (by decide +kernel)
theorem kMV_X12_260 : ∀ w ∈ ([.methodLink RX12 260 yX12_needsNumber, .instanceMethod yX12_needsNumber, .selects RX12 yX12_needsNumber yX12_needsNumber, .initialized RX12] : List Cond), w ∈ fx_tb := fx_l4 kL_X12_260 kI_X12_needsNumber kS_X12_needsNumber kN_X12
theorem kC_X12_needsNumber : Cond.code yX12_needsNumber cX12_needsNumber 3 (some .boolean) ∈ fx_tb := fx_tb_in (List.mem_of_getElem? (i := 1512) (by decide +kernel)) (by decide +kernel)
theorem hd_X12_needsNumber : yX12_needsNumber.cls = RX12 ∧ yX12_needsNumber.cls ≠ "java/lang/invoke/MethodHandle" ∧ yX12_needsNumber.cls ≠ "java/lang/invoke/VarHandle" ∧ (parseMethodDescriptor yX12_needsNumber.desc).map (fun d => d.parameters.length) = some 2 := by decide +kernel
theorem kL_X12_264 : Cond.methodLink RX12 264 yX12_isKept ∈ fx_tb := fx_tb_in (List.mem_of_getElem? (i := 1474) (by decide +kernel)) (by decide +kernel)
theorem kI_X12_isKept : Cond.instanceMethod yX12_isKept ∈ fx_tb := fx_tb_in (List.mem_of_getElem? (i := 1476) (by decide +kernel)) (by decide +kernel)
theorem kS_X12_isKept : Cond.selects RX12 yX12_isKept yX12_isKept ∈ fx_tb := fx_tb_in (List.mem_of_getElem? (i := 39) (by decide +kernel)) (by decide +kernel)
theorem kMV_X12_264 : ∀ w ∈ ([.methodLink RX12 264 yX12_isKept, .instanceMethod yX12_isKept, .selects RX12 yX12_isKept yX12_isKept, .initialized RX12] : List Cond), w ∈ fx_tb := fx_l4 kL_X12_264 kI_X12_isKept kS_X12_isKept kN_X12
theorem kC_X12_isKept : Cond.code yX12_isKept cX12_isKept 1 (some .boolean) ∈ fx_tb := fx_tb_in (List.mem_of_getElem? (i := 1477) (by decide +kernel)) (by decide +kernel)
theorem hd_X12_isKept : yX12_isKept.cls = RX12 ∧ yX12_isKept.cls ≠ "java/lang/invoke/MethodHandle" ∧ yX12_isKept.cls ≠ "java/lang/invoke/VarHandle" ∧ (parseMethodDescriptor yX12_isKept.desc).map (fun d => d.parameters.length) = some 0 := by decide +kernel
theorem kL_X12_268 : Cond.methodLink RX12 268 yX12_wareNamed ∈ fx_tb := fx_tb_in (List.mem_of_getElem? (i := 1497) (by decide +kernel)) (by decide +kernel)
theorem kI_X12_wareNamed : Cond.instanceMethod yX12_wareNamed ∈ fx_tb := fx_tb_in (List.mem_of_getElem? (i := 1499) (by decide +kernel)) (by decide +kernel)
theorem kS_X12_wareNamed : Cond.selects RX12 yX12_wareNamed yX12_wareNamed ∈ fx_tb := fx_tb_in (List.mem_of_getElem? (i := 40) (by decide +kernel)) (by decide +kernel)
theorem kMV_X12_268 : ∀ w ∈ ([.methodLink RX12 268 yX12_wareNamed, .instanceMethod yX12_wareNamed, .selects RX12 yX12_wareNamed yX12_wareNamed, .initialized RX12] : List Cond), w ∈ fx_tb := fx_l4 kL_X12_268 kI_X12_wareNamed kS_X12_wareNamed kN_X12
theorem kC_X12_wareNamed : Cond.code yX12_wareNamed cX12_wareNamed 3 (some .int) ∈ fx_tb := fx_tb_in (List.mem_of_getElem? (i := 1500) (by decide +kernel)) (by decide +kernel)
theorem hd_X12_wareNamed : yX12_wareNamed.cls = RX12 ∧ yX12_wareNamed.cls ≠ "java/lang/invoke/MethodHandle" ∧ yX12_wareNamed.cls ≠ "java/lang/invoke/VarHandle" ∧ (parseMethodDescriptor yX12_wareNamed.desc).map (fun d => d.parameters.length) = some 1 := by decide +kernel
theorem kL_X12_271 : Cond.methodLink RX12 271 yX12_partyNamed ∈ fx_tb := fx_tb_in (List.mem_of_getElem? (i := 1501) (by decide +kernel)) (by decide +kernel)
theorem kI_X12_partyNamed : Cond.instanceMethod yX12_partyNamed ∈ fx_tb := fx_tb_in (List.mem_of_getElem? (i := 1503) (by decide +kernel)) (by decide +kernel)
theorem kS_X12_partyNamed : Cond.selects RX12 yX12_partyNamed yX12_partyNamed ∈ fx_tb := fx_tb_in (List.mem_of_getElem? (i := 41) (by decide +kernel)) (by decide +kernel)
theorem kMV_X12_271 : ∀ w ∈ ([.methodLink RX12 271 yX12_partyNamed, .instanceMethod yX12_partyNamed, .selects RX12 yX12_partyNamed yX12_partyNamed, .initialized RX12] : List Cond), w ∈ fx_tb := fx_l4 kL_X12_271 kI_X12_partyNamed kS_X12_partyNamed kN_X12
theorem kC_X12_partyNamed : Cond.code yX12_partyNamed cX12_partyNamed 3 (some .int) ∈ fx_tb := fx_tb_in (List.mem_of_getElem? (i := 1504) (by decide +kernel)) (by decide +kernel)
theorem hd_X12_partyNamed : yX12_partyNamed.cls = RX12 ∧ yX12_partyNamed.cls ≠ "java/lang/invoke/MethodHandle" ∧ yX12_partyNamed.cls ≠ "java/lang/invoke/VarHandle" ∧ (parseMethodDescriptor yX12_partyNamed.desc).map (fun d => d.parameters.length) = some 1 := by decide +kernel
theorem kF_X12_274 : Cond.fieldLink RX12 274 (TX12 36).1 (TX12 36).2.1 (TX12 36).2.2.1 ∈ fx_tb := fx_tb_in (List.mem_of_getElem? (i := 1296) (by decide +kernel)) (by decide +kernel)
theorem kL_X12_277 : Cond.methodLink RX12 277 yX12_needsNew ∈ fx_tb := fx_tb_in (List.mem_of_getElem? (i := 1470) (by decide +kernel)) (by decide +kernel)
theorem kI_X12_needsNew : Cond.instanceMethod yX12_needsNew ∈ fx_tb := fx_tb_in (List.mem_of_getElem? (i := 1472) (by decide +kernel)) (by decide +kernel)
theorem kS_X12_needsNew : Cond.selects RX12 yX12_needsNew yX12_needsNew ∈ fx_tb := fx_tb_in (List.mem_of_getElem? (i := 38) (by decide +kernel)) (by decide +kernel)
theorem kMV_X12_277 : ∀ w ∈ ([.methodLink RX12 277 yX12_needsNew, .instanceMethod yX12_needsNew, .selects RX12 yX12_needsNew yX12_needsNew, .initialized RX12] : List Cond), w ∈ fx_tb := fx_l4 kL_X12_277 kI_X12_needsNew kS_X12_needsNew kN_X12
theorem kC_X12_needsNew : Cond.code yX12_needsNew cX12_needsNew 1 (some .boolean) ∈ fx_tb := fx_tb_in (List.mem_of_getElem? (i := 1473) (by decide +kernel)) (by decide +kernel)
theorem hd_X12_needsNew : yX12_needsNew.cls = RX12 ∧ yX12_needsNew.cls ≠ "java/lang/invoke/MethodHandle" ∧ yX12_needsNew.cls ≠ "java/lang/invoke/VarHandle" ∧ (parseMethodDescriptor yX12_needsNew.desc).map (fun d => d.parameters.length) = some 0 := by decide +kernel
theorem kF_X12_23 : Cond.fieldLink RX12 23 (TX12 13).1 (TX12 13).2.1 (TX12 13).2.2.1 ∈ fx_tb := fx_tb_in (List.mem_of_getElem? (i := 1273) (by decide +kernel)) (by decide +kernel)
theorem kL_X12_280 : Cond.methodLink RX12 280 yX12_needsBoth ∈ fx_tb := fx_tb_in (List.mem_of_getElem? (i := 1505) (by decide +kernel)) (by decide +kernel)
theorem kI_X12_needsBoth : Cond.instanceMethod yX12_needsBoth ∈ fx_tb := fx_tb_in (List.mem_of_getElem? (i := 1507) (by decide +kernel)) (by decide +kernel)
theorem kS_X12_needsBoth : Cond.selects RX12 yX12_needsBoth yX12_needsBoth ∈ fx_tb := fx_tb_in (List.mem_of_getElem? (i := 42) (by decide +kernel)) (by decide +kernel)
theorem kMV_X12_280 : ∀ w ∈ ([.methodLink RX12 280 yX12_needsBoth, .instanceMethod yX12_needsBoth, .selects RX12 yX12_needsBoth yX12_needsBoth, .initialized RX12] : List Cond), w ∈ fx_tb := fx_l4 kL_X12_280 kI_X12_needsBoth kS_X12_needsBoth kN_X12
theorem kC_X12_needsBoth : Cond.code yX12_needsBoth cX12_needsBoth 5 (some .boolean) ∈ fx_tb := fx_tb_in (List.mem_of_getElem? (i := 1508) (by decide +kernel)) (by decide +kernel)
theorem hd_X12_needsBoth : yX12_needsBoth.cls = RX12 ∧ yX12_needsBoth.cls ≠ "java/lang/invoke/MethodHandle" ∧ yX12_needsBoth.cls ≠ "java/lang/invoke/VarHandle" ∧ (parseMethodDescriptor yX12_needsBoth.desc).map (fun d => d.parameters.length) = some 3 := by decide +kernel
theorem kF_X12_26 : Cond.fieldLink RX12 26 (TX12 14).1 (TX12 14).2.1 (TX12 14).2.2.1 ∈ fx_tb := fx_tb_in (List.mem_of_getElem? (i := 1274) (by decide +kernel)) (by decide +kernel)
theorem kF_X12_29 : Cond.fieldLink RX12 29 (TX12 15).1 (TX12 15).2.1 (TX12 15).2.2.1 ∈ fx_tb := fx_tb_in (List.mem_of_getElem? (i := 1275) (by decide +kernel)) (by decide +kernel)
theorem kL_X12_284 : Cond.methodLink RX12 284 Lib.Math.min.name ∈ fx_tb := fx_tb_in (List.mem_of_getElem? (i := 1516) (by decide +kernel)) (by decide +kernel)
theorem kL_X12_290 : Cond.methodLink RX12 290 yX12_closes ∈ fx_tb := fx_tb_in (List.mem_of_getElem? (i := 1517) (by decide +kernel)) (by decide +kernel)
theorem kI_X12_closes : Cond.instanceMethod yX12_closes ∈ fx_tb := fx_tb_in (List.mem_of_getElem? (i := 1519) (by decide +kernel)) (by decide +kernel)
theorem kS_X12_closes : Cond.selects RX12 yX12_closes yX12_closes ∈ fx_tb := fx_tb_in (List.mem_of_getElem? (i := 44) (by decide +kernel)) (by decide +kernel)
theorem kMV_X12_290 : ∀ w ∈ ([.methodLink RX12 290 yX12_closes, .instanceMethod yX12_closes, .selects RX12 yX12_closes yX12_closes, .initialized RX12] : List Cond), w ∈ fx_tb := fx_l4 kL_X12_290 kI_X12_closes kS_X12_closes kN_X12
theorem kC_X12_closes : Cond.code yX12_closes cX12_closes 1 (some .boolean) ∈ fx_tb := fx_tb_in (List.mem_of_getElem? (i := 1520) (by decide +kernel)) (by decide +kernel)
theorem hd_X12_closes : yX12_closes.cls = RX12 ∧ yX12_closes.cls ≠ "java/lang/invoke/MethodHandle" ∧ yX12_closes.cls ≠ "java/lang/invoke/VarHandle" ∧ (parseMethodDescriptor yX12_closes.desc).map (fun d => d.parameters.length) = some 0 := by decide +kernel
theorem kF_X12_32 : Cond.fieldLink RX12 32 (TX12 16).1 (TX12 16).2.1 (TX12 16).2.2.1 ∈ fx_tb := fx_tb_in (List.mem_of_getElem? (i := 1276) (by decide +kernel)) (by decide +kernel)
theorem kF_X12_35 : Cond.fieldLink RX12 35 (TX12 17).1 (TX12 17).2.1 (TX12 17).2.2.1 ∈ fx_tb := fx_tb_in (List.mem_of_getElem? (i := 1277) (by decide +kernel)) (by decide +kernel)
theorem kL_X12_293 : Cond.methodLink RX12 293 yX12_needsParty ∈ fx_tb := fx_tb_in (List.mem_of_getElem? (i := 1533) (by decide +kernel)) (by decide +kernel)
theorem kI_X12_needsParty : Cond.instanceMethod yX12_needsParty ∈ fx_tb := fx_tb_in (List.mem_of_getElem? (i := 1535) (by decide +kernel)) (by decide +kernel)
theorem kS_X12_needsParty : Cond.selects RX12 yX12_needsParty yX12_needsParty ∈ fx_tb := fx_tb_in (List.mem_of_getElem? (i := 48) (by decide +kernel)) (by decide +kernel)
theorem kMV_X12_293 : ∀ w ∈ ([.methodLink RX12 293 yX12_needsParty, .instanceMethod yX12_needsParty, .selects RX12 yX12_needsParty yX12_needsParty, .initialized RX12] : List Cond), w ∈ fx_tb := fx_l4 kL_X12_293 kI_X12_needsParty kS_X12_needsParty kN_X12
theorem kC_X12_needsParty : Cond.code yX12_needsParty cX12_needsParty 2 (some .boolean) ∈ fx_tb := fx_tb_in (List.mem_of_getElem? (i := 1536) (by decide +kernel)) (by decide +kernel)
theorem hd_X12_needsParty : yX12_needsParty.cls = RX12 ∧ yX12_needsParty.cls ≠ "java/lang/invoke/MethodHandle" ∧ yX12_needsParty.cls ≠ "java/lang/invoke/VarHandle" ∧ (parseMethodDescriptor yX12_needsParty.desc).map (fun d => d.parameters.length) = some 1 := by decide +kernel
theorem kL_X12_296 : Cond.methodLink RX12 296 yX12_needsWare ∈ fx_tb := fx_tb_in (List.mem_of_getElem? (i := 1537) (by decide +kernel)) (by decide +kernel)
theorem kI_X12_needsWare : Cond.instanceMethod yX12_needsWare ∈ fx_tb := fx_tb_in (List.mem_of_getElem? (i := 1539) (by decide +kernel)) (by decide +kernel)
theorem kS_X12_needsWare : Cond.selects RX12 yX12_needsWare yX12_needsWare ∈ fx_tb := fx_tb_in (List.mem_of_getElem? (i := 49) (by decide +kernel)) (by decide +kernel)
theorem kMV_X12_296 : ∀ w ∈ ([.methodLink RX12 296 yX12_needsWare, .instanceMethod yX12_needsWare, .selects RX12 yX12_needsWare yX12_needsWare, .initialized RX12] : List Cond), w ∈ fx_tb := fx_l4 kL_X12_296 kI_X12_needsWare kS_X12_needsWare kN_X12
theorem kC_X12_needsWare : Cond.code yX12_needsWare cX12_needsWare 2 (some .boolean) ∈ fx_tb := fx_tb_in (List.mem_of_getElem? (i := 1540) (by decide +kernel)) (by decide +kernel)
theorem hd_X12_needsWare : yX12_needsWare.cls = RX12 ∧ yX12_needsWare.cls ≠ "java/lang/invoke/MethodHandle" ∧ yX12_needsWare.cls ≠ "java/lang/invoke/VarHandle" ∧ (parseMethodDescriptor yX12_needsWare.desc).map (fun d => d.parameters.length) = some 1 := by decide +kernel
theorem kF_X12_299 : Cond.fieldLink RX12 299 (TX12 22).1 (TX12 22).2.1 (TX12 22).2.2.1 ∈ fx_tb := fx_tb_in (List.mem_of_getElem? (i := 1282) (by decide +kernel)) (by decide +kernel)
theorem kL_X12_303 : Cond.methodLink RX12 303 yX12_reads ∈ fx_tb := fx_tb_in (List.mem_of_getElem? (i := 1549) (by decide +kernel)) (by decide +kernel)
theorem kI_X12_reads : Cond.instanceMethod yX12_reads ∈ fx_tb := fx_tb_in (List.mem_of_getElem? (i := 1551) (by decide +kernel)) (by decide +kernel)
theorem kS_X12_reads : Cond.selects RX12 yX12_reads yX12_reads ∈ fx_tb := fx_tb_in (List.mem_of_getElem? (i := 52) (by decide +kernel)) (by decide +kernel)
theorem kMV_X12_303 : ∀ w ∈ ([.methodLink RX12 303 yX12_reads, .instanceMethod yX12_reads, .selects RX12 yX12_reads yX12_reads, .initialized RX12] : List Cond), w ∈ fx_tb := fx_l4 kL_X12_303 kI_X12_reads kS_X12_reads kN_X12
theorem kC_X12_reads : Cond.code yX12_reads cX12_reads 6 (some .boolean) ∈ fx_tb := fx_tb_in (List.mem_of_getElem? (i := 1552) (by decide +kernel)) (by decide +kernel)
theorem hd_X12_reads : yX12_reads.cls = RX12 ∧ yX12_reads.cls ≠ "java/lang/invoke/MethodHandle" ∧ yX12_reads.cls ≠ "java/lang/invoke/VarHandle" ∧ (parseMethodDescriptor yX12_reads.desc).map (fun d => d.parameters.length) = some 0 := by decide +kernel
theorem kL_X12_129 : Cond.methodLink RX12 129 yX12_usual ∈ fx_tb := fx_tb_in (List.mem_of_getElem? (i := 1256) (by decide +kernel)) (by decide +kernel)
theorem kI_X12_usual : Cond.instanceMethod yX12_usual ∈ fx_tb := fx_tb_in (List.mem_of_getElem? (i := 1258) (by decide +kernel)) (by decide +kernel)
theorem kS_X12_usual : Cond.selects RX12 yX12_usual yX12_usual ∈ fx_tb := fx_tb_in (List.mem_of_getElem? (i := 30) (by decide +kernel)) (by decide +kernel)
theorem kMV_X12_129 : ∀ w ∈ ([.methodLink RX12 129 yX12_usual, .instanceMethod yX12_usual, .selects RX12 yX12_usual yX12_usual, .initialized RX12] : List Cond), w ∈ fx_tb := fx_l4 kL_X12_129 kI_X12_usual kS_X12_usual kN_X12
theorem kC_X12_usual : Cond.code yX12_usual cX12_usual 2 none ∈ fx_tb := fx_tb_in (List.mem_of_getElem? (i := 1259) (by decide +kernel)) (by decide +kernel)
theorem hd_X12_usual : yX12_usual.cls = RX12 ∧ yX12_usual.cls ≠ "java/lang/invoke/MethodHandle" ∧ yX12_usual.cls ≠ "java/lang/invoke/VarHandle" ∧ (parseMethodDescriptor yX12_usual.desc).map (fun d => d.parameters.length) = some 1 := by decide +kernel
theorem kL_X12_306 : Cond.methodLink RX12 306 yX12_begins ∈ fx_tb := fx_tb_in (List.mem_of_getElem? (i := 1443) (by decide +kernel)) (by decide +kernel)
theorem kI_X12_begins : Cond.instanceMethod yX12_begins ∈ fx_tb := fx_tb_in (List.mem_of_getElem? (i := 1445) (by decide +kernel)) (by decide +kernel)
theorem kS_X12_begins : Cond.selects RX12 yX12_begins yX12_begins ∈ fx_tb := fx_tb_in (List.mem_of_getElem? (i := 32) (by decide +kernel)) (by decide +kernel)
theorem kMV_X12_306 : ∀ w ∈ ([.methodLink RX12 306 yX12_begins, .instanceMethod yX12_begins, .selects RX12 yX12_begins yX12_begins, .initialized RX12] : List Cond), w ∈ fx_tb := fx_l4 kL_X12_306 kI_X12_begins kS_X12_begins kN_X12
theorem kC_X12_begins : Cond.code yX12_begins cX12_begins 1 none ∈ fx_tb := fx_tb_in (List.mem_of_getElem? (i := 1446) (by decide +kernel)) (by decide +kernel)
theorem hd_X12_begins : yX12_begins.cls = RX12 ∧ yX12_begins.cls ≠ "java/lang/invoke/MethodHandle" ∧ yX12_begins.cls ≠ "java/lang/invoke/VarHandle" ∧ (parseMethodDescriptor yX12_begins.desc).map (fun d => d.parameters.length) = some 0 := by decide +kernel
theorem kL_X12_321 : Cond.methodLink RX12 321 yX12_readsWorks ∈ fx_tb := fx_tb_in (List.mem_of_getElem? (i := 1545) (by decide +kernel)) (by decide +kernel)
theorem kI_X12_readsWorks : Cond.instanceMethod yX12_readsWorks ∈ fx_tb := fx_tb_in (List.mem_of_getElem? (i := 1547) (by decide +kernel)) (by decide +kernel)
theorem kS_X12_readsWorks : Cond.selects RX12 yX12_readsWorks yX12_readsWorks ∈ fx_tb := fx_tb_in (List.mem_of_getElem? (i := 51) (by decide +kernel)) (by decide +kernel)
theorem kMV_X12_321 : ∀ w ∈ ([.methodLink RX12 321 yX12_readsWorks, .instanceMethod yX12_readsWorks, .selects RX12 yX12_readsWorks yX12_readsWorks, .initialized RX12] : List Cond), w ∈ fx_tb := fx_l4 kL_X12_321 kI_X12_readsWorks kS_X12_readsWorks kN_X12
theorem kC_X12_readsWorks : Cond.code yX12_readsWorks cX12_readsWorks 1 (some .boolean) ∈ fx_tb := fx_tb_in (List.mem_of_getElem? (i := 1548) (by decide +kernel)) (by decide +kernel)
theorem hd_X12_readsWorks : yX12_readsWorks.cls = RX12 ∧ yX12_readsWorks.cls ≠ "java/lang/invoke/MethodHandle" ∧ yX12_readsWorks.cls ≠ "java/lang/invoke/VarHandle" ∧ (parseMethodDescriptor yX12_readsWorks.desc).map (fun d => d.parameters.length) = some 0 := by decide +kernel
theorem kL_X12_318 : Cond.methodLink RX12 318 yX12_readsFine ∈ fx_tb := fx_tb_in (List.mem_of_getElem? (i := 1541) (by decide +kernel)) (by decide +kernel)
theorem kI_X12_readsFine : Cond.instanceMethod yX12_readsFine ∈ fx_tb := fx_tb_in (List.mem_of_getElem? (i := 1543) (by decide +kernel)) (by decide +kernel)
theorem kS_X12_readsFine : Cond.selects RX12 yX12_readsFine yX12_readsFine ∈ fx_tb := fx_tb_in (List.mem_of_getElem? (i := 50) (by decide +kernel)) (by decide +kernel)
theorem kMV_X12_318 : ∀ w ∈ ([.methodLink RX12 318 yX12_readsFine, .instanceMethod yX12_readsFine, .selects RX12 yX12_readsFine yX12_readsFine, .initialized RX12] : List Cond), w ∈ fx_tb := fx_l4 kL_X12_318 kI_X12_readsFine kS_X12_readsFine kN_X12
theorem kC_X12_readsFine : Cond.code yX12_readsFine cX12_readsFine 1 (some .boolean) ∈ fx_tb := fx_tb_in (List.mem_of_getElem? (i := 1544) (by decide +kernel)) (by decide +kernel)
theorem hd_X12_readsFine : yX12_readsFine.cls = RX12 ∧ yX12_readsFine.cls ≠ "java/lang/invoke/MethodHandle" ∧ yX12_readsFine.cls ≠ "java/lang/invoke/VarHandle" ∧ (parseMethodDescriptor yX12_readsFine.desc).map (fun d => d.parameters.length) = some 0 := by decide +kernel
theorem kL_X12_315 : Cond.methodLink RX12 315 yX12_readsFor ∈ fx_tb := fx_tb_in (List.mem_of_getElem? (i := 1529) (by decide +kernel)) (by decide +kernel)
theorem kI_X12_readsFor : Cond.instanceMethod yX12_readsFor ∈ fx_tb := fx_tb_in (List.mem_of_getElem? (i := 1531) (by decide +kernel)) (by decide +kernel)
theorem kS_X12_readsFor : Cond.selects RX12 yX12_readsFor yX12_readsFor ∈ fx_tb := fx_tb_in (List.mem_of_getElem? (i := 47) (by decide +kernel)) (by decide +kernel)
theorem kMV_X12_315 : ∀ w ∈ ([.methodLink RX12 315 yX12_readsFor, .instanceMethod yX12_readsFor, .selects RX12 yX12_readsFor yX12_readsFor, .initialized RX12] : List Cond), w ∈ fx_tb := fx_l4 kL_X12_315 kI_X12_readsFor kS_X12_readsFor kN_X12
theorem kC_X12_readsFor : Cond.code yX12_readsFor cX12_readsFor 2 (some .boolean) ∈ fx_tb := fx_tb_in (List.mem_of_getElem? (i := 1532) (by decide +kernel)) (by decide +kernel)
theorem hd_X12_readsFor : yX12_readsFor.cls = RX12 ∧ yX12_readsFor.cls ≠ "java/lang/invoke/MethodHandle" ∧ yX12_readsFor.cls ≠ "java/lang/invoke/VarHandle" ∧ (parseMethodDescriptor yX12_readsFor.desc).map (fun d => d.parameters.length) = some 0 := by decide +kernel
theorem kL_X12_312 : Cond.methodLink RX12 312 yX12_readsParty ∈ fx_tb := fx_tb_in (List.mem_of_getElem? (i := 1525) (by decide +kernel)) (by decide +kernel)
theorem kI_X12_readsParty : Cond.instanceMethod yX12_readsParty ∈ fx_tb := fx_tb_in (List.mem_of_getElem? (i := 1527) (by decide +kernel)) (by decide +kernel)
theorem kS_X12_readsParty : Cond.selects RX12 yX12_readsParty yX12_readsParty ∈ fx_tb := fx_tb_in (List.mem_of_getElem? (i := 46) (by decide +kernel)) (by decide +kernel)
theorem kMV_X12_312 : ∀ w ∈ ([.methodLink RX12 312 yX12_readsParty, .instanceMethod yX12_readsParty, .selects RX12 yX12_readsParty yX12_readsParty, .initialized RX12] : List Cond), w ∈ fx_tb := fx_l4 kL_X12_312 kI_X12_readsParty kS_X12_readsParty kN_X12
theorem kC_X12_readsParty : Cond.code yX12_readsParty cX12_readsParty 2 (some .boolean) ∈ fx_tb := fx_tb_in (List.mem_of_getElem? (i := 1528) (by decide +kernel)) (by decide +kernel)
theorem hd_X12_readsParty : yX12_readsParty.cls = RX12 ∧ yX12_readsParty.cls ≠ "java/lang/invoke/MethodHandle" ∧ yX12_readsParty.cls ≠ "java/lang/invoke/VarHandle" ∧ (parseMethodDescriptor yX12_readsParty.desc).map (fun d => d.parameters.length) = some 0 := by decide +kernel
theorem kL_X12_309 : Cond.methodLink RX12 309 yX12_readsWare ∈ fx_tb := fx_tb_in (List.mem_of_getElem? (i := 1462) (by decide +kernel)) (by decide +kernel)
theorem kI_X12_readsWare : Cond.instanceMethod yX12_readsWare ∈ fx_tb := fx_tb_in (List.mem_of_getElem? (i := 1464) (by decide +kernel)) (by decide +kernel)
theorem kS_X12_readsWare : Cond.selects RX12 yX12_readsWare yX12_readsWare ∈ fx_tb := fx_tb_in (List.mem_of_getElem? (i := 36) (by decide +kernel)) (by decide +kernel)
theorem kMV_X12_309 : ∀ w ∈ ([.methodLink RX12 309 yX12_readsWare, .instanceMethod yX12_readsWare, .selects RX12 yX12_readsWare yX12_readsWare, .initialized RX12] : List Cond), w ∈ fx_tb := fx_l4 kL_X12_309 kI_X12_readsWare kS_X12_readsWare kN_X12
theorem kC_X12_readsWare : Cond.code yX12_readsWare cX12_readsWare 2 (some .boolean) ∈ fx_tb := fx_tb_in (List.mem_of_getElem? (i := 1465) (by decide +kernel)) (by decide +kernel)
theorem hd_X12_readsWare : yX12_readsWare.cls = RX12 ∧ yX12_readsWare.cls ≠ "java/lang/invoke/MethodHandle" ∧ yX12_readsWare.cls ≠ "java/lang/invoke/VarHandle" ∧ (parseMethodDescriptor yX12_readsWare.desc).map (fun d => d.parameters.length) = some 0 := by decide +kernel
theorem kL_X12_324 : Cond.methodLink RX12 324 yX12_shifts ∈ fx_tb := fx_tb_in (List.mem_of_getElem? (i := 1569) (by decide +kernel)) (by decide +kernel)
theorem kT_X12_shifts : Cond.static yX12_shifts ∈ fx_tb := fx_tb_in (List.mem_of_getElem? (i := 1570) (by decide +kernel)) (by decide +kernel)
theorem kNy_X12_shifts : Cond.initialized yX12_shifts.cls ∈ fx_tb := fx_tb_in (List.mem_of_getElem? (i := 106) (by decide +kernel)) (by decide +kernel)
theorem kMS_X12_324 : ∀ w ∈ ([.methodLink RX12 324 yX12_shifts, .static yX12_shifts, .initialized yX12_shifts.cls] : List Cond), w ∈ fx_tb := fx_l3 kL_X12_324 kT_X12_shifts kNy_X12_shifts
theorem kC_X12_shifts : Cond.code yX12_shifts cX12_shifts 3 none ∈ fx_tb := fx_tb_in (List.mem_of_getElem? (i := 1571) (by decide +kernel)) (by decide +kernel)
theorem hd_X12_shifts : yX12_shifts.cls = RX12 ∧ yX12_shifts.cls ≠ "java/lang/invoke/MethodHandle" ∧ yX12_shifts.cls ≠ "java/lang/invoke/VarHandle" ∧ (parseMethodDescriptor yX12_shifts.desc).map (fun d => d.parameters.length) = some 2 := by decide +kernel
theorem kL_X12_328 : Cond.methodLink RX12 328 yX12_shiftsNames ∈ fx_tb := fx_tb_in (List.mem_of_getElem? (i := 1572) (by decide +kernel)) (by decide +kernel)
theorem kT_X12_shiftsNames : Cond.static yX12_shiftsNames ∈ fx_tb := fx_tb_in (List.mem_of_getElem? (i := 1573) (by decide +kernel)) (by decide +kernel)
theorem kNy_X12_shiftsNames : Cond.initialized yX12_shiftsNames.cls ∈ fx_tb := fx_tb_in (List.mem_of_getElem? (i := 106) (by decide +kernel)) (by decide +kernel)
theorem kMS_X12_328 : ∀ w ∈ ([.methodLink RX12 328 yX12_shiftsNames, .static yX12_shiftsNames, .initialized yX12_shiftsNames.cls] : List Cond), w ∈ fx_tb := fx_l3 kL_X12_328 kT_X12_shiftsNames kNy_X12_shiftsNames
theorem kC_X12_shiftsNames : Cond.code yX12_shiftsNames cX12_shiftsNames 3 none ∈ fx_tb := fx_tb_in (List.mem_of_getElem? (i := 1574) (by decide +kernel)) (by decide +kernel)
theorem hd_X12_shiftsNames : yX12_shiftsNames.cls = RX12 ∧ yX12_shiftsNames.cls ≠ "java/lang/invoke/MethodHandle" ∧ yX12_shiftsNames.cls ≠ "java/lang/invoke/VarHandle" ∧ (parseMethodDescriptor yX12_shiftsNames.desc).map (fun d => d.parameters.length) = some 2 := by decide +kernel
theorem kF_X12_84 : Cond.fieldLink RX12 84 (TX12 37).1 (TX12 37).2.1 (TX12 37).2.2.1 ∈ fx_tb := fx_tb_in (List.mem_of_getElem? (i := 1297) (by decide +kernel)) (by decide +kernel)
theorem kF_X12_87 : Cond.fieldLink RX12 87 (TX12 38).1 (TX12 38).2.1 (TX12 38).2.2.1 ∈ fx_tb := fx_tb_in (List.mem_of_getElem? (i := 1298) (by decide +kernel)) (by decide +kernel)
theorem kF_X12_96 : Cond.fieldLink RX12 96 (TX12 41).1 (TX12 41).2.1 (TX12 41).2.2.1 ∈ fx_tb := fx_tb_in (List.mem_of_getElem? (i := 1301) (by decide +kernel)) (by decide +kernel)
theorem kF_X12_90 : Cond.fieldLink RX12 90 (TX12 39).1 (TX12 39).2.1 (TX12 39).2.2.1 ∈ fx_tb := fx_tb_in (List.mem_of_getElem? (i := 1299) (by decide +kernel)) (by decide +kernel)
theorem kF_X12_93 : Cond.fieldLink RX12 93 (TX12 40).1 (TX12 40).2.1 (TX12 40).2.2.1 ∈ fx_tb := fx_tb_in (List.mem_of_getElem? (i := 1300) (by decide +kernel)) (by decide +kernel)
theorem kF_X12_99 : Cond.fieldLink RX12 99 (TX12 42).1 (TX12 42).2.1 (TX12 42).2.2.1 ∈ fx_tb := fx_tb_in (List.mem_of_getElem? (i := 1302) (by decide +kernel)) (by decide +kernel)
theorem kF_X12_102 : Cond.fieldLink RX12 102 (TX12 43).1 (TX12 43).2.1 (TX12 43).2.2.1 ∈ fx_tb := fx_tb_in (List.mem_of_getElem? (i := 1303) (by decide +kernel)) (by decide +kernel)
theorem kF_X12_105 : Cond.fieldLink RX12 105 (TX12 44).1 (TX12 44).2.1 (TX12 44).2.2.1 ∈ fx_tb := fx_tb_in (List.mem_of_getElem? (i := 1304) (by decide +kernel)) (by decide +kernel)
theorem kF_X12_108 : Cond.fieldLink RX12 108 (TX12 45).1 (TX12 45).2.1 (TX12 45).2.2.1 ∈ fx_tb := fx_tb_in (List.mem_of_getElem? (i := 1305) (by decide +kernel)) (by decide +kernel)
theorem kL_X12_332 : Cond.methodLink RX12 332 yX12_readsAll ∈ fx_tb := fx_tb_in (List.mem_of_getElem? (i := 1439) (by decide +kernel)) (by decide +kernel)
theorem kI_X12_readsAll : Cond.instanceMethod yX12_readsAll ∈ fx_tb := fx_tb_in (List.mem_of_getElem? (i := 1441) (by decide +kernel)) (by decide +kernel)
theorem kS_X12_readsAll : Cond.selects RX12 yX12_readsAll yX12_readsAll ∈ fx_tb := fx_tb_in (List.mem_of_getElem? (i := 31) (by decide +kernel)) (by decide +kernel)
theorem kMV_X12_332 : ∀ w ∈ ([.methodLink RX12 332 yX12_readsAll, .instanceMethod yX12_readsAll, .selects RX12 yX12_readsAll yX12_readsAll, .initialized RX12] : List Cond), w ∈ fx_tb := fx_l4 kL_X12_332 kI_X12_readsAll kS_X12_readsAll kN_X12
theorem kC_X12_readsAll : Cond.code yX12_readsAll cX12_readsAll 2 (some .boolean) ∈ fx_tb := fx_tb_in (List.mem_of_getElem? (i := 1442) (by decide +kernel)) (by decide +kernel)
theorem hd_X12_readsAll : yX12_readsAll.cls = RX12 ∧ yX12_readsAll.cls ≠ "java/lang/invoke/MethodHandle" ∧ yX12_readsAll.cls ≠ "java/lang/invoke/VarHandle" ∧ (parseMethodDescriptor yX12_readsAll.desc).map (fun d => d.parameters.length) = some 0 := by decide +kernel
theorem kL_X12_335 : Cond.methodLink RX12 335 yX12_lays ∈ fx_tb := fx_tb_in (List.mem_of_getElem? (i := 1565) (by decide +kernel)) (by decide +kernel)
theorem kI_X12_lays : Cond.instanceMethod yX12_lays ∈ fx_tb := fx_tb_in (List.mem_of_getElem? (i := 1567) (by decide +kernel)) (by decide +kernel)
theorem kS_X12_lays : Cond.selects RX12 yX12_lays yX12_lays ∈ fx_tb := fx_tb_in (List.mem_of_getElem? (i := 55) (by decide +kernel)) (by decide +kernel)
theorem kMV_X12_335 : ∀ w ∈ ([.methodLink RX12 335 yX12_lays, .instanceMethod yX12_lays, .selects RX12 yX12_lays yX12_lays, .initialized RX12] : List Cond), w ∈ fx_tb := fx_l4 kL_X12_335 kI_X12_lays kS_X12_lays kN_X12
theorem kC_X12_lays : Cond.code yX12_lays cX12_lays 1 none ∈ fx_tb := fx_tb_in (List.mem_of_getElem? (i := 1568) (by decide +kernel)) (by decide +kernel)
theorem hd_X12_lays : yX12_lays.cls = RX12 ∧ yX12_lays.cls ≠ "java/lang/invoke/MethodHandle" ∧ yX12_lays.cls ≠ "java/lang/invoke/VarHandle" ∧ (parseMethodDescriptor yX12_lays.desc).map (fun d => d.parameters.length) = some 0 := by decide +kernel
theorem kL_X12_338 : Cond.methodLink RX12 338 yX12_fresh0 ∈ fx_tb := fx_tb_in (List.mem_of_getElem? (i := 1575) (by decide +kernel)) (by decide +kernel)
theorem kI_X12_fresh0 : Cond.instanceMethod yX12_fresh0 ∈ fx_tb := fx_tb_in (List.mem_of_getElem? (i := 1577) (by decide +kernel)) (by decide +kernel)
theorem kS_X12_fresh0 : Cond.selects RX12 yX12_fresh0 yX12_fresh0 ∈ fx_tb := fx_tb_in (List.mem_of_getElem? (i := 56) (by decide +kernel)) (by decide +kernel)
theorem kMV_X12_338 : ∀ w ∈ ([.methodLink RX12 338 yX12_fresh0, .instanceMethod yX12_fresh0, .selects RX12 yX12_fresh0 yX12_fresh0, .initialized RX12] : List Cond), w ∈ fx_tb := fx_l4 kL_X12_338 kI_X12_fresh0 kS_X12_fresh0 kN_X12
theorem kC_X12_fresh0 : Cond.code yX12_fresh0 cX12_fresh0 2 none ∈ fx_tb := fx_tb_in (List.mem_of_getElem? (i := 1578) (by decide +kernel)) (by decide +kernel)
theorem hd_X12_fresh0 : yX12_fresh0.cls = RX12 ∧ yX12_fresh0.cls ≠ "java/lang/invoke/MethodHandle" ∧ yX12_fresh0.cls ≠ "java/lang/invoke/VarHandle" ∧ (parseMethodDescriptor yX12_fresh0.desc).map (fun d => d.parameters.length) = some 0 := by decide +kernel
theorem kF_X12_341 : Cond.fieldLink RX12 341 (TX12 51).1 (TX12 51).2.1 (TX12 51).2.2.1 ∈ fx_tb := fx_tb_in (List.mem_of_getElem? (i := 1311) (by decide +kernel)) (by decide +kernel)
theorem kF_X12_123 : Cond.fieldLink RX12 123 (TX12 50).1 (TX12 50).2.1 (TX12 50).2.2.1 ∈ fx_tb := fx_tb_in (List.mem_of_getElem? (i := 1310) (by decide +kernel)) (by decide +kernel)
theorem kL_X12_347 : Cond.methodLink RX12 347 yX12_laysLines ∈ fx_tb := fx_tb_in (List.mem_of_getElem? (i := 1587) (by decide +kernel)) (by decide +kernel)
theorem kI_X12_laysLines : Cond.instanceMethod yX12_laysLines ∈ fx_tb := fx_tb_in (List.mem_of_getElem? (i := 1589) (by decide +kernel)) (by decide +kernel)
theorem kS_X12_laysLines : Cond.selects RX12 yX12_laysLines yX12_laysLines ∈ fx_tb := fx_tb_in (List.mem_of_getElem? (i := 58) (by decide +kernel)) (by decide +kernel)
theorem kMV_X12_347 : ∀ w ∈ ([.methodLink RX12 347 yX12_laysLines, .instanceMethod yX12_laysLines, .selects RX12 yX12_laysLines yX12_laysLines, .initialized RX12] : List Cond), w ∈ fx_tb := fx_l4 kL_X12_347 kI_X12_laysLines kS_X12_laysLines kN_X12
theorem kC_X12_laysLines : Cond.code yX12_laysLines cX12_laysLines 4 none ∈ fx_tb := fx_tb_in (List.mem_of_getElem? (i := 1590) (by decide +kernel)) (by decide +kernel)
theorem hd_X12_laysLines : yX12_laysLines.cls = RX12 ∧ yX12_laysLines.cls ≠ "java/lang/invoke/MethodHandle" ∧ yX12_laysLines.cls ≠ "java/lang/invoke/VarHandle" ∧ (parseMethodDescriptor yX12_laysLines.desc).map (fun d => d.parameters.length) = some 2 := by decide +kernel
theorem kL_X12_344 : Cond.methodLink RX12 344 yX12_readsLine ∈ fx_tb := fx_tb_in (List.mem_of_getElem? (i := 1583) (by decide +kernel)) (by decide +kernel)
theorem kI_X12_readsLine : Cond.instanceMethod yX12_readsLine ∈ fx_tb := fx_tb_in (List.mem_of_getElem? (i := 1585) (by decide +kernel)) (by decide +kernel)
theorem kS_X12_readsLine : Cond.selects RX12 yX12_readsLine yX12_readsLine ∈ fx_tb := fx_tb_in (List.mem_of_getElem? (i := 57) (by decide +kernel)) (by decide +kernel)
theorem kMV_X12_344 : ∀ w ∈ ([.methodLink RX12 344 yX12_readsLine, .instanceMethod yX12_readsLine, .selects RX12 yX12_readsLine yX12_readsLine, .initialized RX12] : List Cond), w ∈ fx_tb := fx_l4 kL_X12_344 kI_X12_readsLine kS_X12_readsLine kN_X12
theorem kC_X12_readsLine : Cond.code yX12_readsLine cX12_readsLine 3 (some .boolean) ∈ fx_tb := fx_tb_in (List.mem_of_getElem? (i := 1586) (by decide +kernel)) (by decide +kernel)
theorem hd_X12_readsLine : yX12_readsLine.cls = RX12 ∧ yX12_readsLine.cls ≠ "java/lang/invoke/MethodHandle" ∧ yX12_readsLine.cls ≠ "java/lang/invoke/VarHandle" ∧ (parseMethodDescriptor yX12_readsLine.desc).map (fun d => d.parameters.length) = some 0 := by decide +kernel
theorem kL_X12_351 : Cond.methodLink RX12 351 yX12_halfOf ∈ fx_tb := fx_tb_in (List.mem_of_getElem? (i := 1599) (by decide +kernel)) (by decide +kernel)
theorem kI_X12_halfOf : Cond.instanceMethod yX12_halfOf ∈ fx_tb := fx_tb_in (List.mem_of_getElem? (i := 1601) (by decide +kernel)) (by decide +kernel)
theorem kS_X12_halfOf : Cond.selects RX12 yX12_halfOf yX12_halfOf ∈ fx_tb := fx_tb_in (List.mem_of_getElem? (i := 60) (by decide +kernel)) (by decide +kernel)
theorem kMV_X12_351 : ∀ w ∈ ([.methodLink RX12 351 yX12_halfOf, .instanceMethod yX12_halfOf, .selects RX12 yX12_halfOf yX12_halfOf, .initialized RX12] : List Cond), w ∈ fx_tb := fx_l4 kL_X12_351 kI_X12_halfOf kS_X12_halfOf kN_X12
theorem kC_X12_halfOf : Cond.code yX12_halfOf cX12_halfOf 2 (some .int) ∈ fx_tb := fx_tb_in (List.mem_of_getElem? (i := 1602) (by decide +kernel)) (by decide +kernel)
theorem hd_X12_halfOf : yX12_halfOf.cls = RX12 ∧ yX12_halfOf.cls ≠ "java/lang/invoke/MethodHandle" ∧ yX12_halfOf.cls ≠ "java/lang/invoke/VarHandle" ∧ (parseMethodDescriptor yX12_halfOf.desc).map (fun d => d.parameters.length) = some 1 := by decide +kernel
theorem kL_X12_354 : Cond.methodLink RX12 354 yX12_seatsOf ∈ fx_tb := fx_tb_in (List.mem_of_getElem? (i := 1611) (by decide +kernel)) (by decide +kernel)
theorem kI_X12_seatsOf : Cond.instanceMethod yX12_seatsOf ∈ fx_tb := fx_tb_in (List.mem_of_getElem? (i := 1613) (by decide +kernel)) (by decide +kernel)
theorem kS_X12_seatsOf : Cond.selects RX12 yX12_seatsOf yX12_seatsOf ∈ fx_tb := fx_tb_in (List.mem_of_getElem? (i := 63) (by decide +kernel)) (by decide +kernel)
theorem kMV_X12_354 : ∀ w ∈ ([.methodLink RX12 354 yX12_seatsOf, .instanceMethod yX12_seatsOf, .selects RX12 yX12_seatsOf yX12_seatsOf, .initialized RX12] : List Cond), w ∈ fx_tb := fx_l4 kL_X12_354 kI_X12_seatsOf kS_X12_seatsOf kN_X12
theorem kC_X12_seatsOf : Cond.code yX12_seatsOf cX12_seatsOf 4 (some .int) ∈ fx_tb := fx_tb_in (List.mem_of_getElem? (i := 1614) (by decide +kernel)) (by decide +kernel)
theorem hd_X12_seatsOf : yX12_seatsOf.cls = RX12 ∧ yX12_seatsOf.cls ≠ "java/lang/invoke/MethodHandle" ∧ yX12_seatsOf.cls ≠ "java/lang/invoke/VarHandle" ∧ (parseMethodDescriptor yX12_seatsOf.desc).map (fun d => d.parameters.length) = some 1 := by decide +kernel
theorem kL_X12_357 : Cond.methodLink RX12 357 yX12_blocOf ∈ fx_tb := fx_tb_in (List.mem_of_getElem? (i := 1607) (by decide +kernel)) (by decide +kernel)
theorem kI_X12_blocOf : Cond.instanceMethod yX12_blocOf ∈ fx_tb := fx_tb_in (List.mem_of_getElem? (i := 1609) (by decide +kernel)) (by decide +kernel)
theorem kS_X12_blocOf : Cond.selects RX12 yX12_blocOf yX12_blocOf ∈ fx_tb := fx_tb_in (List.mem_of_getElem? (i := 62) (by decide +kernel)) (by decide +kernel)
theorem kMV_X12_357 : ∀ w ∈ ([.methodLink RX12 357 yX12_blocOf, .instanceMethod yX12_blocOf, .selects RX12 yX12_blocOf yX12_blocOf, .initialized RX12] : List Cond), w ∈ fx_tb := fx_l4 kL_X12_357 kI_X12_blocOf kS_X12_blocOf kN_X12
theorem kC_X12_blocOf : Cond.code yX12_blocOf cX12_blocOf 4 (some .int) ∈ fx_tb := fx_tb_in (List.mem_of_getElem? (i := 1610) (by decide +kernel)) (by decide +kernel)
theorem hd_X12_blocOf : yX12_blocOf.cls = RX12 ∧ yX12_blocOf.cls ≠ "java/lang/invoke/MethodHandle" ∧ yX12_blocOf.cls ≠ "java/lang/invoke/VarHandle" ∧ (parseMethodDescriptor yX12_blocOf.desc).map (fun d => d.parameters.length) = some 1 := by decide +kernel
theorem kL_X12_360 : Cond.methodLink RX12 360 Lib.Math.max.name ∈ fx_tb := fx_tb_in (List.mem_of_getElem? (i := 1646) (by decide +kernel)) (by decide +kernel)
theorem kL_X12_363 : Cond.methodLink RX12 363 yX12_worked ∈ fx_tb := fx_tb_in (List.mem_of_getElem? (i := 1695) (by decide +kernel)) (by decide +kernel)
theorem kI_X12_worked : Cond.instanceMethod yX12_worked ∈ fx_tb := fx_tb_in (List.mem_of_getElem? (i := 1697) (by decide +kernel)) (by decide +kernel)
theorem kS_X12_worked : Cond.selects RX12 yX12_worked yX12_worked ∈ fx_tb := fx_tb_in (List.mem_of_getElem? (i := 77) (by decide +kernel)) (by decide +kernel)
theorem kMV_X12_363 : ∀ w ∈ ([.methodLink RX12 363 yX12_worked, .instanceMethod yX12_worked, .selects RX12 yX12_worked yX12_worked, .initialized RX12] : List Cond), w ∈ fx_tb := fx_l4 kL_X12_363 kI_X12_worked kS_X12_worked kN_X12
theorem kC_X12_worked : Cond.code yX12_worked cX12_worked 6 (some .int) ∈ fx_tb := fx_tb_in (List.mem_of_getElem? (i := 1698) (by decide +kernel)) (by decide +kernel)
theorem hd_X12_worked : yX12_worked.cls = RX12 ∧ yX12_worked.cls ≠ "java/lang/invoke/MethodHandle" ∧ yX12_worked.cls ≠ "java/lang/invoke/VarHandle" ∧ (parseMethodDescriptor yX12_worked.desc).map (fun d => d.parameters.length) = some 1 := by decide +kernel
theorem kL_X12_366 : Cond.methodLink RX12 366 yX12_between ∈ fx_tb := fx_tb_in (List.mem_of_getElem? (i := 1711) (by decide +kernel)) (by decide +kernel)
theorem kT_X12_between : Cond.static yX12_between ∈ fx_tb := fx_tb_in (List.mem_of_getElem? (i := 1712) (by decide +kernel)) (by decide +kernel)
theorem kNy_X12_between : Cond.initialized yX12_between.cls ∈ fx_tb := fx_tb_in (List.mem_of_getElem? (i := 106) (by decide +kernel)) (by decide +kernel)
theorem kMS_X12_366 : ∀ w ∈ ([.methodLink RX12 366 yX12_between, .static yX12_between, .initialized yX12_between.cls] : List Cond), w ∈ fx_tb := fx_l3 kL_X12_366 kT_X12_between kNy_X12_between
theorem kC_X12_between : Cond.code yX12_between cX12_between 3 (some .int) ∈ fx_tb := fx_tb_in (List.mem_of_getElem? (i := 1713) (by decide +kernel)) (by decide +kernel)
theorem hd_X12_between : yX12_between.cls = RX12 ∧ yX12_between.cls ≠ "java/lang/invoke/MethodHandle" ∧ yX12_between.cls ≠ "java/lang/invoke/VarHandle" ∧ (parseMethodDescriptor yX12_between.desc).map (fun d => d.parameters.length) = some 3 := by decide +kernel
theorem kL_X12_370 : Cond.methodLink RX12 370 yX12_votesOf ∈ fx_tb := fx_tb_in (List.mem_of_getElem? (i := 1603) (by decide +kernel)) (by decide +kernel)
theorem kI_X12_votesOf : Cond.instanceMethod yX12_votesOf ∈ fx_tb := fx_tb_in (List.mem_of_getElem? (i := 1605) (by decide +kernel)) (by decide +kernel)
theorem kS_X12_votesOf : Cond.selects RX12 yX12_votesOf yX12_votesOf ∈ fx_tb := fx_tb_in (List.mem_of_getElem? (i := 61) (by decide +kernel)) (by decide +kernel)
theorem kMV_X12_370 : ∀ w ∈ ([.methodLink RX12 370 yX12_votesOf, .instanceMethod yX12_votesOf, .selects RX12 yX12_votesOf yX12_votesOf, .initialized RX12] : List Cond), w ∈ fx_tb := fx_l4 kL_X12_370 kI_X12_votesOf kS_X12_votesOf kN_X12
theorem kC_X12_votesOf : Cond.code yX12_votesOf cX12_votesOf 2 (some .int) ∈ fx_tb := fx_tb_in (List.mem_of_getElem? (i := 1606) (by decide +kernel)) (by decide +kernel)
theorem hd_X12_votesOf : yX12_votesOf.cls = RX12 ∧ yX12_votesOf.cls ≠ "java/lang/invoke/MethodHandle" ∧ yX12_votesOf.cls ≠ "java/lang/invoke/VarHandle" ∧ (parseMethodDescriptor yX12_votesOf.desc).map (fun d => d.parameters.length) = some 1 := by decide +kernel
theorem kL_X12_373 : Cond.methodLink RX12 373 yX12_effort ∈ fx_tb := fx_tb_in (List.mem_of_getElem? (i := 1691) (by decide +kernel)) (by decide +kernel)
theorem kI_X12_effort : Cond.instanceMethod yX12_effort ∈ fx_tb := fx_tb_in (List.mem_of_getElem? (i := 1693) (by decide +kernel)) (by decide +kernel)
theorem kS_X12_effort : Cond.selects RX12 yX12_effort yX12_effort ∈ fx_tb := fx_tb_in (List.mem_of_getElem? (i := 76) (by decide +kernel)) (by decide +kernel)
theorem kMV_X12_373 : ∀ w ∈ ([.methodLink RX12 373 yX12_effort, .instanceMethod yX12_effort, .selects RX12 yX12_effort yX12_effort, .initialized RX12] : List Cond), w ∈ fx_tb := fx_l4 kL_X12_373 kI_X12_effort kS_X12_effort kN_X12
theorem kC_X12_effort : Cond.code yX12_effort cX12_effort 5 (some .int) ∈ fx_tb := fx_tb_in (List.mem_of_getElem? (i := 1694) (by decide +kernel)) (by decide +kernel)
theorem hd_X12_effort : yX12_effort.cls = RX12 ∧ yX12_effort.cls ≠ "java/lang/invoke/MethodHandle" ∧ yX12_effort.cls ≠ "java/lang/invoke/VarHandle" ∧ (parseMethodDescriptor yX12_effort.desc).map (fun d => d.parameters.length) = some 4 := by decide +kernel
theorem kL_X12_377 : Cond.methodLink RX12 377 yX12_works ∈ fx_tb := fx_tb_in (List.mem_of_getElem? (i := 1642) (by decide +kernel)) (by decide +kernel)
theorem kI_X12_works : Cond.instanceMethod yX12_works ∈ fx_tb := fx_tb_in (List.mem_of_getElem? (i := 1644) (by decide +kernel)) (by decide +kernel)
theorem kS_X12_works : Cond.selects RX12 yX12_works yX12_works ∈ fx_tb := fx_tb_in (List.mem_of_getElem? (i := 68) (by decide +kernel)) (by decide +kernel)
theorem kMV_X12_377 : ∀ w ∈ ([.methodLink RX12 377 yX12_works, .instanceMethod yX12_works, .selects RX12 yX12_works yX12_works, .initialized RX12] : List Cond), w ∈ fx_tb := fx_l4 kL_X12_377 kI_X12_works kS_X12_works kN_X12
theorem kC_X12_works : Cond.code yX12_works cX12_works 4 (some .int) ∈ fx_tb := fx_tb_in (List.mem_of_getElem? (i := 1645) (by decide +kernel)) (by decide +kernel)
theorem hd_X12_works : yX12_works.cls = RX12 ∧ yX12_works.cls ≠ "java/lang/invoke/MethodHandle" ∧ yX12_works.cls ≠ "java/lang/invoke/VarHandle" ∧ (parseMethodDescriptor yX12_works.desc).map (fun d => d.parameters.length) = some 2 := by decide +kernel
theorem kF_X12_380 : Cond.fieldLink RX12 380 (TX12 52).1 (TX12 52).2.1 (TX12 52).2.2.1 ∈ fx_tb := fx_tb_in (List.mem_of_getElem? (i := 1312) (by decide +kernel)) (by decide +kernel)
theorem kL_X12_383 : Cond.methodLink RX12 383 yX12_worksWeek ∈ fx_tb := fx_tb_in (List.mem_of_getElem? (i := 1687) (by decide +kernel)) (by decide +kernel)
theorem kI_X12_worksWeek : Cond.instanceMethod yX12_worksWeek ∈ fx_tb := fx_tb_in (List.mem_of_getElem? (i := 1689) (by decide +kernel)) (by decide +kernel)
theorem kS_X12_worksWeek : Cond.selects RX12 yX12_worksWeek yX12_worksWeek ∈ fx_tb := fx_tb_in (List.mem_of_getElem? (i := 75) (by decide +kernel)) (by decide +kernel)
theorem kMV_X12_383 : ∀ w ∈ ([.methodLink RX12 383 yX12_worksWeek, .instanceMethod yX12_worksWeek, .selects RX12 yX12_worksWeek yX12_worksWeek, .initialized RX12] : List Cond), w ∈ fx_tb := fx_l4 kL_X12_383 kI_X12_worksWeek kS_X12_worksWeek kN_X12
theorem kC_X12_worksWeek : Cond.code yX12_worksWeek cX12_worksWeek 4 (some .int) ∈ fx_tb := fx_tb_in (List.mem_of_getElem? (i := 1690) (by decide +kernel)) (by decide +kernel)
theorem hd_X12_worksWeek : yX12_worksWeek.cls = RX12 ∧ yX12_worksWeek.cls ≠ "java/lang/invoke/MethodHandle" ∧ yX12_worksWeek.cls ≠ "java/lang/invoke/VarHandle" ∧ (parseMethodDescriptor yX12_worksWeek.desc).map (fun d => d.parameters.length) = some 1 := by decide +kernel
theorem kL_X12_386 : Cond.methodLink RX12 386 yX12_isHalf ∈ fx_tb := fx_tb_in (List.mem_of_getElem? (i := 1659) (by decide +kernel)) (by decide +kernel)
theorem kI_X12_isHalf : Cond.instanceMethod yX12_isHalf ∈ fx_tb := fx_tb_in (List.mem_of_getElem? (i := 1661) (by decide +kernel)) (by decide +kernel)
theorem kS_X12_isHalf : Cond.selects RX12 yX12_isHalf yX12_isHalf ∈ fx_tb := fx_tb_in (List.mem_of_getElem? (i := 70) (by decide +kernel)) (by decide +kernel)
theorem kMV_X12_386 : ∀ w ∈ ([.methodLink RX12 386 yX12_isHalf, .instanceMethod yX12_isHalf, .selects RX12 yX12_isHalf yX12_isHalf, .initialized RX12] : List Cond), w ∈ fx_tb := fx_l4 kL_X12_386 kI_X12_isHalf kS_X12_isHalf kN_X12
theorem kC_X12_isHalf : Cond.code yX12_isHalf cX12_isHalf 2 (some .boolean) ∈ fx_tb := fx_tb_in (List.mem_of_getElem? (i := 1662) (by decide +kernel)) (by decide +kernel)
theorem hd_X12_isHalf : yX12_isHalf.cls = RX12 ∧ yX12_isHalf.cls ≠ "java/lang/invoke/MethodHandle" ∧ yX12_isHalf.cls ≠ "java/lang/invoke/VarHandle" ∧ (parseMethodDescriptor yX12_isHalf.desc).map (fun d => d.parameters.length) = some 1 := by decide +kernel
theorem kL_X12_389 : Cond.methodLink RX12 389 yX12_allSeats ∈ fx_tb := fx_tb_in (List.mem_of_getElem? (i := 1619) (by decide +kernel)) (by decide +kernel)
theorem kI_X12_allSeats : Cond.instanceMethod yX12_allSeats ∈ fx_tb := fx_tb_in (List.mem_of_getElem? (i := 1621) (by decide +kernel)) (by decide +kernel)
theorem kS_X12_allSeats : Cond.selects RX12 yX12_allSeats yX12_allSeats ∈ fx_tb := fx_tb_in (List.mem_of_getElem? (i := 65) (by decide +kernel)) (by decide +kernel)
theorem kMV_X12_389 : ∀ w ∈ ([.methodLink RX12 389 yX12_allSeats, .instanceMethod yX12_allSeats, .selects RX12 yX12_allSeats yX12_allSeats, .initialized RX12] : List Cond), w ∈ fx_tb := fx_l4 kL_X12_389 kI_X12_allSeats kS_X12_allSeats kN_X12
theorem kC_X12_allSeats : Cond.code yX12_allSeats cX12_allSeats 1 (some .int) ∈ fx_tb := fx_tb_in (List.mem_of_getElem? (i := 1622) (by decide +kernel)) (by decide +kernel)
theorem hd_X12_allSeats : yX12_allSeats.cls = RX12 ∧ yX12_allSeats.cls ≠ "java/lang/invoke/MethodHandle" ∧ yX12_allSeats.cls ≠ "java/lang/invoke/VarHandle" ∧ (parseMethodDescriptor yX12_allSeats.desc).map (fun d => d.parameters.length) = some 0 := by decide +kernel
theorem kL_X12_392 : Cond.methodLink RX12 392 yX12_isWare ∈ fx_tb := fx_tb_in (List.mem_of_getElem? (i := 1595) (by decide +kernel)) (by decide +kernel)
theorem kI_X12_isWare : Cond.instanceMethod yX12_isWare ∈ fx_tb := fx_tb_in (List.mem_of_getElem? (i := 1597) (by decide +kernel)) (by decide +kernel)
theorem kS_X12_isWare : Cond.selects RX12 yX12_isWare yX12_isWare ∈ fx_tb := fx_tb_in (List.mem_of_getElem? (i := 59) (by decide +kernel)) (by decide +kernel)
theorem kMV_X12_392 : ∀ w ∈ ([.methodLink RX12 392 yX12_isWare, .instanceMethod yX12_isWare, .selects RX12 yX12_isWare yX12_isWare, .initialized RX12] : List Cond), w ∈ fx_tb := fx_l4 kL_X12_392 kI_X12_isWare kS_X12_isWare kN_X12
theorem kC_X12_isWare : Cond.code yX12_isWare cX12_isWare 2 (some .boolean) ∈ fx_tb := fx_tb_in (List.mem_of_getElem? (i := 1598) (by decide +kernel)) (by decide +kernel)
theorem hd_X12_isWare : yX12_isWare.cls = RX12 ∧ yX12_isWare.cls ≠ "java/lang/invoke/MethodHandle" ∧ yX12_isWare.cls ≠ "java/lang/invoke/VarHandle" ∧ (parseMethodDescriptor yX12_isWare.desc).map (fun d => d.parameters.length) = some 1 := by decide +kernel
theorem kL_X12_395 : Cond.methodLink RX12 395 yX12_carriedOf ∈ fx_tb := fx_tb_in (List.mem_of_getElem? (i := 1615) (by decide +kernel)) (by decide +kernel)
theorem kI_X12_carriedOf : Cond.instanceMethod yX12_carriedOf ∈ fx_tb := fx_tb_in (List.mem_of_getElem? (i := 1617) (by decide +kernel)) (by decide +kernel)
theorem kS_X12_carriedOf : Cond.selects RX12 yX12_carriedOf yX12_carriedOf ∈ fx_tb := fx_tb_in (List.mem_of_getElem? (i := 64) (by decide +kernel)) (by decide +kernel)
theorem kMV_X12_395 : ∀ w ∈ ([.methodLink RX12 395 yX12_carriedOf, .instanceMethod yX12_carriedOf, .selects RX12 yX12_carriedOf yX12_carriedOf, .initialized RX12] : List Cond), w ∈ fx_tb := fx_l4 kL_X12_395 kI_X12_carriedOf kS_X12_carriedOf kN_X12
theorem kC_X12_carriedOf : Cond.code yX12_carriedOf cX12_carriedOf 4 (some .int) ∈ fx_tb := fx_tb_in (List.mem_of_getElem? (i := 1618) (by decide +kernel)) (by decide +kernel)
theorem hd_X12_carriedOf : yX12_carriedOf.cls = RX12 ∧ yX12_carriedOf.cls ≠ "java/lang/invoke/MethodHandle" ∧ yX12_carriedOf.cls ≠ "java/lang/invoke/VarHandle" ∧ (parseMethodDescriptor yX12_carriedOf.desc).map (fun d => d.parameters.length) = some 1 := by decide +kernel
theorem kL_X12_398 : Cond.methodLink RX12 398 yX12_isParty ∈ fx_tb := fx_tb_in (List.mem_of_getElem? (i := 1627) (by decide +kernel)) (by decide +kernel)
theorem kI_X12_isParty : Cond.instanceMethod yX12_isParty ∈ fx_tb := fx_tb_in (List.mem_of_getElem? (i := 1629) (by decide +kernel)) (by decide +kernel)
theorem kS_X12_isParty : Cond.selects RX12 yX12_isParty yX12_isParty ∈ fx_tb := fx_tb_in (List.mem_of_getElem? (i := 66) (by decide +kernel)) (by decide +kernel)
theorem kMV_X12_398 : ∀ w ∈ ([.methodLink RX12 398 yX12_isParty, .instanceMethod yX12_isParty, .selects RX12 yX12_isParty yX12_isParty, .initialized RX12] : List Cond), w ∈ fx_tb := fx_l4 kL_X12_398 kI_X12_isParty kS_X12_isParty kN_X12
theorem kC_X12_isParty : Cond.code yX12_isParty cX12_isParty 2 (some .boolean) ∈ fx_tb := fx_tb_in (List.mem_of_getElem? (i := 1630) (by decide +kernel)) (by decide +kernel)
theorem hd_X12_isParty : yX12_isParty.cls = RX12 ∧ yX12_isParty.cls ≠ "java/lang/invoke/MethodHandle" ∧ yX12_isParty.cls ≠ "java/lang/invoke/VarHandle" ∧ (parseMethodDescriptor yX12_isParty.desc).map (fun d => d.parameters.length) = some 1 := by decide +kernel
theorem kF_X12_120 : Cond.fieldLink RX12 120 (TX12 49).1 (TX12 49).2.1 (TX12 49).2.2.1 ∈ fx_tb := fx_tb_in (List.mem_of_getElem? (i := 1309) (by decide +kernel)) (by decide +kernel)
theorem kL_X12_401 : Cond.methodLink RX12 401 yX12_copies ∈ fx_tb := fx_tb_in (List.mem_of_getElem? (i := 1639) (by decide +kernel)) (by decide +kernel)
theorem kT_X12_copies : Cond.static yX12_copies ∈ fx_tb := fx_tb_in (List.mem_of_getElem? (i := 1640) (by decide +kernel)) (by decide +kernel)
theorem kNy_X12_copies : Cond.initialized yX12_copies.cls ∈ fx_tb := fx_tb_in (List.mem_of_getElem? (i := 106) (by decide +kernel)) (by decide +kernel)
theorem kMS_X12_401 : ∀ w ∈ ([.methodLink RX12 401 yX12_copies, .static yX12_copies, .initialized yX12_copies.cls] : List Cond), w ∈ fx_tb := fx_l3 kL_X12_401 kT_X12_copies kNy_X12_copies
theorem kC_X12_copies : Cond.code yX12_copies cX12_copies 5 none ∈ fx_tb := fx_tb_in (List.mem_of_getElem? (i := 1641) (by decide +kernel)) (by decide +kernel)
theorem hd_X12_copies : yX12_copies.cls = RX12 ∧ yX12_copies.cls ≠ "java/lang/invoke/MethodHandle" ∧ yX12_copies.cls ≠ "java/lang/invoke/VarHandle" ∧ (parseMethodDescriptor yX12_copies.desc).map (fun d => d.parameters.length) = some 4 := by decide +kernel
theorem kL_X12_405 : Cond.methodLink RX12 405 yX12_keeps ∈ fx_tb := fx_tb_in (List.mem_of_getElem? (i := 1635) (by decide +kernel)) (by decide +kernel)
theorem kI_X12_keeps : Cond.instanceMethod yX12_keeps ∈ fx_tb := fx_tb_in (List.mem_of_getElem? (i := 1637) (by decide +kernel)) (by decide +kernel)
theorem kS_X12_keeps : Cond.selects RX12 yX12_keeps yX12_keeps ∈ fx_tb := fx_tb_in (List.mem_of_getElem? (i := 67) (by decide +kernel)) (by decide +kernel)
theorem kMV_X12_405 : ∀ w ∈ ([.methodLink RX12 405 yX12_keeps, .instanceMethod yX12_keeps, .selects RX12 yX12_keeps yX12_keeps, .initialized RX12] : List Cond), w ∈ fx_tb := fx_l4 kL_X12_405 kI_X12_keeps kS_X12_keeps kN_X12
theorem kC_X12_keeps : Cond.code yX12_keeps cX12_keeps 2 none ∈ fx_tb := fx_tb_in (List.mem_of_getElem? (i := 1638) (by decide +kernel)) (by decide +kernel)
theorem hd_X12_keeps : yX12_keeps.cls = RX12 ∧ yX12_keeps.cls ≠ "java/lang/invoke/MethodHandle" ∧ yX12_keeps.cls ≠ "java/lang/invoke/VarHandle" ∧ (parseMethodDescriptor yX12_keeps.desc).map (fun d => d.parameters.length) = some 0 := by decide +kernel
theorem kL_X12_408 : Cond.methodLink RX12 408 yX12_canJoin ∈ fx_tb := fx_tb_in (List.mem_of_getElem? (i := 1655) (by decide +kernel)) (by decide +kernel)
theorem kI_X12_canJoin : Cond.instanceMethod yX12_canJoin ∈ fx_tb := fx_tb_in (List.mem_of_getElem? (i := 1657) (by decide +kernel)) (by decide +kernel)
theorem kS_X12_canJoin : Cond.selects RX12 yX12_canJoin yX12_canJoin ∈ fx_tb := fx_tb_in (List.mem_of_getElem? (i := 69) (by decide +kernel)) (by decide +kernel)
theorem kMV_X12_408 : ∀ w ∈ ([.methodLink RX12 408 yX12_canJoin, .instanceMethod yX12_canJoin, .selects RX12 yX12_canJoin yX12_canJoin, .initialized RX12] : List Cond), w ∈ fx_tb := fx_l4 kL_X12_408 kI_X12_canJoin kS_X12_canJoin kN_X12
theorem kC_X12_canJoin : Cond.code yX12_canJoin cX12_canJoin 3 (some .boolean) ∈ fx_tb := fx_tb_in (List.mem_of_getElem? (i := 1658) (by decide +kernel)) (by decide +kernel)
theorem hd_X12_canJoin : yX12_canJoin.cls = RX12 ∧ yX12_canJoin.cls ≠ "java/lang/invoke/MethodHandle" ∧ yX12_canJoin.cls ≠ "java/lang/invoke/VarHandle" ∧ (parseMethodDescriptor yX12_canJoin.desc).map (fun d => d.parameters.length) = some 2 := by decide +kernel
theorem kL_X12_411 : Cond.methodLink RX12 411 yX12_joins ∈ fx_tb := fx_tb_in (List.mem_of_getElem? (i := 1663) (by decide +kernel)) (by decide +kernel)
theorem kI_X12_joins : Cond.instanceMethod yX12_joins ∈ fx_tb := fx_tb_in (List.mem_of_getElem? (i := 1665) (by decide +kernel)) (by decide +kernel)
theorem kS_X12_joins : Cond.selects RX12 yX12_joins yX12_joins ∈ fx_tb := fx_tb_in (List.mem_of_getElem? (i := 71) (by decide +kernel)) (by decide +kernel)
theorem kMV_X12_411 : ∀ w ∈ ([.methodLink RX12 411 yX12_joins, .instanceMethod yX12_joins, .selects RX12 yX12_joins yX12_joins, .initialized RX12] : List Cond), w ∈ fx_tb := fx_l4 kL_X12_411 kI_X12_joins kS_X12_joins kN_X12
theorem kC_X12_joins : Cond.code yX12_joins cX12_joins 3 none ∈ fx_tb := fx_tb_in (List.mem_of_getElem? (i := 1666) (by decide +kernel)) (by decide +kernel)
theorem hd_X12_joins : yX12_joins.cls = RX12 ∧ yX12_joins.cls ≠ "java/lang/invoke/MethodHandle" ∧ yX12_joins.cls ≠ "java/lang/invoke/VarHandle" ∧ (parseMethodDescriptor yX12_joins.desc).map (fun d => d.parameters.length) = some 2 := by decide +kernel
theorem kL_X12_414 : Cond.methodLink RX12 414 yX12_canLend ∈ fx_tb := fx_tb_in (List.mem_of_getElem? (i := 1671) (by decide +kernel)) (by decide +kernel)
theorem kI_X12_canLend : Cond.instanceMethod yX12_canLend ∈ fx_tb := fx_tb_in (List.mem_of_getElem? (i := 1673) (by decide +kernel)) (by decide +kernel)
theorem kS_X12_canLend : Cond.selects RX12 yX12_canLend yX12_canLend ∈ fx_tb := fx_tb_in (List.mem_of_getElem? (i := 72) (by decide +kernel)) (by decide +kernel)
theorem kMV_X12_414 : ∀ w ∈ ([.methodLink RX12 414 yX12_canLend, .instanceMethod yX12_canLend, .selects RX12 yX12_canLend yX12_canLend, .initialized RX12] : List Cond), w ∈ fx_tb := fx_l4 kL_X12_414 kI_X12_canLend kS_X12_canLend kN_X12
theorem kC_X12_canLend : Cond.code yX12_canLend cX12_canLend 4 (some .boolean) ∈ fx_tb := fx_tb_in (List.mem_of_getElem? (i := 1674) (by decide +kernel)) (by decide +kernel)
theorem hd_X12_canLend : yX12_canLend.cls = RX12 ∧ yX12_canLend.cls ≠ "java/lang/invoke/MethodHandle" ∧ yX12_canLend.cls ≠ "java/lang/invoke/VarHandle" ∧ (parseMethodDescriptor yX12_canLend.desc).map (fun d => d.parameters.length) = some 3 := by decide +kernel
theorem kL_X12_417 : Cond.methodLink RX12 417 yX12_lends ∈ fx_tb := fx_tb_in (List.mem_of_getElem? (i := 1675) (by decide +kernel)) (by decide +kernel)
theorem kI_X12_lends : Cond.instanceMethod yX12_lends ∈ fx_tb := fx_tb_in (List.mem_of_getElem? (i := 1677) (by decide +kernel)) (by decide +kernel)
theorem kS_X12_lends : Cond.selects RX12 yX12_lends yX12_lends ∈ fx_tb := fx_tb_in (List.mem_of_getElem? (i := 73) (by decide +kernel)) (by decide +kernel)
theorem kMV_X12_417 : ∀ w ∈ ([.methodLink RX12 417 yX12_lends, .instanceMethod yX12_lends, .selects RX12 yX12_lends yX12_lends, .initialized RX12] : List Cond), w ∈ fx_tb := fx_l4 kL_X12_417 kI_X12_lends kS_X12_lends kN_X12
theorem kC_X12_lends : Cond.code yX12_lends cX12_lends 4 none ∈ fx_tb := fx_tb_in (List.mem_of_getElem? (i := 1678) (by decide +kernel)) (by decide +kernel)
theorem hd_X12_lends : yX12_lends.cls = RX12 ∧ yX12_lends.cls ≠ "java/lang/invoke/MethodHandle" ∧ yX12_lends.cls ≠ "java/lang/invoke/VarHandle" ∧ (parseMethodDescriptor yX12_lends.desc).map (fun d => d.parameters.length) = some 3 := by decide +kernel
theorem kL_X12_421 : Cond.methodLink RX12 421 yX12_passes ∈ fx_tb := fx_tb_in (List.mem_of_getElem? (i := 1683) (by decide +kernel)) (by decide +kernel)
theorem kI_X12_passes : Cond.instanceMethod yX12_passes ∈ fx_tb := fx_tb_in (List.mem_of_getElem? (i := 1685) (by decide +kernel)) (by decide +kernel)
theorem kS_X12_passes : Cond.selects RX12 yX12_passes yX12_passes ∈ fx_tb := fx_tb_in (List.mem_of_getElem? (i := 74) (by decide +kernel)) (by decide +kernel)
theorem kMV_X12_421 : ∀ w ∈ ([.methodLink RX12 421 yX12_passes, .instanceMethod yX12_passes, .selects RX12 yX12_passes yX12_passes, .initialized RX12] : List Cond), w ∈ fx_tb := fx_l4 kL_X12_421 kI_X12_passes kS_X12_passes kN_X12
theorem kC_X12_passes : Cond.code yX12_passes cX12_passes 4 (some .int) ∈ fx_tb := fx_tb_in (List.mem_of_getElem? (i := 1686) (by decide +kernel)) (by decide +kernel)
theorem hd_X12_passes : yX12_passes.cls = RX12 ∧ yX12_passes.cls ≠ "java/lang/invoke/MethodHandle" ∧ yX12_passes.cls ≠ "java/lang/invoke/VarHandle" ∧ (parseMethodDescriptor yX12_passes.desc).map (fun d => d.parameters.length) = some 0 := by decide +kernel
theorem kF_X12_111 : Cond.fieldLink RX12 111 (TX12 46).1 (TX12 46).2.1 (TX12 46).2.2.1 ∈ fx_tb := fx_tb_in (List.mem_of_getElem? (i := 1306) (by decide +kernel)) (by decide +kernel)
theorem kL_X12_424 : Cond.methodLink RX12 424 yX12_goes ∈ fx_tb := fx_tb_in (List.mem_of_getElem? (i := 1722) (by decide +kernel)) (by decide +kernel)
theorem kI_X12_goes : Cond.instanceMethod yX12_goes ∈ fx_tb := fx_tb_in (List.mem_of_getElem? (i := 1724) (by decide +kernel)) (by decide +kernel)
theorem kS_X12_goes : Cond.selects RX12 yX12_goes yX12_goes ∈ fx_tb := fx_tb_in (List.mem_of_getElem? (i := 81) (by decide +kernel)) (by decide +kernel)
theorem kMV_X12_424 : ∀ w ∈ ([.methodLink RX12 424 yX12_goes, .instanceMethod yX12_goes, .selects RX12 yX12_goes yX12_goes, .initialized RX12] : List Cond), w ∈ fx_tb := fx_l4 kL_X12_424 kI_X12_goes kS_X12_goes kN_X12
theorem kC_X12_goes : Cond.code yX12_goes cX12_goes 4 (some .boolean) ∈ fx_tb := fx_tb_in (List.mem_of_getElem? (i := 1725) (by decide +kernel)) (by decide +kernel)
theorem hd_X12_goes : yX12_goes.cls = RX12 ∧ yX12_goes.cls ≠ "java/lang/invoke/MethodHandle" ∧ yX12_goes.cls ≠ "java/lang/invoke/VarHandle" ∧ (parseMethodDescriptor yX12_goes.desc).map (fun d => d.parameters.length) = some 1 := by decide +kernel
theorem kF_X12_114 : Cond.fieldLink RX12 114 (TX12 47).1 (TX12 47).2.1 (TX12 47).2.2.1 ∈ fx_tb := fx_tb_in (List.mem_of_getElem? (i := 1307) (by decide +kernel)) (by decide +kernel)
theorem kL_X12_427 : Cond.methodLink RX12 427 yX12_halves ∈ fx_tb := fx_tb_in (List.mem_of_getElem? (i := 1750) (by decide +kernel)) (by decide +kernel)
theorem kI_X12_halves : Cond.instanceMethod yX12_halves ∈ fx_tb := fx_tb_in (List.mem_of_getElem? (i := 1752) (by decide +kernel)) (by decide +kernel)
theorem kS_X12_halves : Cond.selects RX12 yX12_halves yX12_halves ∈ fx_tb := fx_tb_in (List.mem_of_getElem? (i := 82) (by decide +kernel)) (by decide +kernel)
theorem kMV_X12_427 : ∀ w ∈ ([.methodLink RX12 427 yX12_halves, .instanceMethod yX12_halves, .selects RX12 yX12_halves yX12_halves, .initialized RX12] : List Cond), w ∈ fx_tb := fx_l4 kL_X12_427 kI_X12_halves kS_X12_halves kN_X12
theorem kC_X12_halves : Cond.code yX12_halves cX12_halves 3 (some .int) ∈ fx_tb := fx_tb_in (List.mem_of_getElem? (i := 1753) (by decide +kernel)) (by decide +kernel)
theorem hd_X12_halves : yX12_halves.cls = RX12 ∧ yX12_halves.cls ≠ "java/lang/invoke/MethodHandle" ∧ yX12_halves.cls ≠ "java/lang/invoke/VarHandle" ∧ (parseMethodDescriptor yX12_halves.desc).map (fun d => d.parameters.length) = some 0 := by decide +kernel
theorem kL_X12_430 : Cond.methodLink RX12 430 yX12_lackOf ∈ fx_tb := fx_tb_in (List.mem_of_getElem? (i := 1754) (by decide +kernel)) (by decide +kernel)
theorem kI_X12_lackOf : Cond.instanceMethod yX12_lackOf ∈ fx_tb := fx_tb_in (List.mem_of_getElem? (i := 1756) (by decide +kernel)) (by decide +kernel)
theorem kS_X12_lackOf : Cond.selects RX12 yX12_lackOf yX12_lackOf ∈ fx_tb := fx_tb_in (List.mem_of_getElem? (i := 83) (by decide +kernel)) (by decide +kernel)
theorem kMV_X12_430 : ∀ w ∈ ([.methodLink RX12 430 yX12_lackOf, .instanceMethod yX12_lackOf, .selects RX12 yX12_lackOf yX12_lackOf, .initialized RX12] : List Cond), w ∈ fx_tb := fx_l4 kL_X12_430 kI_X12_lackOf kS_X12_lackOf kN_X12
theorem kC_X12_lackOf : Cond.code yX12_lackOf cX12_lackOf 4 (some .int) ∈ fx_tb := fx_tb_in (List.mem_of_getElem? (i := 1757) (by decide +kernel)) (by decide +kernel)
theorem hd_X12_lackOf : yX12_lackOf.cls = RX12 ∧ yX12_lackOf.cls ≠ "java/lang/invoke/MethodHandle" ∧ yX12_lackOf.cls ≠ "java/lang/invoke/VarHandle" ∧ (parseMethodDescriptor yX12_lackOf.desc).map (fun d => d.parameters.length) = some 1 := by decide +kernel
theorem kL_X12_433 : Cond.methodLink RX12 433 yX12_bits ∈ fx_tb := fx_tb_in (List.mem_of_getElem? (i := 1758) (by decide +kernel)) (by decide +kernel)
theorem kT_X12_bits : Cond.static yX12_bits ∈ fx_tb := fx_tb_in (List.mem_of_getElem? (i := 1759) (by decide +kernel)) (by decide +kernel)
theorem kNy_X12_bits : Cond.initialized yX12_bits.cls ∈ fx_tb := fx_tb_in (List.mem_of_getElem? (i := 106) (by decide +kernel)) (by decide +kernel)
theorem kMS_X12_433 : ∀ w ∈ ([.methodLink RX12 433 yX12_bits, .static yX12_bits, .initialized yX12_bits.cls] : List Cond), w ∈ fx_tb := fx_l3 kL_X12_433 kT_X12_bits kNy_X12_bits
theorem kC_X12_bits : Cond.code yX12_bits cX12_bits 3 (some .int) ∈ fx_tb := fx_tb_in (List.mem_of_getElem? (i := 1760) (by decide +kernel)) (by decide +kernel)
theorem hd_X12_bits : yX12_bits.cls = RX12 ∧ yX12_bits.cls ≠ "java/lang/invoke/MethodHandle" ∧ yX12_bits.cls ≠ "java/lang/invoke/VarHandle" ∧ (parseMethodDescriptor yX12_bits.desc).map (fun d => d.parameters.length) = some 1 := by decide +kernel
theorem kL_X12_436 : Cond.methodLink RX12 436 yX12_isMore ∈ fx_tb := fx_tb_in (List.mem_of_getElem? (i := 1773) (by decide +kernel)) (by decide +kernel)
theorem kI_X12_isMore : Cond.instanceMethod yX12_isMore ∈ fx_tb := fx_tb_in (List.mem_of_getElem? (i := 1775) (by decide +kernel)) (by decide +kernel)
theorem kS_X12_isMore : Cond.selects RX12 yX12_isMore yX12_isMore ∈ fx_tb := fx_tb_in (List.mem_of_getElem? (i := 85) (by decide +kernel)) (by decide +kernel)
theorem kMV_X12_436 : ∀ w ∈ ([.methodLink RX12 436 yX12_isMore, .instanceMethod yX12_isMore, .selects RX12 yX12_isMore yX12_isMore, .initialized RX12] : List Cond), w ∈ fx_tb := fx_l4 kL_X12_436 kI_X12_isMore kS_X12_isMore kN_X12
theorem kC_X12_isMore : Cond.code yX12_isMore cX12_isMore 2 (some .boolean) ∈ fx_tb := fx_tb_in (List.mem_of_getElem? (i := 1776) (by decide +kernel)) (by decide +kernel)
theorem hd_X12_isMore : yX12_isMore.cls = RX12 ∧ yX12_isMore.cls ≠ "java/lang/invoke/MethodHandle" ∧ yX12_isMore.cls ≠ "java/lang/invoke/VarHandle" ∧ (parseMethodDescriptor yX12_isMore.desc).map (fun d => d.parameters.length) = some 1 := by decide +kernel
theorem kL_X12_439 : Cond.methodLink RX12 439 yX12_pivotsOf ∈ fx_tb := fx_tb_in (List.mem_of_getElem? (i := 1769) (by decide +kernel)) (by decide +kernel)
theorem kI_X12_pivotsOf : Cond.instanceMethod yX12_pivotsOf ∈ fx_tb := fx_tb_in (List.mem_of_getElem? (i := 1771) (by decide +kernel)) (by decide +kernel)
theorem kS_X12_pivotsOf : Cond.selects RX12 yX12_pivotsOf yX12_pivotsOf ∈ fx_tb := fx_tb_in (List.mem_of_getElem? (i := 84) (by decide +kernel)) (by decide +kernel)
theorem kMV_X12_439 : ∀ w ∈ ([.methodLink RX12 439 yX12_pivotsOf, .instanceMethod yX12_pivotsOf, .selects RX12 yX12_pivotsOf yX12_pivotsOf, .initialized RX12] : List Cond), w ∈ fx_tb := fx_l4 kL_X12_439 kI_X12_pivotsOf kS_X12_pivotsOf kN_X12
theorem kC_X12_pivotsOf : Cond.code yX12_pivotsOf cX12_pivotsOf 4 (some .int) ∈ fx_tb := fx_tb_in (List.mem_of_getElem? (i := 1772) (by decide +kernel)) (by decide +kernel)
theorem hd_X12_pivotsOf : yX12_pivotsOf.cls = RX12 ∧ yX12_pivotsOf.cls ≠ "java/lang/invoke/MethodHandle" ∧ yX12_pivotsOf.cls ≠ "java/lang/invoke/VarHandle" ∧ (parseMethodDescriptor yX12_pivotsOf.desc).map (fun d => d.parameters.length) = some 1 := by decide +kernel
theorem kK_X12_442 : Cond.constantLong RX12 442 1000000 ∈ fx_tb := fx_tb_in (List.mem_of_getElem? (i := 1781) (by decide +kernel)) (by decide +kernel)
theorem kL_X12_444 : Cond.methodLink RX12 444 yX12_isHalvedBy ∈ fx_tb := fx_tb_in (List.mem_of_getElem? (i := 1794) (by decide +kernel)) (by decide +kernel)
theorem kI_X12_isHalvedBy : Cond.instanceMethod yX12_isHalvedBy ∈ fx_tb := fx_tb_in (List.mem_of_getElem? (i := 1796) (by decide +kernel)) (by decide +kernel)
theorem kS_X12_isHalvedBy : Cond.selects RX12 yX12_isHalvedBy yX12_isHalvedBy ∈ fx_tb := fx_tb_in (List.mem_of_getElem? (i := 86) (by decide +kernel)) (by decide +kernel)
theorem kMV_X12_444 : ∀ w ∈ ([.methodLink RX12 444 yX12_isHalvedBy, .instanceMethod yX12_isHalvedBy, .selects RX12 yX12_isHalvedBy yX12_isHalvedBy, .initialized RX12] : List Cond), w ∈ fx_tb := fx_l4 kL_X12_444 kI_X12_isHalvedBy kS_X12_isHalvedBy kN_X12
theorem kC_X12_isHalvedBy : Cond.code yX12_isHalvedBy cX12_isHalvedBy 6 (some .boolean) ∈ fx_tb := fx_tb_in (List.mem_of_getElem? (i := 1797) (by decide +kernel)) (by decide +kernel)
theorem hd_X12_isHalvedBy : yX12_isHalvedBy.cls = RX12 ∧ yX12_isHalvedBy.cls ≠ "java/lang/invoke/MethodHandle" ∧ yX12_isHalvedBy.cls ≠ "java/lang/invoke/VarHandle" ∧ (parseMethodDescriptor yX12_isHalvedBy.desc).map (fun d => d.parameters.length) = some 4 := by decide +kernel
theorem kL_X12_448 : Cond.methodLink RX12 448 yX12_agreeOf ∈ fx_tb := fx_tb_in (List.mem_of_getElem? (i := 1802) (by decide +kernel)) (by decide +kernel)
theorem kI_X12_agreeOf : Cond.instanceMethod yX12_agreeOf ∈ fx_tb := fx_tb_in (List.mem_of_getElem? (i := 1804) (by decide +kernel)) (by decide +kernel)
theorem kS_X12_agreeOf : Cond.selects RX12 yX12_agreeOf yX12_agreeOf ∈ fx_tb := fx_tb_in (List.mem_of_getElem? (i := 87) (by decide +kernel)) (by decide +kernel)
theorem kMV_X12_448 : ∀ w ∈ ([.methodLink RX12 448 yX12_agreeOf, .instanceMethod yX12_agreeOf, .selects RX12 yX12_agreeOf yX12_agreeOf, .initialized RX12] : List Cond), w ∈ fx_tb := fx_l4 kL_X12_448 kI_X12_agreeOf kS_X12_agreeOf kN_X12
theorem kC_X12_agreeOf : Cond.code yX12_agreeOf cX12_agreeOf 3 (some .int) ∈ fx_tb := fx_tb_in (List.mem_of_getElem? (i := 1805) (by decide +kernel)) (by decide +kernel)
theorem hd_X12_agreeOf : yX12_agreeOf.cls = RX12 ∧ yX12_agreeOf.cls ≠ "java/lang/invoke/MethodHandle" ∧ yX12_agreeOf.cls ≠ "java/lang/invoke/VarHandle" ∧ (parseMethodDescriptor yX12_agreeOf.desc).map (fun d => d.parameters.length) = some 2 := by decide +kernel
theorem kF_X12_126 : Cond.fieldLink RX12 126 (TX12 53).1 (TX12 53).2.1 (TX12 53).2.2.1 ∈ fx_tb := fx_tb_in (List.mem_of_getElem? (i := 1313) (by decide +kernel)) (by decide +kernel)
theorem kL_X12_451 : Cond.methodLink RX12 451 yX12_laysHalves ∈ fx_tb := fx_tb_in (List.mem_of_getElem? (i := 1826) (by decide +kernel)) (by decide +kernel)
theorem kI_X12_laysHalves : Cond.instanceMethod yX12_laysHalves ∈ fx_tb := fx_tb_in (List.mem_of_getElem? (i := 1828) (by decide +kernel)) (by decide +kernel)
theorem kS_X12_laysHalves : Cond.selects RX12 yX12_laysHalves yX12_laysHalves ∈ fx_tb := fx_tb_in (List.mem_of_getElem? (i := 88) (by decide +kernel)) (by decide +kernel)
theorem kMV_X12_451 : ∀ w ∈ ([.methodLink RX12 451 yX12_laysHalves, .instanceMethod yX12_laysHalves, .selects RX12 yX12_laysHalves yX12_laysHalves, .initialized RX12] : List Cond), w ∈ fx_tb := fx_l4 kL_X12_451 kI_X12_laysHalves kS_X12_laysHalves kN_X12
theorem kC_X12_laysHalves : Cond.code yX12_laysHalves cX12_laysHalves 4 none ∈ fx_tb := fx_tb_in (List.mem_of_getElem? (i := 1829) (by decide +kernel)) (by decide +kernel)
theorem hd_X12_laysHalves : yX12_laysHalves.cls = RX12 ∧ yX12_laysHalves.cls ≠ "java/lang/invoke/MethodHandle" ∧ yX12_laysHalves.cls ≠ "java/lang/invoke/VarHandle" ∧ (parseMethodDescriptor yX12_laysHalves.desc).map (fun d => d.parameters.length) = some 0 := by decide +kernel
theorem kL_X12_454 : Cond.methodLink RX12 454 yX12_isAsSaid ∈ fx_tb := fx_tb_in (List.mem_of_getElem? (i := 1830) (by decide +kernel)) (by decide +kernel)
theorem kI_X12_isAsSaid : Cond.instanceMethod yX12_isAsSaid ∈ fx_tb := fx_tb_in (List.mem_of_getElem? (i := 1832) (by decide +kernel)) (by decide +kernel)
theorem kS_X12_isAsSaid : Cond.selects RX12 yX12_isAsSaid yX12_isAsSaid ∈ fx_tb := fx_tb_in (List.mem_of_getElem? (i := 89) (by decide +kernel)) (by decide +kernel)
theorem kMV_X12_454 : ∀ w ∈ ([.methodLink RX12 454 yX12_isAsSaid, .instanceMethod yX12_isAsSaid, .selects RX12 yX12_isAsSaid yX12_isAsSaid, .initialized RX12] : List Cond), w ∈ fx_tb := fx_l4 kL_X12_454 kI_X12_isAsSaid kS_X12_isAsSaid kN_X12
theorem kC_X12_isAsSaid : Cond.code yX12_isAsSaid cX12_isAsSaid 3 (some .boolean) ∈ fx_tb := fx_tb_in (List.mem_of_getElem? (i := 1833) (by decide +kernel)) (by decide +kernel)
theorem hd_X12_isAsSaid : yX12_isAsSaid.cls = RX12 ∧ yX12_isAsSaid.cls ≠ "java/lang/invoke/MethodHandle" ∧ yX12_isAsSaid.cls ≠ "java/lang/invoke/VarHandle" ∧ (parseMethodDescriptor yX12_isAsSaid.desc).map (fun d => d.parameters.length) = some 1 := by decide +kernel
theorem kL_X12_457 : Cond.methodLink RX12 457 yX12_wholes ∈ fx_tb := fx_tb_in (List.mem_of_getElem? (i := 1838) (by decide +kernel)) (by decide +kernel)
theorem kI_X12_wholes : Cond.instanceMethod yX12_wholes ∈ fx_tb := fx_tb_in (List.mem_of_getElem? (i := 1823) (by decide +kernel)) (by decide +kernel)
theorem kS_X12_wholes : Cond.selects RX12 yX12_wholes yX12_wholes ∈ fx_tb := fx_tb_in (List.mem_of_getElem? (i := 1824) (by decide +kernel)) (by decide +kernel)
theorem kMV_X12_457 : ∀ w ∈ ([.methodLink RX12 457 yX12_wholes, .instanceMethod yX12_wholes, .selects RX12 yX12_wholes yX12_wholes, .initialized RX12] : List Cond), w ∈ fx_tb := fx_l4 kL_X12_457 kI_X12_wholes kS_X12_wholes kN_X12
theorem kC_X12_wholes : Cond.code yX12_wholes cX12_wholes 6 (some .int) ∈ fx_tb := fx_tb_in (List.mem_of_getElem? (i := 1825) (by decide +kernel)) (by decide +kernel)
theorem hd_X12_wholes : yX12_wholes.cls = RX12 ∧ yX12_wholes.cls ≠ "java/lang/invoke/MethodHandle" ∧ yX12_wholes.cls ≠ "java/lang/invoke/VarHandle" ∧ (parseMethodDescriptor yX12_wholes.desc).map (fun d => d.parameters.length) = some 1 := by decide +kernel
theorem kK_X12_460 : Cond.constantLong RX12 460 10 ∈ fx_tb := fx_tb_in (List.mem_of_getElem? (i := 1843) (by decide +kernel)) (by decide +kernel)
theorem kL_X12_462 : Cond.methodLink RX12 462 yX12_getsBy ∈ fx_tb := fx_tb_in (List.mem_of_getElem? (i := 1848) (by decide +kernel)) (by decide +kernel)
theorem kT_X12_getsBy : Cond.static yX12_getsBy ∈ fx_tb := fx_tb_in (List.mem_of_getElem? (i := 1849) (by decide +kernel)) (by decide +kernel)
theorem kNy_X12_getsBy : Cond.initialized yX12_getsBy.cls ∈ fx_tb := fx_tb_in (List.mem_of_getElem? (i := 106) (by decide +kernel)) (by decide +kernel)
theorem kMS_X12_462 : ∀ w ∈ ([.methodLink RX12 462 yX12_getsBy, .static yX12_getsBy, .initialized yX12_getsBy.cls] : List Cond), w ∈ fx_tb := fx_l3 kL_X12_462 kT_X12_getsBy kNy_X12_getsBy
theorem kC_X12_getsBy : Cond.code yX12_getsBy cX12_getsBy 5 (some .int) ∈ fx_tb := fx_tb_in (List.mem_of_getElem? (i := 1850) (by decide +kernel)) (by decide +kernel)
theorem hd_X12_getsBy : yX12_getsBy.cls = RX12 ∧ yX12_getsBy.cls ≠ "java/lang/invoke/MethodHandle" ∧ yX12_getsBy.cls ≠ "java/lang/invoke/VarHandle" ∧ (parseMethodDescriptor yX12_getsBy.desc).map (fun d => d.parameters.length) = some 5 := by decide +kernel
theorem kF_X12_466 : Cond.fieldLink RX12 466 (TX12 54).1 (TX12 54).2.1 (TX12 54).2.2.1 ∈ fx_tb := fx_tb_in (List.mem_of_getElem? (i := 1314) (by decide +kernel)) (by decide +kernel)
theorem kK_X12_469 : Cond.constantLong RX12 469 1103515245 ∈ fx_tb := fx_tb_in (List.mem_of_getElem? (i := 1863) (by decide +kernel)) (by decide +kernel)
theorem kK_X12_471 : Cond.constantLong RX12 471 12345 ∈ fx_tb := fx_tb_in (List.mem_of_getElem? (i := 1864) (by decide +kernel)) (by decide +kernel)
theorem kK_X12_473 : Cond.constantLong RX12 473 2147483648 ∈ fx_tb := fx_tb_in (List.mem_of_getElem? (i := 1865) (by decide +kernel)) (by decide +kernel)
theorem kK_X12_475 : Cond.constantLong RX12 475 65536 ∈ fx_tb := fx_tb_in (List.mem_of_getElem? (i := 1866) (by decide +kernel)) (by decide +kernel)
theorem kL_X12_477 : Cond.methodLink RX12 477 yX12_draws ∈ fx_tb := fx_tb_in (List.mem_of_getElem? (i := 1859) (by decide +kernel)) (by decide +kernel)
theorem kI_X12_draws : Cond.instanceMethod yX12_draws ∈ fx_tb := fx_tb_in (List.mem_of_getElem? (i := 1861) (by decide +kernel)) (by decide +kernel)
theorem kS_X12_draws : Cond.selects RX12 yX12_draws yX12_draws ∈ fx_tb := fx_tb_in (List.mem_of_getElem? (i := 91) (by decide +kernel)) (by decide +kernel)
theorem kMV_X12_477 : ∀ w ∈ ([.methodLink RX12 477 yX12_draws, .instanceMethod yX12_draws, .selects RX12 yX12_draws yX12_draws, .initialized RX12] : List Cond), w ∈ fx_tb := fx_l4 kL_X12_477 kI_X12_draws kS_X12_draws kN_X12
theorem kC_X12_draws : Cond.code yX12_draws cX12_draws 2 (some .int) ∈ fx_tb := fx_tb_in (List.mem_of_getElem? (i := 1862) (by decide +kernel)) (by decide +kernel)
theorem hd_X12_draws : yX12_draws.cls = RX12 ∧ yX12_draws.cls ≠ "java/lang/invoke/MethodHandle" ∧ yX12_draws.cls ≠ "java/lang/invoke/VarHandle" ∧ (parseMethodDescriptor yX12_draws.desc).map (fun d => d.parameters.length) = some 1 := by decide +kernel
theorem kL_X12_483 : Cond.methodLink RX12 483 yX12_allDone ∈ fx_tb := fx_tb_in (List.mem_of_getElem? (i := 1867) (by decide +kernel)) (by decide +kernel)
theorem kI_X12_allDone : Cond.instanceMethod yX12_allDone ∈ fx_tb := fx_tb_in (List.mem_of_getElem? (i := 1869) (by decide +kernel)) (by decide +kernel)
theorem kS_X12_allDone : Cond.selects RX12 yX12_allDone yX12_allDone ∈ fx_tb := fx_tb_in (List.mem_of_getElem? (i := 92) (by decide +kernel)) (by decide +kernel)
theorem kMV_X12_483 : ∀ w ∈ ([.methodLink RX12 483 yX12_allDone, .instanceMethod yX12_allDone, .selects RX12 yX12_allDone yX12_allDone, .initialized RX12] : List Cond), w ∈ fx_tb := fx_l4 kL_X12_483 kI_X12_allDone kS_X12_allDone kN_X12
theorem kC_X12_allDone : Cond.code yX12_allDone cX12_allDone 3 (some .int) ∈ fx_tb := fx_tb_in (List.mem_of_getElem? (i := 1870) (by decide +kernel)) (by decide +kernel)
theorem hd_X12_allDone : yX12_allDone.cls = RX12 ∧ yX12_allDone.cls ≠ "java/lang/invoke/MethodHandle" ∧ yX12_allDone.cls ≠ "java/lang/invoke/VarHandle" ∧ (parseMethodDescriptor yX12_allDone.desc).map (fun d => d.parameters.length) = some 0 := by decide +kernel
theorem kL_X12_480 : Cond.methodLink RX12 480 yX12_livesWeek ∈ fx_tb := fx_tb_in (List.mem_of_getElem? (i := 1855) (by decide +kernel)) (by decide +kernel)
theorem kI_X12_livesWeek : Cond.instanceMethod yX12_livesWeek ∈ fx_tb := fx_tb_in (List.mem_of_getElem? (i := 1857) (by decide +kernel)) (by decide +kernel)
theorem kS_X12_livesWeek : Cond.selects RX12 yX12_livesWeek yX12_livesWeek ∈ fx_tb := fx_tb_in (List.mem_of_getElem? (i := 90) (by decide +kernel)) (by decide +kernel)
theorem kMV_X12_480 : ∀ w ∈ ([.methodLink RX12 480 yX12_livesWeek, .instanceMethod yX12_livesWeek, .selects RX12 yX12_livesWeek yX12_livesWeek, .initialized RX12] : List Cond), w ∈ fx_tb := fx_l4 kL_X12_480 kI_X12_livesWeek kS_X12_livesWeek kN_X12
theorem kC_X12_livesWeek : Cond.code yX12_livesWeek cX12_livesWeek 4 none ∈ fx_tb := fx_tb_in (List.mem_of_getElem? (i := 1858) (by decide +kernel)) (by decide +kernel)
theorem hd_X12_livesWeek : yX12_livesWeek.cls = RX12 ∧ yX12_livesWeek.cls ≠ "java/lang/invoke/MethodHandle" ∧ yX12_livesWeek.cls ≠ "java/lang/invoke/VarHandle" ∧ (parseMethodDescriptor yX12_livesWeek.desc).map (fun d => d.parameters.length) = some 0 := by decide +kernel
theorem kL_X12_486 : Cond.methodLink RX12 486 yX12_laysSaid ∈ fx_tb := fx_tb_in (List.mem_of_getElem? (i := 1875) (by decide +kernel)) (by decide +kernel)
theorem kI_X12_laysSaid : Cond.instanceMethod yX12_laysSaid ∈ fx_tb := fx_tb_in (List.mem_of_getElem? (i := 1877) (by decide +kernel)) (by decide +kernel)
theorem kS_X12_laysSaid : Cond.selects RX12 yX12_laysSaid yX12_laysSaid ∈ fx_tb := fx_tb_in (List.mem_of_getElem? (i := 93) (by decide +kernel)) (by decide +kernel)
theorem kMV_X12_486 : ∀ w ∈ ([.methodLink RX12 486 yX12_laysSaid, .instanceMethod yX12_laysSaid, .selects RX12 yX12_laysSaid yX12_laysSaid, .initialized RX12] : List Cond), w ∈ fx_tb := fx_l4 kL_X12_486 kI_X12_laysSaid kS_X12_laysSaid kN_X12
theorem kC_X12_laysSaid : Cond.code yX12_laysSaid cX12_laysSaid 4 none ∈ fx_tb := fx_tb_in (List.mem_of_getElem? (i := 1878) (by decide +kernel)) (by decide +kernel)
theorem hd_X12_laysSaid : yX12_laysSaid.cls = RX12 ∧ yX12_laysSaid.cls ≠ "java/lang/invoke/MethodHandle" ∧ yX12_laysSaid.cls ≠ "java/lang/invoke/VarHandle" ∧ (parseMethodDescriptor yX12_laysSaid.desc).map (fun d => d.parameters.length) = some 2 := by decide +kernel
theorem kF_X12_117 : Cond.fieldLink RX12 117 (TX12 48).1 (TX12 48).2.1 (TX12 48).2.2.1 ∈ fx_tb := fx_tb_in (List.mem_of_getElem? (i := 1308) (by decide +kernel)) (by decide +kernel)
