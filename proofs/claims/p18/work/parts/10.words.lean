/-! WORDS: what the tables say of each instruction that links something (by program: wip/gen) -/
theorem tk0 {w : Cond} {i : Nat} (e : (k2_sels lw_privs)[i]? = some w) (g : goodWord w = true) : w ∈ tg := tg_of (show w ∈ k2_sels lw_privs ++ tables_1 from List.mem_append_left _ (List.mem_of_getElem? e)) g
theorem tk1 {w : Cond} {i : Nat} (e : tables_1_1[i]? = some w) (g : goodWord w = true) : w ∈ tg := tg_of (show w ∈ k2_sels lw_privs ++ tables_1 from List.mem_append_right _ (show w ∈ tables_1_1 ++ (tables_1_2 ++ (tables_1_3 ++ (tables_1_4 ++ (tables_1_5 ++ (tables_1_6))))) from List.mem_append_left _ (List.mem_of_getElem? e))) g
theorem tk2 {w : Cond} {i : Nat} (e : tables_1_2[i]? = some w) (g : goodWord w = true) : w ∈ tg := tg_of (show w ∈ k2_sels lw_privs ++ tables_1 from List.mem_append_right _ (show w ∈ tables_1_1 ++ (tables_1_2 ++ (tables_1_3 ++ (tables_1_4 ++ (tables_1_5 ++ (tables_1_6))))) from List.mem_append_right _ (List.mem_append_left _ (List.mem_of_getElem? e)))) g
theorem tk3 {w : Cond} {i : Nat} (e : tables_1_3[i]? = some w) (g : goodWord w = true) : w ∈ tg := tg_of (show w ∈ k2_sels lw_privs ++ tables_1 from List.mem_append_right _ (show w ∈ tables_1_1 ++ (tables_1_2 ++ (tables_1_3 ++ (tables_1_4 ++ (tables_1_5 ++ (tables_1_6))))) from List.mem_append_right _ (List.mem_append_right _ (List.mem_append_left _ (List.mem_of_getElem? e))))) g
theorem tk4 {w : Cond} {i : Nat} (e : tables_1_4[i]? = some w) (g : goodWord w = true) : w ∈ tg := tg_of (show w ∈ k2_sels lw_privs ++ tables_1 from List.mem_append_right _ (show w ∈ tables_1_1 ++ (tables_1_2 ++ (tables_1_3 ++ (tables_1_4 ++ (tables_1_5 ++ (tables_1_6))))) from List.mem_append_right _ (List.mem_append_right _ (List.mem_append_right _ (List.mem_append_left _ (List.mem_of_getElem? e)))))) g
theorem tk5 {w : Cond} {i : Nat} (e : tables_1_5[i]? = some w) (g : goodWord w = true) : w ∈ tg := tg_of (show w ∈ k2_sels lw_privs ++ tables_1 from List.mem_append_right _ (show w ∈ tables_1_1 ++ (tables_1_2 ++ (tables_1_3 ++ (tables_1_4 ++ (tables_1_5 ++ (tables_1_6))))) from List.mem_append_right _ (List.mem_append_right _ (List.mem_append_right _ (List.mem_append_right _ (List.mem_append_left _ (List.mem_of_getElem? e))))))) g
theorem tk6 {w : Cond} {i : Nat} (e : tables_1_6[i]? = some w) (g : goodWord w = true) : w ∈ tg := tg_of (show w ∈ k2_sels lw_privs ++ tables_1 from List.mem_append_right _ (show w ∈ tables_1_1 ++ (tables_1_2 ++ (tables_1_3 ++ (tables_1_4 ++ (tables_1_5 ++ (tables_1_6))))) from List.mem_append_right _ (List.mem_append_right _ (List.mem_append_right _ (List.mem_append_right _ (List.mem_append_right _ (List.mem_of_getElem? e))))))) g
theorem ic_0 : Int32.ofInt 0 = 0 := by decide
theorem bc_m9 : (Int8.ofInt (-9)).toInt32 = (-9) := by decide
theorem bc_8 : (Int8.ofInt 8).toInt32 = 8 := by decide
theorem ic_2 : Int32.ofInt 2 = 2 := by decide
theorem ic_1 : Int32.ofInt 1 = 1 := by decide
theorem ic_4 : Int32.ofInt 4 = 4 := by decide
theorem bc_60 : (Int8.ofInt 60).toInt32 = 60 := by decide
theorem bc_61 : (Int8.ofInt 61).toInt32 = 61 := by decide
theorem sc_240 : (Int16.ofInt 240).toInt32 = 240 := by decide
theorem sc_1000 : (Int16.ofInt 1000).toInt32 = 1000 := by decide
theorem bc_30 : (Int8.ofInt 30).toInt32 = 30 := by decide
theorem sc_255 : (Int16.ofInt 255).toInt32 = 255 := by decide
theorem bc_97 : (Int8.ofInt 97).toInt32 = 97 := by decide
theorem bc_122 : (Int8.ofInt 122).toInt32 = 122 := by decide
theorem bc_48 : (Int8.ofInt 48).toInt32 = 48 := by decide
theorem bc_57 : (Int8.ofInt 57).toInt32 = 57 := by decide
theorem bc_10 : (Int8.ofInt 10).toInt32 = 10 := by decide
theorem bc_32 : (Int8.ofInt 32).toInt32 = 32 := by decide
theorem bc_59 : (Int8.ofInt 59).toInt32 = 59 := by decide
theorem ic_3 : Int32.ofInt 3 = 3 := by decide
theorem sc_400 : (Int16.ofInt 400).toInt32 = 400 := by decide
theorem bc_54 : (Int8.ofInt 54).toInt32 = 54 := by decide
theorem bc_9 : (Int8.ofInt 9).toInt32 = 9 := by decide
theorem bc_m3 : (Int8.ofInt (-3)).toInt32 = (-3) := by decide
theorem bc_6 : (Int8.ofInt 6).toInt32 = 6 := by decide
theorem bc_16 : (Int8.ofInt 16).toInt32 = 16 := by decide
theorem bc_63 : (Int8.ofInt 63).toInt32 = 63 := by decide
theorem bc_64 : (Int8.ofInt 64).toInt32 = 64 := by decide
theorem ic_5 : Int32.ofInt 5 = 5 := by decide
theorem ic_m1 : Int32.ofInt (-1) = (-1) := by decide
theorem bc_m10 : (Int8.ofInt (-10)).toInt32 = (-10) := by decide
theorem bc_m2 : (Int8.ofInt (-2)).toInt32 = (-2) := by decide
theorem bc_m100 : (Int8.ofInt (-100)).toInt32 = (-100) := by decide
theorem bc_31 : (Int8.ofInt 31).toInt32 = 31 := by decide
theorem bc_127 : (Int8.ofInt 127).toInt32 = 127 := by decide
theorem bc_40 : (Int8.ofInt 40).toInt32 = 40 := by decide
theorem bc_20 : (Int8.ofInt 20).toInt32 = 20 := by decide
theorem bc_18 : (Int8.ofInt 18).toInt32 = 18 := by decide
theorem bc_19 : (Int8.ofInt 19).toInt32 = 19 := by decide
theorem bc_120 : (Int8.ofInt 120).toInt32 = 120 := by decide
theorem sc_11760 : (Int16.ofInt 11760).toInt32 = 11760 := by decide
theorem bc_11 : (Int8.ofInt 11).toInt32 = 11 := by decide
theorem bc_7 : (Int8.ofInt 7).toInt32 = 7 := by decide
theorem bc_14 : (Int8.ofInt 14).toInt32 = 14 := by decide
theorem bc_27 : (Int8.ofInt 27).toInt32 = 27 := by decide
theorem bc_96 : (Int8.ofInt 96).toInt32 = 96 := by decide
theorem bc_99 : (Int8.ofInt 99).toInt32 = 99 := by decide
theorem bc_12 : (Int8.ofInt 12).toInt32 = 12 := by decide
theorem bc_13 : (Int8.ofInt 13).toInt32 = 13 := by decide
theorem sc_9999 : (Int16.ofInt 9999).toInt32 = 9999 := by decide
theorem sc_2940 : (Int16.ofInt 2940).toInt32 = 2940 := by decide
theorem in_1 (x : Int32) : x + Int32.ofInt 1 = x + 1 := by rw [show Int32.ofInt 1 = 1 by decide]
theorem in_m1 (x : Int32) : x + Int32.ofInt (-1) = x + (-1) := by rw [show Int32.ofInt (-1) = (-1) by decide]
theorem in_2 (x : Int32) : x + Int32.ofInt 2 = x + 2 := by rw [show Int32.ofInt 2 = 2 by decide]
theorem pn_java_util_Arrays : plainName "java/util/Arrays" = true := by decide +kernel
set_option maxRecDepth 20000 in
theorem w_mJ7_fill_53178 : MW yJ7_fill_53178 cJ7_fill_53178 4 none 2 := ⟨tk1 (i := 156) rfl rfl, tk1 (i := 7) (by decide +kernel) rfl, ⟨by decide +kernel, by decide +kernel, by decide +kernel⟩, by decide, plainFor_of_name (x := yJ7_fill_53178) pn_java_util_Arrays⟩
theorem w_lX0_3 : Cond.methodLink RX0 3 Lib.objectInit ∈ tg := tk1 (i := 153) (by decide +kernel) rfl
theorem w_obj : Cond.instanceMethod Lib.objectInit ∈ tg ∧ Cond.code Lib.objectInit ⟨#[0xb1]⟩ 1 none ∈ tg := ⟨tk1 (i := 25) (by decide +kernel) rfl, tk1 (i := 26) (by decide +kernel) rfl⟩
theorem w_fX0_9 : Fld RX0 9 0 3 := ⟨by decide, by decide, tk1 (i := 164) (by decide +kernel) rfl⟩
theorem w_fX0_15 : Fld RX0 15 0 8 := ⟨by decide, by decide, tk1 (i := 175) (by decide +kernel) rfl⟩
theorem w_fX0_18 : Fld RX0 18 0 10 := ⟨by decide, by decide, tk1 (i := 179) (by decide +kernel) rfl⟩
theorem w_a0 : Cond.arrayClass (aty 0) ∈ tg := tk1 (i := 71) (by decide +kernel) rfl
theorem w_fX0_21 : Fld RX0 21 0 12 := ⟨by decide, by decide, tk1 (i := 182) (by decide +kernel) rfl⟩
theorem w_fX0_25 : Fld RX0 25 0 13 := ⟨by decide, by decide, tk1 (i := 184) (by decide +kernel) rfl⟩
theorem w_fX0_28 : Fld RX0 28 0 14 := ⟨by decide, by decide, tk1 (i := 185) (by decide +kernel) rfl⟩
theorem w_lX0_31 : Cond.methodLink RX0 31 yJ7_fill_53178 ∈ tg := tk1 (i := 154) (by decide +kernel) rfl
theorem w_sJ7_fill_53178 : Cond.static yJ7_fill_53178 ∈ tg := tk1 (i := 155) (by decide +kernel) rfl
theorem pn_NoDayForIt_Acts : plainName "NoDayForIt$Acts" = true := by decide +kernel
set_option maxRecDepth 20000 in
theorem w_mX0_init : MW yX0_init cX0_init 1 none 0 := ⟨tk1 (i := 152) rfl rfl, tk1 (i := 6) (by decide +kernel) rfl, ⟨by decide +kernel, by decide +kernel, by decide +kernel⟩, by decide, plainFor_of_name (x := yX0_init) pn_NoDayForIt_Acts⟩
theorem pn_NoDayForIt : plainName "NoDayForIt" = true := by decide +kernel
set_option maxRecDepth 20000 in
theorem w_mX7_at : MW yX7_at cX7_at 2 (some .int) 2 := ⟨tk3 (i := 5) rfl rfl, tk1 (i := 1) (by decide +kernel) rfl, ⟨by decide +kernel, by decide +kernel, by decide +kernel⟩, by decide, plainFor_of_name (x := yX7_at) pn_NoDayForIt⟩
theorem w_fX5_15 : Fld RX5 15 5 2 := ⟨by decide, by decide, tk1 (i := 140) (by decide +kernel) rfl⟩
theorem w_lX5_22 : (RX5, 22, yX7_at, RX7) ∈ nests := by unfold nests; simp
theorem w_sX7_at : Cond.static yX7_at ∈ tg := tk3 (i := 4) (by decide +kernel) rfl
theorem pn_NoDayForIt_People : plainName "NoDayForIt$People" = true := by decide +kernel
set_option maxRecDepth 20000 in
theorem w_mX5_timesOf : MW yX5_timesOf cX5_timesOf 2 (some .int) 1 := ⟨tk3 (i := 38) rfl rfl, tk1 (i := 5) (by decide +kernel) rfl, ⟨by decide +kernel, by decide +kernel, by decide +kernel⟩, by decide, plainFor_of_name (x := yX5_timesOf) pn_NoDayForIt_People⟩
set_option maxRecDepth 20000 in
theorem w_mX7_put : MW yX7_put cX7_put 3 none 3 := ⟨tk2 (i := 223) rfl rfl, tk1 (i := 1) (by decide +kernel) rfl, ⟨by decide +kernel, by decide +kernel, by decide +kernel⟩, by decide, plainFor_of_name (x := yX7_put) pn_NoDayForIt⟩
theorem w_lX0_60 : Cond.methodLink RX0 60 yX5_timesOf ∈ tg := tk3 (i := 35) (by decide +kernel) rfl
theorem w_iX5_timesOf : Cond.instanceMethod yX5_timesOf ∈ tg ∧ Cond.selects (yX5_timesOf).cls yX5_timesOf yX5_timesOf ∈ tg := ⟨tk3 (i := 36) (by decide +kernel) rfl, tk3 (i := 37) (by decide +kernel) rfl⟩
theorem w_lX0_66 : (RX0, 66, yX7_put, RX7) ∈ nests := by unfold nests; simp
theorem w_sX7_put : Cond.static yX7_put ∈ tg := tk2 (i := 222) (by decide +kernel) rfl
theorem w_fX0_37 : Fld RX0 37 0 0 := ⟨by decide, by decide, tk1 (i := 157) (by decide +kernel) rfl⟩
theorem w_fX0_40 : Fld RX0 40 0 1 := ⟨by decide, by decide, tk1 (i := 160) (by decide +kernel) rfl⟩
theorem w_fX0_43 : Fld RX0 43 0 2 := ⟨by decide, by decide, tk1 (i := 162) (by decide +kernel) rfl⟩
theorem w_fX0_46 : Fld RX0 46 0 4 := ⟨by decide, by decide, tk1 (i := 166) (by decide +kernel) rfl⟩
theorem w_fX0_50 : Fld RX0 50 0 6 := ⟨by decide, by decide, tk1 (i := 171) (by decide +kernel) rfl⟩
theorem w_fX0_53 : Fld RX0 53 0 7 := ⟨by decide, by decide, tk1 (i := 173) (by decide +kernel) rfl⟩
theorem w_fX0_56 : Fld RX0 56 0 5 := ⟨by decide, by decide, tk1 (i := 169) (by decide +kernel) rfl⟩
set_option maxRecDepth 20000 in
theorem w_mX0_begin : MW yX0_begin cX0_begin 3 none 1 := ⟨tk3 (i := 34) rfl rfl, tk1 (i := 6) (by decide +kernel) rfl, ⟨by decide +kernel, by decide +kernel, by decide +kernel⟩, by decide, plainFor_of_name (x := yX0_begin) pn_NoDayForIt_Acts⟩
theorem w_fX0_70 : Fld RX0 70 0 9 := ⟨by decide, by decide, tk1 (i := 177) (by decide +kernel) rfl⟩
theorem w_lX0_73 : Cond.methodLink RX0 73 arraycopyName ∈ tg := tk4 (i := 219) (by decide +kernel) rfl
theorem w_cp : Cond.native arraycopyName ∈ tg ∧ Cond.static arraycopyName ∈ tg ∧ Cond.initialized "java/lang/System" ∈ tg := ⟨tk4 (i := 147) (by decide +kernel) rfl, tk4 (i := 146) (by decide +kernel) rfl, tk1 (i := 17) (by decide +kernel) rfl⟩
set_option maxRecDepth 20000 in
theorem w_mX0_copy : MW yX0_copy cX0_copy 2 none 1 := ⟨tk4 (i := 218) rfl rfl, tk1 (i := 6) (by decide +kernel) rfl, ⟨by decide +kernel, by decide +kernel, by decide +kernel⟩, by decide, plainFor_of_name (x := yX0_copy) pn_NoDayForIt_Acts⟩
set_option maxRecDepth 20000 in
theorem w_mX0_slip : MW yX0_slip cX0_slip 1 none 0 := ⟨tk3 (i := 202) rfl rfl, tk1 (i := 6) (by decide +kernel) rfl, ⟨by decide +kernel, by decide +kernel, by decide +kernel⟩, by decide, plainFor_of_name (x := yX0_slip) pn_NoDayForIt_Acts⟩
theorem w_lX0_79 : (RX0, 79, yX7_at, RX7) ∈ nests := by unfold nests; simp
set_option maxRecDepth 20000 in
theorem w_mX0_doneOf : MW yX0_doneOf cX0_doneOf 2 (some .int) 1 := ⟨tk3 (i := 153) rfl rfl, tk1 (i := 6) (by decide +kernel) rfl, ⟨by decide +kernel, by decide +kernel, by decide +kernel⟩, by decide, plainFor_of_name (x := yX0_doneOf) pn_NoDayForIt_Acts⟩
set_option maxRecDepth 20000 in
theorem w_mX0_lastOf : MW yX0_lastOf cX0_lastOf 2 (some .int) 1 := ⟨tk3 (i := 158) rfl rfl, tk1 (i := 6) (by decide +kernel) rfl, ⟨by decide +kernel, by decide +kernel, by decide +kernel⟩, by decide, plainFor_of_name (x := yX0_lastOf) pn_NoDayForIt_Acts⟩
set_option maxRecDepth 20000 in
theorem w_mX0_setRun : MW yX0_setRun cX0_setRun 4 none 3 := ⟨tk3 (i := 162) rfl rfl, tk1 (i := 6) (by decide +kernel) rfl, ⟨by decide +kernel, by decide +kernel, by decide +kernel⟩, by decide, plainFor_of_name (x := yX0_setRun) pn_NoDayForIt_Acts⟩
set_option maxRecDepth 20000 in
theorem w_mX0_useOne : MW yX0_useOne cX0_useOne 2 none 1 := ⟨tk3 (i := 170) rfl rfl, tk1 (i := 6) (by decide +kernel) rfl, ⟨by decide +kernel, by decide +kernel, by decide +kernel⟩, by decide, plainFor_of_name (x := yX0_useOne) pn_NoDayForIt_Acts⟩
set_option maxRecDepth 20000 in
theorem w_mX0_isMadeHoly : MW yX0_isMadeHoly cX0_isMadeHoly 2 (some .boolean) 1 := ⟨tk3 (i := 56) rfl rfl, tk1 (i := 6) (by decide +kernel) rfl, ⟨by decide +kernel, by decide +kernel, by decide +kernel⟩, by decide, plainFor_of_name (x := yX0_isMadeHoly) pn_NoDayForIt_Acts⟩
set_option maxRecDepth 20000 in
theorem w_mX0_makeHoly : MW yX0_makeHoly cX0_makeHoly 2 none 1 := ⟨tk3 (i := 186) rfl rfl, tk1 (i := 6) (by decide +kernel) rfl, ⟨by decide +kernel, by decide +kernel, by decide +kernel⟩, by decide, plainFor_of_name (x := yX0_makeHoly) pn_NoDayForIt_Acts⟩
theorem w_lX1_3 : Cond.methodLink RX1 3 Lib.objectInit ∈ tg := tk1 (i := 223) (by decide +kernel) rfl
theorem w_fX1_9 : Fld RX1 9 1 0 := ⟨by decide, by decide, tk1 (i := 224) (by decide +kernel) rfl⟩
theorem w_fX1_15 : Fld RX1 15 1 5 := ⟨by decide, by decide, tk1 (i := 231) (by decide +kernel) rfl⟩
theorem w_fX1_18 : Fld RX1 18 1 6 := ⟨by decide, by decide, tk1 (i := 232) (by decide +kernel) rfl⟩
theorem w_fX1_21 : Fld RX1 21 1 7 := ⟨by decide, by decide, tk1 (i := 233) (by decide +kernel) rfl⟩
theorem w_fX1_24 : Fld RX1 24 1 8 := ⟨by decide, by decide, tk1 (i := 234) (by decide +kernel) rfl⟩
theorem w_fX1_27 : Fld RX1 27 1 2 := ⟨by decide, by decide, tk1 (i := 228) (by decide +kernel) rfl⟩
theorem pn_NoDayForIt_DaysAhead : plainName "NoDayForIt$DaysAhead" = true := by decide +kernel
set_option maxRecDepth 20000 in
theorem w_mX1_init : MW yX1_init cX1_init 2 none 1 := ⟨tk1 (i := 222) rfl rfl, tk1 (i := 8) (by decide +kernel) rfl, ⟨by decide +kernel, by decide +kernel, by decide +kernel⟩, by decide, plainFor_of_name (x := yX1_init) pn_NoDayForIt_DaysAhead⟩
theorem w_fX2_15 : Fld RX2 15 2 3 := ⟨by decide, by decide, tk1 (i := 81) (by decide +kernel) rfl⟩
theorem w_lX2_63 : (RX2, 63, yX7_at, RX7) ∈ nests := by unfold nests; simp
theorem pn_NoDayForIt_Law : plainName "NoDayForIt$Law" = true := by decide +kernel
set_option maxRecDepth 20000 in
theorem w_mX2_kindOf : MW yX2_kindOf cX2_kindOf 2 (some .int) 1 := ⟨tk3 (i := 60) rfl rfl, tk1 (i := 2) (by decide +kernel) rfl, ⟨by decide +kernel, by decide +kernel, by decide +kernel⟩, by decide, plainFor_of_name (x := yX2_kindOf) pn_NoDayForIt_Law⟩
theorem w_lX1_43 : (RX1, 43, yX7_put, RX7) ∈ nests := by unfold nests; simp
theorem w_lX1_47 : (RX1, 47, yX7_at, RX7) ∈ nests := by unfold nests; simp
theorem w_lX1_31 : Cond.methodLink RX1 31 yX0_isMadeHoly ∈ tg := tk3 (i := 89) (by decide +kernel) rfl
theorem w_iX0_isMadeHoly : Cond.instanceMethod yX0_isMadeHoly ∈ tg ∧ Cond.selects (yX0_isMadeHoly).cls yX0_isMadeHoly yX0_isMadeHoly ∈ tg := ⟨tk3 (i := 54) (by decide +kernel) rfl, tk3 (i := 55) (by decide +kernel) rfl⟩
theorem w_lX1_37 : Cond.methodLink RX1 37 yX2_kindOf ∈ tg := tk3 (i := 90) (by decide +kernel) rfl
theorem w_iX2_kindOf : Cond.instanceMethod yX2_kindOf ∈ tg ∧ Cond.selects (yX2_kindOf).cls yX2_kindOf yX2_kindOf ∈ tg := ⟨tk3 (i := 58) (by decide +kernel) rfl, tk3 (i := 59) (by decide +kernel) rfl⟩
set_option maxRecDepth 20000 in
theorem w_mX1_see : MW yX1_see cX1_see 5 none 2 := ⟨tk3 (i := 88) rfl rfl, tk1 (i := 8) (by decide +kernel) rfl, ⟨by decide +kernel, by decide +kernel, by decide +kernel⟩, by decide, plainFor_of_name (x := yX1_see) pn_NoDayForIt_DaysAhead⟩
theorem w_fX1_51 : Fld RX1 51 6 0 := ⟨by decide, by decide, tk1 (i := 41) (by decide +kernel) rfl⟩
set_option maxRecDepth 20000 in
theorem w_mX1_isOfItsKinds : MW yX1_isOfItsKinds cX1_isOfItsKinds 3 (some .boolean) 2 := ⟨tk3 (i := 96) rfl rfl, tk1 (i := 8) (by decide +kernel) rfl, ⟨by decide +kernel, by decide +kernel, by decide +kernel⟩, by decide, plainFor_of_name (x := yX1_isOfItsKinds) pn_NoDayForIt_DaysAhead⟩
theorem w_fX1_60 : Fld RX1 60 6 1 := ⟨by decide, by decide, tk1 (i := 45) (by decide +kernel) rfl⟩
theorem w_fX1_63 : Fld RX1 63 6 3 := ⟨by decide, by decide, tk1 (i := 53) (by decide +kernel) rfl⟩
theorem w_fX1_56 : Fld RX1 56 6 2 := ⟨by decide, by decide, tk1 (i := 49) (by decide +kernel) rfl⟩
set_option maxRecDepth 20000 in
theorem w_mX1_isFarEnough : MW yX1_isFarEnough cX1_isFarEnough 6 (some .boolean) 3 := ⟨tk3 (i := 100) rfl rfl, tk1 (i := 8) (by decide +kernel) rfl, ⟨by decide +kernel, by decide +kernel, by decide +kernel⟩, by decide, plainFor_of_name (x := yX1_isFarEnough) pn_NoDayForIt_DaysAhead⟩
set_option maxRecDepth 20000 in
theorem w_mX1_place : MW yX1_place cX1_place 2 (some .int) 2 := ⟨tk4 (i := 14) rfl rfl, tk1 (i := 8) (by decide +kernel) rfl, ⟨by decide +kernel, by decide +kernel, by decide +kernel⟩, by decide, plainFor_of_name (x := yX1_place) pn_NoDayForIt_DaysAhead⟩
set_option maxRecDepth 20000 in
theorem w_mJ9_min_7cf53 : MW yJ9_min_7cf53 cJ9_min_7cf53 2 (some .int) 2 := ⟨tk2 (i := 98) rfl rfl, tk1 (i := 11) (by decide +kernel) rfl, ⟨by decide +kernel, by decide +kernel, by decide +kernel⟩, by decide, by decide +kernel⟩
theorem w_fX2_19 : Fld RX2 19 2 4 := ⟨by decide, by decide, tk1 (i := 82) (by decide +kernel) rfl⟩
set_option maxRecDepth 20000 in
theorem w_mX2_stepsOf : MW yX2_stepsOf cX2_stepsOf 2 (some .int) 1 := ⟨tk3 (i := 2) rfl rfl, tk1 (i := 2) (by decide +kernel) rfl, ⟨by decide +kernel, by decide +kernel, by decide +kernel⟩, by decide, plainFor_of_name (x := yX2_stepsOf) pn_NoDayForIt_Law⟩
theorem w_fX2_29 : Fld RX2 29 2 6 := ⟨by decide, by decide, tk1 (i := 84) (by decide +kernel) rfl⟩
theorem w_fX2_24 : Fld RX2 24 2 5 := ⟨by decide, by decide, tk1 (i := 83) (by decide +kernel) rfl⟩
set_option maxRecDepth 20000 in
theorem w_mX2_stepAt : MW yX2_stepAt cX2_stepAt 6 (some (.object "NoDayForIt$Step")) 2 := ⟨tk3 (i := 14) rfl rfl, tk1 (i := 2) (by decide +kernel) rfl, ⟨by decide +kernel, by decide +kernel, by decide +kernel⟩, by decide, plainFor_of_name (x := yX2_stepAt) pn_NoDayForIt_Law⟩
theorem w_lX1_115 : Cond.methodLink RX1 115 yX1_isOfItsKinds ∈ tg := tk4 (i := 7) (by decide +kernel) rfl
theorem w_iX1_isOfItsKinds : Cond.instanceMethod yX1_isOfItsKinds ∈ tg ∧ Cond.selects (yX1_isOfItsKinds).cls yX1_isOfItsKinds yX1_isOfItsKinds ∈ tg := ⟨tk3 (i := 94) (by decide +kernel) rfl, tk3 (i := 95) (by decide +kernel) rfl⟩
theorem w_fX1_66 : Fld RX1 66 1 4 := ⟨by decide, by decide, tk1 (i := 230) (by decide +kernel) rfl⟩
set_option maxRecDepth 20000 in
theorem w_mX1_costOn : MW yX1_costOn cX1_costOn 3 (some .int) 2 := ⟨tk4 (i := 6) rfl rfl, tk1 (i := 8) (by decide +kernel) rfl, ⟨by decide +kernel, by decide +kernel, by decide +kernel⟩, by decide, plainFor_of_name (x := yX1_costOn) pn_NoDayForIt_DaysAhead⟩
theorem w_fX1_130 : Fld RX1 130 2 0 := ⟨by decide, by decide, tk1 (i := 74) (by decide +kernel) rfl⟩
theorem w_lX1_137 : Cond.methodLink RX1 137 yX1_place ∈ tg := tk4 (i := 12) (by decide +kernel) rfl
theorem w_sX1_place : Cond.static yX1_place ∈ tg := tk4 (i := 13) (by decide +kernel) rfl
theorem w_lX1_140 : Cond.methodLink RX1 140 yX1_isFarEnough ∈ tg := tk4 (i := 15) (by decide +kernel) rfl
theorem w_iX1_isFarEnough : Cond.instanceMethod yX1_isFarEnough ∈ tg ∧ Cond.selects (yX1_isFarEnough).cls yX1_isFarEnough yX1_isFarEnough ∈ tg := ⟨tk3 (i := 98) (by decide +kernel) rfl, tk3 (i := 99) (by decide +kernel) rfl⟩
theorem w_fX1_123 : Fld RX1 123 1 3 := ⟨by decide, by decide, tk1 (i := 229) (by decide +kernel) rfl⟩
theorem w_lX1_126 : Cond.methodLink RX1 126 yX2_stepAt ∈ tg := tk4 (i := 2) (by decide +kernel) rfl
theorem w_iX2_stepAt : Cond.instanceMethod yX2_stepAt ∈ tg ∧ Cond.selects (yX2_stepAt).cls yX2_stepAt yX2_stepAt ∈ tg := ⟨tk3 (i := 12) (by decide +kernel) rfl, tk3 (i := 13) (by decide +kernel) rfl⟩
set_option maxRecDepth 20000 in
theorem w_mX1_leastRest : MW yX1_leastRest cX1_leastRest 8 (some .int) 3 := ⟨tk4 (i := 11) rfl rfl, tk1 (i := 8) (by decide +kernel) rfl, ⟨by decide +kernel, by decide +kernel, by decide +kernel⟩, by decide, plainFor_of_name (x := yX1_leastRest) pn_NoDayForIt_DaysAhead⟩
theorem w_lX1_103 : Cond.methodLink RX1 103 yJ9_min_7cf53 ∈ tg := tk4 (i := 16) (by decide +kernel) rfl
theorem w_sJ9_min_7cf53 : Cond.static yJ9_min_7cf53 ∈ tg := tk2 (i := 97) (by decide +kernel) rfl
theorem w_lX1_133 : Cond.methodLink RX1 133 yX1_costOn ∈ tg := tk4 (i := 3) (by decide +kernel) rfl
theorem w_iX1_costOn : Cond.instanceMethod yX1_costOn ∈ tg ∧ Cond.selects (yX1_costOn).cls yX1_costOn yX1_costOn ∈ tg := ⟨tk4 (i := 5) (by decide +kernel) rfl, tk0 (i := 36) (by decide +kernel) rfl⟩
theorem w_lX1_83 : Cond.methodLink RX1 83 yX1_leastRest ∈ tg := tk4 (i := 8) (by decide +kernel) rfl
theorem w_iX1_leastRest : Cond.instanceMethod yX1_leastRest ∈ tg ∧ Cond.selects (yX1_leastRest).cls yX1_leastRest yX1_leastRest ∈ tg := ⟨tk4 (i := 10) (by decide +kernel) rfl, tk0 (i := 37) (by decide +kernel) rfl⟩
theorem w_lX1_119 : Cond.methodLink RX1 119 yX1_see ∈ tg := tk4 (i := 0) (by decide +kernel) rfl
theorem w_iX1_see : Cond.instanceMethod yX1_see ∈ tg ∧ Cond.selects (yX1_see).cls yX1_see yX1_see ∈ tg := ⟨tk3 (i := 86) (by decide +kernel) rfl, tk3 (i := 87) (by decide +kernel) rfl⟩
theorem w_lX1_100 : Cond.methodLink RX1 100 yX2_stepsOf ∈ tg := tk4 (i := 1) (by decide +kernel) rfl
theorem w_iX2_stepsOf : Cond.instanceMethod yX2_stepsOf ∈ tg ∧ Cond.selects (yX2_stepsOf).cls yX2_stepsOf yX2_stepsOf ∈ tg := ⟨tk3 (i := 0) (by decide +kernel) rfl, tk3 (i := 1) (by decide +kernel) rfl⟩
set_option maxRecDepth 20000 in
theorem w_mX1_fillRest : MW yX1_fillRest cX1_fillRest 9 none 3 := ⟨tk3 (i := 239) rfl rfl, tk1 (i := 8) (by decide +kernel) rfl, ⟨by decide +kernel, by decide +kernel, by decide +kernel⟩, by decide, plainFor_of_name (x := yX1_fillRest) pn_NoDayForIt_DaysAhead⟩
theorem w_fX1_109 : Fld RX1 109 0 4 := ⟨by decide, by decide, tk1 (i := 167) (by decide +kernel) rfl⟩
theorem w_fX1_112 : Fld RX1 112 0 0 := ⟨by decide, by decide, tk1 (i := 158) (by decide +kernel) rfl⟩
set_option maxRecDepth 20000 in
theorem w_mX1_firstDay : MW yX1_firstDay cX1_firstDay 1 (some .int) 1 := ⟨tk4 (i := 21) rfl rfl, tk1 (i := 8) (by decide +kernel) rfl, ⟨by decide +kernel, by decide +kernel, by decide +kernel⟩, by decide, plainFor_of_name (x := yX1_firstDay) pn_NoDayForIt_DaysAhead⟩
set_option maxRecDepth 20000 in
theorem w_mX1_leastSpent : MW yX1_leastSpent cX1_leastSpent 8 (some .int) 3 := ⟨tk4 (i := 33) rfl rfl, tk1 (i := 8) (by decide +kernel) rfl, ⟨by decide +kernel, by decide +kernel, by decide +kernel⟩, by decide, plainFor_of_name (x := yX1_leastSpent) pn_NoDayForIt_DaysAhead⟩
theorem w_lX1_151 : Cond.methodLink RX1 151 yX1_leastSpent ∈ tg := tk4 (i := 30) (by decide +kernel) rfl
theorem w_iX1_leastSpent : Cond.instanceMethod yX1_leastSpent ∈ tg ∧ Cond.selects (yX1_leastSpent).cls yX1_leastSpent yX1_leastSpent ∈ tg := ⟨tk4 (i := 32) (by decide +kernel) rfl, tk0 (i := 40) (by decide +kernel) rfl⟩
set_option maxRecDepth 20000 in
theorem w_mX1_fillSpent : MW yX1_fillSpent cX1_fillSpent 8 none 3 := ⟨tk4 (i := 29) rfl rfl, tk1 (i := 8) (by decide +kernel) rfl, ⟨by decide +kernel, by decide +kernel, by decide +kernel⟩, by decide, plainFor_of_name (x := yX1_fillSpent) pn_NoDayForIt_DaysAhead⟩
theorem w_fX1_97 : Fld RX1 97 1 9 := ⟨by decide, by decide, tk1 (i := 235) (by decide +kernel) rfl⟩
set_option maxRecDepth 20000 in
theorem w_mX1_leastFromFall : MW yX1_leastFromFall cX1_leastFromFall 6 (some .int) 3 := ⟨tk4 (i := 37) rfl rfl, tk1 (i := 8) (by decide +kernel) rfl, ⟨by decide +kernel, by decide +kernel, by decide +kernel⟩, by decide, plainFor_of_name (x := yX1_leastFromFall) pn_NoDayForIt_DaysAhead⟩
theorem w_lX1_148 : Cond.methodLink RX1 148 yX1_leastFromFall ∈ tg := tk4 (i := 34) (by decide +kernel) rfl
theorem w_iX1_leastFromFall : Cond.instanceMethod yX1_leastFromFall ∈ tg ∧ Cond.selects (yX1_leastFromFall).cls yX1_leastFromFall yX1_leastFromFall ∈ tg := ⟨tk4 (i := 36) (by decide +kernel) rfl, tk0 (i := 41) (by decide +kernel) rfl⟩
theorem w_lX1_144 : Cond.methodLink RX1 144 yX1_fillSpent ∈ tg := tk4 (i := 26) (by decide +kernel) rfl
theorem w_iX1_fillSpent : Cond.instanceMethod yX1_fillSpent ∈ tg ∧ Cond.selects (yX1_fillSpent).cls yX1_fillSpent yX1_fillSpent ∈ tg := ⟨tk4 (i := 28) (by decide +kernel) rfl, tk0 (i := 39) (by decide +kernel) rfl⟩
set_option maxRecDepth 20000 in
theorem w_mX1_leastFallen : MW yX1_leastFallen cX1_leastFallen 8 (some .int) 3 := ⟨tk4 (i := 25) rfl rfl, tk1 (i := 8) (by decide +kernel) rfl, ⟨by decide +kernel, by decide +kernel, by decide +kernel⟩, by decide, plainFor_of_name (x := yX1_leastFallen) pn_NoDayForIt_DaysAhead⟩
theorem w_fX1_90 : Fld RX1 90 1 1 := ⟨by decide, by decide, tk1 (i := 226) (by decide +kernel) rfl⟩
set_option maxRecDepth 20000 in
theorem w_mX1_fillRow : MW yX1_fillRow cX1_fillRow 9 none 4 := ⟨tk4 (i := 41) rfl rfl, tk1 (i := 8) (by decide +kernel) rfl, ⟨by decide +kernel, by decide +kernel, by decide +kernel⟩, by decide, plainFor_of_name (x := yX1_fillRow) pn_NoDayForIt_DaysAhead⟩
theorem w_lX1_93 : Cond.methodLink RX1 93 yX1_fillRow ∈ tg := tk4 (i := 38) (by decide +kernel) rfl
theorem w_iX1_fillRow : Cond.instanceMethod yX1_fillRow ∈ tg ∧ Cond.selects (yX1_fillRow).cls yX1_fillRow yX1_fillRow ∈ tg := ⟨tk4 (i := 40) (by decide +kernel) rfl, tk0 (i := 42) (by decide +kernel) rfl⟩
theorem w_lX1_69 : Cond.methodLink RX1 69 yX1_fillRest ∈ tg := tk3 (i := 236) (by decide +kernel) rfl
theorem w_iX1_fillRest : Cond.instanceMethod yX1_fillRest ∈ tg ∧ Cond.selects (yX1_fillRest).cls yX1_fillRest yX1_fillRest ∈ tg := ⟨tk3 (i := 238) (by decide +kernel) rfl, tk0 (i := 35) (by decide +kernel) rfl⟩
theorem w_lX1_73 : Cond.methodLink RX1 73 yX0_doneOf ∈ tg := tk4 (i := 17) (by decide +kernel) rfl
theorem w_iX0_doneOf : Cond.instanceMethod yX0_doneOf ∈ tg ∧ Cond.selects (yX0_doneOf).cls yX0_doneOf yX0_doneOf ∈ tg := ⟨tk3 (i := 151) (by decide +kernel) rfl, tk3 (i := 152) (by decide +kernel) rfl⟩
theorem w_lX1_76 : Cond.methodLink RX1 76 yX0_lastOf ∈ tg := tk4 (i := 18) (by decide +kernel) rfl
theorem w_iX0_lastOf : Cond.instanceMethod yX0_lastOf ∈ tg ∧ Cond.selects (yX0_lastOf).cls yX0_lastOf yX0_lastOf ∈ tg := ⟨tk3 (i := 156) (by decide +kernel) rfl, tk3 (i := 157) (by decide +kernel) rfl⟩
theorem w_lX1_79 : Cond.methodLink RX1 79 yX1_firstDay ∈ tg := tk4 (i := 19) (by decide +kernel) rfl
theorem w_sX1_firstDay : Cond.static yX1_firstDay ∈ tg := tk4 (i := 20) (by decide +kernel) rfl
theorem w_lX1_87 : Cond.methodLink RX1 87 yX1_leastFallen ∈ tg := tk4 (i := 22) (by decide +kernel) rfl
theorem w_iX1_leastFallen : Cond.instanceMethod yX1_leastFallen ∈ tg ∧ Cond.selects (yX1_leastFallen).cls yX1_leastFallen yX1_leastFallen ∈ tg := ⟨tk4 (i := 24) (by decide +kernel) rfl, tk0 (i := 38) (by decide +kernel) rfl⟩
set_option maxRecDepth 20000 in
theorem w_mX1_findSoonest : MW yX1_findSoonest cX1_findSoonest 9 (some .int) 3 := ⟨tk3 (i := 235) rfl rfl, tk1 (i := 8) (by decide +kernel) rfl, ⟨by decide +kernel, by decide +kernel, by decide +kernel⟩, by decide, plainFor_of_name (x := yX1_findSoonest) pn_NoDayForIt_DaysAhead⟩
set_option maxRecDepth 20000 in
theorem w_mX1_isSure : MW yX1_isSure cX1_isSure 4 (some .boolean) 3 := ⟨tk4 (i := 165) rfl rfl, tk1 (i := 8) (by decide +kernel) rfl, ⟨by decide +kernel, by decide +kernel, by decide +kernel⟩, by decide, plainFor_of_name (x := yX1_isSure) pn_NoDayForIt_DaysAhead⟩
set_option maxRecDepth 20000 in
theorem w_mX1_findFewestAgainst : MW yX1_findFewestAgainst cX1_findFewestAgainst 8 (some .int) 3 := ⟨tk4 (i := 49) rfl rfl, tk1 (i := 8) (by decide +kernel) rfl, ⟨by decide +kernel, by decide +kernel, by decide +kernel⟩, by decide, plainFor_of_name (x := yX1_findFewestAgainst) pn_NoDayForIt_DaysAhead⟩
theorem w_lX6_3 : Cond.methodLink RX6 3 Lib.objectInit ∈ tg := tk1 (i := 39) (by decide +kernel) rfl
theorem w_fX6_9 : Fld RX6 9 6 3 := ⟨by decide, by decide, tk1 (i := 52) (by decide +kernel) rfl⟩
theorem pn_NoDayForIt_Step : plainName "NoDayForIt$Step" = true := by decide +kernel
set_option maxRecDepth 20000 in
theorem w_mX6_init : MW yX6_init cX6_init 1 none 0 := ⟨tk1 (i := 38) rfl rfl, tk1 (i := 3) (by decide +kernel) rfl, ⟨by decide +kernel, by decide +kernel, by decide +kernel⟩, by decide, plainFor_of_name (x := yX6_init) pn_NoDayForIt_Step⟩
theorem w_lX2_3 : Cond.methodLink RX2 3 Lib.objectInit ∈ tg := tk1 (i := 32) (by decide +kernel) rfl
theorem w_fX2_9 : Fld RX2 9 2 0 := ⟨by decide, by decide, tk1 (i := 72) (by decide +kernel) rfl⟩
theorem w_kX2_22 : Cond.classLink RX2 22 (ROf 6) ∈ tg := tk1 (i := 33) (by decide +kernel) rfl
theorem w_o6 : Cond.instantiable (ROf 6) (nOf 6) ∈ tg ∧ Cond.initialized (ROf 6) ∈ tg := ⟨tk1 (i := 35) (by decide +kernel) rfl, tk1 (i := 3) (by decide +kernel) rfl⟩
theorem w_lX2_28 : (RX2, 28, yX6_init, RX7) ∈ nests := by unfold nests; simp
theorem w_nX6_init : (yX6_init).name = "<init>" ∧ Cond.instanceMethod yX6_init ∈ tg := ⟨rfl, tk1 (i := 37) (by decide +kernel) rfl⟩
set_option maxRecDepth 20000 in
theorem w_mX2_init : MW yX2_init cX2_init 2 none 0 := ⟨tk1 (i := 31) rfl rfl, tk1 (i := 2) (by decide +kernel) rfl, ⟨by decide +kernel, by decide +kernel, by decide +kernel⟩, by decide, plainFor_of_name (x := yX2_init) pn_NoDayForIt_Law⟩
theorem w_fX2_33 : Fld RX2 33 2 1 := ⟨by decide, by decide, tk1 (i := 76) (by decide +kernel) rfl⟩
theorem w_fX2_36 : Fld RX2 36 2 2 := ⟨by decide, by decide, tk1 (i := 79) (by decide +kernel) rfl⟩
theorem w_lX2_39 : Cond.methodLink RX2 39 yJ7_fill_53178 ∈ tg := tk2 (i := 103) (by decide +kernel) rfl
set_option maxRecDepth 20000 in
theorem w_mX2_wipe : MW yX2_wipe cX2_wipe 1 none 0 := ⟨tk2 (i := 102) rfl rfl, tk1 (i := 2) (by decide +kernel) rfl, ⟨by decide +kernel, by decide +kernel, by decide +kernel⟩, by decide, plainFor_of_name (x := yX2_wipe) pn_NoDayForIt_Law⟩
theorem w_fX6_15 : Fld RX6 15 6 0 := ⟨by decide, by decide, tk1 (i := 40) (by decide +kernel) rfl⟩
theorem w_fX6_18 : Fld RX6 18 6 1 := ⟨by decide, by decide, tk1 (i := 44) (by decide +kernel) rfl⟩
theorem w_fX6_21 : Fld RX6 21 6 2 := ⟨by decide, by decide, tk1 (i := 48) (by decide +kernel) rfl⟩
theorem w_fX6_25 : Fld RX6 25 6 4 := ⟨by decide, by decide, tk1 (i := 56) (by decide +kernel) rfl⟩
set_option maxRecDepth 20000 in
theorem w_mX6_copy : MW yX6_copy cX6_copy 2 none 1 := ⟨tk4 (i := 151) rfl rfl, tk1 (i := 3) (by decide +kernel) rfl, ⟨by decide +kernel, by decide +kernel, by decide +kernel⟩, by decide, plainFor_of_name (x := yX6_copy) pn_NoDayForIt_Step⟩
theorem w_lX2_51 : Cond.methodLink RX2 51 yX2_stepsOf ∈ tg := tk3 (i := 10) (by decide +kernel) rfl
theorem w_lX2_55 : Cond.methodLink RX2 55 yX2_stepAt ∈ tg := tk3 (i := 11) (by decide +kernel) rfl
theorem w_lX2_59 : Cond.methodLink RX2 59 yX6_copy ∈ tg := tk4 (i := 148) (by decide +kernel) rfl
theorem w_iX6_copy : Cond.instanceMethod yX6_copy ∈ tg ∧ Cond.selects (yX6_copy).cls yX6_copy yX6_copy ∈ tg := ⟨tk4 (i := 149) (by decide +kernel) rfl, tk4 (i := 150) (by decide +kernel) rfl⟩
theorem w_lX2_45 : Cond.methodLink RX2 45 arraycopyName ∈ tg := tk4 (i := 145) (by decide +kernel) rfl
set_option maxRecDepth 20000 in
theorem w_mX2_copy : MW yX2_copy cX2_copy 4 none 1 := ⟨tk4 (i := 144) rfl rfl, tk1 (i := 2) (by decide +kernel) rfl, ⟨by decide +kernel, by decide +kernel, by decide +kernel⟩, by decide, plainFor_of_name (x := yX2_copy) pn_NoDayForIt_Law⟩
theorem w_lX2_67 : (RX2, 67, yX7_put, RX7) ∈ nests := by unfold nests; simp
set_option maxRecDepth 20000 in
theorem w_mX2_setKind : MW yX2_setKind cX2_setKind 3 none 2 := ⟨tk2 (i := 220) rfl rfl, tk1 (i := 2) (by decide +kernel) rfl, ⟨by decide +kernel, by decide +kernel, by decide +kernel⟩, by decide, plainFor_of_name (x := yX2_setKind) pn_NoDayForIt_Law⟩
set_option maxRecDepth 20000 in
theorem w_mX2_hasStep : MW yX2_hasStep cX2_hasStep 3 (some .boolean) 2 := ⟨tk3 (i := 75) rfl rfl, tk1 (i := 2) (by decide +kernel) rfl, ⟨by decide +kernel, by decide +kernel, by decide +kernel⟩, by decide, plainFor_of_name (x := yX2_hasStep) pn_NoDayForIt_Law⟩
set_option maxRecDepth 20000 in
theorem w_mX6_wipe : MW yX6_wipe cX6_wipe 1 none 0 := ⟨tk3 (i := 18) rfl rfl, tk1 (i := 3) (by decide +kernel) rfl, ⟨by decide +kernel, by decide +kernel, by decide +kernel⟩, by decide, plainFor_of_name (x := yX6_wipe) pn_NoDayForIt_Step⟩
theorem w_lX2_71 : Cond.methodLink RX2 71 yX6_wipe ∈ tg := tk3 (i := 15) (by decide +kernel) rfl
theorem w_iX6_wipe : Cond.instanceMethod yX6_wipe ∈ tg ∧ Cond.selects (yX6_wipe).cls yX6_wipe yX6_wipe ∈ tg := ⟨tk3 (i := 16) (by decide +kernel) rfl, tk3 (i := 17) (by decide +kernel) rfl⟩
set_option maxRecDepth 20000 in
theorem w_mX2_addStep : MW yX2_addStep cX2_addStep 4 (some (.object "NoDayForIt$Step")) 0 := ⟨tk3 (i := 9) rfl rfl, tk1 (i := 2) (by decide +kernel) rfl, ⟨by decide +kernel, by decide +kernel, by decide +kernel⟩, by decide, plainFor_of_name (x := yX2_addStep) pn_NoDayForIt_Law⟩
theorem w_lX3_3 : Cond.methodLink RX3 3 Lib.objectInit ∈ tg := tk1 (i := 105) (by decide +kernel) rfl
theorem w_fX3_9 : Fld RX3 9 3 0 := ⟨by decide, by decide, tk1 (i := 106) (by decide +kernel) rfl⟩
theorem w_fX3_15 : Fld RX3 15 3 2 := ⟨by decide, by decide, tk1 (i := 108) (by decide +kernel) rfl⟩
theorem pn_NoDayForIt_LawReader : plainName "NoDayForIt$LawReader" = true := by decide +kernel
set_option maxRecDepth 20000 in
theorem w_mX3_init : MW yX3_init cX3_init 3 none 2 := ⟨tk1 (i := 104) rfl rfl, tk1 (i := 4) (by decide +kernel) rfl, ⟨by decide +kernel, by decide +kernel, by decide +kernel⟩, by decide, plainFor_of_name (x := yX3_init) pn_NoDayForIt_LawReader⟩
theorem w_fX3_25 : Fld RX3 25 3 1 := ⟨by decide, by decide, tk1 (i := 107) (by decide +kernel) rfl⟩
set_option maxRecDepth 20000 in
theorem w_mX3_byteAt : MW yX3_byteAt cX3_byteAt 2 (some .int) 1 := ⟨tk2 (i := 111) rfl rfl, tk1 (i := 4) (by decide +kernel) rfl, ⟨by decide +kernel, by decide +kernel, by decide +kernel⟩, by decide, plainFor_of_name (x := yX3_byteAt) pn_NoDayForIt_LawReader⟩
set_option maxRecDepth 20000 in
theorem w_mX3_isLetter : MW yX3_isLetter cX3_isLetter 1 (some .boolean) 1 := ⟨tk2 (i := 114) rfl rfl, tk1 (i := 4) (by decide +kernel) rfl, ⟨by decide +kernel, by decide +kernel, by decide +kernel⟩, by decide, plainFor_of_name (x := yX3_isLetter) pn_NoDayForIt_LawReader⟩
theorem w_fX3_34 : Fld RX3 34 3 5 := ⟨by decide, by decide, tk1 (i := 111) (by decide +kernel) rfl⟩
theorem w_lX3_85 : Cond.methodLink RX3 85 yX3_byteAt ∈ tg := tk2 (i := 108) (by decide +kernel) rfl
theorem w_iX3_byteAt : Cond.instanceMethod yX3_byteAt ∈ tg ∧ Cond.selects (yX3_byteAt).cls yX3_byteAt yX3_byteAt ∈ tg := ⟨tk2 (i := 110) (by decide +kernel) rfl, tk0 (i := 1) (by decide +kernel) rfl⟩
theorem w_lX3_89 : Cond.methodLink RX3 89 yX3_isLetter ∈ tg := tk2 (i := 112) (by decide +kernel) rfl
theorem w_sX3_isLetter : Cond.static yX3_isLetter ∈ tg := tk2 (i := 113) (by decide +kernel) rfl
theorem w_fX3_43 : Fld RX3 43 3 3 := ⟨by decide, by decide, tk1 (i := 109) (by decide +kernel) rfl⟩
set_option maxRecDepth 20000 in
theorem w_mX3_advanceLetters : MW yX3_advanceLetters cX3_advanceLetters 1 none 0 := ⟨tk2 (i := 118) rfl rfl, tk1 (i := 4) (by decide +kernel) rfl, ⟨by decide +kernel, by decide +kernel, by decide +kernel⟩, by decide, plainFor_of_name (x := yX3_advanceLetters) pn_NoDayForIt_LawReader⟩
set_option maxRecDepth 20000 in
theorem w_mX3_isDigit : MW yX3_isDigit cX3_isDigit 1 (some .boolean) 1 := ⟨tk2 (i := 121) rfl rfl, tk1 (i := 4) (by decide +kernel) rfl, ⟨by decide +kernel, by decide +kernel, by decide +kernel⟩, by decide, plainFor_of_name (x := yX3_isDigit) pn_NoDayForIt_LawReader⟩
theorem w_lX3_96 : Cond.methodLink RX3 96 yX3_isDigit ∈ tg := tk2 (i := 119) (by decide +kernel) rfl
theorem w_sX3_isDigit : Cond.static yX3_isDigit ∈ tg := tk2 (i := 120) (by decide +kernel) rfl
theorem w_fX3_102 : Fld RX3 102 3 6 := ⟨by decide, by decide, tk1 (i := 112) (by decide +kernel) rfl⟩
theorem w_fX3_82 : Fld RX3 82 3 4 := ⟨by decide, by decide, tk1 (i := 110) (by decide +kernel) rfl⟩
set_option maxRecDepth 20000 in
theorem w_mX3_advanceNumber : MW yX3_advanceNumber cX3_advanceNumber 4 none 0 := ⟨tk2 (i := 125) rfl rfl, tk1 (i := 4) (by decide +kernel) rfl, ⟨by decide +kernel, by decide +kernel, by decide +kernel⟩, by decide, plainFor_of_name (x := yX3_advanceNumber) pn_NoDayForIt_LawReader⟩
theorem w_lX3_99 : Cond.methodLink RX3 99 yX3_advanceNumber ∈ tg := tk2 (i := 122) (by decide +kernel) rfl
theorem w_iX3_advanceNumber : Cond.instanceMethod yX3_advanceNumber ∈ tg ∧ Cond.selects (yX3_advanceNumber).cls yX3_advanceNumber yX3_advanceNumber ∈ tg := ⟨tk2 (i := 124) (by decide +kernel) rfl, tk0 (i := 3) (by decide +kernel) rfl⟩
theorem w_lX3_93 : Cond.methodLink RX3 93 yX3_advanceLetters ∈ tg := tk2 (i := 115) (by decide +kernel) rfl
theorem w_iX3_advanceLetters : Cond.instanceMethod yX3_advanceLetters ∈ tg ∧ Cond.selects (yX3_advanceLetters).cls yX3_advanceLetters yX3_advanceLetters ∈ tg := ⟨tk2 (i := 117) (by decide +kernel) rfl, tk0 (i := 2) (by decide +kernel) rfl⟩
set_option maxRecDepth 20000 in
theorem w_mX3_advance : MW yX3_advance cX3_advance 2 none 0 := ⟨tk2 (i := 107) rfl rfl, tk1 (i := 4) (by decide +kernel) rfl, ⟨by decide +kernel, by decide +kernel, by decide +kernel⟩, by decide, plainFor_of_name (x := yX3_advance) pn_NoDayForIt_LawReader⟩
theorem w_lX3_105 : Cond.methodLink RX3 105 yJ0_length_8abf5 ∈ tg := tk2 (i := 131) (by decide +kernel) rfl
theorem w_lX3_111 : Cond.methodLink RX3 111 yJ0_charAt_5068e ∈ tg := tk2 (i := 141) (by decide +kernel) rfl
set_option maxRecDepth 20000 in
theorem w_mX3_isName : MW yX3_isName cX3_isName 3 (some .boolean) 1 := ⟨tk2 (i := 130) rfl rfl, tk1 (i := 4) (by decide +kernel) rfl, ⟨by decide +kernel, by decide +kernel, by decide +kernel⟩, by decide, plainFor_of_name (x := yX3_isName) pn_NoDayForIt_LawReader⟩
theorem w_fX3_37 : Fld RX3 37 3 7 := ⟨by decide, by decide, tk1 (i := 113) (by decide +kernel) rfl⟩
set_option maxRecDepth 20000 in
theorem w_mX3_refuse : MW yX3_refuse cX3_refuse 1 (some .boolean) 0 := ⟨tk2 (i := 186) rfl rfl, tk1 (i := 4) (by decide +kernel) rfl, ⟨by decide +kernel, by decide +kernel, by decide +kernel⟩, by decide, plainFor_of_name (x := yX3_refuse) pn_NoDayForIt_LawReader⟩
theorem w_lX3_76 : Cond.methodLink RX3 76 yX3_refuse ∈ tg := tk2 (i := 183) (by decide +kernel) rfl
theorem w_iX3_refuse : Cond.instanceMethod yX3_refuse ∈ tg ∧ Cond.selects (yX3_refuse).cls yX3_refuse yX3_refuse ∈ tg := ⟨tk2 (i := 185) (by decide +kernel) rfl, tk0 (i := 6) (by decide +kernel) rfl⟩
theorem w_lX3_40 : Cond.methodLink RX3 40 yX3_advance ∈ tg := tk2 (i := 104) (by decide +kernel) rfl
theorem w_iX3_advance : Cond.instanceMethod yX3_advance ∈ tg ∧ Cond.selects (yX3_advance).cls yX3_advance yX3_advance ∈ tg := ⟨tk2 (i := 106) (by decide +kernel) rfl, tk0 (i := 0) (by decide +kernel) rfl⟩
set_option maxRecDepth 20000 in
theorem w_mX3_takeNumber : MW yX3_takeNumber cX3_takeNumber 4 (some .int) 2 := ⟨tk2 (i := 190) rfl rfl, tk1 (i := 4) (by decide +kernel) rfl, ⟨by decide +kernel, by decide +kernel, by decide +kernel⟩, by decide, plainFor_of_name (x := yX3_takeNumber) pn_NoDayForIt_LawReader⟩
set_option maxRecDepth 20000 in
theorem w_mX3_takeMark : MW yX3_takeMark cX3_takeMark 1 (some .boolean) 0 := ⟨tk2 (i := 194) rfl rfl, tk1 (i := 4) (by decide +kernel) rfl, ⟨by decide +kernel, by decide +kernel, by decide +kernel⟩, by decide, plainFor_of_name (x := yX3_takeMark) pn_NoDayForIt_LawReader⟩
theorem w_fX3_79 : Fld RX3 79 2 1 := ⟨by decide, by decide, tk1 (i := 77) (by decide +kernel) rfl⟩
theorem w_lX3_126 : Cond.methodLink RX3 126 yX3_takeNumber ∈ tg := tk2 (i := 187) (by decide +kernel) rfl
theorem w_iX3_takeNumber : Cond.instanceMethod yX3_takeNumber ∈ tg ∧ Cond.selects (yX3_takeNumber).cls yX3_takeNumber yX3_takeNumber ∈ tg := ⟨tk2 (i := 189) (by decide +kernel) rfl, tk0 (i := 7) (by decide +kernel) rfl⟩
theorem w_fX3_129 : Fld RX3 129 2 0 := ⟨by decide, by decide, tk1 (i := 75) (by decide +kernel) rfl⟩
theorem w_lX3_131 : Cond.methodLink RX3 131 yX3_takeMark ∈ tg := tk2 (i := 191) (by decide +kernel) rfl
theorem w_iX3_takeMark : Cond.instanceMethod yX3_takeMark ∈ tg ∧ Cond.selects (yX3_takeMark).cls yX3_takeMark yX3_takeMark ∈ tg := ⟨tk2 (i := 193) (by decide +kernel) rfl, tk0 (i := 8) (by decide +kernel) rfl⟩
set_option maxRecDepth 20000 in
theorem w_mX3_isYear : MW yX3_isYear cX3_isYear 2 (some .boolean) 0 := ⟨tk2 (i := 182) rfl rfl, tk1 (i := 4) (by decide +kernel) rfl, ⟨by decide +kernel, by decide +kernel, by decide +kernel⟩, by decide, plainFor_of_name (x := yX3_isYear) pn_NoDayForIt_LawReader⟩
theorem w_lX3_48 : Cond.methodLink RX3 48 yX3_isName ∈ tg := tk2 (i := 127) (by decide +kernel) rfl
theorem w_iX3_isName : Cond.instanceMethod yX3_isName ∈ tg ∧ Cond.selects (yX3_isName).cls yX3_isName yX3_isName ∈ tg := ⟨tk2 (i := 129) (by decide +kernel) rfl, tk0 (i := 4) (by decide +kernel) rfl⟩
set_option maxRecDepth 20000 in
theorem w_mX3_take : MW yX3_take cX3_take 2 (some .boolean) 1 := ⟨tk2 (i := 204) rfl rfl, tk1 (i := 4) (by decide +kernel) rfl, ⟨by decide +kernel, by decide +kernel, by decide +kernel⟩, by decide, plainFor_of_name (x := yX3_take) pn_NoDayForIt_LawReader⟩
set_option maxRecDepth 20000 in
theorem w_mX3_kindHere : MW yX3_kindHere cX3_kindHere 1 (some .int) 0 := ⟨tk2 (i := 212) rfl rfl, tk1 (i := 4) (by decide +kernel) rfl, ⟨by decide +kernel, by decide +kernel, by decide +kernel⟩, by decide, plainFor_of_name (x := yX3_kindHere) pn_NoDayForIt_LawReader⟩
theorem w_lX3_123 : Cond.methodLink RX3 123 yX3_kindHere ∈ tg := tk2 (i := 209) (by decide +kernel) rfl
theorem w_iX3_kindHere : Cond.instanceMethod yX3_kindHere ∈ tg ∧ Cond.selects (yX3_kindHere).cls yX3_kindHere yX3_kindHere ∈ tg := ⟨tk2 (i := 211) (by decide +kernel) rfl, tk0 (i := 12) (by decide +kernel) rfl⟩
set_option maxRecDepth 20000 in
theorem w_mX3_takeKind : MW yX3_takeKind cX3_takeKind 2 (some .int) 0 := ⟨tk2 (i := 208) rfl rfl, tk1 (i := 4) (by decide +kernel) rfl, ⟨by decide +kernel, by decide +kernel, by decide +kernel⟩, by decide, plainFor_of_name (x := yX3_takeKind) pn_NoDayForIt_LawReader⟩
theorem w_lX3_142 : Cond.methodLink RX3 142 yX2_setKind ∈ tg := tk2 (i := 217) (by decide +kernel) rfl
theorem w_iX2_setKind : Cond.instanceMethod yX2_setKind ∈ tg ∧ Cond.selects (yX2_setKind).cls yX2_setKind yX2_setKind ∈ tg := ⟨tk2 (i := 218) (by decide +kernel) rfl, tk2 (i := 219) (by decide +kernel) rfl⟩
theorem w_lX3_136 : Cond.methodLink RX3 136 yX3_take ∈ tg := tk2 (i := 201) (by decide +kernel) rfl
theorem w_iX3_take : Cond.instanceMethod yX3_take ∈ tg ∧ Cond.selects (yX3_take).cls yX3_take yX3_take ∈ tg := ⟨tk2 (i := 203) (by decide +kernel) rfl, tk0 (i := 10) (by decide +kernel) rfl⟩
theorem w_lX3_139 : Cond.methodLink RX3 139 yX3_takeKind ∈ tg := tk2 (i := 205) (by decide +kernel) rfl
theorem w_iX3_takeKind : Cond.instanceMethod yX3_takeKind ∈ tg ∧ Cond.selects (yX3_takeKind).cls yX3_takeKind yX3_takeKind ∈ tg := ⟨tk2 (i := 207) (by decide +kernel) rfl, tk0 (i := 11) (by decide +kernel) rfl⟩
set_option maxRecDepth 20000 in
theorem w_mX3_isEvery : MW yX3_isEvery cX3_isEvery 5 (some .boolean) 0 := ⟨tk2 (i := 199) rfl rfl, tk1 (i := 4) (by decide +kernel) rfl, ⟨by decide +kernel, by decide +kernel, by decide +kernel⟩, by decide, plainFor_of_name (x := yX3_isEvery) pn_NoDayForIt_LawReader⟩
set_option maxRecDepth 20000 in
theorem w_mX3_isDays : MW yX3_isDays cX3_isDays 5 (some .boolean) 0 := ⟨tk2 (i := 228) rfl rfl, tk1 (i := 4) (by decide +kernel) rfl, ⟨by decide +kernel, by decide +kernel, by decide +kernel⟩, by decide, plainFor_of_name (x := yX3_isDays) pn_NoDayForIt_LawReader⟩
theorem w_fX3_146 : Fld RX3 146 2 2 := ⟨by decide, by decide, tk1 (i := 80) (by decide +kernel) rfl⟩
set_option maxRecDepth 20000 in
theorem w_mX3_isBillItem : MW yX3_isBillItem cX3_isBillItem 1 (some .boolean) 0 := ⟨tk2 (i := 233) rfl rfl, tk1 (i := 4) (by decide +kernel) rfl, ⟨by decide +kernel, by decide +kernel, by decide +kernel⟩, by decide, plainFor_of_name (x := yX3_isBillItem) pn_NoDayForIt_LawReader⟩
theorem w_fX3_184 : Fld RX3 184 6 0 := ⟨by decide, by decide, tk1 (i := 43) (by decide +kernel) rfl⟩
set_option maxRecDepth 20000 in
theorem w_mX3_areKinds : MW yX3_areKinds cX3_areKinds 4 (some .boolean) 1 := ⟨tk3 (i := 22) rfl rfl, tk1 (i := 4) (by decide +kernel) rfl, ⟨by decide +kernel, by decide +kernel, by decide +kernel⟩, by decide, plainFor_of_name (x := yX3_areKinds) pn_NoDayForIt_LawReader⟩
set_option maxRecDepth 20000 in
theorem w_mX3_perhapsTake : MW yX3_perhapsTake cX3_perhapsTake 3 (some .boolean) 1 := ⟨tk3 (i := 27) rfl rfl, tk1 (i := 4) (by decide +kernel) rfl, ⟨by decide +kernel, by decide +kernel, by decide +kernel⟩, by decide, plainFor_of_name (x := yX3_perhapsTake) pn_NoDayForIt_LawReader⟩
theorem w_fX3_179 : Fld RX3 179 6 4 := ⟨by decide, by decide, tk1 (i := 58) (by decide +kernel) rfl⟩
theorem w_lX3_166 : Cond.methodLink RX3 166 yX3_perhapsTake ∈ tg := tk3 (i := 24) (by decide +kernel) rfl
theorem w_iX3_perhapsTake : Cond.instanceMethod yX3_perhapsTake ∈ tg ∧ Cond.selects (yX3_perhapsTake).cls yX3_perhapsTake yX3_perhapsTake ∈ tg := ⟨tk3 (i := 26) (by decide +kernel) rfl, tk0 (i := 17) (by decide +kernel) rfl⟩
theorem w_lX3_149 : Cond.methodLink RX3 149 yX2_stepsOf ∈ tg := tk2 (i := 239) (by decide +kernel) rfl
theorem w_lX3_152 : Cond.methodLink RX3 152 yX2_addStep ∈ tg := tk3 (i := 6) (by decide +kernel) rfl
theorem w_iX2_addStep : Cond.instanceMethod yX2_addStep ∈ tg ∧ Cond.selects (yX2_addStep).cls yX2_addStep yX2_addStep ∈ tg := ⟨tk3 (i := 7) (by decide +kernel) rfl, tk3 (i := 8) (by decide +kernel) rfl⟩
theorem w_lX3_156 : Cond.methodLink RX3 156 yX3_areKinds ∈ tg := tk3 (i := 19) (by decide +kernel) rfl
theorem w_iX3_areKinds : Cond.instanceMethod yX3_areKinds ∈ tg ∧ Cond.selects (yX3_areKinds).cls yX3_areKinds yX3_areKinds ∈ tg := ⟨tk3 (i := 21) (by decide +kernel) rfl, tk0 (i := 16) (by decide +kernel) rfl⟩
theorem w_fX3_162 : Fld RX3 162 6 1 := ⟨by decide, by decide, tk1 (i := 47) (by decide +kernel) rfl⟩
theorem w_fX3_169 : Fld RX3 169 6 2 := ⟨by decide, by decide, tk1 (i := 51) (by decide +kernel) rfl⟩
theorem w_fX3_175 : Fld RX3 175 6 3 := ⟨by decide, by decide, tk1 (i := 55) (by decide +kernel) rfl⟩
set_option maxRecDepth 20000 in
theorem w_mX3_isStep : MW yX3_isStep cX3_isStep 2 (some .boolean) 0 := ⟨tk2 (i := 238) rfl rfl, tk1 (i := 4) (by decide +kernel) rfl, ⟨by decide +kernel, by decide +kernel, by decide +kernel⟩, by decide, plainFor_of_name (x := yX3_isStep) pn_NoDayForIt_LawReader⟩
theorem w_lX3_73 : Cond.methodLink RX3 73 yX3_isStep ∈ tg := tk2 (i := 235) (by decide +kernel) rfl
theorem w_iX3_isStep : Cond.instanceMethod yX3_isStep ∈ tg ∧ Cond.selects (yX3_isStep).cls yX3_isStep yX3_isStep ∈ tg := ⟨tk2 (i := 237) (by decide +kernel) rfl, tk0 (i := 15) (by decide +kernel) rfl⟩
theorem w_lX3_68 : Cond.methodLink RX3 68 yX3_isBillItem ∈ tg := tk2 (i := 230) (by decide +kernel) rfl
theorem w_iX3_isBillItem : Cond.instanceMethod yX3_isBillItem ∈ tg ∧ Cond.selects (yX3_isBillItem).cls yX3_isBillItem yX3_isBillItem ∈ tg := ⟨tk2 (i := 232) (by decide +kernel) rfl, tk0 (i := 14) (by decide +kernel) rfl⟩
theorem w_lX3_63 : Cond.methodLink RX3 63 yX3_isDays ∈ tg := tk2 (i := 225) (by decide +kernel) rfl
theorem w_iX3_isDays : Cond.instanceMethod yX3_isDays ∈ tg ∧ Cond.selects (yX3_isDays).cls yX3_isDays yX3_isDays ∈ tg := ⟨tk2 (i := 227) (by decide +kernel) rfl, tk0 (i := 13) (by decide +kernel) rfl⟩
theorem w_lX3_58 : Cond.methodLink RX3 58 yX3_isEvery ∈ tg := tk2 (i := 196) (by decide +kernel) rfl
theorem w_iX3_isEvery : Cond.instanceMethod yX3_isEvery ∈ tg ∧ Cond.selects (yX3_isEvery).cls yX3_isEvery yX3_isEvery ∈ tg := ⟨tk2 (i := 198) (by decide +kernel) rfl, tk0 (i := 9) (by decide +kernel) rfl⟩
theorem w_lX3_52 : Cond.methodLink RX3 52 yX3_isYear ∈ tg := tk2 (i := 179) (by decide +kernel) rfl
theorem w_iX3_isYear : Cond.instanceMethod yX3_isYear ∈ tg ∧ Cond.selects (yX3_isYear).cls yX3_isYear yX3_isYear ∈ tg := ⟨tk2 (i := 181) (by decide +kernel) rfl, tk0 (i := 5) (by decide +kernel) rfl⟩
theorem w_lX3_19 : Cond.methodLink RX3 19 yJ9_min_7cf53 ∈ tg := tk2 (i := 96) (by decide +kernel) rfl
theorem w_lX3_29 : Cond.methodLink RX3 29 yX2_wipe ∈ tg := tk2 (i := 99) (by decide +kernel) rfl
theorem w_iX2_wipe : Cond.instanceMethod yX2_wipe ∈ tg ∧ Cond.selects (yX2_wipe).cls yX2_wipe yX2_wipe ∈ tg := ⟨tk2 (i := 100) (by decide +kernel) rfl, tk2 (i := 101) (by decide +kernel) rfl⟩
set_option maxRecDepth 20000 in
theorem w_mX3_read : MW yX3_read cX3_read 5 (some .int) 2 := ⟨tk2 (i := 95) rfl rfl, tk1 (i := 4) (by decide +kernel) rfl, ⟨by decide +kernel, by decide +kernel, by decide +kernel⟩, by decide, plainFor_of_name (x := yX3_read) pn_NoDayForIt_LawReader⟩
theorem w_lX4_3 : Cond.methodLink RX4 3 Lib.objectInit ∈ tg := tk2 (i := 22) (by decide +kernel) rfl
theorem w_fX4_9 : Fld RX4 9 4 1 := ⟨by decide, by decide, tk2 (i := 25) (by decide +kernel) rfl⟩
theorem pn_NoDayForIt_Matters : plainName "NoDayForIt$Matters" = true := by decide +kernel
set_option maxRecDepth 20000 in
theorem w_mX4_init : MW yX4_init cX4_init 1 none 0 := ⟨tk2 (i := 21) rfl rfl, tk1 (i := 9) (by decide +kernel) rfl, ⟨by decide +kernel, by decide +kernel, by decide +kernel⟩, by decide, plainFor_of_name (x := yX4_init) pn_NoDayForIt_Matters⟩
theorem w_fX4_15 : Fld RX4 15 4 0 := ⟨by decide, by decide, tk2 (i := 23) (by decide +kernel) rfl⟩
set_option maxRecDepth 20000 in
theorem w_mX4_addGroup : MW yX4_addGroup cX4_addGroup 2 (some .int) 0 := ⟨tk4 (i := 69) rfl rfl, tk1 (i := 9) (by decide +kernel) rfl, ⟨by decide +kernel, by decide +kernel, by decide +kernel⟩, by decide, plainFor_of_name (x := yX4_addGroup) pn_NoDayForIt_Matters⟩
set_option maxRecDepth 20000 in
theorem w_mX4_hasGroup : MW yX4_hasGroup cX4_hasGroup 2 (some .boolean) 1 := ⟨tk4 (i := 77) rfl rfl, tk1 (i := 9) (by decide +kernel) rfl, ⟨by decide +kernel, by decide +kernel, by decide +kernel⟩, by decide, plainFor_of_name (x := yX4_hasGroup) pn_NoDayForIt_Matters⟩
theorem w_lX4_19 : (RX4, 19, yX7_at, RX7) ∈ nests := by unfold nests; simp
theorem w_lX4_23 : (RX4, 23, yX7_put, RX7) ∈ nests := by unfold nests; simp
set_option maxRecDepth 20000 in
theorem w_mX4_setWish : MW yX4_setWish cX4_setWish 6 (some .int) 3 := ⟨tk4 (i := 84) rfl rfl, tk1 (i := 9) (by decide +kernel) rfl, ⟨by decide +kernel, by decide +kernel, by decide +kernel⟩, by decide, plainFor_of_name (x := yX4_setWish) pn_NoDayForIt_Matters⟩
set_option maxRecDepth 20000 in
theorem w_mX4_sumOf : MW yX4_sumOf cX4_sumOf 5 (some .int) 2 := ⟨tk4 (i := 101) rfl rfl, tk1 (i := 9) (by decide +kernel) rfl, ⟨by decide +kernel, by decide +kernel, by decide +kernel⟩, by decide, plainFor_of_name (x := yX4_sumOf) pn_NoDayForIt_Matters⟩
theorem w_lX4_27 : Cond.methodLink RX4 27 yX4_sumOf ∈ tg := tk4 (i := 98) (by decide +kernel) rfl
theorem w_iX4_sumOf : Cond.instanceMethod yX4_sumOf ∈ tg ∧ Cond.selects (yX4_sumOf).cls yX4_sumOf yX4_sumOf ∈ tg := ⟨tk4 (i := 100) (by decide +kernel) rfl, tk0 (i := 43) (by decide +kernel) rfl⟩
set_option maxRecDepth 20000 in
theorem w_mX4_doPass : MW yX4_doPass cX4_doPass 5 (some .boolean) 1 := ⟨tk4 (i := 97) rfl rfl, tk1 (i := 9) (by decide +kernel) rfl, ⟨by decide +kernel, by decide +kernel, by decide +kernel⟩, by decide, plainFor_of_name (x := yX4_doPass) pn_NoDayForIt_Matters⟩
theorem w_cJ6_265 : Cond.constant RJ6 265 1431655765 ∈ tg := tk4 (i := 113) (by decide +kernel) rfl
theorem w_cJ6_266 : Cond.constant RJ6 266 858993459 ∈ tg := tk4 (i := 114) (by decide +kernel) rfl
theorem w_cJ6_267 : Cond.constant RJ6 267 252645135 ∈ tg := tk4 (i := 115) (by decide +kernel) rfl
theorem pn_java_lang_Integer : plainName "java/lang/Integer" = true := by decide +kernel
set_option maxRecDepth 20000 in
theorem w_mJ6_bitCount_0f7a4 : MW yJ6_bitCount_0f7a4 cJ6_bitCount_0f7a4 1 (some .int) 1 := ⟨tk4 (i := 112) rfl rfl, tk1 (i := 16) (by decide +kernel) rfl, ⟨by decide +kernel, by decide +kernel, by decide +kernel⟩, by decide, plainFor_of_name (x := yJ6_bitCount_0f7a4) pn_java_lang_Integer⟩
theorem w_lX4_37 : Cond.methodLink RX4 37 yX4_doPass ∈ tg := tk4 (i := 116) (by decide +kernel) rfl
theorem w_iX4_doPass : Cond.instanceMethod yX4_doPass ∈ tg ∧ Cond.selects (yX4_doPass).cls yX4_doPass yX4_doPass ∈ tg := ⟨tk4 (i := 95) (by decide +kernel) rfl, tk4 (i := 96) (by decide +kernel) rfl⟩
theorem w_lX4_31 : Cond.methodLink RX4 31 yJ6_bitCount_0f7a4 ∈ tg := tk4 (i := 110) (by decide +kernel) rfl
theorem w_sJ6_bitCount_0f7a4 : Cond.static yJ6_bitCount_0f7a4 ∈ tg := tk4 (i := 111) (by decide +kernel) rfl
set_option maxRecDepth 20000 in
theorem w_mX4_fewestToRideWith : MW yX4_fewestToRideWith cX4_fewestToRideWith 5 (some .int) 1 := ⟨tk4 (i := 109) rfl rfl, tk1 (i := 9) (by decide +kernel) rfl, ⟨by decide +kernel, by decide +kernel, by decide +kernel⟩, by decide, plainFor_of_name (x := yX4_fewestToRideWith) pn_NoDayForIt_Matters⟩
set_option maxRecDepth 20000 in
theorem w_mX4_tearsOf : MW yX4_tearsOf cX4_tearsOf 4 (some .int) 1 := ⟨tk4 (i := 125) rfl rfl, tk1 (i := 9) (by decide +kernel) rfl, ⟨by decide +kernel, by decide +kernel, by decide +kernel⟩, by decide, plainFor_of_name (x := yX4_tearsOf) pn_NoDayForIt_Matters⟩
theorem w_lX5_3 : Cond.methodLink RX5 3 Lib.objectInit ∈ tg := tk1 (i := 136) (by decide +kernel) rfl
theorem w_fX5_9 : Fld RX5 9 5 1 := ⟨by decide, by decide, tk1 (i := 139) (by decide +kernel) rfl⟩
set_option maxRecDepth 20000 in
theorem w_mX5_init : MW yX5_init cX5_init 1 none 0 := ⟨tk1 (i := 135) rfl rfl, tk1 (i := 5) (by decide +kernel) rfl, ⟨by decide +kernel, by decide +kernel, by decide +kernel⟩, by decide, plainFor_of_name (x := yX5_init) pn_NoDayForIt_People⟩
theorem w_fX5_18 : Fld RX5 18 5 0 := ⟨by decide, by decide, tk1 (i := 137) (by decide +kernel) rfl⟩
set_option maxRecDepth 20000 in
theorem w_mX5_has : MW yX5_has cX5_has 2 (some .boolean) 1 := ⟨tk3 (i := 127) rfl rfl, tk1 (i := 5) (by decide +kernel) rfl, ⟨by decide +kernel, by decide +kernel, by decide +kernel⟩, by decide, plainFor_of_name (x := yX5_has) pn_NoDayForIt_People⟩
set_option maxRecDepth 20000 in
theorem w_mX5_officeOf : MW yX5_officeOf cX5_officeOf 2 (some .int) 1 := ⟨tk3 (i := 112) rfl rfl, tk1 (i := 5) (by decide +kernel) rfl, ⟨by decide +kernel, by decide +kernel, by decide +kernel⟩, by decide, plainFor_of_name (x := yX5_officeOf) pn_NoDayForIt_People⟩
theorem w_lX5_26 : Cond.methodLink RX5 26 yX5_officeOf ∈ tg := tk3 (i := 109) (by decide +kernel) rfl
theorem w_iX5_officeOf : Cond.instanceMethod yX5_officeOf ∈ tg ∧ Cond.selects (yX5_officeOf).cls yX5_officeOf yX5_officeOf ∈ tg := ⟨tk3 (i := 110) (by decide +kernel) rfl, tk3 (i := 111) (by decide +kernel) rfl⟩
theorem w_lX5_30 : Cond.methodLink RX5 30 yX5_timesOf ∈ tg := tk3 (i := 113) (by decide +kernel) rfl
set_option maxRecDepth 20000 in
theorem w_mX5_hasRoom : MW yX5_hasRoom cX5_hasRoom 5 (some .boolean) 2 := ⟨tk3 (i := 108) rfl rfl, tk1 (i := 5) (by decide +kernel) rfl, ⟨by decide +kernel, by decide +kernel, by decide +kernel⟩, by decide, plainFor_of_name (x := yX5_hasRoom) pn_NoDayForIt_People⟩
theorem w_lX5_33 : (RX5, 33, yX7_put, RX7) ∈ nests := by unfold nests; simp
set_option maxRecDepth 20000 in
theorem w_mX5_add : MW yX5_add cX5_add 4 (some .int) 2 := ⟨tk3 (i := 117) rfl rfl, tk1 (i := 5) (by decide +kernel) rfl, ⟨by decide +kernel, by decide +kernel, by decide +kernel⟩, by decide, plainFor_of_name (x := yX5_add) pn_NoDayForIt_People⟩
theorem w_lX7_1 : Cond.methodLink RX7 1 Lib.objectInit ∈ tg := tk1 (i := 24) (by decide +kernel) rfl
theorem w_a1 : Cond.arrayClass (aty 1) ∈ tg := tk1 (i := 70) (by decide +kernel) rfl
theorem w_fX7_9 : Fld RX7 9 7 0 := ⟨by decide, by decide, tk2 (i := 31) (by decide +kernel) rfl⟩
theorem w_kX7_13 : Cond.classLink RX7 13 (ROf 2) ∈ tg := tk1 (i := 27) (by decide +kernel) rfl
theorem w_o2 : Cond.instantiable (ROf 2) (nOf 2) ∈ tg ∧ Cond.initialized (ROf 2) ∈ tg := ⟨tk1 (i := 28) (by decide +kernel) rfl, tk1 (i := 2) (by decide +kernel) rfl⟩
theorem w_lX7_15 : Cond.methodLink RX7 15 yX2_init ∈ tg := tk1 (i := 29) (by decide +kernel) rfl
theorem w_nX2_init : (yX2_init).name = "<init>" ∧ Cond.instanceMethod yX2_init ∈ tg := ⟨rfl, tk1 (i := 30) (by decide +kernel) rfl⟩
theorem w_fX7_16 : Fld RX7 16 7 2 := ⟨by decide, by decide, tk2 (i := 33) (by decide +kernel) rfl⟩
theorem w_fX7_20 : Fld RX7 20 7 3 := ⟨by decide, by decide, tk2 (i := 34) (by decide +kernel) rfl⟩
theorem w_kX7_23 : Cond.classLink RX7 23 (ROf 3) ∈ tg := tk1 (i := 100) (by decide +kernel) rfl
theorem w_o3 : Cond.instantiable (ROf 3) (nOf 3) ∈ tg ∧ Cond.initialized (ROf 3) ∈ tg := ⟨tk1 (i := 101) (by decide +kernel) rfl, tk1 (i := 4) (by decide +kernel) rfl⟩
theorem w_lX7_25 : Cond.methodLink RX7 25 yX3_init ∈ tg := tk1 (i := 102) (by decide +kernel) rfl
theorem w_nX3_init : (yX3_init).name = "<init>" ∧ Cond.instanceMethod yX3_init ∈ tg := ⟨rfl, tk1 (i := 103) (by decide +kernel) rfl⟩
theorem w_fX7_28 : Fld RX7 28 7 4 := ⟨by decide, by decide, tk2 (i := 35) (by decide +kernel) rfl⟩
theorem w_kX7_32 : Cond.classLink RX7 32 (ROf 5) ∈ tg := tk1 (i := 131) (by decide +kernel) rfl
theorem w_o5 : Cond.instantiable (ROf 5) (nOf 5) ∈ tg ∧ Cond.initialized (ROf 5) ∈ tg := ⟨tk1 (i := 132) (by decide +kernel) rfl, tk1 (i := 5) (by decide +kernel) rfl⟩
theorem w_lX7_34 : (RX7, 34, yX5_init, RX7) ∈ nests := by unfold nests; simp
theorem w_nX5_init : (yX5_init).name = "<init>" ∧ Cond.instanceMethod yX5_init ∈ tg := ⟨rfl, tk1 (i := 134) (by decide +kernel) rfl⟩
theorem w_fX7_35 : Fld RX7 35 7 5 := ⟨by decide, by decide, tk2 (i := 36) (by decide +kernel) rfl⟩
theorem w_kX7_39 : Cond.classLink RX7 39 (ROf 0) ∈ tg := tk1 (i := 148) (by decide +kernel) rfl
theorem w_o0 : Cond.instantiable (ROf 0) (nOf 0) ∈ tg ∧ Cond.initialized (ROf 0) ∈ tg := ⟨tk1 (i := 149) (by decide +kernel) rfl, tk1 (i := 6) (by decide +kernel) rfl⟩
theorem w_lX7_41 : Cond.methodLink RX7 41 yX0_init ∈ tg := tk1 (i := 150) (by decide +kernel) rfl
theorem w_nX0_init : (yX0_init).name = "<init>" ∧ Cond.instanceMethod yX0_init ∈ tg := ⟨rfl, tk1 (i := 151) (by decide +kernel) rfl⟩
theorem w_fX7_42 : Fld RX7 42 7 6 := ⟨by decide, by decide, tk2 (i := 37) (by decide +kernel) rfl⟩
theorem w_fX7_46 : Fld RX7 46 7 7 := ⟨by decide, by decide, tk2 (i := 38) (by decide +kernel) rfl⟩
theorem w_fX7_49 : Fld RX7 49 7 8 := ⟨by decide, by decide, tk2 (i := 39) (by decide +kernel) rfl⟩
theorem w_kX7_53 : Cond.classLink RX7 53 (ROf 1) ∈ tg := tk1 (i := 218) (by decide +kernel) rfl
theorem w_o1 : Cond.instantiable (ROf 1) (nOf 1) ∈ tg ∧ Cond.initialized (ROf 1) ∈ tg := ⟨tk1 (i := 219) (by decide +kernel) rfl, tk1 (i := 8) (by decide +kernel) rfl⟩
theorem w_lX7_55 : Cond.methodLink RX7 55 yX1_init ∈ tg := tk1 (i := 220) (by decide +kernel) rfl
theorem w_nX1_init : (yX1_init).name = "<init>" ∧ Cond.instanceMethod yX1_init ∈ tg := ⟨rfl, tk1 (i := 221) (by decide +kernel) rfl⟩
theorem w_fX7_58 : Fld RX7 58 7 10 := ⟨by decide, by decide, tk2 (i := 41) (by decide +kernel) rfl⟩
theorem w_kX7_62 : Cond.classLink RX7 62 (ROf 4) ∈ tg := tk2 (i := 17) (by decide +kernel) rfl
theorem w_o4 : Cond.instantiable (ROf 4) (nOf 4) ∈ tg ∧ Cond.initialized (ROf 4) ∈ tg := ⟨tk2 (i := 18) (by decide +kernel) rfl, tk1 (i := 9) (by decide +kernel) rfl⟩
theorem w_lX7_64 : (RX7, 64, yX4_init, RX7) ∈ nests := by unfold nests; simp
theorem w_nX4_init : (yX4_init).name = "<init>" ∧ Cond.instanceMethod yX4_init ∈ tg := ⟨rfl, tk2 (i := 20) (by decide +kernel) rfl⟩
theorem w_fX7_65 : Fld RX7 65 7 11 := ⟨by decide, by decide, tk2 (i := 42) (by decide +kernel) rfl⟩
theorem w_fX7_69 : Fld RX7 69 7 12 := ⟨by decide, by decide, tk2 (i := 43) (by decide +kernel) rfl⟩
theorem w_fX7_73 : Fld RX7 73 7 13 := ⟨by decide, by decide, tk2 (i := 44) (by decide +kernel) rfl⟩
theorem w_fX7_76 : Fld RX7 76 7 14 := ⟨by decide, by decide, tk2 (i := 45) (by decide +kernel) rfl⟩
set_option maxRecDepth 20000 in
theorem w_mX7_init : MW yX7_init cX7_init 2 none 0 := ⟨tk1 (i := 23) rfl rfl, tk1 (i := 1) (by decide +kernel) rfl, ⟨by decide +kernel, by decide +kernel, by decide +kernel⟩, by decide, plainFor_of_name (x := yX7_init) pn_NoDayForIt⟩
theorem w_fX7_79 : Fld RX7 79 7 1 := ⟨by decide, by decide, tk2 (i := 32) (by decide +kernel) rfl⟩
set_option maxRecDepth 20000 in
theorem w_mX7_type : MW yX7_type cX7_type 5 (some .int) 2 := ⟨tk2 (i := 83) rfl rfl, tk1 (i := 1) (by decide +kernel) rfl, ⟨by decide +kernel, by decide +kernel, by decide +kernel⟩, by decide, plainFor_of_name (x := yX7_type) pn_NoDayForIt⟩
set_option maxRecDepth 20000 in
theorem w_mX7_clear : MW yX7_clear cX7_clear 2 (some .int) 0 := ⟨tk2 (i := 87) rfl rfl, tk1 (i := 1) (by decide +kernel) rfl, ⟨by decide +kernel, by decide +kernel, by decide +kernel⟩, by decide, plainFor_of_name (x := yX7_clear) pn_NoDayForIt⟩
theorem w_lX7_83 : Cond.methodLink RX7 83 yX3_read ∈ tg := tk2 (i := 92) (by decide +kernel) rfl
theorem w_iX3_read : Cond.instanceMethod yX3_read ∈ tg ∧ Cond.selects (yX3_read).cls yX3_read yX3_read ∈ tg := ⟨tk2 (i := 93) (by decide +kernel) rfl, tk2 (i := 94) (by decide +kernel) rfl⟩
theorem w_lX7_87 : Cond.methodLink RX7 87 yX0_begin ∈ tg := tk3 (i := 31) (by decide +kernel) rfl
theorem w_iX0_begin : Cond.instanceMethod yX0_begin ∈ tg ∧ Cond.selects (yX0_begin).cls yX0_begin yX0_begin ∈ tg := ⟨tk3 (i := 32) (by decide +kernel) rfl, tk3 (i := 33) (by decide +kernel) rfl⟩
theorem w_fX7_91 : Fld RX7 91 7 9 := ⟨by decide, by decide, tk2 (i := 40) (by decide +kernel) rfl⟩
theorem w_fX7_94 : Fld RX7 94 2 1 := ⟨by decide, by decide, tk1 (i := 78) (by decide +kernel) rfl⟩
set_option maxRecDepth 20000 in
theorem w_mX7_law : MW yX7_law cX7_law 3 (some .int) 0 := ⟨tk2 (i := 91) rfl rfl, tk1 (i := 1) (by decide +kernel) rfl, ⟨by decide +kernel, by decide +kernel, by decide +kernel⟩, by decide, plainFor_of_name (x := yX7_law) pn_NoDayForIt⟩
theorem w_fX7_138 : Fld RX7 138 2 0 := ⟨by decide, by decide, tk1 (i := 73) (by decide +kernel) rfl⟩
set_option maxRecDepth 20000 in
theorem w_mX7_isDay : MW yX7_isDay cX7_isDay 2 (some .boolean) 1 := ⟨tk3 (i := 48) rfl rfl, tk1 (i := 1) (by decide +kernel) rfl, ⟨by decide +kernel, by decide +kernel, by decide +kernel⟩, by decide, plainFor_of_name (x := yX7_isDay) pn_NoDayForIt⟩
theorem w_lX7_141 : Cond.methodLink RX7 141 yX0_isMadeHoly ∈ tg := tk3 (i := 53) (by decide +kernel) rfl
theorem w_lX7_144 : Cond.methodLink RX7 144 yX2_kindOf ∈ tg := tk3 (i := 57) (by decide +kernel) rfl
set_option maxRecDepth 20000 in
theorem w_mX7_kindNow : MW yX7_kindNow cX7_kindNow 2 (some .int) 1 := ⟨tk3 (i := 52) rfl rfl, tk1 (i := 1) (by decide +kernel) rfl, ⟨by decide +kernel, by decide +kernel, by decide +kernel⟩, by decide, plainFor_of_name (x := yX7_kindNow) pn_NoDayForIt⟩
theorem w_lX7_97 : Cond.methodLink RX7 97 yX7_isDay ∈ tg := tk3 (i := 45) (by decide +kernel) rfl
theorem w_iX7_isDay : Cond.instanceMethod yX7_isDay ∈ tg ∧ Cond.selects (yX7_isDay).cls yX7_isDay yX7_isDay ∈ tg := ⟨tk3 (i := 47) (by decide +kernel) rfl, tk0 (i := 18) (by decide +kernel) rfl⟩
theorem w_lX7_101 : Cond.methodLink RX7 101 yX7_kindNow ∈ tg := tk3 (i := 49) (by decide +kernel) rfl
theorem w_iX7_kindNow : Cond.instanceMethod yX7_kindNow ∈ tg ∧ Cond.selects (yX7_kindNow).cls yX7_kindNow yX7_kindNow ∈ tg := ⟨tk3 (i := 51) (by decide +kernel) rfl, tk0 (i := 19) (by decide +kernel) rfl⟩
set_option maxRecDepth 20000 in
theorem w_mX7_day : MW yX7_day cX7_day 2 (some .int) 1 := ⟨tk3 (i := 44) rfl rfl, tk1 (i := 1) (by decide +kernel) rfl, ⟨by decide +kernel, by decide +kernel, by decide +kernel⟩, by decide, plainFor_of_name (x := yX7_day) pn_NoDayForIt⟩
set_option maxRecDepth 20000 in
theorem w_mX7_isKind : MW yX7_isKind cX7_isKind 1 (some .boolean) 1 := ⟨tk3 (i := 67) rfl rfl, tk1 (i := 1) (by decide +kernel) rfl, ⟨by decide +kernel, by decide +kernel, by decide +kernel⟩, by decide, plainFor_of_name (x := yX7_isKind) pn_NoDayForIt⟩
theorem w_lX7_105 : Cond.methodLink RX7 105 yX7_isKind ∈ tg := tk3 (i := 65) (by decide +kernel) rfl
theorem w_sX7_isKind : Cond.static yX7_isKind ∈ tg := tk3 (i := 66) (by decide +kernel) rfl
set_option maxRecDepth 20000 in
theorem w_mX7_days : MW yX7_days cX7_days 6 (some .int) 3 := ⟨tk3 (i := 64) rfl rfl, tk1 (i := 1) (by decide +kernel) rfl, ⟨by decide +kernel, by decide +kernel, by decide +kernel⟩, by decide, plainFor_of_name (x := yX7_days) pn_NoDayForIt⟩
theorem w_lX7_108 : Cond.methodLink RX7 108 yX2_hasStep ∈ tg := tk3 (i := 72) (by decide +kernel) rfl
theorem w_iX2_hasStep : Cond.instanceMethod yX2_hasStep ∈ tg ∧ Cond.selects (yX2_hasStep).cls yX2_hasStep yX2_hasStep ∈ tg := ⟨tk3 (i := 73) (by decide +kernel) rfl, tk3 (i := 74) (by decide +kernel) rfl⟩
theorem w_lX7_112 : Cond.methodLink RX7 112 yX2_stepAt ∈ tg := tk3 (i := 76) (by decide +kernel) rfl
theorem w_fX7_116 : Fld RX7 116 6 0 := ⟨by decide, by decide, tk1 (i := 42) (by decide +kernel) rfl⟩
theorem w_fX7_121 : Fld RX7 121 6 1 := ⟨by decide, by decide, tk1 (i := 46) (by decide +kernel) rfl⟩
theorem w_fX7_124 : Fld RX7 124 6 2 := ⟨by decide, by decide, tk1 (i := 50) (by decide +kernel) rfl⟩
theorem w_fX7_128 : Fld RX7 128 6 3 := ⟨by decide, by decide, tk1 (i := 54) (by decide +kernel) rfl⟩
theorem w_fX7_131 : Fld RX7 131 6 4 := ⟨by decide, by decide, tk1 (i := 57) (by decide +kernel) rfl⟩
set_option maxRecDepth 20000 in
theorem w_mX7_step : MW yX7_step cX7_step 5 (some .int) 3 := ⟨tk3 (i := 71) rfl rfl, tk1 (i := 1) (by decide +kernel) rfl, ⟨by decide +kernel, by decide +kernel, by decide +kernel⟩, by decide, plainFor_of_name (x := yX7_step) pn_NoDayForIt⟩
theorem w_lX7_155 : Cond.methodLink RX7 155 yX1_isFarEnough ∈ tg := tk3 (i := 97) (by decide +kernel) rfl
theorem w_lX7_147 : Cond.methodLink RX7 147 yX1_see ∈ tg := tk3 (i := 85) (by decide +kernel) rfl
theorem w_lX7_151 : Cond.methodLink RX7 151 yX1_isOfItsKinds ∈ tg := tk3 (i := 93) (by decide +kernel) rfl
set_option maxRecDepth 20000 in
theorem w_mX7_mayBeDone : MW yX7_mayBeDone cX7_mayBeDone 6 (some .boolean) 4 := ⟨tk3 (i := 84) rfl rfl, tk1 (i := 1) (by decide +kernel) rfl, ⟨by decide +kernel, by decide +kernel, by decide +kernel⟩, by decide, plainFor_of_name (x := yX7_mayBeDone) pn_NoDayForIt⟩
theorem w_lX7_134 : Cond.methodLink RX7 134 yX7_mayBeDone ∈ tg := tk3 (i := 81) (by decide +kernel) rfl
theorem w_iX7_mayBeDone : Cond.instanceMethod yX7_mayBeDone ∈ tg ∧ Cond.selects (yX7_mayBeDone).cls yX7_mayBeDone yX7_mayBeDone ∈ tg := ⟨tk3 (i := 83) (by decide +kernel) rfl, tk0 (i := 20) (by decide +kernel) rfl⟩
set_option maxRecDepth 20000 in
theorem w_mX7_may : MW yX7_may cX7_may 5 (some .int) 4 := ⟨tk3 (i := 80) rfl rfl, tk1 (i := 1) (by decide +kernel) rfl, ⟨by decide +kernel, by decide +kernel, by decide +kernel⟩, by decide, plainFor_of_name (x := yX7_may) pn_NoDayForIt⟩
set_option maxRecDepth 20000 in
theorem w_mX7_isBill : MW yX7_isBill cX7_isBill 1 (some .boolean) 1 := ⟨tk3 (i := 141) rfl rfl, tk1 (i := 1) (by decide +kernel) rfl, ⟨by decide +kernel, by decide +kernel, by decide +kernel⟩, by decide, plainFor_of_name (x := yX7_isBill) pn_NoDayForIt⟩
theorem w_lX7_159 : Cond.methodLink RX7 159 yX5_hasRoom ∈ tg := tk3 (i := 105) (by decide +kernel) rfl
theorem w_iX5_hasRoom : Cond.instanceMethod yX5_hasRoom ∈ tg ∧ Cond.selects (yX5_hasRoom).cls yX5_hasRoom yX5_hasRoom ∈ tg := ⟨tk3 (i := 106) (by decide +kernel) rfl, tk3 (i := 107) (by decide +kernel) rfl⟩
theorem w_lX7_162 : Cond.methodLink RX7 162 yX5_add ∈ tg := tk3 (i := 114) (by decide +kernel) rfl
theorem w_iX5_add : Cond.instanceMethod yX5_add ∈ tg ∧ Cond.selects (yX5_add).cls yX5_add yX5_add ∈ tg := ⟨tk3 (i := 115) (by decide +kernel) rfl, tk3 (i := 116) (by decide +kernel) rfl⟩
theorem w_fX7_166 : Fld RX7 166 0 12 := ⟨by decide, by decide, tk1 (i := 183) (by decide +kernel) rfl⟩
theorem w_lX7_169 : Cond.methodLink RX7 169 yX7_put ∈ tg := tk3 (i := 119) (by decide +kernel) rfl
set_option maxRecDepth 20000 in
theorem w_mX7_person : MW yX7_person cX7_person 4 (some .int) 2 := ⟨tk3 (i := 104) rfl rfl, tk1 (i := 1) (by decide +kernel) rfl, ⟨by decide +kernel, by decide +kernel, by decide +kernel⟩, by decide, plainFor_of_name (x := yX7_person) pn_NoDayForIt⟩
theorem w_lX7_173 : Cond.methodLink RX7 173 yX5_has ∈ tg := tk3 (i := 124) (by decide +kernel) rfl
theorem w_iX5_has : Cond.instanceMethod yX5_has ∈ tg ∧ Cond.selects (yX5_has).cls yX5_has yX5_has ∈ tg := ⟨tk3 (i := 125) (by decide +kernel) rfl, tk3 (i := 126) (by decide +kernel) rfl⟩
theorem w_lX7_176 : Cond.methodLink RX7 176 yX5_officeOf ∈ tg := tk3 (i := 128) (by decide +kernel) rfl
theorem w_lX7_179 : Cond.methodLink RX7 179 yX5_timesOf ∈ tg := tk3 (i := 129) (by decide +kernel) rfl
theorem w_lX7_182 : Cond.methodLink RX7 182 yX7_at ∈ tg := tk3 (i := 130) (by decide +kernel) rfl
set_option maxRecDepth 20000 in
theorem w_mX7_who : MW yX7_who cX7_who 3 (some .int) 2 := ⟨tk3 (i := 123) rfl rfl, tk1 (i := 1) (by decide +kernel) rfl, ⟨by decide +kernel, by decide +kernel, by decide +kernel⟩, by decide, plainFor_of_name (x := yX7_who) pn_NoDayForIt⟩
theorem w_lX7_220 : Cond.methodLink RX7 220 yX7_isBill ∈ tg := tk3 (i := 139) (by decide +kernel) rfl
theorem w_sX7_isBill : Cond.static yX7_isBill ∈ tg := tk3 (i := 140) (by decide +kernel) rfl
set_option maxRecDepth 20000 in
theorem w_mX7_canBeOf : MW yX7_canBeOf cX7_canBeOf 3 (some .boolean) 2 := ⟨tk3 (i := 138) rfl rfl, tk1 (i := 1) (by decide +kernel) rfl, ⟨by decide +kernel, by decide +kernel, by decide +kernel⟩, by decide, plainFor_of_name (x := yX7_canBeOf) pn_NoDayForIt⟩
theorem w_lX7_226 : Cond.methodLink RX7 226 yX0_doneOf ∈ tg := tk3 (i := 150) (by decide +kernel) rfl
theorem w_lX7_229 : Cond.methodLink RX7 229 yX0_lastOf ∈ tg := tk3 (i := 155) (by decide +kernel) rfl
theorem w_fX7_210 : Fld RX7 210 0 4 := ⟨by decide, by decide, tk1 (i := 168) (by decide +kernel) rfl⟩
theorem w_fX7_201 : Fld RX7 201 0 0 := ⟨by decide, by decide, tk1 (i := 159) (by decide +kernel) rfl⟩
theorem w_fX7_251 : Fld RX7 251 0 6 := ⟨by decide, by decide, tk1 (i := 172) (by decide +kernel) rfl⟩
theorem w_fX7_254 : Fld RX7 254 0 9 := ⟨by decide, by decide, tk1 (i := 178) (by decide +kernel) rfl⟩
theorem w_fX7_257 : Fld RX7 257 0 10 := ⟨by decide, by decide, tk1 (i := 180) (by decide +kernel) rfl⟩
theorem w_lX7_260 : Cond.methodLink RX7 260 yX0_setRun ∈ tg := tk3 (i := 159) (by decide +kernel) rfl
theorem w_iX0_setRun : Cond.instanceMethod yX0_setRun ∈ tg ∧ Cond.selects (yX0_setRun).cls yX0_setRun yX0_setRun ∈ tg := ⟨tk3 (i := 160) (by decide +kernel) rfl, tk3 (i := 161) (by decide +kernel) rfl⟩
set_option maxRecDepth 20000 in
theorem w_mX7_callOf : MW yX7_callOf cX7_callOf 4 (some .boolean) 1 := ⟨tk3 (i := 149) rfl rfl, tk1 (i := 1) (by decide +kernel) rfl, ⟨by decide +kernel, by decide +kernel, by decide +kernel⟩, by decide, plainFor_of_name (x := yX7_callOf) pn_NoDayForIt⟩
theorem w_fX7_196 : Fld RX7 196 0 8 := ⟨by decide, by decide, tk1 (i := 176) (by decide +kernel) rfl⟩
theorem w_lX7_264 : Cond.methodLink RX7 264 yX0_useOne ∈ tg := tk3 (i := 167) (by decide +kernel) rfl
theorem w_iX0_useOne : Cond.instanceMethod yX0_useOne ∈ tg ∧ Cond.selects (yX0_useOne).cls yX0_useOne yX0_useOne ∈ tg := ⟨tk3 (i := 168) (by decide +kernel) rfl, tk3 (i := 169) (by decide +kernel) rfl⟩
set_option maxRecDepth 20000 in
theorem w_mX7_forbidBy : MW yX7_forbidBy cX7_forbidBy 4 (some .boolean) 1 := ⟨tk3 (i := 166) rfl rfl, tk1 (i := 1) (by decide +kernel) rfl, ⟨by decide +kernel, by decide +kernel, by decide +kernel⟩, by decide, plainFor_of_name (x := yX7_forbidBy) pn_NoDayForIt⟩
set_option maxRecDepth 20000 in
theorem w_mX7_hasSignLeft : MW yX7_hasSignLeft cX7_hasSignLeft 2 (some .boolean) 1 := ⟨tk3 (i := 178) rfl rfl, tk1 (i := 1) (by decide +kernel) rfl, ⟨by decide +kernel, by decide +kernel, by decide +kernel⟩, by decide, plainFor_of_name (x := yX7_hasSignLeft) pn_NoDayForIt⟩
theorem w_lX7_268 : Cond.methodLink RX7 268 yX7_hasSignLeft ∈ tg := tk3 (i := 175) (by decide +kernel) rfl
theorem w_iX7_hasSignLeft : Cond.instanceMethod yX7_hasSignLeft ∈ tg ∧ Cond.selects (yX7_hasSignLeft).cls yX7_hasSignLeft yX7_hasSignLeft ∈ tg := ⟨tk3 (i := 177) (by decide +kernel) rfl, tk0 (i := 26) (by decide +kernel) rfl⟩
set_option maxRecDepth 20000 in
theorem w_mX7_watchBy : MW yX7_watchBy cX7_watchBy 2 (some .boolean) 1 := ⟨tk3 (i := 174) rfl rfl, tk1 (i := 1) (by decide +kernel) rfl, ⟨by decide +kernel, by decide +kernel, by decide +kernel⟩, by decide, plainFor_of_name (x := yX7_watchBy) pn_NoDayForIt⟩
theorem w_lX7_271 : Cond.methodLink RX7 271 yX0_makeHoly ∈ tg := tk3 (i := 183) (by decide +kernel) rfl
theorem w_iX0_makeHoly : Cond.instanceMethod yX0_makeHoly ∈ tg ∧ Cond.selects (yX0_makeHoly).cls yX0_makeHoly yX0_makeHoly ∈ tg := ⟨tk3 (i := 184) (by decide +kernel) rfl, tk3 (i := 185) (by decide +kernel) rfl⟩
set_option maxRecDepth 20000 in
theorem w_mX7_makeHolyBy : MW yX7_makeHolyBy cX7_makeHolyBy 3 (some .boolean) 2 := ⟨tk3 (i := 182) rfl rfl, tk1 (i := 1) (by decide +kernel) rfl, ⟨by decide +kernel, by decide +kernel, by decide +kernel⟩, by decide, plainFor_of_name (x := yX7_makeHolyBy) pn_NoDayForIt⟩
theorem w_fX7_217 : Fld RX7 217 0 7 := ⟨by decide, by decide, tk1 (i := 174) (by decide +kernel) rfl⟩
set_option maxRecDepth 20000 in
theorem w_mX7_forceOn : MW yX7_forceOn cX7_forceOn 2 (some .boolean) 0 := ⟨tk3 (i := 190) rfl rfl, tk1 (i := 1) (by decide +kernel) rfl, ⟨by decide +kernel, by decide +kernel, by decide +kernel⟩, by decide, plainFor_of_name (x := yX7_forceOn) pn_NoDayForIt⟩
set_option maxRecDepth 20000 in
theorem w_mX7_fallBackIfLate : MW yX7_fallBackIfLate cX7_fallBackIfLate 4 none 1 := ⟨tk3 (i := 198) rfl rfl, tk1 (i := 1) (by decide +kernel) rfl, ⟨by decide +kernel, by decide +kernel, by decide +kernel⟩, by decide, plainFor_of_name (x := yX7_fallBackIfLate) pn_NoDayForIt⟩
theorem w_lX7_274 : Cond.methodLink RX7 274 yX7_fallBackIfLate ∈ tg := tk3 (i := 195) (by decide +kernel) rfl
theorem w_iX7_fallBackIfLate : Cond.instanceMethod yX7_fallBackIfLate ∈ tg ∧ Cond.selects (yX7_fallBackIfLate).cls yX7_fallBackIfLate yX7_fallBackIfLate ∈ tg := ⟨tk3 (i := 197) (by decide +kernel) rfl, tk0 (i := 30) (by decide +kernel) rfl⟩
set_option maxRecDepth 20000 in
theorem w_mX7_waitOn : MW yX7_waitOn cX7_waitOn 2 (some .boolean) 0 := ⟨tk3 (i := 194) rfl rfl, tk1 (i := 1) (by decide +kernel) rfl, ⟨by decide +kernel, by decide +kernel, by decide +kernel⟩, by decide, plainFor_of_name (x := yX7_waitOn) pn_NoDayForIt⟩
theorem w_lX7_232 : Cond.methodLink RX7 232 yX7_callOf ∈ tg := tk3 (i := 146) (by decide +kernel) rfl
theorem w_iX7_callOf : Cond.instanceMethod yX7_callOf ∈ tg ∧ Cond.selects (yX7_callOf).cls yX7_callOf yX7_callOf ∈ tg := ⟨tk3 (i := 148) (by decide +kernel) rfl, tk0 (i := 23) (by decide +kernel) rfl⟩
theorem w_lX7_235 : Cond.methodLink RX7 235 yX7_forbidBy ∈ tg := tk3 (i := 163) (by decide +kernel) rfl
theorem w_iX7_forbidBy : Cond.instanceMethod yX7_forbidBy ∈ tg ∧ Cond.selects (yX7_forbidBy).cls yX7_forbidBy yX7_forbidBy ∈ tg := ⟨tk3 (i := 165) (by decide +kernel) rfl, tk0 (i := 24) (by decide +kernel) rfl⟩
theorem w_lX7_238 : Cond.methodLink RX7 238 yX7_watchBy ∈ tg := tk3 (i := 171) (by decide +kernel) rfl
theorem w_iX7_watchBy : Cond.instanceMethod yX7_watchBy ∈ tg ∧ Cond.selects (yX7_watchBy).cls yX7_watchBy yX7_watchBy ∈ tg := ⟨tk3 (i := 173) (by decide +kernel) rfl, tk0 (i := 25) (by decide +kernel) rfl⟩
theorem w_lX7_241 : Cond.methodLink RX7 241 yX7_makeHolyBy ∈ tg := tk3 (i := 179) (by decide +kernel) rfl
theorem w_iX7_makeHolyBy : Cond.instanceMethod yX7_makeHolyBy ∈ tg ∧ Cond.selects (yX7_makeHolyBy).cls yX7_makeHolyBy yX7_makeHolyBy ∈ tg := ⟨tk3 (i := 181) (by decide +kernel) rfl, tk0 (i := 27) (by decide +kernel) rfl⟩
theorem w_lX7_244 : Cond.methodLink RX7 244 yX7_forceOn ∈ tg := tk3 (i := 187) (by decide +kernel) rfl
theorem w_iX7_forceOn : Cond.instanceMethod yX7_forceOn ∈ tg ∧ Cond.selects (yX7_forceOn).cls yX7_forceOn yX7_forceOn ∈ tg := ⟨tk3 (i := 189) (by decide +kernel) rfl, tk0 (i := 28) (by decide +kernel) rfl⟩
theorem w_lX7_248 : Cond.methodLink RX7 248 yX7_waitOn ∈ tg := tk3 (i := 191) (by decide +kernel) rfl
theorem w_iX7_waitOn : Cond.instanceMethod yX7_waitOn ∈ tg ∧ Cond.selects (yX7_waitOn).cls yX7_waitOn yX7_waitOn ∈ tg := ⟨tk3 (i := 193) (by decide +kernel) rfl, tk0 (i := 29) (by decide +kernel) rfl⟩
set_option maxRecDepth 20000 in
theorem w_mX7_isDoneLawfully : MW yX7_isDoneLawfully cX7_isDoneLawfully 4 (some .boolean) 3 := ⟨tk3 (i := 145) rfl rfl, tk1 (i := 1) (by decide +kernel) rfl, ⟨by decide +kernel, by decide +kernel, by decide +kernel⟩, by decide, plainFor_of_name (x := yX7_isDoneLawfully) pn_NoDayForIt⟩
theorem w_fX7_199 : Fld RX7 199 0 1 := ⟨by decide, by decide, tk1 (i := 161) (by decide +kernel) rfl⟩
theorem w_lX7_186 : Cond.methodLink RX7 186 yX7_canBeOf ∈ tg := tk3 (i := 135) (by decide +kernel) rfl
theorem w_iX7_canBeOf : Cond.instanceMethod yX7_canBeOf ∈ tg ∧ Cond.selects (yX7_canBeOf).cls yX7_canBeOf yX7_canBeOf ∈ tg := ⟨tk3 (i := 137) (by decide +kernel) rfl, tk0 (i := 21) (by decide +kernel) rfl⟩
theorem w_lX7_189 : Cond.methodLink RX7 189 yX7_isDoneLawfully ∈ tg := tk3 (i := 142) (by decide +kernel) rfl
theorem w_iX7_isDoneLawfully : Cond.instanceMethod yX7_isDoneLawfully ∈ tg ∧ Cond.selects (yX7_isDoneLawfully).cls yX7_isDoneLawfully yX7_isDoneLawfully ∈ tg := ⟨tk3 (i := 144) (by decide +kernel) rfl, tk0 (i := 22) (by decide +kernel) rfl⟩
theorem w_lX7_193 : Cond.methodLink RX7 193 yX0_slip ∈ tg := tk3 (i := 199) (by decide +kernel) rfl
theorem w_iX0_slip : Cond.instanceMethod yX0_slip ∈ tg ∧ Cond.selects (yX0_slip).cls yX0_slip yX0_slip ∈ tg := ⟨tk3 (i := 200) (by decide +kernel) rfl, tk3 (i := 201) (by decide +kernel) rfl⟩
set_option maxRecDepth 20000 in
theorem w_mX7_act : MW yX7_act cX7_act 5 (some .int) 3 := ⟨tk3 (i := 134) rfl rfl, tk1 (i := 1) (by decide +kernel) rfl, ⟨by decide +kernel, by decide +kernel, by decide +kernel⟩, by decide, plainFor_of_name (x := yX7_act) pn_NoDayForIt⟩
set_option maxRecDepth 20000 in
theorem w_mX7_isVoid : MW yX7_isVoid cX7_isVoid 2 (some .boolean) 1 := ⟨tk3 (i := 219) rfl rfl, tk1 (i := 1) (by decide +kernel) rfl, ⟨by decide +kernel, by decide +kernel, by decide +kernel⟩, by decide, plainFor_of_name (x := yX7_isVoid) pn_NoDayForIt⟩
theorem w_lX7_223 : Cond.methodLink RX7 223 yX2_stepsOf ∈ tg := tk3 (i := 215) (by decide +kernel) rfl
theorem w_lX7_277 : Cond.methodLink RX7 277 yX7_isVoid ∈ tg := tk3 (i := 216) (by decide +kernel) rfl
theorem w_iX7_isVoid : Cond.instanceMethod yX7_isVoid ∈ tg ∧ Cond.selects (yX7_isVoid).cls yX7_isVoid yX7_isVoid ∈ tg := ⟨tk3 (i := 218) (by decide +kernel) rfl, tk0 (i := 33) (by decide +kernel) rfl⟩
set_option maxRecDepth 20000 in
theorem w_mX7_isCarried : MW yX7_isCarried cX7_isCarried 3 (some .boolean) 1 := ⟨tk3 (i := 214) rfl rfl, tk1 (i := 1) (by decide +kernel) rfl, ⟨by decide +kernel, by decide +kernel, by decide +kernel⟩, by decide, plainFor_of_name (x := yX7_isCarried) pn_NoDayForIt⟩
theorem w_lX7_280 : Cond.methodLink RX7 280 yX7_isCarried ∈ tg := tk3 (i := 211) (by decide +kernel) rfl
theorem w_iX7_isCarried : Cond.instanceMethod yX7_isCarried ∈ tg ∧ Cond.selects (yX7_isCarried).cls yX7_isCarried yX7_isCarried ∈ tg := ⟨tk3 (i := 213) (by decide +kernel) rfl, tk0 (i := 32) (by decide +kernel) rfl⟩
set_option maxRecDepth 20000 in
theorem w_mX7_carriedBills : MW yX7_carriedBills cX7_carriedBills 3 (some .int) 0 := ⟨tk3 (i := 210) rfl rfl, tk1 (i := 1) (by decide +kernel) rfl, ⟨by decide +kernel, by decide +kernel, by decide +kernel⟩, by decide, plainFor_of_name (x := yX7_carriedBills) pn_NoDayForIt⟩
theorem w_fX7_204 : Fld RX7 204 0 2 := ⟨by decide, by decide, tk1 (i := 163) (by decide +kernel) rfl⟩
theorem w_fX7_207 : Fld RX7 207 0 3 := ⟨by decide, by decide, tk1 (i := 165) (by decide +kernel) rfl⟩
theorem w_lX7_213 : Cond.methodLink RX7 213 yX7_carriedBills ∈ tg := tk3 (i := 207) (by decide +kernel) rfl
theorem w_iX7_carriedBills : Cond.instanceMethod yX7_carriedBills ∈ tg ∧ Cond.selects (yX7_carriedBills).cls yX7_carriedBills yX7_carriedBills ∈ tg := ⟨tk3 (i := 209) (by decide +kernel) rfl, tk0 (i := 31) (by decide +kernel) rfl⟩
set_option maxRecDepth 20000 in
theorem w_mX7_now : MW yX7_now cX7_now 2 (some .int) 1 := ⟨tk3 (i := 206) rfl rfl, tk1 (i := 1) (by decide +kernel) rfl, ⟨by decide +kernel, by decide +kernel, by decide +kernel⟩, by decide, plainFor_of_name (x := yX7_now) pn_NoDayForIt⟩
set_option maxRecDepth 20000 in
theorem w_mX7_bill : MW yX7_bill cX7_bill 3 (some .int) 2 := ⟨tk3 (i := 223) rfl rfl, tk1 (i := 1) (by decide +kernel) rfl, ⟨by decide +kernel, by decide +kernel, by decide +kernel⟩, by decide, plainFor_of_name (x := yX7_bill) pn_NoDayForIt⟩
set_option maxRecDepth 20000 in
theorem w_mX7_isOpen : MW yX7_isOpen cX7_isOpen 2 (some .boolean) 1 := ⟨tk3 (i := 231) rfl rfl, tk1 (i := 1) (by decide +kernel) rfl, ⟨by decide +kernel, by decide +kernel, by decide +kernel⟩, by decide, plainFor_of_name (x := yX7_isOpen) pn_NoDayForIt⟩
theorem w_lX7_283 : Cond.methodLink RX7 283 yX7_isOpen ∈ tg := tk3 (i := 228) (by decide +kernel) rfl
theorem w_iX7_isOpen : Cond.instanceMethod yX7_isOpen ∈ tg ∧ Cond.selects (yX7_isOpen).cls yX7_isOpen yX7_isOpen ∈ tg := ⟨tk3 (i := 230) (by decide +kernel) rfl, tk0 (i := 34) (by decide +kernel) rfl⟩
theorem w_lX7_286 : Cond.methodLink RX7 286 yX1_findSoonest ∈ tg := tk3 (i := 232) (by decide +kernel) rfl
theorem w_iX1_findSoonest : Cond.instanceMethod yX1_findSoonest ∈ tg ∧ Cond.selects (yX1_findSoonest).cls yX1_findSoonest yX1_findSoonest ∈ tg := ⟨tk3 (i := 233) (by decide +kernel) rfl, tk3 (i := 234) (by decide +kernel) rfl⟩
theorem w_fX7_290 : Fld RX7 290 1 1 := ⟨by decide, by decide, tk1 (i := 227) (by decide +kernel) rfl⟩
theorem w_fX7_293 : Fld RX7 293 1 0 := ⟨by decide, by decide, tk1 (i := 225) (by decide +kernel) rfl⟩
set_option maxRecDepth 20000 in
theorem w_mX7_soon : MW yX7_soon cX7_soon 4 (some .int) 2 := ⟨tk3 (i := 227) rfl rfl, tk1 (i := 1) (by decide +kernel) rfl, ⟨by decide +kernel, by decide +kernel, by decide +kernel⟩, by decide, plainFor_of_name (x := yX7_soon) pn_NoDayForIt⟩
theorem w_lX7_296 : Cond.methodLink RX7 296 yX1_findFewestAgainst ∈ tg := tk4 (i := 46) (by decide +kernel) rfl
theorem w_iX1_findFewestAgainst : Cond.instanceMethod yX1_findFewestAgainst ∈ tg ∧ Cond.selects (yX1_findFewestAgainst).cls yX1_findFewestAgainst yX1_findFewestAgainst ∈ tg := ⟨tk4 (i := 47) (by decide +kernel) rfl, tk4 (i := 48) (by decide +kernel) rfl⟩
set_option maxRecDepth 20000 in
theorem w_mX7_against : MW yX7_against cX7_against 2 (some .int) 1 := ⟨tk4 (i := 45) rfl rfl, tk1 (i := 1) (by decide +kernel) rfl, ⟨by decide +kernel, by decide +kernel, by decide +kernel⟩, by decide, plainFor_of_name (x := yX7_against) pn_NoDayForIt⟩
set_option maxRecDepth 20000 in
theorem w_mX7_sure : MW yX7_sure cX7_sure 4 (some .int) 3 := ⟨tk4 (i := 53) rfl rfl, tk1 (i := 1) (by decide +kernel) rfl, ⟨by decide +kernel, by decide +kernel, by decide +kernel⟩, by decide, plainFor_of_name (x := yX7_sure) pn_NoDayForIt⟩
set_option maxRecDepth 20000 in
theorem w_mX7_delay : MW yX7_delay cX7_delay 3 (some .int) 2 := ⟨tk4 (i := 57) rfl rfl, tk1 (i := 1) (by decide +kernel) rfl, ⟨by decide +kernel, by decide +kernel, by decide +kernel⟩, by decide, plainFor_of_name (x := yX7_delay) pn_NoDayForIt⟩
set_option maxRecDepth 20000 in
theorem w_mX7_stop : MW yX7_stop cX7_stop 3 (some .int) 2 := ⟨tk4 (i := 61) rfl rfl, tk1 (i := 1) (by decide +kernel) rfl, ⟨by decide +kernel, by decide +kernel, by decide +kernel⟩, by decide, plainFor_of_name (x := yX7_stop) pn_NoDayForIt⟩
theorem w_lX7_299 : Cond.methodLink RX7 299 yX4_addGroup ∈ tg := tk4 (i := 66) (by decide +kernel) rfl
theorem w_iX4_addGroup : Cond.instanceMethod yX4_addGroup ∈ tg ∧ Cond.selects (yX4_addGroup).cls yX4_addGroup yX4_addGroup ∈ tg := ⟨tk4 (i := 67) (by decide +kernel) rfl, tk4 (i := 68) (by decide +kernel) rfl⟩
set_option maxRecDepth 20000 in
theorem w_mX7_group : MW yX7_group cX7_group 1 (some .int) 0 := ⟨tk4 (i := 65) rfl rfl, tk1 (i := 1) (by decide +kernel) rfl, ⟨by decide +kernel, by decide +kernel, by decide +kernel⟩, by decide, plainFor_of_name (x := yX7_group) pn_NoDayForIt⟩
set_option maxRecDepth 20000 in
theorem w_mX7_isMatter : MW yX7_isMatter cX7_isMatter 1 (some .boolean) 1 := ⟨tk4 (i := 80) rfl rfl, tk1 (i := 1) (by decide +kernel) rfl, ⟨by decide +kernel, by decide +kernel, by decide +kernel⟩, by decide, plainFor_of_name (x := yX7_isMatter) pn_NoDayForIt⟩
theorem w_lX7_302 : Cond.methodLink RX7 302 yX4_hasGroup ∈ tg := tk4 (i := 74) (by decide +kernel) rfl
theorem w_iX4_hasGroup : Cond.instanceMethod yX4_hasGroup ∈ tg ∧ Cond.selects (yX4_hasGroup).cls yX4_hasGroup yX4_hasGroup ∈ tg := ⟨tk4 (i := 75) (by decide +kernel) rfl, tk4 (i := 76) (by decide +kernel) rfl⟩
theorem w_lX7_305 : Cond.methodLink RX7 305 yX7_isMatter ∈ tg := tk4 (i := 78) (by decide +kernel) rfl
theorem w_sX7_isMatter : Cond.static yX7_isMatter ∈ tg := tk4 (i := 79) (by decide +kernel) rfl
theorem w_lX7_308 : Cond.methodLink RX7 308 yX4_setWish ∈ tg := tk4 (i := 81) (by decide +kernel) rfl
theorem w_iX4_setWish : Cond.instanceMethod yX4_setWish ∈ tg ∧ Cond.selects (yX4_setWish).cls yX4_setWish yX4_setWish ∈ tg := ⟨tk4 (i := 82) (by decide +kernel) rfl, tk4 (i := 83) (by decide +kernel) rfl⟩
set_option maxRecDepth 20000 in
theorem w_mX7_wish : MW yX7_wish cX7_wish 4 (some .int) 3 := ⟨tk4 (i := 73) rfl rfl, tk1 (i := 1) (by decide +kernel) rfl, ⟨by decide +kernel, by decide +kernel, by decide +kernel⟩, by decide, plainFor_of_name (x := yX7_wish) pn_NoDayForIt⟩
set_option maxRecDepth 20000 in
theorem w_mX7_isSet : MW yX7_isSet cX7_isSet 1 (some .boolean) 1 := ⟨tk4 (i := 93) rfl rfl, tk1 (i := 1) (by decide +kernel) rfl, ⟨by decide +kernel, by decide +kernel, by decide +kernel⟩, by decide, plainFor_of_name (x := yX7_isSet) pn_NoDayForIt⟩
theorem w_lX7_312 : Cond.methodLink RX7 312 yX7_isSet ∈ tg := tk4 (i := 91) (by decide +kernel) rfl
theorem w_sX7_isSet : Cond.static yX7_isSet ∈ tg := tk4 (i := 92) (by decide +kernel) rfl
theorem w_lX7_315 : Cond.methodLink RX7 315 yX4_doPass ∈ tg := tk4 (i := 94) (by decide +kernel) rfl
set_option maxRecDepth 20000 in
theorem w_mX7_passes : MW yX7_passes cX7_passes 2 (some .int) 1 := ⟨tk4 (i := 90) rfl rfl, tk1 (i := 1) (by decide +kernel) rfl, ⟨by decide +kernel, by decide +kernel, by decide +kernel⟩, by decide, plainFor_of_name (x := yX7_passes) pn_NoDayForIt⟩
theorem w_lX7_318 : Cond.methodLink RX7 318 yX4_fewestToRideWith ∈ tg := tk4 (i := 106) (by decide +kernel) rfl
theorem w_iX4_fewestToRideWith : Cond.instanceMethod yX4_fewestToRideWith ∈ tg ∧ Cond.selects (yX4_fewestToRideWith).cls yX4_fewestToRideWith yX4_fewestToRideWith ∈ tg := ⟨tk4 (i := 107) (by decide +kernel) rfl, tk4 (i := 108) (by decide +kernel) rfl⟩
theorem w_lX7_321 : Cond.methodLink RX7 321 yJ6_bitCount_0f7a4 ∈ tg := tk4 (i := 117) (by decide +kernel) rfl
set_option maxRecDepth 20000 in
theorem w_mX7_ride : MW yX7_ride cX7_ride 4 (some .int) 2 := ⟨tk4 (i := 105) rfl rfl, tk1 (i := 1) (by decide +kernel) rfl, ⟨by decide +kernel, by decide +kernel, by decide +kernel⟩, by decide, plainFor_of_name (x := yX7_ride) pn_NoDayForIt⟩
theorem w_lX7_326 : Cond.methodLink RX7 326 yX4_tearsOf ∈ tg := tk4 (i := 122) (by decide +kernel) rfl
theorem w_iX4_tearsOf : Cond.instanceMethod yX4_tearsOf ∈ tg ∧ Cond.selects (yX4_tearsOf).cls yX4_tearsOf yX4_tearsOf ∈ tg := ⟨tk4 (i := 123) (by decide +kernel) rfl, tk4 (i := 124) (by decide +kernel) rfl⟩
set_option maxRecDepth 20000 in
theorem w_mX7_tears : MW yX7_tears cX7_tears 2 (some .int) 1 := ⟨tk4 (i := 121) rfl rfl, tk1 (i := 1) (by decide +kernel) rfl, ⟨by decide +kernel, by decide +kernel, by decide +kernel⟩, by decide, plainFor_of_name (x := yX7_tears) pn_NoDayForIt⟩
set_option maxRecDepth 20000 in
theorem w_mX7_isWord : MW yX7_isWord cX7_isWord 6 (some .boolean) 3 := ⟨tk4 (i := 132) rfl rfl, tk1 (i := 1) (by decide +kernel) rfl, ⟨by decide +kernel, by decide +kernel, by decide +kernel⟩, by decide, plainFor_of_name (x := yX7_isWord) pn_NoDayForIt⟩
theorem w_lX7_329 : Cond.methodLink RX7 329 yX7_isWord ∈ tg := tk4 (i := 130) (by decide +kernel) rfl
theorem w_sX7_isWord : Cond.static yX7_isWord ∈ tg := tk4 (i := 131) (by decide +kernel) rfl
set_option maxRecDepth 20000 in
theorem w_mX7_word : MW yX7_word cX7_word 6 (some .int) 4 := ⟨tk4 (i := 129) rfl rfl, tk1 (i := 1) (by decide +kernel) rfl, ⟨by decide +kernel, by decide +kernel, by decide +kernel⟩, by decide, plainFor_of_name (x := yX7_word) pn_NoDayForIt⟩
set_option maxRecDepth 20000 in
theorem w_mJ9_max_7cf53 : MW yJ9_max_7cf53 cJ9_max_7cf53 2 (some .int) 2 := ⟨tk4 (i := 161) rfl rfl, tk1 (i := 11) (by decide +kernel) rfl, ⟨by decide +kernel, by decide +kernel, by decide +kernel⟩, by decide, by decide +kernel⟩
theorem w_lX7_349 : Cond.methodLink RX7 349 yJ9_max_7cf53 ∈ tg := tk4 (i := 159) (by decide +kernel) rfl
theorem w_sJ9_max_7cf53 : Cond.static yJ9_max_7cf53 ∈ tg := tk4 (i := 160) (by decide +kernel) rfl
set_option maxRecDepth 20000 in
theorem w_mX7_rewriteStep : MW yX7_rewriteStep cX7_rewriteStep 3 none 3 := ⟨tk4 (i := 158) rfl rfl, tk1 (i := 1) (by decide +kernel) rfl, ⟨by decide +kernel, by decide +kernel, by decide +kernel⟩, by decide, plainFor_of_name (x := yX7_rewriteStep) pn_NoDayForIt⟩
theorem w_lX7_345 : Cond.methodLink RX7 345 yX7_rewriteStep ∈ tg := tk4 (i := 156) (by decide +kernel) rfl
theorem w_sX7_rewriteStep : Cond.static yX7_rewriteStep ∈ tg := tk4 (i := 157) (by decide +kernel) rfl
set_option maxRecDepth 20000 in
theorem w_mX7_rewriteDraft : MW yX7_rewriteDraft cX7_rewriteDraft 4 none 1 := ⟨tk4 (i := 155) rfl rfl, tk1 (i := 1) (by decide +kernel) rfl, ⟨by decide +kernel, by decide +kernel, by decide +kernel⟩, by decide, plainFor_of_name (x := yX7_rewriteDraft) pn_NoDayForIt⟩
theorem w_lX7_338 : Cond.methodLink RX7 338 yX7_rewriteDraft ∈ tg := tk4 (i := 152) (by decide +kernel) rfl
theorem w_iX7_rewriteDraft : Cond.instanceMethod yX7_rewriteDraft ∈ tg ∧ Cond.selects (yX7_rewriteDraft).cls yX7_rewriteDraft yX7_rewriteDraft ∈ tg := ⟨tk4 (i := 154) (by decide +kernel) rfl, tk0 (i := 45) (by decide +kernel) rfl⟩
theorem w_lX7_341 : Cond.methodLink RX7 341 yX1_isSure ∈ tg := tk4 (i := 162) (by decide +kernel) rfl
theorem w_iX1_isSure : Cond.instanceMethod yX1_isSure ∈ tg ∧ Cond.selects (yX1_isSure).cls yX1_isSure yX1_isSure ∈ tg := ⟨tk4 (i := 163) (by decide +kernel) rfl, tk4 (i := 164) (by decide +kernel) rfl⟩
theorem w_lX7_335 : Cond.methodLink RX7 335 yX2_copy ∈ tg := tk4 (i := 141) (by decide +kernel) rfl
theorem w_iX2_copy : Cond.instanceMethod yX2_copy ∈ tg ∧ Cond.selects (yX2_copy).cls yX2_copy yX2_copy ∈ tg := ⟨tk4 (i := 142) (by decide +kernel) rfl, tk4 (i := 143) (by decide +kernel) rfl⟩
set_option maxRecDepth 20000 in
theorem w_mX7_doMend : MW yX7_doMend cX7_doMend 3 (some .boolean) 1 := ⟨tk4 (i := 140) rfl rfl, tk1 (i := 1) (by decide +kernel) rfl, ⟨by decide +kernel, by decide +kernel, by decide +kernel⟩, by decide, plainFor_of_name (x := yX7_doMend) pn_NoDayForIt⟩
theorem w_lX7_332 : Cond.methodLink RX7 332 yX7_doMend ∈ tg := tk4 (i := 137) (by decide +kernel) rfl
theorem w_iX7_doMend : Cond.instanceMethod yX7_doMend ∈ tg ∧ Cond.selects (yX7_doMend).cls yX7_doMend yX7_doMend ∈ tg := ⟨tk4 (i := 139) (by decide +kernel) rfl, tk0 (i := 44) (by decide +kernel) rfl⟩
set_option maxRecDepth 20000 in
theorem w_mX7_mended : MW yX7_mended cX7_mended 6 (some .int) 1 := ⟨tk4 (i := 136) rfl rfl, tk1 (i := 1) (by decide +kernel) rfl, ⟨by decide +kernel, by decide +kernel, by decide +kernel⟩, by decide, plainFor_of_name (x := yX7_mended) pn_NoDayForIt⟩
theorem w_fX7_401 : Fld RX7 401 7 15 := ⟨by decide, by decide, tk2 (i := 46) (by decide +kernel) rfl⟩
set_option maxRecDepth 20000 in
theorem w_mX7_priceOfAct : MW yX7_priceOfAct cX7_priceOfAct 2 (some .int) 1 := ⟨tk4 (i := 173) rfl rfl, tk1 (i := 1) (by decide +kernel) rfl, ⟨by decide +kernel, by decide +kernel, by decide +kernel⟩, by decide, plainFor_of_name (x := yX7_priceOfAct) pn_NoDayForIt⟩
theorem w_cX7_404 : Cond.constantLong RX7 404 10 ∈ tg := tk4 (i := 178) (by decide +kernel) rfl
set_option maxRecDepth 20000 in
theorem w_mX7_priceOfStep : MW yX7_priceOfStep cX7_priceOfStep 6 (some .int) 2 := ⟨tk4 (i := 177) rfl rfl, tk1 (i := 1) (by decide +kernel) rfl, ⟨by decide +kernel, by decide +kernel, by decide +kernel⟩, by decide, plainFor_of_name (x := yX7_priceOfStep) pn_NoDayForIt⟩
theorem w_cX7_406 : Cond.constantLong RX7 406 100 ∈ tg := tk4 (i := 183) (by decide +kernel) rfl
set_option maxRecDepth 20000 in
theorem w_mX7_priceOfForbid : MW yX7_priceOfForbid cX7_priceOfForbid 2 (some .int) 1 := ⟨tk4 (i := 182) rfl rfl, tk1 (i := 1) (by decide +kernel) rfl, ⟨by decide +kernel, by decide +kernel, by decide +kernel⟩, by decide, plainFor_of_name (x := yX7_priceOfForbid) pn_NoDayForIt⟩
theorem w_cX7_408 : Cond.constantLong RX7 408 1000 ∈ tg := tk4 (i := 188) (by decide +kernel) rfl
set_option maxRecDepth 20000 in
theorem w_mX7_priceOfWatch : MW yX7_priceOfWatch cX7_priceOfWatch 3 (some .int) 2 := ⟨tk4 (i := 187) rfl rfl, tk1 (i := 1) (by decide +kernel) rfl, ⟨by decide +kernel, by decide +kernel, by decide +kernel⟩, by decide, plainFor_of_name (x := yX7_priceOfWatch) pn_NoDayForIt⟩
theorem w_cX7_410 : Cond.constantLong RX7 410 10000 ∈ tg := tk4 (i := 193) (by decide +kernel) rfl
set_option maxRecDepth 20000 in
theorem w_mX7_priceOfHoly : MW yX7_priceOfHoly cX7_priceOfHoly 3 (some .int) 2 := ⟨tk4 (i := 192) rfl rfl, tk1 (i := 1) (by decide +kernel) rfl, ⟨by decide +kernel, by decide +kernel, by decide +kernel⟩, by decide, plainFor_of_name (x := yX7_priceOfHoly) pn_NoDayForIt⟩
theorem w_cX7_412 : Cond.constantLong RX7 412 100000 ∈ tg := tk4 (i := 198) (by decide +kernel) rfl
set_option maxRecDepth 20000 in
theorem w_mX7_priceOfJoin : MW yX7_priceOfJoin cX7_priceOfJoin 4 (some .int) 1 := ⟨tk4 (i := 197) rfl rfl, tk1 (i := 1) (by decide +kernel) rfl, ⟨by decide +kernel, by decide +kernel, by decide +kernel⟩, by decide, plainFor_of_name (x := yX7_priceOfJoin) pn_NoDayForIt⟩
set_option maxRecDepth 20000 in
theorem w_mJ9_floorDiv_7cf53 : MW yJ9_floorDiv_7cf53 cJ9_floorDiv_7cf53 3 (some .int) 2 := ⟨tk4 (i := 206) rfl rfl, tk1 (i := 11) (by decide +kernel) rfl, ⟨by decide +kernel, by decide +kernel, by decide +kernel⟩, by decide, by decide +kernel⟩
theorem w_cX7_414 : Cond.constantLong RX7 414 1000000 ∈ tg := tk4 (i := 203) (by decide +kernel) rfl
theorem w_lX7_416 : Cond.methodLink RX7 416 yJ9_floorDiv_7cf53 ∈ tg := tk4 (i := 204) (by decide +kernel) rfl
theorem w_sJ9_floorDiv_7cf53 : Cond.static yJ9_floorDiv_7cf53 ∈ tg := tk4 (i := 205) (by decide +kernel) rfl
set_option maxRecDepth 20000 in
theorem w_mX7_priceOfForce : MW yX7_priceOfForce cX7_priceOfForce 2 (some .int) 1 := ⟨tk4 (i := 202) rfl rfl, tk1 (i := 1) (by decide +kernel) rfl, ⟨by decide +kernel, by decide +kernel, by decide +kernel⟩, by decide, plainFor_of_name (x := yX7_priceOfForce) pn_NoDayForIt⟩
theorem w_lX7_354 : Cond.methodLink RX7 354 yX7_priceOfAct ∈ tg := tk4 (i := 170) (by decide +kernel) rfl
theorem w_iX7_priceOfAct : Cond.instanceMethod yX7_priceOfAct ∈ tg ∧ Cond.selects (yX7_priceOfAct).cls yX7_priceOfAct yX7_priceOfAct ∈ tg := ⟨tk4 (i := 172) (by decide +kernel) rfl, tk0 (i := 46) (by decide +kernel) rfl⟩
theorem w_lX7_357 : Cond.methodLink RX7 357 yX7_priceOfStep ∈ tg := tk4 (i := 174) (by decide +kernel) rfl
theorem w_iX7_priceOfStep : Cond.instanceMethod yX7_priceOfStep ∈ tg ∧ Cond.selects (yX7_priceOfStep).cls yX7_priceOfStep yX7_priceOfStep ∈ tg := ⟨tk4 (i := 176) (by decide +kernel) rfl, tk0 (i := 47) (by decide +kernel) rfl⟩
theorem w_lX7_360 : Cond.methodLink RX7 360 yX7_priceOfForbid ∈ tg := tk4 (i := 179) (by decide +kernel) rfl
theorem w_iX7_priceOfForbid : Cond.instanceMethod yX7_priceOfForbid ∈ tg ∧ Cond.selects (yX7_priceOfForbid).cls yX7_priceOfForbid yX7_priceOfForbid ∈ tg := ⟨tk4 (i := 181) (by decide +kernel) rfl, tk0 (i := 48) (by decide +kernel) rfl⟩
theorem w_lX7_363 : Cond.methodLink RX7 363 yX7_priceOfWatch ∈ tg := tk4 (i := 184) (by decide +kernel) rfl
theorem w_iX7_priceOfWatch : Cond.instanceMethod yX7_priceOfWatch ∈ tg ∧ Cond.selects (yX7_priceOfWatch).cls yX7_priceOfWatch yX7_priceOfWatch ∈ tg := ⟨tk4 (i := 186) (by decide +kernel) rfl, tk0 (i := 49) (by decide +kernel) rfl⟩
theorem w_lX7_366 : Cond.methodLink RX7 366 yX7_priceOfHoly ∈ tg := tk4 (i := 189) (by decide +kernel) rfl
theorem w_iX7_priceOfHoly : Cond.instanceMethod yX7_priceOfHoly ∈ tg ∧ Cond.selects (yX7_priceOfHoly).cls yX7_priceOfHoly yX7_priceOfHoly ∈ tg := ⟨tk4 (i := 191) (by decide +kernel) rfl, tk0 (i := 50) (by decide +kernel) rfl⟩
theorem w_lX7_369 : Cond.methodLink RX7 369 yX7_priceOfJoin ∈ tg := tk4 (i := 194) (by decide +kernel) rfl
theorem w_iX7_priceOfJoin : Cond.instanceMethod yX7_priceOfJoin ∈ tg ∧ Cond.selects (yX7_priceOfJoin).cls yX7_priceOfJoin yX7_priceOfJoin ∈ tg := ⟨tk4 (i := 196) (by decide +kernel) rfl, tk0 (i := 51) (by decide +kernel) rfl⟩
theorem w_lX7_372 : Cond.methodLink RX7 372 yX7_priceOfForce ∈ tg := tk4 (i := 199) (by decide +kernel) rfl
theorem w_iX7_priceOfForce : Cond.instanceMethod yX7_priceOfForce ∈ tg ∧ Cond.selects (yX7_priceOfForce).cls yX7_priceOfForce yX7_priceOfForce ∈ tg := ⟨tk4 (i := 201) (by decide +kernel) rfl, tk0 (i := 52) (by decide +kernel) rfl⟩
set_option maxRecDepth 20000 in
theorem w_mX7_price : MW yX7_price cX7_price 4 (some .int) 2 := ⟨tk4 (i := 169) rfl rfl, tk1 (i := 1) (by decide +kernel) rfl, ⟨by decide +kernel, by decide +kernel, by decide +kernel⟩, by decide, plainFor_of_name (x := yX7_price) pn_NoDayForIt⟩
set_option maxRecDepth 20000 in
theorem w_mX7_isImage : MW yX7_isImage cX7_isImage 2 (some .boolean) 1 := ⟨tk4 (i := 214) rfl rfl, tk1 (i := 1) (by decide +kernel) rfl, ⟨by decide +kernel, by decide +kernel, by decide +kernel⟩, by decide, plainFor_of_name (x := yX7_isImage) pn_NoDayForIt⟩
theorem w_lX7_375 : Cond.methodLink RX7 375 yX7_isImage ∈ tg := tk4 (i := 211) (by decide +kernel) rfl
theorem w_iX7_isImage : Cond.instanceMethod yX7_isImage ∈ tg ∧ Cond.selects (yX7_isImage).cls yX7_isImage yX7_isImage ∈ tg := ⟨tk4 (i := 213) (by decide +kernel) rfl, tk0 (i := 53) (by decide +kernel) rfl⟩
theorem w_lX7_378 : Cond.methodLink RX7 378 yX0_copy ∈ tg := tk4 (i := 215) (by decide +kernel) rfl
theorem w_iX0_copy : Cond.instanceMethod yX0_copy ∈ tg ∧ Cond.selects (yX0_copy).cls yX0_copy yX0_copy ∈ tg := ⟨tk4 (i := 216) (by decide +kernel) rfl, tk4 (i := 217) (by decide +kernel) rfl⟩
theorem w_fX7_381 : Fld RX7 381 5 0 := ⟨by decide, by decide, tk1 (i := 138) (by decide +kernel) rfl⟩
theorem w_fX7_384 : Fld RX7 384 0 11 := ⟨by decide, by decide, tk1 (i := 181) (by decide +kernel) rfl⟩
set_option maxRecDepth 20000 in
theorem w_mX7_keep : MW yX7_keep cX7_keep 3 (some .int) 1 := ⟨tk4 (i := 210) rfl rfl, tk1 (i := 1) (by decide +kernel) rfl, ⟨by decide +kernel, by decide +kernel, by decide +kernel⟩, by decide, plainFor_of_name (x := yX7_keep) pn_NoDayForIt⟩
set_option maxRecDepth 20000 in
theorem w_mX7_back : MW yX7_back cX7_back 4 (some .int) 1 := ⟨tk4 (i := 223) rfl rfl, tk1 (i := 1) (by decide +kernel) rfl, ⟨by decide +kernel, by decide +kernel, by decide +kernel⟩, by decide, plainFor_of_name (x := yX7_back) pn_NoDayForIt⟩
set_option maxRecDepth 20000 in
theorem w_mX7_leftOf : MW yX7_leftOf cX7_leftOf 4 (some .int) 1 := ⟨tk4 (i := 231) rfl rfl, tk1 (i := 1) (by decide +kernel) rfl, ⟨by decide +kernel, by decide +kernel, by decide +kernel⟩, by decide, plainFor_of_name (x := yX7_leftOf) pn_NoDayForIt⟩
theorem w_cJ13_314 : Cond.constantLong RJ13 314 6148914691236517205 ∈ tg := tk4 (i := 235) (by decide +kernel) rfl
theorem w_cJ13_316 : Cond.constantLong RJ13 316 3689348814741910323 ∈ tg := tk4 (i := 236) (by decide +kernel) rfl
theorem w_cJ13_318 : Cond.constantLong RJ13 318 1085102592571150095 ∈ tg := tk4 (i := 237) (by decide +kernel) rfl
theorem pn_java_lang_Long : plainName "java/lang/Long" = true := by decide +kernel
set_option maxRecDepth 20000 in
theorem w_mJ13_bitCount_95d88 : MW yJ13_bitCount_95d88 cJ13_bitCount_95d88 2 (some .int) 1 := ⟨tk4 (i := 234) rfl rfl, tk1 (i := 18) (by decide +kernel) rfl, ⟨by decide +kernel, by decide +kernel, by decide +kernel⟩, by decide, plainFor_of_name (x := yJ13_bitCount_95d88) pn_java_lang_Long⟩
theorem w_fX7_386 : Fld RX7 386 4 0 := ⟨by decide, by decide, tk2 (i := 24) (by decide +kernel) rfl⟩
theorem w_lX7_389 : Cond.methodLink RX7 389 yX7_leftOf ∈ tg := tk4 (i := 228) (by decide +kernel) rfl
theorem w_iX7_leftOf : Cond.instanceMethod yX7_leftOf ∈ tg ∧ Cond.selects (yX7_leftOf).cls yX7_leftOf yX7_leftOf ∈ tg := ⟨tk4 (i := 230) (by decide +kernel) rfl, tk0 (i := 54) (by decide +kernel) rfl⟩
theorem w_fX7_392 : Fld RX7 392 0 5 := ⟨by decide, by decide, tk1 (i := 170) (by decide +kernel) rfl⟩
theorem w_lX7_396 : Cond.methodLink RX7 396 yJ13_bitCount_95d88 ∈ tg := tk4 (i := 232) (by decide +kernel) rfl
theorem w_sJ13_bitCount_95d88 : Cond.static yJ13_bitCount_95d88 ∈ tg := tk4 (i := 233) (by decide +kernel) rfl
set_option maxRecDepth 20000 in
theorem w_mX7_count : MW yX7_count cX7_count 2 (some .int) 1 := ⟨tk4 (i := 227) rfl rfl, tk1 (i := 1) (by decide +kernel) rfl, ⟨by decide +kernel, by decide +kernel, by decide +kernel⟩, by decide, plainFor_of_name (x := yX7_count) pn_NoDayForIt⟩
set_option maxRecDepth 20000 in
theorem w_mX7_trace : MW yX7_trace cX7_trace 1 (some .long) 0 := ⟨tk5 (i := 1) rfl rfl, tk1 (i := 1) (by decide +kernel) rfl, ⟨by decide +kernel, by decide +kernel, by decide +kernel⟩, by decide, plainFor_of_name (x := yX7_trace) pn_NoDayForIt⟩
theorem w_fX8_38 : Fld RX8 38 8 16 := ⟨by decide, by decide, tk5 (i := 28) (by decide +kernel) rfl⟩
theorem w_fX8_158 : Fld RX8 158 8 20 := ⟨by decide, by decide, tk5 (i := 32) (by decide +kernel) rfl⟩
theorem w_fX8_55 : Fld RX8 55 8 22 := ⟨by decide, by decide, tk5 (i := 34) (by decide +kernel) rfl⟩
theorem w_fX8_41 : Fld RX8 41 8 17 := ⟨by decide, by decide, tk5 (i := 29) (by decide +kernel) rfl⟩
theorem pn_NoDayForItModel : plainName "NoDayForItModel" = true := by decide +kernel
set_option maxRecDepth 20000 in
theorem w_mX8_begin : MW yX8_begin cX8_begin 2 none 0 := ⟨tk5 (i := 11) rfl rfl, tk1 (i := 10) (by decide +kernel) rfl, ⟨by decide +kernel, by decide +kernel, by decide +kernel⟩, by decide, plainFor_of_name (x := yX8_begin) pn_NoDayForItModel⟩
theorem w_lX8_1 : Cond.methodLink RX8 1 Lib.objectInit ∈ tg := tk5 (i := 7) (by decide +kernel) rfl
theorem w_fX8_7 : Fld RX8 7 8 1 := ⟨by decide, by decide, tk5 (i := 13) (by decide +kernel) rfl⟩
theorem w_fX8_13 : Fld RX8 13 8 2 := ⟨by decide, by decide, tk5 (i := 14) (by decide +kernel) rfl⟩
theorem w_fX8_16 : Fld RX8 16 8 3 := ⟨by decide, by decide, tk5 (i := 15) (by decide +kernel) rfl⟩
theorem w_fX8_19 : Fld RX8 19 8 4 := ⟨by decide, by decide, tk5 (i := 16) (by decide +kernel) rfl⟩
theorem w_fX8_22 : Fld RX8 22 8 5 := ⟨by decide, by decide, tk5 (i := 17) (by decide +kernel) rfl⟩
theorem w_fX8_25 : Fld RX8 25 8 6 := ⟨by decide, by decide, tk5 (i := 18) (by decide +kernel) rfl⟩
theorem w_fX8_28 : Fld RX8 28 8 7 := ⟨by decide, by decide, tk5 (i := 19) (by decide +kernel) rfl⟩
theorem w_fX8_31 : Fld RX8 31 8 8 := ⟨by decide, by decide, tk5 (i := 20) (by decide +kernel) rfl⟩
theorem w_fX8_34 : Fld RX8 34 8 9 := ⟨by decide, by decide, tk5 (i := 21) (by decide +kernel) rfl⟩
theorem w_a3 : Cond.arrayClass (aty 3) ∈ tg := tk5 (i := 145) (by decide +kernel) rfl
theorem w_a2 : Cond.arrayClass (aty 2) ∈ tg := tk5 (i := 146) (by decide +kernel) rfl
theorem w_fX8_45 : Fld RX8 45 8 18 := ⟨by decide, by decide, tk5 (i := 30) (by decide +kernel) rfl⟩
theorem w_fX8_49 : Fld RX8 49 8 19 := ⟨by decide, by decide, tk5 (i := 31) (by decide +kernel) rfl⟩
theorem w_fX8_52 : Fld RX8 52 8 21 := ⟨by decide, by decide, tk5 (i := 33) (by decide +kernel) rfl⟩
theorem w_fX8_58 : Fld RX8 58 8 25 := ⟨by decide, by decide, tk5 (i := 37) (by decide +kernel) rfl⟩
theorem w_fX8_61 : Fld RX8 61 8 26 := ⟨by decide, by decide, tk5 (i := 38) (by decide +kernel) rfl⟩
theorem w_fX8_64 : Fld RX8 64 8 27 := ⟨by decide, by decide, tk5 (i := 39) (by decide +kernel) rfl⟩
theorem w_fX8_67 : Fld RX8 67 8 28 := ⟨by decide, by decide, tk5 (i := 40) (by decide +kernel) rfl⟩
theorem w_fX8_70 : Fld RX8 70 8 29 := ⟨by decide, by decide, tk5 (i := 41) (by decide +kernel) rfl⟩
theorem w_fX8_73 : Fld RX8 73 8 30 := ⟨by decide, by decide, tk5 (i := 42) (by decide +kernel) rfl⟩
theorem w_fX8_76 : Fld RX8 76 8 31 := ⟨by decide, by decide, tk5 (i := 43) (by decide +kernel) rfl⟩
theorem w_fX8_79 : Fld RX8 79 8 32 := ⟨by decide, by decide, tk5 (i := 44) (by decide +kernel) rfl⟩
theorem w_fX8_82 : Fld RX8 82 8 33 := ⟨by decide, by decide, tk5 (i := 45) (by decide +kernel) rfl⟩
theorem w_fX8_85 : Fld RX8 85 8 37 := ⟨by decide, by decide, tk5 (i := 49) (by decide +kernel) rfl⟩
theorem w_fX8_88 : Fld RX8 88 8 38 := ⟨by decide, by decide, tk5 (i := 50) (by decide +kernel) rfl⟩
theorem w_fX8_91 : Fld RX8 91 8 40 := ⟨by decide, by decide, tk5 (i := 52) (by decide +kernel) rfl⟩
theorem w_fX8_94 : Fld RX8 94 8 41 := ⟨by decide, by decide, tk5 (i := 53) (by decide +kernel) rfl⟩
theorem w_fX8_97 : Fld RX8 97 8 42 := ⟨by decide, by decide, tk5 (i := 54) (by decide +kernel) rfl⟩
theorem w_fX8_100 : Fld RX8 100 8 43 := ⟨by decide, by decide, tk5 (i := 55) (by decide +kernel) rfl⟩
theorem w_lX8_103 : Cond.methodLink RX8 103 yX8_begin ∈ tg := tk5 (i := 8) (by decide +kernel) rfl
theorem w_iX8_begin : Cond.instanceMethod yX8_begin ∈ tg ∧ Cond.selects (yX8_begin).cls yX8_begin yX8_begin ∈ tg := ⟨tk5 (i := 10) (by decide +kernel) rfl, tk0 (i := 55) (by decide +kernel) rfl⟩
set_option maxRecDepth 20000 in
theorem w_mX8_init : MW yX8_init cX8_init 1 none 0 := ⟨tk5 (i := 6) rfl rfl, tk1 (i := 10) (by decide +kernel) rfl, ⟨by decide +kernel, by decide +kernel, by decide +kernel⟩, by decide, plainFor_of_name (x := yX8_init) pn_NoDayForItModel⟩
set_option maxRecDepth 20000 in
theorem w_mX8_in : MW yX8_in cX8_in 3 (some .boolean) 3 := ⟨tk5 (i := 153) rfl rfl, tk1 (i := 10) (by decide +kernel) rfl, ⟨by decide +kernel, by decide +kernel, by decide +kernel⟩, by decide, plainFor_of_name (x := yX8_in) pn_NoDayForItModel⟩
theorem w_fX8_110 : Fld RX8 110 8 10 := ⟨by decide, by decide, tk5 (i := 22) (by decide +kernel) rfl⟩
theorem w_cX8_114 : Cond.constantLong RX8 114 255 ∈ tg := tk5 (i := 154) (by decide +kernel) rfl
theorem w_lX8_106 : Cond.methodLink RX8 106 yX8_in ∈ tg := tk5 (i := 151) (by decide +kernel) rfl
theorem w_sX8_in : Cond.static yX8_in ∈ tg := tk5 (i := 152) (by decide +kernel) rfl
set_option maxRecDepth 20000 in
theorem w_mX8_type : MW yX8_type cX8_type 5 (some .int) 2 := ⟨tk5 (i := 150) rfl rfl, tk1 (i := 10) (by decide +kernel) rfl, ⟨by decide +kernel, by decide +kernel, by decide +kernel⟩, by decide, plainFor_of_name (x := yX8_type) pn_NoDayForItModel⟩
set_option maxRecDepth 20000 in
theorem w_mX8_clear : MW yX8_clear cX8_clear 2 (some .int) 0 := ⟨tk5 (i := 158) rfl rfl, tk1 (i := 10) (by decide +kernel) rfl, ⟨by decide +kernel, by decide +kernel, by decide +kernel⟩, by decide, plainFor_of_name (x := yX8_clear) pn_NoDayForItModel⟩
theorem w_fX8_116 : Fld RX8 116 8 11 := ⟨by decide, by decide, tk5 (i := 23) (by decide +kernel) rfl⟩
set_option maxRecDepth 20000 in
theorem w_mX8_here : MW yX8_here cX8_here 1 (some .int) 0 := ⟨tk5 (i := 170) rfl rfl, tk1 (i := 10) (by decide +kernel) rfl, ⟨by decide +kernel, by decide +kernel, by decide +kernel⟩, by decide, plainFor_of_name (x := yX8_here) pn_NoDayForItModel⟩
theorem w_fX8_119 : Fld RX8 119 8 14 := ⟨by decide, by decide, tk5 (i := 26) (by decide +kernel) rfl⟩
theorem w_fX8_122 : Fld RX8 122 8 13 := ⟨by decide, by decide, tk5 (i := 25) (by decide +kernel) rfl⟩
set_option maxRecDepth 20000 in
theorem w_mX8_mean : MW yX8_mean cX8_mean 2 none 1 := ⟨tk5 (i := 174) rfl rfl, tk1 (i := 10) (by decide +kernel) rfl, ⟨by decide +kernel, by decide +kernel, by decide +kernel⟩, by decide, plainFor_of_name (x := yX8_mean) pn_NoDayForItModel⟩
theorem w_lX8_125 : Cond.methodLink RX8 125 yX8_here ∈ tg := tk5 (i := 167) (by decide +kernel) rfl
theorem w_iX8_here : Cond.instanceMethod yX8_here ∈ tg ∧ Cond.selects (yX8_here).cls yX8_here yX8_here ∈ tg := ⟨tk5 (i := 169) (by decide +kernel) rfl, tk0 (i := 57) (by decide +kernel) rfl⟩
theorem w_fX8_128 : Fld RX8 128 8 12 := ⟨by decide, by decide, tk5 (i := 24) (by decide +kernel) rfl⟩
theorem w_lX8_131 : Cond.methodLink RX8 131 yX8_mean ∈ tg := tk5 (i := 171) (by decide +kernel) rfl
theorem w_iX8_mean : Cond.instanceMethod yX8_mean ∈ tg ∧ Cond.selects (yX8_mean).cls yX8_mean yX8_mean ∈ tg := ⟨tk5 (i := 173) (by decide +kernel) rfl, tk0 (i := 58) (by decide +kernel) rfl⟩
set_option maxRecDepth 20000 in
theorem w_mX8_next : MW yX8_next cX8_next 3 none 0 := ⟨tk5 (i := 166) rfl rfl, tk1 (i := 10) (by decide +kernel) rfl, ⟨by decide +kernel, by decide +kernel, by decide +kernel⟩, by decide, plainFor_of_name (x := yX8_next) pn_NoDayForItModel⟩
theorem w_fX8_135 : Fld RX8 135 8 15 := ⟨by decide, by decide, tk5 (i := 27) (by decide +kernel) rfl⟩
theorem w_lX8_138 : Cond.methodLink RX8 138 yX8_next ∈ tg := tk5 (i := 163) (by decide +kernel) rfl
theorem w_iX8_next : Cond.instanceMethod yX8_next ∈ tg ∧ Cond.selects (yX8_next).cls yX8_next yX8_next ∈ tg := ⟨tk5 (i := 165) (by decide +kernel) rfl, tk0 (i := 56) (by decide +kernel) rfl⟩
set_option maxRecDepth 20000 in
theorem w_mX8_due : MW yX8_due cX8_due 3 (some .int) 1 := ⟨tk5 (i := 182) rfl rfl, tk1 (i := 10) (by decide +kernel) rfl, ⟨by decide +kernel, by decide +kernel, by decide +kernel⟩, by decide, plainFor_of_name (x := yX8_due) pn_NoDayForItModel⟩
theorem w_lX8_141 : Cond.methodLink RX8 141 yX8_due ∈ tg := tk5 (i := 179) (by decide +kernel) rfl
theorem w_iX8_due : Cond.instanceMethod yX8_due ∈ tg ∧ Cond.selects (yX8_due).cls yX8_due yX8_due ∈ tg := ⟨tk5 (i := 181) (by decide +kernel) rfl, tk0 (i := 60) (by decide +kernel) rfl⟩
set_option maxRecDepth 20000 in
theorem w_mX8_number : MW yX8_number cX8_number 3 (some .int) 2 := ⟨tk5 (i := 186) rfl rfl, tk1 (i := 10) (by decide +kernel) rfl, ⟨by decide +kernel, by decide +kernel, by decide +kernel⟩, by decide, plainFor_of_name (x := yX8_number) pn_NoDayForItModel⟩
theorem w_lX8_145 : Cond.methodLink RX8 145 yX8_number ∈ tg := tk5 (i := 183) (by decide +kernel) rfl
theorem w_iX8_number : Cond.instanceMethod yX8_number ∈ tg ∧ Cond.selects (yX8_number).cls yX8_number yX8_number ∈ tg := ⟨tk5 (i := 185) (by decide +kernel) rfl, tk0 (i := 61) (by decide +kernel) rfl⟩
set_option maxRecDepth 20000 in
theorem w_mX8_readEvery : MW yX8_readEvery cX8_readEvery 5 none 0 := ⟨tk5 (i := 190) rfl rfl, tk1 (i := 10) (by decide +kernel) rfl, ⟨by decide +kernel, by decide +kernel, by decide +kernel⟩, by decide, plainFor_of_name (x := yX8_readEvery) pn_NoDayForItModel⟩
set_option maxRecDepth 20000 in
theorem w_mX8_readDays : MW yX8_readDays cX8_readDays 5 none 0 := ⟨tk5 (i := 194) rfl rfl, tk1 (i := 10) (by decide +kernel) rfl, ⟨by decide +kernel, by decide +kernel, by decide +kernel⟩, by decide, plainFor_of_name (x := yX8_readDays) pn_NoDayForItModel⟩
set_option maxRecDepth 20000 in
theorem w_mX8_readStep : MW yX8_readStep cX8_readStep 9 none 1 := ⟨tk5 (i := 178) rfl rfl, tk1 (i := 10) (by decide +kernel) rfl, ⟨by decide +kernel, by decide +kernel, by decide +kernel⟩, by decide, plainFor_of_name (x := yX8_readStep) pn_NoDayForItModel⟩
theorem w_lX8_155 : Cond.methodLink RX8 155 yX8_readDays ∈ tg := tk5 (i := 191) (by decide +kernel) rfl
theorem w_iX8_readDays : Cond.instanceMethod yX8_readDays ∈ tg ∧ Cond.selects (yX8_readDays).cls yX8_readDays yX8_readDays ∈ tg := ⟨tk5 (i := 193) (by decide +kernel) rfl, tk0 (i := 63) (by decide +kernel) rfl⟩
theorem w_lX8_152 : Cond.methodLink RX8 152 yX8_readEvery ∈ tg := tk5 (i := 187) (by decide +kernel) rfl
theorem w_iX8_readEvery : Cond.instanceMethod yX8_readEvery ∈ tg ∧ Cond.selects (yX8_readEvery).cls yX8_readEvery yX8_readEvery ∈ tg := ⟨tk5 (i := 189) (by decide +kernel) rfl, tk0 (i := 62) (by decide +kernel) rfl⟩
theorem w_lX8_149 : Cond.methodLink RX8 149 yX8_readStep ∈ tg := tk5 (i := 175) (by decide +kernel) rfl
theorem w_iX8_readStep : Cond.instanceMethod yX8_readStep ∈ tg ∧ Cond.selects (yX8_readStep).cls yX8_readStep yX8_readStep ∈ tg := ⟨tk5 (i := 177) (by decide +kernel) rfl, tk0 (i := 59) (by decide +kernel) rfl⟩
set_option maxRecDepth 20000 in
theorem w_mX8_law : MW yX8_law cX8_law 4 (some .int) 0 := ⟨tk5 (i := 162) rfl rfl, tk1 (i := 10) (by decide +kernel) rfl, ⟨by decide +kernel, by decide +kernel, by decide +kernel⟩, by decide, plainFor_of_name (x := yX8_law) pn_NoDayForItModel⟩
set_option maxRecDepth 20000 in
theorem w_mX8_kindNow : MW yX8_kindNow cX8_kindNow 2 (some .int) 1 := ⟨tk5 (i := 206) rfl rfl, tk1 (i := 10) (by decide +kernel) rfl, ⟨by decide +kernel, by decide +kernel, by decide +kernel⟩, by decide, plainFor_of_name (x := yX8_kindNow) pn_NoDayForItModel⟩
set_option maxRecDepth 20000 in
theorem w_mX8_isDay : MW yX8_isDay cX8_isDay 2 (some .boolean) 1 := ⟨tk5 (i := 202) rfl rfl, tk1 (i := 10) (by decide +kernel) rfl, ⟨by decide +kernel, by decide +kernel, by decide +kernel⟩, by decide, plainFor_of_name (x := yX8_isDay) pn_NoDayForItModel⟩
set_option maxRecDepth 20000 in
theorem w_mX8_isBill : MW yX8_isBill cX8_isBill 1 (some .boolean) 1 := ⟨tk5 (i := 221) rfl rfl, tk1 (i := 10) (by decide +kernel) rfl, ⟨by decide +kernel, by decide +kernel, by decide +kernel⟩, by decide, plainFor_of_name (x := yX8_isBill) pn_NoDayForItModel⟩
theorem w_lX8_161 : Cond.methodLink RX8 161 yX8_isDay ∈ tg := tk5 (i := 199) (by decide +kernel) rfl
theorem w_iX8_isDay : Cond.instanceMethod yX8_isDay ∈ tg ∧ Cond.selects (yX8_isDay).cls yX8_isDay yX8_isDay ∈ tg := ⟨tk5 (i := 201) (by decide +kernel) rfl, tk0 (i := 64) (by decide +kernel) rfl⟩
theorem w_lX8_165 : Cond.methodLink RX8 165 yX8_kindNow ∈ tg := tk5 (i := 203) (by decide +kernel) rfl
theorem w_iX8_kindNow : Cond.instanceMethod yX8_kindNow ∈ tg ∧ Cond.selects (yX8_kindNow).cls yX8_kindNow yX8_kindNow ∈ tg := ⟨tk5 (i := 205) (by decide +kernel) rfl, tk0 (i := 65) (by decide +kernel) rfl⟩
set_option maxRecDepth 20000 in
theorem w_mX8_day : MW yX8_day cX8_day 2 (some .int) 1 := ⟨tk5 (i := 198) rfl rfl, tk1 (i := 10) (by decide +kernel) rfl, ⟨by decide +kernel, by decide +kernel, by decide +kernel⟩, by decide, plainFor_of_name (x := yX8_day) pn_NoDayForItModel⟩
set_option maxRecDepth 20000 in
theorem w_mX8_days : MW yX8_days cX8_days 6 (some .int) 3 := ⟨tk5 (i := 210) rfl rfl, tk1 (i := 10) (by decide +kernel) rfl, ⟨by decide +kernel, by decide +kernel, by decide +kernel⟩, by decide, plainFor_of_name (x := yX8_days) pn_NoDayForItModel⟩
theorem w_lX8_169 : Cond.methodLink RX8 169 yX8_isBill ∈ tg := tk5 (i := 219) (by decide +kernel) rfl
theorem w_sX8_isBill : Cond.static yX8_isBill ∈ tg := tk5 (i := 220) (by decide +kernel) rfl
set_option maxRecDepth 20000 in
theorem w_mX8_isStep : MW yX8_isStep cX8_isStep 3 (some .boolean) 2 := ⟨tk5 (i := 218) rfl rfl, tk1 (i := 10) (by decide +kernel) rfl, ⟨by decide +kernel, by decide +kernel, by decide +kernel⟩, by decide, plainFor_of_name (x := yX8_isStep) pn_NoDayForItModel⟩
theorem w_lX8_172 : Cond.methodLink RX8 172 yX8_isStep ∈ tg := tk5 (i := 215) (by decide +kernel) rfl
theorem w_iX8_isStep : Cond.instanceMethod yX8_isStep ∈ tg ∧ Cond.selects (yX8_isStep).cls yX8_isStep yX8_isStep ∈ tg := ⟨tk5 (i := 217) (by decide +kernel) rfl, tk0 (i := 66) (by decide +kernel) rfl⟩
set_option maxRecDepth 20000 in
theorem w_mX8_step : MW yX8_step cX8_step 5 (some .int) 3 := ⟨tk5 (i := 214) rfl rfl, tk1 (i := 10) (by decide +kernel) rfl, ⟨by decide +kernel, by decide +kernel, by decide +kernel⟩, by decide, plainFor_of_name (x := yX8_step) pn_NoDayForItModel⟩
theorem w_fX8_176 : Fld RX8 176 8 23 := ⟨by decide, by decide, tk5 (i := 35) (by decide +kernel) rfl⟩
theorem w_fX8_179 : Fld RX8 179 8 24 := ⟨by decide, by decide, tk5 (i := 36) (by decide +kernel) rfl⟩
set_option maxRecDepth 20000 in
theorem w_mX8_lay : MW yX8_lay cX8_lay 4 none 2 := ⟨tk5 (i := 229) rfl rfl, tk1 (i := 10) (by decide +kernel) rfl, ⟨by decide +kernel, by decide +kernel, by decide +kernel⟩, by decide, plainFor_of_name (x := yX8_lay) pn_NoDayForItModel⟩
set_option maxRecDepth 20000 in
theorem w_mX8_isKind : MW yX8_isKind cX8_isKind 3 (some .boolean) 2 := ⟨tk5 (i := 233) rfl rfl, tk1 (i := 10) (by decide +kernel) rfl, ⟨by decide +kernel, by decide +kernel, by decide +kernel⟩, by decide, plainFor_of_name (x := yX8_isKind) pn_NoDayForItModel⟩
set_option maxRecDepth 20000 in
theorem w_mX8_isFar : MW yX8_isFar cX8_isFar 5 (some .boolean) 3 := ⟨tk5 (i := 237) rfl rfl, tk1 (i := 10) (by decide +kernel) rfl, ⟨by decide +kernel, by decide +kernel, by decide +kernel⟩, by decide, plainFor_of_name (x := yX8_isFar) pn_NoDayForItModel⟩
set_option maxRecDepth 20000 in
theorem w_mX8_isFallen : MW yX8_isFallen cX8_isFallen 4 (some .boolean) 3 := ⟨tk6 (i := 85) rfl rfl, tk1 (i := 10) (by decide +kernel) rfl, ⟨by decide +kernel, by decide +kernel, by decide +kernel⟩, by decide, plainFor_of_name (x := yX8_isFallen) pn_NoDayForItModel⟩
theorem w_lX8_182 : Cond.methodLink RX8 182 yX8_isKind ∈ tg := tk5 (i := 230) (by decide +kernel) rfl
theorem w_iX8_isKind : Cond.instanceMethod yX8_isKind ∈ tg ∧ Cond.selects (yX8_isKind).cls yX8_isKind yX8_isKind ∈ tg := ⟨tk5 (i := 232) (by decide +kernel) rfl, tk0 (i := 68) (by decide +kernel) rfl⟩
theorem w_lX8_185 : Cond.methodLink RX8 185 yX8_isFar ∈ tg := tk5 (i := 234) (by decide +kernel) rfl
theorem w_iX8_isFar : Cond.instanceMethod yX8_isFar ∈ tg ∧ Cond.selects (yX8_isFar).cls yX8_isFar yX8_isFar ∈ tg := ⟨tk5 (i := 236) (by decide +kernel) rfl, tk0 (i := 69) (by decide +kernel) rfl⟩
set_option maxRecDepth 20000 in
theorem w_mX8_canOn : MW yX8_canOn cX8_canOn 4 (some .boolean) 3 := ⟨tk6 (i := 33) rfl rfl, tk1 (i := 10) (by decide +kernel) rfl, ⟨by decide +kernel, by decide +kernel, by decide +kernel⟩, by decide, plainFor_of_name (x := yX8_canOn) pn_NoDayForItModel⟩
theorem w_lX8_188 : Cond.methodLink RX8 188 yX8_lay ∈ tg := tk5 (i := 226) (by decide +kernel) rfl
theorem w_iX8_lay : Cond.instanceMethod yX8_lay ∈ tg ∧ Cond.selects (yX8_lay).cls yX8_lay yX8_lay ∈ tg := ⟨tk5 (i := 228) (by decide +kernel) rfl, tk0 (i := 67) (by decide +kernel) rfl⟩
set_option maxRecDepth 20000 in
theorem w_mX8_may : MW yX8_may cX8_may 5 (some .int) 4 := ⟨tk5 (i := 225) rfl rfl, tk1 (i := 10) (by decide +kernel) rfl, ⟨by decide +kernel, by decide +kernel, by decide +kernel⟩, by decide, plainFor_of_name (x := yX8_may) pn_NoDayForItModel⟩
set_option maxRecDepth 20000 in
theorem w_mX8_timesOf : MW yX8_timesOf cX8_timesOf 4 (some .int) 1 := ⟨tk6 (i := 5) rfl rfl, tk1 (i := 10) (by decide +kernel) rfl, ⟨by decide +kernel, by decide +kernel, by decide +kernel⟩, by decide, plainFor_of_name (x := yX8_timesOf) pn_NoDayForItModel⟩
set_option maxRecDepth 20000 in
theorem w_mX8_leftOf : MW yX8_leftOf cX8_leftOf 4 (some .int) 1 := ⟨tk6 (i := 196) rfl rfl, tk1 (i := 10) (by decide +kernel) rfl, ⟨by decide +kernel, by decide +kernel, by decide +kernel⟩, by decide, plainFor_of_name (x := yX8_leftOf) pn_NoDayForItModel⟩
theorem w_lX8_192 : Cond.methodLink RX8 192 yX8_timesOf ∈ tg := tk6 (i := 2) (by decide +kernel) rfl
theorem w_iX8_timesOf : Cond.instanceMethod yX8_timesOf ∈ tg ∧ Cond.selects (yX8_timesOf).cls yX8_timesOf yX8_timesOf ∈ tg := ⟨tk6 (i := 4) (by decide +kernel) rfl, tk0 (i := 70) (by decide +kernel) rfl⟩
set_option maxRecDepth 20000 in
theorem w_mX8_person : MW yX8_person cX8_person 3 (some .int) 2 := ⟨tk6 (i := 1) rfl rfl, tk1 (i := 10) (by decide +kernel) rfl, ⟨by decide +kernel, by decide +kernel, by decide +kernel⟩, by decide, plainFor_of_name (x := yX8_person) pn_NoDayForItModel⟩
set_option maxRecDepth 20000 in
theorem w_mX8_isPerson : MW yX8_isPerson cX8_isPerson 2 (some .boolean) 1 := ⟨tk6 (i := 13) rfl rfl, tk1 (i := 10) (by decide +kernel) rfl, ⟨by decide +kernel, by decide +kernel, by decide +kernel⟩, by decide, plainFor_of_name (x := yX8_isPerson) pn_NoDayForItModel⟩
theorem w_lX8_195 : Cond.methodLink RX8 195 yX8_isPerson ∈ tg := tk6 (i := 10) (by decide +kernel) rfl
theorem w_iX8_isPerson : Cond.instanceMethod yX8_isPerson ∈ tg ∧ Cond.selects (yX8_isPerson).cls yX8_isPerson yX8_isPerson ∈ tg := ⟨tk6 (i := 12) (by decide +kernel) rfl, tk0 (i := 71) (by decide +kernel) rfl⟩
set_option maxRecDepth 20000 in
theorem w_mX8_who : MW yX8_who cX8_who 3 (some .int) 2 := ⟨tk6 (i := 9) rfl rfl, tk1 (i := 10) (by decide +kernel) rfl, ⟨by decide +kernel, by decide +kernel, by decide +kernel⟩, by decide, plainFor_of_name (x := yX8_who) pn_NoDayForItModel⟩
set_option maxRecDepth 20000 in
theorem w_mX8_doneOf : MW yX8_doneOf cX8_doneOf 4 (some .int) 1 := ⟨tk6 (i := 29) rfl rfl, tk1 (i := 10) (by decide +kernel) rfl, ⟨by decide +kernel, by decide +kernel, by decide +kernel⟩, by decide, plainFor_of_name (x := yX8_doneOf) pn_NoDayForItModel⟩
set_option maxRecDepth 20000 in
theorem w_mX8_isCarried : MW yX8_isCarried cX8_isCarried 2 (some .boolean) 1 := ⟨tk6 (i := 65) rfl rfl, tk1 (i := 10) (by decide +kernel) rfl, ⟨by decide +kernel, by decide +kernel, by decide +kernel⟩, by decide, plainFor_of_name (x := yX8_isCarried) pn_NoDayForItModel⟩
set_option maxRecDepth 20000 in
theorem w_mX8_isVoid : MW yX8_isVoid cX8_isVoid 2 (some .boolean) 1 := ⟨tk6 (i := 37) rfl rfl, tk1 (i := 10) (by decide +kernel) rfl, ⟨by decide +kernel, by decide +kernel, by decide +kernel⟩, by decide, plainFor_of_name (x := yX8_isVoid) pn_NoDayForItModel⟩
theorem w_lX8_198 : Cond.methodLink RX8 198 yX8_doneOf ∈ tg := tk6 (i := 26) (by decide +kernel) rfl
theorem w_iX8_doneOf : Cond.instanceMethod yX8_doneOf ∈ tg ∧ Cond.selects (yX8_doneOf).cls yX8_doneOf yX8_doneOf ∈ tg := ⟨tk6 (i := 28) (by decide +kernel) rfl, tk0 (i := 74) (by decide +kernel) rfl⟩
theorem w_lX8_201 : Cond.methodLink RX8 201 yX8_canOn ∈ tg := tk6 (i := 30) (by decide +kernel) rfl
theorem w_iX8_canOn : Cond.instanceMethod yX8_canOn ∈ tg ∧ Cond.selects (yX8_canOn).cls yX8_canOn yX8_canOn ∈ tg := ⟨tk6 (i := 32) (by decide +kernel) rfl, tk0 (i := 75) (by decide +kernel) rfl⟩
theorem w_lX8_204 : Cond.methodLink RX8 204 yX8_isVoid ∈ tg := tk6 (i := 34) (by decide +kernel) rfl
theorem w_iX8_isVoid : Cond.instanceMethod yX8_isVoid ∈ tg ∧ Cond.selects (yX8_isVoid).cls yX8_isVoid yX8_isVoid ∈ tg := ⟨tk6 (i := 36) (by decide +kernel) rfl, tk0 (i := 76) (by decide +kernel) rfl⟩
set_option maxRecDepth 20000 in
theorem w_mX8_call : MW yX8_call cX8_call 4 (some .boolean) 1 := ⟨tk6 (i := 25) rfl rfl, tk1 (i := 10) (by decide +kernel) rfl, ⟨by decide +kernel, by decide +kernel, by decide +kernel⟩, by decide, plainFor_of_name (x := yX8_call) pn_NoDayForItModel⟩
set_option maxRecDepth 20000 in
theorem w_mX8_forbids : MW yX8_forbids cX8_forbids 4 (some .boolean) 1 := ⟨tk6 (i := 41) rfl rfl, tk1 (i := 10) (by decide +kernel) rfl, ⟨by decide +kernel, by decide +kernel, by decide +kernel⟩, by decide, plainFor_of_name (x := yX8_forbids) pn_NoDayForItModel⟩
set_option maxRecDepth 20000 in
theorem w_mX8_isSigner : MW yX8_isSigner cX8_isSigner 2 (some .boolean) 1 := ⟨tk6 (i := 45) rfl rfl, tk1 (i := 10) (by decide +kernel) rfl, ⟨by decide +kernel, by decide +kernel, by decide +kernel⟩, by decide, plainFor_of_name (x := yX8_isSigner) pn_NoDayForItModel⟩
theorem w_lX8_207 : Cond.methodLink RX8 207 yX8_call ∈ tg := tk6 (i := 22) (by decide +kernel) rfl
theorem w_iX8_call : Cond.instanceMethod yX8_call ∈ tg ∧ Cond.selects (yX8_call).cls yX8_call yX8_call ∈ tg := ⟨tk6 (i := 24) (by decide +kernel) rfl, tk0 (i := 73) (by decide +kernel) rfl⟩
theorem w_lX8_210 : Cond.methodLink RX8 210 yX8_forbids ∈ tg := tk6 (i := 38) (by decide +kernel) rfl
theorem w_iX8_forbids : Cond.instanceMethod yX8_forbids ∈ tg ∧ Cond.selects (yX8_forbids).cls yX8_forbids yX8_forbids ∈ tg := ⟨tk6 (i := 40) (by decide +kernel) rfl, tk0 (i := 77) (by decide +kernel) rfl⟩
theorem w_lX8_213 : Cond.methodLink RX8 213 yX8_isSigner ∈ tg := tk6 (i := 42) (by decide +kernel) rfl
theorem w_iX8_isSigner : Cond.instanceMethod yX8_isSigner ∈ tg ∧ Cond.selects (yX8_isSigner).cls yX8_isSigner yX8_isSigner ∈ tg := ⟨tk6 (i := 44) (by decide +kernel) rfl, tk0 (i := 78) (by decide +kernel) rfl⟩
set_option maxRecDepth 20000 in
theorem w_mX8_isLawful : MW yX8_isLawful cX8_isLawful 4 (some .boolean) 3 := ⟨tk6 (i := 21) rfl rfl, tk1 (i := 10) (by decide +kernel) rfl, ⟨by decide +kernel, by decide +kernel, by decide +kernel⟩, by decide, plainFor_of_name (x := yX8_isLawful) pn_NoDayForItModel⟩
theorem w_lX8_216 : Cond.methodLink RX8 216 yX8_isLawful ∈ tg := tk6 (i := 18) (by decide +kernel) rfl
theorem w_iX8_isLawful : Cond.instanceMethod yX8_isLawful ∈ tg ∧ Cond.selects (yX8_isLawful).cls yX8_isLawful yX8_isLawful ∈ tg := ⟨tk6 (i := 20) (by decide +kernel) rfl, tk0 (i := 72) (by decide +kernel) rfl⟩
set_option maxRecDepth 20000 in
theorem w_mX8_act : MW yX8_act cX8_act 5 (some .int) 3 := ⟨tk6 (i := 17) rfl rfl, tk1 (i := 10) (by decide +kernel) rfl, ⟨by decide +kernel, by decide +kernel, by decide +kernel⟩, by decide, plainFor_of_name (x := yX8_act) pn_NoDayForItModel⟩
set_option maxRecDepth 20000 in
theorem w_mX8_now : MW yX8_now cX8_now 2 (some .int) 1 := ⟨tk6 (i := 49) rfl rfl, tk1 (i := 10) (by decide +kernel) rfl, ⟨by decide +kernel, by decide +kernel, by decide +kernel⟩, by decide, plainFor_of_name (x := yX8_now) pn_NoDayForItModel⟩
set_option maxRecDepth 20000 in
theorem w_mX8_bill : MW yX8_bill cX8_bill 4 (some .int) 2 := ⟨tk6 (i := 53) rfl rfl, tk1 (i := 10) (by decide +kernel) rfl, ⟨by decide +kernel, by decide +kernel, by decide +kernel⟩, by decide, plainFor_of_name (x := yX8_bill) pn_NoDayForItModel⟩
theorem w_lX8_219 : Cond.methodLink RX8 219 yX8_isCarried ∈ tg := tk6 (i := 62) (by decide +kernel) rfl
theorem w_iX8_isCarried : Cond.instanceMethod yX8_isCarried ∈ tg ∧ Cond.selects (yX8_isCarried).cls yX8_isCarried yX8_isCarried ∈ tg := ⟨tk6 (i := 64) (by decide +kernel) rfl, tk0 (i := 80) (by decide +kernel) rfl⟩
set_option maxRecDepth 20000 in
theorem w_mX8_isOpen : MW yX8_isOpen cX8_isOpen 2 (some .boolean) 1 := ⟨tk6 (i := 61) rfl rfl, tk1 (i := 10) (by decide +kernel) rfl, ⟨by decide +kernel, by decide +kernel, by decide +kernel⟩, by decide, plainFor_of_name (x := yX8_isOpen) pn_NoDayForItModel⟩
set_option maxRecDepth 20000 in
theorem w_mX8_findEnds : MW yX8_findEnds cX8_findEnds 6 none 0 := ⟨tk6 (i := 73) rfl rfl, tk1 (i := 10) (by decide +kernel) rfl, ⟨by decide +kernel, by decide +kernel, by decide +kernel⟩, by decide, plainFor_of_name (x := yX8_findEnds) pn_NoDayForItModel⟩
set_option maxRecDepth 20000 in
theorem w_mX8_endFrom : MW yX8_endFrom cX8_endFrom 6 (some .int) 3 := ⟨tk6 (i := 77) rfl rfl, tk1 (i := 10) (by decide +kernel) rfl, ⟨by decide +kernel, by decide +kernel, by decide +kernel⟩, by decide, plainFor_of_name (x := yX8_endFrom) pn_NoDayForItModel⟩
theorem w_fX8_225 : Fld RX8 225 8 34 := ⟨by decide, by decide, tk5 (i := 46) (by decide +kernel) rfl⟩
theorem w_fX8_228 : Fld RX8 228 8 35 := ⟨by decide, by decide, tk5 (i := 47) (by decide +kernel) rfl⟩
theorem w_lX8_234 : Cond.methodLink RX8 234 yX8_endFrom ∈ tg := tk6 (i := 74) (by decide +kernel) rfl
theorem w_iX8_endFrom : Cond.instanceMethod yX8_endFrom ∈ tg ∧ Cond.selects (yX8_endFrom).cls yX8_endFrom yX8_endFrom ∈ tg := ⟨tk6 (i := 76) (by decide +kernel) rfl, tk0 (i := 83) (by decide +kernel) rfl⟩
theorem w_fX8_231 : Fld RX8 231 8 36 := ⟨by decide, by decide, tk5 (i := 48) (by decide +kernel) rfl⟩
theorem w_lX8_222 : Cond.methodLink RX8 222 yX8_findEnds ∈ tg := tk6 (i := 70) (by decide +kernel) rfl
theorem w_iX8_findEnds : Cond.instanceMethod yX8_findEnds ∈ tg ∧ Cond.selects (yX8_findEnds).cls yX8_findEnds yX8_findEnds ∈ tg := ⟨tk6 (i := 72) (by decide +kernel) rfl, tk0 (i := 82) (by decide +kernel) rfl⟩
set_option maxRecDepth 20000 in
theorem w_mX8_findSoon : MW yX8_findSoon cX8_findSoon 5 (some .int) 1 := ⟨tk6 (i := 69) rfl rfl, tk1 (i := 10) (by decide +kernel) rfl, ⟨by decide +kernel, by decide +kernel, by decide +kernel⟩, by decide, plainFor_of_name (x := yX8_findSoon) pn_NoDayForItModel⟩
theorem w_lX8_238 : Cond.methodLink RX8 238 yX8_isOpen ∈ tg := tk6 (i := 58) (by decide +kernel) rfl
theorem w_iX8_isOpen : Cond.instanceMethod yX8_isOpen ∈ tg ∧ Cond.selects (yX8_isOpen).cls yX8_isOpen yX8_isOpen ∈ tg := ⟨tk6 (i := 60) (by decide +kernel) rfl, tk0 (i := 79) (by decide +kernel) rfl⟩
theorem w_lX8_241 : Cond.methodLink RX8 241 yX8_findSoon ∈ tg := tk6 (i := 66) (by decide +kernel) rfl
theorem w_iX8_findSoon : Cond.instanceMethod yX8_findSoon ∈ tg ∧ Cond.selects (yX8_findSoon).cls yX8_findSoon yX8_findSoon ∈ tg := ⟨tk6 (i := 68) (by decide +kernel) rfl, tk0 (i := 81) (by decide +kernel) rfl⟩
set_option maxRecDepth 20000 in
theorem w_mX8_soon : MW yX8_soon cX8_soon 7 (some .int) 2 := ⟨tk6 (i := 57) rfl rfl, tk1 (i := 10) (by decide +kernel) rfl, ⟨by decide +kernel, by decide +kernel, by decide +kernel⟩, by decide, plainFor_of_name (x := yX8_soon) pn_NoDayForItModel⟩
set_option maxRecDepth 20000 in
theorem w_mX8_place : MW yX8_place cX8_place 4 (some .int) 4 := ⟨tk6 (i := 88) rfl rfl, tk1 (i := 10) (by decide +kernel) rfl, ⟨by decide +kernel, by decide +kernel, by decide +kernel⟩, by decide, plainFor_of_name (x := yX8_place) pn_NoDayForItModel⟩
set_option maxRecDepth 20000 in
theorem w_mX8_closeDay : MW yX8_closeDay cX8_closeDay 2 none 0 := ⟨tk6 (i := 96) rfl rfl, tk1 (i := 10) (by decide +kernel) rfl, ⟨by decide +kernel, by decide +kernel, by decide +kernel⟩, by decide, plainFor_of_name (x := yX8_closeDay) pn_NoDayForItModel⟩
theorem w_lX8_247 : Cond.methodLink RX8 247 yX8_place ∈ tg := tk6 (i := 86) (by decide +kernel) rfl
theorem w_sX8_place : Cond.static yX8_place ∈ tg := tk6 (i := 87) (by decide +kernel) rfl
theorem w_lX8_244 : Cond.methodLink RX8 244 yX8_isFallen ∈ tg := tk6 (i := 82) (by decide +kernel) rfl
theorem w_iX8_isFallen : Cond.instanceMethod yX8_isFallen ∈ tg ∧ Cond.selects (yX8_isFallen).cls yX8_isFallen yX8_isFallen ∈ tg := ⟨tk6 (i := 84) (by decide +kernel) rfl, tk0 (i := 84) (by decide +kernel) rfl⟩
set_option maxRecDepth 20000 in
theorem w_mX8_fallBack : MW yX8_fallBack cX8_fallBack 8 none 3 := ⟨tk6 (i := 92) rfl rfl, tk1 (i := 10) (by decide +kernel) rfl, ⟨by decide +kernel, by decide +kernel, by decide +kernel⟩, by decide, plainFor_of_name (x := yX8_fallBack) pn_NoDayForItModel⟩
set_option maxRecDepth 20000 in
theorem w_mX8_callAt : MW yX8_callAt cX8_callAt 7 (some .int) 5 := ⟨tk6 (i := 116) rfl rfl, tk1 (i := 10) (by decide +kernel) rfl, ⟨by decide +kernel, by decide +kernel, by decide +kernel⟩, by decide, plainFor_of_name (x := yX8_callAt) pn_NoDayForItModel⟩
theorem w_lX8_251 : Cond.methodLink RX8 251 yX8_callAt ∈ tg := tk6 (i := 113) (by decide +kernel) rfl
theorem w_iX8_callAt : Cond.instanceMethod yX8_callAt ∈ tg ∧ Cond.selects (yX8_callAt).cls yX8_callAt yX8_callAt ∈ tg := ⟨tk6 (i := 115) (by decide +kernel) rfl, tk0 (i := 90) (by decide +kernel) rfl⟩
theorem w_lX8_255 : Cond.methodLink RX8 255 yX8_fallBack ∈ tg := tk6 (i := 89) (by decide +kernel) rfl
theorem w_iX8_fallBack : Cond.instanceMethod yX8_fallBack ∈ tg ∧ Cond.selects (yX8_fallBack).cls yX8_fallBack yX8_fallBack ∈ tg := ⟨tk6 (i := 91) (by decide +kernel) rfl, tk0 (i := 85) (by decide +kernel) rfl⟩
theorem w_lX8_259 : Cond.methodLink RX8 259 yX8_closeDay ∈ tg := tk6 (i := 93) (by decide +kernel) rfl
theorem w_iX8_closeDay : Cond.instanceMethod yX8_closeDay ∈ tg ∧ Cond.selects (yX8_closeDay).cls yX8_closeDay yX8_closeDay ∈ tg := ⟨tk6 (i := 95) (by decide +kernel) rfl, tk0 (i := 86) (by decide +kernel) rfl⟩
set_option maxRecDepth 20000 in
theorem w_mX8_play : MW yX8_play cX8_play 14 none 4 := ⟨tk6 (i := 112) rfl rfl, tk1 (i := 10) (by decide +kernel) rfl, ⟨by decide +kernel, by decide +kernel, by decide +kernel⟩, by decide, plainFor_of_name (x := yX8_play) pn_NoDayForItModel⟩
theorem w_lX8_262 : Cond.methodLink RX8 262 yX8_play ∈ tg := tk6 (i := 109) (by decide +kernel) rfl
theorem w_iX8_play : Cond.instanceMethod yX8_play ∈ tg ∧ Cond.selects (yX8_play).cls yX8_play yX8_play ∈ tg := ⟨tk6 (i := 111) (by decide +kernel) rfl, tk0 (i := 89) (by decide +kernel) rfl⟩
set_option maxRecDepth 20000 in
theorem w_mX8_playNow : MW yX8_playNow cX8_playNow 4 none 3 := ⟨tk6 (i := 108) rfl rfl, tk1 (i := 10) (by decide +kernel) rfl, ⟨by decide +kernel, by decide +kernel, by decide +kernel⟩, by decide, plainFor_of_name (x := yX8_playNow) pn_NoDayForItModel⟩
set_option maxRecDepth 20000 in
theorem w_mX8_tells : MW yX8_tells cX8_tells 5 (some .int) 3 := ⟨tk6 (i := 100) rfl rfl, tk1 (i := 10) (by decide +kernel) rfl, ⟨by decide +kernel, by decide +kernel, by decide +kernel⟩, by decide, plainFor_of_name (x := yX8_tells) pn_NoDayForItModel⟩
theorem w_lX8_266 : Cond.methodLink RX8 266 yX8_tells ∈ tg := tk6 (i := 97) (by decide +kernel) rfl
theorem w_iX8_tells : Cond.instanceMethod yX8_tells ∈ tg ∧ Cond.selects (yX8_tells).cls yX8_tells yX8_tells ∈ tg := ⟨tk6 (i := 99) (by decide +kernel) rfl, tk0 (i := 87) (by decide +kernel) rfl⟩
set_option maxRecDepth 20000 in
theorem w_mX8_against : MW yX8_against cX8_against 8 (some .int) 1 := ⟨tk6 (i := 81) rfl rfl, tk1 (i := 10) (by decide +kernel) rfl, ⟨by decide +kernel, by decide +kernel, by decide +kernel⟩, by decide, plainFor_of_name (x := yX8_against) pn_NoDayForItModel⟩
theorem w_lX8_269 : Cond.methodLink RX8 269 yX8_playNow ∈ tg := tk6 (i := 105) (by decide +kernel) rfl
theorem w_iX8_playNow : Cond.instanceMethod yX8_playNow ∈ tg ∧ Cond.selects (yX8_playNow).cls yX8_playNow yX8_playNow ∈ tg := ⟨tk6 (i := 107) (by decide +kernel) rfl, tk0 (i := 88) (by decide +kernel) rfl⟩
set_option maxRecDepth 20000 in
theorem w_mX8_sure : MW yX8_sure cX8_sure 5 (some .int) 3 := ⟨tk6 (i := 104) rfl rfl, tk1 (i := 10) (by decide +kernel) rfl, ⟨by decide +kernel, by decide +kernel, by decide +kernel⟩, by decide, plainFor_of_name (x := yX8_sure) pn_NoDayForItModel⟩
set_option maxRecDepth 20000 in
theorem w_mX8_delay : MW yX8_delay cX8_delay 6 (some .int) 2 := ⟨tk6 (i := 120) rfl rfl, tk1 (i := 10) (by decide +kernel) rfl, ⟨by decide +kernel, by decide +kernel, by decide +kernel⟩, by decide, plainFor_of_name (x := yX8_delay) pn_NoDayForItModel⟩
set_option maxRecDepth 20000 in
theorem w_mX8_bitsIn : MW yX8_bitsIn cX8_bitsIn 3 (some .int) 1 := ⟨tk6 (i := 127) rfl rfl, tk1 (i := 10) (by decide +kernel) rfl, ⟨by decide +kernel, by decide +kernel, by decide +kernel⟩, by decide, plainFor_of_name (x := yX8_bitsIn) pn_NoDayForItModel⟩
theorem w_lX8_272 : Cond.methodLink RX8 272 yX8_bitsIn ∈ tg := tk6 (i := 125) (by decide +kernel) rfl
theorem w_sX8_bitsIn : Cond.static yX8_bitsIn ∈ tg := tk6 (i := 126) (by decide +kernel) rfl
set_option maxRecDepth 20000 in
theorem w_mX8_stop : MW yX8_stop cX8_stop 8 (some .int) 2 := ⟨tk6 (i := 124) rfl rfl, tk1 (i := 10) (by decide +kernel) rfl, ⟨by decide +kernel, by decide +kernel, by decide +kernel⟩, by decide, plainFor_of_name (x := yX8_stop) pn_NoDayForItModel⟩
theorem w_fX8_275 : Fld RX8 275 8 39 := ⟨by decide, by decide, tk5 (i := 51) (by decide +kernel) rfl⟩
set_option maxRecDepth 20000 in
theorem w_mX8_group : MW yX8_group cX8_group 2 (some .int) 0 := ⟨tk6 (i := 131) rfl rfl, tk1 (i := 10) (by decide +kernel) rfl, ⟨by decide +kernel, by decide +kernel, by decide +kernel⟩, by decide, plainFor_of_name (x := yX8_group) pn_NoDayForItModel⟩
set_option maxRecDepth 20000 in
theorem w_mX8_wish : MW yX8_wish cX8_wish 5 (some .int) 3 := ⟨tk6 (i := 135) rfl rfl, tk1 (i := 10) (by decide +kernel) rfl, ⟨by decide +kernel, by decide +kernel, by decide +kernel⟩, by decide, plainFor_of_name (x := yX8_wish) pn_NoDayForItModel⟩
set_option maxRecDepth 20000 in
theorem w_mX8_doesPass : MW yX8_doesPass cX8_doesPass 6 (some .boolean) 1 := ⟨tk6 (i := 143) rfl rfl, tk1 (i := 10) (by decide +kernel) rfl, ⟨by decide +kernel, by decide +kernel, by decide +kernel⟩, by decide, plainFor_of_name (x := yX8_doesPass) pn_NoDayForItModel⟩
theorem w_lX8_278 : Cond.methodLink RX8 278 yX8_doesPass ∈ tg := tk6 (i := 140) (by decide +kernel) rfl
theorem w_iX8_doesPass : Cond.instanceMethod yX8_doesPass ∈ tg ∧ Cond.selects (yX8_doesPass).cls yX8_doesPass yX8_doesPass ∈ tg := ⟨tk6 (i := 142) (by decide +kernel) rfl, tk0 (i := 91) (by decide +kernel) rfl⟩
set_option maxRecDepth 20000 in
theorem w_mX8_passes : MW yX8_passes cX8_passes 2 (some .int) 1 := ⟨tk6 (i := 139) rfl rfl, tk1 (i := 10) (by decide +kernel) rfl, ⟨by decide +kernel, by decide +kernel, by decide +kernel⟩, by decide, plainFor_of_name (x := yX8_passes) pn_NoDayForItModel⟩
set_option maxRecDepth 20000 in
theorem w_mX8_ride : MW yX8_ride cX8_ride 6 (some .int) 2 := ⟨tk6 (i := 147) rfl rfl, tk1 (i := 10) (by decide +kernel) rfl, ⟨by decide +kernel, by decide +kernel, by decide +kernel⟩, by decide, plainFor_of_name (x := yX8_ride) pn_NoDayForItModel⟩
set_option maxRecDepth 20000 in
theorem w_mX8_tears : MW yX8_tears cX8_tears 4 (some .int) 1 := ⟨tk6 (i := 151) rfl rfl, tk1 (i := 10) (by decide +kernel) rfl, ⟨by decide +kernel, by decide +kernel, by decide +kernel⟩, by decide, plainFor_of_name (x := yX8_tears) pn_NoDayForItModel⟩
set_option maxRecDepth 20000 in
theorem w_mX8_word : MW yX8_word cX8_word 7 (some .int) 4 := ⟨tk6 (i := 155) rfl rfl, tk1 (i := 10) (by decide +kernel) rfl, ⟨by decide +kernel, by decide +kernel, by decide +kernel⟩, by decide, plainFor_of_name (x := yX8_word) pn_NoDayForItModel⟩
set_option maxRecDepth 20000 in
theorem w_mX8_less : MW yX8_less cX8_less 2 (some .int) 2 := ⟨tk6 (i := 166) rfl rfl, tk1 (i := 10) (by decide +kernel) rfl, ⟨by decide +kernel, by decide +kernel, by decide +kernel⟩, by decide, plainFor_of_name (x := yX8_less) pn_NoDayForItModel⟩
theorem w_lX8_281 : Cond.methodLink RX8 281 yX8_less ∈ tg := tk6 (i := 164) (by decide +kernel) rfl
theorem w_sX8_less : Cond.static yX8_less ∈ tg := tk6 (i := 165) (by decide +kernel) rfl
set_option maxRecDepth 20000 in
theorem w_mX8_sureWith : MW yX8_sureWith cX8_sureWith 8 (some .int) 2 := ⟨tk6 (i := 163) rfl rfl, tk1 (i := 10) (by decide +kernel) rfl, ⟨by decide +kernel, by decide +kernel, by decide +kernel⟩, by decide, plainFor_of_name (x := yX8_sureWith) pn_NoDayForItModel⟩
theorem w_lX8_284 : Cond.methodLink RX8 284 yX8_sureWith ∈ tg := tk6 (i := 160) (by decide +kernel) rfl
theorem w_iX8_sureWith : Cond.instanceMethod yX8_sureWith ∈ tg ∧ Cond.selects (yX8_sureWith).cls yX8_sureWith yX8_sureWith ∈ tg := ⟨tk6 (i := 162) (by decide +kernel) rfl, tk0 (i := 92) (by decide +kernel) rfl⟩
set_option maxRecDepth 20000 in
theorem w_mX8_mended : MW yX8_mended cX8_mended 6 (some .int) 1 := ⟨tk6 (i := 159) rfl rfl, tk1 (i := 10) (by decide +kernel) rfl, ⟨by decide +kernel, by decide +kernel, by decide +kernel⟩, by decide, plainFor_of_name (x := yX8_mended) pn_NoDayForItModel⟩
theorem w_fX8_287 : Fld RX8 287 8 0 := ⟨by decide, by decide, tk5 (i := 12) (by decide +kernel) rfl⟩
theorem w_cX8_291 : Cond.constantLong RX8 291 11 ∈ tg := tk6 (i := 171) (by decide +kernel) rfl
theorem w_cX8_293 : Cond.constantLong RX8 293 101 ∈ tg := tk6 (i := 172) (by decide +kernel) rfl
theorem w_cX8_295 : Cond.constantLong RX8 295 1101 ∈ tg := tk6 (i := 173) (by decide +kernel) rfl
theorem w_cX8_297 : Cond.constantLong RX8 297 10001 ∈ tg := tk6 (i := 174) (by decide +kernel) rfl
theorem w_cX8_299 : Cond.constantLong RX8 299 100011 ∈ tg := tk6 (i := 175) (by decide +kernel) rfl
theorem w_cX8_301 : Cond.constantLong RX8 301 1000001 ∈ tg := tk6 (i := 176) (by decide +kernel) rfl
set_option maxRecDepth 20000 in
theorem w_mX8_price : MW yX8_price cX8_price 8 (some .int) 2 := ⟨tk6 (i := 170) rfl rfl, tk1 (i := 10) (by decide +kernel) rfl, ⟨by decide +kernel, by decide +kernel, by decide +kernel⟩, by decide, plainFor_of_name (x := yX8_price) pn_NoDayForItModel⟩
set_option maxRecDepth 20000 in
theorem w_mX8_copy : MW yX8_copy cX8_copy 4 none 2 := ⟨tk6 (i := 184) rfl rfl, tk1 (i := 10) (by decide +kernel) rfl, ⟨by decide +kernel, by decide +kernel, by decide +kernel⟩, by decide, plainFor_of_name (x := yX8_copy) pn_NoDayForItModel⟩
theorem w_lX8_303 : Cond.methodLink RX8 303 yX8_copy ∈ tg := tk6 (i := 181) (by decide +kernel) rfl
theorem w_iX8_copy : Cond.instanceMethod yX8_copy ∈ tg ∧ Cond.selects (yX8_copy).cls yX8_copy yX8_copy ∈ tg := ⟨tk6 (i := 183) (by decide +kernel) rfl, tk0 (i := 93) (by decide +kernel) rfl⟩
set_option maxRecDepth 20000 in
theorem w_mX8_keep : MW yX8_keep cX8_keep 2 (some .int) 1 := ⟨tk6 (i := 180) rfl rfl, tk1 (i := 10) (by decide +kernel) rfl, ⟨by decide +kernel, by decide +kernel, by decide +kernel⟩, by decide, plainFor_of_name (x := yX8_keep) pn_NoDayForItModel⟩
set_option maxRecDepth 20000 in
theorem w_mX8_back : MW yX8_back cX8_back 3 (some .int) 1 := ⟨tk6 (i := 188) rfl rfl, tk1 (i := 10) (by decide +kernel) rfl, ⟨by decide +kernel, by decide +kernel, by decide +kernel⟩, by decide, plainFor_of_name (x := yX8_back) pn_NoDayForItModel⟩
theorem w_lX8_307 : Cond.methodLink RX8 307 yX8_leftOf ∈ tg := tk6 (i := 193) (by decide +kernel) rfl
theorem w_iX8_leftOf : Cond.instanceMethod yX8_leftOf ∈ tg ∧ Cond.selects (yX8_leftOf).cls yX8_leftOf yX8_leftOf ∈ tg := ⟨tk6 (i := 195) (by decide +kernel) rfl, tk0 (i := 94) (by decide +kernel) rfl⟩
set_option maxRecDepth 20000 in
theorem w_mX8_count : MW yX8_count cX8_count 4 (some .int) 1 := ⟨tk6 (i := 192) rfl rfl, tk1 (i := 10) (by decide +kernel) rfl, ⟨by decide +kernel, by decide +kernel, by decide +kernel⟩, by decide, plainFor_of_name (x := yX8_count) pn_NoDayForItModel⟩
set_option maxRecDepth 20000 in
theorem w_mX8_trace : MW yX8_trace cX8_trace 1 (some .long) 0 := ⟨tk6 (i := 200) rfl rfl, tk1 (i := 10) (by decide +kernel) rfl, ⟨by decide +kernel, by decide +kernel, by decide +kernel⟩, by decide, plainFor_of_name (x := yX8_trace) pn_NoDayForItModel⟩
