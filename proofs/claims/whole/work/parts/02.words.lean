
def TB : List Cond := lw_tbl.filter goodWord
theorem TB_in {w : Cond} (h : w ∈ TB) : w ∈ lw_tbl := (List.mem_filter.mp h).1
theorem TB_good {w : Cond} (h : w ∈ TB) : (w.onTables && w.keeps) = true ∨ ∃ ty, w = .arrayClass ty := good_of_word (List.mem_filter.mp h).2
theorem TB_of {w : Cond} (h : w ∈ tables_1) (g : goodWord w = true) : w ∈ TB := List.mem_filter.mpr ⟨List.mem_append_right _ h, g⟩
theorem tb1 {k : Nat} {w : Cond} (h : tables_1_1[k]? = some w) (g : goodWord w = true) : w ∈ TB := TB_of (List.mem_append_left _ (List.mem_of_getElem? h)) g
theorem tb2 {k : Nat} {w : Cond} (h : tables_1_2[k]? = some w) (g : goodWord w = true) : w ∈ TB := TB_of (List.mem_append_right _ (List.mem_append_left _ (List.mem_of_getElem? h))) g
theorem tb3 {k : Nat} {w : Cond} (h : tables_1_3[k]? = some w) (g : goodWord w = true) : w ∈ TB := TB_of (List.mem_append_right _ (List.mem_append_right _ (List.mem_append_left _ (List.mem_of_getElem? h)))) g
theorem tb4 {k : Nat} {w : Cond} (h : tables_1_4[k]? = some w) (g : goodWord w = true) : w ∈ TB := TB_of (List.mem_append_right _ (List.mem_append_right _ (List.mem_append_right _ (List.mem_append_left _ (List.mem_of_getElem? h))))) g
theorem tb5 {k : Nat} {w : Cond} (h : tables_1_5[k]? = some w) (g : goodWord w = true) : w ∈ TB := TB_of (List.mem_append_right _ (List.mem_append_right _ (List.mem_append_right _ (List.mem_append_right _ (List.mem_append_left _ (List.mem_of_getElem? h)))))) g
theorem tb6 {k : Nat} {w : Cond} (h : tables_1_6[k]? = some w) (g : goodWord w = true) : w ∈ TB := TB_of (List.mem_append_right _ (List.mem_append_right _ (List.mem_append_right _ (List.mem_append_right _ (List.mem_append_right _ (List.mem_of_getElem? h)))))) g
theorem tbp {q : MethodName × Nat} (h : q ∈ lw_privs) : Cond.selects q.1.cls q.1 q.1 ∈ TB := List.mem_filter.mpr ⟨List.mem_append_left _ (List.mem_map.mpr ⟨q, h, rfl⟩), rfl⟩
theorem lpv1 {q : MethodName × Nat} (h : q ∈ lw_privs_1) : q ∈ lw_privs := List.mem_append_left _ h
theorem lpv2 {q : MethodName × Nat} (h : q ∈ lw_privs_2) : q ∈ lw_privs := List.mem_append_right _ (List.mem_append_left _ h)
theorem lpv3 {q : MethodName × Nat} (h : q ∈ lw_privs_3) : q ∈ lw_privs := List.mem_append_right _ (List.mem_append_right _ (List.mem_append_left _ h))
theorem lpv4 {q : MethodName × Nat} (h : q ∈ lw_privs_4) : q ∈ lw_privs := List.mem_append_right _ (List.mem_append_right _ (List.mem_append_right _ (List.mem_append_left _ h)))
theorem lpv5 {q : MethodName × Nat} (h : q ∈ lw_privs_5) : q ∈ lw_privs := List.mem_append_right _ (List.mem_append_right _ (List.mem_append_right _ (List.mem_append_right _ h)))
theorem tbl_of {ws : List Cond} (ps : List Nat) (hp : ws = ps.filterMap (fun i => tables_1[i]?)) (h : ws.all goodWord = true) : ∀ w ∈ ws, w ∈ TB := by
  intro w hw
  have h1 := List.all_eq_true.mp h w hw
  rw [hp] at hw
  obtain ⟨i, -, hi⟩ := List.mem_filterMap.mp hw
  exact TB_of (List.mem_of_getElem? hi) h1
theorem ii_L : Cond.initialized RL ∈ TB := tb1 (k := 0) (by decide +kernel) rfl
theorem ii_X10 : Cond.initialized RX10 ∈ TB := tb1 (k := 1) (by decide +kernel) rfl
theorem ii_X0 : Cond.initialized RX0 ∈ TB := tb1 (k := 2) (by decide +kernel) rfl
theorem ii_X6 : Cond.initialized RX6 ∈ TB := tb1 (k := 3) (by decide +kernel) rfl
theorem ii_X4 : Cond.initialized RX4 ∈ TB := tb1 (k := 4) (by decide +kernel) rfl
theorem ii_X8 : Cond.initialized RX8 ∈ TB := tb1 (k := 5) (by decide +kernel) rfl
theorem ii_X7 : Cond.initialized RX7 ∈ TB := tb1 (k := 6) (by decide +kernel) rfl
theorem ii_X1 : Cond.initialized RX1 ∈ TB := tb1 (k := 7) (by decide +kernel) rfl
theorem ii_X5 : Cond.initialized RX5 ∈ TB := tb1 (k := 8) (by decide +kernel) rfl
theorem ii_X3 : Cond.initialized RX3 ∈ TB := tb1 (k := 9) (by decide +kernel) rfl
theorem ii_X9 : Cond.initialized RX9 ∈ TB := tb1 (k := 10) (by decide +kernel) rfl
theorem ii_X2 : Cond.initialized RX2 ∈ TB := tb1 (k := 11) (by decide +kernel) rfl
theorem ii_X11 : Cond.initialized RX11 ∈ TB := tb1 (k := 12) (by decide +kernel) rfl
theorem ii_J9 : Cond.initialized "java/lang/Math" ∈ TB := tb1 (k := 13) (by decide +kernel) rfl
theorem cl_L_7 : Cond.classLink RL 7 RX10 ∈ TB := tb1 (k := 14) (by decide +kernel) rfl
theorem it_X10 : Cond.instantiable RX10 16 ∈ TB := tb1 (k := 15) (by decide +kernel) rfl
theorem ml_L_9 : Cond.methodLink RL 9 yX10_init ∈ TB := tb1 (k := 16) (by decide +kernel) rfl
theorem im_X10_init : Cond.instanceMethod yX10_init ∈ TB := tb1 (k := 17) (by decide +kernel) rfl
theorem cd_X10_init : Cond.code yX10_init cX10_init 1 (none) ∈ TB := tb1 (k := 18) (by decide +kernel) rfl
theorem ml_X10_1 : Cond.methodLink RX10 1 objectInit ∈ TB := tb1 (k := 19) (by decide +kernel) rfl
theorem im_OI : Cond.instanceMethod objectInit ∈ TB := tb1 (k := 20) (by decide +kernel) rfl
theorem cd_OI : Cond.code objectInit ⟨#[0xb1]⟩ 1 (none) ∈ TB := tb1 (k := 21) (by decide +kernel) rfl
theorem cl_X10_7 : Cond.classLink RX10 7 RX0 ∈ TB := tb1 (k := 22) (by decide +kernel) rfl
theorem it_X0 : Cond.instantiable RX0 4 ∈ TB := tb1 (k := 23) (by decide +kernel) rfl
theorem im_X0_init : Cond.instanceMethod yX0_init ∈ TB := tb1 (k := 25) (by decide +kernel) rfl
theorem cd_X0_init : Cond.code yX0_init cX0_init 1 (none) ∈ TB := tb1 (k := 26) (by decide +kernel) rfl
theorem ml_X0_3 : Cond.methodLink RX0 3 objectInit ∈ TB := tb1 (k := 27) (by decide +kernel) rfl
theorem fl_X0_9 : Cond.fieldLink RX0 9 "HostYear$FactBook" "cell" "[I" ∈ TB := tb1 (k := 28) (by decide +kernel) rfl
theorem fl_X0_15 : Cond.fieldLink RX0 15 "HostYear$FactBook" "value" "[I" ∈ TB := tb1 (k := 29) (by decide +kernel) rfl
theorem fl_X0_18 : Cond.fieldLink RX0 18 "HostYear$FactBook" "told" "[I" ∈ TB := tb1 (k := 30) (by decide +kernel) rfl
theorem fl_X0_21 : Cond.fieldLink RX0 21 "HostYear$FactBook" "size" "I" ∈ TB := tb1 (k := 31) (by decide +kernel) rfl
theorem fl_X10_233 : Cond.fieldLink RX10 233 "HostYear$FactBook" "size" "I" ∈ TB := tb1 (k := 32) (by decide +kernel) rfl
theorem ac_int : Cond.arrayClass FieldType.int ∈ TB := tb1 (k := 42) (by decide +kernel) rfl
theorem cl_X10_16 : Cond.classLink RX10 16 RX6 ∈ TB := tb1 (k := 43) (by decide +kernel) rfl
theorem it_X6 : Cond.instantiable RX6 2 ∈ TB := tb1 (k := 44) (by decide +kernel) rfl
theorem im_X6_init : Cond.instanceMethod yX6_init ∈ TB := tb1 (k := 46) (by decide +kernel) rfl
theorem cd_X6_init : Cond.code yX6_init cX6_init 1 (none) ∈ TB := tb1 (k := 47) (by decide +kernel) rfl
theorem ml_X6_3 : Cond.methodLink RX6 3 objectInit ∈ TB := tb1 (k := 48) (by decide +kernel) rfl
theorem fl_X6_9 : Cond.fieldLink RX6 9 "HostYear$Tape" "bytes" "[B" ∈ TB := tb1 (k := 49) (by decide +kernel) rfl
theorem fl_X6_15 : Cond.fieldLink RX6 15 "HostYear$Tape" "length" "I" ∈ TB := tb1 (k := 50) (by decide +kernel) rfl
theorem fl_X10_92 : Cond.fieldLink RX10 92 "HostYear$Tape" "length" "I" ∈ TB := tb1 (k := 51) (by decide +kernel) rfl
theorem fl_X8_30 : Cond.fieldLink RX8 30 "HostYear$Tape" "length" "I" ∈ TB := tb1 (k := 52) (by decide +kernel) rfl
theorem ac_byte : Cond.arrayClass FieldType.byte ∈ TB := tb1 (k := 58) (by decide +kernel) rfl
theorem cl_X10_23 : Cond.classLink RX10 23 RX4 ∈ TB := tb1 (k := 59) (by decide +kernel) rfl
theorem it_X4 : Cond.instantiable RX4 8 ∈ TB := tb1 (k := 60) (by decide +kernel) rfl
theorem im_X4_init : Cond.instanceMethod yX4_init ∈ TB := tb1 (k := 62) (by decide +kernel) rfl
theorem cd_X4_init : Cond.code yX4_init cX4_init 1 (none) ∈ TB := tb1 (k := 63) (by decide +kernel) rfl
theorem ml_X4_3 : Cond.methodLink RX4 3 objectInit ∈ TB := tb1 (k := 64) (by decide +kernel) rfl
theorem cl_X4_9 : Cond.classLink RX4 9 RX8 ∈ TB := tb1 (k := 65) (by decide +kernel) rfl
theorem it_X8 : Cond.instantiable RX8 3 ∈ TB := tb1 (k := 66) (by decide +kernel) rfl
theorem im_X8_init : Cond.instanceMethod yX8_init ∈ TB := tb1 (k := 68) (by decide +kernel) rfl
theorem cd_X8_init : Cond.code yX8_init cX8_init 1 (none) ∈ TB := tb1 (k := 69) (by decide +kernel) rfl
theorem ml_X8_3 : Cond.methodLink RX8 3 objectInit ∈ TB := tb1 (k := 70) (by decide +kernel) rfl
theorem fl_X8_9 : Cond.fieldLink RX8 9 "HostYear$Tokens" "kind" "[I" ∈ TB := tb1 (k := 71) (by decide +kernel) rfl
theorem fl_X4_122 : Cond.fieldLink RX4 122 "HostYear$Tokens" "kind" "[I" ∈ TB := tb1 (k := 72) (by decide +kernel) rfl
theorem fl_X8_15 : Cond.fieldLink RX8 15 "HostYear$Tokens" "start" "[I" ∈ TB := tb1 (k := 73) (by decide +kernel) rfl
theorem fl_X4_135 : Cond.fieldLink RX4 135 "HostYear$Tokens" "start" "[I" ∈ TB := tb1 (k := 74) (by decide +kernel) rfl
theorem fl_X8_18 : Cond.fieldLink RX8 18 "HostYear$Tokens" "value" "[J" ∈ TB := tb1 (k := 75) (by decide +kernel) rfl
theorem fl_X4_71 : Cond.fieldLink RX4 71 "HostYear$Tokens" "value" "[J" ∈ TB := tb1 (k := 76) (by decide +kernel) rfl
theorem ac_long : Cond.arrayClass FieldType.long ∈ TB := tb1 (k := 84) (by decide +kernel) rfl
theorem cl_X4_18 : Cond.classLink RX4 18 RX7 ∈ TB := tb1 (k := 85) (by decide +kernel) rfl
theorem it_X7 : Cond.instantiable RX7 9 ∈ TB := tb1 (k := 86) (by decide +kernel) rfl
theorem im_X7_init : Cond.instanceMethod yX7_init ∈ TB := tb1 (k := 88) (by decide +kernel) rfl
theorem cd_X7_init : Cond.code yX7_init cX7_init 1 (none) ∈ TB := tb1 (k := 89) (by decide +kernel) rfl
theorem ml_X7_3 : Cond.methodLink RX7 3 objectInit ∈ TB := tb1 (k := 90) (by decide +kernel) rfl
theorem fl_X7_9 : Cond.fieldLink RX7 9 "HostYear$Text" "code" "[I" ∈ TB := tb1 (k := 91) (by decide +kernel) rfl
theorem fl_X1_61 : Cond.fieldLink RX1 61 "HostYear$Text" "code" "[I" ∈ TB := tb1 (k := 92) (by decide +kernel) rfl
theorem fl_X7_15 : Cond.fieldLink RX7 15 "HostYear$Text" "isBar" "[Z" ∈ TB := tb1 (k := 93) (by decide +kernel) rfl
theorem fl_X1_28 : Cond.fieldLink RX1 28 "HostYear$Text" "isBar" "[Z" ∈ TB := tb1 (k := 94) (by decide +kernel) rfl
theorem fl_X7_19 : Cond.fieldLink RX7 19 "HostYear$Text" "from" "[I" ∈ TB := tb1 (k := 95) (by decide +kernel) rfl
theorem fl_X1_40 : Cond.fieldLink RX1 40 "HostYear$Text" "from" "[I" ∈ TB := tb1 (k := 96) (by decide +kernel) rfl
theorem fl_X7_22 : Cond.fieldLink RX7 22 "HostYear$Text" "condFrom" "[I" ∈ TB := tb1 (k := 97) (by decide +kernel) rfl
theorem fl_X1_43 : Cond.fieldLink RX1 43 "HostYear$Text" "condFrom" "[I" ∈ TB := tb1 (k := 98) (by decide +kernel) rfl
theorem fl_X7_25 : Cond.fieldLink RX7 25 "HostYear$Text" "to" "[I" ∈ TB := tb1 (k := 99) (by decide +kernel) rfl
theorem fl_X1_58 : Cond.fieldLink RX1 58 "HostYear$Text" "to" "[I" ∈ TB := tb1 (k := 100) (by decide +kernel) rfl
theorem fl_X7_28 : Cond.fieldLink RX7 28 "HostYear$Text" "trait" "[J" ∈ TB := tb1 (k := 101) (by decide +kernel) rfl
theorem fl_X7_32 : Cond.fieldLink RX7 32 "HostYear$Text" "size" "I" ∈ TB := tb1 (k := 102) (by decide +kernel) rfl
theorem fl_X4_89 : Cond.fieldLink RX4 89 "HostYear$Text" "size" "I" ∈ TB := tb1 (k := 103) (by decide +kernel) rfl
theorem fl_X7_36 : Cond.fieldLink RX7 36 "HostYear$Text" "rules" "I" ∈ TB := tb1 (k := 104) (by decide +kernel) rfl
theorem fl_X1_22 : Cond.fieldLink RX1 22 "HostYear$Text" "rules" "I" ∈ TB := tb1 (k := 105) (by decide +kernel) rfl
theorem fl_X4_86 : Cond.fieldLink RX4 86 "HostYear$Text" "rules" "I" ∈ TB := tb1 (k := 106) (by decide +kernel) rfl
theorem fl_X10_236 : Cond.fieldLink RX10 236 "HostYear$Text" "rules" "I" ∈ TB := tb1 (k := 107) (by decide +kernel) rfl
theorem fl_X7_39 : Cond.fieldLink RX7 39 "HostYear$Text" "traits" "I" ∈ TB := tb1 (k := 108) (by decide +kernel) rfl
theorem fl_X4_65 : Cond.fieldLink RX4 65 "HostYear$Text" "traits" "I" ∈ TB := tb1 (k := 109) (by decide +kernel) rfl
theorem ac_boolean : Cond.arrayClass FieldType.boolean ∈ TB := tb1 (k := 129) (by decide +kernel) rfl
theorem fl_X4_12 : Cond.fieldLink RX4 12 "HostYear$Parser" "tokens" "LHostYear$Tokens;" ∈ TB := tb1 (k := 130) (by decide +kernel) rfl
theorem fl_X4_21 : Cond.fieldLink RX4 21 "HostYear$Parser" "text" "LHostYear$Text;" ∈ TB := tb1 (k := 131) (by decide +kernel) rfl
theorem fl_X4_25 : Cond.fieldLink RX4 25 "HostYear$Parser" "at" "I" ∈ TB := tb1 (k := 132) (by decide +kernel) rfl
theorem fl_X4_29 : Cond.fieldLink RX4 29 "HostYear$Parser" "open" "I" ∈ TB := tb1 (k := 133) (by decide +kernel) rfl
theorem fl_X4_32 : Cond.fieldLink RX4 32 "HostYear$Parser" "fault" "I" ∈ TB := tb1 (k := 134) (by decide +kernel) rfl
theorem fl_X4_35 : Cond.fieldLink RX4 35 "HostYear$Parser" "lateFault" "I" ∈ TB := tb1 (k := 135) (by decide +kernel) rfl
theorem fl_X4_38 : Cond.fieldLink RX4 38 "HostYear$Parser" "latePlace" "I" ∈ TB := tb1 (k := 136) (by decide +kernel) rfl
theorem fl_X4_41 : Cond.fieldLink RX4 41 "HostYear$Parser" "faultPlace" "I" ∈ TB := tb1 (k := 137) (by decide +kernel) rfl
theorem fl_X10_111 : Cond.fieldLink RX10 111 "HostYear$Parser" "faultPlace" "I" ∈ TB := tb1 (k := 138) (by decide +kernel) rfl
theorem cl_X10_30 : Cond.classLink RX10 30 RX1 ∈ TB := tb1 (k := 156) (by decide +kernel) rfl
theorem it_X1 : Cond.instantiable RX1 2 ∈ TB := tb1 (k := 157) (by decide +kernel) rfl
theorem im_X1_init : Cond.instanceMethod yX1_init ∈ TB := tb1 (k := 159) (by decide +kernel) rfl
theorem cd_X1_init : Cond.code yX1_init cX1_init 1 (none) ∈ TB := tb1 (k := 160) (by decide +kernel) rfl
theorem ml_X1_3 : Cond.methodLink RX1 3 objectInit ∈ TB := tb1 (k := 161) (by decide +kernel) rfl
theorem fl_X1_9 : Cond.fieldLink RX1 9 "HostYear$Judge" "view" "[I" ∈ TB := tb1 (k := 162) (by decide +kernel) rfl
theorem fl_X10_140 : Cond.fieldLink RX10 140 "HostYear$Judge" "view" "[I" ∈ TB := tb1 (k := 163) (by decide +kernel) rfl
theorem fl_X1_15 : Cond.fieldLink RX1 15 "HostYear$Judge" "stack" "[I" ∈ TB := tb1 (k := 164) (by decide +kernel) rfl
theorem cl_X10_37 : Cond.classLink RX10 37 RX5 ∈ TB := tb1 (k := 170) (by decide +kernel) rfl
theorem it_X5 : Cond.instantiable RX5 8 ∈ TB := tb1 (k := 171) (by decide +kernel) rfl
theorem im_X5_init : Cond.instanceMethod yX5_init ∈ TB := tb1 (k := 173) (by decide +kernel) rfl
theorem cd_X5_init : Cond.code yX5_init cX5_init 1 (none) ∈ TB := tb1 (k := 174) (by decide +kernel) rfl
theorem ml_X5_3 : Cond.methodLink RX5 3 objectInit ∈ TB := tb1 (k := 175) (by decide +kernel) rfl
theorem cl_X5_35 : Cond.classLink RX5 35 RX3 ∈ TB := tb1 (k := 176) (by decide +kernel) rfl
theorem it_X3 : Cond.instantiable RX3 7 ∈ TB := tb1 (k := 177) (by decide +kernel) rfl
theorem im_X3_init : Cond.instanceMethod yX3_init ∈ TB := tb1 (k := 179) (by decide +kernel) rfl
theorem cd_X3_init : Cond.code yX3_init cX3_init 1 (none) ∈ TB := tb1 (k := 180) (by decide +kernel) rfl
theorem ml_X3_3 : Cond.methodLink RX3 3 objectInit ∈ TB := tb1 (k := 181) (by decide +kernel) rfl
theorem fl_X3_9 : Cond.fieldLink RX3 9 "HostYear$Matching" "weight" "[J" ∈ TB := tb1 (k := 182) (by decide +kernel) rfl
theorem fl_X5_70 : Cond.fieldLink RX5 70 "HostYear$Matching" "weight" "[J" ∈ TB := tb1 (k := 183) (by decide +kernel) rfl
theorem fl_X3_15 : Cond.fieldLink RX3 15 "HostYear$Matching" "rowOf" "[I" ∈ TB := tb1 (k := 184) (by decide +kernel) rfl
theorem fl_X5_56 : Cond.fieldLink RX5 56 "HostYear$Matching" "rowOf" "[I" ∈ TB := tb1 (k := 185) (by decide +kernel) rfl
theorem fl_X3_19 : Cond.fieldLink RX3 19 "HostYear$Matching" "rowPrice" "[J" ∈ TB := tb1 (k := 186) (by decide +kernel) rfl
theorem fl_X3_22 : Cond.fieldLink RX3 22 "HostYear$Matching" "columnPrice" "[J" ∈ TB := tb1 (k := 187) (by decide +kernel) rfl
theorem fl_X3_25 : Cond.fieldLink RX3 25 "HostYear$Matching" "slack" "[J" ∈ TB := tb1 (k := 188) (by decide +kernel) rfl
theorem fl_X3_28 : Cond.fieldLink RX3 28 "HostYear$Matching" "cameFrom" "[I" ∈ TB := tb1 (k := 189) (by decide +kernel) rfl
theorem fl_X3_31 : Cond.fieldLink RX3 31 "HostYear$Matching" "isSeen" "[Z" ∈ TB := tb1 (k := 190) (by decide +kernel) rfl
theorem fl_X5_9 : Cond.fieldLink RX5 9 "HostYear$Planner" "cost" "[I" ∈ TB := tb1 (k := 206) (by decide +kernel) rfl
theorem fl_X10_246 : Cond.fieldLink RX10 246 "HostYear$Planner" "cost" "[I" ∈ TB := tb1 (k := 207) (by decide +kernel) rfl
theorem fl_X5_15 : Cond.fieldLink RX5 15 "HostYear$Planner" "mayBeFirst" "[Z" ∈ TB := tb1 (k := 208) (by decide +kernel) rfl
theorem fl_X10_243 : Cond.fieldLink RX10 243 "HostYear$Planner" "mayBeFirst" "[Z" ∈ TB := tb1 (k := 209) (by decide +kernel) rfl
theorem fl_X5_19 : Cond.fieldLink RX5 19 "HostYear$Planner" "mayBeLast" "[Z" ∈ TB := tb1 (k := 210) (by decide +kernel) rfl
theorem fl_X10_240 : Cond.fieldLink RX10 240 "HostYear$Planner" "mayBeLast" "[Z" ∈ TB := tb1 (k := 211) (by decide +kernel) rfl
theorem fl_X5_22 : Cond.fieldLink RX5 22 "HostYear$Planner" "home" "[I" ∈ TB := tb1 (k := 212) (by decide +kernel) rfl
theorem fl_X10_164 : Cond.fieldLink RX10 164 "HostYear$Planner" "home" "[I" ∈ TB := tb1 (k := 213) (by decide +kernel) rfl
theorem fl_X5_25 : Cond.fieldLink RX5 25 "HostYear$Planner" "size" "I" ∈ TB := tb1 (k := 214) (by decide +kernel) rfl
theorem fl_X10_239 : Cond.fieldLink RX10 239 "HostYear$Planner" "size" "I" ∈ TB := tb1 (k := 215) (by decide +kernel) rfl
theorem fl_X5_29 : Cond.fieldLink RX5 29 "HostYear$Planner" "isOut" "[Z" ∈ TB := tb1 (k := 216) (by decide +kernel) rfl
theorem fl_X5_32 : Cond.fieldLink RX5 32 "HostYear$Planner" "before" "[I" ∈ TB := tb1 (k := 217) (by decide +kernel) rfl
theorem fl_X5_38 : Cond.fieldLink RX5 38 "HostYear$Planner" "matching" "LHostYear$Matching;" ∈ TB := tb1 (k := 218) (by decide +kernel) rfl
theorem cl_X10_44 : Cond.classLink RX10 44 RX9 ∈ TB := tb1 (k := 236) (by decide +kernel) rfl
theorem it_X9 : Cond.instantiable RX9 5 ∈ TB := tb1 (k := 237) (by decide +kernel) rfl
theorem ml_X10_46 : Cond.methodLink RX10 46 yX9_init ∈ TB := tb1 (k := 238) (by decide +kernel) rfl
theorem im_X9_init : Cond.instanceMethod yX9_init ∈ TB := tb1 (k := 239) (by decide +kernel) rfl
theorem cd_X9_init : Cond.code yX9_init cX9_init 2 (none) ∈ TB := tb2 (k := 0) (by decide +kernel) rfl
theorem ml_X9_3 : Cond.methodLink RX9 3 objectInit ∈ TB := tb2 (k := 1) (by decide +kernel) rfl
theorem fl_X9_9 : Cond.fieldLink RX9 9 "HostYear$Year" "home" "[I" ∈ TB := tb2 (k := 2) (by decide +kernel) rfl
theorem fl_X5_45 : Cond.fieldLink RX5 45 "HostYear$Year" "home" "[I" ∈ TB := tb2 (k := 3) (by decide +kernel) rfl
theorem fl_X10_186 : Cond.fieldLink RX10 186 "HostYear$Year" "home" "[I" ∈ TB := tb2 (k := 4) (by decide +kernel) rfl
theorem fl_X9_15 : Cond.fieldLink RX9 15 "HostYear$Year" "isOut" "[Z" ∈ TB := tb2 (k := 5) (by decide +kernel) rfl
theorem fl_X5_42 : Cond.fieldLink RX5 42 "HostYear$Year" "isOut" "[Z" ∈ TB := tb2 (k := 6) (by decide +kernel) rfl
theorem fl_X10_220 : Cond.fieldLink RX10 220 "HostYear$Year" "isOut" "[Z" ∈ TB := tb2 (k := 7) (by decide +kernel) rfl
theorem fl_X9_19 : Cond.fieldLink RX9 19 "HostYear$Year" "mover" "[I" ∈ TB := tb2 (k := 8) (by decide +kernel) rfl
theorem fl_X10_200 : Cond.fieldLink RX10 200 "HostYear$Year" "mover" "[I" ∈ TB := tb2 (k := 9) (by decide +kernel) rfl
theorem fl_X9_22 : Cond.fieldLink RX9 22 "HostYear$Year" "movers" "I" ∈ TB := tb2 (k := 10) (by decide +kernel) rfl
theorem fl_X10_197 : Cond.fieldLink RX10 197 "HostYear$Year" "movers" "I" ∈ TB := tb2 (k := 11) (by decide +kernel) rfl
theorem fl_X9_26 : Cond.fieldLink RX9 26 "HostYear$Year" "hasBegun" "Z" ∈ TB := tb2 (k := 12) (by decide +kernel) rfl
theorem fl_X10_175 : Cond.fieldLink RX10 175 "HostYear$Year" "hasBegun" "Z" ∈ TB := tb2 (k := 13) (by decide +kernel) rfl
theorem cl_X10_51 : Cond.classLink RX10 51 RX2 ∈ TB := tb2 (k := 25) (by decide +kernel) rfl
theorem it_X2 : Cond.instantiable RX2 3 ∈ TB := tb2 (k := 26) (by decide +kernel) rfl
theorem im_X2_init : Cond.instanceMethod yX2_init ∈ TB := tb2 (k := 28) (by decide +kernel) rfl
theorem cd_X2_init : Cond.code yX2_init cX2_init 1 (none) ∈ TB := tb2 (k := 29) (by decide +kernel) rfl
theorem ml_X2_3 : Cond.methodLink RX2 3 objectInit ∈ TB := tb2 (k := 30) (by decide +kernel) rfl
theorem fl_X2_9 : Cond.fieldLink RX2 9 "HostYear$Ledger" "debt" "[I" ∈ TB := tb2 (k := 31) (by decide +kernel) rfl
theorem fl_X10_224 : Cond.fieldLink RX10 224 "HostYear$Ledger" "debt" "[I" ∈ TB := tb2 (k := 32) (by decide +kernel) rfl
theorem fl_X2_15 : Cond.fieldLink RX2 15 "HostYear$Ledger" "given" "[I" ∈ TB := tb2 (k := 33) (by decide +kernel) rfl
theorem fl_X10_227 : Cond.fieldLink RX10 227 "HostYear$Ledger" "given" "[I" ∈ TB := tb2 (k := 34) (by decide +kernel) rfl
theorem fl_X2_18 : Cond.fieldLink RX2 18 "HostYear$Ledger" "money" "[I" ∈ TB := tb2 (k := 35) (by decide +kernel) rfl
theorem fl_X10_230 : Cond.fieldLink RX10 230 "HostYear$Ledger" "money" "[I" ∈ TB := tb2 (k := 36) (by decide +kernel) rfl
theorem cl_X10_62 : Cond.classLink RX10 62 RX7 ∈ TB := tb2 (k := 44) (by decide +kernel) rfl
theorem fl_X10_10 : Cond.fieldLink RX10 10 "HostYear" "facts" "LHostYear$FactBook;" ∈ TB := tb2 (k := 46) (by decide +kernel) rfl
theorem fl_X10_19 : Cond.fieldLink RX10 19 "HostYear" "tape" "LHostYear$Tape;" ∈ TB := tb2 (k := 47) (by decide +kernel) rfl
theorem fl_X10_26 : Cond.fieldLink RX10 26 "HostYear" "parser" "LHostYear$Parser;" ∈ TB := tb2 (k := 48) (by decide +kernel) rfl
theorem fl_X10_33 : Cond.fieldLink RX10 33 "HostYear" "judge" "LHostYear$Judge;" ∈ TB := tb2 (k := 49) (by decide +kernel) rfl
theorem fl_X10_40 : Cond.fieldLink RX10 40 "HostYear" "planner" "LHostYear$Planner;" ∈ TB := tb2 (k := 50) (by decide +kernel) rfl
theorem fl_X10_47 : Cond.fieldLink RX10 47 "HostYear" "year" "LHostYear$Year;" ∈ TB := tb2 (k := 51) (by decide +kernel) rfl
theorem fl_X10_54 : Cond.fieldLink RX10 54 "HostYear" "ledger" "LHostYear$Ledger;" ∈ TB := tb2 (k := 52) (by decide +kernel) rfl
theorem fl_X10_58 : Cond.fieldLink RX10 58 "HostYear" "hand" "[I" ∈ TB := tb2 (k := 53) (by decide +kernel) rfl
theorem fl_X10_65 : Cond.fieldLink RX10 65 "HostYear" "first" "LHostYear$Text;" ∈ TB := tb2 (k := 54) (by decide +kernel) rfl
theorem fl_X10_69 : Cond.fieldLink RX10 69 "HostYear" "second" "LHostYear$Text;" ∈ TB := tb2 (k := 55) (by decide +kernel) rfl
theorem fl_X10_72 : Cond.fieldLink RX10 72 "HostYear" "isAtHand" "Z" ∈ TB := tb2 (k := 56) (by decide +kernel) rfl
theorem fl_X10_76 : Cond.fieldLink RX10 76 "HostYear" "handCost" "I" ∈ TB := tb2 (k := 57) (by decide +kernel) rfl
theorem fl_X10_80 : Cond.fieldLink RX10 80 "HostYear" "families" "I" ∈ TB := tb2 (k := 58) (by decide +kernel) rfl
theorem fl_X10_83 : Cond.fieldLink RX10 83 "HostYear" "today" "I" ∈ TB := tb2 (k := 59) (by decide +kernel) rfl
theorem fl_X10_86 : Cond.fieldLink RX10 86 "HostYear" "lastTerm" "I" ∈ TB := tb2 (k := 60) (by decide +kernel) rfl
theorem fl_X10_89 : Cond.fieldLink RX10 89 "HostYear" "years" "I" ∈ TB := tb2 (k := 61) (by decide +kernel) rfl
theorem ml_L_13 : Cond.methodLink RL 13 yX10_feed ∈ TB := tb2 (k := 95) (by decide +kernel) rfl
theorem im_X10_feed : Cond.instanceMethod yX10_feed ∈ TB := tb2 (k := 96) (by decide +kernel) rfl
theorem se_X10_feed : Cond.selects RX10 yX10_feed yX10_feed ∈ TB := tb2 (k := 97) (by decide +kernel) rfl
theorem cd_X10_feed : Cond.code yX10_feed cX10_feed 6 (some FieldType.int) ∈ TB := tb2 (k := 98) (by decide +kernel) rfl
theorem ml_X10_95 : Cond.methodLink RX10 95 yX6_append ∈ TB := tb2 (k := 99) (by decide +kernel) rfl
theorem im_X6_append : Cond.instanceMethod yX6_append ∈ TB := tb2 (k := 100) (by decide +kernel) rfl
theorem se_X6_append : Cond.selects RX6 yX6_append yX6_append ∈ TB := tb2 (k := 101) (by decide +kernel) rfl
theorem cd_X6_append : Cond.code yX6_append cX6_append 3 (none) ∈ TB := tb2 (k := 102) (by decide +kernel) rfl
theorem ml_L_18 : Cond.methodLink RL 18 yX10_back ∈ TB := tb2 (k := 103) (by decide +kernel) rfl
theorem im_X10_back : Cond.instanceMethod yX10_back ∈ TB := tb2 (k := 104) (by decide +kernel) rfl
theorem se_X10_back : Cond.selects RX10 yX10_back yX10_back ∈ TB := tb2 (k := 105) (by decide +kernel) rfl
theorem cd_X10_back : Cond.code yX10_back cX10_back 2 (some FieldType.int) ∈ TB := tb2 (k := 106) (by decide +kernel) rfl
theorem ml_L_23 : Cond.methodLink RL 23 yX10_read ∈ TB := tb2 (k := 107) (by decide +kernel) rfl
theorem im_X10_read : Cond.instanceMethod yX10_read ∈ TB := tb2 (k := 108) (by decide +kernel) rfl
theorem se_X10_read : Cond.selects RX10 yX10_read yX10_read ∈ TB := tb2 (k := 109) (by decide +kernel) rfl
theorem cd_X10_read : Cond.code yX10_read cX10_read 3 (some FieldType.int) ∈ TB := tb2 (k := 110) (by decide +kernel) rfl
theorem ml_X10_99 : Cond.methodLink RX10 99 yX10_textOf ∈ TB := tb2 (k := 111) (by decide +kernel) rfl
theorem im_X10_textOf : Cond.instanceMethod yX10_textOf ∈ TB := tb2 (k := 113) (by decide +kernel) rfl
theorem cd_X10_textOf : Cond.code yX10_textOf cX10_textOf 2 (some (FieldType.object "HostYear$Text")) ∈ TB := tb2 (k := 114) (by decide +kernel) rfl
theorem ml_X10_103 : Cond.methodLink RX10 103 yX4_parse ∈ TB := tb2 (k := 115) (by decide +kernel) rfl
theorem im_X4_parse : Cond.instanceMethod yX4_parse ∈ TB := tb2 (k := 116) (by decide +kernel) rfl
theorem se_X4_parse : Cond.selects RX4 yX4_parse yX4_parse ∈ TB := tb2 (k := 117) (by decide +kernel) rfl
theorem cd_X4_parse : Cond.code yX4_parse cX4_parse 3 (some FieldType.int) ∈ TB := tb2 (k := 118) (by decide +kernel) rfl
theorem ml_X4_44 : Cond.methodLink RX4 44 yX8_scan ∈ TB := tb2 (k := 119) (by decide +kernel) rfl
theorem im_X8_scan : Cond.instanceMethod yX8_scan ∈ TB := tb2 (k := 120) (by decide +kernel) rfl
theorem se_X8_scan : Cond.selects RX8 yX8_scan yX8_scan ∈ TB := tb2 (k := 121) (by decide +kernel) rfl
theorem cd_X8_scan : Cond.code yX8_scan cX8_scan 5 (none) ∈ TB := tb2 (k := 122) (by decide +kernel) rfl
theorem ml_X8_22 : Cond.methodLink RX8 22 yX8_behindBlanks ∈ TB := tb2 (k := 123) (by decide +kernel) rfl
theorem sm_X8_behindBlanks : Cond.static yX8_behindBlanks ∈ TB := tb2 (k := 124) (by decide +kernel) rfl
theorem cd_X8_behindBlanks : Cond.code yX8_behindBlanks cX8_behindBlanks 3 (some FieldType.int) ∈ TB := tb2 (k := 125) (by decide +kernel) rfl
theorem ml_X8_36 : Cond.methodLink RX8 36 yX6_byteAt ∈ TB := tb2 (k := 126) (by decide +kernel) rfl
theorem im_X6_byteAt : Cond.instanceMethod yX6_byteAt ∈ TB := tb2 (k := 127) (by decide +kernel) rfl
theorem se_X6_byteAt : Cond.selects RX6 yX6_byteAt yX6_byteAt ∈ TB := tb2 (k := 128) (by decide +kernel) rfl
theorem cd_X6_byteAt : Cond.code yX6_byteAt cX6_byteAt 2 (some FieldType.int) ∈ TB := tb2 (k := 129) (by decide +kernel) rfl
theorem ml_X8_40 : Cond.methodLink RX8 40 yX8_isBlank ∈ TB := tb2 (k := 130) (by decide +kernel) rfl
theorem sm_X8_isBlank : Cond.static yX8_isBlank ∈ TB := tb2 (k := 131) (by decide +kernel) rfl
theorem cd_X8_isBlank : Cond.code yX8_isBlank cX8_isBlank 1 (some FieldType.boolean) ∈ TB := tb2 (k := 132) (by decide +kernel) rfl
theorem ml_X8_26 : Cond.methodLink RX8 26 yX8_scanOne ∈ TB := tb2 (k := 133) (by decide +kernel) rfl
theorem im_X8_scanOne : Cond.instanceMethod yX8_scanOne ∈ TB := tb2 (k := 135) (by decide +kernel) rfl
theorem cd_X8_scanOne : Cond.code yX8_scanOne cX8_scanOne 6 (some FieldType.int) ∈ TB := tb2 (k := 136) (by decide +kernel) rfl
theorem ml_X8_44 : Cond.methodLink RX8 44 yX8_isLetter ∈ TB := tb2 (k := 137) (by decide +kernel) rfl
theorem sm_X8_isLetter : Cond.static yX8_isLetter ∈ TB := tb2 (k := 138) (by decide +kernel) rfl
theorem cd_X8_isLetter : Cond.code yX8_isLetter cX8_isLetter 1 (some FieldType.boolean) ∈ TB := tb2 (k := 139) (by decide +kernel) rfl
theorem ml_X8_47 : Cond.methodLink RX8 47 yX8_scanName ∈ TB := tb2 (k := 140) (by decide +kernel) rfl
theorem im_X8_scanName : Cond.instanceMethod yX8_scanName ∈ TB := tb2 (k := 142) (by decide +kernel) rfl
theorem cd_X8_scanName : Cond.code yX8_scanName cX8_scanName 7 (some FieldType.int) ∈ TB := tb2 (k := 143) (by decide +kernel) rfl
theorem ml_X8_50 : Cond.methodLink RX8 50 yX8_isDigit ∈ TB := tb2 (k := 144) (by decide +kernel) rfl
theorem sm_X8_isDigit : Cond.static yX8_isDigit ∈ TB := tb2 (k := 145) (by decide +kernel) rfl
theorem cd_X8_isDigit : Cond.code yX8_isDigit cX8_isDigit 1 (some FieldType.boolean) ∈ TB := tb2 (k := 146) (by decide +kernel) rfl
theorem ml_X8_59 : Cond.methodLink RX8 59 yX8_wordOrName ∈ TB := tb2 (k := 147) (by decide +kernel) rfl
theorem sm_X8_wordOrName : Cond.static yX8_wordOrName ∈ TB := tb2 (k := 148) (by decide +kernel) rfl
theorem cd_X8_wordOrName : Cond.code yX8_wordOrName cX8_wordOrName 3 (some FieldType.int) ∈ TB := tb2 (k := 149) (by decide +kernel) rfl
theorem ml_X8_53 : Cond.methodLink RX8 53 yX8_scanNumber ∈ TB := tb2 (k := 152) (by decide +kernel) rfl
theorem im_X8_scanNumber : Cond.instanceMethod yX8_scanNumber ∈ TB := tb2 (k := 154) (by decide +kernel) rfl
theorem cd_X8_scanNumber : Cond.code yX8_scanNumber cX8_scanNumber 7 (some FieldType.int) ∈ TB := tb2 (k := 155) (by decide +kernel) rfl
theorem kl_X8_63 : Cond.constantLong RX8 63 (10) ∈ TB := tb2 (k := 156) (by decide +kernel) rfl
theorem ml_X8_56 : Cond.methodLink RX8 56 yX8_signAt ∈ TB := tb2 (k := 157) (by decide +kernel) rfl
theorem sm_X8_signAt : Cond.static yX8_signAt ∈ TB := tb2 (k := 158) (by decide +kernel) rfl
theorem cd_X8_signAt : Cond.code yX8_signAt cX8_signAt 4 (some FieldType.int) ∈ TB := tb2 (k := 159) (by decide +kernel) rfl
theorem ml_X4_48 : Cond.methodLink RX4 48 yX7_clear ∈ TB := tb2 (k := 160) (by decide +kernel) rfl
theorem im_X7_clear : Cond.instanceMethod yX7_clear ∈ TB := tb2 (k := 161) (by decide +kernel) rfl
theorem se_X7_clear : Cond.selects RX7 yX7_clear yX7_clear ∈ TB := tb2 (k := 162) (by decide +kernel) rfl
theorem cd_X7_clear : Cond.code yX7_clear cX7_clear 1 (none) ∈ TB := tb2 (k := 163) (by decide +kernel) rfl
theorem ml_X4_51 : Cond.methodLink RX4 51 yX4_sees ∈ TB := tb2 (k := 164) (by decide +kernel) rfl
theorem im_X4_sees : Cond.instanceMethod yX4_sees ∈ TB := tb2 (k := 166) (by decide +kernel) rfl
theorem cd_X4_sees : Cond.code yX4_sees cX4_sees 2 (some FieldType.boolean) ∈ TB := tb2 (k := 167) (by decide +kernel) rfl
theorem ml_X4_55 : Cond.methodLink RX4 55 yX4_readTrait ∈ TB := tb2 (k := 168) (by decide +kernel) rfl
theorem im_X4_readTrait : Cond.instanceMethod yX4_readTrait ∈ TB := tb2 (k := 170) (by decide +kernel) rfl
theorem cd_X4_readTrait : Cond.code yX4_readTrait cX4_readTrait 3 (none) ∈ TB := tb2 (k := 171) (by decide +kernel) rfl
theorem ml_X4_61 : Cond.methodLink RX4 61 yX4_fail ∈ TB := tb2 (k := 172) (by decide +kernel) rfl
theorem im_X4_fail : Cond.instanceMethod yX4_fail ∈ TB := tb2 (k := 174) (by decide +kernel) rfl
theorem cd_X4_fail : Cond.code yX4_fail cX4_fail 2 (none) ∈ TB := tb2 (k := 175) (by decide +kernel) rfl
theorem ml_X4_68 : Cond.methodLink RX4 68 yX4_expect ∈ TB := tb2 (k := 176) (by decide +kernel) rfl
theorem im_X4_expect : Cond.instanceMethod yX4_expect ∈ TB := tb2 (k := 178) (by decide +kernel) rfl
theorem cd_X4_expect : Cond.code yX4_expect cX4_expect 2 (none) ∈ TB := tb2 (k := 179) (by decide +kernel) rfl
theorem ml_X4_75 : Cond.methodLink RX4 75 yX7_traitNamed ∈ TB := tb2 (k := 180) (by decide +kernel) rfl
theorem im_X7_traitNamed : Cond.instanceMethod yX7_traitNamed ∈ TB := tb2 (k := 181) (by decide +kernel) rfl
theorem se_X7_traitNamed : Cond.selects RX7 yX7_traitNamed yX7_traitNamed ∈ TB := tb2 (k := 182) (by decide +kernel) rfl
theorem cd_X7_traitNamed : Cond.code yX7_traitNamed cX7_traitNamed 4 (some FieldType.int) ∈ TB := tb2 (k := 183) (by decide +kernel) rfl
theorem ml_X4_79 : Cond.methodLink RX4 79 yX4_failLate ∈ TB := tb2 (k := 184) (by decide +kernel) rfl
theorem im_X4_failLate : Cond.instanceMethod yX4_failLate ∈ TB := tb2 (k := 186) (by decide +kernel) rfl
theorem cd_X4_failLate : Cond.code yX4_failLate cX4_failLate 2 (none) ∈ TB := tb2 (k := 187) (by decide +kernel) rfl
theorem ml_X4_82 : Cond.methodLink RX4 82 yX7_addTrait ∈ TB := tb2 (k := 188) (by decide +kernel) rfl
theorem im_X7_addTrait : Cond.instanceMethod yX7_addTrait ∈ TB := tb2 (k := 189) (by decide +kernel) rfl
theorem se_X7_addTrait : Cond.selects RX7 yX7_addTrait yX7_addTrait ∈ TB := tb2 (k := 190) (by decide +kernel) rfl
theorem cd_X7_addTrait : Cond.code yX7_addTrait cX7_addTrait 3 (none) ∈ TB := tb2 (k := 191) (by decide +kernel) rfl
theorem ml_X4_58 : Cond.methodLink RX4 58 yX4_readRule ∈ TB := tb2 (k := 192) (by decide +kernel) rfl
theorem im_X4_readRule : Cond.instanceMethod yX4_readRule ∈ TB := tb2 (k := 194) (by decide +kernel) rfl
theorem cd_X4_readRule : Cond.code yX4_readRule cX4_readRule 4 (none) ∈ TB := tb2 (k := 195) (by decide +kernel) rfl
theorem ml_X4_92 : Cond.methodLink RX4 92 yX4_readCond ∈ TB := tb2 (k := 196) (by decide +kernel) rfl
theorem im_X4_readCond : Cond.instanceMethod yX4_readCond ∈ TB := tb2 (k := 198) (by decide +kernel) rfl
theorem cd_X4_readCond : Cond.code yX4_readCond cX4_readCond 2 (none) ∈ TB := tb2 (k := 199) (by decide +kernel) rfl
theorem ml_X4_105 : Cond.methodLink RX4 105 yX4_readAll ∈ TB := tb2 (k := 200) (by decide +kernel) rfl
theorem im_X4_readAll : Cond.instanceMethod yX4_readAll ∈ TB := tb2 (k := 202) (by decide +kernel) rfl
theorem cd_X4_readAll : Cond.code yX4_readAll cX4_readAll 2 (none) ∈ TB := tb2 (k := 203) (by decide +kernel) rfl
theorem ml_X4_112 : Cond.methodLink RX4 112 yX4_readLit ∈ TB := tb2 (k := 204) (by decide +kernel) rfl
theorem im_X4_readLit : Cond.instanceMethod yX4_readLit ∈ TB := tb2 (k := 206) (by decide +kernel) rfl
theorem cd_X4_readLit : Cond.code yX4_readLit cX4_readLit 2 (none) ∈ TB := tb2 (k := 207) (by decide +kernel) rfl
theorem ml_X4_115 : Cond.methodLink RX4 115 yX4_opens ∈ TB := tb2 (k := 208) (by decide +kernel) rfl
theorem im_X4_opens : Cond.instanceMethod yX4_opens ∈ TB := tb2 (k := 210) (by decide +kernel) rfl
theorem cd_X4_opens : Cond.code yX4_opens cX4_opens 2 (some FieldType.boolean) ∈ TB := tb2 (k := 211) (by decide +kernel) rfl
theorem ml_X4_108 : Cond.methodLink RX4 108 yX7_addStep ∈ TB := tb2 (k := 212) (by decide +kernel) rfl
theorem im_X7_addStep : Cond.instanceMethod yX7_addStep ∈ TB := tb2 (k := 213) (by decide +kernel) rfl
theorem se_X7_addStep : Cond.selects RX7 yX7_addStep yX7_addStep ∈ TB := tb2 (k := 214) (by decide +kernel) rfl
theorem cd_X7_addStep : Cond.code yX7_addStep cX7_addStep 3 (none) ∈ TB := tb2 (k := 215) (by decide +kernel) rfl
theorem kc_X7_42 : Cond.constant RX7 42 (65535) ∈ TB := tb2 (k := 216) (by decide +kernel) rfl
theorem ml_X4_95 : Cond.methodLink RX4 95 yX4_readSum ∈ TB := tb2 (k := 217) (by decide +kernel) rfl
theorem im_X4_readSum : Cond.instanceMethod yX4_readSum ∈ TB := tb2 (k := 219) (by decide +kernel) rfl
theorem cd_X4_readSum : Cond.code yX4_readSum cX4_readSum 4 (none) ∈ TB := tb2 (k := 220) (by decide +kernel) rfl
theorem ml_X4_98 : Cond.methodLink RX4 98 yX4_accepts ∈ TB := tb2 (k := 221) (by decide +kernel) rfl
theorem im_X4_accepts : Cond.instanceMethod yX4_accepts ∈ TB := tb2 (k := 223) (by decide +kernel) rfl
theorem cd_X4_accepts : Cond.code yX4_accepts cX4_accepts 2 (some FieldType.boolean) ∈ TB := tb2 (k := 224) (by decide +kernel) rfl
theorem ml_X4_126 : Cond.methodLink RX4 126 yX4_readPart ∈ TB := tb2 (k := 225) (by decide +kernel) rfl
theorem im_X4_readPart : Cond.instanceMethod yX4_readPart ∈ TB := tb2 (k := 227) (by decide +kernel) rfl
theorem cd_X4_readPart : Cond.code yX4_readPart cX4_readPart 2 (none) ∈ TB := tb2 (k := 228) (by decide +kernel) rfl
theorem ml_X4_129 : Cond.methodLink RX4 129 yX4_readUnit ∈ TB := tb2 (k := 229) (by decide +kernel) rfl
theorem im_X4_readUnit : Cond.instanceMethod yX4_readUnit ∈ TB := tb2 (k := 231) (by decide +kernel) rfl
theorem cd_X4_readUnit : Cond.code yX4_readUnit cX4_readUnit 1 (none) ∈ TB := tb2 (k := 232) (by decide +kernel) rfl
theorem ml_X4_132 : Cond.methodLink RX4 132 yX4_readTraitOf ∈ TB := tb2 (k := 233) (by decide +kernel) rfl
theorem im_X4_readTraitOf : Cond.instanceMethod yX4_readTraitOf ∈ TB := tb2 (k := 235) (by decide +kernel) rfl
theorem cd_X4_readTraitOf : Cond.code yX4_readTraitOf cX4_readTraitOf 3 (none) ∈ TB := tb2 (k := 236) (by decide +kernel) rfl
theorem ml_X4_118 : Cond.methodLink RX4 118 yX4_relationStep ∈ TB := tb2 (k := 237) (by decide +kernel) rfl
theorem im_X4_relationStep : Cond.instanceMethod yX4_relationStep ∈ TB := tb2 (k := 239) (by decide +kernel) rfl
theorem cd_X4_relationStep : Cond.code yX4_relationStep cX4_relationStep 1 (some FieldType.int) ∈ TB := tb3 (k := 0) (by decide +kernel) rfl
theorem ml_X4_101 : Cond.methodLink RX4 101 yX7_addRule ∈ TB := tb3 (k := 1) (by decide +kernel) rfl
theorem im_X7_addRule : Cond.instanceMethod yX7_addRule ∈ TB := tb3 (k := 2) (by decide +kernel) rfl
theorem se_X7_addRule : Cond.selects RX7 yX7_addRule yX7_addRule ∈ TB := tb3 (k := 3) (by decide +kernel) rfl
theorem cd_X7_addRule : Cond.code yX7_addRule cX7_addRule 4 (none) ∈ TB := tb3 (k := 4) (by decide +kernel) rfl
theorem ml_X10_107 : Cond.methodLink RX10 107 yX4_exchange ∈ TB := tb3 (k := 5) (by decide +kernel) rfl
theorem im_X4_exchange : Cond.instanceMethod yX4_exchange ∈ TB := tb3 (k := 6) (by decide +kernel) rfl
theorem se_X4_exchange : Cond.selects RX4 yX4_exchange yX4_exchange ∈ TB := tb3 (k := 7) (by decide +kernel) rfl
theorem cd_X4_exchange : Cond.code yX4_exchange cX4_exchange 3 (some (FieldType.object "HostYear$Text")) ∈ TB := tb3 (k := 8) (by decide +kernel) rfl
theorem ml_L_27 : Cond.methodLink RL 27 yX10_place ∈ TB := tb3 (k := 9) (by decide +kernel) rfl
theorem im_X10_place : Cond.instanceMethod yX10_place ∈ TB := tb3 (k := 10) (by decide +kernel) rfl
theorem se_X10_place : Cond.selects RX10 yX10_place yX10_place ∈ TB := tb3 (k := 11) (by decide +kernel) rfl
theorem cd_X10_place : Cond.code yX10_place cX10_place 1 (some FieldType.int) ∈ TB := tb3 (k := 12) (by decide +kernel) rfl
theorem ml_L_32 : Cond.methodLink RL 32 yX10_family ∈ TB := tb3 (k := 13) (by decide +kernel) rfl
theorem im_X10_family : Cond.instanceMethod yX10_family ∈ TB := tb3 (k := 14) (by decide +kernel) rfl
theorem se_X10_family : Cond.selects RX10 yX10_family yX10_family ∈ TB := tb3 (k := 15) (by decide +kernel) rfl
theorem cd_X10_family : Cond.code yX10_family cX10_family 1 (some FieldType.int) ∈ TB := tb3 (k := 16) (by decide +kernel) rfl
theorem ml_L_36 : Cond.methodLink RL 36 yX10_clock ∈ TB := tb3 (k := 17) (by decide +kernel) rfl
theorem im_X10_clock : Cond.instanceMethod yX10_clock ∈ TB := tb3 (k := 18) (by decide +kernel) rfl
theorem se_X10_clock : Cond.selects RX10 yX10_clock yX10_clock ∈ TB := tb3 (k := 19) (by decide +kernel) rfl
theorem cd_X10_clock : Cond.code yX10_clock cX10_clock 2 (some FieldType.boolean) ∈ TB := tb3 (k := 20) (by decide +kernel) rfl
theorem kc_X10_114 : Cond.constant RX10 114 (100000) ∈ TB := tb3 (k := 21) (by decide +kernel) rfl
theorem ml_L_41 : Cond.methodLink RL 41 yX10_term ∈ TB := tb3 (k := 22) (by decide +kernel) rfl
theorem im_X10_term : Cond.instanceMethod yX10_term ∈ TB := tb3 (k := 23) (by decide +kernel) rfl
theorem se_X10_term : Cond.selects RX10 yX10_term yX10_term ∈ TB := tb3 (k := 24) (by decide +kernel) rfl
theorem cd_X10_term : Cond.code yX10_term cX10_term 2 (some FieldType.boolean) ∈ TB := tb3 (k := 25) (by decide +kernel) rfl
theorem ml_X10_115 : Cond.methodLink RX10 115 yX10_isDay ∈ TB := tb3 (k := 26) (by decide +kernel) rfl
theorem sm_X10_isDay : Cond.static yX10_isDay ∈ TB := tb3 (k := 27) (by decide +kernel) rfl
theorem cd_X10_isDay : Cond.code yX10_isDay cX10_isDay 1 (some FieldType.boolean) ∈ TB := tb3 (k := 28) (by decide +kernel) rfl
theorem ml_L_45 : Cond.methodLink RL 45 yX10_tell ∈ TB := tb3 (k := 29) (by decide +kernel) rfl
theorem im_X10_tell : Cond.instanceMethod yX10_tell ∈ TB := tb3 (k := 30) (by decide +kernel) rfl
theorem se_X10_tell : Cond.selects RX10 yX10_tell yX10_tell ∈ TB := tb3 (k := 31) (by decide +kernel) rfl
theorem cd_X10_tell : Cond.code yX10_tell cX10_tell 5 (some FieldType.int) ∈ TB := tb3 (k := 32) (by decide +kernel) rfl
theorem ml_X10_119 : Cond.methodLink RX10 119 yX10_columnOf ∈ TB := tb3 (k := 33) (by decide +kernel) rfl
theorem im_X10_columnOf : Cond.instanceMethod yX10_columnOf ∈ TB := tb3 (k := 35) (by decide +kernel) rfl
theorem cd_X10_columnOf : Cond.code yX10_columnOf cX10_columnOf 2 (some FieldType.int) ∈ TB := tb3 (k := 36) (by decide +kernel) rfl
theorem ml_X10_123 : Cond.methodLink RX10 123 yX10_isFamily ∈ TB := tb3 (k := 37) (by decide +kernel) rfl
theorem im_X10_isFamily : Cond.instanceMethod yX10_isFamily ∈ TB := tb3 (k := 39) (by decide +kernel) rfl
theorem cd_X10_isFamily : Cond.code yX10_isFamily cX10_isFamily 2 (some FieldType.boolean) ∈ TB := tb3 (k := 40) (by decide +kernel) rfl
theorem ml_X10_126 : Cond.methodLink RX10 126 yX10_leastOf ∈ TB := tb3 (k := 41) (by decide +kernel) rfl
theorem sm_X10_leastOf : Cond.static yX10_leastOf ∈ TB := tb3 (k := 42) (by decide +kernel) rfl
theorem cd_X10_leastOf : Cond.code yX10_leastOf cX10_leastOf 1 (some FieldType.int) ∈ TB := tb3 (k := 43) (by decide +kernel) rfl
theorem ml_X10_129 : Cond.methodLink RX10 129 yX10_mostOf ∈ TB := tb3 (k := 44) (by decide +kernel) rfl
theorem sm_X10_mostOf : Cond.static yX10_mostOf ∈ TB := tb3 (k := 45) (by decide +kernel) rfl
theorem cd_X10_mostOf : Cond.code yX10_mostOf cX10_mostOf 1 (some FieldType.int) ∈ TB := tb3 (k := 46) (by decide +kernel) rfl
theorem ml_X10_132 : Cond.methodLink RX10 132 yX0_add ∈ TB := tb3 (k := 47) (by decide +kernel) rfl
theorem im_X0_add : Cond.instanceMethod yX0_add ∈ TB := tb3 (k := 48) (by decide +kernel) rfl
theorem se_X0_add : Cond.selects RX0 yX0_add yX0_add ∈ TB := tb3 (k := 49) (by decide +kernel) rfl
theorem cd_X0_add : Cond.code yX0_add cX0_add 4 (some FieldType.int) ∈ TB := tb3 (k := 50) (by decide +kernel) rfl
theorem ml_L_50 : Cond.methodLink RL 50 yX10_known ∈ TB := tb3 (k := 51) (by decide +kernel) rfl
theorem im_X10_known : Cond.instanceMethod yX10_known ∈ TB := tb3 (k := 52) (by decide +kernel) rfl
theorem se_X10_known : Cond.selects RX10 yX10_known yX10_known ∈ TB := tb3 (k := 53) (by decide +kernel) rfl
theorem cd_X10_known : Cond.code yX10_known cX10_known 5 (some FieldType.int) ∈ TB := tb3 (k := 54) (by decide +kernel) rfl
theorem ml_X10_136 : Cond.methodLink RX10 136 yX0_latest ∈ TB := tb3 (k := 55) (by decide +kernel) rfl
theorem im_X0_latest : Cond.instanceMethod yX0_latest ∈ TB := tb3 (k := 56) (by decide +kernel) rfl
theorem se_X0_latest : Cond.selects RX0 yX0_latest yX0_latest ∈ TB := tb3 (k := 57) (by decide +kernel) rfl
theorem cd_X0_latest : Cond.code yX0_latest cX0_latest 4 (some FieldType.int) ∈ TB := tb3 (k := 58) (by decide +kernel) rfl
theorem ml_L_54 : Cond.methodLink RL 54 yX10_why ∈ TB := tb3 (k := 59) (by decide +kernel) rfl
theorem im_X10_why : Cond.instanceMethod yX10_why ∈ TB := tb3 (k := 60) (by decide +kernel) rfl
theorem se_X10_why : Cond.selects RX10 yX10_why yX10_why ∈ TB := tb3 (k := 61) (by decide +kernel) rfl
theorem cd_X10_why : Cond.code yX10_why cX10_why 6 (some FieldType.int) ∈ TB := tb3 (k := 62) (by decide +kernel) rfl
theorem ml_X10_143 : Cond.methodLink RX10 143 yX0_fill ∈ TB := tb3 (k := 63) (by decide +kernel) rfl
theorem im_X0_fill : Cond.instanceMethod yX0_fill ∈ TB := tb3 (k := 64) (by decide +kernel) rfl
theorem se_X0_fill : Cond.selects RX0 yX0_fill yX0_fill ∈ TB := tb3 (k := 65) (by decide +kernel) rfl
theorem cd_X0_fill : Cond.code yX0_fill cX0_fill 4 (none) ∈ TB := tb3 (k := 66) (by decide +kernel) rfl
theorem ml_X10_147 : Cond.methodLink RX10 147 yX1_reason ∈ TB := tb3 (k := 67) (by decide +kernel) rfl
theorem im_X1_reason : Cond.instanceMethod yX1_reason ∈ TB := tb3 (k := 68) (by decide +kernel) rfl
theorem se_X1_reason : Cond.selects RX1 yX1_reason yX1_reason ∈ TB := tb3 (k := 69) (by decide +kernel) rfl
theorem cd_X1_reason : Cond.code yX1_reason cX1_reason 6 (some FieldType.int) ∈ TB := tb3 (k := 70) (by decide +kernel) rfl
theorem ml_X1_18 : Cond.methodLink RX1 18 yX1_fact ∈ TB := tb3 (k := 71) (by decide +kernel) rfl
theorem im_X1_fact : Cond.instanceMethod yX1_fact ∈ TB := tb3 (k := 72) (by decide +kernel) rfl
theorem se_X1_fact : Cond.selects RX1 yX1_fact yX1_fact ∈ TB := tb3 (k := 73) (by decide +kernel) rfl
theorem cd_X1_fact : Cond.code yX1_fact cX1_fact 4 (some FieldType.int) ∈ TB := tb3 (k := 74) (by decide +kernel) rfl
theorem ml_X1_32 : Cond.methodLink RX1 32 yX1_holds ∈ TB := tb3 (k := 75) (by decide +kernel) rfl
theorem im_X1_holds : Cond.instanceMethod yX1_holds ∈ TB := tb3 (k := 77) (by decide +kernel) rfl
theorem cd_X1_holds : Cond.code yX1_holds cX1_holds 6 (some FieldType.boolean) ∈ TB := tb3 (k := 78) (by decide +kernel) rfl
theorem ml_X1_46 : Cond.methodLink RX1 46 yX1_valueOf ∈ TB := tb3 (k := 79) (by decide +kernel) rfl
theorem im_X1_valueOf : Cond.instanceMethod yX1_valueOf ∈ TB := tb3 (k := 81) (by decide +kernel) rfl
theorem cd_X1_valueOf : Cond.code yX1_valueOf cX1_valueOf 9 (some FieldType.int) ∈ TB := tb3 (k := 82) (by decide +kernel) rfl
theorem ml_X1_55 : Cond.methodLink RX1 55 Lib.Math.max.name ∈ TB := tb3 (k := 83) (by decide +kernel) rfl
theorem sm_Mmax : Cond.static Lib.Math.max.name ∈ TB := tb3 (k := 84) (by decide +kernel) rfl
theorem cd_Mmax : Cond.code Lib.Math.max.name Lib.Math.max.code 2 (some FieldType.int) ∈ TB := tb3 (k := 85) (by decide +kernel) rfl
theorem kc_X1_64 : Cond.constant RX1 64 (65535) ∈ TB := tb3 (k := 86) (by decide +kernel) rfl
theorem ml_X1_65 : Cond.methodLink RX1 65 yX1_leaf ∈ TB := tb3 (k := 87) (by decide +kernel) rfl
theorem im_X1_leaf : Cond.instanceMethod yX1_leaf ∈ TB := tb3 (k := 89) (by decide +kernel) rfl
theorem cd_X1_leaf : Cond.code yX1_leaf cX1_leaf 5 (some FieldType.int) ∈ TB := tb3 (k := 90) (by decide +kernel) rfl
theorem ml_X1_69 : Cond.methodLink RX1 69 yX1_combine ∈ TB := tb3 (k := 91) (by decide +kernel) rfl
theorem sm_X1_combine : Cond.static yX1_combine ∈ TB := tb3 (k := 92) (by decide +kernel) rfl
theorem cd_X1_combine : Cond.code yX1_combine cX1_combine 3 (some FieldType.int) ∈ TB := tb3 (k := 93) (by decide +kernel) rfl
theorem ml_L_59 : Cond.methodLink RL 59 yX10_cost ∈ TB := tb3 (k := 94) (by decide +kernel) rfl
theorem im_X10_cost : Cond.instanceMethod yX10_cost ∈ TB := tb3 (k := 95) (by decide +kernel) rfl
theorem se_X10_cost : Cond.selects RX10 yX10_cost yX10_cost ∈ TB := tb3 (k := 96) (by decide +kernel) rfl
theorem cd_X10_cost : Cond.code yX10_cost cX10_cost 6 (some FieldType.int) ∈ TB := tb3 (k := 97) (by decide +kernel) rfl
theorem ml_X10_151 : Cond.methodLink RX10 151 yX1_costOrNone ∈ TB := tb3 (k := 98) (by decide +kernel) rfl
theorem im_X1_costOrNone : Cond.instanceMethod yX1_costOrNone ∈ TB := tb3 (k := 99) (by decide +kernel) rfl
theorem se_X1_costOrNone : Cond.selects RX1 yX1_costOrNone yX1_costOrNone ∈ TB := tb3 (k := 100) (by decide +kernel) rfl
theorem cd_X1_costOrNone : Cond.code yX1_costOrNone cX1_costOrNone 7 (some FieldType.int) ∈ TB := tb3 (k := 101) (by decide +kernel) rfl
theorem ml_X1_36 : Cond.methodLink RX1 36 yX1_reason ∈ TB := tb3 (k := 102) (by decide +kernel) rfl
theorem ml_X1_50 : Cond.methodLink RX1 50 Lib.Math.min.name ∈ TB := tb3 (k := 103) (by decide +kernel) rfl
theorem sm_Mmin : Cond.static Lib.Math.min.name ∈ TB := tb3 (k := 104) (by decide +kernel) rfl
theorem cd_Mmin : Cond.code Lib.Math.min.name Lib.Math.min.code 2 (some FieldType.int) ∈ TB := tb3 (k := 105) (by decide +kernel) rfl
theorem ml_L_63 : Cond.methodLink RL 63 yX10_round ∈ TB := tb3 (k := 106) (by decide +kernel) rfl
theorem im_X10_round : Cond.instanceMethod yX10_round ∈ TB := tb3 (k := 107) (by decide +kernel) rfl
theorem se_X10_round : Cond.selects RX10 yX10_round yX10_round ∈ TB := tb3 (k := 108) (by decide +kernel) rfl
theorem cd_X10_round : Cond.code yX10_round cX10_round 5 (some FieldType.int) ∈ TB := tb3 (k := 109) (by decide +kernel) rfl
theorem ml_X10_154 : Cond.methodLink RX10 154 yX10_prepare ∈ TB := tb3 (k := 110) (by decide +kernel) rfl
theorem im_X10_prepare : Cond.instanceMethod yX10_prepare ∈ TB := tb3 (k := 112) (by decide +kernel) rfl
theorem cd_X10_prepare : Cond.code yX10_prepare cX10_prepare 6 (none) ∈ TB := tb3 (k := 113) (by decide +kernel) rfl
theorem ml_X10_210 : Cond.methodLink RX10 210 yX1_fact ∈ TB := tb3 (k := 114) (by decide +kernel) rfl
theorem ml_X10_158 : Cond.methodLink RX10 158 yX5_forget ∈ TB := tb3 (k := 115) (by decide +kernel) rfl
theorem im_X5_forget : Cond.instanceMethod yX5_forget ∈ TB := tb3 (k := 116) (by decide +kernel) rfl
theorem se_X5_forget : Cond.selects RX5 yX5_forget yX5_forget ∈ TB := tb3 (k := 117) (by decide +kernel) rfl
theorem cd_X5_forget : Cond.code yX5_forget cX5_forget 2 (none) ∈ TB := tb3 (k := 118) (by decide +kernel) rfl
theorem ml_X10_161 : Cond.methodLink RX10 161 yX5_decide ∈ TB := tb3 (k := 119) (by decide +kernel) rfl
theorem im_X5_decide : Cond.instanceMethod yX5_decide ∈ TB := tb3 (k := 120) (by decide +kernel) rfl
theorem se_X5_decide : Cond.selects RX5 yX5_decide yX5_decide ∈ TB := tb3 (k := 121) (by decide +kernel) rfl
theorem cd_X5_decide : Cond.code yX5_decide cX5_decide 3 (none) ∈ TB := tb3 (k := 122) (by decide +kernel) rfl
theorem ml_X5_46 : Cond.methodLink RX5 46 yX5_weighPlaces ∈ TB := tb3 (k := 123) (by decide +kernel) rfl
theorem im_X5_weighPlaces : Cond.instanceMethod yX5_weighPlaces ∈ TB := tb3 (k := 125) (by decide +kernel) rfl
theorem cd_X5_weighPlaces : Cond.code yX5_weighPlaces cX5_weighPlaces 3 (none) ∈ TB := tb3 (k := 126) (by decide +kernel) rfl
theorem ml_X5_74 : Cond.methodLink RX5 74 yX5_placeWeight ∈ TB := tb3 (k := 127) (by decide +kernel) rfl
theorem im_X5_placeWeight : Cond.instanceMethod yX5_placeWeight ∈ TB := tb3 (k := 129) (by decide +kernel) rfl
theorem cd_X5_placeWeight : Cond.code yX5_placeWeight cX5_placeWeight 4 (some FieldType.long) ∈ TB := tb3 (k := 130) (by decide +kernel) rfl
theorem ml_X5_59 : Cond.methodLink RX5 59 yX5_mayGo ∈ TB := tb3 (k := 131) (by decide +kernel) rfl
theorem im_X5_mayGo : Cond.instanceMethod yX5_mayGo ∈ TB := tb3 (k := 133) (by decide +kernel) rfl
theorem cd_X5_mayGo : Cond.code yX5_mayGo cX5_mayGo 3 (some FieldType.boolean) ∈ TB := tb3 (k := 134) (by decide +kernel) rfl
theorem ml_X5_67 : Cond.methodLink RX5 67 yX5_mayBe ∈ TB := tb3 (k := 135) (by decide +kernel) rfl
theorem im_X5_mayBe : Cond.instanceMethod yX5_mayBe ∈ TB := tb3 (k := 137) (by decide +kernel) rfl
theorem cd_X5_mayBe : Cond.code yX5_mayBe cX5_mayBe 4 (some FieldType.boolean) ∈ TB := tb3 (k := 138) (by decide +kernel) rfl
theorem kl_X5_78 : Cond.constantLong RX5 78 (262144) ∈ TB := tb3 (k := 139) (by decide +kernel) rfl
theorem kl_X5_80 : Cond.constantLong RX5 80 (8388608) ∈ TB := tb3 (k := 140) (by decide +kernel) rfl
theorem kl_X5_82 : Cond.constantLong RX5 82 (1125899906842624) ∈ TB := tb3 (k := 141) (by decide +kernel) rfl
theorem ml_X5_49 : Cond.methodLink RX5 49 yX3_solve ∈ TB := tb3 (k := 142) (by decide +kernel) rfl
theorem im_X3_solve : Cond.instanceMethod yX3_solve ∈ TB := tb3 (k := 143) (by decide +kernel) rfl
theorem se_X3_solve : Cond.selects RX3 yX3_solve yX3_solve ∈ TB := tb3 (k := 144) (by decide +kernel) rfl
theorem cd_X3_solve : Cond.code yX3_solve cX3_solve 4 (none) ∈ TB := tb3 (k := 145) (by decide +kernel) rfl
theorem ml_X3_35 : Cond.methodLink RX3 35 Lib.Math.min.name ∈ TB := tb3 (k := 146) (by decide +kernel) rfl
theorem ml_X3_41 : Cond.methodLink RX3 41 Lib.Math.max.name ∈ TB := tb3 (k := 147) (by decide +kernel) rfl
theorem ml_X3_44 : Cond.methodLink RX3 44 yX3_placeRow ∈ TB := tb3 (k := 148) (by decide +kernel) rfl
theorem im_X3_placeRow : Cond.instanceMethod yX3_placeRow ∈ TB := tb3 (k := 150) (by decide +kernel) rfl
theorem cd_X3_placeRow : Cond.code yX3_placeRow cX3_placeRow 6 (none) ∈ TB := tb3 (k := 151) (by decide +kernel) rfl
theorem kl_X3_50 : Cond.constantLong RX3 50 (1152921504606846976) ∈ TB := tb3 (k := 152) (by decide +kernel) rfl
theorem ml_X3_52 : Cond.methodLink RX3 52 yX3_nextColumn ∈ TB := tb3 (k := 153) (by decide +kernel) rfl
theorem im_X3_nextColumn : Cond.instanceMethod yX3_nextColumn ∈ TB := tb3 (k := 155) (by decide +kernel) rfl
theorem cd_X3_nextColumn : Cond.code yX3_nextColumn cX3_nextColumn 10 (some FieldType.int) ∈ TB := tb3 (k := 156) (by decide +kernel) rfl
theorem ml_X3_55 : Cond.methodLink RX3 55 yX3_shiftPrices ∈ TB := tb3 (k := 157) (by decide +kernel) rfl
theorem im_X3_shiftPrices : Cond.instanceMethod yX3_shiftPrices ∈ TB := tb3 (k := 159) (by decide +kernel) rfl
theorem cd_X3_shiftPrices : Cond.code yX3_shiftPrices cX3_shiftPrices 5 (none) ∈ TB := tb3 (k := 160) (by decide +kernel) rfl
theorem ml_X5_53 : Cond.methodLink RX5 53 yX5_weighOrder ∈ TB := tb3 (k := 161) (by decide +kernel) rfl
theorem im_X5_weighOrder : Cond.instanceMethod yX5_weighOrder ∈ TB := tb3 (k := 163) (by decide +kernel) rfl
theorem cd_X5_weighOrder : Cond.code yX5_weighOrder cX5_weighOrder 6 (none) ∈ TB := tb3 (k := 164) (by decide +kernel) rfl
theorem ml_X5_84 : Cond.methodLink RX5 84 Lib.Math.min.name ∈ TB := tb3 (k := 165) (by decide +kernel) rfl
theorem ml_X5_90 : Cond.methodLink RX5 90 yX3_isTight ∈ TB := tb3 (k := 166) (by decide +kernel) rfl
theorem im_X3_isTight : Cond.instanceMethod yX3_isTight ∈ TB := tb3 (k := 167) (by decide +kernel) rfl
theorem se_X3_isTight : Cond.selects RX3 yX3_isTight yX3_isTight ∈ TB := tb3 (k := 168) (by decide +kernel) rfl
theorem cd_X3_isTight : Cond.code yX3_isTight cX3_isTight 5 (some FieldType.boolean) ∈ TB := tb3 (k := 169) (by decide +kernel) rfl
theorem kl_X3_48 : Cond.constantLong RX3 48 (1125899906842624) ∈ TB := tb3 (k := 170) (by decide +kernel) rfl
theorem kl_X5_93 : Cond.constantLong RX5 93 (13) ∈ TB := tb3 (k := 171) (by decide +kernel) rfl
theorem ml_X10_167 : Cond.methodLink RX10 167 yX5_costTogether ∈ TB := tb3 (k := 172) (by decide +kernel) rfl
theorem im_X5_costTogether : Cond.instanceMethod yX5_costTogether ∈ TB := tb3 (k := 173) (by decide +kernel) rfl
theorem se_X5_costTogether : Cond.selects RX5 yX5_costTogether yX5_costTogether ∈ TB := tb3 (k := 174) (by decide +kernel) rfl
theorem cd_X5_costTogether : Cond.code yX5_costTogether cX5_costTogether 4 (some FieldType.int) ∈ TB := tb3 (k := 175) (by decide +kernel) rfl
theorem ml_X10_171 : Cond.methodLink RX10 171 yX10_goingIn ∈ TB := tb3 (k := 176) (by decide +kernel) rfl
theorem sm_X10_goingIn : Cond.static yX10_goingIn ∈ TB := tb3 (k := 177) (by decide +kernel) rfl
theorem cd_X10_goingIn : Cond.code yX10_goingIn cX10_goingIn 3 (some FieldType.int) ∈ TB := tb3 (k := 178) (by decide +kernel) rfl
theorem ml_L_68 : Cond.methodLink RL 68 yX10_goes ∈ TB := tb3 (k := 179) (by decide +kernel) rfl
theorem im_X10_goes : Cond.instanceMethod yX10_goes ∈ TB := tb3 (k := 180) (by decide +kernel) rfl
theorem se_X10_goes : Cond.selects RX10 yX10_goes yX10_goes ∈ TB := tb3 (k := 181) (by decide +kernel) rfl
theorem cd_X10_goes : Cond.code yX10_goes cX10_goes 2 (some FieldType.int) ∈ TB := tb3 (k := 182) (by decide +kernel) rfl
theorem ml_L_72 : Cond.methodLink RL 72 yX10_costs ∈ TB := tb3 (k := 183) (by decide +kernel) rfl
theorem im_X10_costs : Cond.instanceMethod yX10_costs ∈ TB := tb3 (k := 184) (by decide +kernel) rfl
theorem se_X10_costs : Cond.selects RX10 yX10_costs yX10_costs ∈ TB := tb3 (k := 185) (by decide +kernel) rfl
theorem cd_X10_costs : Cond.code yX10_costs cX10_costs 1 (some FieldType.int) ∈ TB := tb3 (k := 186) (by decide +kernel) rfl
theorem ml_L_76 : Cond.methodLink RL 76 yX10_take ∈ TB := tb3 (k := 187) (by decide +kernel) rfl
theorem im_X10_take : Cond.instanceMethod yX10_take ∈ TB := tb3 (k := 188) (by decide +kernel) rfl
theorem se_X10_take : Cond.selects RX10 yX10_take yX10_take ∈ TB := tb3 (k := 189) (by decide +kernel) rfl
theorem cd_X10_take : Cond.code yX10_take cX10_take 1 (some FieldType.int) ∈ TB := tb3 (k := 190) (by decide +kernel) rfl
theorem ml_X10_178 : Cond.methodLink RX10 178 yX5_allows ∈ TB := tb3 (k := 191) (by decide +kernel) rfl
theorem im_X5_allows : Cond.instanceMethod yX5_allows ∈ TB := tb3 (k := 192) (by decide +kernel) rfl
theorem se_X5_allows : Cond.selects RX5 yX5_allows yX5_allows ∈ TB := tb3 (k := 193) (by decide +kernel) rfl
theorem cd_X5_allows : Cond.code yX5_allows cX5_allows 5 (some FieldType.boolean) ∈ TB := tb3 (k := 194) (by decide +kernel) rfl
theorem sm_X10_guestIn : Cond.static yX10_guestIn ∈ TB := tb3 (k := 196) (by decide +kernel) rfl
theorem cd_X10_guestIn : Cond.code yX10_guestIn cX10_guestIn 3 (some FieldType.int) ∈ TB := tb3 (k := 197) (by decide +kernel) rfl
theorem ml_X10_182 : Cond.methodLink RX10 182 yX9_begin ∈ TB := tb3 (k := 198) (by decide +kernel) rfl
theorem im_X9_begin : Cond.instanceMethod yX9_begin ∈ TB := tb3 (k := 199) (by decide +kernel) rfl
theorem se_X9_begin : Cond.selects RX9 yX9_begin yX9_begin ∈ TB := tb3 (k := 200) (by decide +kernel) rfl
theorem cd_X9_begin : Cond.code yX9_begin cX9_begin 3 (none) ∈ TB := tb3 (k := 201) (by decide +kernel) rfl
theorem ml_L_80 : Cond.methodLink RL 80 yX10_fall ∈ TB := tb3 (k := 202) (by decide +kernel) rfl
theorem im_X10_fall : Cond.instanceMethod yX10_fall ∈ TB := tb3 (k := 203) (by decide +kernel) rfl
theorem se_X10_fall : Cond.selects RX10 yX10_fall yX10_fall ∈ TB := tb3 (k := 204) (by decide +kernel) rfl
theorem cd_X10_fall : Cond.code yX10_fall cX10_fall 2 (some FieldType.int) ∈ TB := tb3 (k := 205) (by decide +kernel) rfl
theorem ml_X10_187 : Cond.methodLink RX10 187 yX9_dropOut ∈ TB := tb3 (k := 206) (by decide +kernel) rfl
theorem im_X9_dropOut : Cond.instanceMethod yX9_dropOut ∈ TB := tb3 (k := 207) (by decide +kernel) rfl
theorem se_X9_dropOut : Cond.selects RX9 yX9_dropOut yX9_dropOut ∈ TB := tb3 (k := 208) (by decide +kernel) rfl
theorem cd_X9_dropOut : Cond.code yX9_dropOut cX9_dropOut 2 (none) ∈ TB := tb3 (k := 209) (by decide +kernel) rfl
theorem ml_X10_190 : Cond.methodLink RX10 190 yX5_remember ∈ TB := tb3 (k := 210) (by decide +kernel) rfl
theorem im_X5_remember : Cond.instanceMethod yX5_remember ∈ TB := tb3 (k := 211) (by decide +kernel) rfl
theorem se_X5_remember : Cond.selects RX5 yX5_remember yX5_remember ∈ TB := tb3 (k := 212) (by decide +kernel) rfl
theorem cd_X5_remember : Cond.code yX5_remember cX5_remember 3 (none) ∈ TB := tb3 (k := 213) (by decide +kernel) rfl
theorem ml_X10_194 : Cond.methodLink RX10 194 yX9_change ∈ TB := tb3 (k := 214) (by decide +kernel) rfl
theorem im_X9_change : Cond.instanceMethod yX9_change ∈ TB := tb3 (k := 215) (by decide +kernel) rfl
theorem se_X9_change : Cond.selects RX9 yX9_change yX9_change ∈ TB := tb3 (k := 216) (by decide +kernel) rfl
theorem cd_X9_change : Cond.code yX9_change cX9_change 3 (some FieldType.int) ∈ TB := tb3 (k := 217) (by decide +kernel) rfl
theorem ml_L_84 : Cond.methodLink RL 84 yX10_moved ∈ TB := tb3 (k := 218) (by decide +kernel) rfl
theorem im_X10_moved : Cond.instanceMethod yX10_moved ∈ TB := tb3 (k := 219) (by decide +kernel) rfl
theorem se_X10_moved : Cond.selects RX10 yX10_moved yX10_moved ∈ TB := tb3 (k := 220) (by decide +kernel) rfl
theorem cd_X10_moved : Cond.code yX10_moved cX10_moved 2 (some FieldType.int) ∈ TB := tb3 (k := 221) (by decide +kernel) rfl
theorem ml_L_88 : Cond.methodLink RL 88 yX10_close ∈ TB := tb3 (k := 222) (by decide +kernel) rfl
theorem im_X10_close : Cond.instanceMethod yX10_close ∈ TB := tb3 (k := 223) (by decide +kernel) rfl
theorem se_X10_close : Cond.selects RX10 yX10_close yX10_close ∈ TB := tb3 (k := 224) (by decide +kernel) rfl
theorem cd_X10_close : Cond.code yX10_close cX10_close 4 (some FieldType.int) ∈ TB := tb3 (k := 225) (by decide +kernel) rfl
theorem ml_X10_203 : Cond.methodLink RX10 203 yX9_guestOf ∈ TB := tb3 (k := 226) (by decide +kernel) rfl
theorem im_X9_guestOf : Cond.instanceMethod yX9_guestOf ∈ TB := tb3 (k := 227) (by decide +kernel) rfl
theorem se_X9_guestOf : Cond.selects RX9 yX9_guestOf yX9_guestOf ∈ TB := tb3 (k := 228) (by decide +kernel) rfl
theorem cd_X9_guestOf : Cond.code yX9_guestOf cX9_guestOf 2 (some FieldType.int) ∈ TB := tb3 (k := 229) (by decide +kernel) rfl
theorem ml_X10_206 : Cond.methodLink RX10 206 yX2_settle ∈ TB := tb3 (k := 231) (by decide +kernel) rfl
theorem im_X2_settle : Cond.instanceMethod yX2_settle ∈ TB := tb3 (k := 232) (by decide +kernel) rfl
theorem se_X2_settle : Cond.selects RX2 yX2_settle yX2_settle ∈ TB := tb3 (k := 233) (by decide +kernel) rfl
theorem cd_X2_settle : Cond.code yX2_settle cX2_settle 4 (none) ∈ TB := tb3 (k := 234) (by decide +kernel) rfl
theorem ml_X10_213 : Cond.methodLink RX10 213 yX2_pay ∈ TB := tb3 (k := 235) (by decide +kernel) rfl
theorem im_X2_pay : Cond.instanceMethod yX2_pay ∈ TB := tb3 (k := 236) (by decide +kernel) rfl
theorem se_X2_pay : Cond.selects RX2 yX2_pay yX2_pay ∈ TB := tb3 (k := 237) (by decide +kernel) rfl
theorem cd_X2_pay : Cond.code yX2_pay cX2_pay 4 (none) ∈ TB := tb3 (k := 238) (by decide +kernel) rfl
theorem ml_X10_217 : Cond.methodLink RX10 217 yX9_clear ∈ TB := tb3 (k := 239) (by decide +kernel) rfl
theorem im_X9_clear : Cond.instanceMethod yX9_clear ∈ TB := tb4 (k := 0) (by decide +kernel) rfl
theorem se_X9_clear : Cond.selects RX9 yX9_clear yX9_clear ∈ TB := tb4 (k := 1) (by decide +kernel) rfl
theorem cd_X9_clear : Cond.code yX9_clear cX9_clear 2 (none) ∈ TB := tb4 (k := 2) (by decide +kernel) rfl
theorem ml_L_92 : Cond.methodLink RL 92 yX10_link ∈ TB := tb4 (k := 3) (by decide +kernel) rfl
theorem im_X10_link : Cond.instanceMethod yX10_link ∈ TB := tb4 (k := 4) (by decide +kernel) rfl
theorem se_X10_link : Cond.selects RX10 yX10_link yX10_link ∈ TB := tb4 (k := 5) (by decide +kernel) rfl
theorem cd_X10_link : Cond.code yX10_link cX10_link 5 (some FieldType.int) ∈ TB := tb4 (k := 6) (by decide +kernel) rfl
theorem ml_L_96 : Cond.methodLink RL 96 yX10_of ∈ TB := tb4 (k := 7) (by decide +kernel) rfl
theorem im_X10_of : Cond.instanceMethod yX10_of ∈ TB := tb4 (k := 8) (by decide +kernel) rfl
theorem se_X10_of : Cond.selects RX10 yX10_of yX10_of ∈ TB := tb4 (k := 9) (by decide +kernel) rfl
theorem cd_X10_of : Cond.code yX10_of cX10_of 3 (some FieldType.int) ∈ TB := tb4 (k := 10) (by decide +kernel) rfl
theorem ml_L_100 : Cond.methodLink RL 100 yX10_count ∈ TB := tb4 (k := 11) (by decide +kernel) rfl
theorem im_X10_count : Cond.instanceMethod yX10_count ∈ TB := tb4 (k := 12) (by decide +kernel) rfl
theorem se_X10_count : Cond.selects RX10 yX10_count yX10_count ∈ TB := tb4 (k := 13) (by decide +kernel) rfl
theorem cd_X10_count : Cond.code yX10_count cX10_count 2 (some FieldType.int) ∈ TB := tb4 (k := 14) (by decide +kernel) rfl
theorem cl_L_10 : Cond.classLink RL 10 RX11 ∈ TB := tb4 (k := 15) (by decide +kernel) rfl
theorem it_X11 : Cond.instantiable RX11 58 ∈ TB := tb4 (k := 16) (by decide +kernel) rfl
theorem ml_L_12 : Cond.methodLink RL 12 yX11_init ∈ TB := tb4 (k := 17) (by decide +kernel) rfl
theorem im_X11_init : Cond.instanceMethod yX11_init ∈ TB := tb4 (k := 18) (by decide +kernel) rfl
theorem cd_X11_init : Cond.code yX11_init cX11_init 2 (none) ∈ TB := tb4 (k := 19) (by decide +kernel) rfl
theorem ml_X11_1 : Cond.methodLink RX11 1 objectInit ∈ TB := tb4 (k := 20) (by decide +kernel) rfl
theorem kc_X11_107 : Cond.constant RX11 107 (53248) ∈ TB := tb4 (k := 21) (by decide +kernel) rfl
theorem fl_X11_7 : Cond.fieldLink RX11 7 "HostYearModel" "tape" "[B" ∈ TB := tb4 (k := 22) (by decide +kernel) rfl
theorem fl_X11_117 : Cond.fieldLink RX11 117 "HostYearModel" "taped" "I" ∈ TB := tb4 (k := 23) (by decide +kernel) rfl
theorem fl_X11_173 : Cond.fieldLink RX11 173 "HostYearModel" "faultKind" "I" ∈ TB := tb4 (k := 24) (by decide +kernel) rfl
theorem fl_X11_13 : Cond.fieldLink RX11 13 "HostYearModel" "faultPlace" "I" ∈ TB := tb4 (k := 25) (by decide +kernel) rfl
theorem fl_X11_17 : Cond.fieldLink RX11 17 "HostYearModel" "order" "[I" ∈ TB := tb4 (k := 26) (by decide +kernel) rfl
theorem fl_X11_21 : Cond.fieldLink RX11 21 "HostYearModel" "number" "[I" ∈ TB := tb4 (k := 27) (by decide +kernel) rfl
theorem fl_X11_24 : Cond.fieldLink RX11 24 "HostYearModel" "orders" "[I" ∈ TB := tb4 (k := 28) (by decide +kernel) rfl
theorem fl_X11_27 : Cond.fieldLink RX11 27 "HostYearModel" "rules" "[I" ∈ TB := tb4 (k := 29) (by decide +kernel) rfl
theorem fl_X11_30 : Cond.fieldLink RX11 30 "HostYearModel" "isBar" "[Z" ∈ TB := tb4 (k := 30) (by decide +kernel) rfl
theorem fl_X11_34 : Cond.fieldLink RX11 34 "HostYearModel" "eFrom" "[I" ∈ TB := tb4 (k := 31) (by decide +kernel) rfl
theorem fl_X11_37 : Cond.fieldLink RX11 37 "HostYearModel" "eTo" "[I" ∈ TB := tb4 (k := 32) (by decide +kernel) rfl
theorem fl_X11_40 : Cond.fieldLink RX11 40 "HostYearModel" "condFrom" "[I" ∈ TB := tb4 (k := 33) (by decide +kernel) rfl
theorem fl_X11_43 : Cond.fieldLink RX11 43 "HostYearModel" "condTo" "[I" ∈ TB := tb4 (k := 34) (by decide +kernel) rfl
theorem fl_X11_46 : Cond.fieldLink RX11 46 "HostYearModel" "traitName" "[J" ∈ TB := tb4 (k := 35) (by decide +kernel) rfl
theorem fl_X11_193 : Cond.fieldLink RX11 193 "HostYearModel" "traits" "I" ∈ TB := tb4 (k := 36) (by decide +kernel) rfl
theorem fl_X11_251 : Cond.fieldLink RX11 251 "HostYearModel" "families" "I" ∈ TB := tb4 (k := 37) (by decide +kernel) rfl
theorem fl_X11_255 : Cond.fieldLink RX11 255 "HostYearModel" "clock" "I" ∈ TB := tb4 (k := 38) (by decide +kernel) rfl
theorem fl_X11_261 : Cond.fieldLink RX11 261 "HostYearModel" "term" "I" ∈ TB := tb4 (k := 39) (by decide +kernel) rfl
theorem fl_X11_267 : Cond.fieldLink RX11 267 "HostYearModel" "facts" "I" ∈ TB := tb4 (k := 40) (by decide +kernel) rfl
theorem fl_X11_50 : Cond.fieldLink RX11 50 "HostYearModel" "factOf" "[I" ∈ TB := tb4 (k := 41) (by decide +kernel) rfl
theorem fl_X11_53 : Cond.fieldLink RX11 53 "HostYearModel" "factWhat" "[I" ∈ TB := tb4 (k := 42) (by decide +kernel) rfl
theorem fl_X11_56 : Cond.fieldLink RX11 56 "HostYearModel" "factValue" "[I" ∈ TB := tb4 (k := 43) (by decide +kernel) rfl
theorem fl_X11_59 : Cond.fieldLink RX11 59 "HostYearModel" "factDay" "[I" ∈ TB := tb4 (k := 44) (by decide +kernel) rfl
theorem fl_X11_62 : Cond.fieldLink RX11 62 "HostYearModel" "home" "[I" ∈ TB := tb4 (k := 45) (by decide +kernel) rfl
theorem fl_X11_65 : Cond.fieldLink RX11 65 "HostYearModel" "isOut" "[Z" ∈ TB := tb4 (k := 46) (by decide +kernel) rfl
theorem fl_X11_68 : Cond.fieldLink RX11 68 "HostYearModel" "debt" "[I" ∈ TB := tb4 (k := 47) (by decide +kernel) rfl
theorem fl_X11_71 : Cond.fieldLink RX11 71 "HostYearModel" "given" "[I" ∈ TB := tb4 (k := 48) (by decide +kernel) rfl
theorem fl_X11_74 : Cond.fieldLink RX11 74 "HostYearModel" "money" "[I" ∈ TB := tb4 (k := 49) (by decide +kernel) rfl
theorem fl_X11_362 : Cond.fieldLink RX11 362 "HostYearModel" "hadPlaces" "Z" ∈ TB := tb4 (k := 50) (by decide +kernel) rfl
theorem fl_X11_375 : Cond.fieldLink RX11 375 "HostYearModel" "years" "I" ∈ TB := tb4 (k := 51) (by decide +kernel) rfl
theorem fl_X11_355 : Cond.fieldLink RX11 355 "HostYearModel" "isRound" "Z" ∈ TB := tb4 (k := 52) (by decide +kernel) rfl
theorem fl_X11_77 : Cond.fieldLink RX11 77 "HostYearModel" "roundHome" "[I" ∈ TB := tb4 (k := 53) (by decide +kernel) rfl
theorem fl_X11_352 : Cond.fieldLink RX11 352 "HostYearModel" "roundCost" "I" ∈ TB := tb4 (k := 54) (by decide +kernel) rfl
theorem fl_X11_80 : Cond.fieldLink RX11 80 "HostYearModel" "movedOnes" "[I" ∈ TB := tb4 (k := 55) (by decide +kernel) rfl
theorem fl_X11_372 : Cond.fieldLink RX11 372 "HostYearModel" "movedMany" "I" ∈ TB := tb4 (k := 56) (by decide +kernel) rfl
theorem fl_X11_155 : Cond.fieldLink RX11 155 "HostYearModel" "kind" "I" ∈ TB := tb4 (k := 57) (by decide +kernel) rfl
theorem fl_X11_149 : Cond.fieldLink RX11 149 "HostYearModel" "begin" "I" ∈ TB := tb4 (k := 58) (by decide +kernel) rfl
theorem fl_X11_146 : Cond.fieldLink RX11 146 "HostYearModel" "end" "I" ∈ TB := tb4 (k := 59) (by decide +kernel) rfl
theorem fl_X11_152 : Cond.fieldLink RX11 152 "HostYearModel" "mark" "I" ∈ TB := tb4 (k := 60) (by decide +kernel) rfl
theorem fl_X11_165 : Cond.fieldLink RX11 165 "HostYearModel" "letters" "J" ∈ TB := tb4 (k := 61) (by decide +kernel) rfl
theorem fl_X11_176 : Cond.fieldLink RX11 176 "HostYearModel" "tokens" "I" ∈ TB := tb4 (k := 62) (by decide +kernel) rfl
theorem fl_X11_218 : Cond.fieldLink RX11 218 "HostYearModel" "open" "I" ∈ TB := tb4 (k := 63) (by decide +kernel) rfl
theorem fl_X11_83 : Cond.fieldLink RX11 83 "HostYearModel" "waiting" "[I" ∈ TB := tb4 (k := 64) (by decide +kernel) rfl
theorem fl_X11_196 : Cond.fieldLink RX11 196 "HostYearModel" "waits" "I" ∈ TB := tb4 (k := 65) (by decide +kernel) rfl
theorem fl_X11_86 : Cond.fieldLink RX11 86 "HostYearModel" "judging" "[I" ∈ TB := tb4 (k := 66) (by decide +kernel) rfl
theorem fl_X11_199 : Cond.fieldLink RX11 199 "HostYearModel" "judges" "I" ∈ TB := tb4 (k := 67) (by decide +kernel) rfl
theorem fl_X11_89 : Cond.fieldLink RX11 89 "HostYearModel" "now" "[I" ∈ TB := tb4 (k := 68) (by decide +kernel) rfl
theorem fl_X11_92 : Cond.fieldLink RX11 92 "HostYearModel" "pile" "[I" ∈ TB := tb4 (k := 69) (by decide +kernel) rfl
theorem fl_X11_95 : Cond.fieldLink RX11 95 "HostYearModel" "may" "[I" ∈ TB := tb4 (k := 70) (by decide +kernel) rfl
theorem fl_X11_98 : Cond.fieldLink RX11 98 "HostYearModel" "isTrusted" "[Z" ∈ TB := tb4 (k := 71) (by decide +kernel) rfl
theorem fl_X11_101 : Cond.fieldLink RX11 101 "HostYearModel" "isGiver" "[Z" ∈ TB := tb4 (k := 72) (by decide +kernel) rfl
theorem fl_X11_104 : Cond.fieldLink RX11 104 "HostYearModel" "asIs" "[I" ∈ TB := tb4 (k := 73) (by decide +kernel) rfl
theorem fl_X11_304 : Cond.fieldLink RX11 304 "HostYearModel" "keeps" "Z" ∈ TB := tb4 (k := 74) (by decide +kernel) rfl
theorem fl_X11_108 : Cond.fieldLink RX11 108 "HostYearModel" "least" "[I" ∈ TB := tb4 (k := 75) (by decide +kernel) rfl
theorem fl_X11_111 : Cond.fieldLink RX11 111 "HostYearModel" "trial" "[I" ∈ TB := tb4 (k := 76) (by decide +kernel) rfl
theorem fl_X11_114 : Cond.fieldLink RX11 114 "HostYearModel" "chosen" "[I" ∈ TB := tb4 (k := 77) (by decide +kernel) rfl
theorem fl_X11_325 : Cond.fieldLink RX11 325 "HostYearModel" "chosenCounts" "I" ∈ TB := tb4 (k := 78) (by decide +kernel) rfl
theorem fl_X11_328 : Cond.fieldLink RX11 328 "HostYearModel" "chosenMany" "I" ∈ TB := tb4 (k := 79) (by decide +kernel) rfl
theorem ml_L_17 : Cond.methodLink RL 17 yX11_feed ∈ TB := tb4 (k := 197) (by decide +kernel) rfl
theorem im_X11_feed : Cond.instanceMethod yX11_feed ∈ TB := tb4 (k := 198) (by decide +kernel) rfl
theorem se_X11_feed : Cond.selects RX11 yX11_feed yX11_feed ∈ TB := tb4 (k := 199) (by decide +kernel) rfl
theorem cd_X11_feed : Cond.code yX11_feed cX11_feed 6 (some FieldType.int) ∈ TB := tb4 (k := 200) (by decide +kernel) rfl
theorem ml_X11_120 : Cond.methodLink RX11 120 yX11_byteRow ∈ TB := tb4 (k := 201) (by decide +kernel) rfl
theorem im_X11_byteRow : Cond.instanceMethod yX11_byteRow ∈ TB := tb4 (k := 203) (by decide +kernel) rfl
theorem cd_X11_byteRow : Cond.code yX11_byteRow cX11_byteRow 3 (none) ∈ TB := tb4 (k := 204) (by decide +kernel) rfl
theorem ml_L_22 : Cond.methodLink RL 22 yX11_back ∈ TB := tb4 (k := 205) (by decide +kernel) rfl
theorem im_X11_back : Cond.instanceMethod yX11_back ∈ TB := tb4 (k := 206) (by decide +kernel) rfl
theorem se_X11_back : Cond.selects RX11 yX11_back yX11_back ∈ TB := tb4 (k := 207) (by decide +kernel) rfl
theorem cd_X11_back : Cond.code yX11_back cX11_back 2 (some FieldType.int) ∈ TB := tb4 (k := 208) (by decide +kernel) rfl
theorem ml_L_26 : Cond.methodLink RL 26 yX11_read ∈ TB := tb4 (k := 209) (by decide +kernel) rfl
theorem im_X11_read : Cond.instanceMethod yX11_read ∈ TB := tb4 (k := 210) (by decide +kernel) rfl
theorem se_X11_read : Cond.selects RX11 yX11_read yX11_read ∈ TB := tb4 (k := 211) (by decide +kernel) rfl
theorem cd_X11_read : Cond.code yX11_read cX11_read 4 (some FieldType.int) ∈ TB := tb4 (k := 212) (by decide +kernel) rfl
theorem ml_X11_183 : Cond.methodLink RX11 183 yX11_token ∈ TB := tb4 (k := 213) (by decide +kernel) rfl
theorem im_X11_token : Cond.instanceMethod yX11_token ∈ TB := tb4 (k := 215) (by decide +kernel) rfl
theorem cd_X11_token : Cond.code yX11_token cX11_token 7 (none) ∈ TB := tb4 (k := 216) (by decide +kernel) rfl
theorem ml_X11_124 : Cond.methodLink RX11 124 yX11_seen ∈ TB := tb4 (k := 217) (by decide +kernel) rfl
theorem im_X11_seen : Cond.instanceMethod yX11_seen ∈ TB := tb4 (k := 219) (by decide +kernel) rfl
theorem cd_X11_seen : Cond.code yX11_seen cX11_seen 2 (some FieldType.int) ∈ TB := tb4 (k := 220) (by decide +kernel) rfl
theorem ml_X11_158 : Cond.methodLink RX11 158 yX11_isLetter ∈ TB := tb4 (k := 221) (by decide +kernel) rfl
theorem im_X11_isLetter : Cond.instanceMethod yX11_isLetter ∈ TB := tb4 (k := 223) (by decide +kernel) rfl
theorem cd_X11_isLetter : Cond.code yX11_isLetter cX11_isLetter 2 (some FieldType.boolean) ∈ TB := tb4 (k := 224) (by decide +kernel) rfl
theorem ml_X11_162 : Cond.methodLink RX11 162 yX11_isDigit ∈ TB := tb4 (k := 225) (by decide +kernel) rfl
theorem im_X11_isDigit : Cond.instanceMethod yX11_isDigit ∈ TB := tb4 (k := 227) (by decide +kernel) rfl
theorem cd_X11_isDigit : Cond.code yX11_isDigit cX11_isDigit 2 (some FieldType.boolean) ∈ TB := tb4 (k := 228) (by decide +kernel) rfl
theorem ml_X11_169 : Cond.methodLink RX11 169 yX11_word ∈ TB := tb4 (k := 229) (by decide +kernel) rfl
theorem sm_X11_word : Cond.static yX11_word ∈ TB := tb4 (k := 230) (by decide +kernel) rfl
theorem cd_X11_word : Cond.code yX11_word cX11_word 2 (some FieldType.int) ∈ TB := tb4 (k := 231) (by decide +kernel) rfl
theorem kl_X11_128 : Cond.constantLong RX11 128 (500135192948) ∈ TB := tb4 (k := 232) (by decide +kernel) rfl
theorem kl_X11_130 : Cond.constantLong RX11 130 (6447474) ∈ TB := tb4 (k := 233) (by decide +kernel) rfl
theorem kl_X11_132 : Cond.constantLong RX11 132 (1668248436) ∈ TB := tb4 (k := 234) (by decide +kernel) rfl
theorem kl_X11_134 : Cond.constantLong RX11 134 (26982) ∈ TB := tb4 (k := 235) (by decide +kernel) rfl
theorem kl_X11_136 : Cond.constantLong RX11 136 (28530) ∈ TB := tb4 (k := 236) (by decide +kernel) rfl
theorem kl_X11_138 : Cond.constantLong RX11 138 (6385252) ∈ TB := tb4 (k := 237) (by decide +kernel) rfl
theorem kl_X11_140 : Cond.constantLong RX11 140 (7237492) ∈ TB := tb4 (k := 238) (by decide +kernel) rfl
theorem kl_X11_142 : Cond.constantLong RX11 142 (112) ∈ TB := tb4 (k := 239) (by decide +kernel) rfl
theorem kl_X11_144 : Cond.constantLong RX11 144 (104) ∈ TB := tb5 (k := 0) (by decide +kernel) rfl
theorem ml_X11_242 : Cond.methodLink RX11 242 yX11_text ∈ TB := tb5 (k := 1) (by decide +kernel) rfl
theorem im_X11_text : Cond.instanceMethod yX11_text ∈ TB := tb5 (k := 3) (by decide +kernel) rfl
theorem cd_X11_text : Cond.code yX11_text cX11_text 1 (some FieldType.boolean) ∈ TB := tb5 (k := 4) (by decide +kernel) rfl
theorem ml_X11_206 : Cond.methodLink RX11 206 yX11_isWord ∈ TB := tb5 (k := 5) (by decide +kernel) rfl
theorem im_X11_isWord : Cond.instanceMethod yX11_isWord ∈ TB := tb5 (k := 7) (by decide +kernel) rfl
theorem cd_X11_isWord : Cond.code yX11_isWord cX11_isWord 2 (some FieldType.boolean) ∈ TB := tb5 (k := 8) (by decide +kernel) rfl
theorem ml_X11_179 : Cond.methodLink RX11 179 yX11_stop ∈ TB := tb5 (k := 9) (by decide +kernel) rfl
theorem im_X11_stop : Cond.instanceMethod yX11_stop ∈ TB := tb5 (k := 11) (by decide +kernel) rfl
theorem cd_X11_stop : Cond.code yX11_stop cX11_stop 3 (some FieldType.boolean) ∈ TB := tb5 (k := 12) (by decide +kernel) rfl
theorem ml_X11_189 : Cond.methodLink RX11 189 yX11_pass ∈ TB := tb5 (k := 13) (by decide +kernel) rfl
theorem im_X11_pass : Cond.instanceMethod yX11_pass ∈ TB := tb5 (k := 15) (by decide +kernel) rfl
theorem cd_X11_pass : Cond.code yX11_pass cX11_pass 1 (some FieldType.boolean) ∈ TB := tb5 (k := 16) (by decide +kernel) rfl
theorem ml_X11_212 : Cond.methodLink RX11 212 yX11_trait ∈ TB := tb5 (k := 17) (by decide +kernel) rfl
theorem im_X11_trait : Cond.instanceMethod yX11_trait ∈ TB := tb5 (k := 19) (by decide +kernel) rfl
theorem cd_X11_trait : Cond.code yX11_trait cX11_trait 4 (some FieldType.int) ∈ TB := tb5 (k := 20) (by decide +kernel) rfl
theorem ml_X11_215 : Cond.methodLink RX11 215 yX11_fault ∈ TB := tb5 (k := 21) (by decide +kernel) rfl
theorem im_X11_fault : Cond.instanceMethod yX11_fault ∈ TB := tb5 (k := 23) (by decide +kernel) rfl
theorem cd_X11_fault : Cond.code yX11_fault cX11_fault 3 (none) ∈ TB := tb5 (k := 24) (by decide +kernel) rfl
theorem ml_X11_209 : Cond.methodLink RX11 209 yX11_sign ∈ TB := tb5 (k := 25) (by decide +kernel) rfl
theorem im_X11_sign : Cond.instanceMethod yX11_sign ∈ TB := tb5 (k := 27) (by decide +kernel) rfl
theorem cd_X11_sign : Cond.code yX11_sign cX11_sign 2 (some FieldType.boolean) ∈ TB := tb5 (k := 28) (by decide +kernel) rfl
theorem ml_X11_186 : Cond.methodLink RX11 186 yX11_isSign ∈ TB := tb5 (k := 29) (by decide +kernel) rfl
theorem im_X11_isSign : Cond.instanceMethod yX11_isSign ∈ TB := tb5 (k := 31) (by decide +kernel) rfl
theorem cd_X11_isSign : Cond.code yX11_isSign cX11_isSign 2 (some FieldType.boolean) ∈ TB := tb5 (k := 32) (by decide +kernel) rfl
theorem ml_X11_245 : Cond.methodLink RX11 245 yX11_rule ∈ TB := tb5 (k := 33) (by decide +kernel) rfl
theorem im_X11_rule : Cond.instanceMethod yX11_rule ∈ TB := tb5 (k := 35) (by decide +kernel) rfl
theorem cd_X11_rule : Cond.code yX11_rule cX11_rule 3 (some FieldType.boolean) ∈ TB := tb5 (k := 36) (by decide +kernel) rfl
theorem ml_X11_230 : Cond.methodLink RX11 230 yX11_expression ∈ TB := tb5 (k := 37) (by decide +kernel) rfl
theorem im_X11_expression : Cond.instanceMethod yX11_expression ∈ TB := tb5 (k := 39) (by decide +kernel) rfl
theorem cd_X11_expression : Cond.code yX11_expression cX11_expression 6 (some FieldType.boolean) ∈ TB := tb5 (k := 40) (by decide +kernel) rfl
theorem ml_X11_221 : Cond.methodLink RX11 221 yX11_unit ∈ TB := tb5 (k := 41) (by decide +kernel) rfl
theorem im_X11_unit : Cond.instanceMethod yX11_unit ∈ TB := tb5 (k := 43) (by decide +kernel) rfl
theorem cd_X11_unit : Cond.code yX11_unit cX11_unit 3 (some FieldType.boolean) ∈ TB := tb5 (k := 44) (by decide +kernel) rfl
theorem ml_X11_202 : Cond.methodLink RX11 202 yX11_emit ∈ TB := tb5 (k := 45) (by decide +kernel) rfl
theorem im_X11_emit : Cond.instanceMethod yX11_emit ∈ TB := tb5 (k := 47) (by decide +kernel) rfl
theorem cd_X11_emit : Cond.code yX11_emit cX11_emit 3 (none) ∈ TB := tb5 (k := 48) (by decide +kernel) rfl
theorem ml_X11_224 : Cond.methodLink RX11 224 yX11_isWaiting ∈ TB := tb5 (k := 49) (by decide +kernel) rfl
theorem im_X11_isWaiting : Cond.instanceMethod yX11_isWaiting ∈ TB := tb5 (k := 51) (by decide +kernel) rfl
theorem cd_X11_isWaiting : Cond.code yX11_isWaiting cX11_isWaiting 2 (some FieldType.boolean) ∈ TB := tb5 (k := 52) (by decide +kernel) rfl
theorem ml_X11_227 : Cond.methodLink RX11 227 yX11_settle ∈ TB := tb5 (k := 53) (by decide +kernel) rfl
theorem im_X11_settle : Cond.instanceMethod yX11_settle ∈ TB := tb5 (k := 55) (by decide +kernel) rfl
theorem cd_X11_settle : Cond.code yX11_settle cX11_settle 2 (none) ∈ TB := tb5 (k := 56) (by decide +kernel) rfl
theorem ml_X11_248 : Cond.methodLink RX11 248 yX11_condition ∈ TB := tb5 (k := 57) (by decide +kernel) rfl
theorem im_X11_condition : Cond.instanceMethod yX11_condition ∈ TB := tb5 (k := 59) (by decide +kernel) rfl
theorem cd_X11_condition : Cond.code yX11_condition cX11_condition 3 (some FieldType.boolean) ∈ TB := tb5 (k := 60) (by decide +kernel) rfl
theorem ml_X11_233 : Cond.methodLink RX11 233 yX11_relation ∈ TB := tb5 (k := 61) (by decide +kernel) rfl
theorem im_X11_relation : Cond.instanceMethod yX11_relation ∈ TB := tb5 (k := 63) (by decide +kernel) rfl
theorem cd_X11_relation : Cond.code yX11_relation cX11_relation 2 (some FieldType.boolean) ∈ TB := tb5 (k := 64) (by decide +kernel) rfl
theorem ml_X11_236 : Cond.methodLink RX11 236 yX11_isJudging ∈ TB := tb5 (k := 65) (by decide +kernel) rfl
theorem im_X11_isJudging : Cond.instanceMethod yX11_isJudging ∈ TB := tb5 (k := 67) (by decide +kernel) rfl
theorem cd_X11_isJudging : Cond.code yX11_isJudging cX11_isJudging 2 (some FieldType.boolean) ∈ TB := tb5 (k := 68) (by decide +kernel) rfl
theorem ml_X11_239 : Cond.methodLink RX11 239 yX11_judge ∈ TB := tb5 (k := 69) (by decide +kernel) rfl
theorem im_X11_judge : Cond.instanceMethod yX11_judge ∈ TB := tb5 (k := 71) (by decide +kernel) rfl
theorem cd_X11_judge : Cond.code yX11_judge cX11_judge 2 (none) ∈ TB := tb5 (k := 72) (by decide +kernel) rfl
theorem ml_L_31 : Cond.methodLink RL 31 yX11_place ∈ TB := tb5 (k := 73) (by decide +kernel) rfl
theorem im_X11_place : Cond.instanceMethod yX11_place ∈ TB := tb5 (k := 74) (by decide +kernel) rfl
theorem se_X11_place : Cond.selects RX11 yX11_place yX11_place ∈ TB := tb5 (k := 75) (by decide +kernel) rfl
theorem cd_X11_place : Cond.code yX11_place cX11_place 1 (some FieldType.int) ∈ TB := tb5 (k := 76) (by decide +kernel) rfl
theorem ml_L_35 : Cond.methodLink RL 35 yX11_family ∈ TB := tb5 (k := 77) (by decide +kernel) rfl
theorem im_X11_family : Cond.instanceMethod yX11_family ∈ TB := tb5 (k := 78) (by decide +kernel) rfl
theorem se_X11_family : Cond.selects RX11 yX11_family yX11_family ∈ TB := tb5 (k := 79) (by decide +kernel) rfl
theorem cd_X11_family : Cond.code yX11_family cX11_family 1 (some FieldType.int) ∈ TB := tb5 (k := 80) (by decide +kernel) rfl
theorem ml_L_40 : Cond.methodLink RL 40 yX11_clock ∈ TB := tb5 (k := 81) (by decide +kernel) rfl
theorem im_X11_clock : Cond.instanceMethod yX11_clock ∈ TB := tb5 (k := 82) (by decide +kernel) rfl
theorem se_X11_clock : Cond.selects RX11 yX11_clock yX11_clock ∈ TB := tb5 (k := 83) (by decide +kernel) rfl
theorem cd_X11_clock : Cond.code yX11_clock cX11_clock 2 (some FieldType.boolean) ∈ TB := tb5 (k := 84) (by decide +kernel) rfl
theorem kc_X11_254 : Cond.constant RX11 254 (100000) ∈ TB := tb5 (k := 85) (by decide +kernel) rfl
theorem ml_L_44 : Cond.methodLink RL 44 yX11_term ∈ TB := tb5 (k := 86) (by decide +kernel) rfl
theorem im_X11_term : Cond.instanceMethod yX11_term ∈ TB := tb5 (k := 87) (by decide +kernel) rfl
theorem se_X11_term : Cond.selects RX11 yX11_term yX11_term ∈ TB := tb5 (k := 88) (by decide +kernel) rfl
theorem cd_X11_term : Cond.code yX11_term cX11_term 2 (some FieldType.boolean) ∈ TB := tb5 (k := 89) (by decide +kernel) rfl
theorem ml_X11_258 : Cond.methodLink RX11 258 yX11_isDay ∈ TB := tb5 (k := 90) (by decide +kernel) rfl
theorem sm_X11_isDay : Cond.static yX11_isDay ∈ TB := tb5 (k := 91) (by decide +kernel) rfl
theorem cd_X11_isDay : Cond.code yX11_isDay cX11_isDay 1 (some FieldType.boolean) ∈ TB := tb5 (k := 92) (by decide +kernel) rfl
theorem ml_L_49 : Cond.methodLink RL 49 yX11_tell ∈ TB := tb5 (k := 93) (by decide +kernel) rfl
theorem im_X11_tell : Cond.instanceMethod yX11_tell ∈ TB := tb5 (k := 94) (by decide +kernel) rfl
theorem se_X11_tell : Cond.selects RX11 yX11_tell yX11_tell ∈ TB := tb5 (k := 95) (by decide +kernel) rfl
theorem cd_X11_tell : Cond.code yX11_tell cX11_tell 4 (some FieldType.int) ∈ TB := tb5 (k := 96) (by decide +kernel) rfl
theorem ml_X11_264 : Cond.methodLink RX11 264 yX11_isFamily ∈ TB := tb5 (k := 97) (by decide +kernel) rfl
theorem im_X11_isFamily : Cond.instanceMethod yX11_isFamily ∈ TB := tb5 (k := 99) (by decide +kernel) rfl
theorem cd_X11_isFamily : Cond.code yX11_isFamily cX11_isFamily 2 (some FieldType.boolean) ∈ TB := tb5 (k := 100) (by decide +kernel) rfl
theorem ml_X11_270 : Cond.methodLink RX11 270 yX11_isWhat ∈ TB := tb5 (k := 101) (by decide +kernel) rfl
theorem im_X11_isWhat : Cond.instanceMethod yX11_isWhat ∈ TB := tb5 (k := 103) (by decide +kernel) rfl
theorem cd_X11_isWhat : Cond.code yX11_isWhat cX11_isWhat 2 (some FieldType.boolean) ∈ TB := tb5 (k := 104) (by decide +kernel) rfl
theorem ml_X11_273 : Cond.methodLink RX11 273 yX11_fits ∈ TB := tb5 (k := 105) (by decide +kernel) rfl
theorem sm_X11_fits : Cond.static yX11_fits ∈ TB := tb5 (k := 106) (by decide +kernel) rfl
theorem cd_X11_fits : Cond.code yX11_fits cX11_fits 2 (some FieldType.boolean) ∈ TB := tb5 (k := 107) (by decide +kernel) rfl
theorem ml_L_53 : Cond.methodLink RL 53 yX11_known ∈ TB := tb5 (k := 108) (by decide +kernel) rfl
theorem im_X11_known : Cond.instanceMethod yX11_known ∈ TB := tb5 (k := 109) (by decide +kernel) rfl
theorem se_X11_known : Cond.selects RX11 yX11_known yX11_known ∈ TB := tb5 (k := 110) (by decide +kernel) rfl
theorem cd_X11_known : Cond.code yX11_known cX11_known 4 (some FieldType.int) ∈ TB := tb5 (k := 111) (by decide +kernel) rfl
theorem ml_X11_276 : Cond.methodLink RX11 276 yX11_latest ∈ TB := tb5 (k := 112) (by decide +kernel) rfl
theorem im_X11_latest : Cond.instanceMethod yX11_latest ∈ TB := tb5 (k := 114) (by decide +kernel) rfl
theorem cd_X11_latest : Cond.code yX11_latest cX11_latest 5 (some FieldType.int) ∈ TB := tb5 (k := 115) (by decide +kernel) rfl
theorem ml_L_58 : Cond.methodLink RL 58 yX11_why ∈ TB := tb5 (k := 116) (by decide +kernel) rfl
theorem im_X11_why : Cond.instanceMethod yX11_why ∈ TB := tb5 (k := 117) (by decide +kernel) rfl
theorem se_X11_why : Cond.selects RX11 yX11_why yX11_why ∈ TB := tb5 (k := 118) (by decide +kernel) rfl
theorem cd_X11_why : Cond.code yX11_why cX11_why 5 (some FieldType.int) ∈ TB := tb5 (k := 119) (by decide +kernel) rfl
theorem ml_X11_291 : Cond.methodLink RX11 291 yX11_isAsked ∈ TB := tb5 (k := 120) (by decide +kernel) rfl
theorem im_X11_isAsked : Cond.instanceMethod yX11_isAsked ∈ TB := tb5 (k := 122) (by decide +kernel) rfl
theorem cd_X11_isAsked : Cond.code yX11_isAsked cX11_isAsked 5 (some FieldType.boolean) ∈ TB := tb5 (k := 123) (by decide +kernel) rfl
theorem ml_X11_294 : Cond.methodLink RX11 294 yX11_learn ∈ TB := tb5 (k := 124) (by decide +kernel) rfl
theorem im_X11_learn : Cond.instanceMethod yX11_learn ∈ TB := tb5 (k := 126) (by decide +kernel) rfl
theorem cd_X11_learn : Cond.code yX11_learn cX11_learn 3 (none) ∈ TB := tb5 (k := 127) (by decide +kernel) rfl
theorem ml_X11_297 : Cond.methodLink RX11 297 yX11_reason ∈ TB := tb5 (k := 128) (by decide +kernel) rfl
theorem im_X11_reason : Cond.instanceMethod yX11_reason ∈ TB := tb5 (k := 130) (by decide +kernel) rfl
theorem cd_X11_reason : Cond.code yX11_reason cX11_reason 5 (some FieldType.int) ∈ TB := tb5 (k := 131) (by decide +kernel) rfl
theorem ml_X11_287 : Cond.methodLink RX11 287 yX11_holds ∈ TB := tb5 (k := 132) (by decide +kernel) rfl
theorem im_X11_holds : Cond.instanceMethod yX11_holds ∈ TB := tb5 (k := 134) (by decide +kernel) rfl
theorem cd_X11_holds : Cond.code yX11_holds cX11_holds 6 (some FieldType.boolean) ∈ TB := tb5 (k := 135) (by decide +kernel) rfl
theorem ml_X11_283 : Cond.methodLink RX11 283 yX11_worked ∈ TB := tb5 (k := 136) (by decide +kernel) rfl
theorem im_X11_worked : Cond.instanceMethod yX11_worked ∈ TB := tb5 (k := 138) (by decide +kernel) rfl
theorem cd_X11_worked : Cond.code yX11_worked cX11_worked 9 (some FieldType.int) ∈ TB := tb5 (k := 139) (by decide +kernel) rfl
theorem ml_X11_280 : Cond.methodLink RX11 280 yX11_two ∈ TB := tb5 (k := 140) (by decide +kernel) rfl
theorem sm_X11_two : Cond.static yX11_two ∈ TB := tb5 (k := 141) (by decide +kernel) rfl
theorem cd_X11_two : Cond.code yX11_two cX11_two 3 (some FieldType.int) ∈ TB := tb5 (k := 142) (by decide +kernel) rfl
theorem ml_L_62 : Cond.methodLink RL 62 yX11_cost ∈ TB := tb5 (k := 143) (by decide +kernel) rfl
theorem im_X11_cost : Cond.instanceMethod yX11_cost ∈ TB := tb5 (k := 144) (by decide +kernel) rfl
theorem se_X11_cost : Cond.selects RX11 yX11_cost yX11_cost ∈ TB := tb5 (k := 145) (by decide +kernel) rfl
theorem cd_X11_cost : Cond.code yX11_cost cX11_cost 5 (some FieldType.int) ∈ TB := tb5 (k := 146) (by decide +kernel) rfl
theorem ml_X11_300 : Cond.methodLink RX11 300 yX11_price ∈ TB := tb5 (k := 147) (by decide +kernel) rfl
theorem im_X11_price : Cond.instanceMethod yX11_price ∈ TB := tb5 (k := 149) (by decide +kernel) rfl
theorem cd_X11_price : Cond.code yX11_price cX11_price 7 (some FieldType.int) ∈ TB := tb5 (k := 150) (by decide +kernel) rfl
theorem ml_L_67 : Cond.methodLink RL 67 yX11_round ∈ TB := tb5 (k := 151) (by decide +kernel) rfl
theorem im_X11_round : Cond.instanceMethod yX11_round ∈ TB := tb5 (k := 152) (by decide +kernel) rfl
theorem se_X11_round : Cond.selects RX11 yX11_round yX11_round ∈ TB := tb5 (k := 153) (by decide +kernel) rfl
theorem cd_X11_round : Cond.code yX11_round cX11_round 4 (some FieldType.int) ∈ TB := tb5 (k := 154) (by decide +kernel) rfl
theorem ml_X11_346 : Cond.methodLink RX11 346 yX11_weigh ∈ TB := tb5 (k := 155) (by decide +kernel) rfl
theorem im_X11_weigh : Cond.instanceMethod yX11_weigh ∈ TB := tb5 (k := 157) (by decide +kernel) rfl
theorem cd_X11_weigh : Cond.code yX11_weigh cX11_weigh 5 (none) ∈ TB := tb5 (k := 158) (by decide +kernel) rfl
theorem kc_X11_303 : Cond.constant RX11 303 (100000000) ∈ TB := tb5 (k := 159) (by decide +kernel) rfl
theorem ml_X11_349 : Cond.methodLink RX11 349 yX11_search ∈ TB := tb5 (k := 160) (by decide +kernel) rfl
theorem im_X11_search : Cond.instanceMethod yX11_search ∈ TB := tb5 (k := 162) (by decide +kernel) rfl
theorem cd_X11_search : Cond.code yX11_search cX11_search 8 (none) ∈ TB := tb5 (k := 163) (by decide +kernel) rfl
theorem ml_X11_331 : Cond.methodLink RX11 331 yX11_fill ∈ TB := tb5 (k := 164) (by decide +kernel) rfl
theorem im_X11_fill : Cond.instanceMethod yX11_fill ∈ TB := tb5 (k := 166) (by decide +kernel) rfl
theorem cd_X11_fill : Cond.code yX11_fill cX11_fill 5 (none) ∈ TB := tb5 (k := 167) (by decide +kernel) rfl
theorem ml_X11_309 : Cond.methodLink RX11 309 yX11_best ∈ TB := tb5 (k := 168) (by decide +kernel) rfl
theorem im_X11_best : Cond.instanceMethod yX11_best ∈ TB := tb5 (k := 170) (by decide +kernel) rfl
theorem cd_X11_best : Cond.code yX11_best cX11_best 7 (some FieldType.int) ∈ TB := tb5 (k := 171) (by decide +kernel) rfl
theorem ml_X11_312 : Cond.methodLink RX11 312 yX11_mayStay ∈ TB := tb5 (k := 172) (by decide +kernel) rfl
theorem im_X11_mayStay : Cond.instanceMethod yX11_mayStay ∈ TB := tb5 (k := 174) (by decide +kernel) rfl
theorem cd_X11_mayStay : Cond.code yX11_mayStay cX11_mayStay 3 (some FieldType.boolean) ∈ TB := tb5 (k := 175) (by decide +kernel) rfl
theorem ml_X11_315 : Cond.methodLink RX11 315 yX11_counts ∈ TB := tb5 (k := 176) (by decide +kernel) rfl
theorem im_X11_counts : Cond.instanceMethod yX11_counts ∈ TB := tb5 (k := 178) (by decide +kernel) rfl
theorem cd_X11_counts : Cond.code yX11_counts cX11_counts 4 (some FieldType.int) ∈ TB := tb5 (k := 179) (by decide +kernel) rfl
theorem kc_X11_308 : Cond.constant RX11 308 (1000000) ∈ TB := tb5 (k := 180) (by decide +kernel) rfl
theorem ml_X11_319 : Cond.methodLink RX11 319 yX11_sum ∈ TB := tb5 (k := 181) (by decide +kernel) rfl
theorem sm_X11_sum : Cond.static yX11_sum ∈ TB := tb5 (k := 182) (by decide +kernel) rfl
theorem cd_X11_sum : Cond.code yX11_sum cX11_sum 2 (some FieldType.int) ∈ TB := tb5 (k := 183) (by decide +kernel) rfl
theorem ml_X11_322 : Cond.methodLink RX11 322 yX11_mayGo ∈ TB := tb5 (k := 184) (by decide +kernel) rfl
theorem im_X11_mayGo : Cond.instanceMethod yX11_mayGo ∈ TB := tb5 (k := 186) (by decide +kernel) rfl
theorem cd_X11_mayGo : Cond.code yX11_mayGo cX11_mayGo 3 (some FieldType.boolean) ∈ TB := tb5 (k := 187) (by decide +kernel) rfl
theorem ml_X11_334 : Cond.methodLink RX11 334 yX11_bits ∈ TB := tb5 (k := 188) (by decide +kernel) rfl
theorem sm_X11_bits : Cond.static yX11_bits ∈ TB := tb5 (k := 189) (by decide +kernel) rfl
theorem cd_X11_bits : Cond.code yX11_bits cX11_bits 3 (some FieldType.int) ∈ TB := tb5 (k := 190) (by decide +kernel) rfl
theorem ml_X11_337 : Cond.methodLink RX11 337 yX11_against ∈ TB := tb5 (k := 191) (by decide +kernel) rfl
theorem im_X11_against : Cond.instanceMethod yX11_against ∈ TB := tb5 (k := 193) (by decide +kernel) rfl
theorem cd_X11_against : Cond.code yX11_against cX11_against 3 (some FieldType.int) ∈ TB := tb5 (k := 194) (by decide +kernel) rfl
theorem ml_X11_340 : Cond.methodLink RX11 340 yX11_follow ∈ TB := tb5 (k := 195) (by decide +kernel) rfl
theorem im_X11_follow : Cond.instanceMethod yX11_follow ∈ TB := tb5 (k := 197) (by decide +kernel) rfl
theorem cd_X11_follow : Cond.code yX11_follow cX11_follow 7 (none) ∈ TB := tb5 (k := 198) (by decide +kernel) rfl
theorem ml_X11_343 : Cond.methodLink RX11 343 yX11_isAhead ∈ TB := tb5 (k := 199) (by decide +kernel) rfl
theorem im_X11_isAhead : Cond.instanceMethod yX11_isAhead ∈ TB := tb5 (k := 201) (by decide +kernel) rfl
theorem cd_X11_isAhead : Cond.code yX11_isAhead cX11_isAhead 2 (some FieldType.boolean) ∈ TB := tb5 (k := 202) (by decide +kernel) rfl
theorem ml_L_71 : Cond.methodLink RL 71 yX11_goes ∈ TB := tb5 (k := 203) (by decide +kernel) rfl
theorem im_X11_goes : Cond.instanceMethod yX11_goes ∈ TB := tb5 (k := 204) (by decide +kernel) rfl
theorem se_X11_goes : Cond.selects RX11 yX11_goes yX11_goes ∈ TB := tb5 (k := 205) (by decide +kernel) rfl
theorem cd_X11_goes : Cond.code yX11_goes cX11_goes 2 (some FieldType.int) ∈ TB := tb5 (k := 206) (by decide +kernel) rfl
theorem ml_L_75 : Cond.methodLink RL 75 yX11_costs ∈ TB := tb5 (k := 207) (by decide +kernel) rfl
theorem im_X11_costs : Cond.instanceMethod yX11_costs ∈ TB := tb5 (k := 208) (by decide +kernel) rfl
theorem se_X11_costs : Cond.selects RX11 yX11_costs yX11_costs ∈ TB := tb5 (k := 209) (by decide +kernel) rfl
theorem cd_X11_costs : Cond.code yX11_costs cX11_costs 1 (some FieldType.int) ∈ TB := tb5 (k := 210) (by decide +kernel) rfl
theorem ml_L_79 : Cond.methodLink RL 79 yX11_take ∈ TB := tb5 (k := 211) (by decide +kernel) rfl
theorem im_X11_take : Cond.instanceMethod yX11_take ∈ TB := tb5 (k := 212) (by decide +kernel) rfl
theorem se_X11_take : Cond.selects RX11 yX11_take yX11_take ∈ TB := tb5 (k := 213) (by decide +kernel) rfl
theorem cd_X11_take : Cond.code yX11_take cX11_take 2 (some FieldType.int) ∈ TB := tb5 (k := 214) (by decide +kernel) rfl
theorem ml_X11_365 : Cond.methodLink RX11 365 yX11_isClosed ∈ TB := tb5 (k := 215) (by decide +kernel) rfl
theorem im_X11_isClosed : Cond.instanceMethod yX11_isClosed ∈ TB := tb5 (k := 217) (by decide +kernel) rfl
theorem cd_X11_isClosed : Cond.code yX11_isClosed cX11_isClosed 4 (some FieldType.boolean) ∈ TB := tb5 (k := 218) (by decide +kernel) rfl
theorem ml_X11_358 : Cond.methodLink RX11 358 yX11_guest ∈ TB := tb5 (k := 219) (by decide +kernel) rfl
theorem im_X11_guest : Cond.instanceMethod yX11_guest ∈ TB := tb5 (k := 221) (by decide +kernel) rfl
theorem cd_X11_guest : Cond.code yX11_guest cX11_guest 4 (some FieldType.int) ∈ TB := tb5 (k := 222) (by decide +kernel) rfl
theorem ml_X11_368 : Cond.methodLink RX11 368 yX11_going ∈ TB := tb5 (k := 223) (by decide +kernel) rfl
theorem im_X11_going : Cond.instanceMethod yX11_going ∈ TB := tb5 (k := 225) (by decide +kernel) rfl
theorem cd_X11_going : Cond.code yX11_going cX11_going 3 (some FieldType.int) ∈ TB := tb5 (k := 226) (by decide +kernel) rfl
theorem ml_L_83 : Cond.methodLink RL 83 yX11_fall ∈ TB := tb5 (k := 227) (by decide +kernel) rfl
theorem im_X11_fall : Cond.instanceMethod yX11_fall ∈ TB := tb5 (k := 228) (by decide +kernel) rfl
theorem se_X11_fall : Cond.selects RX11 yX11_fall yX11_fall ∈ TB := tb5 (k := 229) (by decide +kernel) rfl
theorem cd_X11_fall : Cond.code yX11_fall cX11_fall 4 (some FieldType.int) ∈ TB := tb5 (k := 230) (by decide +kernel) rfl
theorem ml_L_87 : Cond.methodLink RL 87 yX11_moved ∈ TB := tb5 (k := 231) (by decide +kernel) rfl
theorem im_X11_moved : Cond.instanceMethod yX11_moved ∈ TB := tb5 (k := 232) (by decide +kernel) rfl
theorem se_X11_moved : Cond.selects RX11 yX11_moved yX11_moved ∈ TB := tb5 (k := 233) (by decide +kernel) rfl
theorem cd_X11_moved : Cond.code yX11_moved cX11_moved 2 (some FieldType.int) ∈ TB := tb5 (k := 234) (by decide +kernel) rfl
theorem ml_L_91 : Cond.methodLink RL 91 yX11_close ∈ TB := tb5 (k := 235) (by decide +kernel) rfl
theorem im_X11_close : Cond.instanceMethod yX11_close ∈ TB := tb5 (k := 236) (by decide +kernel) rfl
theorem se_X11_close : Cond.selects RX11 yX11_close yX11_close ∈ TB := tb5 (k := 237) (by decide +kernel) rfl
theorem cd_X11_close : Cond.code yX11_close cX11_close 6 (some FieldType.int) ∈ TB := tb5 (k := 238) (by decide +kernel) rfl
theorem ml_L_95 : Cond.methodLink RL 95 yX11_link ∈ TB := tb5 (k := 239) (by decide +kernel) rfl
theorem im_X11_link : Cond.instanceMethod yX11_link ∈ TB := tb6 (k := 0) (by decide +kernel) rfl
theorem se_X11_link : Cond.selects RX11 yX11_link yX11_link ∈ TB := tb6 (k := 1) (by decide +kernel) rfl
theorem cd_X11_link : Cond.code yX11_link cX11_link 5 (some FieldType.int) ∈ TB := tb6 (k := 2) (by decide +kernel) rfl
theorem ml_L_99 : Cond.methodLink RL 99 yX11_of ∈ TB := tb6 (k := 3) (by decide +kernel) rfl
theorem im_X11_of : Cond.instanceMethod yX11_of ∈ TB := tb6 (k := 4) (by decide +kernel) rfl
theorem se_X11_of : Cond.selects RX11 yX11_of yX11_of ∈ TB := tb6 (k := 5) (by decide +kernel) rfl
theorem cd_X11_of : Cond.code yX11_of cX11_of 3 (some FieldType.int) ∈ TB := tb6 (k := 6) (by decide +kernel) rfl
theorem ml_L_103 : Cond.methodLink RL 103 yX11_count ∈ TB := tb6 (k := 7) (by decide +kernel) rfl
theorem im_X11_count : Cond.instanceMethod yX11_count ∈ TB := tb6 (k := 8) (by decide +kernel) rfl
theorem se_X11_count : Cond.selects RX11 yX11_count yX11_count ∈ TB := tb6 (k := 9) (by decide +kernel) rfl
theorem cd_X11_count : Cond.code yX11_count cX11_count 2 (some FieldType.int) ∈ TB := tb6 (k := 10) (by decide +kernel) rfl
theorem se_X10_textOf : Cond.selects RX10 yX10_textOf yX10_textOf ∈ TB := tbp (q := (yX10_textOf, 16)) (lpv1 (List.mem_of_getElem? (i := 0) (by decide +kernel)))
theorem se_X8_scanOne : Cond.selects RX8 yX8_scanOne yX8_scanOne ∈ TB := tbp (q := (yX8_scanOne, 3)) (lpv1 (List.mem_of_getElem? (i := 1) (by decide +kernel)))
theorem se_X8_scanName : Cond.selects RX8 yX8_scanName yX8_scanName ∈ TB := tbp (q := (yX8_scanName, 3)) (lpv1 (List.mem_of_getElem? (i := 2) (by decide +kernel)))
theorem se_X8_scanNumber : Cond.selects RX8 yX8_scanNumber yX8_scanNumber ∈ TB := tbp (q := (yX8_scanNumber, 3)) (lpv1 (List.mem_of_getElem? (i := 3) (by decide +kernel)))
theorem se_X4_sees : Cond.selects RX4 yX4_sees yX4_sees ∈ TB := tbp (q := (yX4_sees, 8)) (lpv1 (List.mem_of_getElem? (i := 4) (by decide +kernel)))
theorem se_X4_readTrait : Cond.selects RX4 yX4_readTrait yX4_readTrait ∈ TB := tbp (q := (yX4_readTrait, 8)) (lpv1 (List.mem_of_getElem? (i := 5) (by decide +kernel)))
theorem se_X4_fail : Cond.selects RX4 yX4_fail yX4_fail ∈ TB := tbp (q := (yX4_fail, 8)) (lpv1 (List.mem_of_getElem? (i := 6) (by decide +kernel)))
theorem se_X4_expect : Cond.selects RX4 yX4_expect yX4_expect ∈ TB := tbp (q := (yX4_expect, 8)) (lpv1 (List.mem_of_getElem? (i := 7) (by decide +kernel)))
theorem se_X4_failLate : Cond.selects RX4 yX4_failLate yX4_failLate ∈ TB := tbp (q := (yX4_failLate, 8)) (lpv1 (List.mem_of_getElem? (i := 8) (by decide +kernel)))
theorem se_X4_readRule : Cond.selects RX4 yX4_readRule yX4_readRule ∈ TB := tbp (q := (yX4_readRule, 8)) (lpv1 (List.mem_of_getElem? (i := 9) (by decide +kernel)))
theorem se_X4_readCond : Cond.selects RX4 yX4_readCond yX4_readCond ∈ TB := tbp (q := (yX4_readCond, 8)) (lpv1 (List.mem_of_getElem? (i := 10) (by decide +kernel)))
theorem se_X4_readAll : Cond.selects RX4 yX4_readAll yX4_readAll ∈ TB := tbp (q := (yX4_readAll, 8)) (lpv1 (List.mem_of_getElem? (i := 11) (by decide +kernel)))
theorem se_X4_readLit : Cond.selects RX4 yX4_readLit yX4_readLit ∈ TB := tbp (q := (yX4_readLit, 8)) (lpv1 (List.mem_of_getElem? (i := 12) (by decide +kernel)))
theorem se_X4_opens : Cond.selects RX4 yX4_opens yX4_opens ∈ TB := tbp (q := (yX4_opens, 8)) (lpv1 (List.mem_of_getElem? (i := 13) (by decide +kernel)))
theorem se_X4_readSum : Cond.selects RX4 yX4_readSum yX4_readSum ∈ TB := tbp (q := (yX4_readSum, 8)) (lpv1 (List.mem_of_getElem? (i := 14) (by decide +kernel)))
theorem se_X4_accepts : Cond.selects RX4 yX4_accepts yX4_accepts ∈ TB := tbp (q := (yX4_accepts, 8)) (lpv1 (List.mem_of_getElem? (i := 15) (by decide +kernel)))
theorem se_X4_readPart : Cond.selects RX4 yX4_readPart yX4_readPart ∈ TB := tbp (q := (yX4_readPart, 8)) (lpv2 (List.mem_of_getElem? (i := 0) (by decide +kernel)))
theorem se_X4_readUnit : Cond.selects RX4 yX4_readUnit yX4_readUnit ∈ TB := tbp (q := (yX4_readUnit, 8)) (lpv2 (List.mem_of_getElem? (i := 1) (by decide +kernel)))
theorem se_X4_readTraitOf : Cond.selects RX4 yX4_readTraitOf yX4_readTraitOf ∈ TB := tbp (q := (yX4_readTraitOf, 8)) (lpv2 (List.mem_of_getElem? (i := 2) (by decide +kernel)))
theorem se_X4_relationStep : Cond.selects RX4 yX4_relationStep yX4_relationStep ∈ TB := tbp (q := (yX4_relationStep, 8)) (lpv2 (List.mem_of_getElem? (i := 3) (by decide +kernel)))
theorem se_X10_columnOf : Cond.selects RX10 yX10_columnOf yX10_columnOf ∈ TB := tbp (q := (yX10_columnOf, 16)) (lpv2 (List.mem_of_getElem? (i := 4) (by decide +kernel)))
theorem se_X10_isFamily : Cond.selects RX10 yX10_isFamily yX10_isFamily ∈ TB := tbp (q := (yX10_isFamily, 16)) (lpv2 (List.mem_of_getElem? (i := 5) (by decide +kernel)))
theorem se_X1_holds : Cond.selects RX1 yX1_holds yX1_holds ∈ TB := tbp (q := (yX1_holds, 2)) (lpv2 (List.mem_of_getElem? (i := 6) (by decide +kernel)))
theorem se_X1_valueOf : Cond.selects RX1 yX1_valueOf yX1_valueOf ∈ TB := tbp (q := (yX1_valueOf, 2)) (lpv2 (List.mem_of_getElem? (i := 7) (by decide +kernel)))
theorem se_X1_leaf : Cond.selects RX1 yX1_leaf yX1_leaf ∈ TB := tbp (q := (yX1_leaf, 2)) (lpv2 (List.mem_of_getElem? (i := 8) (by decide +kernel)))
theorem se_X10_prepare : Cond.selects RX10 yX10_prepare yX10_prepare ∈ TB := tbp (q := (yX10_prepare, 16)) (lpv2 (List.mem_of_getElem? (i := 9) (by decide +kernel)))
theorem se_X5_weighPlaces : Cond.selects RX5 yX5_weighPlaces yX5_weighPlaces ∈ TB := tbp (q := (yX5_weighPlaces, 8)) (lpv2 (List.mem_of_getElem? (i := 10) (by decide +kernel)))
theorem se_X5_placeWeight : Cond.selects RX5 yX5_placeWeight yX5_placeWeight ∈ TB := tbp (q := (yX5_placeWeight, 8)) (lpv2 (List.mem_of_getElem? (i := 11) (by decide +kernel)))
theorem se_X5_mayGo : Cond.selects RX5 yX5_mayGo yX5_mayGo ∈ TB := tbp (q := (yX5_mayGo, 8)) (lpv2 (List.mem_of_getElem? (i := 12) (by decide +kernel)))
theorem se_X5_mayBe : Cond.selects RX5 yX5_mayBe yX5_mayBe ∈ TB := tbp (q := (yX5_mayBe, 8)) (lpv2 (List.mem_of_getElem? (i := 13) (by decide +kernel)))
theorem se_X3_placeRow : Cond.selects RX3 yX3_placeRow yX3_placeRow ∈ TB := tbp (q := (yX3_placeRow, 7)) (lpv2 (List.mem_of_getElem? (i := 14) (by decide +kernel)))
theorem se_X3_nextColumn : Cond.selects RX3 yX3_nextColumn yX3_nextColumn ∈ TB := tbp (q := (yX3_nextColumn, 7)) (lpv2 (List.mem_of_getElem? (i := 15) (by decide +kernel)))
theorem se_X3_shiftPrices : Cond.selects RX3 yX3_shiftPrices yX3_shiftPrices ∈ TB := tbp (q := (yX3_shiftPrices, 7)) (lpv3 (List.mem_of_getElem? (i := 0) (by decide +kernel)))
theorem se_X5_weighOrder : Cond.selects RX5 yX5_weighOrder yX5_weighOrder ∈ TB := tbp (q := (yX5_weighOrder, 8)) (lpv3 (List.mem_of_getElem? (i := 1) (by decide +kernel)))
theorem se_X11_byteRow : Cond.selects RX11 yX11_byteRow yX11_byteRow ∈ TB := tbp (q := (yX11_byteRow, 58)) (lpv3 (List.mem_of_getElem? (i := 2) (by decide +kernel)))
theorem se_X11_token : Cond.selects RX11 yX11_token yX11_token ∈ TB := tbp (q := (yX11_token, 58)) (lpv3 (List.mem_of_getElem? (i := 3) (by decide +kernel)))
theorem se_X11_seen : Cond.selects RX11 yX11_seen yX11_seen ∈ TB := tbp (q := (yX11_seen, 58)) (lpv3 (List.mem_of_getElem? (i := 4) (by decide +kernel)))
theorem se_X11_isLetter : Cond.selects RX11 yX11_isLetter yX11_isLetter ∈ TB := tbp (q := (yX11_isLetter, 58)) (lpv3 (List.mem_of_getElem? (i := 5) (by decide +kernel)))
theorem se_X11_isDigit : Cond.selects RX11 yX11_isDigit yX11_isDigit ∈ TB := tbp (q := (yX11_isDigit, 58)) (lpv3 (List.mem_of_getElem? (i := 6) (by decide +kernel)))
theorem se_X11_text : Cond.selects RX11 yX11_text yX11_text ∈ TB := tbp (q := (yX11_text, 58)) (lpv3 (List.mem_of_getElem? (i := 7) (by decide +kernel)))
theorem se_X11_isWord : Cond.selects RX11 yX11_isWord yX11_isWord ∈ TB := tbp (q := (yX11_isWord, 58)) (lpv3 (List.mem_of_getElem? (i := 8) (by decide +kernel)))
theorem se_X11_stop : Cond.selects RX11 yX11_stop yX11_stop ∈ TB := tbp (q := (yX11_stop, 58)) (lpv3 (List.mem_of_getElem? (i := 9) (by decide +kernel)))
theorem se_X11_pass : Cond.selects RX11 yX11_pass yX11_pass ∈ TB := tbp (q := (yX11_pass, 58)) (lpv3 (List.mem_of_getElem? (i := 10) (by decide +kernel)))
theorem se_X11_trait : Cond.selects RX11 yX11_trait yX11_trait ∈ TB := tbp (q := (yX11_trait, 58)) (lpv3 (List.mem_of_getElem? (i := 11) (by decide +kernel)))
theorem se_X11_fault : Cond.selects RX11 yX11_fault yX11_fault ∈ TB := tbp (q := (yX11_fault, 58)) (lpv3 (List.mem_of_getElem? (i := 12) (by decide +kernel)))
theorem se_X11_sign : Cond.selects RX11 yX11_sign yX11_sign ∈ TB := tbp (q := (yX11_sign, 58)) (lpv3 (List.mem_of_getElem? (i := 13) (by decide +kernel)))
theorem se_X11_isSign : Cond.selects RX11 yX11_isSign yX11_isSign ∈ TB := tbp (q := (yX11_isSign, 58)) (lpv3 (List.mem_of_getElem? (i := 14) (by decide +kernel)))
theorem se_X11_rule : Cond.selects RX11 yX11_rule yX11_rule ∈ TB := tbp (q := (yX11_rule, 58)) (lpv3 (List.mem_of_getElem? (i := 15) (by decide +kernel)))
theorem se_X11_expression : Cond.selects RX11 yX11_expression yX11_expression ∈ TB := tbp (q := (yX11_expression, 58)) (lpv4 (List.mem_of_getElem? (i := 0) (by decide +kernel)))
theorem se_X11_unit : Cond.selects RX11 yX11_unit yX11_unit ∈ TB := tbp (q := (yX11_unit, 58)) (lpv4 (List.mem_of_getElem? (i := 1) (by decide +kernel)))
theorem se_X11_emit : Cond.selects RX11 yX11_emit yX11_emit ∈ TB := tbp (q := (yX11_emit, 58)) (lpv4 (List.mem_of_getElem? (i := 2) (by decide +kernel)))
theorem se_X11_isWaiting : Cond.selects RX11 yX11_isWaiting yX11_isWaiting ∈ TB := tbp (q := (yX11_isWaiting, 58)) (lpv4 (List.mem_of_getElem? (i := 3) (by decide +kernel)))
theorem se_X11_settle : Cond.selects RX11 yX11_settle yX11_settle ∈ TB := tbp (q := (yX11_settle, 58)) (lpv4 (List.mem_of_getElem? (i := 4) (by decide +kernel)))
theorem se_X11_condition : Cond.selects RX11 yX11_condition yX11_condition ∈ TB := tbp (q := (yX11_condition, 58)) (lpv4 (List.mem_of_getElem? (i := 5) (by decide +kernel)))
theorem se_X11_relation : Cond.selects RX11 yX11_relation yX11_relation ∈ TB := tbp (q := (yX11_relation, 58)) (lpv4 (List.mem_of_getElem? (i := 6) (by decide +kernel)))
theorem se_X11_isJudging : Cond.selects RX11 yX11_isJudging yX11_isJudging ∈ TB := tbp (q := (yX11_isJudging, 58)) (lpv4 (List.mem_of_getElem? (i := 7) (by decide +kernel)))
theorem se_X11_judge : Cond.selects RX11 yX11_judge yX11_judge ∈ TB := tbp (q := (yX11_judge, 58)) (lpv4 (List.mem_of_getElem? (i := 8) (by decide +kernel)))
theorem se_X11_isFamily : Cond.selects RX11 yX11_isFamily yX11_isFamily ∈ TB := tbp (q := (yX11_isFamily, 58)) (lpv4 (List.mem_of_getElem? (i := 9) (by decide +kernel)))
theorem se_X11_isWhat : Cond.selects RX11 yX11_isWhat yX11_isWhat ∈ TB := tbp (q := (yX11_isWhat, 58)) (lpv4 (List.mem_of_getElem? (i := 10) (by decide +kernel)))
theorem se_X11_latest : Cond.selects RX11 yX11_latest yX11_latest ∈ TB := tbp (q := (yX11_latest, 58)) (lpv4 (List.mem_of_getElem? (i := 11) (by decide +kernel)))
theorem se_X11_isAsked : Cond.selects RX11 yX11_isAsked yX11_isAsked ∈ TB := tbp (q := (yX11_isAsked, 58)) (lpv4 (List.mem_of_getElem? (i := 12) (by decide +kernel)))
theorem se_X11_learn : Cond.selects RX11 yX11_learn yX11_learn ∈ TB := tbp (q := (yX11_learn, 58)) (lpv4 (List.mem_of_getElem? (i := 13) (by decide +kernel)))
theorem se_X11_reason : Cond.selects RX11 yX11_reason yX11_reason ∈ TB := tbp (q := (yX11_reason, 58)) (lpv4 (List.mem_of_getElem? (i := 14) (by decide +kernel)))
theorem se_X11_holds : Cond.selects RX11 yX11_holds yX11_holds ∈ TB := tbp (q := (yX11_holds, 58)) (lpv4 (List.mem_of_getElem? (i := 15) (by decide +kernel)))
theorem se_X11_worked : Cond.selects RX11 yX11_worked yX11_worked ∈ TB := tbp (q := (yX11_worked, 58)) (lpv5 (List.mem_of_getElem? (i := 0) (by decide +kernel)))
theorem se_X11_price : Cond.selects RX11 yX11_price yX11_price ∈ TB := tbp (q := (yX11_price, 58)) (lpv5 (List.mem_of_getElem? (i := 1) (by decide +kernel)))
theorem se_X11_weigh : Cond.selects RX11 yX11_weigh yX11_weigh ∈ TB := tbp (q := (yX11_weigh, 58)) (lpv5 (List.mem_of_getElem? (i := 2) (by decide +kernel)))
theorem se_X11_search : Cond.selects RX11 yX11_search yX11_search ∈ TB := tbp (q := (yX11_search, 58)) (lpv5 (List.mem_of_getElem? (i := 3) (by decide +kernel)))
theorem se_X11_fill : Cond.selects RX11 yX11_fill yX11_fill ∈ TB := tbp (q := (yX11_fill, 58)) (lpv5 (List.mem_of_getElem? (i := 4) (by decide +kernel)))
theorem se_X11_best : Cond.selects RX11 yX11_best yX11_best ∈ TB := tbp (q := (yX11_best, 58)) (lpv5 (List.mem_of_getElem? (i := 5) (by decide +kernel)))
theorem se_X11_mayStay : Cond.selects RX11 yX11_mayStay yX11_mayStay ∈ TB := tbp (q := (yX11_mayStay, 58)) (lpv5 (List.mem_of_getElem? (i := 6) (by decide +kernel)))
theorem se_X11_counts : Cond.selects RX11 yX11_counts yX11_counts ∈ TB := tbp (q := (yX11_counts, 58)) (lpv5 (List.mem_of_getElem? (i := 7) (by decide +kernel)))
theorem se_X11_mayGo : Cond.selects RX11 yX11_mayGo yX11_mayGo ∈ TB := tbp (q := (yX11_mayGo, 58)) (lpv5 (List.mem_of_getElem? (i := 8) (by decide +kernel)))
theorem se_X11_against : Cond.selects RX11 yX11_against yX11_against ∈ TB := tbp (q := (yX11_against, 58)) (lpv5 (List.mem_of_getElem? (i := 9) (by decide +kernel)))
theorem se_X11_follow : Cond.selects RX11 yX11_follow yX11_follow ∈ TB := tbp (q := (yX11_follow, 58)) (lpv5 (List.mem_of_getElem? (i := 10) (by decide +kernel)))
theorem se_X11_isAhead : Cond.selects RX11 yX11_isAhead yX11_isAhead ∈ TB := tbp (q := (yX11_isAhead, 58)) (lpv5 (List.mem_of_getElem? (i := 11) (by decide +kernel)))
theorem se_X11_isClosed : Cond.selects RX11 yX11_isClosed yX11_isClosed ∈ TB := tbp (q := (yX11_isClosed, 58)) (lpv5 (List.mem_of_getElem? (i := 12) (by decide +kernel)))
theorem se_X11_guest : Cond.selects RX11 yX11_guest yX11_guest ∈ TB := tbp (q := (yX11_guest, 58)) (lpv5 (List.mem_of_getElem? (i := 13) (by decide +kernel)))
theorem se_X11_going : Cond.selects RX11 yX11_going yX11_going ∈ TB := tbp (q := (yX11_going, 58)) (lpv5 (List.mem_of_getElem? (i := 14) (by decide +kernel)))
theorem lay_X0 : ∀ w ∈ u_ws RX0 TX0 4, w ∈ TB := tbl_of [33, 35, 37, 39] (by decide +kernel) (by decide +kernel)
theorem lay_X1 : ∀ w ∈ u_ws RX1 TX1 2, w ∈ TB := tbl_of [165, 167] (by decide +kernel) (by decide +kernel)
theorem lay_X2 : ∀ w ∈ u_ws RX2 TX2 3, w ∈ TB := tbl_of [277, 279, 281] (by decide +kernel) (by decide +kernel)
theorem lay_X3 : ∀ w ∈ u_ws RX3 TX3 7, w ∈ TB := tbl_of [191, 193, 195, 197, 199, 201, 203] (by decide +kernel) (by decide +kernel)
theorem lay_X4 : ∀ w ∈ u_ws RX4 TX4 8, w ∈ TB := tbl_of [139, 141, 143, 145, 147, 149, 151, 153] (by decide +kernel) (by decide +kernel)
theorem lay_X5 : ∀ w ∈ u_ws RX5 TX5 8, w ∈ TB := tbl_of [219, 221, 223, 225, 227, 229, 231, 233] (by decide +kernel) (by decide +kernel)
theorem lay_X6 : ∀ w ∈ u_ws RX6 TX6 2, w ∈ TB := tbl_of [53, 55] (by decide +kernel) (by decide +kernel)
theorem lay_X7 : ∀ w ∈ u_ws RX7 TX7 9, w ∈ TB := tbl_of [110, 112, 114, 116, 118, 120, 122, 124, 126] (by decide +kernel) (by decide +kernel)
theorem lay_X8 : ∀ w ∈ u_ws RX8 TX8 3, w ∈ TB := tbl_of [77, 79, 81] (by decide +kernel) (by decide +kernel)
theorem lay_X9 : ∀ w ∈ u_ws RX9 TX9 5, w ∈ TB := tbl_of [254, 256, 258, 260, 262] (by decide +kernel) (by decide +kernel)
theorem lay_X10 : ∀ w ∈ u_ws RX10 TX10 16, w ∈ TB := tbl_of [302, 304, 306, 308, 310, 312, 314, 316, 318, 320, 322, 324, 326, 328, 330, 332] (by decide +kernel) (by decide +kernel)
theorem lay_X11 : ∀ w ∈ u_ws RX11 TX11 58, w ∈ TB := tbl_of [800, 802, 804, 806, 808, 810, 812, 814, 816, 818, 820, 822, 824, 826, 828, 830, 832, 834, 836, 838, 840, 842, 844, 846, 848, 850, 852, 854, 856, 858, 860, 862, 864, 866, 868, 870, 872, 874, 876, 878, 880, 882, 884, 886, 888, 890, 892, 894, 896, 898, 900, 902, 904, 906, 908, 910, 912, 914] (by decide +kernel) (by decide +kernel)
