/-! the law's words among the tables' words, by their places (written by gen/lawwords.py) -/
def lwP (w : Cond) : Prop := w ∈ lw_tbl ∧ ((w.onTables && w.keeps) = true ∨ ∃ ty, w = .arrayClass ty)
theorem lwN : GoodIn lw_tbl [] := fun _ h => absurd h List.not_mem_nil
theorem lwC {w : Cond} {ws : List Cond} (h : lwP w) (hs : GoodIn lw_tbl ws) : GoodIn lw_tbl (w :: ws) := fun v hv => (List.mem_cons.mp hv).elim (fun e => by rw [e]; exact h) (hs v)
theorem lwt_1 {i : Nat} {w : Cond} (h : tables_1_1[i]? = some w) : w ∈ lw_tbl := List.mem_append_right _ (List.mem_append_left _ (List.mem_of_getElem? h))
theorem lwt_2 {i : Nat} {w : Cond} (h : tables_1_2[i]? = some w) : w ∈ lw_tbl := List.mem_append_right _ (List.mem_append_right _ (List.mem_append_left _ (List.mem_of_getElem? h)))
theorem lwt_3 {i : Nat} {w : Cond} (h : tables_1_3[i]? = some w) : w ∈ lw_tbl := List.mem_append_right _ (List.mem_append_right _ (List.mem_append_right _ (List.mem_append_left _ (List.mem_of_getElem? h))))
theorem lwt_4 {i : Nat} {w : Cond} (h : tables_1_4[i]? = some w) : w ∈ lw_tbl := List.mem_append_right _ (List.mem_append_right _ (List.mem_append_right _ (List.mem_append_right _ (List.mem_append_left _ (List.mem_of_getElem? h)))))
theorem lwt_5 {i : Nat} {w : Cond} (h : tables_1_5[i]? = some w) : w ∈ lw_tbl := List.mem_append_right _ (List.mem_append_right _ (List.mem_append_right _ (List.mem_append_right _ (List.mem_append_right _ (List.mem_of_getElem? h)))))
theorem lwt_p {i : Nat} {w : Cond} (h : (k2_sels lw_privs)[i]? = some w) : w ∈ lw_tbl := List.mem_append_left _ (List.mem_of_getElem? h)
theorem lwd_0 : lwP (Cond.code yX8_init cX8_init 2 none) := ⟨lwt_1 (i := 22) (by decide +kernel), good_of_word (by decide +kernel)⟩
theorem lwd_1 : lwP (Cond.instantiable RX4 5) := ⟨lwt_1 (i := 157) (by decide +kernel), good_of_word (by decide +kernel)⟩
theorem lwd_2 : lwP (Cond.classLink RX8 48 RX4) := ⟨lwt_1 (i := 156) (by decide +kernel), good_of_word (by decide +kernel)⟩
theorem lwd_3 : lwP (Cond.fieldLink RX8 45 "LodgingNames" "kept" "LLodgingNames$Pile;") := ⟨lwt_2 (i := 164) (by decide +kernel), good_of_word (by decide +kernel)⟩
theorem lwd_4 : lwP (Cond.fieldLink RX8 41 "LodgingNames" "past" "LLodgingNames$Pile;") := ⟨lwt_2 (i := 163) (by decide +kernel), good_of_word (by decide +kernel)⟩
theorem lwd_5 : lwP (Cond.initialized RX2) := ⟨lwt_1 (i := 6) (by decide +kernel), good_of_word (by decide +kernel)⟩
theorem lwd_6 : lwP (Cond.instantiable RX2 3) := ⟨lwt_1 (i := 134) (by decide +kernel), good_of_word (by decide +kernel)⟩
theorem lwd_7 : lwP (Cond.classLink RX8 36 RX2) := ⟨lwt_1 (i := 133) (by decide +kernel), good_of_word (by decide +kernel)⟩
theorem lwd_8 : lwP (Cond.fieldLink RX8 33 "LodgingNames" "then" "LLodgingNames$Standing;") := ⟨lwt_2 (i := 162) (by decide +kernel), good_of_word (by decide +kernel)⟩
theorem lwd_9 : lwP (Cond.fieldLink RX8 29 "LodgingNames" "now" "LLodgingNames$Standing;") := ⟨lwt_2 (i := 161) (by decide +kernel), good_of_word (by decide +kernel)⟩
theorem lwd_10 : lwP (Cond.initialized RX5) := ⟨lwt_1 (i := 5) (by decide +kernel), good_of_word (by decide +kernel)⟩
theorem lwd_11 : lwP (Cond.instantiable RX5 4) := ⟨lwt_1 (i := 106) (by decide +kernel), good_of_word (by decide +kernel)⟩
theorem lwd_12 : lwP (Cond.classLink RX8 26 RX5) := ⟨lwt_1 (i := 105) (by decide +kernel), good_of_word (by decide +kernel)⟩
theorem lwd_13 : lwP (Cond.fieldLink RX8 23 "LodgingNames" "draft" "LLodgingNames$Port;") := ⟨lwt_2 (i := 160) (by decide +kernel), good_of_word (by decide +kernel)⟩
theorem lwd_14 : lwP (Cond.fieldLink RX8 19 "LodgingNames" "port" "LLodgingNames$Port;") := ⟨lwt_2 (i := 159) (by decide +kernel), good_of_word (by decide +kernel)⟩
theorem lwd_15 : lwP (Cond.initialized RX3) := ⟨lwt_1 (i := 3) (by decide +kernel), good_of_word (by decide +kernel)⟩
theorem lwd_16 : lwP (Cond.instantiable RX3 9) := ⟨lwt_1 (i := 45) (by decide +kernel), good_of_word (by decide +kernel)⟩
theorem lwd_17 : lwP (Cond.classLink RX8 16 RX3) := ⟨lwt_1 (i := 44) (by decide +kernel), good_of_word (by decide +kernel)⟩
theorem lwd_18 : lwP (Cond.fieldLink RX8 10 "LodgingNames" "text" "LLodgingNames$Text;") := ⟨lwt_2 (i := 158) (by decide +kernel), good_of_word (by decide +kernel)⟩
theorem lwd_19 : lwP (Cond.initialized RX6) := ⟨lwt_1 (i := 2) (by decide +kernel), good_of_word (by decide +kernel)⟩
theorem lwd_20 : lwP (Cond.instantiable RX6 3) := ⟨lwt_1 (i := 27) (by decide +kernel), good_of_word (by decide +kernel)⟩
theorem lwd_21 : lwP (Cond.classLink RX8 7 RX6) := ⟨lwt_1 (i := 26) (by decide +kernel), good_of_word (by decide +kernel)⟩
theorem lwd_22 : lwP (Cond.code objectInit ⟨#[0xb1]⟩ 1 none) := ⟨lwt_1 (i := 25) (by decide +kernel), good_of_word (by decide +kernel)⟩
theorem lwd_23 : lwP (Cond.instanceMethod objectInit) := ⟨lwt_1 (i := 24) (by decide +kernel), good_of_word (by decide +kernel)⟩
theorem lwd_24 : lwP (Cond.methodLink RX8 1 objectInit) := ⟨lwt_1 (i := 23) (by decide +kernel), good_of_word (by decide +kernel)⟩
theorem lwd_25 : lwP (Cond.fieldLink RX3 24 "LodgingNames$Port" "eats" "[I") := ⟨lwt_1 (i := 71) (by decide +kernel), good_of_word (by decide +kernel)⟩
theorem lwd_26 : lwP (Cond.fieldLink RX3 21 "LodgingNames$Port" "unkind" "[I") := ⟨lwt_1 (i := 67) (by decide +kernel), good_of_word (by decide +kernel)⟩
theorem lwd_27 : lwP (Cond.fieldLink RX3 18 "LodgingNames$Port" "foods" "[I") := ⟨lwt_1 (i := 65) (by decide +kernel), good_of_word (by decide +kernel)⟩
theorem lwd_28 : lwP (Cond.fieldLink RX3 15 "LodgingNames$Port" "beds" "[I") := ⟨lwt_1 (i := 63) (by decide +kernel), good_of_word (by decide +kernel)⟩
theorem lwd_29 : lwP (Cond.fieldLink RX3 9 "LodgingNames$Port" "kinds" "[I") := ⟨lwt_1 (i := 61) (by decide +kernel), good_of_word (by decide +kernel)⟩
theorem lwd_30 : lwP (Cond.methodLink RX3 3 objectInit) := ⟨lwt_1 (i := 49) (by decide +kernel), good_of_word (by decide +kernel)⟩
theorem lwd_31 : lwP (Cond.code yX3_init cX3_init 1 none) := ⟨lwt_1 (i := 48) (by decide +kernel), good_of_word (by decide +kernel)⟩
theorem lwd_32 : lwP (Cond.instanceMethod yX3_init) := ⟨lwt_1 (i := 47) (by decide +kernel), good_of_word (by decide +kernel)⟩
theorem lwd_33 : lwP (Cond.fieldLink RX6 15 "LodgingNames$Text" "numbers" "[I") := ⟨lwt_1 (i := 33) (by decide +kernel), good_of_word (by decide +kernel)⟩
theorem lwd_34 : lwP (Cond.fieldLink RX6 9 "LodgingNames$Text" "letters" "[I") := ⟨lwt_1 (i := 32) (by decide +kernel), good_of_word (by decide +kernel)⟩
theorem lwd_35 : lwP (Cond.arrayClass .int) := ⟨lwt_1 (i := 43) (by decide +kernel), good_of_word (by decide +kernel)⟩
theorem lwd_36 : lwP (Cond.methodLink RX6 3 objectInit) := ⟨lwt_1 (i := 31) (by decide +kernel), good_of_word (by decide +kernel)⟩
theorem lwd_37 : lwP (Cond.code yX6_init cX6_init 1 none) := ⟨lwt_1 (i := 30) (by decide +kernel), good_of_word (by decide +kernel)⟩
theorem lwd_38 : lwP (Cond.instanceMethod yX6_init) := ⟨lwt_1 (i := 29) (by decide +kernel), good_of_word (by decide +kernel)⟩
theorem lwd_39 : lwP (Cond.fieldLink RX8 69 "LodgingNames" "outlook" "LLodgingNames$Outlook;") := ⟨lwt_2 (i := 167) (by decide +kernel), good_of_word (by decide +kernel)⟩
theorem lwd_40 : lwP (Cond.initialized RX1) := ⟨lwt_1 (i := 10) (by decide +kernel), good_of_word (by decide +kernel)⟩
theorem lwd_41 : lwP (Cond.instantiable RX1 5) := ⟨lwt_1 (i := 216) (by decide +kernel), good_of_word (by decide +kernel)⟩
theorem lwd_42 : lwP (Cond.classLink RX8 64 RX1) := ⟨lwt_1 (i := 215) (by decide +kernel), good_of_word (by decide +kernel)⟩
theorem lwd_43 : lwP (Cond.fieldLink RX8 60 "LodgingNames" "house" "LLodgingNames$House;") := ⟨lwt_2 (i := 166) (by decide +kernel), good_of_word (by decide +kernel)⟩
theorem lwd_44 : lwP (Cond.initialized RX0) := ⟨lwt_1 (i := 9) (by decide +kernel), good_of_word (by decide +kernel)⟩
theorem lwd_45 : lwP (Cond.instantiable RX0 6) := ⟨lwt_1 (i := 185) (by decide +kernel), good_of_word (by decide +kernel)⟩
theorem lwd_46 : lwP (Cond.classLink RX8 55 RX0) := ⟨lwt_1 (i := 184) (by decide +kernel), good_of_word (by decide +kernel)⟩
theorem lwd_47 : lwP (Cond.fieldLink RX8 51 "LodgingNames" "sights" "LLodgingNames$Sights;") := ⟨lwt_2 (i := 165) (by decide +kernel), good_of_word (by decide +kernel)⟩
theorem lwd_48 : lwP (Cond.initialized RX4) := ⟨lwt_1 (i := 8) (by decide +kernel), good_of_word (by decide +kernel)⟩
theorem lwd_49 : lwP (Cond.classLink RX2 13 RX5) := ⟨lwt_1 (i := 142) (by decide +kernel), good_of_word (by decide +kernel)⟩
theorem lwd_50 : lwP (Cond.code Lib.Math.max.name Lib.Math.max.code 2 (some .int)) := ⟨lwt_1 (i := 141) (by decide +kernel), good_of_word (by decide +kernel)⟩
theorem lwd_51 : lwP (Cond.initialized "java/lang/Math") := ⟨lwt_1 (i := 7) (by decide +kernel), good_of_word (by decide +kernel)⟩
theorem lwd_52 : lwP (Cond.static Lib.Math.max.name) := ⟨lwt_1 (i := 140) (by decide +kernel), good_of_word (by decide +kernel)⟩
theorem lwd_53 : lwP (Cond.methodLink RX2 7 Lib.Math.max.name) := ⟨lwt_1 (i := 139) (by decide +kernel), good_of_word (by decide +kernel)⟩
theorem lwd_54 : lwP (Cond.methodLink RX2 1 objectInit) := ⟨lwt_1 (i := 138) (by decide +kernel), good_of_word (by decide +kernel)⟩
theorem lwd_55 : lwP (Cond.code yX2_init cX2_init 3 none) := ⟨lwt_1 (i := 137) (by decide +kernel), good_of_word (by decide +kernel)⟩
theorem lwd_56 : lwP (Cond.instanceMethod yX2_init) := ⟨lwt_1 (i := 136) (by decide +kernel), good_of_word (by decide +kernel)⟩
theorem lwd_57 : lwP (Cond.methodLink RX8 38 yX2_init) := ⟨lwt_1 (i := 135) (by decide +kernel), good_of_word (by decide +kernel)⟩
theorem lwd_58 : lwP (Cond.fieldLink RX5 18 "LodgingNames$Standing" "stoutness" "[I") := ⟨lwt_1 (i := 117) (by decide +kernel), good_of_word (by decide +kernel)⟩
theorem lwd_59 : lwP (Cond.fieldLink RX5 12 "LodgingNames$Standing" "words" "LLodgingNames$Words;") := ⟨lwt_1 (i := 113) (by decide +kernel), good_of_word (by decide +kernel)⟩
theorem lwd_60 : lwP (Cond.classLink RX5 9 RX7) := ⟨lwt_1 (i := 111) (by decide +kernel), good_of_word (by decide +kernel)⟩
theorem lwd_61 : lwP (Cond.methodLink RX5 3 objectInit) := ⟨lwt_1 (i := 110) (by decide +kernel), good_of_word (by decide +kernel)⟩
theorem lwd_62 : lwP (Cond.code yX5_init cX5_init 1 none) := ⟨lwt_1 (i := 109) (by decide +kernel), good_of_word (by decide +kernel)⟩
theorem lwd_63 : lwP (Cond.instanceMethod yX5_init) := ⟨lwt_1 (i := 108) (by decide +kernel), good_of_word (by decide +kernel)⟩
theorem lwd_64 : lwP (Cond.fieldLink RX7 9 "LodgingNames$Words" "rows" "[J") := ⟨lwt_1 (i := 56) (by decide +kernel), good_of_word (by decide +kernel)⟩
theorem lwd_65 : lwP (Cond.arrayClass .long) := ⟨lwt_1 (i := 60) (by decide +kernel), good_of_word (by decide +kernel)⟩
theorem lwd_66 : lwP (Cond.methodLink RX7 3 objectInit) := ⟨lwt_1 (i := 55) (by decide +kernel), good_of_word (by decide +kernel)⟩
theorem lwd_67 : lwP (Cond.code yX7_init cX7_init 1 none) := ⟨lwt_1 (i := 54) (by decide +kernel), good_of_word (by decide +kernel)⟩
theorem lwd_68 : lwP (Cond.instanceMethod yX7_init) := ⟨lwt_1 (i := 53) (by decide +kernel), good_of_word (by decide +kernel)⟩
theorem lwd_69 : lwP (Cond.fieldLink RX3 30 "LodgingNames$Port" "words" "LLodgingNames$Words;") := ⟨lwt_1 (i := 74) (by decide +kernel), good_of_word (by decide +kernel)⟩
theorem lwd_70 : lwP (Cond.initialized RX7) := ⟨lwt_1 (i := 4) (by decide +kernel), good_of_word (by decide +kernel)⟩
theorem lwd_71 : lwP (Cond.instantiable RX7 1) := ⟨lwt_1 (i := 51) (by decide +kernel), good_of_word (by decide +kernel)⟩
theorem lwd_72 : lwP (Cond.classLink RX3 27 RX7) := ⟨lwt_1 (i := 50) (by decide +kernel), good_of_word (by decide +kernel)⟩
theorem lwd_73 : lwP (Cond.selects RJ0 yJ0_length_8abf5 yJ0_length_8abf5) := ⟨lwt_2 (i := 2) (by decide +kernel), good_of_word (by decide +kernel)⟩
theorem lwd_74 : lwP (Cond.instanceMethod yJ0_length_8abf5) := ⟨lwt_2 (i := 1) (by decide +kernel), good_of_word (by decide +kernel)⟩
theorem lwd_75 : lwP (Cond.methodLink RX8 75 yJ0_length_8abf5) := ⟨lwt_2 (i := 0) (by decide +kernel), good_of_word (by decide +kernel)⟩
theorem lwd_76 : lwP (Cond.fieldLink RX1 19 "LodgingNames$Outlook" "house" "LLodgingNames$House;") := ⟨lwt_1 (i := 223) (by decide +kernel), good_of_word (by decide +kernel)⟩
theorem lwd_77 : lwP (Cond.fieldLink RX1 15 "LodgingNames$Outlook" "now" "LLodgingNames$Standing;") := ⟨lwt_1 (i := 222) (by decide +kernel), good_of_word (by decide +kernel)⟩
theorem lwd_78 : lwP (Cond.fieldLink RX1 9 "LodgingNames$Outlook" "port" "LLodgingNames$Port;") := ⟨lwt_1 (i := 221) (by decide +kernel), good_of_word (by decide +kernel)⟩
theorem lwd_79 : lwP (Cond.methodLink RX1 3 objectInit) := ⟨lwt_1 (i := 220) (by decide +kernel), good_of_word (by decide +kernel)⟩
theorem lwd_80 : lwP (Cond.code yX1_init cX1_init 4 none) := ⟨lwt_1 (i := 219) (by decide +kernel), good_of_word (by decide +kernel)⟩
theorem lwd_81 : lwP (Cond.instanceMethod yX1_init) := ⟨lwt_1 (i := 218) (by decide +kernel), good_of_word (by decide +kernel)⟩
theorem lwd_82 : lwP (Cond.methodLink RX8 66 yX1_init) := ⟨lwt_1 (i := 217) (by decide +kernel), good_of_word (by decide +kernel)⟩
theorem lwd_83 : lwP (Cond.fieldLink RX0 15 "LodgingNames$House" "port" "LLodgingNames$Port;") := ⟨lwt_1 (i := 190) (by decide +kernel), good_of_word (by decide +kernel)⟩
theorem lwd_84 : lwP (Cond.fieldLink RX0 9 "LodgingNames$House" "stoutness" "[I") := ⟨lwt_1 (i := 191) (by decide +kernel), good_of_word (by decide +kernel)⟩
theorem lwd_85 : lwP (Cond.methodLink RX0 3 objectInit) := ⟨lwt_1 (i := 189) (by decide +kernel), good_of_word (by decide +kernel)⟩
theorem lwd_86 : lwP (Cond.code yX0_init cX0_init 2 none) := ⟨lwt_1 (i := 188) (by decide +kernel), good_of_word (by decide +kernel)⟩
theorem lwd_87 : lwP (Cond.instanceMethod yX0_init) := ⟨lwt_1 (i := 187) (by decide +kernel), good_of_word (by decide +kernel)⟩
theorem lwd_88 : lwP (Cond.methodLink RX8 57 yX0_init) := ⟨lwt_1 (i := 186) (by decide +kernel), good_of_word (by decide +kernel)⟩
theorem lwd_89 : lwP (Cond.fieldLink RX4 21 "LodgingNames$Sights" "stoutness" "[I") := ⟨lwt_1 (i := 168) (by decide +kernel), good_of_word (by decide +kernel)⟩
theorem lwd_90 : lwP (Cond.fieldLink RX4 18 "LodgingNames$Sights" "days" "[I") := ⟨lwt_1 (i := 166) (by decide +kernel), good_of_word (by decide +kernel)⟩
theorem lwd_91 : lwP (Cond.fieldLink RX4 15 "LodgingNames$Sights" "names" "[I") := ⟨lwt_1 (i := 164) (by decide +kernel), good_of_word (by decide +kernel)⟩
theorem lwd_92 : lwP (Cond.fieldLink RX4 9 "LodgingNames$Sights" "persons" "[I") := ⟨lwt_1 (i := 162) (by decide +kernel), good_of_word (by decide +kernel)⟩
theorem lwd_93 : lwP (Cond.methodLink RX4 3 objectInit) := ⟨lwt_1 (i := 161) (by decide +kernel), good_of_word (by decide +kernel)⟩
theorem lwd_94 : lwP (Cond.code yX4_init cX4_init 1 none) := ⟨lwt_1 (i := 160) (by decide +kernel), good_of_word (by decide +kernel)⟩
theorem lwd_95 : lwP (Cond.instanceMethod yX4_init) := ⟨lwt_1 (i := 159) (by decide +kernel), good_of_word (by decide +kernel)⟩
theorem lwd_96 : lwP (Cond.fieldLink RX2 15 "LodgingNames$Pile" "places" "[LLodgingNames$Standing;") := ⟨lwt_1 (i := 145) (by decide +kernel), good_of_word (by decide +kernel)⟩
theorem lwd_97 : lwP (Cond.code yJ0_checkIndex_df160 cJ0_checkIndex_df160 2 none) := ⟨lwt_2 (i := 23) (by decide +kernel), good_of_word (by decide +kernel)⟩
theorem lwd_98 : lwP (Cond.static yJ0_checkIndex_df160) := ⟨lwt_2 (i := 22) (by decide +kernel), good_of_word (by decide +kernel)⟩
theorem lwd_99 : lwP (Cond.methodLink RJ1 9 yJ0_checkIndex_df160) := ⟨lwt_2 (i := 21) (by decide +kernel), good_of_word (by decide +kernel)⟩
theorem lwd_100 : lwP (Cond.code yJ1_charAt_3b067 cJ1_charAt_3b067 2 (some .char)) := ⟨lwt_2 (i := 20) (by decide +kernel), good_of_word (by decide +kernel)⟩
theorem lwd_101 : lwP (Cond.initialized RJ1) := ⟨lwt_1 (i := 12) (by decide +kernel), good_of_word (by decide +kernel)⟩
theorem lwd_102 : lwP (Cond.static yJ1_charAt_3b067) := ⟨lwt_2 (i := 19) (by decide +kernel), good_of_word (by decide +kernel)⟩
theorem lwd_103 : lwP (Cond.methodLink RJ0 495 yJ1_charAt_3b067) := ⟨lwt_2 (i := 18) (by decide +kernel), good_of_word (by decide +kernel)⟩
theorem lwd_104 : lwP (Cond.code yJ0_isLatin1_aae02 cJ0_isLatin1_aae02 1 (some .boolean)) := ⟨lwt_2 (i := 17) (by decide +kernel), good_of_word (by decide +kernel)⟩
theorem lwd_105 : lwP (Cond.selects RJ0 yJ0_isLatin1_aae02 yJ0_isLatin1_aae02) := ⟨lwt_2 (i := 16) (by decide +kernel), good_of_word (by decide +kernel)⟩
theorem lwd_106 : lwP (Cond.instanceMethod yJ0_isLatin1_aae02) := ⟨lwt_2 (i := 15) (by decide +kernel), good_of_word (by decide +kernel)⟩
theorem lwd_107 : lwP (Cond.methodLink RJ0 492 yJ0_isLatin1_aae02) := ⟨lwt_2 (i := 14) (by decide +kernel), good_of_word (by decide +kernel)⟩
theorem lwd_108 : lwP (Cond.code yJ0_charAt_5068e cJ0_charAt_5068e 2 (some .char)) := ⟨lwt_2 (i := 13) (by decide +kernel), good_of_word (by decide +kernel)⟩
theorem lwd_109 : lwP (Cond.selects RJ0 yJ0_charAt_5068e yJ0_charAt_5068e) := ⟨lwt_2 (i := 12) (by decide +kernel), good_of_word (by decide +kernel)⟩
theorem lwd_110 : lwP (Cond.instanceMethod yJ0_charAt_5068e) := ⟨lwt_2 (i := 11) (by decide +kernel), good_of_word (by decide +kernel)⟩
theorem lwd_111 : lwP (Cond.methodLink RX8 81 yJ0_charAt_5068e) := ⟨lwt_2 (i := 10) (by decide +kernel), good_of_word (by decide +kernel)⟩
theorem lwd_112 : lwP (Cond.fieldLink RJ0 15 "java/lang/String" "coder" "B") := ⟨lwt_5 (i := 108) (by decide +kernel), good_of_word (by decide +kernel)⟩
theorem lwd_113 : lwP (Cond.fieldLink RJ0 38 "java/lang/String" "COMPACT_STRINGS" "Z") := ⟨lwt_2 (i := 8) (by decide +kernel), good_of_word (by decide +kernel)⟩
theorem lwd_114 : lwP (Cond.code yJ0_coder_7d493 cJ0_coder_7d493 1 (some .byte)) := ⟨lwt_2 (i := 7) (by decide +kernel), good_of_word (by decide +kernel)⟩
theorem lwd_115 : lwP (Cond.selects RJ0 yJ0_coder_7d493 yJ0_coder_7d493) := ⟨lwt_2 (i := 6) (by decide +kernel), good_of_word (by decide +kernel)⟩
theorem lwd_116 : lwP (Cond.instanceMethod yJ0_coder_7d493) := ⟨lwt_2 (i := 5) (by decide +kernel), good_of_word (by decide +kernel)⟩
theorem lwd_117 : lwP (Cond.methodLink RJ0 335 yJ0_coder_7d493) := ⟨lwt_2 (i := 4) (by decide +kernel), good_of_word (by decide +kernel)⟩
theorem lwd_118 : lwP (Cond.fieldLink RJ0 9 "java/lang/String" "value" "[B") := ⟨lwt_5 (i := 107) (by decide +kernel), good_of_word (by decide +kernel)⟩
theorem lwd_119 : lwP (Cond.code yJ0_length_8abf5 cJ0_length_8abf5 1 (some .int)) := ⟨lwt_2 (i := 3) (by decide +kernel), good_of_word (by decide +kernel)⟩
theorem lwd_120 : lwP (Cond.initialized RJ0) := ⟨lwt_1 (i := 11) (by decide +kernel), good_of_word (by decide +kernel)⟩
theorem lwd_121 : lwP (Cond.instanceMethod yX6_add) := ⟨lwt_2 (i := 49) (by decide +kernel), good_of_word (by decide +kernel)⟩
theorem lwd_122 : lwP (Cond.methodLink RX8 85 yX6_add) := ⟨lwt_2 (i := 48) (by decide +kernel), good_of_word (by decide +kernel)⟩
theorem lwd_123 : lwP (Cond.fieldLink RJ2 63 "java/lang/StringUTF16" "LO_BYTE_SHIFT" "I") := ⟨lwt_2 (i := 46) (by decide +kernel), good_of_word (by decide +kernel)⟩
theorem lwd_124 : lwP (Cond.fieldLink RJ2 59 "java/lang/StringUTF16" "HI_BYTE_SHIFT" "I") := ⟨lwt_2 (i := 44) (by decide +kernel), good_of_word (by decide +kernel)⟩
theorem lwd_125 : lwP (Cond.fieldLink RJ2 44 "java/lang/StringUTF16" "$assertionsDisabled" "Z") := ⟨lwt_2 (i := 42) (by decide +kernel), good_of_word (by decide +kernel)⟩
theorem lwd_126 : lwP (Cond.code yJ2_getChar_3b067 cJ2_getChar_3b067 2 (some .char)) := ⟨lwt_2 (i := 41) (by decide +kernel), good_of_word (by decide +kernel)⟩
theorem lwd_127 : lwP (Cond.static yJ2_getChar_3b067) := ⟨lwt_2 (i := 40) (by decide +kernel), good_of_word (by decide +kernel)⟩
theorem lwd_128 : lwP (Cond.methodLink RJ2 71 yJ2_getChar_3b067) := ⟨lwt_2 (i := 39) (by decide +kernel), good_of_word (by decide +kernel)⟩
theorem lwd_129 : lwP (Cond.methodLink RJ2 414 yJ0_checkIndex_df160) := ⟨lwt_2 (i := 38) (by decide +kernel), good_of_word (by decide +kernel)⟩
theorem lwd_130 : lwP (Cond.code yJ2_length_9d52b cJ2_length_9d52b 1 (some .int)) := ⟨lwt_2 (i := 37) (by decide +kernel), good_of_word (by decide +kernel)⟩
theorem lwd_131 : lwP (Cond.static yJ2_length_9d52b) := ⟨lwt_2 (i := 36) (by decide +kernel), good_of_word (by decide +kernel)⟩
theorem lwd_132 : lwP (Cond.methodLink RJ2 48 yJ2_length_9d52b) := ⟨lwt_2 (i := 35) (by decide +kernel), good_of_word (by decide +kernel)⟩
theorem lwd_133 : lwP (Cond.code yJ2_checkIndex_2214a cJ2_checkIndex_2214a 2 none) := ⟨lwt_2 (i := 34) (by decide +kernel), good_of_word (by decide +kernel)⟩
theorem lwd_134 : lwP (Cond.static yJ2_checkIndex_2214a) := ⟨lwt_2 (i := 33) (by decide +kernel), good_of_word (by decide +kernel)⟩
theorem lwd_135 : lwP (Cond.methodLink RJ2 67 yJ2_checkIndex_2214a) := ⟨lwt_2 (i := 32) (by decide +kernel), good_of_word (by decide +kernel)⟩
theorem lwd_136 : lwP (Cond.code yJ2_charAt_3b067 cJ2_charAt_3b067 2 (some .char)) := ⟨lwt_2 (i := 31) (by decide +kernel), good_of_word (by decide +kernel)⟩
theorem lwd_137 : lwP (Cond.initialized RJ2) := ⟨lwt_1 (i := 14) (by decide +kernel), good_of_word (by decide +kernel)⟩
theorem lwd_138 : lwP (Cond.static yJ2_charAt_3b067) := ⟨lwt_2 (i := 30) (by decide +kernel), good_of_word (by decide +kernel)⟩
theorem lwd_139 : lwP (Cond.methodLink RJ0 498 yJ2_charAt_3b067) := ⟨lwt_2 (i := 29) (by decide +kernel), good_of_word (by decide +kernel)⟩
theorem lwd_140 : lwP (Cond.code yJ3_checkIndex_8e157 cJ3_checkIndex_8e157 3 (some .int)) := ⟨lwt_2 (i := 28) (by decide +kernel), good_of_word (by decide +kernel)⟩
theorem lwd_141 : lwP (Cond.initialized RJ3) := ⟨lwt_1 (i := 13) (by decide +kernel), good_of_word (by decide +kernel)⟩
theorem lwd_142 : lwP (Cond.static yJ3_checkIndex_8e157) := ⟨lwt_2 (i := 27) (by decide +kernel), good_of_word (by decide +kernel)⟩
theorem lwd_143 : lwP (Cond.methodLink RJ0 1059 yJ3_checkIndex_8e157) := ⟨lwt_2 (i := 26) (by decide +kernel), good_of_word (by decide +kernel)⟩
theorem lwd_144 : lwP (Cond.fieldLink RJ0 1053 "jdk/internal/util/Preconditions" "SIOOBE_FORMATTER" "Ljava/util/function/BiFunction;") := ⟨lwt_2 (i := 24) (by decide +kernel), good_of_word (by decide +kernel)⟩
theorem lwd_145 : lwP (Cond.methodLink RX6 31 yX6_letterAt) := ⟨lwt_2 (i := 70) (by decide +kernel), good_of_word (by decide +kernel)⟩
theorem lwd_146 : lwP (Cond.code yX8_put_ cX8_put_ 4 none) := ⟨lwt_2 (i := 69) (by decide +kernel), good_of_word (by decide +kernel)⟩
theorem lwd_147 : lwP (Cond.static yX8_put_) := ⟨lwt_2 (i := 68) (by decide +kernel), good_of_word (by decide +kernel)⟩
theorem lwd_148 : lwP (Cond.code yX7_clear cX7_clear 2 none) := ⟨lwt_2 (i := 66) (by decide +kernel), good_of_word (by decide +kernel)⟩
theorem lwd_149 : lwP (Cond.selects RX7 yX7_clear yX7_clear) := ⟨lwt_2 (i := 65) (by decide +kernel), good_of_word (by decide +kernel)⟩
theorem lwd_150 : lwP (Cond.instanceMethod yX7_clear) := ⟨lwt_2 (i := 64) (by decide +kernel), good_of_word (by decide +kernel)⟩
theorem lwd_151 : lwP (Cond.methodLink RX3 44 yX7_clear) := ⟨lwt_2 (i := 63) (by decide +kernel), good_of_word (by decide +kernel)⟩
theorem lwd_152 : lwP (Cond.fieldLink RX3 41 "LodgingNames$Port" "quarrel" "I") := ⟨lwt_1 (i := 83) (by decide +kernel), good_of_word (by decide +kernel)⟩
theorem lwd_153 : lwP (Cond.fieldLink RX3 38 "LodgingNames$Port" "names" "I") := ⟨lwt_1 (i := 79) (by decide +kernel), good_of_word (by decide +kernel)⟩
theorem lwd_154 : lwP (Cond.fieldLink RX3 34 "LodgingNames$Port" "persons" "I") := ⟨lwt_1 (i := 76) (by decide +kernel), good_of_word (by decide +kernel)⟩
theorem lwd_155 : lwP (Cond.code yX3_clear cX3_clear 1 none) := ⟨lwt_2 (i := 62) (by decide +kernel), good_of_word (by decide +kernel)⟩
theorem lwd_156 : lwP (Cond.selects RX3 yX3_clear yX3_clear) := ⟨lwt_2 (i := 61) (by decide +kernel), good_of_word (by decide +kernel)⟩
theorem lwd_157 : lwP (Cond.instanceMethod yX3_clear) := ⟨lwt_2 (i := 60) (by decide +kernel), good_of_word (by decide +kernel)⟩
theorem lwd_158 : lwP (Cond.methodLink RX6 26 yX3_clear) := ⟨lwt_2 (i := 59) (by decide +kernel), good_of_word (by decide +kernel)⟩
theorem lwd_159 : lwP (Cond.code yX6_readInto cX6_readInto 6 (some .int)) := ⟨lwt_2 (i := 58) (by decide +kernel), good_of_word (by decide +kernel)⟩
theorem lwd_160 : lwP (Cond.selects RX6 yX6_readInto yX6_readInto) := ⟨lwt_2 (i := 57) (by decide +kernel), good_of_word (by decide +kernel)⟩
theorem lwd_161 : lwP (Cond.instanceMethod yX6_readInto) := ⟨lwt_2 (i := 56) (by decide +kernel), good_of_word (by decide +kernel)⟩
theorem lwd_162 : lwP (Cond.methodLink RX8 88 yX6_readInto) := ⟨lwt_2 (i := 55) (by decide +kernel), good_of_word (by decide +kernel)⟩
theorem lwd_163 : lwP (Cond.code yX8_put cX8_put 3 none) := ⟨lwt_2 (i := 54) (by decide +kernel), good_of_word (by decide +kernel)⟩
theorem lwd_164 : lwP (Cond.initialized RX8) := ⟨lwt_1 (i := 1) (by decide +kernel), good_of_word (by decide +kernel)⟩
theorem lwd_165 : lwP (Cond.static yX8_put) := ⟨lwt_2 (i := 53) (by decide +kernel), good_of_word (by decide +kernel)⟩
theorem lwd_166 : lwP (Cond.fieldLink RX6 18 "LodgingNames$Text" "length" "I") := ⟨lwt_1 (i := 34) (by decide +kernel), good_of_word (by decide +kernel)⟩
theorem lwd_167 : lwP (Cond.code yX6_add cX6_add 2 none) := ⟨lwt_2 (i := 51) (by decide +kernel), good_of_word (by decide +kernel)⟩
theorem lwd_168 : lwP (Cond.selects RX6 yX6_add yX6_add) := ⟨lwt_2 (i := 50) (by decide +kernel), good_of_word (by decide +kernel)⟩
theorem lwd_169 : lwP (Cond.instanceMethod yX3_tellPerson) := ⟨lwt_2 (i := 97) (by decide +kernel), good_of_word (by decide +kernel)⟩
theorem lwd_170 : lwP (Cond.methodLink RX3 47 yX3_tellPerson) := ⟨lwt_2 (i := 95) (by decide +kernel), good_of_word (by decide +kernel)⟩
theorem lwd_171 : lwP (Cond.code yX3_tell cX3_tell 5 (some .boolean)) := ⟨lwt_2 (i := 94) (by decide +kernel), good_of_word (by decide +kernel)⟩
theorem lwd_172 : lwP (Cond.selects RX3 yX3_tell yX3_tell) := ⟨lwt_2 (i := 93) (by decide +kernel), good_of_word (by decide +kernel)⟩
theorem lwd_173 : lwP (Cond.instanceMethod yX3_tell) := ⟨lwt_2 (i := 92) (by decide +kernel), good_of_word (by decide +kernel)⟩
theorem lwd_174 : lwP (Cond.methodLink RX6 46 yX3_tell) := ⟨lwt_2 (i := 91) (by decide +kernel), good_of_word (by decide +kernel)⟩
theorem lwd_175 : lwP (Cond.code yX8_within cX8_within 3 (some .boolean)) := ⟨lwt_2 (i := 90) (by decide +kernel), good_of_word (by decide +kernel)⟩
theorem lwd_176 : lwP (Cond.static yX8_within) := ⟨lwt_2 (i := 89) (by decide +kernel), good_of_word (by decide +kernel)⟩
theorem lwd_177 : lwP (Cond.code yX6_figureAt cX6_figureAt 3 (some .int)) := ⟨lwt_2 (i := 87) (by decide +kernel), good_of_word (by decide +kernel)⟩
theorem lwd_178 : lwP (Cond.selects RX6 yX6_figureAt yX6_figureAt) := ⟨lwt_p (i := 2) (by decide +kernel), good_of_word (by decide +kernel)⟩
theorem lwd_179 : lwP (Cond.instanceMethod yX6_figureAt) := ⟨lwt_2 (i := 86) (by decide +kernel), good_of_word (by decide +kernel)⟩
theorem lwd_180 : lwP (Cond.methodLink RX6 50 yX6_figureAt) := ⟨lwt_2 (i := 84) (by decide +kernel), good_of_word (by decide +kernel)⟩
theorem lwd_181 : lwP (Cond.code yX6_readNumbers cX6_readNumbers 7 (some .int)) := ⟨lwt_2 (i := 83) (by decide +kernel), good_of_word (by decide +kernel)⟩
theorem lwd_182 : lwP (Cond.selects RX6 yX6_readNumbers yX6_readNumbers) := ⟨lwt_p (i := 1) (by decide +kernel), good_of_word (by decide +kernel)⟩
theorem lwd_183 : lwP (Cond.instanceMethod yX6_readNumbers) := ⟨lwt_2 (i := 82) (by decide +kernel), good_of_word (by decide +kernel)⟩
theorem lwd_184 : lwP (Cond.methodLink RX6 38 yX6_readNumbers) := ⟨lwt_2 (i := 80) (by decide +kernel), good_of_word (by decide +kernel)⟩
theorem lwd_185 : lwP (Cond.code yX6_numbersOf cX6_numbersOf 1 (some .int)) := ⟨lwt_2 (i := 79) (by decide +kernel), good_of_word (by decide +kernel)⟩
theorem lwd_186 : lwP (Cond.static yX6_numbersOf) := ⟨lwt_2 (i := 78) (by decide +kernel), good_of_word (by decide +kernel)⟩
theorem lwd_187 : lwP (Cond.methodLink RX6 35 yX6_numbersOf) := ⟨lwt_2 (i := 77) (by decide +kernel), good_of_word (by decide +kernel)⟩
theorem lwd_188 : lwP (Cond.code yX8_at cX8_at 2 (some .int)) := ⟨lwt_2 (i := 76) (by decide +kernel), good_of_word (by decide +kernel)⟩
theorem lwd_189 : lwP (Cond.static yX8_at) := ⟨lwt_2 (i := 75) (by decide +kernel), good_of_word (by decide +kernel)⟩
theorem lwd_190 : lwP (Cond.code yX6_letterAt cX6_letterAt 2 (some .int)) := ⟨lwt_2 (i := 73) (by decide +kernel), good_of_word (by decide +kernel)⟩
theorem lwd_191 : lwP (Cond.selects RX6 yX6_letterAt yX6_letterAt) := ⟨lwt_p (i := 0) (by decide +kernel), good_of_word (by decide +kernel)⟩
theorem lwd_192 : lwP (Cond.instanceMethod yX6_letterAt) := ⟨lwt_2 (i := 72) (by decide +kernel), good_of_word (by decide +kernel)⟩
theorem lwd_193 : lwP (Cond.methodLink RX7 33 yX7_total) := ⟨lwt_2 (i := 123) (by decide +kernel), good_of_word (by decide +kernel)⟩
theorem lwd_194 : lwP (Cond.code yX7_bit cX7_bit 2 (some .long)) := ⟨lwt_2 (i := 122) (by decide +kernel), good_of_word (by decide +kernel)⟩
theorem lwd_195 : lwP (Cond.static yX7_bit) := ⟨lwt_2 (i := 121) (by decide +kernel), good_of_word (by decide +kernel)⟩
theorem lwd_196 : lwP (Cond.methodLink RX7 19 yX7_bit) := ⟨lwt_2 (i := 120) (by decide +kernel), good_of_word (by decide +kernel)⟩
theorem lwd_197 : lwP (Cond.code yX8_at_ cX8_at_ 2 (some .long)) := ⟨lwt_2 (i := 119) (by decide +kernel), good_of_word (by decide +kernel)⟩
theorem lwd_198 : lwP (Cond.static yX8_at_) := ⟨lwt_2 (i := 118) (by decide +kernel), good_of_word (by decide +kernel)⟩
theorem lwd_199 : lwP (Cond.code yX7_has cX7_has 4 (some .boolean)) := ⟨lwt_2 (i := 116) (by decide +kernel), good_of_word (by decide +kernel)⟩
theorem lwd_200 : lwP (Cond.selects RX7 yX7_has yX7_has) := ⟨lwt_2 (i := 115) (by decide +kernel), good_of_word (by decide +kernel)⟩
theorem lwd_201 : lwP (Cond.instanceMethod yX7_has) := ⟨lwt_2 (i := 114) (by decide +kernel), good_of_word (by decide +kernel)⟩
theorem lwd_202 : lwP (Cond.methodLink RX7 29 yX7_has) := ⟨lwt_2 (i := 113) (by decide +kernel), good_of_word (by decide +kernel)⟩
theorem lwd_203 : lwP (Cond.code yX7_canFlip cX7_canFlip 4 (some .boolean)) := ⟨lwt_2 (i := 112) (by decide +kernel), good_of_word (by decide +kernel)⟩
theorem lwd_204 : lwP (Cond.selects RX7 yX7_canFlip yX7_canFlip) := ⟨lwt_2 (i := 111) (by decide +kernel), good_of_word (by decide +kernel)⟩
theorem lwd_205 : lwP (Cond.instanceMethod yX7_canFlip) := ⟨lwt_2 (i := 110) (by decide +kernel), good_of_word (by decide +kernel)⟩
theorem lwd_206 : lwP (Cond.methodLink RX3 69 yX7_canFlip) := ⟨lwt_2 (i := 109) (by decide +kernel), good_of_word (by decide +kernel)⟩
theorem lwd_207 : lwP (Cond.code yX3_tellWord cX3_tellWord 4 (some .boolean)) := ⟨lwt_2 (i := 108) (by decide +kernel), good_of_word (by decide +kernel)⟩
theorem lwd_208 : lwP (Cond.selects RX3 yX3_tellWord yX3_tellWord) := ⟨lwt_p (i := 5) (by decide +kernel), good_of_word (by decide +kernel)⟩
theorem lwd_209 : lwP (Cond.instanceMethod yX3_tellWord) := ⟨lwt_2 (i := 107) (by decide +kernel), good_of_word (by decide +kernel)⟩
theorem lwd_210 : lwP (Cond.methodLink RX3 55 yX3_tellWord) := ⟨lwt_2 (i := 105) (by decide +kernel), good_of_word (by decide +kernel)⟩
theorem lwd_211 : lwP (Cond.code yX3_tellName cX3_tellName 3 (some .boolean)) := ⟨lwt_2 (i := 104) (by decide +kernel), good_of_word (by decide +kernel)⟩
theorem lwd_212 : lwP (Cond.selects RX3 yX3_tellName yX3_tellName) := ⟨lwt_p (i := 4) (by decide +kernel), good_of_word (by decide +kernel)⟩
theorem lwd_213 : lwP (Cond.instanceMethod yX3_tellName) := ⟨lwt_2 (i := 103) (by decide +kernel), good_of_word (by decide +kernel)⟩
theorem lwd_214 : lwP (Cond.methodLink RX3 51 yX3_tellName) := ⟨lwt_2 (i := 101) (by decide +kernel), good_of_word (by decide +kernel)⟩
theorem lwd_215 : lwP (Cond.code yX3_tellPerson cX3_tellPerson 4 (some .boolean)) := ⟨lwt_2 (i := 98) (by decide +kernel), good_of_word (by decide +kernel)⟩
theorem lwd_216 : lwP (Cond.selects RX3 yX3_tellPerson yX3_tellPerson) := ⟨lwt_p (i := 3) (by decide +kernel), good_of_word (by decide +kernel)⟩
theorem lwd_217 : lwP (Cond.fieldLink RX5 37 "LodgingNames$Standing" "noBeds" "I") := ⟨lwt_1 (i := 122) (by decide +kernel), good_of_word (by decide +kernel)⟩
theorem lwd_218 : lwP (Cond.fieldLink RX5 33 "LodgingNames$Standing" "days" "I") := ⟨lwt_1 (i := 118) (by decide +kernel), good_of_word (by decide +kernel)⟩
theorem lwd_219 : lwP (Cond.code yX5_begin cX5_begin 3 none) := ⟨lwt_2 (i := 144) (by decide +kernel), good_of_word (by decide +kernel)⟩
theorem lwd_220 : lwP (Cond.selects RX5 yX5_begin yX5_begin) := ⟨lwt_2 (i := 143) (by decide +kernel), good_of_word (by decide +kernel)⟩
theorem lwd_221 : lwP (Cond.instanceMethod yX5_begin) := ⟨lwt_2 (i := 142) (by decide +kernel), good_of_word (by decide +kernel)⟩
theorem lwd_222 : lwP (Cond.methodLink RX8 92 yX5_begin) := ⟨lwt_2 (i := 141) (by decide +kernel), good_of_word (by decide +kernel)⟩
theorem lwd_223 : lwP (Cond.code yX3_tellQuarrel cX3_tellQuarrel 2 (some .boolean)) := ⟨lwt_2 (i := 140) (by decide +kernel), good_of_word (by decide +kernel)⟩
theorem lwd_224 : lwP (Cond.selects RX3 yX3_tellQuarrel yX3_tellQuarrel) := ⟨lwt_p (i := 6) (by decide +kernel), good_of_word (by decide +kernel)⟩
theorem lwd_225 : lwP (Cond.instanceMethod yX3_tellQuarrel) := ⟨lwt_2 (i := 139) (by decide +kernel), good_of_word (by decide +kernel)⟩
theorem lwd_226 : lwP (Cond.methodLink RX3 58 yX3_tellQuarrel) := ⟨lwt_2 (i := 137) (by decide +kernel), good_of_word (by decide +kernel)⟩
theorem lwd_227 : lwP (Cond.code yX7_flip cX7_flip 4 none) := ⟨lwt_2 (i := 136) (by decide +kernel), good_of_word (by decide +kernel)⟩
theorem lwd_228 : lwP (Cond.selects RX7 yX7_flip yX7_flip) := ⟨lwt_2 (i := 135) (by decide +kernel), good_of_word (by decide +kernel)⟩
theorem lwd_229 : lwP (Cond.instanceMethod yX7_flip) := ⟨lwt_2 (i := 134) (by decide +kernel), good_of_word (by decide +kernel)⟩
theorem lwd_230 : lwP (Cond.methodLink RX3 72 yX7_flip) := ⟨lwt_2 (i := 133) (by decide +kernel), good_of_word (by decide +kernel)⟩
theorem lwd_231 : lwP (Cond.constantLong RJ13 318 (1085102592571150095)) := ⟨lwt_2 (i := 132) (by decide +kernel), good_of_word (by decide +kernel)⟩
theorem lwd_232 : lwP (Cond.constantLong RJ13 316 (3689348814741910323)) := ⟨lwt_2 (i := 131) (by decide +kernel), good_of_word (by decide +kernel)⟩
theorem lwd_233 : lwP (Cond.constantLong RJ13 314 (6148914691236517205)) := ⟨lwt_2 (i := 130) (by decide +kernel), good_of_word (by decide +kernel)⟩
theorem lwd_234 : lwP (Cond.code yJ13_bitCount_95d88 cJ13_bitCount_95d88 2 (some .int)) := ⟨lwt_2 (i := 129) (by decide +kernel), good_of_word (by decide +kernel)⟩
theorem lwd_235 : lwP (Cond.initialized RJ13) := ⟨lwt_1 (i := 15) (by decide +kernel), good_of_word (by decide +kernel)⟩
theorem lwd_236 : lwP (Cond.static yJ13_bitCount_95d88) := ⟨lwt_2 (i := 128) (by decide +kernel), good_of_word (by decide +kernel)⟩
theorem lwd_237 : lwP (Cond.methodLink RX7 23 yJ13_bitCount_95d88) := ⟨lwt_2 (i := 127) (by decide +kernel), good_of_word (by decide +kernel)⟩
theorem lwd_238 : lwP (Cond.code yX7_total cX7_total 3 (some .int)) := ⟨lwt_2 (i := 126) (by decide +kernel), good_of_word (by decide +kernel)⟩
theorem lwd_239 : lwP (Cond.selects RX7 yX7_total yX7_total) := ⟨lwt_2 (i := 125) (by decide +kernel), good_of_word (by decide +kernel)⟩
theorem lwd_240 : lwP (Cond.instanceMethod yX7_total) := ⟨lwt_2 (i := 124) (by decide +kernel), good_of_word (by decide +kernel)⟩
theorem lwd_241 : lwP (Cond.code yX6_clear cX6_clear 1 none) := ⟨lwt_2 (i := 157) (by decide +kernel), good_of_word (by decide +kernel)⟩
theorem lwd_242 : lwP (Cond.selects RX6 yX6_clear yX6_clear) := ⟨lwt_2 (i := 156) (by decide +kernel), good_of_word (by decide +kernel)⟩
theorem lwd_243 : lwP (Cond.instanceMethod yX6_clear) := ⟨lwt_2 (i := 155) (by decide +kernel), good_of_word (by decide +kernel)⟩
theorem lwd_244 : lwP (Cond.methodLink RX8 95 yX6_clear) := ⟨lwt_2 (i := 154) (by decide +kernel), good_of_word (by decide +kernel)⟩
theorem lwd_245 : lwP (Cond.code yX7_about cX7_about 2 (some .long)) := ⟨lwt_2 (i := 152) (by decide +kernel), good_of_word (by decide +kernel)⟩
theorem lwd_246 : lwP (Cond.selects RX7 yX7_about yX7_about) := ⟨lwt_2 (i := 151) (by decide +kernel), good_of_word (by decide +kernel)⟩
theorem lwd_247 : lwP (Cond.instanceMethod yX7_about) := ⟨lwt_2 (i := 150) (by decide +kernel), good_of_word (by decide +kernel)⟩
theorem lwd_248 : lwP (Cond.methodLink RX7 41 yX7_about) := ⟨lwt_2 (i := 149) (by decide +kernel), good_of_word (by decide +kernel)⟩
theorem lwd_249 : lwP (Cond.code yX7_become cX7_become 3 none) := ⟨lwt_2 (i := 148) (by decide +kernel), good_of_word (by decide +kernel)⟩
theorem lwd_250 : lwP (Cond.selects RX7 yX7_become yX7_become) := ⟨lwt_2 (i := 147) (by decide +kernel), good_of_word (by decide +kernel)⟩
theorem lwd_251 : lwP (Cond.instanceMethod yX7_become) := ⟨lwt_2 (i := 146) (by decide +kernel), good_of_word (by decide +kernel)⟩
theorem lwd_252 : lwP (Cond.methodLink RX5 25 yX7_become) := ⟨lwt_2 (i := 145) (by decide +kernel), good_of_word (by decide +kernel)⟩
theorem lwd_253 : lwP (Cond.code yX9_init cX9_init 1 none) := ⟨lwt_4 (i := 33) (by decide +kernel), good_of_word (by decide +kernel)⟩
theorem lwd_254 : lwP (Cond.instanceMethod yX9_personOf) := ⟨lwt_4 (i := 41) (by decide +kernel), good_of_word (by decide +kernel)⟩
theorem lwd_255 : lwP (Cond.methodLink RX9 49 yX9_personOf) := ⟨lwt_4 (i := 39) (by decide +kernel), good_of_word (by decide +kernel)⟩
theorem lwd_256 : lwP (Cond.fieldLink RX9 85 "LodgingNamesModel" "words" "I") := ⟨lwt_4 (i := 63) (by decide +kernel), good_of_word (by decide +kernel)⟩
theorem lwd_257 : lwP (Cond.code yX9_begins cX9_begins 2 none) := ⟨lwt_4 (i := 38) (by decide +kernel), good_of_word (by decide +kernel)⟩
theorem lwd_258 : lwP (Cond.initialized RX9) := ⟨lwt_1 (i := 16) (by decide +kernel), good_of_word (by decide +kernel)⟩
theorem lwd_259 : lwP (Cond.selects RX9 yX9_begins yX9_begins) := ⟨lwt_p (i := 19) (by decide +kernel), good_of_word (by decide +kernel)⟩
theorem lwd_260 : lwP (Cond.instanceMethod yX9_begins) := ⟨lwt_4 (i := 37) (by decide +kernel), good_of_word (by decide +kernel)⟩
theorem lwd_261 : lwP (Cond.methodLink RX9 46 yX9_begins) := ⟨lwt_4 (i := 35) (by decide +kernel), good_of_word (by decide +kernel)⟩
theorem lwd_262 : lwP (Cond.fieldLink RX9 43 "LodgingNamesModel" "spoken" "[I") := ⟨lwt_4 (i := 76) (by decide +kernel), good_of_word (by decide +kernel)⟩
theorem lwd_263 : lwP (Cond.fieldLink RX9 40 "LodgingNamesModel" "worth" "[I") := ⟨lwt_4 (i := 75) (by decide +kernel), good_of_word (by decide +kernel)⟩
theorem lwd_264 : lwP (Cond.fieldLink RX9 37 "LodgingNamesModel" "held" "[I") := ⟨lwt_4 (i := 74) (by decide +kernel), good_of_word (by decide +kernel)⟩
theorem lwd_265 : lwP (Cond.fieldLink RX9 34 "LodgingNamesModel" "seenDays" "[I") := ⟨lwt_4 (i := 70) (by decide +kernel), good_of_word (by decide +kernel)⟩
theorem lwd_266 : lwP (Cond.fieldLink RX9 31 "LodgingNamesModel" "seen" "[I") := ⟨lwt_4 (i := 69) (by decide +kernel), good_of_word (by decide +kernel)⟩
theorem lwd_267 : lwP (Cond.fieldLink RX9 28 "LodgingNamesModel" "images" "[I") := ⟨lwt_4 (i := 67) (by decide +kernel), good_of_word (by decide +kernel)⟩
theorem lwd_268 : lwP (Cond.fieldLink RX9 25 "LodgingNamesModel" "past" "[I") := ⟨lwt_4 (i := 65) (by decide +kernel), good_of_word (by decide +kernel)⟩
theorem lwd_269 : lwP (Cond.fieldLink RX9 22 "LodgingNamesModel" "s" "[I") := ⟨lwt_4 (i := 64) (by decide +kernel), good_of_word (by decide +kernel)⟩
theorem lwd_270 : lwP (Cond.fieldLink RX9 19 "LodgingNamesModel" "begun" "[I") := ⟨lwt_4 (i := 62) (by decide +kernel), good_of_word (by decide +kernel)⟩
theorem lwd_271 : lwP (Cond.fieldLink RX9 16 "LodgingNamesModel" "draft" "[I") := ⟨lwt_4 (i := 61) (by decide +kernel), good_of_word (by decide +kernel)⟩
theorem lwd_272 : lwP (Cond.fieldLink RX9 13 "LodgingNamesModel" "told" "[I") := ⟨lwt_4 (i := 60) (by decide +kernel), good_of_word (by decide +kernel)⟩
theorem lwd_273 : lwP (Cond.fieldLink RX9 7 "LodgingNamesModel" "text" "[I") := ⟨lwt_4 (i := 58) (by decide +kernel), good_of_word (by decide +kernel)⟩
theorem lwd_274 : lwP (Cond.methodLink RX9 1 objectInit) := ⟨lwt_4 (i := 34) (by decide +kernel), good_of_word (by decide +kernel)⟩
theorem lwd_275 : lwP (Cond.code yX9_in cX9_in 3 (some .boolean)) := ⟨lwt_4 (i := 57) (by decide +kernel), good_of_word (by decide +kernel)⟩
theorem lwd_276 : lwP (Cond.static yX9_in) := ⟨lwt_4 (i := 56) (by decide +kernel), good_of_word (by decide +kernel)⟩
theorem lwd_277 : lwP (Cond.methodLink RX9 63 yX9_in) := ⟨lwt_4 (i := 55) (by decide +kernel), good_of_word (by decide +kernel)⟩
theorem lwd_278 : lwP (Cond.fieldLink RX9 105 "LodgingNamesModel" "sights" "I") := ⟨lwt_4 (i := 71) (by decide +kernel), good_of_word (by decide +kernel)⟩
theorem lwd_279 : lwP (Cond.fieldLink RX9 102 "LodgingNamesModel" "kept" "I") := ⟨lwt_4 (i := 68) (by decide +kernel), good_of_word (by decide +kernel)⟩
theorem lwd_280 : lwP (Cond.fieldLink RX9 99 "LodgingNamesModel" "known" "I") := ⟨lwt_4 (i := 66) (by decide +kernel), good_of_word (by decide +kernel)⟩
theorem lwd_281 : lwP (Cond.code yX9_lays cX9_lays 2 none) := ⟨lwt_4 (i := 54) (by decide +kernel), good_of_word (by decide +kernel)⟩
theorem lwd_282 : lwP (Cond.selects RX9 yX9_lays yX9_lays) := ⟨lwt_p (i := 23) (by decide +kernel), good_of_word (by decide +kernel)⟩
theorem lwd_283 : lwP (Cond.instanceMethod yX9_lays) := ⟨lwt_4 (i := 53) (by decide +kernel), good_of_word (by decide +kernel)⟩
theorem lwd_284 : lwP (Cond.methodLink RX9 60 yX9_lays) := ⟨lwt_4 (i := 51) (by decide +kernel), good_of_word (by decide +kernel)⟩
theorem lwd_285 : lwP (Cond.code yX9_wordOf cX9_wordOf 4 none) := ⟨lwt_4 (i := 50) (by decide +kernel), good_of_word (by decide +kernel)⟩
theorem lwd_286 : lwP (Cond.selects RX9 yX9_wordOf yX9_wordOf) := ⟨lwt_p (i := 22) (by decide +kernel), good_of_word (by decide +kernel)⟩
theorem lwd_287 : lwP (Cond.instanceMethod yX9_wordOf) := ⟨lwt_4 (i := 49) (by decide +kernel), good_of_word (by decide +kernel)⟩
theorem lwd_288 : lwP (Cond.methodLink RX9 57 yX9_wordOf) := ⟨lwt_4 (i := 47) (by decide +kernel), good_of_word (by decide +kernel)⟩
theorem lwd_289 : lwP (Cond.code yX9_nameOf cX9_nameOf 4 none) := ⟨lwt_4 (i := 46) (by decide +kernel), good_of_word (by decide +kernel)⟩
theorem lwd_290 : lwP (Cond.selects RX9 yX9_nameOf yX9_nameOf) := ⟨lwt_p (i := 21) (by decide +kernel), good_of_word (by decide +kernel)⟩
theorem lwd_291 : lwP (Cond.instanceMethod yX9_nameOf) := ⟨lwt_4 (i := 45) (by decide +kernel), good_of_word (by decide +kernel)⟩
theorem lwd_292 : lwP (Cond.methodLink RX9 53 yX9_nameOf) := ⟨lwt_4 (i := 43) (by decide +kernel), good_of_word (by decide +kernel)⟩
theorem lwd_293 : lwP (Cond.code yX9_personOf cX9_personOf 5 none) := ⟨lwt_4 (i := 42) (by decide +kernel), good_of_word (by decide +kernel)⟩
theorem lwd_294 : lwP (Cond.selects RX9 yX9_personOf yX9_personOf) := ⟨lwt_p (i := 20) (by decide +kernel), good_of_word (by decide +kernel)⟩
theorem lwd_295 : lwP (Cond.methodLink RL 13 yX8_write) := ⟨lwt_2 (i := 190) (by decide +kernel), good_of_word (by decide +kernel)⟩
theorem lwd_296 : lwP (Cond.instanceMethod yX8_write) := ⟨lwt_2 (i := 191) (by decide +kernel), good_of_word (by decide +kernel)⟩
theorem lwd_297 : lwP (Cond.selects RX8 yX8_write yX8_write) := ⟨lwt_2 (i := 192) (by decide +kernel), good_of_word (by decide +kernel)⟩
theorem lwd_298 : lwP (Cond.code yX8_write cX8_write 2 (some .int)) := ⟨lwt_2 (i := 193) (by decide +kernel), good_of_word (by decide +kernel)⟩
theorem lwd_299 : lwP (Cond.methodLink RX8 98 yX8_within) := ⟨lwt_2 (i := 194) (by decide +kernel), good_of_word (by decide +kernel)⟩
theorem lwd_300 : lwP (Cond.methodLink RL 17 yX9_write) := ⟨lwt_4 (i := 116) (by decide +kernel), good_of_word (by decide +kernel)⟩
theorem lwd_301 : lwP (Cond.instanceMethod yX9_write) := ⟨lwt_4 (i := 117) (by decide +kernel), good_of_word (by decide +kernel)⟩
theorem lwd_302 : lwP (Cond.selects RX9 yX9_write yX9_write) := ⟨lwt_4 (i := 118) (by decide +kernel), good_of_word (by decide +kernel)⟩
theorem lwd_303 : lwP (Cond.code yX9_write cX9_write 2 (some .int)) := ⟨lwt_4 (i := 119) (by decide +kernel), good_of_word (by decide +kernel)⟩
theorem lwd_304 : lwP (Cond.fieldLink RX9 71 "LodgingNamesModel" "typed" "I") := ⟨lwt_4 (i := 59) (by decide +kernel), good_of_word (by decide +kernel)⟩
theorem lwd_305 : lwP (Cond.methodLink RL 18 yX8_wipe) := ⟨lwt_2 (i := 195) (by decide +kernel), good_of_word (by decide +kernel)⟩
theorem lwd_306 : lwP (Cond.instanceMethod yX8_wipe) := ⟨lwt_2 (i := 196) (by decide +kernel), good_of_word (by decide +kernel)⟩
theorem lwd_307 : lwP (Cond.selects RX8 yX8_wipe yX8_wipe) := ⟨lwt_2 (i := 197) (by decide +kernel), good_of_word (by decide +kernel)⟩
theorem lwd_308 : lwP (Cond.code yX8_wipe cX8_wipe 2 (some .int)) := ⟨lwt_2 (i := 198) (by decide +kernel), good_of_word (by decide +kernel)⟩
theorem lwd_309 : lwP (Cond.methodLink RL 22 yX9_wipe) := ⟨lwt_4 (i := 120) (by decide +kernel), good_of_word (by decide +kernel)⟩
theorem lwd_310 : lwP (Cond.instanceMethod yX9_wipe) := ⟨lwt_4 (i := 121) (by decide +kernel), good_of_word (by decide +kernel)⟩
theorem lwd_311 : lwP (Cond.selects RX9 yX9_wipe yX9_wipe) := ⟨lwt_4 (i := 122) (by decide +kernel), good_of_word (by decide +kernel)⟩
theorem lwd_312 : lwP (Cond.code yX9_wipe cX9_wipe 2 (some .int)) := ⟨lwt_4 (i := 123) (by decide +kernel), good_of_word (by decide +kernel)⟩
theorem lwd_313 : lwP (Cond.methodLink RL 23 yX8_fault) := ⟨lwt_2 (i := 199) (by decide +kernel), good_of_word (by decide +kernel)⟩
theorem lwd_314 : lwP (Cond.instanceMethod yX8_fault) := ⟨lwt_2 (i := 200) (by decide +kernel), good_of_word (by decide +kernel)⟩
theorem lwd_315 : lwP (Cond.selects RX8 yX8_fault yX8_fault) := ⟨lwt_2 (i := 201) (by decide +kernel), good_of_word (by decide +kernel)⟩
theorem lwd_316 : lwP (Cond.code yX8_fault cX8_fault 1 (some .int)) := ⟨lwt_2 (i := 202) (by decide +kernel), good_of_word (by decide +kernel)⟩
theorem lwd_317 : lwP (Cond.methodLink RL 26 yX9_fault) := ⟨lwt_4 (i := 124) (by decide +kernel), good_of_word (by decide +kernel)⟩
theorem lwd_318 : lwP (Cond.instanceMethod yX9_fault) := ⟨lwt_4 (i := 125) (by decide +kernel), good_of_word (by decide +kernel)⟩
theorem lwd_319 : lwP (Cond.selects RX9 yX9_fault yX9_fault) := ⟨lwt_4 (i := 126) (by decide +kernel), good_of_word (by decide +kernel)⟩
theorem lwd_320 : lwP (Cond.code yX9_fault cX9_fault 1 (some .int)) := ⟨lwt_4 (i := 127) (by decide +kernel), good_of_word (by decide +kernel)⟩
theorem lwd_321 : lwP (Cond.methodLink RX9 78 yX9_letterAt) := ⟨lwt_4 (i := 140) (by decide +kernel), good_of_word (by decide +kernel)⟩
theorem lwd_322 : lwP (Cond.code yX9_number cX9_number 6 (some .int)) := ⟨lwt_4 (i := 139) (by decide +kernel), good_of_word (by decide +kernel)⟩
theorem lwd_323 : lwP (Cond.selects RX9 yX9_number yX9_number) := ⟨lwt_p (i := 26) (by decide +kernel), good_of_word (by decide +kernel)⟩
theorem lwd_324 : lwP (Cond.instanceMethod yX9_number) := ⟨lwt_4 (i := 138) (by decide +kernel), good_of_word (by decide +kernel)⟩
theorem lwd_325 : lwP (Cond.methodLink RX9 88 yX9_number) := ⟨lwt_4 (i := 136) (by decide +kernel), good_of_word (by decide +kernel)⟩
theorem lwd_326 : lwP (Cond.code yX9_readsItem cX9_readsItem 5 (some .boolean)) := ⟨lwt_4 (i := 135) (by decide +kernel), good_of_word (by decide +kernel)⟩
theorem lwd_327 : lwP (Cond.selects RX9 yX9_readsItem yX9_readsItem) := ⟨lwt_p (i := 25) (by decide +kernel), good_of_word (by decide +kernel)⟩
theorem lwd_328 : lwP (Cond.instanceMethod yX9_readsItem) := ⟨lwt_4 (i := 134) (by decide +kernel), good_of_word (by decide +kernel)⟩
theorem lwd_329 : lwP (Cond.methodLink RX9 92 yX9_readsItem) := ⟨lwt_4 (i := 132) (by decide +kernel), good_of_word (by decide +kernel)⟩
theorem lwd_330 : lwP (Cond.fieldLink RX9 75 "LodgingNamesModel" "at" "I") := ⟨lwt_4 (i := 72) (by decide +kernel), good_of_word (by decide +kernel)⟩
theorem lwd_331 : lwP (Cond.code yX9_readsAll cX9_readsAll 2 (some .int)) := ⟨lwt_4 (i := 131) (by decide +kernel), good_of_word (by decide +kernel)⟩
theorem lwd_332 : lwP (Cond.selects RX9 yX9_readsAll yX9_readsAll) := ⟨lwt_p (i := 24) (by decide +kernel), good_of_word (by decide +kernel)⟩
theorem lwd_333 : lwP (Cond.instanceMethod yX9_readsAll) := ⟨lwt_4 (i := 130) (by decide +kernel), good_of_word (by decide +kernel)⟩
theorem lwd_334 : lwP (Cond.methodLink RX9 95 yX9_readsAll) := ⟨lwt_4 (i := 128) (by decide +kernel), good_of_word (by decide +kernel)⟩
theorem lwd_335 : lwP (Cond.code yX9_isFigure cX9_isFigure 1 (some .boolean)) := ⟨lwt_4 (i := 146) (by decide +kernel), good_of_word (by decide +kernel)⟩
theorem lwd_336 : lwP (Cond.static yX9_isFigure) := ⟨lwt_4 (i := 145) (by decide +kernel), good_of_word (by decide +kernel)⟩
theorem lwd_337 : lwP (Cond.methodLink RX9 82 yX9_isFigure) := ⟨lwt_4 (i := 144) (by decide +kernel), good_of_word (by decide +kernel)⟩
theorem lwd_338 : lwP (Cond.code yX9_letterAt cX9_letterAt 2 (some .int)) := ⟨lwt_4 (i := 143) (by decide +kernel), good_of_word (by decide +kernel)⟩
theorem lwd_339 : lwP (Cond.selects RX9 yX9_letterAt yX9_letterAt) := ⟨lwt_p (i := 27) (by decide +kernel), good_of_word (by decide +kernel)⟩
theorem lwd_340 : lwP (Cond.instanceMethod yX9_letterAt) := ⟨lwt_4 (i := 142) (by decide +kernel), good_of_word (by decide +kernel)⟩
theorem lwd_341 : lwP (Cond.methodLink RL 27 yX8_lay) := ⟨lwt_2 (i := 203) (by decide +kernel), good_of_word (by decide +kernel)⟩
theorem lwd_342 : lwP (Cond.instanceMethod yX8_lay) := ⟨lwt_2 (i := 204) (by decide +kernel), good_of_word (by decide +kernel)⟩
theorem lwd_343 : lwP (Cond.selects RX8 yX8_lay yX8_lay) := ⟨lwt_2 (i := 205) (by decide +kernel), good_of_word (by decide +kernel)⟩
theorem lwd_344 : lwP (Cond.code yX8_lay cX8_lay 1 (some .int)) := ⟨lwt_2 (i := 206) (by decide +kernel), good_of_word (by decide +kernel)⟩
theorem lwd_345 : lwP (Cond.fieldLink RX4 24 "LodgingNames$Sights" "many" "I") := ⟨lwt_1 (i := 170) (by decide +kernel), good_of_word (by decide +kernel)⟩
theorem lwd_346 : lwP (Cond.code yX4_clear cX4_clear 1 none) := ⟨lwt_2 (i := 214) (by decide +kernel), good_of_word (by decide +kernel)⟩
theorem lwd_347 : lwP (Cond.selects RX4 yX4_clear yX4_clear) := ⟨lwt_2 (i := 213) (by decide +kernel), good_of_word (by decide +kernel)⟩
theorem lwd_348 : lwP (Cond.instanceMethod yX4_clear) := ⟨lwt_2 (i := 212) (by decide +kernel), good_of_word (by decide +kernel)⟩
theorem lwd_349 : lwP (Cond.methodLink RX8 112 yX4_clear) := ⟨lwt_2 (i := 211) (by decide +kernel), good_of_word (by decide +kernel)⟩
theorem lwd_350 : lwP (Cond.fieldLink RX2 22 "LodgingNames$Pile" "held" "I") := ⟨lwt_1 (i := 146) (by decide +kernel), good_of_word (by decide +kernel)⟩
theorem lwd_351 : lwP (Cond.code yX2_clear cX2_clear 1 none) := ⟨lwt_2 (i := 210) (by decide +kernel), good_of_word (by decide +kernel)⟩
theorem lwd_352 : lwP (Cond.selects RX2 yX2_clear yX2_clear) := ⟨lwt_2 (i := 209) (by decide +kernel), good_of_word (by decide +kernel)⟩
theorem lwd_353 : lwP (Cond.instanceMethod yX2_clear) := ⟨lwt_2 (i := 208) (by decide +kernel), good_of_word (by decide +kernel)⟩
theorem lwd_354 : lwP (Cond.methodLink RX8 111 yX2_clear) := ⟨lwt_2 (i := 207) (by decide +kernel), good_of_word (by decide +kernel)⟩
theorem lwd_355 : lwP (Cond.methodLink RL 30 yX9_lay) := ⟨lwt_4 (i := 147) (by decide +kernel), good_of_word (by decide +kernel)⟩
theorem lwd_356 : lwP (Cond.instanceMethod yX9_lay) := ⟨lwt_4 (i := 148) (by decide +kernel), good_of_word (by decide +kernel)⟩
theorem lwd_357 : lwP (Cond.selects RX9 yX9_lay yX9_lay) := ⟨lwt_4 (i := 149) (by decide +kernel), good_of_word (by decide +kernel)⟩
theorem lwd_358 : lwP (Cond.code yX9_lay cX9_lay 1 (some .int)) := ⟨lwt_4 (i := 150) (by decide +kernel), good_of_word (by decide +kernel)⟩
theorem lwd_359 : lwP (Cond.methodLink RL 31 yX8_person) := ⟨lwt_2 (i := 215) (by decide +kernel), good_of_word (by decide +kernel)⟩
theorem lwd_360 : lwP (Cond.instanceMethod yX8_person) := ⟨lwt_2 (i := 216) (by decide +kernel), good_of_word (by decide +kernel)⟩
theorem lwd_361 : lwP (Cond.selects RX8 yX8_person yX8_person) := ⟨lwt_2 (i := 217) (by decide +kernel), good_of_word (by decide +kernel)⟩
theorem lwd_362 : lwP (Cond.code yX8_person cX8_person 3 (some .int)) := ⟨lwt_2 (i := 218) (by decide +kernel), good_of_word (by decide +kernel)⟩
theorem lwd_363 : lwP (Cond.fieldLink RX0 55 "LodgingNames$House" "words" "J") := ⟨lwt_1 (i := 200) (by decide +kernel), good_of_word (by decide +kernel)⟩
theorem lwd_364 : lwP (Cond.fieldLink RX0 40 "LodgingNames$House" "food" "I") := ⟨lwt_1 (i := 198) (by decide +kernel), good_of_word (by decide +kernel)⟩
theorem lwd_365 : lwP (Cond.fieldLink RX0 35 "LodgingNames$House" "beds" "I") := ⟨lwt_1 (i := 196) (by decide +kernel), good_of_word (by decide +kernel)⟩
theorem lwd_366 : lwP (Cond.fieldLink RX0 28 "LodgingNames$House" "kind" "I") := ⟨lwt_1 (i := 194) (by decide +kernel), good_of_word (by decide +kernel)⟩
theorem lwd_367 : lwP (Cond.code yX0_enter cX0_enter 4 none) := ⟨lwt_2 (i := 226) (by decide +kernel), good_of_word (by decide +kernel)⟩
theorem lwd_368 : lwP (Cond.selects RX0 yX0_enter yX0_enter) := ⟨lwt_2 (i := 225) (by decide +kernel), good_of_word (by decide +kernel)⟩
theorem lwd_369 : lwP (Cond.instanceMethod yX0_enter) := ⟨lwt_2 (i := 224) (by decide +kernel), good_of_word (by decide +kernel)⟩
theorem lwd_370 : lwP (Cond.methodLink RX8 117 yX0_enter) := ⟨lwt_2 (i := 223) (by decide +kernel), good_of_word (by decide +kernel)⟩
theorem lwd_371 : lwP (Cond.code yX8_isPerson cX8_isPerson 2 (some .boolean)) := ⟨lwt_2 (i := 222) (by decide +kernel), good_of_word (by decide +kernel)⟩
theorem lwd_372 : lwP (Cond.selects RX8 yX8_isPerson yX8_isPerson) := ⟨lwt_p (i := 7) (by decide +kernel), good_of_word (by decide +kernel)⟩
theorem lwd_373 : lwP (Cond.instanceMethod yX8_isPerson) := ⟨lwt_2 (i := 221) (by decide +kernel), good_of_word (by decide +kernel)⟩
theorem lwd_374 : lwP (Cond.methodLink RX8 113 yX8_isPerson) := ⟨lwt_2 (i := 219) (by decide +kernel), good_of_word (by decide +kernel)⟩
theorem lwd_375 : lwP (Cond.code yX0_together cX0_together 4 (some .int)) := ⟨lwt_3 (i := 2) (by decide +kernel), good_of_word (by decide +kernel)⟩
theorem lwd_376 : lwP (Cond.selects RX0 yX0_together yX0_together) := ⟨lwt_3 (i := 1) (by decide +kernel), good_of_word (by decide +kernel)⟩
theorem lwd_377 : lwP (Cond.instanceMethod yX0_together) := ⟨lwt_3 (i := 0) (by decide +kernel), good_of_word (by decide +kernel)⟩
theorem lwd_378 : lwP (Cond.methodLink RX8 137 yX0_together) := ⟨lwt_2 (i := 239) (by decide +kernel), good_of_word (by decide +kernel)⟩
theorem lwd_379 : lwP (Cond.code yX0_lodgers cX0_lodgers 3 (some .int)) := ⟨lwt_2 (i := 238) (by decide +kernel), good_of_word (by decide +kernel)⟩
theorem lwd_380 : lwP (Cond.selects RX0 yX0_lodgers yX0_lodgers) := ⟨lwt_2 (i := 237) (by decide +kernel), good_of_word (by decide +kernel)⟩
theorem lwd_381 : lwP (Cond.instanceMethod yX0_lodgers) := ⟨lwt_2 (i := 236) (by decide +kernel), good_of_word (by decide +kernel)⟩
theorem lwd_382 : lwP (Cond.methodLink RX8 130 yX0_lodgers) := ⟨lwt_2 (i := 235) (by decide +kernel), good_of_word (by decide +kernel)⟩
theorem lwd_383 : lwP (Cond.code yX5_stoutAt cX5_stoutAt 3 (some .int)) := ⟨lwt_2 (i := 232) (by decide +kernel), good_of_word (by decide +kernel)⟩
theorem lwd_384 : lwP (Cond.selects RX5 yX5_stoutAt yX5_stoutAt) := ⟨lwt_2 (i := 231) (by decide +kernel), good_of_word (by decide +kernel)⟩
theorem lwd_385 : lwP (Cond.instanceMethod yX5_stoutAt) := ⟨lwt_2 (i := 230) (by decide +kernel), good_of_word (by decide +kernel)⟩
theorem lwd_386 : lwP (Cond.methodLink RX0 58 yX5_stoutAt) := ⟨lwt_2 (i := 229) (by decide +kernel), good_of_word (by decide +kernel)⟩
theorem lwd_387 : lwP (Cond.methodLink RX0 49 yX7_about) := ⟨lwt_2 (i := 228) (by decide +kernel), good_of_word (by decide +kernel)⟩
theorem lwd_388 : lwP (Cond.methodLink RL 35 yX9_person) := ⟨lwt_4 (i := 151) (by decide +kernel), good_of_word (by decide +kernel)⟩
theorem lwd_389 : lwP (Cond.instanceMethod yX9_person) := ⟨lwt_4 (i := 152) (by decide +kernel), good_of_word (by decide +kernel)⟩
theorem lwd_390 : lwP (Cond.selects RX9 yX9_person yX9_person) := ⟨lwt_4 (i := 153) (by decide +kernel), good_of_word (by decide +kernel)⟩
theorem lwd_391 : lwP (Cond.code yX9_person cX9_person 3 (some .int)) := ⟨lwt_4 (i := 154) (by decide +kernel), good_of_word (by decide +kernel)⟩
theorem lwd_392 : lwP (Cond.code yX9_sumOf cX9_sumOf 5 (some .int)) := ⟨lwt_4 (i := 170) (by decide +kernel), good_of_word (by decide +kernel)⟩
theorem lwd_393 : lwP (Cond.selects RX9 yX9_sumOf yX9_sumOf) := ⟨lwt_p (i := 31) (by decide +kernel), good_of_word (by decide +kernel)⟩
theorem lwd_394 : lwP (Cond.instanceMethod yX9_sumOf) := ⟨lwt_4 (i := 169) (by decide +kernel), good_of_word (by decide +kernel)⟩
theorem lwd_395 : lwP (Cond.methodLink RX9 108 yX9_sumOf) := ⟨lwt_4 (i := 167) (by decide +kernel), good_of_word (by decide +kernel)⟩
theorem lwd_396 : lwP (Cond.code yX9_isHungry cX9_isHungry 2 (some .boolean)) := ⟨lwt_4 (i := 166) (by decide +kernel), good_of_word (by decide +kernel)⟩
theorem lwd_397 : lwP (Cond.selects RX9 yX9_isHungry yX9_isHungry) := ⟨lwt_p (i := 30) (by decide +kernel), good_of_word (by decide +kernel)⟩
theorem lwd_398 : lwP (Cond.instanceMethod yX9_isHungry) := ⟨lwt_4 (i := 165) (by decide +kernel), good_of_word (by decide +kernel)⟩
theorem lwd_399 : lwP (Cond.methodLink RX9 115 yX9_isHungry) := ⟨lwt_4 (i := 163) (by decide +kernel), good_of_word (by decide +kernel)⟩
theorem lwd_400 : lwP (Cond.code yX9_lodgers cX9_lodgers 4 (some .int)) := ⟨lwt_4 (i := 162) (by decide +kernel), good_of_word (by decide +kernel)⟩
theorem lwd_401 : lwP (Cond.selects RX9 yX9_lodgers yX9_lodgers) := ⟨lwt_p (i := 29) (by decide +kernel), good_of_word (by decide +kernel)⟩
theorem lwd_402 : lwP (Cond.instanceMethod yX9_lodgers) := ⟨lwt_4 (i := 161) (by decide +kernel), good_of_word (by decide +kernel)⟩
theorem lwd_403 : lwP (Cond.methodLink RX9 112 yX9_lodgers) := ⟨lwt_4 (i := 159) (by decide +kernel), good_of_word (by decide +kernel)⟩
theorem lwd_404 : lwP (Cond.code yX9_isPerson cX9_isPerson 2 (some .boolean)) := ⟨lwt_4 (i := 158) (by decide +kernel), good_of_word (by decide +kernel)⟩
theorem lwd_405 : lwP (Cond.selects RX9 yX9_isPerson yX9_isPerson) := ⟨lwt_p (i := 28) (by decide +kernel), good_of_word (by decide +kernel)⟩
theorem lwd_406 : lwP (Cond.instanceMethod yX9_isPerson) := ⟨lwt_4 (i := 157) (by decide +kernel), good_of_word (by decide +kernel)⟩
theorem lwd_407 : lwP (Cond.methodLink RX9 67 yX9_isPerson) := ⟨lwt_4 (i := 155) (by decide +kernel), good_of_word (by decide +kernel)⟩
theorem lwd_408 : lwP (Cond.methodLink RL 36 yX8_name) := ⟨lwt_3 (i := 3) (by decide +kernel), good_of_word (by decide +kernel)⟩
theorem lwd_409 : lwP (Cond.instanceMethod yX8_name) := ⟨lwt_3 (i := 4) (by decide +kernel), good_of_word (by decide +kernel)⟩
theorem lwd_410 : lwP (Cond.selects RX8 yX8_name yX8_name) := ⟨lwt_3 (i := 5) (by decide +kernel), good_of_word (by decide +kernel)⟩
theorem lwd_411 : lwP (Cond.code yX8_name cX8_name 3 (some .int)) := ⟨lwt_3 (i := 6) (by decide +kernel), good_of_word (by decide +kernel)⟩
theorem lwd_412 : lwP (Cond.methodLink RX8 147 yX8_at) := ⟨lwt_3 (i := 11) (by decide +kernel), good_of_word (by decide +kernel)⟩
theorem lwd_413 : lwP (Cond.code yX8_isName cX8_isName 2 (some .boolean)) := ⟨lwt_3 (i := 10) (by decide +kernel), good_of_word (by decide +kernel)⟩
theorem lwd_414 : lwP (Cond.selects RX8 yX8_isName yX8_isName) := ⟨lwt_p (i := 8) (by decide +kernel), good_of_word (by decide +kernel)⟩
theorem lwd_415 : lwP (Cond.instanceMethod yX8_isName) := ⟨lwt_3 (i := 9) (by decide +kernel), good_of_word (by decide +kernel)⟩
theorem lwd_416 : lwP (Cond.methodLink RX8 141 yX8_isName) := ⟨lwt_3 (i := 7) (by decide +kernel), good_of_word (by decide +kernel)⟩
theorem lwd_417 : lwP (Cond.methodLink RL 39 yX9_name) := ⟨lwt_4 (i := 171) (by decide +kernel), good_of_word (by decide +kernel)⟩
theorem lwd_418 : lwP (Cond.instanceMethod yX9_name) := ⟨lwt_4 (i := 172) (by decide +kernel), good_of_word (by decide +kernel)⟩
theorem lwd_419 : lwP (Cond.selects RX9 yX9_name yX9_name) := ⟨lwt_4 (i := 173) (by decide +kernel), good_of_word (by decide +kernel)⟩
theorem lwd_420 : lwP (Cond.code yX9_name cX9_name 3 (some .int)) := ⟨lwt_4 (i := 174) (by decide +kernel), good_of_word (by decide +kernel)⟩
theorem lwd_421 : lwP (Cond.code yX9_isName cX9_isName 2 (some .boolean)) := ⟨lwt_4 (i := 178) (by decide +kernel), good_of_word (by decide +kernel)⟩
theorem lwd_422 : lwP (Cond.selects RX9 yX9_isName yX9_isName) := ⟨lwt_p (i := 32) (by decide +kernel), good_of_word (by decide +kernel)⟩
theorem lwd_423 : lwP (Cond.instanceMethod yX9_isName) := ⟨lwt_4 (i := 177) (by decide +kernel), good_of_word (by decide +kernel)⟩
theorem lwd_424 : lwP (Cond.methodLink RX9 118 yX9_isName) := ⟨lwt_4 (i := 175) (by decide +kernel), good_of_word (by decide +kernel)⟩
theorem lwd_425 : lwP (Cond.methodLink RL 40 yX8_stout) := ⟨lwt_3 (i := 12) (by decide +kernel), good_of_word (by decide +kernel)⟩
theorem lwd_426 : lwP (Cond.instanceMethod yX8_stout) := ⟨lwt_3 (i := 13) (by decide +kernel), good_of_word (by decide +kernel)⟩
theorem lwd_427 : lwP (Cond.selects RX8 yX8_stout yX8_stout) := ⟨lwt_3 (i := 14) (by decide +kernel), good_of_word (by decide +kernel)⟩
theorem lwd_428 : lwP (Cond.code yX8_stout cX8_stout 3 (some .int)) := ⟨lwt_3 (i := 15) (by decide +kernel), good_of_word (by decide +kernel)⟩
theorem lwd_429 : lwP (Cond.methodLink RX8 155 yX5_stoutAt) := ⟨lwt_3 (i := 20) (by decide +kernel), good_of_word (by decide +kernel)⟩
theorem lwd_430 : lwP (Cond.code yX8_isLodging cX8_isLodging 3 (some .boolean)) := ⟨lwt_3 (i := 19) (by decide +kernel), good_of_word (by decide +kernel)⟩
theorem lwd_431 : lwP (Cond.selects RX8 yX8_isLodging yX8_isLodging) := ⟨lwt_p (i := 9) (by decide +kernel), good_of_word (by decide +kernel)⟩
theorem lwd_432 : lwP (Cond.instanceMethod yX8_isLodging) := ⟨lwt_3 (i := 18) (by decide +kernel), good_of_word (by decide +kernel)⟩
theorem lwd_433 : lwP (Cond.methodLink RX8 151 yX8_isLodging) := ⟨lwt_3 (i := 16) (by decide +kernel), good_of_word (by decide +kernel)⟩
theorem lwd_434 : lwP (Cond.methodLink RL 43 yX9_stout) := ⟨lwt_4 (i := 179) (by decide +kernel), good_of_word (by decide +kernel)⟩
theorem lwd_435 : lwP (Cond.instanceMethod yX9_stout) := ⟨lwt_4 (i := 180) (by decide +kernel), good_of_word (by decide +kernel)⟩
theorem lwd_436 : lwP (Cond.selects RX9 yX9_stout yX9_stout) := ⟨lwt_4 (i := 181) (by decide +kernel), good_of_word (by decide +kernel)⟩
theorem lwd_437 : lwP (Cond.code yX9_stout cX9_stout 3 (some .int)) := ⟨lwt_4 (i := 182) (by decide +kernel), good_of_word (by decide +kernel)⟩
theorem lwd_438 : lwP (Cond.methodLink RL 44 yX8_calls) := ⟨lwt_3 (i := 21) (by decide +kernel), good_of_word (by decide +kernel)⟩
theorem lwd_439 : lwP (Cond.instanceMethod yX8_calls) := ⟨lwt_3 (i := 22) (by decide +kernel), good_of_word (by decide +kernel)⟩
theorem lwd_440 : lwP (Cond.selects RX8 yX8_calls yX8_calls) := ⟨lwt_3 (i := 23) (by decide +kernel), good_of_word (by decide +kernel)⟩
theorem lwd_441 : lwP (Cond.code yX8_calls cX8_calls 4 (some .int)) := ⟨lwt_3 (i := 24) (by decide +kernel), good_of_word (by decide +kernel)⟩
theorem lwd_442 : lwP (Cond.methodLink RX8 166 yX7_has) := ⟨lwt_3 (i := 33) (by decide +kernel), good_of_word (by decide +kernel)⟩
theorem lwd_443 : lwP (Cond.code yX8_isPair cX8_isPair 3 (some .boolean)) := ⟨lwt_3 (i := 32) (by decide +kernel), good_of_word (by decide +kernel)⟩
theorem lwd_444 : lwP (Cond.selects RX8 yX8_isPair yX8_isPair) := ⟨lwt_p (i := 11) (by decide +kernel), good_of_word (by decide +kernel)⟩
theorem lwd_445 : lwP (Cond.instanceMethod yX8_isPair) := ⟨lwt_3 (i := 31) (by decide +kernel), good_of_word (by decide +kernel)⟩
theorem lwd_446 : lwP (Cond.methodLink RX8 223 yX8_isPair) := ⟨lwt_3 (i := 29) (by decide +kernel), good_of_word (by decide +kernel)⟩
theorem lwd_447 : lwP (Cond.code yX8_isWord cX8_isWord 4 (some .boolean)) := ⟨lwt_3 (i := 28) (by decide +kernel), good_of_word (by decide +kernel)⟩
theorem lwd_448 : lwP (Cond.selects RX8 yX8_isWord yX8_isWord) := ⟨lwt_p (i := 10) (by decide +kernel), good_of_word (by decide +kernel)⟩
theorem lwd_449 : lwP (Cond.instanceMethod yX8_isWord) := ⟨lwt_3 (i := 27) (by decide +kernel), good_of_word (by decide +kernel)⟩
theorem lwd_450 : lwP (Cond.methodLink RX8 159 yX8_isWord) := ⟨lwt_3 (i := 25) (by decide +kernel), good_of_word (by decide +kernel)⟩
theorem lwd_451 : lwP (Cond.methodLink RL 48 yX9_calls) := ⟨lwt_4 (i := 183) (by decide +kernel), good_of_word (by decide +kernel)⟩
theorem lwd_452 : lwP (Cond.instanceMethod yX9_calls) := ⟨lwt_4 (i := 184) (by decide +kernel), good_of_word (by decide +kernel)⟩
theorem lwd_453 : lwP (Cond.selects RX9 yX9_calls yX9_calls) := ⟨lwt_4 (i := 185) (by decide +kernel), good_of_word (by decide +kernel)⟩
theorem lwd_454 : lwP (Cond.code yX9_calls cX9_calls 4 (some .int)) := ⟨lwt_4 (i := 186) (by decide +kernel), good_of_word (by decide +kernel)⟩
theorem lwd_455 : lwP (Cond.code yX9_areTwo cX9_areTwo 3 (some .boolean)) := ⟨lwt_4 (i := 190) (by decide +kernel), good_of_word (by decide +kernel)⟩
theorem lwd_456 : lwP (Cond.selects RX9 yX9_areTwo yX9_areTwo) := ⟨lwt_p (i := 33) (by decide +kernel), good_of_word (by decide +kernel)⟩
theorem lwd_457 : lwP (Cond.instanceMethod yX9_areTwo) := ⟨lwt_4 (i := 189) (by decide +kernel), good_of_word (by decide +kernel)⟩
theorem lwd_458 : lwP (Cond.methodLink RX9 121 yX9_areTwo) := ⟨lwt_4 (i := 187) (by decide +kernel), good_of_word (by decide +kernel)⟩
theorem lwd_459 : lwP (Cond.methodLink RL 49 yX8_pass) := ⟨lwt_3 (i := 34) (by decide +kernel), good_of_word (by decide +kernel)⟩
theorem lwd_460 : lwP (Cond.instanceMethod yX8_pass) := ⟨lwt_3 (i := 35) (by decide +kernel), good_of_word (by decide +kernel)⟩
theorem lwd_461 : lwP (Cond.selects RX8 yX8_pass yX8_pass) := ⟨lwt_3 (i := 36) (by decide +kernel), good_of_word (by decide +kernel)⟩
theorem lwd_462 : lwP (Cond.code yX8_pass cX8_pass 2 (some .int)) := ⟨lwt_3 (i := 37) (by decide +kernel), good_of_word (by decide +kernel)⟩
theorem lwd_463 : lwP (Cond.methodLink RX2 33 yX5_become) := ⟨lwt_3 (i := 46) (by decide +kernel), good_of_word (by decide +kernel)⟩
theorem lwd_464 : lwP (Cond.code yX2_placeAt cX2_placeAt 2 (some (.object "LodgingNames$Standing"))) := ⟨lwt_3 (i := 45) (by decide +kernel), good_of_word (by decide +kernel)⟩
theorem lwd_465 : lwP (Cond.selects RX2 yX2_placeAt yX2_placeAt) := ⟨lwt_p (i := 12) (by decide +kernel), good_of_word (by decide +kernel)⟩
theorem lwd_466 : lwP (Cond.instanceMethod yX2_placeAt) := ⟨lwt_3 (i := 44) (by decide +kernel), good_of_word (by decide +kernel)⟩
theorem lwd_467 : lwP (Cond.methodLink RX2 29 yX2_placeAt) := ⟨lwt_3 (i := 42) (by decide +kernel), good_of_word (by decide +kernel)⟩
theorem lwd_468 : lwP (Cond.code Lib.Math.min.name Lib.Math.min.code 2 (some .int)) := ⟨lwt_3 (i := 52) (by decide +kernel), good_of_word (by decide +kernel)⟩
theorem lwd_469 : lwP (Cond.static Lib.Math.min.name) := ⟨lwt_3 (i := 51) (by decide +kernel), good_of_word (by decide +kernel)⟩
theorem lwd_470 : lwP (Cond.methodLink RX2 37 Lib.Math.min.name) := ⟨lwt_3 (i := 50) (by decide +kernel), good_of_word (by decide +kernel)⟩
theorem lwd_471 : lwP (Cond.fieldLink RX2 26 "LodgingNames$Pile" "next" "I") := ⟨lwt_1 (i := 148) (by decide +kernel), good_of_word (by decide +kernel)⟩
theorem lwd_472 : lwP (Cond.code yX2_push cX2_push 3 none) := ⟨lwt_3 (i := 41) (by decide +kernel), good_of_word (by decide +kernel)⟩
theorem lwd_473 : lwP (Cond.selects RX2 yX2_push yX2_push) := ⟨lwt_3 (i := 40) (by decide +kernel), good_of_word (by decide +kernel)⟩
theorem lwd_474 : lwP (Cond.instanceMethod yX2_push) := ⟨lwt_3 (i := 39) (by decide +kernel), good_of_word (by decide +kernel)⟩
theorem lwd_475 : lwP (Cond.methodLink RX8 171 yX2_push) := ⟨lwt_3 (i := 38) (by decide +kernel), good_of_word (by decide +kernel)⟩
theorem lwd_476 : lwP (Cond.code yX5_become cX5_become 3 none) := ⟨lwt_3 (i := 49) (by decide +kernel), good_of_word (by decide +kernel)⟩
theorem lwd_477 : lwP (Cond.selects RX5 yX5_become yX5_become) := ⟨lwt_3 (i := 48) (by decide +kernel), good_of_word (by decide +kernel)⟩
theorem lwd_478 : lwP (Cond.instanceMethod yX5_become) := ⟨lwt_3 (i := 47) (by decide +kernel), good_of_word (by decide +kernel)⟩
theorem lwd_479 : lwP (Cond.methodLink RX1 29 yX0_enter) := ⟨lwt_3 (i := 57) (by decide +kernel), good_of_word (by decide +kernel)⟩
theorem lwd_480 : lwP (Cond.code yX1_passDays cX1_passDays 4 none) := ⟨lwt_3 (i := 56) (by decide +kernel), good_of_word (by decide +kernel)⟩
theorem lwd_481 : lwP (Cond.selects RX1 yX1_passDays yX1_passDays) := ⟨lwt_3 (i := 55) (by decide +kernel), good_of_word (by decide +kernel)⟩
theorem lwd_482 : lwP (Cond.instanceMethod yX1_passDays) := ⟨lwt_3 (i := 54) (by decide +kernel), good_of_word (by decide +kernel)⟩
theorem lwd_483 : lwP (Cond.methodLink RX8 175 yX1_passDays) := ⟨lwt_3 (i := 53) (by decide +kernel), good_of_word (by decide +kernel)⟩
theorem lwd_484 : lwP (Cond.methodLink RX0 105 Lib.Math.min.name) := ⟨lwt_3 (i := 79) (by decide +kernel), good_of_word (by decide +kernel)⟩
theorem lwd_485 : lwP (Cond.code yX0_liveOn cX0_liveOn 5 none) := ⟨lwt_3 (i := 78) (by decide +kernel), good_of_word (by decide +kernel)⟩
theorem lwd_486 : lwP (Cond.selects RX0 yX0_liveOn yX0_liveOn) := ⟨lwt_p (i := 13) (by decide +kernel), good_of_word (by decide +kernel)⟩
theorem lwd_487 : lwP (Cond.instanceMethod yX0_liveOn) := ⟨lwt_3 (i := 77) (by decide +kernel), good_of_word (by decide +kernel)⟩
theorem lwd_488 : lwP (Cond.methodLink RX0 87 yX0_liveOn) := ⟨lwt_3 (i := 75) (by decide +kernel), good_of_word (by decide +kernel)⟩
theorem lwd_489 : lwP (Cond.constant RJ6 267 (252645135)) := ⟨lwt_3 (i := 74) (by decide +kernel), good_of_word (by decide +kernel)⟩
theorem lwd_490 : lwP (Cond.constant RJ6 266 (858993459)) := ⟨lwt_3 (i := 73) (by decide +kernel), good_of_word (by decide +kernel)⟩
theorem lwd_491 : lwP (Cond.constant RJ6 265 (1431655765)) := ⟨lwt_3 (i := 72) (by decide +kernel), good_of_word (by decide +kernel)⟩
theorem lwd_492 : lwP (Cond.code yJ6_bitCount_0f7a4 cJ6_bitCount_0f7a4 1 (some .int)) := ⟨lwt_3 (i := 71) (by decide +kernel), good_of_word (by decide +kernel)⟩
theorem lwd_493 : lwP (Cond.initialized RJ6) := ⟨lwt_1 (i := 17) (by decide +kernel), good_of_word (by decide +kernel)⟩
theorem lwd_494 : lwP (Cond.static yJ6_bitCount_0f7a4) := ⟨lwt_3 (i := 70) (by decide +kernel), good_of_word (by decide +kernel)⟩
theorem lwd_495 : lwP (Cond.methodLink RX0 74 yJ6_bitCount_0f7a4) := ⟨lwt_3 (i := 69) (by decide +kernel), good_of_word (by decide +kernel)⟩
theorem lwd_496 : lwP (Cond.code yX7_callers cX7_callers 3 (some .int)) := ⟨lwt_3 (i := 68) (by decide +kernel), good_of_word (by decide +kernel)⟩
theorem lwd_497 : lwP (Cond.static yX7_callers) := ⟨lwt_3 (i := 67) (by decide +kernel), good_of_word (by decide +kernel)⟩
theorem lwd_498 : lwP (Cond.methodLink RX0 83 yX7_callers) := ⟨lwt_3 (i := 66) (by decide +kernel), good_of_word (by decide +kernel)⟩
theorem lwd_499 : lwP (Cond.code yX0_passDay cX0_passDay 4 (some .int)) := ⟨lwt_3 (i := 65) (by decide +kernel), good_of_word (by decide +kernel)⟩
theorem lwd_500 : lwP (Cond.selects RX0 yX0_passDay yX0_passDay) := ⟨lwt_3 (i := 64) (by decide +kernel), good_of_word (by decide +kernel)⟩
theorem lwd_501 : lwP (Cond.instanceMethod yX0_passDay) := ⟨lwt_3 (i := 63) (by decide +kernel), good_of_word (by decide +kernel)⟩
theorem lwd_502 : lwP (Cond.methodLink RX0 70 yX0_passDay) := ⟨lwt_3 (i := 62) (by decide +kernel), good_of_word (by decide +kernel)⟩
theorem lwd_503 : lwP (Cond.code yX0_passDays cX0_passDays 4 (some .int)) := ⟨lwt_3 (i := 61) (by decide +kernel), good_of_word (by decide +kernel)⟩
theorem lwd_504 : lwP (Cond.selects RX0 yX0_passDays yX0_passDays) := ⟨lwt_3 (i := 60) (by decide +kernel), good_of_word (by decide +kernel)⟩
theorem lwd_505 : lwP (Cond.instanceMethod yX0_passDays) := ⟨lwt_3 (i := 59) (by decide +kernel), good_of_word (by decide +kernel)⟩
theorem lwd_506 : lwP (Cond.methodLink RX1 40 yX0_passDays) := ⟨lwt_3 (i := 58) (by decide +kernel), good_of_word (by decide +kernel)⟩
theorem lwd_507 : lwP (Cond.instanceMethod yX5_setStout) := ⟨lwt_3 (i := 98) (by decide +kernel), good_of_word (by decide +kernel)⟩
theorem lwd_508 : lwP (Cond.methodLink RX0 66 yX5_setStout) := ⟨lwt_3 (i := 97) (by decide +kernel), good_of_word (by decide +kernel)⟩
theorem lwd_509 : lwP (Cond.code yX0_settle cX0_settle 4 none) := ⟨lwt_3 (i := 96) (by decide +kernel), good_of_word (by decide +kernel)⟩
theorem lwd_510 : lwP (Cond.selects RX0 yX0_settle yX0_settle) := ⟨lwt_3 (i := 95) (by decide +kernel), good_of_word (by decide +kernel)⟩
theorem lwd_511 : lwP (Cond.instanceMethod yX0_settle) := ⟨lwt_3 (i := 94) (by decide +kernel), good_of_word (by decide +kernel)⟩
theorem lwd_512 : lwP (Cond.methodLink RX1 44 yX0_settle) := ⟨lwt_3 (i := 93) (by decide +kernel), good_of_word (by decide +kernel)⟩
theorem lwd_513 : lwP (Cond.code yX0_thinStoutest cX0_thinStoutest 3 none) := ⟨lwt_3 (i := 92) (by decide +kernel), good_of_word (by decide +kernel)⟩
theorem lwd_514 : lwP (Cond.selects RX0 yX0_thinStoutest yX0_thinStoutest) := ⟨lwt_p (i := 15) (by decide +kernel), good_of_word (by decide +kernel)⟩
theorem lwd_515 : lwP (Cond.instanceMethod yX0_thinStoutest) := ⟨lwt_3 (i := 91) (by decide +kernel), good_of_word (by decide +kernel)⟩
theorem lwd_516 : lwP (Cond.methodLink RX0 102 yX0_thinStoutest) := ⟨lwt_3 (i := 89) (by decide +kernel), good_of_word (by decide +kernel)⟩
theorem lwd_517 : lwP (Cond.methodLink RX0 98 yX0_together) := ⟨lwt_3 (i := 88) (by decide +kernel), good_of_word (by decide +kernel)⟩
theorem lwd_518 : lwP (Cond.code Lib.Math.abs.name Lib.Math.abs.code 1 (some .int)) := ⟨lwt_3 (i := 87) (by decide +kernel), good_of_word (by decide +kernel)⟩
theorem lwd_519 : lwP (Cond.static Lib.Math.abs.name) := ⟨lwt_3 (i := 86) (by decide +kernel), good_of_word (by decide +kernel)⟩
theorem lwd_520 : lwP (Cond.methodLink RX0 116 Lib.Math.abs.name) := ⟨lwt_3 (i := 85) (by decide +kernel), good_of_word (by decide +kernel)⟩
theorem lwd_521 : lwP (Cond.code yX0_takeIn cX0_takeIn 10 (some .boolean)) := ⟨lwt_3 (i := 84) (by decide +kernel), good_of_word (by decide +kernel)⟩
theorem lwd_522 : lwP (Cond.selects RX0 yX0_takeIn yX0_takeIn) := ⟨lwt_p (i := 14) (by decide +kernel), good_of_word (by decide +kernel)⟩
theorem lwd_523 : lwP (Cond.instanceMethod yX0_takeIn) := ⟨lwt_3 (i := 83) (by decide +kernel), good_of_word (by decide +kernel)⟩
theorem lwd_524 : lwP (Cond.methodLink RX0 91 yX0_takeIn) := ⟨lwt_3 (i := 81) (by decide +kernel), good_of_word (by decide +kernel)⟩
theorem lwd_525 : lwP (Cond.methodLink RX0 110 Lib.Math.max.name) := ⟨lwt_3 (i := 80) (by decide +kernel), good_of_word (by decide +kernel)⟩
theorem lwd_526 : lwP (Cond.code yX5_setStout cX5_setStout 4 none) := ⟨lwt_3 (i := 100) (by decide +kernel), good_of_word (by decide +kernel)⟩
theorem lwd_527 : lwP (Cond.selects RX5 yX5_setStout yX5_setStout) := ⟨lwt_3 (i := 99) (by decide +kernel), good_of_word (by decide +kernel)⟩
theorem lwd_528 : lwP (Cond.methodLink RL 52 yX9_pass) := ⟨lwt_4 (i := 191) (by decide +kernel), good_of_word (by decide +kernel)⟩
theorem lwd_529 : lwP (Cond.instanceMethod yX9_pass) := ⟨lwt_4 (i := 192) (by decide +kernel), good_of_word (by decide +kernel)⟩
theorem lwd_530 : lwP (Cond.selects RX9 yX9_pass yX9_pass) := ⟨lwt_4 (i := 193) (by decide +kernel), good_of_word (by decide +kernel)⟩
theorem lwd_531 : lwP (Cond.code yX9_pass cX9_pass 3 (some .int)) := ⟨lwt_4 (i := 194) (by decide +kernel), good_of_word (by decide +kernel)⟩
theorem lwd_532 : lwP (Cond.selects RX9 yX9_saidBy yX9_saidBy) := ⟨lwt_p (i := 37) (by decide +kernel), good_of_word (by decide +kernel)⟩
theorem lwd_533 : lwP (Cond.instanceMethod yX9_saidBy) := ⟨lwt_4 (i := 209) (by decide +kernel), good_of_word (by decide +kernel)⟩
theorem lwd_534 : lwP (Cond.methodLink RX9 140 yX9_saidBy) := ⟨lwt_4 (i := 207) (by decide +kernel), good_of_word (by decide +kernel)⟩
theorem lwd_535 : lwP (Cond.code yX9_goesBy cX9_goesBy 5 none) := ⟨lwt_4 (i := 206) (by decide +kernel), good_of_word (by decide +kernel)⟩
theorem lwd_536 : lwP (Cond.selects RX9 yX9_goesBy yX9_goesBy) := ⟨lwt_p (i := 36) (by decide +kernel), good_of_word (by decide +kernel)⟩
theorem lwd_537 : lwP (Cond.instanceMethod yX9_goesBy) := ⟨lwt_4 (i := 205) (by decide +kernel), good_of_word (by decide +kernel)⟩
theorem lwd_538 : lwP (Cond.methodLink RX9 150 yX9_goesBy) := ⟨lwt_4 (i := 203) (by decide +kernel), good_of_word (by decide +kernel)⟩
theorem lwd_539 : lwP (Cond.fieldLink RX9 134 "LodgingNamesModel" "without" "I") := ⟨lwt_4 (i := 73) (by decide +kernel), good_of_word (by decide +kernel)⟩
theorem lwd_540 : lwP (Cond.code yX9_passes cX9_passes 2 none) := ⟨lwt_4 (i := 202) (by decide +kernel), good_of_word (by decide +kernel)⟩
theorem lwd_541 : lwP (Cond.selects RX9 yX9_passes yX9_passes) := ⟨lwt_p (i := 35) (by decide +kernel), good_of_word (by decide +kernel)⟩
theorem lwd_542 : lwP (Cond.instanceMethod yX9_passes) := ⟨lwt_4 (i := 201) (by decide +kernel), good_of_word (by decide +kernel)⟩
theorem lwd_543 : lwP (Cond.methodLink RX9 156 yX9_passes) := ⟨lwt_4 (i := 199) (by decide +kernel), good_of_word (by decide +kernel)⟩
theorem lwd_544 : lwP (Cond.code yX9_keeps cX9_keeps 2 none) := ⟨lwt_4 (i := 198) (by decide +kernel), good_of_word (by decide +kernel)⟩
theorem lwd_545 : lwP (Cond.selects RX9 yX9_keeps yX9_keeps) := ⟨lwt_p (i := 34) (by decide +kernel), good_of_word (by decide +kernel)⟩
theorem lwd_546 : lwP (Cond.instanceMethod yX9_keeps) := ⟨lwt_4 (i := 197) (by decide +kernel), good_of_word (by decide +kernel)⟩
theorem lwd_547 : lwP (Cond.methodLink RX9 153 yX9_keeps) := ⟨lwt_4 (i := 195) (by decide +kernel), good_of_word (by decide +kernel)⟩
theorem lwd_548 : lwP (Cond.code yX9_ones cX9_ones 3 (some .int)) := ⟨lwt_4 (i := 229) (by decide +kernel), good_of_word (by decide +kernel)⟩
theorem lwd_549 : lwP (Cond.static yX9_ones) := ⟨lwt_4 (i := 228) (by decide +kernel), good_of_word (by decide +kernel)⟩
theorem lwd_550 : lwP (Cond.methodLink RX9 131 yX9_ones) := ⟨lwt_4 (i := 227) (by decide +kernel), good_of_word (by decide +kernel)⟩
theorem lwd_551 : lwP (Cond.code yX9_kindest cX9_kindest 4 (some .int)) := ⟨lwt_4 (i := 226) (by decide +kernel), good_of_word (by decide +kernel)⟩
theorem lwd_552 : lwP (Cond.selects RX9 yX9_kindest yX9_kindest) := ⟨lwt_p (i := 41) (by decide +kernel), good_of_word (by decide +kernel)⟩
theorem lwd_553 : lwP (Cond.instanceMethod yX9_kindest) := ⟨lwt_4 (i := 225) (by decide +kernel), good_of_word (by decide +kernel)⟩
theorem lwd_554 : lwP (Cond.methodLink RX9 128 yX9_kindest) := ⟨lwt_4 (i := 223) (by decide +kernel), good_of_word (by decide +kernel)⟩
theorem lwd_555 : lwP (Cond.code yX9_quarrels cX9_quarrels 4 (some .boolean)) := ⟨lwt_4 (i := 222) (by decide +kernel), good_of_word (by decide +kernel)⟩
theorem lwd_556 : lwP (Cond.selects RX9 yX9_quarrels yX9_quarrels) := ⟨lwt_p (i := 40) (by decide +kernel), good_of_word (by decide +kernel)⟩
theorem lwd_557 : lwP (Cond.instanceMethod yX9_quarrels) := ⟨lwt_4 (i := 221) (by decide +kernel), good_of_word (by decide +kernel)⟩
theorem lwd_558 : lwP (Cond.methodLink RX9 125 yX9_quarrels) := ⟨lwt_4 (i := 219) (by decide +kernel), good_of_word (by decide +kernel)⟩
theorem lwd_559 : lwP (Cond.code yX9_comes cX9_comes 6 none) := ⟨lwt_4 (i := 218) (by decide +kernel), good_of_word (by decide +kernel)⟩
theorem lwd_560 : lwP (Cond.selects RX9 yX9_comes yX9_comes) := ⟨lwt_p (i := 39) (by decide +kernel), good_of_word (by decide +kernel)⟩
theorem lwd_561 : lwP (Cond.instanceMethod yX9_comes) := ⟨lwt_4 (i := 217) (by decide +kernel), good_of_word (by decide +kernel)⟩
theorem lwd_562 : lwP (Cond.methodLink RX9 143 yX9_comes) := ⟨lwt_4 (i := 215) (by decide +kernel), good_of_word (by decide +kernel)⟩
theorem lwd_563 : lwP (Cond.code yX9_thins cX9_thins 5 none) := ⟨lwt_4 (i := 214) (by decide +kernel), good_of_word (by decide +kernel)⟩
theorem lwd_564 : lwP (Cond.selects RX9 yX9_thins yX9_thins) := ⟨lwt_p (i := 38) (by decide +kernel), good_of_word (by decide +kernel)⟩
theorem lwd_565 : lwP (Cond.instanceMethod yX9_thins) := ⟨lwt_4 (i := 213) (by decide +kernel), good_of_word (by decide +kernel)⟩
theorem lwd_566 : lwP (Cond.methodLink RX9 137 yX9_thins) := ⟨lwt_4 (i := 211) (by decide +kernel), good_of_word (by decide +kernel)⟩
theorem lwd_567 : lwP (Cond.code yX9_saidBy cX9_saidBy 5 (some .int)) := ⟨lwt_4 (i := 210) (by decide +kernel), good_of_word (by decide +kernel)⟩
theorem lwd_568 : lwP (Cond.code yX9_eats cX9_eats 4 none) := ⟨lwt_4 (i := 233) (by decide +kernel), good_of_word (by decide +kernel)⟩
theorem lwd_569 : lwP (Cond.selects RX9 yX9_eats yX9_eats) := ⟨lwt_p (i := 42) (by decide +kernel), good_of_word (by decide +kernel)⟩
theorem lwd_570 : lwP (Cond.instanceMethod yX9_eats) := ⟨lwt_4 (i := 232) (by decide +kernel), good_of_word (by decide +kernel)⟩
theorem lwd_571 : lwP (Cond.methodLink RX9 146 yX9_eats) := ⟨lwt_4 (i := 230) (by decide +kernel), good_of_word (by decide +kernel)⟩
theorem lwd_572 : lwP (Cond.methodLink RL 53 yX8_say) := ⟨lwt_3 (i := 101) (by decide +kernel), good_of_word (by decide +kernel)⟩
theorem lwd_573 : lwP (Cond.instanceMethod yX8_say) := ⟨lwt_3 (i := 102) (by decide +kernel), good_of_word (by decide +kernel)⟩
theorem lwd_574 : lwP (Cond.selects RX8 yX8_say yX8_say) := ⟨lwt_3 (i := 103) (by decide +kernel), good_of_word (by decide +kernel)⟩
theorem lwd_575 : lwP (Cond.code yX8_say cX8_say 4 (some .int)) := ⟨lwt_3 (i := 104) (by decide +kernel), good_of_word (by decide +kernel)⟩
theorem lwd_576 : lwP (Cond.methodLink RX8 181 yX7_canFlip) := ⟨lwt_3 (i := 105) (by decide +kernel), good_of_word (by decide +kernel)⟩
theorem lwd_577 : lwP (Cond.methodLink RX8 184 yX7_flip) := ⟨lwt_3 (i := 106) (by decide +kernel), good_of_word (by decide +kernel)⟩
theorem lwd_578 : lwP (Cond.methodLink RL 56 yX9_say) := ⟨lwt_4 (i := 234) (by decide +kernel), good_of_word (by decide +kernel)⟩
theorem lwd_579 : lwP (Cond.instanceMethod yX9_say) := ⟨lwt_4 (i := 235) (by decide +kernel), good_of_word (by decide +kernel)⟩
theorem lwd_580 : lwP (Cond.selects RX9 yX9_say yX9_say) := ⟨lwt_4 (i := 236) (by decide +kernel), good_of_word (by decide +kernel)⟩
theorem lwd_581 : lwP (Cond.code yX9_say cX9_say 5 (some .int)) := ⟨lwt_4 (i := 237) (by decide +kernel), good_of_word (by decide +kernel)⟩
theorem lwd_582 : lwP (Cond.code yX9_allWords cX9_allWords 3 (some .int)) := ⟨lwt_5 (i := 1) (by decide +kernel), good_of_word (by decide +kernel)⟩
theorem lwd_583 : lwP (Cond.selects RX9 yX9_allWords yX9_allWords) := ⟨lwt_p (i := 43) (by decide +kernel), good_of_word (by decide +kernel)⟩
theorem lwd_584 : lwP (Cond.instanceMethod yX9_allWords) := ⟨lwt_5 (i := 0) (by decide +kernel), good_of_word (by decide +kernel)⟩
theorem lwd_585 : lwP (Cond.methodLink RX9 159 yX9_allWords) := ⟨lwt_4 (i := 238) (by decide +kernel), good_of_word (by decide +kernel)⟩
theorem lwd_586 : lwP (Cond.methodLink RL 57 yX8_mend) := ⟨lwt_3 (i := 107) (by decide +kernel), good_of_word (by decide +kernel)⟩
theorem lwd_587 : lwP (Cond.instanceMethod yX8_mend) := ⟨lwt_3 (i := 108) (by decide +kernel), good_of_word (by decide +kernel)⟩
theorem lwd_588 : lwP (Cond.selects RX8 yX8_mend yX8_mend) := ⟨lwt_3 (i := 109) (by decide +kernel), good_of_word (by decide +kernel)⟩
theorem lwd_589 : lwP (Cond.code yX8_mend cX8_mend 3 (some .int)) := ⟨lwt_3 (i := 110) (by decide +kernel), good_of_word (by decide +kernel)⟩
theorem lwd_590 : lwP (Cond.methodLink RX5 53 yX5_setStout) := ⟨lwt_3 (i := 121) (by decide +kernel), good_of_word (by decide +kernel)⟩
theorem lwd_591 : lwP (Cond.methodLink RX5 44 yX5_stoutAt) := ⟨lwt_3 (i := 119) (by decide +kernel), good_of_word (by decide +kernel)⟩
theorem lwd_592 : lwP (Cond.methodLink RX5 48 Lib.Math.max.name) := ⟨lwt_3 (i := 120) (by decide +kernel), good_of_word (by decide +kernel)⟩
theorem lwd_593 : lwP (Cond.code yX5_thinAll cX5_thinAll 3 none) := ⟨lwt_3 (i := 118) (by decide +kernel), good_of_word (by decide +kernel)⟩
theorem lwd_594 : lwP (Cond.selects RX5 yX5_thinAll yX5_thinAll) := ⟨lwt_3 (i := 117) (by decide +kernel), good_of_word (by decide +kernel)⟩
theorem lwd_595 : lwP (Cond.instanceMethod yX5_thinAll) := ⟨lwt_3 (i := 116) (by decide +kernel), good_of_word (by decide +kernel)⟩
theorem lwd_596 : lwP (Cond.methodLink RX8 191 yX5_thinAll) := ⟨lwt_3 (i := 115) (by decide +kernel), good_of_word (by decide +kernel)⟩
theorem lwd_597 : lwP (Cond.code yX5_lodgings cX5_lodgings 3 (some .int)) := ⟨lwt_3 (i := 114) (by decide +kernel), good_of_word (by decide +kernel)⟩
theorem lwd_598 : lwP (Cond.selects RX5 yX5_lodgings yX5_lodgings) := ⟨lwt_3 (i := 113) (by decide +kernel), good_of_word (by decide +kernel)⟩
theorem lwd_599 : lwP (Cond.instanceMethod yX5_lodgings) := ⟨lwt_3 (i := 112) (by decide +kernel), good_of_word (by decide +kernel)⟩
theorem lwd_600 : lwP (Cond.methodLink RX8 188 yX5_lodgings) := ⟨lwt_3 (i := 111) (by decide +kernel), good_of_word (by decide +kernel)⟩
theorem lwd_601 : lwP (Cond.methodLink RL 60 yX9_mend) := ⟨lwt_5 (i := 2) (by decide +kernel), good_of_word (by decide +kernel)⟩
theorem lwd_602 : lwP (Cond.instanceMethod yX9_mend) := ⟨lwt_5 (i := 3) (by decide +kernel), good_of_word (by decide +kernel)⟩
theorem lwd_603 : lwP (Cond.selects RX9 yX9_mend yX9_mend) := ⟨lwt_5 (i := 4) (by decide +kernel), good_of_word (by decide +kernel)⟩
theorem lwd_604 : lwP (Cond.code yX9_mend cX9_mend 4 (some .int)) := ⟨lwt_5 (i := 5) (by decide +kernel), good_of_word (by decide +kernel)⟩
theorem lwd_605 : lwP (Cond.methodLink RL 61 yX8_undo) := ⟨lwt_3 (i := 122) (by decide +kernel), good_of_word (by decide +kernel)⟩
theorem lwd_606 : lwP (Cond.instanceMethod yX8_undo) := ⟨lwt_3 (i := 123) (by decide +kernel), good_of_word (by decide +kernel)⟩
theorem lwd_607 : lwP (Cond.selects RX8 yX8_undo yX8_undo) := ⟨lwt_3 (i := 124) (by decide +kernel), good_of_word (by decide +kernel)⟩
theorem lwd_608 : lwP (Cond.code yX8_undo cX8_undo 1 (some .int)) := ⟨lwt_3 (i := 125) (by decide +kernel), good_of_word (by decide +kernel)⟩
theorem lwd_609 : lwP (Cond.code yX2_pop cX2_pop 4 none) := ⟨lwt_3 (i := 129) (by decide +kernel), good_of_word (by decide +kernel)⟩
theorem lwd_610 : lwP (Cond.selects RX2 yX2_pop yX2_pop) := ⟨lwt_3 (i := 128) (by decide +kernel), good_of_word (by decide +kernel)⟩
theorem lwd_611 : lwP (Cond.instanceMethod yX2_pop) := ⟨lwt_3 (i := 127) (by decide +kernel), good_of_word (by decide +kernel)⟩
theorem lwd_612 : lwP (Cond.methodLink RX8 197 yX2_pop) := ⟨lwt_3 (i := 126) (by decide +kernel), good_of_word (by decide +kernel)⟩
theorem lwd_613 : lwP (Cond.methodLink RL 64 yX9_undo) := ⟨lwt_5 (i := 6) (by decide +kernel), good_of_word (by decide +kernel)⟩
theorem lwd_614 : lwP (Cond.instanceMethod yX9_undo) := ⟨lwt_5 (i := 7) (by decide +kernel), good_of_word (by decide +kernel)⟩
theorem lwd_615 : lwP (Cond.selects RX9 yX9_undo yX9_undo) := ⟨lwt_5 (i := 8) (by decide +kernel), good_of_word (by decide +kernel)⟩
theorem lwd_616 : lwP (Cond.code yX9_undo cX9_undo 2 (some .int)) := ⟨lwt_5 (i := 9) (by decide +kernel), good_of_word (by decide +kernel)⟩
theorem lwd_617 : lwP (Cond.methodLink RL 65 yX8_behind) := ⟨lwt_3 (i := 130) (by decide +kernel), good_of_word (by decide +kernel)⟩
theorem lwd_618 : lwP (Cond.instanceMethod yX8_behind) := ⟨lwt_3 (i := 131) (by decide +kernel), good_of_word (by decide +kernel)⟩
theorem lwd_619 : lwP (Cond.selects RX8 yX8_behind yX8_behind) := ⟨lwt_3 (i := 132) (by decide +kernel), good_of_word (by decide +kernel)⟩
theorem lwd_620 : lwP (Cond.code yX8_behind cX8_behind 4 (some .int)) := ⟨lwt_3 (i := 133) (by decide +kernel), good_of_word (by decide +kernel)⟩
theorem lwd_621 : lwP (Cond.methodLink RX8 200 yX0_passDays) := ⟨lwt_3 (i := 134) (by decide +kernel), good_of_word (by decide +kernel)⟩
theorem lwd_622 : lwP (Cond.methodLink RL 68 yX9_behind) := ⟨lwt_5 (i := 10) (by decide +kernel), good_of_word (by decide +kernel)⟩
theorem lwd_623 : lwP (Cond.instanceMethod yX9_behind) := ⟨lwt_5 (i := 11) (by decide +kernel), good_of_word (by decide +kernel)⟩
theorem lwd_624 : lwP (Cond.selects RX9 yX9_behind yX9_behind) := ⟨lwt_5 (i := 12) (by decide +kernel), good_of_word (by decide +kernel)⟩
theorem lwd_625 : lwP (Cond.code yX9_behind cX9_behind 5 (some .int)) := ⟨lwt_5 (i := 13) (by decide +kernel), good_of_word (by decide +kernel)⟩
theorem lwd_626 : lwP (Cond.code yX9_holds cX9_holds 2 none) := ⟨lwt_5 (i := 17) (by decide +kernel), good_of_word (by decide +kernel)⟩
theorem lwd_627 : lwP (Cond.selects RX9 yX9_holds yX9_holds) := ⟨lwt_p (i := 44) (by decide +kernel), good_of_word (by decide +kernel)⟩
theorem lwd_628 : lwP (Cond.instanceMethod yX9_holds) := ⟨lwt_5 (i := 16) (by decide +kernel), good_of_word (by decide +kernel)⟩
theorem lwd_629 : lwP (Cond.methodLink RX9 162 yX9_holds) := ⟨lwt_5 (i := 14) (by decide +kernel), good_of_word (by decide +kernel)⟩
theorem lwd_630 : lwP (Cond.code yX9_lets cX9_lets 2 none) := ⟨lwt_5 (i := 21) (by decide +kernel), good_of_word (by decide +kernel)⟩
theorem lwd_631 : lwP (Cond.selects RX9 yX9_lets yX9_lets) := ⟨lwt_p (i := 45) (by decide +kernel), good_of_word (by decide +kernel)⟩
theorem lwd_632 : lwP (Cond.instanceMethod yX9_lets) := ⟨lwt_5 (i := 20) (by decide +kernel), good_of_word (by decide +kernel)⟩
theorem lwd_633 : lwP (Cond.methodLink RX9 165 yX9_lets) := ⟨lwt_5 (i := 18) (by decide +kernel), good_of_word (by decide +kernel)⟩
theorem lwd_634 : lwP (Cond.methodLink RL 69 yX8_homeless) := ⟨lwt_3 (i := 135) (by decide +kernel), good_of_word (by decide +kernel)⟩
theorem lwd_635 : lwP (Cond.instanceMethod yX8_homeless) := ⟨lwt_3 (i := 136) (by decide +kernel), good_of_word (by decide +kernel)⟩
theorem lwd_636 : lwP (Cond.selects RX8 yX8_homeless yX8_homeless) := ⟨lwt_3 (i := 137) (by decide +kernel), good_of_word (by decide +kernel)⟩
theorem lwd_637 : lwP (Cond.code yX8_homeless cX8_homeless 2 (some .int)) := ⟨lwt_3 (i := 138) (by decide +kernel), good_of_word (by decide +kernel)⟩
theorem lwd_638 : lwP (Cond.fieldLink RX1 60 "LodgingNames$Outlook" "first" "I") := ⟨lwt_1 (i := 224) (by decide +kernel), good_of_word (by decide +kernel)⟩
theorem lwd_639 : lwP (Cond.fieldLink RX1 50 "LodgingNames$Outlook" "second" "I") := ⟨lwt_1 (i := 226) (by decide +kernel), good_of_word (by decide +kernel)⟩
theorem lwd_640 : lwP (Cond.code yX1_findHomeless cX1_findHomeless 4 (some .boolean)) := ⟨lwt_3 (i := 142) (by decide +kernel), good_of_word (by decide +kernel)⟩
theorem lwd_641 : lwP (Cond.selects RX1 yX1_findHomeless yX1_findHomeless) := ⟨lwt_3 (i := 141) (by decide +kernel), good_of_word (by decide +kernel)⟩
theorem lwd_642 : lwP (Cond.instanceMethod yX1_findHomeless) := ⟨lwt_3 (i := 140) (by decide +kernel), good_of_word (by decide +kernel)⟩
theorem lwd_643 : lwP (Cond.methodLink RX8 206 yX1_findHomeless) := ⟨lwt_3 (i := 139) (by decide +kernel), good_of_word (by decide +kernel)⟩
theorem lwd_644 : lwP (Cond.methodLink RX1 53 yX0_passDay) := ⟨lwt_3 (i := 143) (by decide +kernel), good_of_word (by decide +kernel)⟩
theorem lwd_645 : lwP (Cond.code yX1_lowest cX1_lowest 2 (some .int)) := ⟨lwt_3 (i := 146) (by decide +kernel), good_of_word (by decide +kernel)⟩
theorem lwd_646 : lwP (Cond.static yX1_lowest) := ⟨lwt_3 (i := 145) (by decide +kernel), good_of_word (by decide +kernel)⟩
theorem lwd_647 : lwP (Cond.methodLink RX1 57 yX1_lowest) := ⟨lwt_3 (i := 144) (by decide +kernel), good_of_word (by decide +kernel)⟩
theorem lwd_648 : lwP (Cond.methodLink RL 72 yX9_homeless) := ⟨lwt_5 (i := 22) (by decide +kernel), good_of_word (by decide +kernel)⟩
theorem lwd_649 : lwP (Cond.instanceMethod yX9_homeless) := ⟨lwt_5 (i := 23) (by decide +kernel), good_of_word (by decide +kernel)⟩
theorem lwd_650 : lwP (Cond.selects RX9 yX9_homeless yX9_homeless) := ⟨lwt_5 (i := 24) (by decide +kernel), good_of_word (by decide +kernel)⟩
theorem lwd_651 : lwP (Cond.code yX9_homeless cX9_homeless 4 (some .int)) := ⟨lwt_5 (i := 25) (by decide +kernel), good_of_word (by decide +kernel)⟩
theorem lwd_652 : lwP (Cond.methodLink RL 73 yX8_load) := ⟨lwt_3 (i := 147) (by decide +kernel), good_of_word (by decide +kernel)⟩
theorem lwd_653 : lwP (Cond.instanceMethod yX8_load) := ⟨lwt_3 (i := 148) (by decide +kernel), good_of_word (by decide +kernel)⟩
theorem lwd_654 : lwP (Cond.selects RX8 yX8_load yX8_load) := ⟨lwt_3 (i := 149) (by decide +kernel), good_of_word (by decide +kernel)⟩
theorem lwd_655 : lwP (Cond.code yX8_load cX8_load 3 (some .int)) := ⟨lwt_3 (i := 150) (by decide +kernel), good_of_word (by decide +kernel)⟩
theorem lwd_656 : lwP (Cond.methodLink RL 76 yX9_load) := ⟨lwt_5 (i := 26) (by decide +kernel), good_of_word (by decide +kernel)⟩
theorem lwd_657 : lwP (Cond.instanceMethod yX9_load) := ⟨lwt_5 (i := 27) (by decide +kernel), good_of_word (by decide +kernel)⟩
theorem lwd_658 : lwP (Cond.selects RX9 yX9_load yX9_load) := ⟨lwt_5 (i := 28) (by decide +kernel), good_of_word (by decide +kernel)⟩
theorem lwd_659 : lwP (Cond.code yX9_load cX9_load 3 (some .int)) := ⟨lwt_5 (i := 29) (by decide +kernel), good_of_word (by decide +kernel)⟩
theorem lwd_660 : lwP (Cond.methodLink RL 77 yX8_out) := ⟨lwt_3 (i := 151) (by decide +kernel), good_of_word (by decide +kernel)⟩
theorem lwd_661 : lwP (Cond.instanceMethod yX8_out) := ⟨lwt_3 (i := 152) (by decide +kernel), good_of_word (by decide +kernel)⟩
theorem lwd_662 : lwP (Cond.selects RX8 yX8_out yX8_out) := ⟨lwt_3 (i := 153) (by decide +kernel), good_of_word (by decide +kernel)⟩
theorem lwd_663 : lwP (Cond.code yX8_out cX8_out 6 (some .int)) := ⟨lwt_3 (i := 154) (by decide +kernel), good_of_word (by decide +kernel)⟩
theorem lwd_664 : lwP (Cond.code yX1_findOut cX1_findOut 11 (some .int)) := ⟨lwt_3 (i := 158) (by decide +kernel), good_of_word (by decide +kernel)⟩
theorem lwd_665 : lwP (Cond.selects RX1 yX1_findOut yX1_findOut) := ⟨lwt_3 (i := 157) (by decide +kernel), good_of_word (by decide +kernel)⟩
theorem lwd_666 : lwP (Cond.instanceMethod yX1_findOut) := ⟨lwt_3 (i := 156) (by decide +kernel), good_of_word (by decide +kernel)⟩
theorem lwd_667 : lwP (Cond.methodLink RX8 216 yX1_findOut) := ⟨lwt_3 (i := 155) (by decide +kernel), good_of_word (by decide +kernel)⟩
theorem lwd_668 : lwP (Cond.code yX1_isAway cX1_isAway 6 (some .boolean)) := ⟨lwt_3 (i := 162) (by decide +kernel), good_of_word (by decide +kernel)⟩
theorem lwd_669 : lwP (Cond.selects RX1 yX1_isAway yX1_isAway) := ⟨lwt_p (i := 16) (by decide +kernel), good_of_word (by decide +kernel)⟩
theorem lwd_670 : lwP (Cond.instanceMethod yX1_isAway) := ⟨lwt_3 (i := 161) (by decide +kernel), good_of_word (by decide +kernel)⟩
theorem lwd_671 : lwP (Cond.methodLink RX1 63 yX1_isAway) := ⟨lwt_3 (i := 159) (by decide +kernel), good_of_word (by decide +kernel)⟩
theorem lwd_672 : lwP (Cond.code yX1_shown cX1_shown 1 (some .int)) := ⟨lwt_3 (i := 171) (by decide +kernel), good_of_word (by decide +kernel)⟩
theorem lwd_673 : lwP (Cond.static yX1_shown) := ⟨lwt_3 (i := 170) (by decide +kernel), good_of_word (by decide +kernel)⟩
theorem lwd_674 : lwP (Cond.methodLink RX1 71 yX1_shown) := ⟨lwt_3 (i := 169) (by decide +kernel), good_of_word (by decide +kernel)⟩
theorem lwd_675 : lwP (Cond.methodLink RX1 77 yX7_bit) := ⟨lwt_3 (i := 168) (by decide +kernel), good_of_word (by decide +kernel)⟩
theorem lwd_676 : lwP (Cond.code yX1_choice cX1_choice 5 (some .long)) := ⟨lwt_3 (i := 167) (by decide +kernel), good_of_word (by decide +kernel)⟩
theorem lwd_677 : lwP (Cond.selects RX1 yX1_choice yX1_choice) := ⟨lwt_p (i := 17) (by decide +kernel), good_of_word (by decide +kernel)⟩
theorem lwd_678 : lwP (Cond.instanceMethod yX1_choice) := ⟨lwt_3 (i := 166) (by decide +kernel), good_of_word (by decide +kernel)⟩
theorem lwd_679 : lwP (Cond.methodLink RX1 67 yX1_choice) := ⟨lwt_3 (i := 164) (by decide +kernel), good_of_word (by decide +kernel)⟩
theorem lwd_680 : lwP (Cond.methodLink RL 81 yX9_out) := ⟨lwt_5 (i := 30) (by decide +kernel), good_of_word (by decide +kernel)⟩
theorem lwd_681 : lwP (Cond.instanceMethod yX9_out) := ⟨lwt_5 (i := 31) (by decide +kernel), good_of_word (by decide +kernel)⟩
theorem lwd_682 : lwP (Cond.selects RX9 yX9_out yX9_out) := ⟨lwt_5 (i := 32) (by decide +kernel), good_of_word (by decide +kernel)⟩
theorem lwd_683 : lwP (Cond.code yX9_out cX9_out 10 (some .int)) := ⟨lwt_5 (i := 33) (by decide +kernel), good_of_word (by decide +kernel)⟩
theorem lwd_684 : lwP (Cond.code yX9_isOut cX9_isOut 7 (some .boolean)) := ⟨lwt_5 (i := 37) (by decide +kernel), good_of_word (by decide +kernel)⟩
theorem lwd_685 : lwP (Cond.selects RX9 yX9_isOut yX9_isOut) := ⟨lwt_p (i := 46) (by decide +kernel), good_of_word (by decide +kernel)⟩
theorem lwd_686 : lwP (Cond.instanceMethod yX9_isOut) := ⟨lwt_5 (i := 36) (by decide +kernel), good_of_word (by decide +kernel)⟩
theorem lwd_687 : lwP (Cond.methodLink RX9 168 yX9_isOut) := ⟨lwt_5 (i := 34) (by decide +kernel), good_of_word (by decide +kernel)⟩
theorem lwd_688 : lwP (Cond.methodLink RX9 172 yX9_isWord) := ⟨lwt_5 (i := 38) (by decide +kernel), good_of_word (by decide +kernel)⟩
theorem lwd_689 : lwP (Cond.code yX9_isWord cX9_isWord 3 (some .boolean)) := ⟨lwt_5 (i := 41) (by decide +kernel), good_of_word (by decide +kernel)⟩
theorem lwd_690 : lwP (Cond.selects RX9 yX9_isWord yX9_isWord) := ⟨lwt_p (i := 47) (by decide +kernel), good_of_word (by decide +kernel)⟩
theorem lwd_691 : lwP (Cond.instanceMethod yX9_isWord) := ⟨lwt_5 (i := 40) (by decide +kernel), good_of_word (by decide +kernel)⟩
theorem lwd_692 : lwP (Cond.methodLink RL 82 yX8_rooms) := ⟨lwt_3 (i := 172) (by decide +kernel), good_of_word (by decide +kernel)⟩
theorem lwd_693 : lwP (Cond.instanceMethod yX8_rooms) := ⟨lwt_3 (i := 173) (by decide +kernel), good_of_word (by decide +kernel)⟩
theorem lwd_694 : lwP (Cond.selects RX8 yX8_rooms yX8_rooms) := ⟨lwt_3 (i := 174) (by decide +kernel), good_of_word (by decide +kernel)⟩
theorem lwd_695 : lwP (Cond.code yX8_rooms cX8_rooms 2 (some .int)) := ⟨lwt_3 (i := 175) (by decide +kernel), good_of_word (by decide +kernel)⟩
theorem lwd_696 : lwP (Cond.code yX0_hasAsUnkind cX0_hasAsUnkind 3 (some .boolean)) := ⟨lwt_3 (i := 183) (by decide +kernel), good_of_word (by decide +kernel)⟩
theorem lwd_697 : lwP (Cond.selects RX0 yX0_hasAsUnkind yX0_hasAsUnkind) := ⟨lwt_p (i := 18) (by decide +kernel), good_of_word (by decide +kernel)⟩
theorem lwd_698 : lwP (Cond.instanceMethod yX0_hasAsUnkind) := ⟨lwt_3 (i := 182) (by decide +kernel), good_of_word (by decide +kernel)⟩
theorem lwd_699 : lwP (Cond.methodLink RX0 122 yX0_hasAsUnkind) := ⟨lwt_3 (i := 180) (by decide +kernel), good_of_word (by decide +kernel)⟩
theorem lwd_700 : lwP (Cond.code yX0_fewestRooms cX0_fewestRooms 4 (some .int)) := ⟨lwt_3 (i := 179) (by decide +kernel), good_of_word (by decide +kernel)⟩
theorem lwd_701 : lwP (Cond.selects RX0 yX0_fewestRooms yX0_fewestRooms) := ⟨lwt_3 (i := 178) (by decide +kernel), good_of_word (by decide +kernel)⟩
theorem lwd_702 : lwP (Cond.instanceMethod yX0_fewestRooms) := ⟨lwt_3 (i := 177) (by decide +kernel), good_of_word (by decide +kernel)⟩
theorem lwd_703 : lwP (Cond.methodLink RX8 220 yX0_fewestRooms) := ⟨lwt_3 (i := 176) (by decide +kernel), good_of_word (by decide +kernel)⟩
theorem lwd_704 : lwP (Cond.methodLink RL 85 yX9_rooms) := ⟨lwt_5 (i := 42) (by decide +kernel), good_of_word (by decide +kernel)⟩
theorem lwd_705 : lwP (Cond.instanceMethod yX9_rooms) := ⟨lwt_5 (i := 43) (by decide +kernel), good_of_word (by decide +kernel)⟩
theorem lwd_706 : lwP (Cond.selects RX9 yX9_rooms yX9_rooms) := ⟨lwt_5 (i := 44) (by decide +kernel), good_of_word (by decide +kernel)⟩
theorem lwd_707 : lwP (Cond.code yX9_rooms cX9_rooms 6 (some .int)) := ⟨lwt_5 (i := 45) (by decide +kernel), good_of_word (by decide +kernel)⟩
theorem lwd_708 : lwP (Cond.methodLink RL 86 yX8_game) := ⟨lwt_3 (i := 184) (by decide +kernel), good_of_word (by decide +kernel)⟩
theorem lwd_709 : lwP (Cond.instanceMethod yX8_game) := ⟨lwt_3 (i := 185) (by decide +kernel), good_of_word (by decide +kernel)⟩
theorem lwd_710 : lwP (Cond.selects RX8 yX8_game yX8_game) := ⟨lwt_3 (i := 186) (by decide +kernel), good_of_word (by decide +kernel)⟩
theorem lwd_711 : lwP (Cond.code yX8_game cX8_game 7 (some .int)) := ⟨lwt_3 (i := 187) (by decide +kernel), good_of_word (by decide +kernel)⟩
theorem lwd_712 : lwP (Cond.code yX1_findWorst cX1_findWorst 8 (some .int)) := ⟨lwt_3 (i := 191) (by decide +kernel), good_of_word (by decide +kernel)⟩
theorem lwd_713 : lwP (Cond.selects RX1 yX1_findWorst yX1_findWorst) := ⟨lwt_3 (i := 190) (by decide +kernel), good_of_word (by decide +kernel)⟩
theorem lwd_714 : lwP (Cond.instanceMethod yX1_findWorst) := ⟨lwt_3 (i := 189) (by decide +kernel), good_of_word (by decide +kernel)⟩
theorem lwd_715 : lwP (Cond.methodLink RX8 226 yX1_findWorst) := ⟨lwt_3 (i := 188) (by decide +kernel), good_of_word (by decide +kernel)⟩
theorem lwd_716 : lwP (Cond.methodLink RX1 97 yX0_together) := ⟨lwt_3 (i := 192) (by decide +kernel), good_of_word (by decide +kernel)⟩
theorem lwd_717 : lwP (Cond.methodLink RL 89 yX9_game) := ⟨lwt_5 (i := 46) (by decide +kernel), good_of_word (by decide +kernel)⟩
theorem lwd_718 : lwP (Cond.instanceMethod yX9_game) := ⟨lwt_5 (i := 47) (by decide +kernel), good_of_word (by decide +kernel)⟩
theorem lwd_719 : lwP (Cond.selects RX9 yX9_game yX9_game) := ⟨lwt_5 (i := 48) (by decide +kernel), good_of_word (by decide +kernel)⟩
theorem lwd_720 : lwP (Cond.code yX9_game cX9_game 12 (some .int)) := ⟨lwt_5 (i := 49) (by decide +kernel), good_of_word (by decide +kernel)⟩
theorem lwd_721 : lwP (Cond.code yX9_plays cX9_plays 7 none) := ⟨lwt_5 (i := 53) (by decide +kernel), good_of_word (by decide +kernel)⟩
theorem lwd_722 : lwP (Cond.selects RX9 yX9_plays yX9_plays) := ⟨lwt_p (i := 48) (by decide +kernel), good_of_word (by decide +kernel)⟩
theorem lwd_723 : lwP (Cond.instanceMethod yX9_plays) := ⟨lwt_5 (i := 52) (by decide +kernel), good_of_word (by decide +kernel)⟩
theorem lwd_724 : lwP (Cond.methodLink RX9 175 yX9_plays) := ⟨lwt_5 (i := 50) (by decide +kernel), good_of_word (by decide +kernel)⟩
theorem lwd_725 : lwP (Cond.code yX9_isChoice cX9_isChoice 2 (some .boolean)) := ⟨lwt_5 (i := 57) (by decide +kernel), good_of_word (by decide +kernel)⟩
theorem lwd_726 : lwP (Cond.selects RX9 yX9_isChoice yX9_isChoice) := ⟨lwt_p (i := 49) (by decide +kernel), good_of_word (by decide +kernel)⟩
theorem lwd_727 : lwP (Cond.instanceMethod yX9_isChoice) := ⟨lwt_5 (i := 56) (by decide +kernel), good_of_word (by decide +kernel)⟩
theorem lwd_728 : lwP (Cond.methodLink RX9 178 yX9_isChoice) := ⟨lwt_5 (i := 54) (by decide +kernel), good_of_word (by decide +kernel)⟩
theorem lwd_729 : lwP (Cond.methodLink RL 90 yX8_see) := ⟨lwt_3 (i := 193) (by decide +kernel), good_of_word (by decide +kernel)⟩
theorem lwd_730 : lwP (Cond.instanceMethod yX8_see) := ⟨lwt_3 (i := 194) (by decide +kernel), good_of_word (by decide +kernel)⟩
theorem lwd_731 : lwP (Cond.selects RX8 yX8_see yX8_see) := ⟨lwt_3 (i := 195) (by decide +kernel), good_of_word (by decide +kernel)⟩
theorem lwd_732 : lwP (Cond.code yX8_see cX8_see 5 (some .int)) := ⟨lwt_3 (i := 196) (by decide +kernel), good_of_word (by decide +kernel)⟩
theorem lwd_733 : lwP (Cond.code yX4_add cX4_add 5 none) := ⟨lwt_3 (i := 200) (by decide +kernel), good_of_word (by decide +kernel)⟩
theorem lwd_734 : lwP (Cond.selects RX4 yX4_add yX4_add) := ⟨lwt_3 (i := 199) (by decide +kernel), good_of_word (by decide +kernel)⟩
theorem lwd_735 : lwP (Cond.instanceMethod yX4_add) := ⟨lwt_3 (i := 198) (by decide +kernel), good_of_word (by decide +kernel)⟩
theorem lwd_736 : lwP (Cond.methodLink RX8 232 yX4_add) := ⟨lwt_3 (i := 197) (by decide +kernel), good_of_word (by decide +kernel)⟩
theorem lwd_737 : lwP (Cond.methodLink RL 93 yX9_see) := ⟨lwt_5 (i := 58) (by decide +kernel), good_of_word (by decide +kernel)⟩
theorem lwd_738 : lwP (Cond.instanceMethod yX9_see) := ⟨lwt_5 (i := 59) (by decide +kernel), good_of_word (by decide +kernel)⟩
theorem lwd_739 : lwP (Cond.selects RX9 yX9_see yX9_see) := ⟨lwt_5 (i := 60) (by decide +kernel), good_of_word (by decide +kernel)⟩
theorem lwd_740 : lwP (Cond.code yX9_see cX9_see 5 (some .int)) := ⟨lwt_5 (i := 61) (by decide +kernel), good_of_word (by decide +kernel)⟩
theorem lwd_741 : lwP (Cond.methodLink RL 94 yX8_forget) := ⟨lwt_3 (i := 202) (by decide +kernel), good_of_word (by decide +kernel)⟩
theorem lwd_742 : lwP (Cond.instanceMethod yX8_forget) := ⟨lwt_3 (i := 203) (by decide +kernel), good_of_word (by decide +kernel)⟩
theorem lwd_743 : lwP (Cond.selects RX8 yX8_forget yX8_forget) := ⟨lwt_3 (i := 204) (by decide +kernel), good_of_word (by decide +kernel)⟩
theorem lwd_744 : lwP (Cond.code yX8_forget cX8_forget 2 (some .int)) := ⟨lwt_3 (i := 205) (by decide +kernel), good_of_word (by decide +kernel)⟩
theorem lwd_745 : lwP (Cond.methodLink RL 97 yX9_forget) := ⟨lwt_5 (i := 62) (by decide +kernel), good_of_word (by decide +kernel)⟩
theorem lwd_746 : lwP (Cond.instanceMethod yX9_forget) := ⟨lwt_5 (i := 63) (by decide +kernel), good_of_word (by decide +kernel)⟩
theorem lwd_747 : lwP (Cond.selects RX9 yX9_forget yX9_forget) := ⟨lwt_5 (i := 64) (by decide +kernel), good_of_word (by decide +kernel)⟩
theorem lwd_748 : lwP (Cond.code yX9_forget cX9_forget 2 (some .int)) := ⟨lwt_5 (i := 65) (by decide +kernel), good_of_word (by decide +kernel)⟩
theorem lwd_749 : lwP (Cond.methodLink RL 98 yX8_said) := ⟨lwt_3 (i := 206) (by decide +kernel), good_of_word (by decide +kernel)⟩
theorem lwd_750 : lwP (Cond.instanceMethod yX8_said) := ⟨lwt_3 (i := 207) (by decide +kernel), good_of_word (by decide +kernel)⟩
theorem lwd_751 : lwP (Cond.selects RX8 yX8_said yX8_said) := ⟨lwt_3 (i := 208) (by decide +kernel), good_of_word (by decide +kernel)⟩
theorem lwd_752 : lwP (Cond.code yX8_said cX8_said 5 (some .int)) := ⟨lwt_3 (i := 209) (by decide +kernel), good_of_word (by decide +kernel)⟩
theorem lwd_753 : lwP (Cond.code yX1_holds cX1_holds 7 (some .boolean)) := ⟨lwt_3 (i := 213) (by decide +kernel), good_of_word (by decide +kernel)⟩
theorem lwd_754 : lwP (Cond.selects RX1 yX1_holds yX1_holds) := ⟨lwt_3 (i := 212) (by decide +kernel), good_of_word (by decide +kernel)⟩
theorem lwd_755 : lwP (Cond.instanceMethod yX1_holds) := ⟨lwt_3 (i := 211) (by decide +kernel), good_of_word (by decide +kernel)⟩
theorem lwd_756 : lwP (Cond.methodLink RX8 235 yX1_holds) := ⟨lwt_3 (i := 210) (by decide +kernel), good_of_word (by decide +kernel)⟩
theorem lwd_757 : lwP (Cond.methodLink RX8 239 yX7_bit) := ⟨lwt_3 (i := 214) (by decide +kernel), good_of_word (by decide +kernel)⟩
theorem lwd_758 : lwP (Cond.methodLink RL 101 yX9_said) := ⟨lwt_5 (i := 66) (by decide +kernel), good_of_word (by decide +kernel)⟩
theorem lwd_759 : lwP (Cond.instanceMethod yX9_said) := ⟨lwt_5 (i := 67) (by decide +kernel), good_of_word (by decide +kernel)⟩
theorem lwd_760 : lwP (Cond.selects RX9 yX9_said yX9_said) := ⟨lwt_5 (i := 68) (by decide +kernel), good_of_word (by decide +kernel)⟩
theorem lwd_761 : lwP (Cond.code yX9_said cX9_said 5 (some .int)) := ⟨lwt_5 (i := 69) (by decide +kernel), good_of_word (by decide +kernel)⟩
theorem lwd_762 : lwP (Cond.code yX9_isSo cX9_isSo 4 (some .boolean)) := ⟨lwt_5 (i := 73) (by decide +kernel), good_of_word (by decide +kernel)⟩
theorem lwd_763 : lwP (Cond.selects RX9 yX9_isSo yX9_isSo) := ⟨lwt_p (i := 50) (by decide +kernel), good_of_word (by decide +kernel)⟩
theorem lwd_764 : lwP (Cond.instanceMethod yX9_isSo) := ⟨lwt_5 (i := 72) (by decide +kernel), good_of_word (by decide +kernel)⟩
theorem lwd_765 : lwP (Cond.methodLink RX9 181 yX9_isSo) := ⟨lwt_5 (i := 70) (by decide +kernel), good_of_word (by decide +kernel)⟩
theorem lwd_766 : lwP (Cond.methodLink RL 102 yX8_whose) := ⟨lwt_3 (i := 215) (by decide +kernel), good_of_word (by decide +kernel)⟩
theorem lwd_767 : lwP (Cond.instanceMethod yX8_whose) := ⟨lwt_3 (i := 216) (by decide +kernel), good_of_word (by decide +kernel)⟩
theorem lwd_768 : lwP (Cond.selects RX8 yX8_whose yX8_whose) := ⟨lwt_3 (i := 217) (by decide +kernel), good_of_word (by decide +kernel)⟩
theorem lwd_769 : lwP (Cond.code yX8_whose cX8_whose 3 (some .int)) := ⟨lwt_3 (i := 218) (by decide +kernel), good_of_word (by decide +kernel)⟩
theorem lwd_770 : lwP (Cond.methodLink RX8 243 yX7_about) := ⟨lwt_3 (i := 219) (by decide +kernel), good_of_word (by decide +kernel)⟩
theorem lwd_771 : lwP (Cond.methodLink RX8 247 yX7_callers) := ⟨lwt_3 (i := 220) (by decide +kernel), good_of_word (by decide +kernel)⟩
theorem lwd_772 : lwP (Cond.methodLink RL 105 yX9_whose) := ⟨lwt_5 (i := 74) (by decide +kernel), good_of_word (by decide +kernel)⟩
theorem lwd_773 : lwP (Cond.instanceMethod yX9_whose) := ⟨lwt_5 (i := 75) (by decide +kernel), good_of_word (by decide +kernel)⟩
theorem lwd_774 : lwP (Cond.selects RX9 yX9_whose yX9_whose) := ⟨lwt_5 (i := 76) (by decide +kernel), good_of_word (by decide +kernel)⟩
theorem lwd_775 : lwP (Cond.code yX9_whose cX9_whose 5 (some .int)) := ⟨lwt_5 (i := 77) (by decide +kernel), good_of_word (by decide +kernel)⟩
theorem lwd_776 : lwP (Cond.methodLink RL 106 yX8_chance) := ⟨lwt_3 (i := 221) (by decide +kernel), good_of_word (by decide +kernel)⟩
theorem lwd_777 : lwP (Cond.instanceMethod yX8_chance) := ⟨lwt_3 (i := 222) (by decide +kernel), good_of_word (by decide +kernel)⟩
theorem lwd_778 : lwP (Cond.selects RX8 yX8_chance yX8_chance) := ⟨lwt_3 (i := 223) (by decide +kernel), good_of_word (by decide +kernel)⟩
theorem lwd_779 : lwP (Cond.code yX8_chance cX8_chance 11 (some .long)) := ⟨lwt_3 (i := 224) (by decide +kernel), good_of_word (by decide +kernel)⟩
theorem lwd_780 : lwP (Cond.selects RX1 yX1_chanceAbove yX1_chanceAbove) := ⟨lwt_3 (i := 228) (by decide +kernel), good_of_word (by decide +kernel)⟩
theorem lwd_781 : lwP (Cond.instanceMethod yX1_chanceAbove) := ⟨lwt_3 (i := 227) (by decide +kernel), good_of_word (by decide +kernel)⟩
theorem lwd_782 : lwP (Cond.methodLink RX8 253 yX1_chanceAbove) := ⟨lwt_3 (i := 226) (by decide +kernel), good_of_word (by decide +kernel)⟩
theorem lwd_783 : lwP (Cond.constantLong RX8 257 (10)) := ⟨lwt_3 (i := 236) (by decide +kernel), good_of_word (by decide +kernel)⟩
theorem lwd_784 : lwP (Cond.constantLong RX8 251 (-1)) := ⟨lwt_3 (i := 225) (by decide +kernel), good_of_word (by decide +kernel)⟩
theorem lwd_785 : lwP (Cond.methodLink RX1 120 yJ13_bitCount_95d88) := ⟨lwt_3 (i := 231) (by decide +kernel), good_of_word (by decide +kernel)⟩
theorem lwd_786 : lwP (Cond.methodLink RX1 116 yX7_about) := ⟨lwt_3 (i := 230) (by decide +kernel), good_of_word (by decide +kernel)⟩
theorem lwd_787 : lwP (Cond.methodLink RX1 126 Lib.Math.min.name) := ⟨lwt_3 (i := 232) (by decide +kernel), good_of_word (by decide +kernel)⟩
theorem lwd_788 : lwP (Cond.code yX1_chanceAbove cX1_chanceAbove 13 (some .long)) := ⟨lwt_3 (i := 229) (by decide +kernel), good_of_word (by decide +kernel)⟩
theorem lwd_789 : lwP (Cond.code yX8_greatestShared cX8_greatestShared 11 (some .long)) := ⟨lwt_4 (i := 1) (by decide +kernel), good_of_word (by decide +kernel)⟩
theorem lwd_790 : lwP (Cond.static yX8_greatestShared) := ⟨lwt_4 (i := 0) (by decide +kernel), good_of_word (by decide +kernel)⟩
theorem lwd_791 : lwP (Cond.methodLink RX8 269 yX8_greatestShared) := ⟨lwt_3 (i := 239) (by decide +kernel), good_of_word (by decide +kernel)⟩
theorem lwd_792 : lwP (Cond.methodLink RX8 265 yX8_power) := ⟨lwt_3 (i := 238) (by decide +kernel), good_of_word (by decide +kernel)⟩
theorem lwd_793 : lwP (Cond.methodLink RX8 259 yJ13_bitCount_95d88) := ⟨lwt_3 (i := 237) (by decide +kernel), good_of_word (by decide +kernel)⟩
theorem lwd_794 : lwP (Cond.code yX8_power cX8_power 6 (some .long)) := ⟨lwt_3 (i := 235) (by decide +kernel), good_of_word (by decide +kernel)⟩
theorem lwd_795 : lwP (Cond.static yX8_power) := ⟨lwt_3 (i := 234) (by decide +kernel), good_of_word (by decide +kernel)⟩
theorem lwd_796 : lwP (Cond.methodLink RL 110 yX9_chance) := ⟨lwt_5 (i := 78) (by decide +kernel), good_of_word (by decide +kernel)⟩
theorem lwd_797 : lwP (Cond.instanceMethod yX9_chance) := ⟨lwt_5 (i := 79) (by decide +kernel), good_of_word (by decide +kernel)⟩
theorem lwd_798 : lwP (Cond.selects RX9 yX9_chance yX9_chance) := ⟨lwt_5 (i := 80) (by decide +kernel), good_of_word (by decide +kernel)⟩
theorem lwd_799 : lwP (Cond.code yX9_chance cX9_chance 16 (some .long)) := ⟨lwt_5 (i := 81) (by decide +kernel), good_of_word (by decide +kernel)⟩
theorem lwd_800 : lwP (Cond.constantLong RX9 187 (10)) := ⟨lwt_5 (i := 83) (by decide +kernel), good_of_word (by decide +kernel)⟩
theorem lwd_801 : lwP (Cond.constantLong RX9 185 (-1)) := ⟨lwt_5 (i := 82) (by decide +kernel), good_of_word (by decide +kernel)⟩
theorem lwd_802 : lwP (Cond.methodLink RL 111 yX8_year) := ⟨lwt_4 (i := 2) (by decide +kernel), good_of_word (by decide +kernel)⟩
theorem lwd_803 : lwP (Cond.instanceMethod yX8_year) := ⟨lwt_4 (i := 3) (by decide +kernel), good_of_word (by decide +kernel)⟩
theorem lwd_804 : lwP (Cond.selects RX8 yX8_year yX8_year) := ⟨lwt_4 (i := 4) (by decide +kernel), good_of_word (by decide +kernel)⟩
theorem lwd_805 : lwP (Cond.code yX8_year cX8_year 7 (some .int)) := ⟨lwt_4 (i := 5) (by decide +kernel), good_of_word (by decide +kernel)⟩
theorem lwd_806 : lwP (Cond.methodLink RX8 273 yX5_become) := ⟨lwt_4 (i := 6) (by decide +kernel), good_of_word (by decide +kernel)⟩
theorem lwd_807 : lwP (Cond.constantLong RX8 280 (65521)) := ⟨lwt_4 (i := 9) (by decide +kernel), good_of_word (by decide +kernel)⟩
theorem lwd_808 : lwP (Cond.constantLong RX8 278 (6151)) := ⟨lwt_4 (i := 8) (by decide +kernel), good_of_word (by decide +kernel)⟩
theorem lwd_809 : lwP (Cond.constantLong RX8 276 (7919)) := ⟨lwt_4 (i := 7) (by decide +kernel), good_of_word (by decide +kernel)⟩
theorem lwd_810 : lwP (Cond.methodLink RX1 136 yX7_canFlip) := ⟨lwt_4 (i := 14) (by decide +kernel), good_of_word (by decide +kernel)⟩
theorem lwd_811 : lwP (Cond.code yX1_flipDrawn cX1_flipDrawn 6 none) := ⟨lwt_4 (i := 13) (by decide +kernel), good_of_word (by decide +kernel)⟩
theorem lwd_812 : lwP (Cond.selects RX1 yX1_flipDrawn yX1_flipDrawn) := ⟨lwt_4 (i := 12) (by decide +kernel), good_of_word (by decide +kernel)⟩
theorem lwd_813 : lwP (Cond.instanceMethod yX1_flipDrawn) := ⟨lwt_4 (i := 11) (by decide +kernel), good_of_word (by decide +kernel)⟩
theorem lwd_814 : lwP (Cond.methodLink RX8 282 yX1_flipDrawn) := ⟨lwt_4 (i := 10) (by decide +kernel), good_of_word (by decide +kernel)⟩
theorem lwd_815 : lwP (Cond.methodLink RX1 140 yX7_flip) := ⟨lwt_4 (i := 15) (by decide +kernel), good_of_word (by decide +kernel)⟩
theorem lwd_816 : lwP (Cond.methodLink RL 114 yX9_year) := ⟨lwt_5 (i := 84) (by decide +kernel), good_of_word (by decide +kernel)⟩
theorem lwd_817 : lwP (Cond.instanceMethod yX9_year) := ⟨lwt_5 (i := 85) (by decide +kernel), good_of_word (by decide +kernel)⟩
theorem lwd_818 : lwP (Cond.selects RX9 yX9_year yX9_year) := ⟨lwt_5 (i := 86) (by decide +kernel), good_of_word (by decide +kernel)⟩
theorem lwd_819 : lwP (Cond.code yX9_year cX9_year 13 (some .int)) := ⟨lwt_5 (i := 87) (by decide +kernel), good_of_word (by decide +kernel)⟩
theorem lwd_820 : lwP (Cond.constantLong RX9 193 (65521)) := ⟨lwt_5 (i := 90) (by decide +kernel), good_of_word (by decide +kernel)⟩
theorem lwd_821 : lwP (Cond.constantLong RX9 191 (6151)) := ⟨lwt_5 (i := 89) (by decide +kernel), good_of_word (by decide +kernel)⟩
theorem lwd_822 : lwP (Cond.constantLong RX9 189 (7919)) := ⟨lwt_5 (i := 88) (by decide +kernel), good_of_word (by decide +kernel)⟩
theorem lwd_823 : lwP (Cond.code yX9_lodgings cX9_lodgings 3 (some .int)) := ⟨lwt_5 (i := 94) (by decide +kernel), good_of_word (by decide +kernel)⟩
theorem lwd_824 : lwP (Cond.selects RX9 yX9_lodgings yX9_lodgings) := ⟨lwt_p (i := 51) (by decide +kernel), good_of_word (by decide +kernel)⟩
theorem lwd_825 : lwP (Cond.instanceMethod yX9_lodgings) := ⟨lwt_5 (i := 93) (by decide +kernel), good_of_word (by decide +kernel)⟩
theorem lwd_826 : lwP (Cond.methodLink RX9 195 yX9_lodgings) := ⟨lwt_5 (i := 91) (by decide +kernel), good_of_word (by decide +kernel)⟩
theorem lwd_827 : lwP (Cond.methodLink RL 115 yX8_keep) := ⟨lwt_4 (i := 16) (by decide +kernel), good_of_word (by decide +kernel)⟩
theorem lwd_828 : lwP (Cond.instanceMethod yX8_keep) := ⟨lwt_4 (i := 17) (by decide +kernel), good_of_word (by decide +kernel)⟩
theorem lwd_829 : lwP (Cond.selects RX8 yX8_keep yX8_keep) := ⟨lwt_4 (i := 18) (by decide +kernel), good_of_word (by decide +kernel)⟩
theorem lwd_830 : lwP (Cond.code yX8_keep cX8_keep 1 (some .int)) := ⟨lwt_4 (i := 19) (by decide +kernel), good_of_word (by decide +kernel)⟩
theorem lwd_831 : lwP (Cond.methodLink RL 118 yX9_keep) := ⟨lwt_5 (i := 95) (by decide +kernel), good_of_word (by decide +kernel)⟩
theorem lwd_832 : lwP (Cond.instanceMethod yX9_keep) := ⟨lwt_5 (i := 96) (by decide +kernel), good_of_word (by decide +kernel)⟩
theorem lwd_833 : lwP (Cond.selects RX9 yX9_keep yX9_keep) := ⟨lwt_5 (i := 97) (by decide +kernel), good_of_word (by decide +kernel)⟩
theorem lwd_834 : lwP (Cond.code yX9_keep cX9_keep 2 (some .int)) := ⟨lwt_5 (i := 98) (by decide +kernel), good_of_word (by decide +kernel)⟩
theorem lwd_835 : lwP (Cond.methodLink RL 119 yX8_back) := ⟨lwt_4 (i := 20) (by decide +kernel), good_of_word (by decide +kernel)⟩
theorem lwd_836 : lwP (Cond.instanceMethod yX8_back) := ⟨lwt_4 (i := 21) (by decide +kernel), good_of_word (by decide +kernel)⟩
theorem lwd_837 : lwP (Cond.selects RX8 yX8_back yX8_back) := ⟨lwt_4 (i := 22) (by decide +kernel), good_of_word (by decide +kernel)⟩
theorem lwd_838 : lwP (Cond.code yX8_back cX8_back 1 (some .int)) := ⟨lwt_4 (i := 23) (by decide +kernel), good_of_word (by decide +kernel)⟩
theorem lwd_839 : lwP (Cond.methodLink RL 122 yX9_back) := ⟨lwt_5 (i := 99) (by decide +kernel), good_of_word (by decide +kernel)⟩
theorem lwd_840 : lwP (Cond.instanceMethod yX9_back) := ⟨lwt_5 (i := 100) (by decide +kernel), good_of_word (by decide +kernel)⟩
theorem lwd_841 : lwP (Cond.selects RX9 yX9_back yX9_back) := ⟨lwt_5 (i := 101) (by decide +kernel), good_of_word (by decide +kernel)⟩
theorem lwd_842 : lwP (Cond.code yX9_back cX9_back 2 (some .int)) := ⟨lwt_5 (i := 102) (by decide +kernel), good_of_word (by decide +kernel)⟩
theorem lwd_843 : lwP (Cond.methodLink RL 123 yX8_count) := ⟨lwt_4 (i := 24) (by decide +kernel), good_of_word (by decide +kernel)⟩
theorem lwd_844 : lwP (Cond.instanceMethod yX8_count) := ⟨lwt_4 (i := 25) (by decide +kernel), good_of_word (by decide +kernel)⟩
theorem lwd_845 : lwP (Cond.selects RX8 yX8_count yX8_count) := ⟨lwt_4 (i := 26) (by decide +kernel), good_of_word (by decide +kernel)⟩
theorem lwd_846 : lwP (Cond.code yX8_count cX8_count 2 (some .int)) := ⟨lwt_4 (i := 27) (by decide +kernel), good_of_word (by decide +kernel)⟩
theorem lwd_847 : lwP (Cond.methodLink RX8 288 yX7_total) := ⟨lwt_4 (i := 28) (by decide +kernel), good_of_word (by decide +kernel)⟩
theorem lwd_848 : lwP (Cond.methodLink RL 126 yX9_count) := ⟨lwt_5 (i := 103) (by decide +kernel), good_of_word (by decide +kernel)⟩
theorem lwd_849 : lwP (Cond.instanceMethod yX9_count) := ⟨lwt_5 (i := 104) (by decide +kernel), good_of_word (by decide +kernel)⟩
theorem lwd_850 : lwP (Cond.selects RX9 yX9_count yX9_count) := ⟨lwt_5 (i := 105) (by decide +kernel), good_of_word (by decide +kernel)⟩
theorem lwd_851 : lwP (Cond.code yX9_count cX9_count 2 (some .int)) := ⟨lwt_5 (i := 106) (by decide +kernel), good_of_word (by decide +kernel)⟩
