/-! ===== the law's words: each word of the methods' lists stands in the tables; each list by its structure ===== -/
def wdG (w : Cond) : Prop := w ∈ lw_tbl ∧ ((w.onTables && w.keeps) = true ∨ ∃ ty, w = .arrayClass ty)
theorem gdn : GoodIn lw_tbl [] := fun w h => absurd h List.not_mem_nil
theorem gdc {w : Cond} {ws : List Cond} (h : wdG w) (h2 : GoodIn lw_tbl ws) : GoodIn lw_tbl (w :: ws) := fun x hx => (List.mem_cons.mp hx).elim (fun e => e ▸ h) (h2 x)
theorem gdk {a b : List Cond} (h : a = b) (hb : GoodIn lw_tbl b) : GoodIn lw_tbl a := h ▸ hb
theorem tinP : ∀ w ∈ k2_sels lw_privs, w ∈ lw_tbl := fun w h => List.mem_append_left _ h
theorem tin1 : ∀ w ∈ tables_1_1, w ∈ lw_tbl := fun w h => List.mem_append_right _ (List.mem_append_left _ h)
theorem tin2 : ∀ w ∈ tables_1_2, w ∈ lw_tbl := fun w h => List.mem_append_right _ (List.mem_append_right _ (List.mem_append_left _ h))
theorem tin3 : ∀ w ∈ tables_1_3, w ∈ lw_tbl := fun w h => List.mem_append_right _ (List.mem_append_right _ (List.mem_append_right _ (List.mem_append_left _ h)))
theorem tin4 : ∀ w ∈ tables_1_4, w ∈ lw_tbl := fun w h => List.mem_append_right _ (List.mem_append_right _ (List.mem_append_right _ (List.mem_append_right _ (List.mem_append_left _ h))))
theorem tin5 : ∀ w ∈ tables_1_5, w ∈ lw_tbl := fun w h => List.mem_append_right _ (List.mem_append_right _ (List.mem_append_right _ (List.mem_append_right _ (List.mem_append_right _ h))))
theorem wd_0 : wdG (Cond.code yX8_init cX8_init 1 none) := ⟨tin1 _ (List.mem_of_getElem? (i := 19) rfl), good_of_word rfl⟩
theorem wd_1 : wdG (Cond.classLink RX8 44 RX1) := ⟨tin1 _ (List.mem_of_getElem? (i := 210) rfl), good_of_word rfl⟩
theorem wd_2 : wdG (Cond.fieldLink RX8 40 "InertialReference" "estimator" "LInertialReference$Estimator;") := ⟨tin1 _ (List.mem_of_getElem? (i := 233) rfl), good_of_word rfl⟩
theorem wd_3 : wdG (Cond.initialized RX4) := ⟨tin1 _ (List.mem_of_getElem? (i := 7) rfl), good_of_word rfl⟩
theorem wd_4 : wdG (Cond.instantiable RX4 12) := ⟨tin1 _ (List.mem_of_getElem? (i := 146) rfl), good_of_word rfl⟩
theorem wd_5 : wdG (Cond.classLink RX8 37 RX4) := ⟨tin1 _ (List.mem_of_getElem? (i := 145) rfl), good_of_word rfl⟩
theorem wd_6 : wdG (Cond.fieldLink RX8 33 "InertialReference" "table" "LInertialReference$CompensationTable;") := ⟨tin1 _ (List.mem_of_getElem? (i := 232) rfl), good_of_word rfl⟩
theorem wd_7 : wdG (Cond.initialized RX3) := ⟨tin1 _ (List.mem_of_getElem? (i := 6) rfl), good_of_word rfl⟩
theorem wd_8 : wdG (Cond.instantiable RX3 3) := ⟨tin1 _ (List.mem_of_getElem? (i := 128) rfl), good_of_word rfl⟩
theorem wd_9 : wdG (Cond.classLink RX8 30 RX3) := ⟨tin1 _ (List.mem_of_getElem? (i := 127) rfl), good_of_word rfl⟩
theorem wd_10 : wdG (Cond.fieldLink RX8 26 "InertialReference" "sensors" "LInertialReference$Sensors;") := ⟨tin1 _ (List.mem_of_getElem? (i := 231) rfl), good_of_word rfl⟩
theorem wd_11 : wdG (Cond.initialized RX7) := ⟨tin1 _ (List.mem_of_getElem? (i := 5) rfl), good_of_word rfl⟩
theorem wd_12 : wdG (Cond.instantiable RX7 10) := ⟨tin1 _ (List.mem_of_getElem? (i := 87) rfl), good_of_word rfl⟩
theorem wd_13 : wdG (Cond.classLink RX8 23 RX7) := ⟨tin1 _ (List.mem_of_getElem? (i := 86) rfl), good_of_word rfl⟩
theorem wd_14 : wdG (Cond.fieldLink RX8 19 "InertialReference" "script" "LInertialReference$Script;") := ⟨tin1 _ (List.mem_of_getElem? (i := 230) rfl), good_of_word rfl⟩
theorem wd_15 : wdG (Cond.initialized RX6) := ⟨tin1 _ (List.mem_of_getElem? (i := 4) rfl), good_of_word rfl⟩
theorem wd_16 : wdG (Cond.instantiable RX6 5) := ⟨tin1 _ (List.mem_of_getElem? (i := 64) rfl), good_of_word rfl⟩
theorem wd_17 : wdG (Cond.classLink RX8 16 RX6) := ⟨tin1 _ (List.mem_of_getElem? (i := 63) rfl), good_of_word rfl⟩
theorem wd_18 : wdG (Cond.fieldLink RX8 10 "InertialReference" "trueAttitude" "LInertialReference$Attitude;") := ⟨tin1 _ (List.mem_of_getElem? (i := 229) rfl), good_of_word rfl⟩
theorem wd_19 : wdG (Cond.initialized RX0) := ⟨tin1 _ (List.mem_of_getElem? (i := 2) rfl), good_of_word rfl⟩
theorem wd_20 : wdG (Cond.instantiable RX0 5) := ⟨tin1 _ (List.mem_of_getElem? (i := 24) rfl), good_of_word rfl⟩
theorem wd_21 : wdG (Cond.classLink RX8 7 RX0) := ⟨tin1 _ (List.mem_of_getElem? (i := 23) rfl), good_of_word rfl⟩
theorem wd_22 : wdG (Cond.code objectInit ⟨#[0xb1]⟩ 1 none) := ⟨tin1 _ (List.mem_of_getElem? (i := 22) rfl), good_of_word rfl⟩
theorem wd_23 : wdG (Cond.instanceMethod objectInit) := ⟨tin1 _ (List.mem_of_getElem? (i := 21) rfl), good_of_word rfl⟩
theorem wd_24 : wdG (Cond.methodLink RX8 1 objectInit) := ⟨tin1 _ (List.mem_of_getElem? (i := 20) rfl), good_of_word rfl⟩
theorem wd_25 : wdG (Cond.constantLong RX0 38 (268435456)) := ⟨tin1 _ (List.mem_of_getElem? (i := 38) rfl), good_of_word rfl⟩
theorem wd_26 : wdG (Cond.code yX0_align cX0_align 1 none) := ⟨tin1 _ (List.mem_of_getElem? (i := 34) rfl), good_of_word rfl⟩
theorem wd_27 : wdG (Cond.selects RX0 yX0_align yX0_align) := ⟨tin1 _ (List.mem_of_getElem? (i := 33) rfl), good_of_word rfl⟩
theorem wd_28 : wdG (Cond.instanceMethod yX0_align) := ⟨tin1 _ (List.mem_of_getElem? (i := 32) rfl), good_of_word rfl⟩
theorem wd_29 : wdG (Cond.methodLink RX0 29 yX0_align) := ⟨tin1 _ (List.mem_of_getElem? (i := 31) rfl), good_of_word rfl⟩
theorem wd_30 : wdG (Cond.fieldLink RX0 26 "InertialReference$Attitude" "matrix" "[[J") := ⟨tin1 _ (List.mem_of_getElem? (i := 50) rfl), good_of_word rfl⟩
theorem wd_31 : wdG (Cond.classLink RX0 24 "[[J") := ⟨tin1 _ (List.mem_of_getElem? (i := 29) rfl), good_of_word rfl⟩
theorem wd_32 : wdG (Cond.fieldLink RX0 21 "InertialReference$Attitude" "product" "[J") := ⟨tin1 _ (List.mem_of_getElem? (i := 49) rfl), good_of_word rfl⟩
theorem wd_33 : wdG (Cond.fieldLink RX0 18 "InertialReference$Attitude" "inverse" "[J") := ⟨tin1 _ (List.mem_of_getElem? (i := 48) rfl), good_of_word rfl⟩
theorem wd_34 : wdG (Cond.fieldLink RX0 15 "InertialReference$Attitude" "step" "[J") := ⟨tin1 _ (List.mem_of_getElem? (i := 47) rfl), good_of_word rfl⟩
theorem wd_35 : wdG (Cond.fieldLink RX0 9 "InertialReference$Attitude" "parts" "[J") := ⟨tin1 _ (List.mem_of_getElem? (i := 44) rfl), good_of_word rfl⟩
theorem wd_36 : wdG (Cond.methodLink RX0 3 objectInit) := ⟨tin1 _ (List.mem_of_getElem? (i := 28) rfl), good_of_word rfl⟩
theorem wd_37 : wdG (Cond.code yX0_init cX0_init 1 none) := ⟨tin1 _ (List.mem_of_getElem? (i := 27) rfl), good_of_word rfl⟩
theorem wd_38 : wdG (Cond.instanceMethod yX0_init) := ⟨tin1 _ (List.mem_of_getElem? (i := 26) rfl), good_of_word rfl⟩
theorem wd_39 : wdG (Cond.methodLink RX8 9 yX0_init) := ⟨tin1 _ (List.mem_of_getElem? (i := 25) rfl), good_of_word rfl⟩
theorem wd_40 : wdG (Cond.fieldLink RX8 64 "InertialReference" "between" "[J") := ⟨tin1 _ (List.mem_of_getElem? (i := 239) rfl), good_of_word rfl⟩
theorem wd_41 : wdG (Cond.fieldLink RX8 61 "InertialReference" "estimatedUp" "[J") := ⟨tin1 _ (List.mem_of_getElem? (i := 238) rfl), good_of_word rfl⟩
theorem wd_42 : wdG (Cond.fieldLink RX8 58 "InertialReference" "trueUp" "[J") := ⟨tin1 _ (List.mem_of_getElem? (i := 237) rfl), good_of_word rfl⟩
theorem wd_43 : wdG (Cond.fieldLink RX8 55 "InertialReference" "rates" "[J") := ⟨tin1 _ (List.mem_of_getElem? (i := 236) rfl), good_of_word rfl⟩
theorem wd_44 : wdG (Cond.fieldLink RX8 51 "InertialReference" "earthRate" "[J") := ⟨tin1 _ (List.mem_of_getElem? (i := 235) rfl), good_of_word rfl⟩
theorem wd_45 : wdG (Cond.arrayClass .long) := ⟨tin1 _ (List.mem_of_getElem? (i := 62) rfl), good_of_word rfl⟩
theorem wd_46 : wdG (Cond.fieldLink RX8 47 "InertialReference" "shelf" "LInertialReference$AttitudeShelf;") := ⟨tin1 _ (List.mem_of_getElem? (i := 234) rfl), good_of_word rfl⟩
theorem wd_47 : wdG (Cond.initialized RX1) := ⟨tin1 _ (List.mem_of_getElem? (i := 9) rfl), good_of_word rfl⟩
theorem wd_48 : wdG (Cond.instantiable RX1 4) := ⟨tin1 _ (List.mem_of_getElem? (i := 211) rfl), good_of_word rfl⟩
theorem wd_49 : wdG (Cond.fieldLink RX7 18 "InertialReference$Sensors" "noise" "[I") := ⟨tin1 _ (List.mem_of_getElem? (i := 94) rfl), good_of_word rfl⟩
theorem wd_50 : wdG (Cond.fieldLink RX7 15 "InertialReference$Sensors" "scale" "[I") := ⟨tin1 _ (List.mem_of_getElem? (i := 93) rfl), good_of_word rfl⟩
theorem wd_51 : wdG (Cond.fieldLink RX7 9 "InertialReference$Sensors" "bias" "[I") := ⟨tin1 _ (List.mem_of_getElem? (i := 92) rfl), good_of_word rfl⟩
theorem wd_52 : wdG (Cond.methodLink RX7 3 objectInit) := ⟨tin1 _ (List.mem_of_getElem? (i := 91) rfl), good_of_word rfl⟩
theorem wd_53 : wdG (Cond.code yX7_init cX7_init 1 none) := ⟨tin1 _ (List.mem_of_getElem? (i := 90) rfl), good_of_word rfl⟩
theorem wd_54 : wdG (Cond.instanceMethod yX7_init) := ⟨tin1 _ (List.mem_of_getElem? (i := 89) rfl), good_of_word rfl⟩
theorem wd_55 : wdG (Cond.methodLink RX8 25 yX7_init) := ⟨tin1 _ (List.mem_of_getElem? (i := 88) rfl), good_of_word rfl⟩
theorem wd_56 : wdG (Cond.fieldLink RX6 21 "InertialReference$Script" "z" "[I") := ⟨tin1 _ (List.mem_of_getElem? (i := 72) rfl), good_of_word rfl⟩
theorem wd_57 : wdG (Cond.fieldLink RX6 18 "InertialReference$Script" "y" "[I") := ⟨tin1 _ (List.mem_of_getElem? (i := 71) rfl), good_of_word rfl⟩
theorem wd_58 : wdG (Cond.fieldLink RX6 15 "InertialReference$Script" "x" "[I") := ⟨tin1 _ (List.mem_of_getElem? (i := 70) rfl), good_of_word rfl⟩
theorem wd_59 : wdG (Cond.fieldLink RX6 11 "InertialReference$Script" "ticks" "[I") := ⟨tin1 _ (List.mem_of_getElem? (i := 69) rfl), good_of_word rfl⟩
theorem wd_60 : wdG (Cond.arrayClass .int) := ⟨tin1 _ (List.mem_of_getElem? (i := 85) rfl), good_of_word rfl⟩
theorem wd_61 : wdG (Cond.methodLink RX6 3 objectInit) := ⟨tin1 _ (List.mem_of_getElem? (i := 68) rfl), good_of_word rfl⟩
theorem wd_62 : wdG (Cond.code yX6_init cX6_init 1 none) := ⟨tin1 _ (List.mem_of_getElem? (i := 67) rfl), good_of_word rfl⟩
theorem wd_63 : wdG (Cond.instanceMethod yX6_init) := ⟨tin1 _ (List.mem_of_getElem? (i := 66) rfl), good_of_word rfl⟩
theorem wd_64 : wdG (Cond.constantLong RX0 68 (2)) := ⟨tin1 _ (List.mem_of_getElem? (i := 43) rfl), good_of_word rfl⟩
theorem wd_65 : wdG (Cond.code yX0_makeMatrix cX0_makeMatrix 9 none) := ⟨tin1 _ (List.mem_of_getElem? (i := 42) rfl), good_of_word rfl⟩
theorem wd_66 : wdG (Cond.selects RX0 yX0_makeMatrix yX0_makeMatrix) := ⟨tinP _ (List.mem_of_getElem? (i := 0) rfl), good_of_word rfl⟩
theorem wd_67 : wdG (Cond.instanceMethod yX0_makeMatrix) := ⟨tin1 _ (List.mem_of_getElem? (i := 41) rfl), good_of_word rfl⟩
theorem wd_68 : wdG (Cond.methodLink RX0 40 yX0_makeMatrix) := ⟨tin1 _ (List.mem_of_getElem? (i := 39) rfl), good_of_word rfl⟩
theorem wd_69 : wdG (Cond.code yJ7_fill_d0a16 cJ7_fill_d0a16 5 none) := ⟨tin1 _ (List.mem_of_getElem? (i := 37) rfl), good_of_word rfl⟩
theorem wd_70 : wdG (Cond.initialized RJ7) := ⟨tin1 _ (List.mem_of_getElem? (i := 3) rfl), good_of_word rfl⟩
theorem wd_71 : wdG (Cond.static yJ7_fill_d0a16) := ⟨tin1 _ (List.mem_of_getElem? (i := 36) rfl), good_of_word rfl⟩
theorem wd_72 : wdG (Cond.methodLink RX0 32 yJ7_fill_d0a16) := ⟨tin1 _ (List.mem_of_getElem? (i := 35) rfl), good_of_word rfl⟩
theorem wd_73 : wdG (Cond.fieldLink RX4 29 "InertialReference$Estimator" "filtered" "[J") := ⟨tin1 _ (List.mem_of_getElem? (i := 176) rfl), good_of_word rfl⟩
theorem wd_74 : wdG (Cond.fieldLink RX4 25 "InertialReference$Estimator" "bias" "[J") := ⟨tin1 _ (List.mem_of_getElem? (i := 174) rfl), good_of_word rfl⟩
theorem wd_75 : wdG (Cond.fieldLink RX4 21 "InertialReference$Estimator" "calibration" "LInertialReference$Calibration;") := ⟨tin1 _ (List.mem_of_getElem? (i := 172) rfl), good_of_word rfl⟩
theorem wd_76 : wdG (Cond.initialized RX2) := ⟨tin1 _ (List.mem_of_getElem? (i := 8) rfl), good_of_word rfl⟩
theorem wd_77 : wdG (Cond.instantiable RX2 3) := ⟨tin1 _ (List.mem_of_getElem? (i := 154) rfl), good_of_word rfl⟩
theorem wd_78 : wdG (Cond.classLink RX4 18 RX2) := ⟨tin1 _ (List.mem_of_getElem? (i := 153) rfl), good_of_word rfl⟩
theorem wd_79 : wdG (Cond.fieldLink RX4 12 "InertialReference$Estimator" "attitude" "LInertialReference$Attitude;") := ⟨tin1 _ (List.mem_of_getElem? (i := 170) rfl), good_of_word rfl⟩
theorem wd_80 : wdG (Cond.classLink RX4 9 RX0) := ⟨tin1 _ (List.mem_of_getElem? (i := 151) rfl), good_of_word rfl⟩
theorem wd_81 : wdG (Cond.methodLink RX4 3 objectInit) := ⟨tin1 _ (List.mem_of_getElem? (i := 150) rfl), good_of_word rfl⟩
theorem wd_82 : wdG (Cond.code yX4_init cX4_init 1 none) := ⟨tin1 _ (List.mem_of_getElem? (i := 149) rfl), good_of_word rfl⟩
theorem wd_83 : wdG (Cond.instanceMethod yX4_init) := ⟨tin1 _ (List.mem_of_getElem? (i := 148) rfl), good_of_word rfl⟩
theorem wd_84 : wdG (Cond.methodLink RX8 39 yX4_init) := ⟨tin1 _ (List.mem_of_getElem? (i := 147) rfl), good_of_word rfl⟩
theorem wd_85 : wdG (Cond.fieldLink RX3 15 "InertialReference$CompensationTable" "known" "[Z") := ⟨tin1 _ (List.mem_of_getElem? (i := 134) rfl), good_of_word rfl⟩
theorem wd_86 : wdG (Cond.arrayClass .boolean) := ⟨tin1 _ (List.mem_of_getElem? (i := 144) rfl), good_of_word rfl⟩
theorem wd_87 : wdG (Cond.fieldLink RX3 11 "InertialReference$CompensationTable" "values" "[I") := ⟨tin1 _ (List.mem_of_getElem? (i := 133) rfl), good_of_word rfl⟩
theorem wd_88 : wdG (Cond.methodLink RX3 3 objectInit) := ⟨tin1 _ (List.mem_of_getElem? (i := 132) rfl), good_of_word rfl⟩
theorem wd_89 : wdG (Cond.code yX3_init cX3_init 1 none) := ⟨tin1 _ (List.mem_of_getElem? (i := 131) rfl), good_of_word rfl⟩
theorem wd_90 : wdG (Cond.instanceMethod yX3_init) := ⟨tin1 _ (List.mem_of_getElem? (i := 130) rfl), good_of_word rfl⟩
theorem wd_91 : wdG (Cond.fieldLink RX7 37 "InertialReference$Sensors" "temperature" "I") := ⟨tin1 _ (List.mem_of_getElem? (i := 104) rfl), good_of_word rfl⟩
theorem wd_92 : wdG (Cond.fieldLink RX7 34 "InertialReference$Sensors" "inBody" "[J") := ⟨tin1 _ (List.mem_of_getElem? (i := 103) rfl), good_of_word rfl⟩
theorem wd_93 : wdG (Cond.fieldLink RX7 31 "InertialReference$Sensors" "accelerometerReadings" "[J") := ⟨tin1 _ (List.mem_of_getElem? (i := 100) rfl), good_of_word rfl⟩
theorem wd_94 : wdG (Cond.fieldLink RX7 27 "InertialReference$Sensors" "gyroReadings" "[J") := ⟨tin1 _ (List.mem_of_getElem? (i := 97) rfl), good_of_word rfl⟩
theorem wd_95 : wdG (Cond.fieldLink RX7 24 "InertialReference$Sensors" "accelerometerBias" "[I") := ⟨tin1 _ (List.mem_of_getElem? (i := 96) rfl), good_of_word rfl⟩
theorem wd_96 : wdG (Cond.fieldLink RX7 21 "InertialReference$Sensors" "slope" "[I") := ⟨tin1 _ (List.mem_of_getElem? (i := 95) rfl), good_of_word rfl⟩
theorem wd_97 : wdG (Cond.fieldLink RX1 19 "InertialReference$AttitudeShelf" "picked" "[J") := ⟨tin1 _ (List.mem_of_getElem? (i := 218) rfl), good_of_word rfl⟩
theorem wd_98 : wdG (Cond.fieldLink RX1 15 "InertialReference$AttitudeShelf" "stored" "[J") := ⟨tin1 _ (List.mem_of_getElem? (i := 217) rfl), good_of_word rfl⟩
theorem wd_99 : wdG (Cond.fieldLink RX1 11 "InertialReference$AttitudeShelf" "numbers" "[I") := ⟨tin1 _ (List.mem_of_getElem? (i := 216) rfl), good_of_word rfl⟩
theorem wd_100 : wdG (Cond.methodLink RX1 3 objectInit) := ⟨tin1 _ (List.mem_of_getElem? (i := 215) rfl), good_of_word rfl⟩
theorem wd_101 : wdG (Cond.code yX1_init cX1_init 1 none) := ⟨tin1 _ (List.mem_of_getElem? (i := 214) rfl), good_of_word rfl⟩
theorem wd_102 : wdG (Cond.instanceMethod yX1_init) := ⟨tin1 _ (List.mem_of_getElem? (i := 213) rfl), good_of_word rfl⟩
theorem wd_103 : wdG (Cond.fieldLink RX2 9 "InertialReference$Calibration" "sums" "[J") := ⟨tin1 _ (List.mem_of_getElem? (i := 159) rfl), good_of_word rfl⟩
theorem wd_104 : wdG (Cond.methodLink RX2 3 objectInit) := ⟨tin1 _ (List.mem_of_getElem? (i := 158) rfl), good_of_word rfl⟩
theorem wd_105 : wdG (Cond.code yX2_init cX2_init 1 none) := ⟨tin1 _ (List.mem_of_getElem? (i := 157) rfl), good_of_word rfl⟩
theorem wd_106 : wdG (Cond.instanceMethod yX2_init) := ⟨tin1 _ (List.mem_of_getElem? (i := 156) rfl), good_of_word rfl⟩
theorem wd_107 : wdG (Cond.methodLink RX4 11 yX0_init) := ⟨tin1 _ (List.mem_of_getElem? (i := 152) rfl), good_of_word rfl⟩
theorem wd_108 : wdG (Cond.fieldLink RX4 47 "InertialReference$Estimator" "method" "I") := ⟨tin1 _ (List.mem_of_getElem? (i := 182) rfl), good_of_word rfl⟩
theorem wd_109 : wdG (Cond.fieldLink RX4 44 "InertialReference$Estimator" "product" "[J") := ⟨tin1 _ (List.mem_of_getElem? (i := 181) rfl), good_of_word rfl⟩
theorem wd_110 : wdG (Cond.fieldLink RX4 41 "InertialReference$Estimator" "inBody" "[J") := ⟨tin1 _ (List.mem_of_getElem? (i := 180) rfl), good_of_word rfl⟩
theorem wd_111 : wdG (Cond.fieldLink RX4 38 "InertialReference$Estimator" "turn" "[J") := ⟨tin1 _ (List.mem_of_getElem? (i := 179) rfl), good_of_word rfl⟩
theorem wd_112 : wdG (Cond.fieldLink RX4 35 "InertialReference$Estimator" "corrected" "[J") := ⟨tin1 _ (List.mem_of_getElem? (i := 178) rfl), good_of_word rfl⟩
theorem wd_113 : wdG (Cond.fieldLink RX4 32 "InertialReference$Estimator" "latestTurn" "[J") := ⟨tin1 _ (List.mem_of_getElem? (i := 177) rfl), good_of_word rfl⟩
theorem wd_114 : wdG (Cond.laysFinal "InertialReference$Attitude" "InertialReference$Attitude" "matrix" "[[J") := ⟨tin1 _ (List.mem_of_getElem? (i := 59) rfl), good_of_word rfl⟩
theorem wd_115 : wdG (Cond.laysFinal "InertialReference$Attitude" "InertialReference$Attitude" "product" "[J") := ⟨tin1 _ (List.mem_of_getElem? (i := 57) rfl), good_of_word rfl⟩
theorem wd_116 : wdG (Cond.laysFinal "InertialReference$Attitude" "InertialReference$Attitude" "inverse" "[J") := ⟨tin1 _ (List.mem_of_getElem? (i := 55) rfl), good_of_word rfl⟩
theorem wd_117 : wdG (Cond.laysFinal "InertialReference$Attitude" "InertialReference$Attitude" "step" "[J") := ⟨tin1 _ (List.mem_of_getElem? (i := 53) rfl), good_of_word rfl⟩
theorem wd_118 : wdG (Cond.laysFinal "InertialReference$Attitude" "InertialReference$Attitude" "parts" "[J") := ⟨tin1 _ (List.mem_of_getElem? (i := 51) rfl), good_of_word rfl⟩
theorem wd_119 : wdG (Cond.lays "InertialReference" "InertialReference" "greatest" "J") := ⟨tin2 _ (List.mem_of_getElem? (i := 29) rfl), good_of_word rfl⟩
theorem wd_120 : wdG (Cond.lays "InertialReference" "InertialReference" "visited" "I") := ⟨tin2 _ (List.mem_of_getElem? (i := 27) rfl), good_of_word rfl⟩
theorem wd_121 : wdG (Cond.lays "InertialReference" "InertialReference" "now" "I") := ⟨tin2 _ (List.mem_of_getElem? (i := 25) rfl), good_of_word rfl⟩
theorem wd_122 : wdG (Cond.laysFinal "InertialReference" "InertialReference" "between" "[J") := ⟨tin2 _ (List.mem_of_getElem? (i := 23) rfl), good_of_word rfl⟩
theorem wd_123 : wdG (Cond.laysFinal "InertialReference" "InertialReference" "estimatedUp" "[J") := ⟨tin2 _ (List.mem_of_getElem? (i := 21) rfl), good_of_word rfl⟩
theorem wd_124 : wdG (Cond.laysFinal "InertialReference" "InertialReference" "trueUp" "[J") := ⟨tin2 _ (List.mem_of_getElem? (i := 19) rfl), good_of_word rfl⟩
theorem wd_125 : wdG (Cond.laysFinal "InertialReference" "InertialReference" "rates" "[J") := ⟨tin2 _ (List.mem_of_getElem? (i := 17) rfl), good_of_word rfl⟩
theorem wd_126 : wdG (Cond.laysFinal "InertialReference" "InertialReference" "earthRate" "[J") := ⟨tin2 _ (List.mem_of_getElem? (i := 15) rfl), good_of_word rfl⟩
theorem wd_127 : wdG (Cond.laysFinal "InertialReference" "InertialReference" "shelf" "LInertialReference$AttitudeShelf;") := ⟨tin2 _ (List.mem_of_getElem? (i := 13) rfl), good_of_word rfl⟩
theorem wd_128 : wdG (Cond.laysFinal "InertialReference" "InertialReference" "estimator" "LInertialReference$Estimator;") := ⟨tin2 _ (List.mem_of_getElem? (i := 11) rfl), good_of_word rfl⟩
theorem wd_129 : wdG (Cond.laysFinal "InertialReference" "InertialReference" "table" "LInertialReference$CompensationTable;") := ⟨tin2 _ (List.mem_of_getElem? (i := 9) rfl), good_of_word rfl⟩
theorem wd_130 : wdG (Cond.laysFinal "InertialReference" "InertialReference" "sensors" "LInertialReference$Sensors;") := ⟨tin2 _ (List.mem_of_getElem? (i := 7) rfl), good_of_word rfl⟩
theorem wd_131 : wdG (Cond.laysFinal "InertialReference" "InertialReference" "script" "LInertialReference$Script;") := ⟨tin2 _ (List.mem_of_getElem? (i := 5) rfl), good_of_word rfl⟩
theorem wd_132 : wdG (Cond.laysFinal "InertialReference" "InertialReference" "trueAttitude" "LInertialReference$Attitude;") := ⟨tin2 _ (List.mem_of_getElem? (i := 3) rfl), good_of_word rfl⟩
theorem wd_133 : wdG (Cond.lays "InertialReference$Script" "InertialReference$Script" "count" "I") := ⟨tin1 _ (List.mem_of_getElem? (i := 82) rfl), good_of_word rfl⟩
theorem wd_134 : wdG (Cond.laysFinal "InertialReference$Script" "InertialReference$Script" "z" "[I") := ⟨tin1 _ (List.mem_of_getElem? (i := 80) rfl), good_of_word rfl⟩
theorem wd_135 : wdG (Cond.laysFinal "InertialReference$Script" "InertialReference$Script" "y" "[I") := ⟨tin1 _ (List.mem_of_getElem? (i := 78) rfl), good_of_word rfl⟩
theorem wd_136 : wdG (Cond.laysFinal "InertialReference$Script" "InertialReference$Script" "x" "[I") := ⟨tin1 _ (List.mem_of_getElem? (i := 76) rfl), good_of_word rfl⟩
theorem wd_137 : wdG (Cond.laysFinal "InertialReference$Script" "InertialReference$Script" "ticks" "[I") := ⟨tin1 _ (List.mem_of_getElem? (i := 74) rfl), good_of_word rfl⟩
theorem wd_138 : wdG (Cond.lays "InertialReference$Sensors" "InertialReference$Sensors" "seed" "I") := ⟨tin1 _ (List.mem_of_getElem? (i := 124) rfl), good_of_word rfl⟩
theorem wd_139 : wdG (Cond.lays "InertialReference$Sensors" "InertialReference$Sensors" "temperature" "I") := ⟨tin1 _ (List.mem_of_getElem? (i := 122) rfl), good_of_word rfl⟩
theorem wd_140 : wdG (Cond.laysFinal "InertialReference$Sensors" "InertialReference$Sensors" "inBody" "[J") := ⟨tin1 _ (List.mem_of_getElem? (i := 120) rfl), good_of_word rfl⟩
theorem wd_141 : wdG (Cond.laysFinal "InertialReference$Sensors" "InertialReference$Sensors" "accelerometerReadings" "[J") := ⟨tin1 _ (List.mem_of_getElem? (i := 118) rfl), good_of_word rfl⟩
theorem wd_142 : wdG (Cond.laysFinal "InertialReference$Sensors" "InertialReference$Sensors" "gyroReadings" "[J") := ⟨tin1 _ (List.mem_of_getElem? (i := 116) rfl), good_of_word rfl⟩
theorem wd_143 : wdG (Cond.laysFinal "InertialReference$Sensors" "InertialReference$Sensors" "accelerometerBias" "[I") := ⟨tin1 _ (List.mem_of_getElem? (i := 114) rfl), good_of_word rfl⟩
theorem wd_144 : wdG (Cond.laysFinal "InertialReference$Sensors" "InertialReference$Sensors" "slope" "[I") := ⟨tin1 _ (List.mem_of_getElem? (i := 112) rfl), good_of_word rfl⟩
theorem wd_145 : wdG (Cond.laysFinal "InertialReference$Sensors" "InertialReference$Sensors" "noise" "[I") := ⟨tin1 _ (List.mem_of_getElem? (i := 110) rfl), good_of_word rfl⟩
theorem wd_146 : wdG (Cond.laysFinal "InertialReference$Sensors" "InertialReference$Sensors" "scale" "[I") := ⟨tin1 _ (List.mem_of_getElem? (i := 108) rfl), good_of_word rfl⟩
theorem wd_147 : wdG (Cond.laysFinal "InertialReference$Sensors" "InertialReference$Sensors" "bias" "[I") := ⟨tin1 _ (List.mem_of_getElem? (i := 106) rfl), good_of_word rfl⟩
theorem wd_148 : wdG (Cond.lays "InertialReference$CompensationTable" "InertialReference$CompensationTable" "size" "I") := ⟨tin1 _ (List.mem_of_getElem? (i := 141) rfl), good_of_word rfl⟩
theorem wd_149 : wdG (Cond.laysFinal "InertialReference$CompensationTable" "InertialReference$CompensationTable" "known" "[Z") := ⟨tin1 _ (List.mem_of_getElem? (i := 139) rfl), good_of_word rfl⟩
theorem wd_150 : wdG (Cond.laysFinal "InertialReference$CompensationTable" "InertialReference$CompensationTable" "values" "[I") := ⟨tin1 _ (List.mem_of_getElem? (i := 137) rfl), good_of_word rfl⟩
theorem wd_151 : wdG (Cond.lays "InertialReference$Estimator" "InertialReference$Estimator" "heading" "I") := ⟨tin1 _ (List.mem_of_getElem? (i := 207) rfl), good_of_word rfl⟩
theorem wd_152 : wdG (Cond.lays "InertialReference$Estimator" "InertialReference$Estimator" "levelling" "I") := ⟨tin1 _ (List.mem_of_getElem? (i := 205) rfl), good_of_word rfl⟩
theorem wd_153 : wdG (Cond.lays "InertialReference$Estimator" "InertialReference$Estimator" "method" "I") := ⟨tin1 _ (List.mem_of_getElem? (i := 203) rfl), good_of_word rfl⟩
theorem wd_154 : wdG (Cond.laysFinal "InertialReference$Estimator" "InertialReference$Estimator" "product" "[J") := ⟨tin1 _ (List.mem_of_getElem? (i := 201) rfl), good_of_word rfl⟩
theorem wd_155 : wdG (Cond.laysFinal "InertialReference$Estimator" "InertialReference$Estimator" "inBody" "[J") := ⟨tin1 _ (List.mem_of_getElem? (i := 199) rfl), good_of_word rfl⟩
theorem wd_156 : wdG (Cond.laysFinal "InertialReference$Estimator" "InertialReference$Estimator" "turn" "[J") := ⟨tin1 _ (List.mem_of_getElem? (i := 197) rfl), good_of_word rfl⟩
theorem wd_157 : wdG (Cond.laysFinal "InertialReference$Estimator" "InertialReference$Estimator" "corrected" "[J") := ⟨tin1 _ (List.mem_of_getElem? (i := 195) rfl), good_of_word rfl⟩
theorem wd_158 : wdG (Cond.laysFinal "InertialReference$Estimator" "InertialReference$Estimator" "latestTurn" "[J") := ⟨tin1 _ (List.mem_of_getElem? (i := 193) rfl), good_of_word rfl⟩
theorem wd_159 : wdG (Cond.laysFinal "InertialReference$Estimator" "InertialReference$Estimator" "filtered" "[J") := ⟨tin1 _ (List.mem_of_getElem? (i := 191) rfl), good_of_word rfl⟩
theorem wd_160 : wdG (Cond.laysFinal "InertialReference$Estimator" "InertialReference$Estimator" "bias" "[J") := ⟨tin1 _ (List.mem_of_getElem? (i := 189) rfl), good_of_word rfl⟩
theorem wd_161 : wdG (Cond.laysFinal "InertialReference$Estimator" "InertialReference$Estimator" "calibration" "LInertialReference$Calibration;") := ⟨tin1 _ (List.mem_of_getElem? (i := 187) rfl), good_of_word rfl⟩
theorem wd_162 : wdG (Cond.laysFinal "InertialReference$Estimator" "InertialReference$Estimator" "attitude" "LInertialReference$Attitude;") := ⟨tin1 _ (List.mem_of_getElem? (i := 185) rfl), good_of_word rfl⟩
theorem wd_163 : wdG (Cond.lays "InertialReference$AttitudeShelf" "InertialReference$AttitudeShelf" "count" "I") := ⟨tin1 _ (List.mem_of_getElem? (i := 226) rfl), good_of_word rfl⟩
theorem wd_164 : wdG (Cond.laysFinal "InertialReference$AttitudeShelf" "InertialReference$AttitudeShelf" "picked" "[J") := ⟨tin1 _ (List.mem_of_getElem? (i := 224) rfl), good_of_word rfl⟩
theorem wd_165 : wdG (Cond.laysFinal "InertialReference$AttitudeShelf" "InertialReference$AttitudeShelf" "stored" "[J") := ⟨tin1 _ (List.mem_of_getElem? (i := 222) rfl), good_of_word rfl⟩
theorem wd_166 : wdG (Cond.laysFinal "InertialReference$AttitudeShelf" "InertialReference$AttitudeShelf" "numbers" "[I") := ⟨tin1 _ (List.mem_of_getElem? (i := 220) rfl), good_of_word rfl⟩
theorem wd_167 : wdG (Cond.lays "InertialReference$Calibration" "InertialReference$Calibration" "ticksLeft" "I") := ⟨tin1 _ (List.mem_of_getElem? (i := 167) rfl), good_of_word rfl⟩
theorem wd_168 : wdG (Cond.lays "InertialReference$Calibration" "InertialReference$Calibration" "ticks" "I") := ⟨tin1 _ (List.mem_of_getElem? (i := 165) rfl), good_of_word rfl⟩
theorem wd_169 : wdG (Cond.laysFinal "InertialReference$Calibration" "InertialReference$Calibration" "sums" "[J") := ⟨tin1 _ (List.mem_of_getElem? (i := 163) rfl), good_of_word rfl⟩
theorem wd_170 : wdG (Cond.code yX9_init cX9_init 1 none) := ⟨tin4 _ (List.mem_of_getElem? (i := 46) rfl), good_of_word rfl⟩
theorem wd_171 : wdG (Cond.fieldLink RX9 65 "InertialReferenceModel" "clean" "[J") := ⟨tin4 _ (List.mem_of_getElem? (i := 77) rfl), good_of_word rfl⟩
theorem wd_172 : wdG (Cond.fieldLink RX9 62 "InertialReferenceModel" "rates" "[J") := ⟨tin4 _ (List.mem_of_getElem? (i := 76) rfl), good_of_word rfl⟩
theorem wd_173 : wdG (Cond.fieldLink RX9 59 "InertialReferenceModel" "force" "[J") := ⟨tin4 _ (List.mem_of_getElem? (i := 75) rfl), good_of_word rfl⟩
theorem wd_174 : wdG (Cond.fieldLink RX9 56 "InertialReferenceModel" "reading" "[J") := ⟨tin4 _ (List.mem_of_getElem? (i := 74) rfl), good_of_word rfl⟩
theorem wd_175 : wdG (Cond.fieldLink RX9 53 "InertialReferenceModel" "segmentRate" "[I") := ⟨tin4 _ (List.mem_of_getElem? (i := 72) rfl), good_of_word rfl⟩
theorem wd_176 : wdG (Cond.fieldLink RX9 50 "InertialReferenceModel" "segmentTicks" "[I") := ⟨tin4 _ (List.mem_of_getElem? (i := 71) rfl), good_of_word rfl⟩
theorem wd_177 : wdG (Cond.fieldLink RX9 47 "InertialReferenceModel" "lean" "[I") := ⟨tin4 _ (List.mem_of_getElem? (i := 65) rfl), good_of_word rfl⟩
theorem wd_178 : wdG (Cond.fieldLink RX9 44 "InertialReferenceModel" "slope" "[I") := ⟨tin4 _ (List.mem_of_getElem? (i := 64) rfl), good_of_word rfl⟩
theorem wd_179 : wdG (Cond.fieldLink RX9 41 "InertialReferenceModel" "noise" "[I") := ⟨tin4 _ (List.mem_of_getElem? (i := 63) rfl), good_of_word rfl⟩
theorem wd_180 : wdG (Cond.fieldLink RX9 38 "InertialReferenceModel" "scale" "[I") := ⟨tin4 _ (List.mem_of_getElem? (i := 62) rfl), good_of_word rfl⟩
theorem wd_181 : wdG (Cond.fieldLink RX9 34 "InertialReferenceModel" "bias" "[I") := ⟨tin4 _ (List.mem_of_getElem? (i := 61) rfl), good_of_word rfl⟩
theorem wd_182 : wdG (Cond.fieldLink RX9 31 "InertialReferenceModel" "other" "[J") := ⟨tin4 _ (List.mem_of_getElem? (i := 60) rfl), good_of_word rfl⟩
theorem wd_183 : wdG (Cond.fieldLink RX9 28 "InertialReferenceModel" "cross" "[J") := ⟨tin4 _ (List.mem_of_getElem? (i := 59) rfl), good_of_word rfl⟩
theorem wd_184 : wdG (Cond.fieldLink RX9 25 "InertialReferenceModel" "body" "[J") := ⟨tin4 _ (List.mem_of_getElem? (i := 58) rfl), good_of_word rfl⟩
theorem wd_185 : wdG (Cond.fieldLink RX9 22 "InertialReferenceModel" "matrix" "[J") := ⟨tin4 _ (List.mem_of_getElem? (i := 57) rfl), good_of_word rfl⟩
theorem wd_186 : wdG (Cond.fieldLink RX9 19 "InertialReferenceModel" "product" "[J") := ⟨tin4 _ (List.mem_of_getElem? (i := 56) rfl), good_of_word rfl⟩
theorem wd_187 : wdG (Cond.fieldLink RX9 16 "InertialReferenceModel" "small" "[J") := ⟨tin4 _ (List.mem_of_getElem? (i := 55) rfl), good_of_word rfl⟩
theorem wd_188 : wdG (Cond.fieldLink RX9 13 "InertialReferenceModel" "estimate" "[J") := ⟨tin4 _ (List.mem_of_getElem? (i := 54) rfl), good_of_word rfl⟩
theorem wd_189 : wdG (Cond.fieldLink RX9 7 "InertialReferenceModel" "truth" "[J") := ⟨tin4 _ (List.mem_of_getElem? (i := 53) rfl), good_of_word rfl⟩
theorem wd_190 : wdG (Cond.methodLink RX9 1 objectInit) := ⟨tin4 _ (List.mem_of_getElem? (i := 47) rfl), good_of_word rfl⟩
theorem wd_191 : wdG (Cond.fieldLink RX9 156 "InertialReferenceModel" "segments" "I") := ⟨tin4 _ (List.mem_of_getElem? (i := 73) rfl), good_of_word rfl⟩
theorem wd_192 : wdG (Cond.fieldLink RX9 153 "InertialReferenceModel" "time" "I") := ⟨tin4 _ (List.mem_of_getElem? (i := 70) rfl), good_of_word rfl⟩
theorem wd_193 : wdG (Cond.fieldLink RX9 150 "InertialReferenceModel" "seed" "I") := ⟨tin4 _ (List.mem_of_getElem? (i := 69) rfl), good_of_word rfl⟩
theorem wd_194 : wdG (Cond.fieldLink RX9 146 "InertialReferenceModel" "temperature" "I") := ⟨tin4 _ (List.mem_of_getElem? (i := 68) rfl), good_of_word rfl⟩
theorem wd_195 : wdG (Cond.fieldLink RX9 123 "InertialReferenceModel" "earthDown" "J") := ⟨tin4 _ (List.mem_of_getElem? (i := 67) rfl), good_of_word rfl⟩
theorem wd_196 : wdG (Cond.fieldLink RX9 119 "InertialReferenceModel" "earthNorth" "J") := ⟨tin4 _ (List.mem_of_getElem? (i := 66) rfl), good_of_word rfl⟩
theorem wd_197 : wdG (Cond.constantLong RX9 113 (268435456)) := ⟨tin4 _ (List.mem_of_getElem? (i := 52) rfl), good_of_word rfl⟩
theorem wd_198 : wdG (Cond.code yX9_begin cX9_begin 2 none) := ⟨tin4 _ (List.mem_of_getElem? (i := 51) rfl), good_of_word rfl⟩
theorem wd_199 : wdG (Cond.initialized RX9) := ⟨tin1 _ (List.mem_of_getElem? (i := 10) rfl), good_of_word rfl⟩
theorem wd_200 : wdG (Cond.selects RX9 yX9_begin yX9_begin) := ⟨tinP _ (List.mem_of_getElem? (i := 13) rfl), good_of_word rfl⟩
theorem wd_201 : wdG (Cond.instanceMethod yX9_begin) := ⟨tin4 _ (List.mem_of_getElem? (i := 50) rfl), good_of_word rfl⟩
theorem wd_202 : wdG (Cond.methodLink RX9 102 yX9_begin) := ⟨tin4 _ (List.mem_of_getElem? (i := 48) rfl), good_of_word rfl⟩
theorem wd_203 : wdG (Cond.fieldLink RX9 99 "InertialReferenceModel" "there" "[J") := ⟨tin4 _ (List.mem_of_getElem? (i := 95) rfl), good_of_word rfl⟩
theorem wd_204 : wdG (Cond.fieldLink RX9 96 "InertialReferenceModel" "storedPart" "[J") := ⟨tin4 _ (List.mem_of_getElem? (i := 93) rfl), good_of_word rfl⟩
theorem wd_205 : wdG (Cond.fieldLink RX9 93 "InertialReferenceModel" "storedNumber" "[I") := ⟨tin4 _ (List.mem_of_getElem? (i := 92) rfl), good_of_word rfl⟩
theorem wd_206 : wdG (Cond.fieldLink RX9 90 "InertialReferenceModel" "isVisited" "[Z") := ⟨tin4 _ (List.mem_of_getElem? (i := 90) rfl), good_of_word rfl⟩
theorem wd_207 : wdG (Cond.fieldLink RX9 86 "InertialReferenceModel" "isCompensated" "[Z") := ⟨tin4 _ (List.mem_of_getElem? (i := 89) rfl), good_of_word rfl⟩
theorem wd_208 : wdG (Cond.fieldLink RX9 83 "InertialReferenceModel" "compensations" "[I") := ⟨tin4 _ (List.mem_of_getElem? (i := 88) rfl), good_of_word rfl⟩
theorem wd_209 : wdG (Cond.fieldLink RX9 80 "InertialReferenceModel" "latest" "[J") := ⟨tin4 _ (List.mem_of_getElem? (i := 87) rfl), good_of_word rfl⟩
theorem wd_210 : wdG (Cond.fieldLink RX9 77 "InertialReferenceModel" "filtered" "[J") := ⟨tin4 _ (List.mem_of_getElem? (i := 86) rfl), good_of_word rfl⟩
theorem wd_211 : wdG (Cond.fieldLink RX9 74 "InertialReferenceModel" "sum" "[J") := ⟨tin4 _ (List.mem_of_getElem? (i := 85) rfl), good_of_word rfl⟩
theorem wd_212 : wdG (Cond.fieldLink RX9 71 "InertialReferenceModel" "guess" "[J") := ⟨tin4 _ (List.mem_of_getElem? (i := 84) rfl), good_of_word rfl⟩
theorem wd_213 : wdG (Cond.fieldLink RX9 68 "InertialReferenceModel" "turning" "[J") := ⟨tin4 _ (List.mem_of_getElem? (i := 78) rfl), good_of_word rfl⟩
theorem wd_214 : wdG (Cond.fieldLink RX9 177 "InertialReferenceModel" "stored" "I") := ⟨tin4 _ (List.mem_of_getElem? (i := 94) rfl), good_of_word rfl⟩
theorem wd_215 : wdG (Cond.fieldLink RX9 174 "InertialReferenceModel" "greatest" "J") := ⟨tin4 _ (List.mem_of_getElem? (i := 91) rfl), good_of_word rfl⟩
theorem wd_216 : wdG (Cond.fieldLink RX9 171 "InertialReferenceModel" "length" "I") := ⟨tin4 _ (List.mem_of_getElem? (i := 83) rfl), good_of_word rfl⟩
theorem wd_217 : wdG (Cond.fieldLink RX9 168 "InertialReferenceModel" "left" "I") := ⟨tin4 _ (List.mem_of_getElem? (i := 82) rfl), good_of_word rfl⟩
theorem wd_218 : wdG (Cond.fieldLink RX9 165 "InertialReferenceModel" "heading" "I") := ⟨tin4 _ (List.mem_of_getElem? (i := 81) rfl), good_of_word rfl⟩
theorem wd_219 : wdG (Cond.fieldLink RX9 162 "InertialReferenceModel" "levelling" "I") := ⟨tin4 _ (List.mem_of_getElem? (i := 80) rfl), good_of_word rfl⟩
theorem wd_220 : wdG (Cond.fieldLink RX9 159 "InertialReferenceModel" "method" "I") := ⟨tin4 _ (List.mem_of_getElem? (i := 79) rfl), good_of_word rfl⟩
theorem wd_221 : wdG (Cond.laysFinal "InertialReferenceModel" "InertialReferenceModel" "there" "[J") := ⟨tin4 _ (List.mem_of_getElem? (i := 180) rfl), good_of_word rfl⟩
theorem wd_222 : wdG (Cond.lays "InertialReferenceModel" "InertialReferenceModel" "stored" "I") := ⟨tin4 _ (List.mem_of_getElem? (i := 178) rfl), good_of_word rfl⟩
theorem wd_223 : wdG (Cond.laysFinal "InertialReferenceModel" "InertialReferenceModel" "storedPart" "[J") := ⟨tin4 _ (List.mem_of_getElem? (i := 176) rfl), good_of_word rfl⟩
theorem wd_224 : wdG (Cond.laysFinal "InertialReferenceModel" "InertialReferenceModel" "storedNumber" "[I") := ⟨tin4 _ (List.mem_of_getElem? (i := 174) rfl), good_of_word rfl⟩
theorem wd_225 : wdG (Cond.lays "InertialReferenceModel" "InertialReferenceModel" "greatest" "J") := ⟨tin4 _ (List.mem_of_getElem? (i := 172) rfl), good_of_word rfl⟩
theorem wd_226 : wdG (Cond.laysFinal "InertialReferenceModel" "InertialReferenceModel" "isVisited" "[Z") := ⟨tin4 _ (List.mem_of_getElem? (i := 170) rfl), good_of_word rfl⟩
theorem wd_227 : wdG (Cond.laysFinal "InertialReferenceModel" "InertialReferenceModel" "isCompensated" "[Z") := ⟨tin4 _ (List.mem_of_getElem? (i := 168) rfl), good_of_word rfl⟩
theorem wd_228 : wdG (Cond.laysFinal "InertialReferenceModel" "InertialReferenceModel" "compensations" "[I") := ⟨tin4 _ (List.mem_of_getElem? (i := 166) rfl), good_of_word rfl⟩
theorem wd_229 : wdG (Cond.laysFinal "InertialReferenceModel" "InertialReferenceModel" "latest" "[J") := ⟨tin4 _ (List.mem_of_getElem? (i := 164) rfl), good_of_word rfl⟩
theorem wd_230 : wdG (Cond.laysFinal "InertialReferenceModel" "InertialReferenceModel" "filtered" "[J") := ⟨tin4 _ (List.mem_of_getElem? (i := 162) rfl), good_of_word rfl⟩
theorem wd_231 : wdG (Cond.laysFinal "InertialReferenceModel" "InertialReferenceModel" "sum" "[J") := ⟨tin4 _ (List.mem_of_getElem? (i := 160) rfl), good_of_word rfl⟩
theorem wd_232 : wdG (Cond.laysFinal "InertialReferenceModel" "InertialReferenceModel" "guess" "[J") := ⟨tin4 _ (List.mem_of_getElem? (i := 158) rfl), good_of_word rfl⟩
theorem wd_233 : wdG (Cond.lays "InertialReferenceModel" "InertialReferenceModel" "length" "I") := ⟨tin4 _ (List.mem_of_getElem? (i := 156) rfl), good_of_word rfl⟩
theorem wd_234 : wdG (Cond.lays "InertialReferenceModel" "InertialReferenceModel" "left" "I") := ⟨tin4 _ (List.mem_of_getElem? (i := 154) rfl), good_of_word rfl⟩
theorem wd_235 : wdG (Cond.lays "InertialReferenceModel" "InertialReferenceModel" "heading" "I") := ⟨tin4 _ (List.mem_of_getElem? (i := 152) rfl), good_of_word rfl⟩
theorem wd_236 : wdG (Cond.lays "InertialReferenceModel" "InertialReferenceModel" "levelling" "I") := ⟨tin4 _ (List.mem_of_getElem? (i := 150) rfl), good_of_word rfl⟩
theorem wd_237 : wdG (Cond.lays "InertialReferenceModel" "InertialReferenceModel" "method" "I") := ⟨tin4 _ (List.mem_of_getElem? (i := 148) rfl), good_of_word rfl⟩
theorem wd_238 : wdG (Cond.laysFinal "InertialReferenceModel" "InertialReferenceModel" "turning" "[J") := ⟨tin4 _ (List.mem_of_getElem? (i := 146) rfl), good_of_word rfl⟩
theorem wd_239 : wdG (Cond.laysFinal "InertialReferenceModel" "InertialReferenceModel" "clean" "[J") := ⟨tin4 _ (List.mem_of_getElem? (i := 144) rfl), good_of_word rfl⟩
theorem wd_240 : wdG (Cond.laysFinal "InertialReferenceModel" "InertialReferenceModel" "rates" "[J") := ⟨tin4 _ (List.mem_of_getElem? (i := 142) rfl), good_of_word rfl⟩
theorem wd_241 : wdG (Cond.laysFinal "InertialReferenceModel" "InertialReferenceModel" "force" "[J") := ⟨tin4 _ (List.mem_of_getElem? (i := 140) rfl), good_of_word rfl⟩
theorem wd_242 : wdG (Cond.laysFinal "InertialReferenceModel" "InertialReferenceModel" "reading" "[J") := ⟨tin4 _ (List.mem_of_getElem? (i := 138) rfl), good_of_word rfl⟩
theorem wd_243 : wdG (Cond.lays "InertialReferenceModel" "InertialReferenceModel" "segments" "I") := ⟨tin4 _ (List.mem_of_getElem? (i := 136) rfl), good_of_word rfl⟩
theorem wd_244 : wdG (Cond.laysFinal "InertialReferenceModel" "InertialReferenceModel" "segmentRate" "[I") := ⟨tin4 _ (List.mem_of_getElem? (i := 134) rfl), good_of_word rfl⟩
theorem wd_245 : wdG (Cond.laysFinal "InertialReferenceModel" "InertialReferenceModel" "segmentTicks" "[I") := ⟨tin4 _ (List.mem_of_getElem? (i := 132) rfl), good_of_word rfl⟩
theorem wd_246 : wdG (Cond.lays "InertialReferenceModel" "InertialReferenceModel" "time" "I") := ⟨tin4 _ (List.mem_of_getElem? (i := 130) rfl), good_of_word rfl⟩
theorem wd_247 : wdG (Cond.lays "InertialReferenceModel" "InertialReferenceModel" "seed" "I") := ⟨tin4 _ (List.mem_of_getElem? (i := 128) rfl), good_of_word rfl⟩
theorem wd_248 : wdG (Cond.lays "InertialReferenceModel" "InertialReferenceModel" "temperature" "I") := ⟨tin4 _ (List.mem_of_getElem? (i := 126) rfl), good_of_word rfl⟩
theorem wd_249 : wdG (Cond.lays "InertialReferenceModel" "InertialReferenceModel" "earthDown" "J") := ⟨tin4 _ (List.mem_of_getElem? (i := 124) rfl), good_of_word rfl⟩
theorem wd_250 : wdG (Cond.lays "InertialReferenceModel" "InertialReferenceModel" "earthNorth" "J") := ⟨tin4 _ (List.mem_of_getElem? (i := 122) rfl), good_of_word rfl⟩
theorem wd_251 : wdG (Cond.laysFinal "InertialReferenceModel" "InertialReferenceModel" "lean" "[I") := ⟨tin4 _ (List.mem_of_getElem? (i := 120) rfl), good_of_word rfl⟩
theorem wd_252 : wdG (Cond.laysFinal "InertialReferenceModel" "InertialReferenceModel" "slope" "[I") := ⟨tin4 _ (List.mem_of_getElem? (i := 118) rfl), good_of_word rfl⟩
theorem wd_253 : wdG (Cond.laysFinal "InertialReferenceModel" "InertialReferenceModel" "noise" "[I") := ⟨tin4 _ (List.mem_of_getElem? (i := 116) rfl), good_of_word rfl⟩
theorem wd_254 : wdG (Cond.laysFinal "InertialReferenceModel" "InertialReferenceModel" "scale" "[I") := ⟨tin4 _ (List.mem_of_getElem? (i := 114) rfl), good_of_word rfl⟩
theorem wd_255 : wdG (Cond.laysFinal "InertialReferenceModel" "InertialReferenceModel" "bias" "[I") := ⟨tin4 _ (List.mem_of_getElem? (i := 112) rfl), good_of_word rfl⟩
theorem wd_256 : wdG (Cond.laysFinal "InertialReferenceModel" "InertialReferenceModel" "other" "[J") := ⟨tin4 _ (List.mem_of_getElem? (i := 110) rfl), good_of_word rfl⟩
theorem wd_257 : wdG (Cond.laysFinal "InertialReferenceModel" "InertialReferenceModel" "cross" "[J") := ⟨tin4 _ (List.mem_of_getElem? (i := 108) rfl), good_of_word rfl⟩
theorem wd_258 : wdG (Cond.laysFinal "InertialReferenceModel" "InertialReferenceModel" "body" "[J") := ⟨tin4 _ (List.mem_of_getElem? (i := 106) rfl), good_of_word rfl⟩
theorem wd_259 : wdG (Cond.laysFinal "InertialReferenceModel" "InertialReferenceModel" "matrix" "[J") := ⟨tin4 _ (List.mem_of_getElem? (i := 104) rfl), good_of_word rfl⟩
theorem wd_260 : wdG (Cond.laysFinal "InertialReferenceModel" "InertialReferenceModel" "product" "[J") := ⟨tin4 _ (List.mem_of_getElem? (i := 102) rfl), good_of_word rfl⟩
theorem wd_261 : wdG (Cond.laysFinal "InertialReferenceModel" "InertialReferenceModel" "small" "[J") := ⟨tin4 _ (List.mem_of_getElem? (i := 100) rfl), good_of_word rfl⟩
theorem wd_262 : wdG (Cond.laysFinal "InertialReferenceModel" "InertialReferenceModel" "estimate" "[J") := ⟨tin4 _ (List.mem_of_getElem? (i := 98) rfl), good_of_word rfl⟩
theorem wd_263 : wdG (Cond.laysFinal "InertialReferenceModel" "InertialReferenceModel" "truth" "[J") := ⟨tin4 _ (List.mem_of_getElem? (i := 96) rfl), good_of_word rfl⟩
theorem wd_264 : wdG (Cond.code yX8_setGyro cX8_setGyro 6 (some .int)) := ⟨tin2 _ (List.mem_of_getElem? (i := 35) rfl), good_of_word rfl⟩
theorem wd_265 : wdG (Cond.methodLink RX7 53 yX5_isAxis) := ⟨tin2 _ (List.mem_of_getElem? (i := 52) rfl), good_of_word rfl⟩
theorem wd_266 : wdG (Cond.code yX7_setGyroErrors cX7_setGyroErrors 6 none) := ⟨tin2 _ (List.mem_of_getElem? (i := 51) rfl), good_of_word rfl⟩
theorem wd_267 : wdG (Cond.selects RX7 yX7_setGyroErrors yX7_setGyroErrors) := ⟨tin2 _ (List.mem_of_getElem? (i := 50) rfl), good_of_word rfl⟩
theorem wd_268 : wdG (Cond.instanceMethod yX7_setGyroErrors) := ⟨tin2 _ (List.mem_of_getElem? (i := 49) rfl), good_of_word rfl⟩
theorem wd_269 : wdG (Cond.methodLink RX8 87 yX7_setGyroErrors) := ⟨tin2 _ (List.mem_of_getElem? (i := 48) rfl), good_of_word rfl⟩
theorem wd_270 : wdG (Cond.code yX5_isBetween cX5_isBetween 3 (some .boolean)) := ⟨tin2 _ (List.mem_of_getElem? (i := 46) rfl), good_of_word rfl⟩
theorem wd_271 : wdG (Cond.static yX5_isBetween) := ⟨tin2 _ (List.mem_of_getElem? (i := 45) rfl), good_of_word rfl⟩
theorem wd_272 : wdG (Cond.methodLink RX8 81 yX5_isBetween) := ⟨tin2 _ (List.mem_of_getElem? (i := 44) rfl), good_of_word rfl⟩
theorem wd_273 : wdG (Cond.code yX5_isWithin cX5_isWithin 4 (some .boolean)) := ⟨tin2 _ (List.mem_of_getElem? (i := 42) rfl), good_of_word rfl⟩
theorem wd_274 : wdG (Cond.static yX5_isWithin) := ⟨tin2 _ (List.mem_of_getElem? (i := 41) rfl), good_of_word rfl⟩
theorem wd_275 : wdG (Cond.methodLink RX8 75 yX5_isWithin) := ⟨tin2 _ (List.mem_of_getElem? (i := 40) rfl), good_of_word rfl⟩
theorem wd_276 : wdG (Cond.code yX5_isAxis cX5_isAxis 1 (some .boolean)) := ⟨tin2 _ (List.mem_of_getElem? (i := 38) rfl), good_of_word rfl⟩
theorem wd_277 : wdG (Cond.initialized RX5) := ⟨tin1 _ (List.mem_of_getElem? (i := 11) rfl), good_of_word rfl⟩
theorem wd_278 : wdG (Cond.static yX5_isAxis) := ⟨tin2 _ (List.mem_of_getElem? (i := 37) rfl), good_of_word rfl⟩
theorem wd_279 : wdG (Cond.methodLink RX8 67 yX5_isAxis) := ⟨tin2 _ (List.mem_of_getElem? (i := 36) rfl), good_of_word rfl⟩
theorem wd_280 : wdG (Cond.constantLong RX8 85 (1000)) := ⟨tin2 _ (List.mem_of_getElem? (i := 47) rfl), good_of_word rfl⟩
theorem wd_281 : wdG (Cond.constantLong RX8 79 (10000)) := ⟨tin2 _ (List.mem_of_getElem? (i := 43) rfl), good_of_word rfl⟩
theorem wd_282 : wdG (Cond.constantLong RX8 73 (100000)) := ⟨tin2 _ (List.mem_of_getElem? (i := 39) rfl), good_of_word rfl⟩
theorem wd_283 : wdG (Cond.code yX9_setGyro cX9_setGyro 6 (some .int)) := ⟨tin4 _ (List.mem_of_getElem? (i := 186) rfl), good_of_word rfl⟩
theorem wd_284 : wdG (Cond.code yX9_isIn cX9_isIn 6 (some .boolean)) := ⟨tin4 _ (List.mem_of_getElem? (i := 193) rfl), good_of_word rfl⟩
theorem wd_285 : wdG (Cond.static yX9_isIn) := ⟨tin4 _ (List.mem_of_getElem? (i := 192) rfl), good_of_word rfl⟩
theorem wd_286 : wdG (Cond.methodLink RX9 107 yX9_isIn) := ⟨tin4 _ (List.mem_of_getElem? (i := 191) rfl), good_of_word rfl⟩
theorem wd_287 : wdG (Cond.constantLong RX9 105 (2)) := ⟨tin4 _ (List.mem_of_getElem? (i := 190) rfl), good_of_word rfl⟩
theorem wd_288 : wdG (Cond.code yX9_isAxis cX9_isAxis 1 (some .boolean)) := ⟨tin4 _ (List.mem_of_getElem? (i := 189) rfl), good_of_word rfl⟩
theorem wd_289 : wdG (Cond.static yX9_isAxis) := ⟨tin4 _ (List.mem_of_getElem? (i := 188) rfl), good_of_word rfl⟩
theorem wd_290 : wdG (Cond.methodLink RX9 180 yX9_isAxis) := ⟨tin4 _ (List.mem_of_getElem? (i := 187) rfl), good_of_word rfl⟩
theorem wd_291 : wdG (Cond.constantLong RX9 194 (1000)) := ⟨tin4 _ (List.mem_of_getElem? (i := 199) rfl), good_of_word rfl⟩
theorem wd_292 : wdG (Cond.constantLong RX9 192 (-1000)) := ⟨tin4 _ (List.mem_of_getElem? (i := 198) rfl), good_of_word rfl⟩
theorem wd_293 : wdG (Cond.constantLong RX9 190 (10000)) := ⟨tin4 _ (List.mem_of_getElem? (i := 197) rfl), good_of_word rfl⟩
theorem wd_294 : wdG (Cond.constantLong RX9 188 (-10000)) := ⟨tin4 _ (List.mem_of_getElem? (i := 196) rfl), good_of_word rfl⟩
theorem wd_295 : wdG (Cond.constantLong RX9 186 (100000)) := ⟨tin4 _ (List.mem_of_getElem? (i := 195) rfl), good_of_word rfl⟩
theorem wd_296 : wdG (Cond.constantLong RX9 184 (-100000)) := ⟨tin4 _ (List.mem_of_getElem? (i := 194) rfl), good_of_word rfl⟩
theorem wd_297 : wdG (Cond.code yX8_setAccelerometer cX8_setAccelerometer 3 (some .int)) := ⟨tin2 _ (List.mem_of_getElem? (i := 56) rfl), good_of_word rfl⟩
theorem wd_298 : wdG (Cond.code yX7_setAccelerometerBias cX7_setAccelerometerBias 3 none) := ⟨tin2 _ (List.mem_of_getElem? (i := 61) rfl), good_of_word rfl⟩
theorem wd_299 : wdG (Cond.selects RX7 yX7_setAccelerometerBias yX7_setAccelerometerBias) := ⟨tin2 _ (List.mem_of_getElem? (i := 60) rfl), good_of_word rfl⟩
theorem wd_300 : wdG (Cond.instanceMethod yX7_setAccelerometerBias) := ⟨tin2 _ (List.mem_of_getElem? (i := 59) rfl), good_of_word rfl⟩
theorem wd_301 : wdG (Cond.methodLink RX8 93 yX7_setAccelerometerBias) := ⟨tin2 _ (List.mem_of_getElem? (i := 58) rfl), good_of_word rfl⟩
theorem wd_302 : wdG (Cond.constantLong RX8 91 (10000000)) := ⟨tin2 _ (List.mem_of_getElem? (i := 57) rfl), good_of_word rfl⟩
theorem wd_303 : wdG (Cond.code yX9_setAccelerometer cX9_setAccelerometer 3 (some .int)) := ⟨tin4 _ (List.mem_of_getElem? (i := 203) rfl), good_of_word rfl⟩
theorem wd_304 : wdG (Cond.constantLong RX9 198 (10000000)) := ⟨tin4 _ (List.mem_of_getElem? (i := 205) rfl), good_of_word rfl⟩
theorem wd_305 : wdG (Cond.constantLong RX9 196 (-10000000)) := ⟨tin4 _ (List.mem_of_getElem? (i := 204) rfl), good_of_word rfl⟩
theorem wd_306 : wdG (Cond.code yX8_setEarthRate cX8_setEarthRate 3 (some .int)) := ⟨tin2 _ (List.mem_of_getElem? (i := 65) rfl), good_of_word rfl⟩
theorem wd_307 : wdG (Cond.constantLong RX8 97 (65536)) := ⟨tin2 _ (List.mem_of_getElem? (i := 66) rfl), good_of_word rfl⟩
theorem wd_308 : wdG (Cond.code yX9_setEarthRate cX9_setEarthRate 3 (some .int)) := ⟨tin4 _ (List.mem_of_getElem? (i := 209) rfl), good_of_word rfl⟩
theorem wd_309 : wdG (Cond.constantLong RX9 202 (65536)) := ⟨tin4 _ (List.mem_of_getElem? (i := 211) rfl), good_of_word rfl⟩
theorem wd_310 : wdG (Cond.constantLong RX9 200 (-65536)) := ⟨tin4 _ (List.mem_of_getElem? (i := 210) rfl), good_of_word rfl⟩
theorem wd_311 : wdG (Cond.code yX8_setTemperature cX8_setTemperature 2 (some .int)) := ⟨tin2 _ (List.mem_of_getElem? (i := 70) rfl), good_of_word rfl⟩
theorem wd_312 : wdG (Cond.code yX7_changeTemperature cX7_changeTemperature 3 (some .int)) := ⟨tin2 _ (List.mem_of_getElem? (i := 74) rfl), good_of_word rfl⟩
theorem wd_313 : wdG (Cond.selects RX7 yX7_changeTemperature yX7_changeTemperature) := ⟨tin2 _ (List.mem_of_getElem? (i := 73) rfl), good_of_word rfl⟩
theorem wd_314 : wdG (Cond.instanceMethod yX7_changeTemperature) := ⟨tin2 _ (List.mem_of_getElem? (i := 72) rfl), good_of_word rfl⟩
theorem wd_315 : wdG (Cond.methodLink RX8 99 yX7_changeTemperature) := ⟨tin2 _ (List.mem_of_getElem? (i := 71) rfl), good_of_word rfl⟩
theorem wd_316 : wdG (Cond.code yX9_setTemperature cX9_setTemperature 3 (some .int)) := ⟨tin4 _ (List.mem_of_getElem? (i := 215) rfl), good_of_word rfl⟩
theorem wd_317 : wdG (Cond.constantLong RX9 206 (85)) := ⟨tin4 _ (List.mem_of_getElem? (i := 217) rfl), good_of_word rfl⟩
theorem wd_318 : wdG (Cond.constantLong RX9 204 (-40)) := ⟨tin4 _ (List.mem_of_getElem? (i := 216) rfl), good_of_word rfl⟩
theorem wd_319 : wdG (Cond.code yX8_setSeed cX8_setSeed 2 (some .int)) := ⟨tin2 _ (List.mem_of_getElem? (i := 78) rfl), good_of_word rfl⟩
theorem wd_320 : wdG (Cond.fieldLink RX7 50 "InertialReference$Sensors" "seed" "I") := ⟨tin1 _ (List.mem_of_getElem? (i := 105) rfl), good_of_word rfl⟩
theorem wd_321 : wdG (Cond.code yX7_changeSeed cX7_changeSeed 3 (some .int)) := ⟨tin2 _ (List.mem_of_getElem? (i := 82) rfl), good_of_word rfl⟩
theorem wd_322 : wdG (Cond.selects RX7 yX7_changeSeed yX7_changeSeed) := ⟨tin2 _ (List.mem_of_getElem? (i := 81) rfl), good_of_word rfl⟩
theorem wd_323 : wdG (Cond.instanceMethod yX7_changeSeed) := ⟨tin2 _ (List.mem_of_getElem? (i := 80) rfl), good_of_word rfl⟩
theorem wd_324 : wdG (Cond.methodLink RX8 103 yX7_changeSeed) := ⟨tin2 _ (List.mem_of_getElem? (i := 79) rfl), good_of_word rfl⟩
theorem wd_325 : wdG (Cond.code yX9_setSeed cX9_setSeed 3 (some .int)) := ⟨tin4 _ (List.mem_of_getElem? (i := 221) rfl), good_of_word rfl⟩
theorem wd_326 : wdG (Cond.code yX8_addSegment cX8_addSegment 5 (some .int)) := ⟨tin2 _ (List.mem_of_getElem? (i := 86) rfl), good_of_word rfl⟩
theorem wd_327 : wdG (Cond.fieldLink RX6 24 "InertialReference$Script" "count" "I") := ⟨tin1 _ (List.mem_of_getElem? (i := 73) rfl), good_of_word rfl⟩
theorem wd_328 : wdG (Cond.code yX6_append cX6_append 5 (some .int)) := ⟨tin2 _ (List.mem_of_getElem? (i := 94) rfl), good_of_word rfl⟩
theorem wd_329 : wdG (Cond.selects RX6 yX6_append yX6_append) := ⟨tin2 _ (List.mem_of_getElem? (i := 93) rfl), good_of_word rfl⟩
theorem wd_330 : wdG (Cond.instanceMethod yX6_append) := ⟨tin2 _ (List.mem_of_getElem? (i := 92) rfl), good_of_word rfl⟩
theorem wd_331 : wdG (Cond.methodLink RX8 109 yX6_append) := ⟨tin2 _ (List.mem_of_getElem? (i := 91) rfl), good_of_word rfl⟩
theorem wd_332 : wdG (Cond.constantLong RX8 280 (4000000)) := ⟨tin2 _ (List.mem_of_getElem? (i := 90) rfl), good_of_word rfl⟩
theorem wd_333 : wdG (Cond.code yX8_isTurn cX8_isTurn 3 (some .boolean)) := ⟨tin2 _ (List.mem_of_getElem? (i := 89) rfl), good_of_word rfl⟩
theorem wd_334 : wdG (Cond.initialized RX8) := ⟨tin1 _ (List.mem_of_getElem? (i := 1) rfl), good_of_word rfl⟩
theorem wd_335 : wdG (Cond.static yX8_isTurn) := ⟨tin2 _ (List.mem_of_getElem? (i := 88) rfl), good_of_word rfl⟩
theorem wd_336 : wdG (Cond.methodLink RX8 106 yX8_isTurn) := ⟨tin2 _ (List.mem_of_getElem? (i := 87) rfl), good_of_word rfl⟩
theorem wd_337 : wdG (Cond.code yX9_addSegment cX9_addSegment 5 (some .int)) := ⟨tin4 _ (List.mem_of_getElem? (i := 225) rfl), good_of_word rfl⟩
theorem wd_338 : wdG (Cond.constantLong RX9 210 (4000000)) := ⟨tin4 _ (List.mem_of_getElem? (i := 230) rfl), good_of_word rfl⟩
theorem wd_339 : wdG (Cond.constantLong RX9 208 (-4000000)) := ⟨tin4 _ (List.mem_of_getElem? (i := 229) rfl), good_of_word rfl⟩
theorem wd_340 : wdG (Cond.code yX9_isTurn cX9_isTurn 3 (some .boolean)) := ⟨tin4 _ (List.mem_of_getElem? (i := 228) rfl), good_of_word rfl⟩
theorem wd_341 : wdG (Cond.static yX9_isTurn) := ⟨tin4 _ (List.mem_of_getElem? (i := 227) rfl), good_of_word rfl⟩
theorem wd_342 : wdG (Cond.methodLink RX9 212 yX9_isTurn) := ⟨tin4 _ (List.mem_of_getElem? (i := 226) rfl), good_of_word rfl⟩
theorem wd_343 : wdG (Cond.code yX8_clearScript cX8_clearScript 1 (some .int)) := ⟨tin2 _ (List.mem_of_getElem? (i := 98) rfl), good_of_word rfl⟩
theorem wd_344 : wdG (Cond.code yX6_empty cX6_empty 2 (some .int)) := ⟨tin2 _ (List.mem_of_getElem? (i := 102) rfl), good_of_word rfl⟩
theorem wd_345 : wdG (Cond.selects RX6 yX6_empty yX6_empty) := ⟨tin2 _ (List.mem_of_getElem? (i := 101) rfl), good_of_word rfl⟩
theorem wd_346 : wdG (Cond.instanceMethod yX6_empty) := ⟨tin2 _ (List.mem_of_getElem? (i := 100) rfl), good_of_word rfl⟩
theorem wd_347 : wdG (Cond.methodLink RX8 113 yX6_empty) := ⟨tin2 _ (List.mem_of_getElem? (i := 99) rfl), good_of_word rfl⟩
theorem wd_348 : wdG (Cond.code yX9_clearScript cX9_clearScript 2 (some .int)) := ⟨tin4 _ (List.mem_of_getElem? (i := 234) rfl), good_of_word rfl⟩
theorem wd_349 : wdG (Cond.code yX8_scriptTicks cX8_scriptTicks 1 (some .int)) := ⟨tin2 _ (List.mem_of_getElem? (i := 106) rfl), good_of_word rfl⟩
theorem wd_350 : wdG (Cond.code yX6_ticksLeft cX6_ticksLeft 3 (some .int)) := ⟨tin2 _ (List.mem_of_getElem? (i := 110) rfl), good_of_word rfl⟩
theorem wd_351 : wdG (Cond.selects RX6 yX6_ticksLeft yX6_ticksLeft) := ⟨tin2 _ (List.mem_of_getElem? (i := 109) rfl), good_of_word rfl⟩
theorem wd_352 : wdG (Cond.instanceMethod yX6_ticksLeft) := ⟨tin2 _ (List.mem_of_getElem? (i := 108) rfl), good_of_word rfl⟩
theorem wd_353 : wdG (Cond.methodLink RX8 117 yX6_ticksLeft) := ⟨tin2 _ (List.mem_of_getElem? (i := 107) rfl), good_of_word rfl⟩
theorem wd_354 : wdG (Cond.code yX9_scriptTicks cX9_scriptTicks 3 (some .int)) := ⟨tin4 _ (List.mem_of_getElem? (i := 238) rfl), good_of_word rfl⟩
theorem wd_355 : wdG (Cond.code yX8_turnTruth cX8_turnTruth 4 (some .int)) := ⟨tin2 _ (List.mem_of_getElem? (i := 114) rfl), good_of_word rfl⟩
theorem wd_356 : wdG (Cond.selects RX0 yX0_multiplyBy yX0_multiplyBy) := ⟨tinP _ (List.mem_of_getElem? (i := 1) rfl), good_of_word rfl⟩
theorem wd_357 : wdG (Cond.instanceMethod yX0_multiplyBy) := ⟨tin2 _ (List.mem_of_getElem? (i := 125) rfl), good_of_word rfl⟩
theorem wd_358 : wdG (Cond.methodLink RX0 57 yX0_multiplyBy) := ⟨tin2 _ (List.mem_of_getElem? (i := 123) rfl), good_of_word rfl⟩
theorem wd_359 : wdG (Cond.code yJ9_floorDiv_f86c9 cJ9_floorDiv_f86c9 6 (some .long)) := ⟨tin2 _ (List.mem_of_getElem? (i := 122) rfl), good_of_word rfl⟩
theorem wd_360 : wdG (Cond.initialized RJ9) := ⟨tin1 _ (List.mem_of_getElem? (i := 12) rfl), good_of_word rfl⟩
theorem wd_361 : wdG (Cond.static yJ9_floorDiv_f86c9) := ⟨tin2 _ (List.mem_of_getElem? (i := 121) rfl), good_of_word rfl⟩
theorem wd_362 : wdG (Cond.methodLink RX0 51 yJ9_floorDiv_f86c9) := ⟨tin2 _ (List.mem_of_getElem? (i := 120) rfl), good_of_word rfl⟩
theorem wd_363 : wdG (Cond.constantLong RX0 49 (6)) := ⟨tin2 _ (List.mem_of_getElem? (i := 119) rfl), good_of_word rfl⟩
theorem wd_364 : wdG (Cond.code yX0_turn cX0_turn 15 none) := ⟨tin2 _ (List.mem_of_getElem? (i := 118) rfl), good_of_word rfl⟩
theorem wd_365 : wdG (Cond.selects RX0 yX0_turn yX0_turn) := ⟨tin2 _ (List.mem_of_getElem? (i := 117) rfl), good_of_word rfl⟩
theorem wd_366 : wdG (Cond.instanceMethod yX0_turn) := ⟨tin2 _ (List.mem_of_getElem? (i := 116) rfl), good_of_word rfl⟩
theorem wd_367 : wdG (Cond.methodLink RX8 120 yX0_turn) := ⟨tin2 _ (List.mem_of_getElem? (i := 115) rfl), good_of_word rfl⟩
theorem wd_368 : wdG (Cond.code yX0_normalizeProduct cX0_normalizeProduct 6 none) := ⟨tin2 _ (List.mem_of_getElem? (i := 133) rfl), good_of_word rfl⟩
theorem wd_369 : wdG (Cond.selects RX0 yX0_normalizeProduct yX0_normalizeProduct) := ⟨tinP _ (List.mem_of_getElem? (i := 2) rfl), good_of_word rfl⟩
theorem wd_370 : wdG (Cond.instanceMethod yX0_normalizeProduct) := ⟨tin2 _ (List.mem_of_getElem? (i := 132) rfl), good_of_word rfl⟩
theorem wd_371 : wdG (Cond.methodLink RX0 65 yX0_normalizeProduct) := ⟨tin2 _ (List.mem_of_getElem? (i := 130) rfl), good_of_word rfl⟩
theorem wd_372 : wdG (Cond.code yX0_multiply cX0_multiply 3 none) := ⟨tin2 _ (List.mem_of_getElem? (i := 129) rfl), good_of_word rfl⟩
theorem wd_373 : wdG (Cond.static yX0_multiply) := ⟨tin2 _ (List.mem_of_getElem? (i := 128) rfl), good_of_word rfl⟩
theorem wd_374 : wdG (Cond.methodLink RX0 61 yX0_multiply) := ⟨tin2 _ (List.mem_of_getElem? (i := 127) rfl), good_of_word rfl⟩
theorem wd_375 : wdG (Cond.code yX0_multiplyBy cX0_multiplyBy 11 none) := ⟨tin2 _ (List.mem_of_getElem? (i := 126) rfl), good_of_word rfl⟩
theorem wd_376 : wdG (Cond.code yX9_turnTruth cX9_turnTruth 4 (some .int)) := ⟨tin5 _ (List.mem_of_getElem? (i := 2) rfl), good_of_word rfl⟩
theorem wd_377 : wdG (Cond.selects RX9 yX9_multiply yX9_multiply) := ⟨tinP _ (List.mem_of_getElem? (i := 15) rfl), good_of_word rfl⟩
theorem wd_378 : wdG (Cond.instanceMethod yX9_multiply) := ⟨tin5 _ (List.mem_of_getElem? (i := 13) rfl), good_of_word rfl⟩
theorem wd_379 : wdG (Cond.methodLink RX9 138 yX9_multiply) := ⟨tin5 _ (List.mem_of_getElem? (i := 11) rfl), good_of_word rfl⟩
theorem wd_380 : wdG (Cond.code yX9_floor cX9_floor 6 (some .long)) := ⟨tin5 _ (List.mem_of_getElem? (i := 10) rfl), good_of_word rfl⟩
theorem wd_381 : wdG (Cond.static yX9_floor) := ⟨tin5 _ (List.mem_of_getElem? (i := 9) rfl), good_of_word rfl⟩
theorem wd_382 : wdG (Cond.methodLink RX9 134 yX9_floor) := ⟨tin5 _ (List.mem_of_getElem? (i := 8) rfl), good_of_word rfl⟩
theorem wd_383 : wdG (Cond.constantLong RX9 132 (6)) := ⟨tin5 _ (List.mem_of_getElem? (i := 7) rfl), good_of_word rfl⟩
theorem wd_384 : wdG (Cond.code yX9_turn cX9_turn 26 none) := ⟨tin5 _ (List.mem_of_getElem? (i := 6) rfl), good_of_word rfl⟩
theorem wd_385 : wdG (Cond.selects RX9 yX9_turn yX9_turn) := ⟨tinP _ (List.mem_of_getElem? (i := 14) rfl), good_of_word rfl⟩
theorem wd_386 : wdG (Cond.instanceMethod yX9_turn) := ⟨tin5 _ (List.mem_of_getElem? (i := 5) rfl), good_of_word rfl⟩
theorem wd_387 : wdG (Cond.methodLink RX9 216 yX9_turn) := ⟨tin5 _ (List.mem_of_getElem? (i := 3) rfl), good_of_word rfl⟩
theorem wd_388 : wdG (Cond.code yX9_multiply cX9_multiply 3 none) := ⟨tin5 _ (List.mem_of_getElem? (i := 14) rfl), good_of_word rfl⟩
theorem wd_389 : wdG (Cond.code yX8_run cX8_run 3 (some .int)) := ⟨tin2 _ (List.mem_of_getElem? (i := 137) rfl), good_of_word rfl⟩
theorem wd_390 : wdG (Cond.code Lib.MathLoose.max_long.x Lib.MathLoose.max_long.code 4 (some .long)) := ⟨tin3 _ (List.mem_of_getElem? (i := 26) rfl), good_of_word rfl⟩
theorem wd_391 : wdG (Cond.initialized "java/lang/Math") := ⟨tin1 _ (List.mem_of_getElem? (i := 12) rfl), good_of_word rfl⟩
theorem wd_392 : wdG (Cond.static Lib.MathLoose.max_long.x) := ⟨tin3 _ (List.mem_of_getElem? (i := 25) rfl), good_of_word rfl⟩
theorem wd_393 : wdG (Cond.methodLink RX8 306 Lib.MathLoose.max_long.x) := ⟨tin3 _ (List.mem_of_getElem? (i := 56) rfl), good_of_word rfl⟩
theorem wd_394 : wdG (Cond.fieldLink RX8 206 "InertialReference" "greatest" "J") := ⟨tin2 _ (List.mem_of_getElem? (i := 2) rfl), good_of_word rfl⟩
theorem wd_395 : wdG (Cond.fieldLink RX8 235 "InertialReference" "visited" "I") := ⟨tin2 _ (List.mem_of_getElem? (i := 1) rfl), good_of_word rfl⟩
theorem wd_396 : wdG (Cond.code yX8_tick cX8_tick 1 none) := ⟨tin2 _ (List.mem_of_getElem? (i := 142) rfl), good_of_word rfl⟩
theorem wd_397 : wdG (Cond.selects RX8 yX8_tick yX8_tick) := ⟨tinP _ (List.mem_of_getElem? (i := 3) rfl), good_of_word rfl⟩
theorem wd_398 : wdG (Cond.instanceMethod yX8_tick) := ⟨tin2 _ (List.mem_of_getElem? (i := 141) rfl), good_of_word rfl⟩
theorem wd_399 : wdG (Cond.methodLink RX8 129 yX8_tick) := ⟨tin2 _ (List.mem_of_getElem? (i := 139) rfl), good_of_word rfl⟩
theorem wd_400 : wdG (Cond.constant RX8 128 (100000)) := ⟨tin2 _ (List.mem_of_getElem? (i := 138) rfl), good_of_word rfl⟩
theorem wd_401 : wdG (Cond.fieldLink RX8 124 "InertialReference" "now" "I") := ⟨tin2 _ (List.mem_of_getElem? (i := 0) rfl), good_of_word rfl⟩
theorem wd_402 : wdG (Cond.instanceMethod yX7_senseRates) := ⟨tin2 _ (List.mem_of_getElem? (i := 156) rfl), good_of_word rfl⟩
theorem wd_403 : wdG (Cond.methodLink RX8 287 yX7_senseRates) := ⟨tin2 _ (List.mem_of_getElem? (i := 155) rfl), good_of_word rfl⟩
theorem wd_404 : wdG (Cond.initialized "java/lang/System") := ⟨tin1 _ (List.mem_of_getElem? (i := 13) rfl), good_of_word rfl⟩
theorem wd_405 : wdG (Cond.static arraycopyName) := ⟨tin2 _ (List.mem_of_getElem? (i := 153) rfl), good_of_word rfl⟩
theorem wd_406 : wdG (Cond.native arraycopyName) := ⟨tin2 _ (List.mem_of_getElem? (i := 154) rfl), good_of_word rfl⟩
theorem wd_407 : wdG (Cond.methodLink RX6 37 arraycopyName) := ⟨tin2 _ (List.mem_of_getElem? (i := 152) rfl), good_of_word rfl⟩
theorem wd_408 : wdG (Cond.code yX6_removeFirst cX6_removeFirst 1 none) := ⟨tin2 _ (List.mem_of_getElem? (i := 151) rfl), good_of_word rfl⟩
theorem wd_409 : wdG (Cond.selects RX6 yX6_removeFirst yX6_removeFirst) := ⟨tinP _ (List.mem_of_getElem? (i := 4) rfl), good_of_word rfl⟩
theorem wd_410 : wdG (Cond.instanceMethod yX6_removeFirst) := ⟨tin2 _ (List.mem_of_getElem? (i := 150) rfl), good_of_word rfl⟩
theorem wd_411 : wdG (Cond.methodLink RX6 34 yX6_removeFirst) := ⟨tin2 _ (List.mem_of_getElem? (i := 148) rfl), good_of_word rfl⟩
theorem wd_412 : wdG (Cond.methodLink RX6 28 yJ7_fill_d0a16) := ⟨tin2 _ (List.mem_of_getElem? (i := 147) rfl), good_of_word rfl⟩
theorem wd_413 : wdG (Cond.code yX6_takeTick cX6_takeTick 2 none) := ⟨tin2 _ (List.mem_of_getElem? (i := 146) rfl), good_of_word rfl⟩
theorem wd_414 : wdG (Cond.selects RX6 yX6_takeTick yX6_takeTick) := ⟨tin2 _ (List.mem_of_getElem? (i := 145) rfl), good_of_word rfl⟩
theorem wd_415 : wdG (Cond.instanceMethod yX6_takeTick) := ⟨tin2 _ (List.mem_of_getElem? (i := 144) rfl), good_of_word rfl⟩
theorem wd_416 : wdG (Cond.methodLink RX8 284 yX6_takeTick) := ⟨tin2 _ (List.mem_of_getElem? (i := 143) rfl), good_of_word rfl⟩
theorem wd_417 : wdG (Cond.methodLink RX0 70 yX5_isAxis) := ⟨tin2 _ (List.mem_of_getElem? (i := 167) rfl), good_of_word rfl⟩
theorem wd_418 : wdG (Cond.code yX0_bodyComponent cX0_bodyComponent 8 (some .long)) := ⟨tin2 _ (List.mem_of_getElem? (i := 166) rfl), good_of_word rfl⟩
theorem wd_419 : wdG (Cond.selects RX0 yX0_bodyComponent yX0_bodyComponent) := ⟨tin2 _ (List.mem_of_getElem? (i := 165) rfl), good_of_word rfl⟩
theorem wd_420 : wdG (Cond.instanceMethod yX0_bodyComponent) := ⟨tin2 _ (List.mem_of_getElem? (i := 164) rfl), good_of_word rfl⟩
theorem wd_421 : wdG (Cond.methodLink RX0 76 yX0_bodyComponent) := ⟨tin2 _ (List.mem_of_getElem? (i := 163) rfl), good_of_word rfl⟩
theorem wd_422 : wdG (Cond.code yX0_turnIntoBody cX0_turnIntoBody 4 none) := ⟨tin2 _ (List.mem_of_getElem? (i := 162) rfl), good_of_word rfl⟩
theorem wd_423 : wdG (Cond.selects RX0 yX0_turnIntoBody yX0_turnIntoBody) := ⟨tin2 _ (List.mem_of_getElem? (i := 161) rfl), good_of_word rfl⟩
theorem wd_424 : wdG (Cond.instanceMethod yX0_turnIntoBody) := ⟨tin2 _ (List.mem_of_getElem? (i := 160) rfl), good_of_word rfl⟩
theorem wd_425 : wdG (Cond.methodLink RX7 65 yX0_turnIntoBody) := ⟨tin2 _ (List.mem_of_getElem? (i := 159) rfl), good_of_word rfl⟩
theorem wd_426 : wdG (Cond.constantLong RX7 71 (1000000)) := ⟨tin2 _ (List.mem_of_getElem? (i := 168) rfl), good_of_word rfl⟩
theorem wd_427 : wdG (Cond.code yX7_senseRates cX7_senseRates 7 none) := ⟨tin2 _ (List.mem_of_getElem? (i := 158) rfl), good_of_word rfl⟩
theorem wd_428 : wdG (Cond.selects RX7 yX7_senseRates yX7_senseRates) := ⟨tin2 _ (List.mem_of_getElem? (i := 157) rfl), good_of_word rfl⟩
theorem wd_429 : wdG (Cond.constant RX7 80 (1103515245)) := ⟨tin2 _ (List.mem_of_getElem? (i := 177) rfl), good_of_word rfl⟩
theorem wd_430 : wdG (Cond.code yX7_drawNoise cX7_drawNoise 2 (some .int)) := ⟨tin2 _ (List.mem_of_getElem? (i := 176) rfl), good_of_word rfl⟩
theorem wd_431 : wdG (Cond.selects RX7 yX7_drawNoise yX7_drawNoise) := ⟨tinP _ (List.mem_of_getElem? (i := 5) rfl), good_of_word rfl⟩
theorem wd_432 : wdG (Cond.instanceMethod yX7_drawNoise) := ⟨tin2 _ (List.mem_of_getElem? (i := 175) rfl), good_of_word rfl⟩
theorem wd_433 : wdG (Cond.methodLink RX7 76 yX7_drawNoise) := ⟨tin2 _ (List.mem_of_getElem? (i := 173) rfl), good_of_word rfl⟩
theorem wd_434 : wdG (Cond.code yJ9_floorDiv_7cf53 cJ9_floorDiv_7cf53 3 (some .int)) := ⟨tin2 _ (List.mem_of_getElem? (i := 172) rfl), good_of_word rfl⟩
theorem wd_435 : wdG (Cond.static yJ9_floorDiv_7cf53) := ⟨tin2 _ (List.mem_of_getElem? (i := 171) rfl), good_of_word rfl⟩
theorem wd_436 : wdG (Cond.methodLink RX7 59 yJ9_floorDiv_7cf53) := ⟨tin2 _ (List.mem_of_getElem? (i := 170) rfl), good_of_word rfl⟩
theorem wd_437 : wdG (Cond.methodLink RX7 73 yJ9_floorDiv_f86c9) := ⟨tin2 _ (List.mem_of_getElem? (i := 169) rfl), good_of_word rfl⟩
theorem wd_438 : wdG (Cond.selects RX4 yX4_follow yX4_follow) := ⟨tin2 _ (List.mem_of_getElem? (i := 186) rfl), good_of_word rfl⟩
theorem wd_439 : wdG (Cond.instanceMethod yX4_follow) := ⟨tin2 _ (List.mem_of_getElem? (i := 185) rfl), good_of_word rfl⟩
theorem wd_440 : wdG (Cond.methodLink RX8 295 yX4_follow) := ⟨tin2 _ (List.mem_of_getElem? (i := 184) rfl), good_of_word rfl⟩
theorem wd_441 : wdG (Cond.code yX7_senseGravity cX7_senseGravity 3 none) := ⟨tin2 _ (List.mem_of_getElem? (i := 181) rfl), good_of_word rfl⟩
theorem wd_442 : wdG (Cond.selects RX7 yX7_senseGravity yX7_senseGravity) := ⟨tin2 _ (List.mem_of_getElem? (i := 180) rfl), good_of_word rfl⟩
theorem wd_443 : wdG (Cond.instanceMethod yX7_senseGravity) := ⟨tin2 _ (List.mem_of_getElem? (i := 179) rfl), good_of_word rfl⟩
theorem wd_444 : wdG (Cond.methodLink RX8 291 yX7_senseGravity) := ⟨tin2 _ (List.mem_of_getElem? (i := 178) rfl), good_of_word rfl⟩
theorem wd_445 : wdG (Cond.methodLink RX3 25 yX3_hasBin) := ⟨tin2 _ (List.mem_of_getElem? (i := 204) rfl), good_of_word rfl⟩
theorem wd_446 : wdG (Cond.methodLink RX3 19 yX5_isAxis) := ⟨tin2 _ (List.mem_of_getElem? (i := 203) rfl), good_of_word rfl⟩
theorem wd_447 : wdG (Cond.code yX3_placeOf cX3_placeOf 2 (some .int)) := ⟨tin2 _ (List.mem_of_getElem? (i := 202) rfl), good_of_word rfl⟩
theorem wd_448 : wdG (Cond.static yX3_placeOf) := ⟨tin2 _ (List.mem_of_getElem? (i := 201) rfl), good_of_word rfl⟩
theorem wd_449 : wdG (Cond.methodLink RX3 32 yX3_placeOf) := ⟨tin2 _ (List.mem_of_getElem? (i := 200) rfl), good_of_word rfl⟩
theorem wd_450 : wdG (Cond.code yX3_value cX3_value 4 (some .int)) := ⟨tin2 _ (List.mem_of_getElem? (i := 199) rfl), good_of_word rfl⟩
theorem wd_451 : wdG (Cond.selects RX3 yX3_value yX3_value) := ⟨tin2 _ (List.mem_of_getElem? (i := 198) rfl), good_of_word rfl⟩
theorem wd_452 : wdG (Cond.instanceMethod yX3_value) := ⟨tin2 _ (List.mem_of_getElem? (i := 197) rfl), good_of_word rfl⟩
theorem wd_453 : wdG (Cond.methodLink RX4 98 yX3_value) := ⟨tin2 _ (List.mem_of_getElem? (i := 196) rfl), good_of_word rfl⟩
theorem wd_454 : wdG (Cond.code yX7_bin cX7_bin 1 (some .int)) := ⟨tin2 _ (List.mem_of_getElem? (i := 195) rfl), good_of_word rfl⟩
theorem wd_455 : wdG (Cond.selects RX7 yX7_bin yX7_bin) := ⟨tin2 _ (List.mem_of_getElem? (i := 194) rfl), good_of_word rfl⟩
theorem wd_456 : wdG (Cond.instanceMethod yX7_bin) := ⟨tin2 _ (List.mem_of_getElem? (i := 193) rfl), good_of_word rfl⟩
theorem wd_457 : wdG (Cond.methodLink RX4 91 yX7_bin) := ⟨tin2 _ (List.mem_of_getElem? (i := 192) rfl), good_of_word rfl⟩
theorem wd_458 : wdG (Cond.code yX4_correct cX4_correct 7 none) := ⟨tin2 _ (List.mem_of_getElem? (i := 191) rfl), good_of_word rfl⟩
theorem wd_459 : wdG (Cond.selects RX4 yX4_correct yX4_correct) := ⟨tinP _ (List.mem_of_getElem? (i := 6) rfl), good_of_word rfl⟩
theorem wd_460 : wdG (Cond.instanceMethod yX4_correct) := ⟨tin2 _ (List.mem_of_getElem? (i := 190) rfl), good_of_word rfl⟩
theorem wd_461 : wdG (Cond.methodLink RX4 69 yX4_correct) := ⟨tin2 _ (List.mem_of_getElem? (i := 188) rfl), good_of_word rfl⟩
theorem wd_462 : wdG (Cond.code yX4_follow cX4_follow 4 none) := ⟨tin2 _ (List.mem_of_getElem? (i := 187) rfl), good_of_word rfl⟩
theorem wd_463 : wdG (Cond.code yX4_propagate cX4_propagate 3 none) := ⟨tin2 _ (List.mem_of_getElem? (i := 222) rfl), good_of_word rfl⟩
theorem wd_464 : wdG (Cond.selects RX4 yX4_propagate yX4_propagate) := ⟨tinP _ (List.mem_of_getElem? (i := 7) rfl), good_of_word rfl⟩
theorem wd_465 : wdG (Cond.instanceMethod yX4_propagate) := ⟨tin2 _ (List.mem_of_getElem? (i := 221) rfl), good_of_word rfl⟩
theorem wd_466 : wdG (Cond.methodLink RX4 73 yX4_propagate) := ⟨tin2 _ (List.mem_of_getElem? (i := 219) rfl), good_of_word rfl⟩
theorem wd_467 : wdG (Cond.methodLink RX2 32 yX5_isAxis) := ⟨tin2 _ (List.mem_of_getElem? (i := 218) rfl), good_of_word rfl⟩
theorem wd_468 : wdG (Cond.fieldLink RX2 15 "InertialReference$Calibration" "ticksLeft" "I") := ⟨tin1 _ (List.mem_of_getElem? (i := 161) rfl), good_of_word rfl⟩
theorem wd_469 : wdG (Cond.code yX2_isRunning cX2_isRunning 1 (some .boolean)) := ⟨tin2 _ (List.mem_of_getElem? (i := 217) rfl), good_of_word rfl⟩
theorem wd_470 : wdG (Cond.selects RX2 yX2_isRunning yX2_isRunning) := ⟨tin2 _ (List.mem_of_getElem? (i := 216) rfl), good_of_word rfl⟩
theorem wd_471 : wdG (Cond.instanceMethod yX2_isRunning) := ⟨tin2 _ (List.mem_of_getElem? (i := 215) rfl), good_of_word rfl⟩
theorem wd_472 : wdG (Cond.methodLink RX2 28 yX2_isRunning) := ⟨tin2 _ (List.mem_of_getElem? (i := 214) rfl), good_of_word rfl⟩
theorem wd_473 : wdG (Cond.code yX2_add cX2_add 4 none) := ⟨tin2 _ (List.mem_of_getElem? (i := 213) rfl), good_of_word rfl⟩
theorem wd_474 : wdG (Cond.selects RX2 yX2_add yX2_add) := ⟨tin2 _ (List.mem_of_getElem? (i := 212) rfl), good_of_word rfl⟩
theorem wd_475 : wdG (Cond.instanceMethod yX2_add) := ⟨tin2 _ (List.mem_of_getElem? (i := 211) rfl), good_of_word rfl⟩
theorem wd_476 : wdG (Cond.methodLink RX4 104 yX2_add) := ⟨tin2 _ (List.mem_of_getElem? (i := 210) rfl), good_of_word rfl⟩
theorem wd_477 : wdG (Cond.code yX3_column cX3_column 1 (some .int)) := ⟨tin2 _ (List.mem_of_getElem? (i := 209) rfl), good_of_word rfl⟩
theorem wd_478 : wdG (Cond.static yX3_column) := ⟨tin2 _ (List.mem_of_getElem? (i := 208) rfl), good_of_word rfl⟩
theorem wd_479 : wdG (Cond.methodLink RX3 28 yX3_column) := ⟨tin2 _ (List.mem_of_getElem? (i := 207) rfl), good_of_word rfl⟩
theorem wd_480 : wdG (Cond.code yX3_hasBin cX3_hasBin 1 (some .boolean)) := ⟨tin2 _ (List.mem_of_getElem? (i := 206) rfl), good_of_word rfl⟩
theorem wd_481 : wdG (Cond.static yX3_hasBin) := ⟨tin2 _ (List.mem_of_getElem? (i := 205) rfl), good_of_word rfl⟩
theorem wd_482 : wdG (Cond.methodLink RX4 85 yX4_seekNorth) := ⟨tin3 _ (List.mem_of_getElem? (i := 3) rfl), good_of_word rfl⟩
theorem wd_483 : wdG (Cond.fieldLink RX4 63 "InertialReference$Estimator" "levelling" "I") := ⟨tin1 _ (List.mem_of_getElem? (i := 183) rfl), good_of_word rfl⟩
theorem wd_484 : wdG (Cond.code yX4_level cX4_level 3 none) := ⟨tin3 _ (List.mem_of_getElem? (i := 1) rfl), good_of_word rfl⟩
theorem wd_485 : wdG (Cond.selects RX4 yX4_level yX4_level) := ⟨tinP _ (List.mem_of_getElem? (i := 8) rfl), good_of_word rfl⟩
theorem wd_486 : wdG (Cond.instanceMethod yX4_level) := ⟨tin3 _ (List.mem_of_getElem? (i := 0) rfl), good_of_word rfl⟩
theorem wd_487 : wdG (Cond.methodLink RX4 82 yX4_level) := ⟨tin2 _ (List.mem_of_getElem? (i := 238) rfl), good_of_word rfl⟩
theorem wd_488 : wdG (Cond.methodLink RX4 136 yJ9_floorDiv_f86c9) := ⟨tin2 _ (List.mem_of_getElem? (i := 236) rfl), good_of_word rfl⟩
theorem wd_489 : wdG (Cond.constantLong RX4 134 (12)) := ⟨tin2 _ (List.mem_of_getElem? (i := 235) rfl), good_of_word rfl⟩
theorem wd_490 : wdG (Cond.code yX4_coning cX4_coning 2 (some .long)) := ⟨tin2 _ (List.mem_of_getElem? (i := 234) rfl), good_of_word rfl⟩
theorem wd_491 : wdG (Cond.static yX4_coning) := ⟨tin2 _ (List.mem_of_getElem? (i := 233) rfl), good_of_word rfl⟩
theorem wd_492 : wdG (Cond.methodLink RX4 124 yX4_coning) := ⟨tin2 _ (List.mem_of_getElem? (i := 232) rfl), good_of_word rfl⟩
theorem wd_493 : wdG (Cond.code yX5_cross cX5_cross 3 none) := ⟨tin2 _ (List.mem_of_getElem? (i := 231) rfl), good_of_word rfl⟩
theorem wd_494 : wdG (Cond.static yX5_cross) := ⟨tin2 _ (List.mem_of_getElem? (i := 230) rfl), good_of_word rfl⟩
theorem wd_495 : wdG (Cond.methodLink RX4 118 yX5_cross) := ⟨tin2 _ (List.mem_of_getElem? (i := 229) rfl), good_of_word rfl⟩
theorem wd_496 : wdG (Cond.methodLink RX4 116 yX0_turn) := ⟨tin2 _ (List.mem_of_getElem? (i := 228) rfl), good_of_word rfl⟩
theorem wd_497 : wdG (Cond.code yX0_turnCoarsely cX0_turnCoarsely 7 none) := ⟨tin2 _ (List.mem_of_getElem? (i := 227) rfl), good_of_word rfl⟩
theorem wd_498 : wdG (Cond.selects RX0 yX0_turnCoarsely yX0_turnCoarsely) := ⟨tin2 _ (List.mem_of_getElem? (i := 226) rfl), good_of_word rfl⟩
theorem wd_499 : wdG (Cond.instanceMethod yX0_turnCoarsely) := ⟨tin2 _ (List.mem_of_getElem? (i := 225) rfl), good_of_word rfl⟩
theorem wd_500 : wdG (Cond.methodLink RX4 112 yX0_turnCoarsely) := ⟨tin2 _ (List.mem_of_getElem? (i := 224) rfl), good_of_word rfl⟩
theorem wd_501 : wdG (Cond.methodLink RX4 108 yX0_turnIntoBody) := ⟨tin2 _ (List.mem_of_getElem? (i := 223) rfl), good_of_word rfl⟩
theorem wd_502 : wdG (Cond.methodLink RX4 128 arraycopyName) := ⟨tin2 _ (List.mem_of_getElem? (i := 237) rfl), good_of_word rfl⟩
theorem wd_503 : wdG (Cond.code Lib.MathLoose.min_long.x Lib.MathLoose.min_long.code 4 (some .long)) := ⟨tin3 _ (List.mem_of_getElem? (i := 23) rfl), good_of_word rfl⟩
theorem wd_504 : wdG (Cond.static Lib.MathLoose.min_long.x) := ⟨tin3 _ (List.mem_of_getElem? (i := 22) rfl), good_of_word rfl⟩
theorem wd_505 : wdG (Cond.methodLink RX5 9 Lib.MathLoose.min_long.x) := ⟨tin3 _ (List.mem_of_getElem? (i := 21) rfl), good_of_word rfl⟩
theorem wd_506 : wdG (Cond.code yX5_limited cX5_limited 4 (some .long)) := ⟨tin3 _ (List.mem_of_getElem? (i := 20) rfl), good_of_word rfl⟩
theorem wd_507 : wdG (Cond.static yX5_limited) := ⟨tin3 _ (List.mem_of_getElem? (i := 19) rfl), good_of_word rfl⟩
theorem wd_508 : wdG (Cond.methodLink RX4 160 yX5_limited) := ⟨tin3 _ (List.mem_of_getElem? (i := 18) rfl), good_of_word rfl⟩
theorem wd_509 : wdG (Cond.constantLong RX4 158 (16777216)) := ⟨tin3 _ (List.mem_of_getElem? (i := 17) rfl), good_of_word rfl⟩
theorem wd_510 : wdG (Cond.code yX4_headingTurn cX4_headingTurn 5 (some .long)) := ⟨tin3 _ (List.mem_of_getElem? (i := 16) rfl), good_of_word rfl⟩
theorem wd_511 : wdG (Cond.selects RX4 yX4_headingTurn yX4_headingTurn) := ⟨tinP _ (List.mem_of_getElem? (i := 11) rfl), good_of_word rfl⟩
theorem wd_512 : wdG (Cond.instanceMethod yX4_headingTurn) := ⟨tin3 _ (List.mem_of_getElem? (i := 15) rfl), good_of_word rfl⟩
theorem wd_513 : wdG (Cond.methodLink RX4 149 yX4_headingTurn) := ⟨tin3 _ (List.mem_of_getElem? (i := 13) rfl), good_of_word rfl⟩
theorem wd_514 : wdG (Cond.methodLink RX4 154 yX5_isWithin) := ⟨tin3 _ (List.mem_of_getElem? (i := 12) rfl), good_of_word rfl⟩
theorem wd_515 : wdG (Cond.constantLong RX4 152 (262144)) := ⟨tin3 _ (List.mem_of_getElem? (i := 11) rfl), good_of_word rfl⟩
theorem wd_516 : wdG (Cond.code yX4_isSlow cX4_isSlow 2 (some .boolean)) := ⟨tin3 _ (List.mem_of_getElem? (i := 10) rfl), good_of_word rfl⟩
theorem wd_517 : wdG (Cond.selects RX4 yX4_isSlow yX4_isSlow) := ⟨tinP _ (List.mem_of_getElem? (i := 10) rfl), good_of_word rfl⟩
theorem wd_518 : wdG (Cond.instanceMethod yX4_isSlow) := ⟨tin3 _ (List.mem_of_getElem? (i := 9) rfl), good_of_word rfl⟩
theorem wd_519 : wdG (Cond.methodLink RX4 145 yX4_isSlow) := ⟨tin3 _ (List.mem_of_getElem? (i := 7) rfl), good_of_word rfl⟩
theorem wd_520 : wdG (Cond.fieldLink RX4 66 "InertialReference$Estimator" "heading" "I") := ⟨tin1 _ (List.mem_of_getElem? (i := 184) rfl), good_of_word rfl⟩
theorem wd_521 : wdG (Cond.code yX4_seekNorth cX4_seekNorth 5 none) := ⟨tin3 _ (List.mem_of_getElem? (i := 6) rfl), good_of_word rfl⟩
theorem wd_522 : wdG (Cond.selects RX4 yX4_seekNorth yX4_seekNorth) := ⟨tinP _ (List.mem_of_getElem? (i := 9) rfl), good_of_word rfl⟩
theorem wd_523 : wdG (Cond.instanceMethod yX4_seekNorth) := ⟨tin3 _ (List.mem_of_getElem? (i := 5) rfl), good_of_word rfl⟩
theorem wd_524 : wdG (Cond.selects RX0 yX0_angleFrom yX0_angleFrom) := ⟨tin3 _ (List.mem_of_getElem? (i := 48) rfl), good_of_word rfl⟩
theorem wd_525 : wdG (Cond.instanceMethod yX0_angleFrom) := ⟨tin3 _ (List.mem_of_getElem? (i := 47) rfl), good_of_word rfl⟩
theorem wd_526 : wdG (Cond.methodLink RX8 202 yX0_angleFrom) := ⟨tin3 _ (List.mem_of_getElem? (i := 46) rfl), good_of_word rfl⟩
theorem wd_527 : wdG (Cond.code yX8_errorAngle cX8_errorAngle 1 (some .long)) := ⟨tin3 _ (List.mem_of_getElem? (i := 45) rfl), good_of_word rfl⟩
theorem wd_528 : wdG (Cond.selects RX8 yX8_errorAngle yX8_errorAngle) := ⟨tin3 _ (List.mem_of_getElem? (i := 44) rfl), good_of_word rfl⟩
theorem wd_529 : wdG (Cond.instanceMethod yX8_errorAngle) := ⟨tin3 _ (List.mem_of_getElem? (i := 43) rfl), good_of_word rfl⟩
theorem wd_530 : wdG (Cond.methodLink RX8 302 yX8_errorAngle) := ⟨tin3 _ (List.mem_of_getElem? (i := 42) rfl), good_of_word rfl⟩
theorem wd_531 : wdG (Cond.methodLink RX8 299 yX3_column) := ⟨tin3 _ (List.mem_of_getElem? (i := 41) rfl), good_of_word rfl⟩
theorem wd_532 : wdG (Cond.methodLink RX8 182 yX7_bin) := ⟨tin3 _ (List.mem_of_getElem? (i := 40) rfl), good_of_word rfl⟩
theorem wd_533 : wdG (Cond.methodLink RX2 38 yJ9_floorDiv_f86c9) := ⟨tin3 _ (List.mem_of_getElem? (i := 39) rfl), good_of_word rfl⟩
theorem wd_534 : wdG (Cond.fieldLink RX2 25 "InertialReference$Calibration" "ticks" "I") := ⟨tin1 _ (List.mem_of_getElem? (i := 160) rfl), good_of_word rfl⟩
