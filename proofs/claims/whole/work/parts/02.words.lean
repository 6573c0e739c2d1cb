set_option maxRecDepth 20000 in
theorem ggX0_init_X0_align : GoodIn wsX0_init wsX0_align := goodIn_r _ [15, 5, 16, 17, 18, 19, 20, 21, 22, 23, 14, 24, 10, 25, 26, 27, 28, 29, 30] rfl (by decide +kernel)
set_option maxRecDepth 20000 in
theorem gX0_init_X0_align : GoodIn wsX0_init (wsV RX0 29 RX0 yX0_align wsX0_align) := goodIn_app (goodIn_of _ (by decide +kernel)) ggX0_init_X0_align
set_option maxRecDepth 20000 in
theorem ggX0_align_J7_fill_d0a16 : GoodIn wsX0_align wsJ7_fill_d0a16 := goodIn_r _ [6] rfl (by decide +kernel)
set_option maxRecDepth 20000 in
theorem gX0_align_J7_fill_d0a16 : GoodIn wsX0_align (va_wsS RX0 32 yJ7_fill_d0a16 wsJ7_fill_d0a16) := goodIn_app (goodIn_of _ (by decide +kernel)) ggX0_align_J7_fill_d0a16
set_option maxRecDepth 20000 in
theorem ggX0_align_X0_makeMatrix : GoodIn wsX0_align wsX0_makeMatrix := goodIn_r _ [11, 1, 12, 2, 13, 14, 15, 16, 17, 18] rfl (by decide +kernel)
set_option maxRecDepth 20000 in
theorem gX0_align_X0_makeMatrix : GoodIn wsX0_align (wsV RX0 40 RX0 yX0_makeMatrix wsX0_makeMatrix) := goodIn_app (goodIn_of _ (by decide +kernel)) ggX0_align_X0_makeMatrix
set_option maxRecDepth 20000 in
theorem ggX0_set_X0_makeMatrix : GoodIn wsX0_set wsX0_makeMatrix := goodIn_r _ [10, 1, 11, 12, 13, 14, 15, 16, 17, 18] rfl (by decide +kernel)
set_option maxRecDepth 20000 in
theorem gX0_set_X0_makeMatrix : GoodIn wsX0_set (wsV RX0 40 RX0 yX0_makeMatrix wsX0_makeMatrix) := goodIn_app (goodIn_of _ (by decide +kernel)) ggX0_set_X0_makeMatrix
set_option maxRecDepth 20000 in
theorem ggX0_turn_J9_floorDiv_f86c9 : GoodIn wsX0_turn wsJ9_floorDiv_f86c9 := goodIn_r _ [6] rfl (by decide +kernel)
set_option maxRecDepth 20000 in
theorem gX0_turn_J9_floorDiv_f86c9 : GoodIn wsX0_turn (va_wsS RX0 51 yJ9_floorDiv_f86c9 wsJ9_floorDiv_f86c9) := goodIn_app (goodIn_of _ (by decide +kernel)) ggX0_turn_J9_floorDiv_f86c9
set_option maxRecDepth 20000 in
theorem ggX0_turn_X0_multiplyBy : GoodIn wsX0_turn wsX0_multiplyBy := goodIn_r _ [11, 12, 13, 14, 15, 16, 10, 17, 18, 19, 20, 21, 1, 22, 23, 24, 25, 26, 27, 28, 29, 30, 31, 32] rfl (by decide +kernel)
set_option maxRecDepth 20000 in
theorem gX0_turn_X0_multiplyBy : GoodIn wsX0_turn (wsV RX0 57 RX0 yX0_multiplyBy wsX0_multiplyBy) := goodIn_app (goodIn_of _ (by decide +kernel)) ggX0_turn_X0_multiplyBy
set_option maxRecDepth 20000 in
theorem ggX0_turnCoarsely_X0_multiplyBy : GoodIn wsX0_turnCoarsely wsX0_multiplyBy := goodIn_r _ [6, 7, 8, 9, 10, 11, 5, 12, 13, 14, 15, 16, 1, 17, 18, 19, 20, 21, 22, 23, 24, 25, 26, 27] rfl (by decide +kernel)
set_option maxRecDepth 20000 in
theorem gX0_turnCoarsely_X0_multiplyBy : GoodIn wsX0_turnCoarsely (wsV RX0 57 RX0 yX0_multiplyBy wsX0_multiplyBy) := goodIn_app (goodIn_of _ (by decide +kernel)) ggX0_turnCoarsely_X0_multiplyBy
set_option maxRecDepth 20000 in
theorem ggX0_multiplyBy_X0_multiply : GoodIn wsX0_multiplyBy wsX0_multiply := goodIn_r _ [7] rfl (by decide +kernel)
set_option maxRecDepth 20000 in
theorem gX0_multiplyBy_X0_multiply : GoodIn wsX0_multiplyBy (va_wsS RX0 61 yX0_multiply wsX0_multiply) := goodIn_app (goodIn_of _ (by decide +kernel)) ggX0_multiplyBy_X0_multiply
set_option maxRecDepth 20000 in
theorem ggX0_multiplyBy_X0_normalizeProduct : GoodIn wsX0_multiplyBy wsX0_normalizeProduct := goodIn_r _ [11, 3, 12, 2, 19, 20, 21, 22, 23] rfl (by decide +kernel)
set_option maxRecDepth 20000 in
theorem gX0_multiplyBy_X0_normalizeProduct : GoodIn wsX0_multiplyBy (wsV RX0 65 RX0 yX0_normalizeProduct wsX0_normalizeProduct) := goodIn_app (goodIn_of _ (by decide +kernel)) ggX0_multiplyBy_X0_normalizeProduct
set_option maxRecDepth 20000 in
theorem ggX0_multiplyBy_X0_makeMatrix : GoodIn wsX0_multiplyBy wsX0_makeMatrix := goodIn_r _ [16, 2, 17, 12, 18, 19, 20, 21, 22, 23] rfl (by decide +kernel)
set_option maxRecDepth 20000 in
theorem gX0_multiplyBy_X0_makeMatrix : GoodIn wsX0_multiplyBy (wsV RX0 40 RX0 yX0_makeMatrix wsX0_makeMatrix) := goodIn_app (goodIn_of _ (by decide +kernel)) ggX0_multiplyBy_X0_makeMatrix
set_option maxRecDepth 20000 in
theorem ggX0_navigationComponent_X5_isAxis : GoodIn wsX0_navigationComponent wsX5_isAxis := goodIn_r _ [5] rfl (by decide +kernel)
set_option maxRecDepth 20000 in
theorem gX0_navigationComponent_X5_isAxis : GoodIn wsX0_navigationComponent (va_wsS RX0 70 yX5_isAxis wsX5_isAxis) := goodIn_app (goodIn_of _ (by decide +kernel)) ggX0_navigationComponent_X5_isAxis
set_option maxRecDepth 20000 in
theorem ggX0_bodyComponent_X5_isAxis : GoodIn wsX0_bodyComponent wsX5_isAxis := goodIn_r _ [5] rfl (by decide +kernel)
set_option maxRecDepth 20000 in
theorem gX0_bodyComponent_X5_isAxis : GoodIn wsX0_bodyComponent (va_wsS RX0 70 yX5_isAxis wsX5_isAxis) := goodIn_app (goodIn_of _ (by decide +kernel)) ggX0_bodyComponent_X5_isAxis
set_option maxRecDepth 20000 in
theorem ggX0_turnIntoBody_X0_bodyComponent : GoodIn wsX0_turnIntoBody wsX0_bodyComponent := goodIn_r _ [5, 6, 7, 8, 9, 10, 11, 12, 13, 14, 15] rfl (by decide +kernel)
set_option maxRecDepth 20000 in
theorem gX0_turnIntoBody_X0_bodyComponent : GoodIn wsX0_turnIntoBody (wsV RX0 76 RX0 yX0_bodyComponent wsX0_bodyComponent) := goodIn_app (goodIn_of _ (by decide +kernel)) ggX0_turnIntoBody_X0_bodyComponent
set_option maxRecDepth 20000 in
theorem ggX0_angleFrom_X0_multiply : GoodIn wsX0_angleFrom wsX0_multiply := goodIn_r _ [8] rfl (by decide +kernel)
set_option maxRecDepth 20000 in
theorem gX0_angleFrom_X0_multiply : GoodIn wsX0_angleFrom (va_wsS RX0 61 yX0_multiply wsX0_multiply) := goodIn_app (goodIn_of _ (by decide +kernel)) ggX0_angleFrom_X0_multiply
set_option maxRecDepth 20000 in
theorem ggX0_angleFrom_X5_length : GoodIn wsX0_angleFrom wsX5_length := goodIn_r _ [12, 13, 14, 11, 15] rfl (by decide +kernel)
set_option maxRecDepth 20000 in
theorem gX0_angleFrom_X5_length : GoodIn wsX0_angleFrom (va_wsS RX0 80 yX5_length wsX5_length) := goodIn_app (goodIn_of _ (by decide +kernel)) ggX0_angleFrom_X5_length
set_option maxRecDepth 20000 in
theorem ggX1_put_X1_placeOf : GoodIn wsX1_put wsX1_placeOf := goodIn_r _ [12, 1, 2, 13, 14, 15, 16] rfl (by decide +kernel)
set_option maxRecDepth 20000 in
theorem gX1_put_X1_placeOf : GoodIn wsX1_put (wsV RX1 26 RX1 yX1_placeOf wsX1_placeOf) := goodIn_app (goodIn_of _ (by decide +kernel)) ggX1_put_X1_placeOf
set_option maxRecDepth 20000 in
theorem ggX2_start_J7_fill_d0a16 : GoodIn wsX2_start wsJ7_fill_d0a16 := goodIn_r _ [7] rfl (by decide +kernel)
set_option maxRecDepth 20000 in
theorem gX2_start_J7_fill_d0a16 : GoodIn wsX2_start (va_wsS RX2 19 yJ7_fill_d0a16 wsJ7_fill_d0a16) := goodIn_app (goodIn_of _ (by decide +kernel)) ggX2_start_J7_fill_d0a16
set_option maxRecDepth 20000 in
theorem ggX2_add_X2_isRunning : GoodIn wsX2_add wsX2_isRunning := goodIn_r _ [6, 7, 12, 13, 14] rfl (by decide +kernel)
set_option maxRecDepth 20000 in
theorem gX2_add_X2_isRunning : GoodIn wsX2_add (wsV RX2 28 RX2 yX2_isRunning wsX2_isRunning) := goodIn_app (goodIn_of _ (by decide +kernel)) ggX2_add_X2_isRunning
set_option maxRecDepth 20000 in
theorem ggX2_add_X5_isAxis : GoodIn wsX2_add wsX5_isAxis := goodIn_r _ [11] rfl (by decide +kernel)
set_option maxRecDepth 20000 in
theorem gX2_add_X5_isAxis : GoodIn wsX2_add (va_wsS RX2 32 yX5_isAxis wsX5_isAxis) := goodIn_app (goodIn_of _ (by decide +kernel)) ggX2_add_X5_isAxis
set_option maxRecDepth 20000 in
theorem ggX2_endsWithThisTick_X2_isRunning : GoodIn wsX2_endsWithThisTick wsX2_isRunning := goodIn_r _ [6, 1, 7, 8, 9] rfl (by decide +kernel)
set_option maxRecDepth 20000 in
theorem gX2_endsWithThisTick_X2_isRunning : GoodIn wsX2_endsWithThisTick (wsV RX2 28 RX2 yX2_isRunning wsX2_isRunning) := goodIn_app (goodIn_of _ (by decide +kernel)) ggX2_endsWithThisTick_X2_isRunning
set_option maxRecDepth 20000 in
theorem ggX2_mean_X5_isAxis : GoodIn wsX2_mean wsX5_isAxis := goodIn_r _ [6] rfl (by decide +kernel)
set_option maxRecDepth 20000 in
theorem gX2_mean_X5_isAxis : GoodIn wsX2_mean (va_wsS RX2 32 yX5_isAxis wsX5_isAxis) := goodIn_app (goodIn_of _ (by decide +kernel)) ggX2_mean_X5_isAxis
set_option maxRecDepth 20000 in
theorem ggX2_mean_J9_floorDiv_f86c9 : GoodIn wsX2_mean wsJ9_floorDiv_f86c9 := goodIn_r _ [10] rfl (by decide +kernel)
set_option maxRecDepth 20000 in
theorem gX2_mean_J9_floorDiv_f86c9 : GoodIn wsX2_mean (va_wsS RX2 38 yJ9_floorDiv_f86c9 wsJ9_floorDiv_f86c9) := goodIn_app (goodIn_of _ (by decide +kernel)) ggX2_mean_J9_floorDiv_f86c9
set_option maxRecDepth 20000 in
theorem ggX3_placeOf_X5_isAxis : GoodIn wsX3_placeOf wsX5_isAxis := goodIn_r _ [4] rfl (by decide +kernel)
set_option maxRecDepth 20000 in
theorem gX3_placeOf_X5_isAxis : GoodIn wsX3_placeOf (va_wsS RX3 19 yX5_isAxis wsX5_isAxis) := goodIn_app (goodIn_of _ (by decide +kernel)) ggX3_placeOf_X5_isAxis
set_option maxRecDepth 20000 in
theorem ggX3_placeOf_X3_hasBin : GoodIn wsX3_placeOf wsX3_hasBin := goodIn_r _ [8] rfl (by decide +kernel)
set_option maxRecDepth 20000 in
theorem gX3_placeOf_X3_hasBin : GoodIn wsX3_placeOf (va_wsS RX3 25 yX3_hasBin wsX3_hasBin) := goodIn_app (goodIn_of _ (by decide +kernel)) ggX3_placeOf_X3_hasBin
set_option maxRecDepth 20000 in
theorem ggX3_placeOf_X3_column : GoodIn wsX3_placeOf wsX3_column := goodIn_r _ [11] rfl (by decide +kernel)
set_option maxRecDepth 20000 in
theorem gX3_placeOf_X3_column : GoodIn wsX3_placeOf (va_wsS RX3 28 yX3_column wsX3_column) := goodIn_app (goodIn_of _ (by decide +kernel)) ggX3_placeOf_X3_column
set_option maxRecDepth 20000 in
theorem ggX3_put_X3_placeOf : GoodIn wsX3_put wsX3_placeOf := goodIn_r _ [7, 8, 9, 10, 11, 12, 13, 6, 14, 15, 16, 17] rfl (by decide +kernel)
set_option maxRecDepth 20000 in
theorem gX3_put_X3_placeOf : GoodIn wsX3_put (va_wsS RX3 32 yX3_placeOf wsX3_placeOf) := goodIn_app (goodIn_of _ (by decide +kernel)) ggX3_put_X3_placeOf
set_option maxRecDepth 20000 in
theorem ggX3_value_X3_placeOf : GoodIn wsX3_value wsX3_placeOf := goodIn_r _ [5, 6, 7, 8, 9, 10, 11, 4, 12, 13, 14, 15] rfl (by decide +kernel)
set_option maxRecDepth 20000 in
theorem gX3_value_X3_placeOf : GoodIn wsX3_value (va_wsS RX3 32 yX3_placeOf wsX3_placeOf) := goodIn_app (goodIn_of _ (by decide +kernel)) ggX3_value_X3_placeOf
set_option maxRecDepth 20000 in
theorem ggX3_absorb_X3_value : GoodIn wsX3_absorb wsX3_value := goodIn_r _ [6, 7, 8, 9, 5, 10, 11, 12, 13, 14, 15, 16, 17, 18, 19, 20, 37, 38, 39] rfl (by decide +kernel)
set_option maxRecDepth 20000 in
theorem gX3_absorb_X3_value : GoodIn wsX3_absorb (wsV RX3 40 RX3 yX3_value wsX3_value) := goodIn_app (goodIn_of _ (by decide +kernel)) ggX3_absorb_X3_value
set_option maxRecDepth 20000 in
theorem ggX3_absorb_X5_limited : GoodIn wsX3_absorb wsX5_limited := goodIn_r _ [23, 24, 25, 26, 27, 28, 29, 30] rfl (by decide +kernel)
set_option maxRecDepth 20000 in
theorem gX3_absorb_X5_limited : GoodIn wsX3_absorb (va_wsS RX3 45 yX5_limited wsX5_limited) := goodIn_app (goodIn_of _ (by decide +kernel)) ggX3_absorb_X5_limited
set_option maxRecDepth 20000 in
theorem ggX3_absorb_X3_put : GoodIn wsX3_absorb wsX3_put := goodIn_r _ [34, 7, 35, 36, 8, 9, 5, 10, 11, 12, 13, 14, 15, 16, 17, 18, 19, 20, 37, 38, 39] rfl (by decide +kernel)
set_option maxRecDepth 20000 in
theorem gX3_absorb_X3_put : GoodIn wsX3_absorb (wsV RX3 49 RX3 yX3_put wsX3_put) := goodIn_app (goodIn_of _ (by decide +kernel)) ggX3_absorb_X3_put
set_option maxRecDepth 20000 in
theorem ggX3_removeBin_X3_placeOf : GoodIn wsX3_removeBin wsX3_placeOf := goodIn_r _ [7, 8, 9, 10, 11, 12, 13, 6, 14, 15, 16, 17] rfl (by decide +kernel)
set_option maxRecDepth 20000 in
theorem gX3_removeBin_X3_placeOf : GoodIn wsX3_removeBin (va_wsS RX3 32 yX3_placeOf wsX3_placeOf) := goodIn_app (goodIn_of _ (by decide +kernel)) ggX3_removeBin_X3_placeOf
set_option maxRecDepth 20000 in
theorem ggX3_empty_X3_removeBin : GoodIn wsX3_empty wsX3_removeBin := goodIn_r _ [5, 6, 7, 8, 9, 10, 4, 11, 12, 13, 14, 15, 16, 17, 18, 19, 20, 21, 22, 23, 24] rfl (by decide +kernel)
set_option maxRecDepth 20000 in
theorem gX3_empty_X3_removeBin : GoodIn wsX3_empty (wsV RX3 53 RX3 yX3_removeBin wsX3_removeBin) := goodIn_app (goodIn_of _ (by decide +kernel)) ggX3_empty_X3_removeBin
set_option maxRecDepth 20000 in
theorem ggX4_init_X0_init : GoodIn wsX4_init wsX0_init := goodIn_r _ [23, 24, 2, 3, 12, 25, 26, 27, 28, 29, 30, 31, 32, 33, 6, 34, 35, 36, 37, 38, 39, 40, 41, 42, 43, 44, 49, 50, 51, 52, 53] rfl (by decide +kernel)
set_option maxRecDepth 20000 in
theorem gX4_init_X0_init : GoodIn wsX4_init (wsX0_init) := ggX4_init_X0_init
set_option maxRecDepth 20000 in
theorem ggX4_init_X2_init : GoodIn wsX4_init wsX2_init := goodIn_r _ [46, 47, 2, 3, 12, 48, 66, 67, 68] rfl (by decide +kernel)
set_option maxRecDepth 20000 in
theorem gX4_init_X2_init_n20 : GoodIn wsX4_init (wsX2_init) := ggX4_init_X2_init
set_option maxRecDepth 20000 in
theorem ggX4_restore_X0_align : GoodIn wsX4_restore wsX0_align := goodIn_r _ [13, 14, 15, 16, 17, 18, 19, 20, 21, 22, 12, 23, 24, 25, 46, 47, 48, 49, 50] rfl (by decide +kernel)
set_option maxRecDepth 20000 in
theorem gX4_restore_X0_align : GoodIn wsX4_restore (wsV RX4 51 RX0 yX0_align wsX0_align) := goodIn_app (goodIn_of _ (by decide +kernel)) ggX4_restore_X0_align
set_option maxRecDepth 20000 in
theorem ggX4_restore_X2_stop : GoodIn wsX4_restore wsX2_stop := goodIn_r _ [30, 31, 32, 51, 52, 53] rfl (by decide +kernel)
set_option maxRecDepth 20000 in
theorem gX4_restore_X2_stop : GoodIn wsX4_restore (wsV RX4 54 RX2 yX2_stop wsX2_stop) := goodIn_app (goodIn_of _ (by decide +kernel)) ggX4_restore_X2_stop
set_option maxRecDepth 20000 in
theorem ggX4_restore_J7_fill_d0a16 : GoodIn wsX4_restore wsJ7_fill_d0a16 := goodIn_r _ [19] rfl (by decide +kernel)
set_option maxRecDepth 20000 in
theorem gX4_restore_J7_fill_d0a16 : GoodIn wsX4_restore (va_wsS RX4 57 yJ7_fill_d0a16 wsJ7_fill_d0a16) := goodIn_app (goodIn_of _ (by decide +kernel)) ggX4_restore_J7_fill_d0a16
set_option maxRecDepth 20000 in
theorem ggX4_changeHeading_J7_fill_d0a16 : GoodIn wsX4_changeHeading wsJ7_fill_d0a16 := goodIn_r _ [6] rfl (by decide +kernel)
set_option maxRecDepth 20000 in
theorem gX4_changeHeading_J7_fill_d0a16 : GoodIn wsX4_changeHeading (va_wsS RX4 57 yJ7_fill_d0a16 wsJ7_fill_d0a16) := goodIn_app (goodIn_of _ (by decide +kernel)) ggX4_changeHeading_J7_fill_d0a16
set_option maxRecDepth 20000 in
theorem ggX4_follow_X4_correct : GoodIn wsX4_follow wsX4_correct := goodIn_r _ [5, 6, 7, 8, 9, 10, 11, 12, 13, 14, 15, 16, 17, 18, 19, 20, 21, 22, 23, 24, 25, 26, 27, 28, 29, 30, 31, 32, 33, 34, 35, 36, 37, 38, 39, 40, 41, 42, 43, 44, 45, 46, 47, 48, 49, 163, 164, 165, 166, 167, 168, 169, 170, 171, 172, 173, 174, 175, 176, 177, 178, 179, 180, 181, 182, 183, 184, 185, 186, 187, 188, 189, 190] rfl (by decide +kernel)
set_option maxRecDepth 20000 in
theorem gX4_follow_X4_correct : GoodIn wsX4_follow (wsV RX4 69 RX4 yX4_correct wsX4_correct) := goodIn_app (goodIn_of _ (by decide +kernel)) ggX4_follow_X4_correct
set_option maxRecDepth 20000 in
theorem ggX4_follow_X4_propagate : GoodIn wsX4_follow wsX4_propagate := goodIn_r _ [53, 54, 55, 56, 7, 57, 58, 59, 60, 61, 62, 63, 64, 65, 66, 67, 68, 69, 70, 71, 72, 73, 74, 29, 30, 31, 75, 76, 77, 78, 79, 80, 81, 82, 83, 84, 85, 86, 87, 88, 89, 90, 91, 92, 93, 94, 95, 96, 97, 98, 99, 100, 101, 102, 103, 104, 105, 17, 106, 107, 108, 109, 110, 111, 4, 112, 113, 114, 173, 174, 175, 176, 177, 178, 179, 180, 181, 182, 183, 184, 191, 192, 193, 194, 195] rfl (by decide +kernel)
set_option maxRecDepth 20000 in
theorem gX4_follow_X4_propagate : GoodIn wsX4_follow (wsV RX4 73 RX4 yX4_propagate wsX4_propagate) := goodIn_app (goodIn_of _ (by decide +kernel)) ggX4_follow_X4_propagate
set_option maxRecDepth 20000 in
theorem ggX4_follow_X4_level : GoodIn wsX4_follow wsX4_level := goodIn_r _ [118, 119, 54, 55, 59, 64, 65, 66, 67, 68, 69, 70, 71, 72, 73, 74, 29, 30, 31, 107, 108, 109, 99, 100, 101, 102, 79, 103, 104, 105, 17, 106, 80, 81, 82, 83, 84, 85, 86, 87, 88, 89, 90, 91, 92, 93, 94, 95, 96, 97, 98, 173, 174, 175, 176, 177, 178, 179, 180, 181, 182, 183, 184, 191, 192, 193, 194, 195] rfl (by decide +kernel)
set_option maxRecDepth 20000 in
theorem gX4_follow_X4_level : GoodIn wsX4_follow (wsV RX4 82 RX4 yX4_level wsX4_level) := goodIn_app (goodIn_of _ (by decide +kernel)) ggX4_follow_X4_level
set_option maxRecDepth 20000 in
theorem ggX4_follow_X4_seekNorth : GoodIn wsX4_follow wsX4_seekNorth := goodIn_r _ [123, 124, 125, 7, 54, 55, 59, 126, 127, 128, 4, 129, 130, 131, 132, 30, 133, 64, 65, 66, 67, 68, 69, 70, 71, 72, 73, 74, 29, 31, 107, 108, 109, 134, 135, 136, 137, 138, 114, 105, 17, 106, 139, 140, 141, 142, 143, 144, 145, 146, 147, 148, 99, 100, 101, 102, 79, 103, 104, 80, 81, 82, 83, 84, 85, 86, 87, 88, 89, 90, 91, 92, 93, 94, 95, 96, 97, 98, 173, 174, 175, 176, 177, 178, 179, 180, 181, 182, 183, 184, 191, 192, 193, 194, 195] rfl (by decide +kernel)
set_option maxRecDepth 20000 in
theorem gX4_follow_X4_seekNorth : GoodIn wsX4_follow (wsV RX4 85 RX4 yX4_seekNorth wsX4_seekNorth) := goodIn_app (goodIn_of _ (by decide +kernel)) ggX4_follow_X4_seekNorth
set_option maxRecDepth 20000 in
theorem ggX4_follow_X4_calibrate : GoodIn wsX4_follow wsX4_calibrate := goodIn_r _ [152, 6, 54, 55, 8, 153, 154, 155, 41, 156, 48, 44, 45, 46, 47, 64, 65, 66, 67, 68, 69, 70, 71, 72, 73, 74, 29, 30, 31, 157, 158, 159, 160, 161, 43, 49, 162, 105, 17, 106, 173, 174, 175, 176, 177, 178, 179, 180, 181, 182, 183, 184, 188, 189, 190, 191, 192, 193, 194, 195] rfl (by decide +kernel)
set_option maxRecDepth 20000 in
theorem gX4_follow_X4_calibrate : GoodIn wsX4_follow (wsV RX4 88 RX4 yX4_calibrate wsX4_calibrate) := goodIn_app (goodIn_of _ (by decide +kernel)) ggX4_follow_X4_calibrate
set_option maxRecDepth 20000 in
theorem ggX4_correct_X7_bin : GoodIn wsX4_correct wsX7_bin := goodIn_r _ [8, 9, 10, 11, 12, 13, 45, 46, 47, 48, 49, 50, 51, 52, 53, 54] rfl (by decide +kernel)
set_option maxRecDepth 20000 in
theorem gX4_correct_X7_bin : GoodIn wsX4_correct (wsV RX4 91 RX7 yX7_bin wsX7_bin) := goodIn_app (goodIn_of _ (by decide +kernel)) ggX4_correct_X7_bin
set_option maxRecDepth 20000 in
theorem ggX4_correct_X3_value : GoodIn wsX4_correct wsX3_value := goodIn_r _ [18, 19, 20, 21, 17, 22, 23, 24, 25, 26, 27, 28, 29, 30, 31, 32, 67, 68, 69] rfl (by decide +kernel)
set_option maxRecDepth 20000 in
theorem gX4_correct_X3_value : GoodIn wsX4_correct (wsV RX4 98 RX3 yX3_value wsX3_value) := goodIn_app (goodIn_of _ (by decide +kernel)) ggX4_correct_X3_value
set_option maxRecDepth 20000 in
theorem ggX4_correct_X2_add : GoodIn wsX4_correct wsX2_add := goodIn_r _ [37, 38, 39, 40, 41, 36, 42, 43, 44, 24, 25, 26, 70, 71, 72] rfl (by decide +kernel)
set_option maxRecDepth 20000 in
theorem gX4_correct_X2_add : GoodIn wsX4_correct (wsV RX4 104 RX2 yX2_add wsX2_add) := goodIn_app (goodIn_of _ (by decide +kernel)) ggX4_correct_X2_add
set_option maxRecDepth 20000 in
theorem ggX4_propagate_X0_turnIntoBody : GoodIn wsX4_propagate wsX0_turnIntoBody := goodIn_r _ [16, 17, 18, 19, 15, 20, 21, 22, 23, 24, 25, 80, 81, 82, 83, 84] rfl (by decide +kernel)
set_option maxRecDepth 20000 in
theorem gX4_propagate_X0_turnIntoBody : GoodIn wsX4_propagate (wsV RX4 108 RX0 yX0_turnIntoBody wsX0_turnIntoBody) := goodIn_app (goodIn_of _ (by decide +kernel)) ggX4_propagate_X0_turnIntoBody
set_option maxRecDepth 20000 in
theorem ggX4_propagate_X0_turnCoarsely : GoodIn wsX4_propagate wsX0_turnCoarsely := goodIn_r _ [29, 30, 31, 32, 33, 15, 34, 35, 36, 37, 38, 39, 40, 41, 42, 43, 44, 45, 46, 47, 48, 21, 49, 80, 81, 82, 83, 84] rfl (by decide +kernel)
set_option maxRecDepth 20000 in
theorem gX4_propagate_X0_turnCoarsely : GoodIn wsX4_propagate (wsV RX4 112 RX0 yX0_turnCoarsely wsX0_turnCoarsely) := goodIn_app (goodIn_of _ (by decide +kernel)) ggX4_propagate_X0_turnCoarsely
set_option maxRecDepth 20000 in
theorem ggX4_propagate_X0_turn : GoodIn wsX4_propagate wsX0_turn := goodIn_r _ [53, 30, 54, 55, 56, 57, 58, 31, 32, 33, 15, 34, 35, 36, 37, 38, 39, 40, 41, 42, 43, 44, 45, 46, 47, 48, 21, 49, 80, 81, 82, 83, 84] rfl (by decide +kernel)
set_option maxRecDepth 20000 in
theorem gX4_propagate_X0_turn : GoodIn wsX4_propagate (wsV RX4 116 RX0 yX0_turn wsX0_turn) := goodIn_app (goodIn_of _ (by decide +kernel)) ggX4_propagate_X0_turn
set_option maxRecDepth 20000 in
theorem ggX4_propagate_X5_cross : GoodIn wsX4_propagate wsX5_cross := goodIn_r _ [61] rfl (by decide +kernel)
set_option maxRecDepth 20000 in
theorem gX4_propagate_X5_cross : GoodIn wsX4_propagate (va_wsS RX4 118 yX5_cross wsX5_cross) := goodIn_app (goodIn_of _ (by decide +kernel)) ggX4_propagate_X5_cross
set_option maxRecDepth 20000 in
theorem ggX4_propagate_X4_coning : GoodIn wsX4_propagate wsX4_coning := goodIn_r _ [65, 66, 67, 56, 57, 58] rfl (by decide +kernel)
set_option maxRecDepth 20000 in
theorem gX4_propagate_X4_coning : GoodIn wsX4_propagate (va_wsS RX4 124 yX4_coning wsX4_coning) := goodIn_app (goodIn_of _ (by decide +kernel)) ggX4_propagate_X4_coning
set_option maxRecDepth 20000 in
theorem ggX4_coning_J9_floorDiv_f86c9 : GoodIn wsX4_coning wsJ9_floorDiv_f86c9 := goodIn_r _ [5] rfl (by decide +kernel)
set_option maxRecDepth 20000 in
theorem gX4_coning_J9_floorDiv_f86c9 : GoodIn wsX4_coning (va_wsS RX4 136 yJ9_floorDiv_f86c9 wsJ9_floorDiv_f86c9) := goodIn_app (goodIn_of _ (by decide +kernel)) ggX4_coning_J9_floorDiv_f86c9
set_option maxRecDepth 20000 in
theorem ggX4_level_X0_turnIntoBody : GoodIn wsX4_level wsX0_turnIntoBody := goodIn_r _ [9, 10, 11, 12, 8, 13, 14, 15, 16, 17, 18, 63, 64, 65, 66, 67] rfl (by decide +kernel)
set_option maxRecDepth 20000 in
theorem gX4_level_X0_turnIntoBody : GoodIn wsX4_level (wsV RX4 108 RX0 yX0_turnIntoBody wsX0_turnIntoBody) := goodIn_app (goodIn_of _ (by decide +kernel)) ggX4_level_X0_turnIntoBody
set_option maxRecDepth 20000 in
theorem ggX4_level_X5_cross : GoodIn wsX4_level wsX5_cross := goodIn_r _ [21] rfl (by decide +kernel)
set_option maxRecDepth 20000 in
theorem gX4_level_X5_cross : GoodIn wsX4_level (va_wsS RX4 118 yX5_cross wsX5_cross) := goodIn_app (goodIn_of _ (by decide +kernel)) ggX4_level_X5_cross
set_option maxRecDepth 20000 in
theorem ggX4_level_X0_turn : GoodIn wsX4_level wsX0_turn := goodIn_r _ [25, 26, 27, 28, 29, 30, 31, 32, 33, 34, 8, 35, 36, 37, 38, 39, 40, 41, 42, 43, 44, 45, 46, 47, 48, 49, 14, 50, 63, 64, 65, 66, 67] rfl (by decide +kernel)
set_option maxRecDepth 20000 in
theorem gX4_level_X0_turn : GoodIn wsX4_level (wsV RX4 116 RX0 yX0_turn wsX0_turn) := goodIn_app (goodIn_of _ (by decide +kernel)) ggX4_level_X0_turn
set_option maxRecDepth 20000 in
theorem ggX4_seekNorth_X4_isSlow : GoodIn wsX4_seekNorth wsX4_isSlow := goodIn_r _ [11, 3, 12, 13, 14, 15, 16, 78, 79, 80, 81, 82, 83, 84, 85, 86, 87, 88, 89] rfl (by decide +kernel)
set_option maxRecDepth 20000 in
theorem gX4_seekNorth_X4_isSlow : GoodIn wsX4_seekNorth (wsV RX4 145 RX4 yX4_isSlow wsX4_isSlow) := goodIn_app (goodIn_of _ (by decide +kernel)) ggX4_seekNorth_X4_isSlow
set_option maxRecDepth 20000 in
theorem ggX4_seekNorth_X0_turnIntoBody : GoodIn wsX4_seekNorth wsX0_turnIntoBody := goodIn_r _ [21, 22, 23, 24, 20, 25, 26, 27, 28, 15, 29, 90, 91, 92, 93, 94] rfl (by decide +kernel)
set_option maxRecDepth 20000 in
theorem gX4_seekNorth_X0_turnIntoBody : GoodIn wsX4_seekNorth (wsV RX4 108 RX0 yX0_turnIntoBody wsX0_turnIntoBody) := goodIn_app (goodIn_of _ (by decide +kernel)) ggX4_seekNorth_X0_turnIntoBody
set_option maxRecDepth 20000 in
theorem ggX4_seekNorth_X5_cross : GoodIn wsX4_seekNorth wsX5_cross := goodIn_r _ [32] rfl (by decide +kernel)
set_option maxRecDepth 20000 in
theorem gX4_seekNorth_X5_cross : GoodIn wsX4_seekNorth (va_wsS RX4 118 yX5_cross wsX5_cross) := goodIn_app (goodIn_of _ (by decide +kernel)) ggX4_seekNorth_X5_cross
set_option maxRecDepth 20000 in
theorem ggX4_seekNorth_X4_headingTurn : GoodIn wsX4_seekNorth wsX4_headingTurn := goodIn_r _ [36, 1, 37, 38, 39, 40, 41, 42, 43, 15, 44, 45, 46, 47, 48, 49, 50, 51, 78, 79, 80, 81, 82, 83, 84, 85, 86, 87, 88, 89] rfl (by decide +kernel)
set_option maxRecDepth 20000 in
theorem gX4_seekNorth_X4_headingTurn : GoodIn wsX4_seekNorth (wsV RX4 149 RX4 yX4_headingTurn wsX4_headingTurn) := goodIn_app (goodIn_of _ (by decide +kernel)) ggX4_seekNorth_X4_headingTurn
set_option maxRecDepth 20000 in
theorem ggX4_seekNorth_X0_turn : GoodIn wsX4_seekNorth wsX0_turn := goodIn_r _ [55, 56, 57, 58, 39, 40, 41, 59, 60, 61, 20, 62, 63, 64, 65, 66, 67, 68, 69, 70, 71, 72, 73, 74, 75, 76, 26, 77, 90, 91, 92, 93, 94] rfl (by decide +kernel)
set_option maxRecDepth 20000 in
theorem gX4_seekNorth_X0_turn : GoodIn wsX4_seekNorth (wsV RX4 116 RX0 yX0_turn wsX0_turn) := goodIn_app (goodIn_of _ (by decide +kernel)) ggX4_seekNorth_X0_turn
set_option maxRecDepth 20000 in
theorem ggX4_isSlow_X5_isWithin : GoodIn wsX4_isSlow wsX5_isWithin := goodIn_r _ [6] rfl (by decide +kernel)
set_option maxRecDepth 20000 in
theorem gX4_isSlow_X5_isWithin : GoodIn wsX4_isSlow (va_wsS RX4 154 yX5_isWithin wsX5_isWithin) := goodIn_app (goodIn_of _ (by decide +kernel)) ggX4_isSlow_X5_isWithin
set_option maxRecDepth 20000 in
theorem ggX4_headingTurn_J9_floorDiv_f86c9 : GoodIn wsX4_headingTurn wsJ9_floorDiv_f86c9 := goodIn_r _ [6] rfl (by decide +kernel)
set_option maxRecDepth 20000 in
theorem gX4_headingTurn_J9_floorDiv_f86c9 : GoodIn wsX4_headingTurn (va_wsS RX4 136 yJ9_floorDiv_f86c9 wsJ9_floorDiv_f86c9) := goodIn_app (goodIn_of _ (by decide +kernel)) ggX4_headingTurn_J9_floorDiv_f86c9
set_option maxRecDepth 20000 in
theorem ggX4_headingTurn_X5_limited : GoodIn wsX4_headingTurn wsX5_limited := goodIn_r _ [10, 11, 12, 13, 14, 15, 16, 17] rfl (by decide +kernel)
set_option maxRecDepth 20000 in
theorem gX4_headingTurn_X5_limited : GoodIn wsX4_headingTurn (va_wsS RX4 160 yX5_limited wsX5_limited) := goodIn_app (goodIn_of _ (by decide +kernel)) ggX4_headingTurn_X5_limited
set_option maxRecDepth 20000 in
theorem ggX4_calibrate_X2_endsWithThisTick : GoodIn wsX4_calibrate wsX2_endsWithThisTick := goodIn_r _ [9, 10, 11, 12, 13, 8, 14, 52, 53, 54] rfl (by decide +kernel)
set_option maxRecDepth 20000 in
theorem gX4_calibrate_X2_endsWithThisTick : GoodIn wsX4_calibrate (wsV RX4 163 RX2 yX2_endsWithThisTick wsX2_endsWithThisTick) := goodIn_app (goodIn_of _ (by decide +kernel)) ggX4_calibrate_X2_endsWithThisTick
set_option maxRecDepth 20000 in
theorem ggX4_calibrate_X0_turnIntoBody : GoodIn wsX4_calibrate wsX0_turnIntoBody := goodIn_r _ [19, 20, 21, 22, 18, 23, 24, 25, 26, 27, 28, 55, 56, 57, 58, 59] rfl (by decide +kernel)
set_option maxRecDepth 20000 in
theorem gX4_calibrate_X0_turnIntoBody : GoodIn wsX4_calibrate (wsV RX4 108 RX0 yX0_turnIntoBody wsX0_turnIntoBody) := goodIn_app (goodIn_of _ (by decide +kernel)) ggX4_calibrate_X0_turnIntoBody
set_option maxRecDepth 20000 in
theorem ggX4_calibrate_X2_mean : GoodIn wsX4_calibrate wsX2_mean := goodIn_r _ [32, 33, 34, 35, 26, 27, 28, 36, 37, 38, 39, 52, 53, 54] rfl (by decide +kernel)
set_option maxRecDepth 20000 in
theorem gX4_calibrate_X2_mean : GoodIn wsX4_calibrate (wsV RX4 166 RX2 yX2_mean wsX2_mean) := goodIn_app (goodIn_of _ (by decide +kernel)) ggX4_calibrate_X2_mean
set_option maxRecDepth 20000 in
theorem ggX5_length_X5_root : GoodIn wsX5_length wsX5_root := goodIn_r _ [4] rfl (by decide +kernel)
set_option maxRecDepth 20000 in
theorem gX5_length_X5_root : GoodIn wsX5_length (va_wsS RX5 18 yX5_root wsX5_root) := goodIn_app (goodIn_of _ (by decide +kernel)) ggX5_length_X5_root
set_option maxRecDepth 20000 in
theorem ggX6_takeTick_J7_fill_d0a16 : GoodIn wsX6_takeTick wsJ7_fill_d0a16 := goodIn_r _ [9] rfl (by decide +kernel)
set_option maxRecDepth 20000 in
theorem gX6_takeTick_J7_fill_d0a16 : GoodIn wsX6_takeTick (va_wsS RX6 28 yJ7_fill_d0a16 wsJ7_fill_d0a16) := goodIn_app (goodIn_of _ (by decide +kernel)) ggX6_takeTick_J7_fill_d0a16
set_option maxRecDepth 20000 in
theorem ggX6_takeTick_X6_removeFirst : GoodIn wsX6_takeTick wsX6_removeFirst := goodIn_r _ [14, 1, 5, 15, 16, 17, 18, 2, 3, 4, 19, 20, 21, 22, 23] rfl (by decide +kernel)
set_option maxRecDepth 20000 in
theorem gX6_takeTick_X6_removeFirst : GoodIn wsX6_takeTick (wsV RX6 34 RX6 yX6_removeFirst wsX6_removeFirst) := goodIn_app (goodIn_of _ (by decide +kernel)) ggX6_takeTick_X6_removeFirst
set_option maxRecDepth 20000 in
theorem ggX7_restore_J7_fill_53178 : GoodIn wsX7_restore wsJ7_fill_53178 := goodIn_r _ [13] rfl (by decide +kernel)
set_option maxRecDepth 20000 in
theorem gX7_restore_J7_fill_53178 : GoodIn wsX7_restore (va_wsS RX7 41 yJ7_fill_53178 wsJ7_fill_53178) := goodIn_app (goodIn_of _ (by decide +kernel)) ggX7_restore_J7_fill_53178
set_option maxRecDepth 20000 in
theorem ggX7_restore_J7_fill_d0a16 : GoodIn wsX7_restore wsJ7_fill_d0a16 := goodIn_r _ [16] rfl (by decide +kernel)
set_option maxRecDepth 20000 in
theorem gX7_restore_J7_fill_d0a16 : GoodIn wsX7_restore (va_wsS RX7 47 yJ7_fill_d0a16 wsJ7_fill_d0a16) := goodIn_app (goodIn_of _ (by decide +kernel)) ggX7_restore_J7_fill_d0a16
set_option maxRecDepth 20000 in
theorem ggX7_setGyroErrors_X5_isAxis : GoodIn wsX7_setGyroErrors wsX5_isAxis := goodIn_r _ [8] rfl (by decide +kernel)
set_option maxRecDepth 20000 in
theorem gX7_setGyroErrors_X5_isAxis : GoodIn wsX7_setGyroErrors (va_wsS RX7 53 yX5_isAxis wsX5_isAxis) := goodIn_app (goodIn_of _ (by decide +kernel)) ggX7_setGyroErrors_X5_isAxis
set_option maxRecDepth 20000 in
theorem ggX7_setAccelerometerBias_X5_isAxis : GoodIn wsX7_setAccelerometerBias wsX5_isAxis := goodIn_r _ [5] rfl (by decide +kernel)
set_option maxRecDepth 20000 in
theorem gX7_setAccelerometerBias_X5_isAxis : GoodIn wsX7_setAccelerometerBias (va_wsS RX7 53 yX5_isAxis wsX5_isAxis) := goodIn_app (goodIn_of _ (by decide +kernel)) ggX7_setAccelerometerBias_X5_isAxis
set_option maxRecDepth 20000 in
theorem ggX7_bin_J9_floorDiv_7cf53 : GoodIn wsX7_bin wsJ9_floorDiv_7cf53 := goodIn_r _ [5] rfl (by decide +kernel)
set_option maxRecDepth 20000 in
theorem gX7_bin_J9_floorDiv_7cf53 : GoodIn wsX7_bin (va_wsS RX7 59 yJ9_floorDiv_7cf53 wsJ9_floorDiv_7cf53) := goodIn_app (goodIn_of _ (by decide +kernel)) ggX7_bin_J9_floorDiv_7cf53
set_option maxRecDepth 20000 in
theorem ggX7_senseRates_X0_turnIntoBody : GoodIn wsX7_senseRates wsX0_turnIntoBody := goodIn_r _ [13, 14, 15, 16, 12, 17, 18, 19, 20, 21, 22, 47, 48, 49, 50, 51] rfl (by decide +kernel)
set_option maxRecDepth 20000 in
theorem gX7_senseRates_X0_turnIntoBody : GoodIn wsX7_senseRates (wsV RX7 65 RX0 yX0_turnIntoBody wsX0_turnIntoBody) := goodIn_app (goodIn_of _ (by decide +kernel)) ggX7_senseRates_X0_turnIntoBody
set_option maxRecDepth 20000 in
theorem ggX7_senseRates_J9_floorDiv_f86c9 : GoodIn wsX7_senseRates wsJ9_floorDiv_f86c9 := goodIn_r _ [26] rfl (by decide +kernel)
set_option maxRecDepth 20000 in
theorem gX7_senseRates_J9_floorDiv_f86c9 : GoodIn wsX7_senseRates (va_wsS RX7 73 yJ9_floorDiv_f86c9 wsJ9_floorDiv_f86c9) := goodIn_app (goodIn_of _ (by decide +kernel)) ggX7_senseRates_J9_floorDiv_f86c9
set_option maxRecDepth 20000 in
theorem ggX7_senseRates_J9_floorDiv_7cf53 : GoodIn wsX7_senseRates wsJ9_floorDiv_7cf53 := goodIn_r _ [29] rfl (by decide +kernel)
set_option maxRecDepth 20000 in
theorem gX7_senseRates_J9_floorDiv_7cf53 : GoodIn wsX7_senseRates (va_wsS RX7 59 yJ9_floorDiv_7cf53 wsJ9_floorDiv_7cf53) := goodIn_app (goodIn_of _ (by decide +kernel)) ggX7_senseRates_J9_floorDiv_7cf53
set_option maxRecDepth 20000 in
theorem ggX7_senseRates_X7_drawNoise : GoodIn wsX7_senseRates wsX7_drawNoise := goodIn_r _ [34, 35, 36, 37, 38, 39, 40, 41, 42, 43, 44, 45, 46] rfl (by decide +kernel)
set_option maxRecDepth 20000 in
theorem gX7_senseRates_X7_drawNoise : GoodIn wsX7_senseRates (wsV RX7 76 RX7 yX7_drawNoise wsX7_drawNoise) := goodIn_app (goodIn_of _ (by decide +kernel)) ggX7_senseRates_X7_drawNoise
set_option maxRecDepth 20000 in
theorem ggX7_senseGravity_X0_turnIntoBody : GoodIn wsX7_senseGravity wsX0_turnIntoBody := goodIn_r _ [8, 9, 10, 11, 7, 12, 13, 14, 15, 16, 17, 28, 29, 30, 31, 32] rfl (by decide +kernel)
set_option maxRecDepth 20000 in
theorem gX7_senseGravity_X0_turnIntoBody : GoodIn wsX7_senseGravity (wsV RX7 65 RX0 yX0_turnIntoBody wsX0_turnIntoBody) := goodIn_app (goodIn_of _ (by decide +kernel)) ggX7_senseGravity_X0_turnIntoBody
set_option maxRecDepth 20000 in
theorem ggX8_init_X0_init : GoodIn wsX8_init wsX0_init := goodIn_r _ [36, 37, 2, 3, 28, 38, 39, 40, 41, 42, 43, 44, 45, 46, 6, 47, 48, 49, 50, 51, 52, 53, 54, 55, 56, 57, 114, 115, 116, 117, 118] rfl (by decide +kernel)
set_option maxRecDepth 20000 in
theorem gX8_init_X0_init : GoodIn wsX8_init (wsX0_init) := ggX8_init_X0_init
set_option maxRecDepth 20000 in
theorem ggX8_init_X6_init : GoodIn wsX8_init wsX6_init := goodIn_r _ [59, 60, 2, 3, 61, 62, 63, 64, 65, 133, 134, 135, 136, 137] rfl (by decide +kernel)
set_option maxRecDepth 20000 in
theorem gX8_init_X6_init_n18 : GoodIn wsX8_init (wsX6_init) := ggX8_init_X6_init
set_option maxRecDepth 20000 in
theorem ggX8_init_X7_init : GoodIn wsX8_init wsX7_init := goodIn_r _ [68, 69, 2, 3, 61, 70, 71, 72, 73, 74, 28, 75, 76, 77, 78, 138, 139, 140, 141, 142, 143, 144, 145, 146, 147] rfl (by decide +kernel)
set_option maxRecDepth 20000 in
theorem gX8_init_X7_init : GoodIn wsX8_init (wsX7_init) := ggX8_init_X7_init
set_option maxRecDepth 20000 in
theorem ggX8_init_X3_init : GoodIn wsX8_init wsX3_init := goodIn_r _ [80, 81, 2, 3, 61, 82, 83, 84, 148, 149, 150] rfl (by decide +kernel)
set_option maxRecDepth 20000 in
theorem gX8_init_X3_init_n32 : GoodIn wsX8_init (wsX3_init) := ggX8_init_X3_init
set_option maxRecDepth 20000 in
theorem ggX8_init_X4_init : GoodIn wsX8_init wsX4_init := goodIn_r _ [87, 88, 2, 3, 89, 5, 6, 90, 91, 92, 93, 94, 28, 95, 96, 97, 98, 99, 100, 101, 102, 103, 35, 36, 37, 38, 39, 40, 41, 42, 43, 44, 45, 46, 47, 48, 49, 50, 51, 52, 53, 54, 55, 56, 57, 104, 105, 106, 107, 114, 115, 116, 117, 118, 151, 152, 153, 154, 155, 156, 157, 158, 159, 160, 161, 162, 167, 168, 169] rfl (by decide +kernel)
set_option maxRecDepth 20000 in
theorem gX8_init_X4_init : GoodIn wsX8_init (wsX4_init) := ggX8_init_X4_init
set_option maxRecDepth 20000 in
theorem ggX8_init_X1_init : GoodIn wsX8_init wsX1_init := goodIn_r _ [109, 110, 2, 3, 61, 111, 28, 112, 113, 163, 164, 165, 166] rfl (by decide +kernel)
set_option maxRecDepth 20000 in
theorem gX8_init_X1_init_n46 : GoodIn wsX8_init (wsX1_init) := ggX8_init_X1_init
set_option maxRecDepth 20000 in
theorem ggX8_setGyro_X5_isAxis : GoodIn wsX8_setGyro wsX5_isAxis := goodIn_r _ [8] rfl (by decide +kernel)
set_option maxRecDepth 20000 in
theorem gX8_setGyro_X5_isAxis : GoodIn wsX8_setGyro (va_wsS RX8 67 yX5_isAxis wsX5_isAxis) := goodIn_app (goodIn_of _ (by decide +kernel)) ggX8_setGyro_X5_isAxis
set_option maxRecDepth 20000 in
theorem ggX8_setGyro_X5_isWithin : GoodIn wsX8_setGyro wsX5_isWithin := goodIn_r _ [11] rfl (by decide +kernel)
set_option maxRecDepth 20000 in
theorem gX8_setGyro_X5_isWithin : GoodIn wsX8_setGyro (va_wsS RX8 75 yX5_isWithin wsX5_isWithin) := goodIn_app (goodIn_of _ (by decide +kernel)) ggX8_setGyro_X5_isWithin
set_option maxRecDepth 20000 in
theorem ggX8_setGyro_X5_isBetween : GoodIn wsX8_setGyro wsX5_isBetween := goodIn_r _ [14] rfl (by decide +kernel)
set_option maxRecDepth 20000 in
theorem gX8_setGyro_X5_isBetween : GoodIn wsX8_setGyro (va_wsS RX8 81 yX5_isBetween wsX5_isBetween) := goodIn_app (goodIn_of _ (by decide +kernel)) ggX8_setGyro_X5_isBetween
set_option maxRecDepth 20000 in
theorem ggX8_setGyro_X7_setGyroErrors : GoodIn wsX8_setGyro wsX7_setGyroErrors := goodIn_r _ [19, 20, 21, 22, 23, 24, 6, 7, 8, 39, 40, 41, 42, 43, 44, 45, 46, 47, 48] rfl (by decide +kernel)
set_option maxRecDepth 20000 in
theorem gX8_setGyro_X7_setGyroErrors : GoodIn wsX8_setGyro (wsV RX8 87 RX7 yX7_setGyroErrors wsX7_setGyroErrors) := goodIn_app (goodIn_of _ (by decide +kernel)) ggX8_setGyro_X7_setGyroErrors
set_option maxRecDepth 20000 in
theorem ggX8_setAccelerometer_X5_isAxis : GoodIn wsX8_setAccelerometer wsX5_isAxis := goodIn_r _ [6] rfl (by decide +kernel)
set_option maxRecDepth 20000 in
theorem gX8_setAccelerometer_X5_isAxis : GoodIn wsX8_setAccelerometer (va_wsS RX8 67 yX5_isAxis wsX5_isAxis) := goodIn_app (goodIn_of _ (by decide +kernel)) ggX8_setAccelerometer_X5_isAxis
set_option maxRecDepth 20000 in
theorem ggX8_setAccelerometer_X5_isWithin : GoodIn wsX8_setAccelerometer wsX5_isWithin := goodIn_r _ [9] rfl (by decide +kernel)
set_option maxRecDepth 20000 in
theorem gX8_setAccelerometer_X5_isWithin : GoodIn wsX8_setAccelerometer (va_wsS RX8 75 yX5_isWithin wsX5_isWithin) := goodIn_app (goodIn_of _ (by decide +kernel)) ggX8_setAccelerometer_X5_isWithin
set_option maxRecDepth 20000 in
theorem ggX8_setAccelerometer_X7_setAccelerometerBias : GoodIn wsX8_setAccelerometer wsX7_setAccelerometerBias := goodIn_r _ [14, 15, 16, 4, 5, 6, 31, 32, 33, 34, 35, 36, 37, 38, 39, 40] rfl (by decide +kernel)
set_option maxRecDepth 20000 in
theorem gX8_setAccelerometer_X7_setAccelerometerBias : GoodIn wsX8_setAccelerometer (wsV RX8 93 RX7 yX7_setAccelerometerBias wsX7_setAccelerometerBias) := goodIn_app (goodIn_of _ (by decide +kernel)) ggX8_setAccelerometer_X7_setAccelerometerBias
set_option maxRecDepth 20000 in
theorem ggX8_setEarthRate_X5_isWithin : GoodIn wsX8_setEarthRate wsX5_isWithin := goodIn_r _ [6] rfl (by decide +kernel)
set_option maxRecDepth 20000 in
theorem gX8_setEarthRate_X5_isWithin : GoodIn wsX8_setEarthRate (va_wsS RX8 75 yX5_isWithin wsX5_isWithin) := goodIn_app (goodIn_of _ (by decide +kernel)) ggX8_setEarthRate_X5_isWithin
set_option maxRecDepth 20000 in
theorem ggX8_setTemperature_X5_isBetween : GoodIn wsX8_setTemperature wsX5_isBetween := goodIn_r _ [5] rfl (by decide +kernel)
set_option maxRecDepth 20000 in
theorem gX8_setTemperature_X5_isBetween : GoodIn wsX8_setTemperature (va_wsS RX8 81 yX5_isBetween wsX5_isBetween) := goodIn_app (goodIn_of _ (by decide +kernel)) ggX8_setTemperature_X5_isBetween
set_option maxRecDepth 20000 in
theorem ggX8_setTemperature_X7_changeTemperature : GoodIn wsX8_setTemperature wsX7_changeTemperature := goodIn_r _ [10, 11, 26, 27, 28, 29, 30, 31, 32, 33, 34, 35] rfl (by decide +kernel)
set_option maxRecDepth 20000 in
theorem gX8_setTemperature_X7_changeTemperature : GoodIn wsX8_setTemperature (wsV RX8 99 RX7 yX7_changeTemperature wsX7_changeTemperature) := goodIn_app (goodIn_of _ (by decide +kernel)) ggX8_setTemperature_X7_changeTemperature
set_option maxRecDepth 20000 in
theorem ggX8_setSeed_X7_changeSeed : GoodIn wsX8_setSeed wsX7_changeSeed := goodIn_r _ [6, 7, 22, 23, 24, 25, 26, 27, 28, 29, 30, 31] rfl (by decide +kernel)
set_option maxRecDepth 20000 in
theorem gX8_setSeed_X7_changeSeed : GoodIn wsX8_setSeed (wsV RX8 103 RX7 yX7_changeSeed wsX7_changeSeed) := goodIn_app (goodIn_of _ (by decide +kernel)) ggX8_setSeed_X7_changeSeed
set_option maxRecDepth 20000 in
theorem ggX8_addSegment_X5_isBetween : GoodIn wsX8_addSegment wsX5_isBetween := goodIn_r _ [5] rfl (by decide +kernel)
set_option maxRecDepth 20000 in
theorem gX8_addSegment_X5_isBetween : GoodIn wsX8_addSegment (va_wsS RX8 81 yX5_isBetween wsX5_isBetween) := goodIn_app (goodIn_of _ (by decide +kernel)) ggX8_addSegment_X5_isBetween
set_option maxRecDepth 20000 in
theorem ggX8_addSegment_X8_isTurn : GoodIn wsX8_addSegment wsX8_isTurn := goodIn_r _ [9, 10, 11, 12, 4, 13] rfl (by decide +kernel)
set_option maxRecDepth 20000 in
theorem gX8_addSegment_X8_isTurn : GoodIn wsX8_addSegment (va_wsS RX8 106 yX8_isTurn wsX8_isTurn) := goodIn_app (goodIn_of _ (by decide +kernel)) ggX8_addSegment_X8_isTurn
set_option maxRecDepth 20000 in
theorem ggX8_addSegment_X6_append : GoodIn wsX8_addSegment wsX6_append := goodIn_r _ [18, 19, 20, 21, 22, 23, 38, 39, 40, 41, 42] rfl (by decide +kernel)
set_option maxRecDepth 20000 in
theorem gX8_addSegment_X6_append : GoodIn wsX8_addSegment (wsV RX8 109 RX6 yX6_append wsX6_append) := goodIn_app (goodIn_of _ (by decide +kernel)) ggX8_addSegment_X6_append
set_option maxRecDepth 20000 in
theorem ggX8_clearScript_X6_empty : GoodIn wsX8_clearScript wsX6_empty := goodIn_r _ [6, 7, 22, 23, 24, 25, 26] rfl (by decide +kernel)
set_option maxRecDepth 20000 in
theorem gX8_clearScript_X6_empty : GoodIn wsX8_clearScript (wsV RX8 113 RX6 yX6_empty wsX6_empty) := goodIn_app (goodIn_of _ (by decide +kernel)) ggX8_clearScript_X6_empty
set_option maxRecDepth 20000 in
theorem ggX8_scriptTicks_X6_ticksLeft : GoodIn wsX8_scriptTicks wsX6_ticksLeft := goodIn_r _ [6, 7, 8, 23, 24, 25, 26, 27] rfl (by decide +kernel)
set_option maxRecDepth 20000 in
theorem gX8_scriptTicks_X6_ticksLeft : GoodIn wsX8_scriptTicks (wsV RX8 117 RX6 yX6_ticksLeft wsX6_ticksLeft) := goodIn_app (goodIn_of _ (by decide +kernel)) ggX8_scriptTicks_X6_ticksLeft
set_option maxRecDepth 20000 in
theorem ggX8_turnTruth_X8_isTurn : GoodIn wsX8_turnTruth wsX8_isTurn := goodIn_r _ [5, 6, 7, 8, 9, 10] rfl (by decide +kernel)
set_option maxRecDepth 20000 in
theorem gX8_turnTruth_X8_isTurn : GoodIn wsX8_turnTruth (va_wsS RX8 106 yX8_isTurn wsX8_isTurn) := goodIn_app (goodIn_of _ (by decide +kernel)) ggX8_turnTruth_X8_isTurn
set_option maxRecDepth 20000 in
theorem ggX8_turnTruth_X0_turn : GoodIn wsX8_turnTruth wsX0_turn := goodIn_r _ [15, 16, 17, 18, 19, 20, 21, 22, 23, 24, 14, 25, 26, 27, 28, 29, 30, 31, 32, 33, 34, 35, 36, 37, 38, 39, 40, 41, 56, 57, 58, 59, 60] rfl (by decide +kernel)
set_option maxRecDepth 20000 in
theorem gX8_turnTruth_X0_turn : GoodIn wsX8_turnTruth (wsV RX8 120 RX0 yX0_turn wsX0_turn) := goodIn_app (goodIn_of _ (by decide +kernel)) ggX8_turnTruth_X0_turn
set_option maxRecDepth 20000 in
theorem ggX8_run_X5_isBetween : GoodIn wsX8_run wsX5_isBetween := goodIn_r _ [6] rfl (by decide +kernel)
set_option maxRecDepth 20000 in
theorem gX8_run_X5_isBetween : GoodIn wsX8_run (va_wsS RX8 81 yX5_isBetween wsX5_isBetween) := goodIn_app (goodIn_of _ (by decide +kernel)) ggX8_run_X5_isBetween
set_option maxRecDepth 20000 in
theorem ggX8_run_X8_tick : GoodIn wsX8_run wsX8_tick := goodIn_r _ [11, 12, 13, 14, 15, 16, 17, 18, 1, 19, 20, 21, 22, 23, 24, 25, 26, 27, 28, 29, 30, 31, 32, 33, 34, 35, 36, 37, 38, 39, 40, 41, 42, 43, 44, 45, 46, 47, 48, 49, 50, 51, 52, 53, 54, 55, 56, 57, 58, 59, 60, 61, 62, 63, 64, 65, 66, 67, 68, 69, 70, 71, 5, 72, 73, 74, 75, 76, 77, 78, 79, 80, 81, 82, 83, 84, 85, 86, 87, 88, 89, 90, 91, 92, 93, 94, 95, 96, 97, 98, 99, 100, 101, 102, 103, 104, 105, 106, 107, 108, 109, 110, 111, 112, 113, 114, 115, 116, 117, 118, 119, 120, 121, 122, 123, 124, 125, 126, 127, 128, 129, 130, 131, 132, 133, 134, 135, 136, 137, 138, 139, 140, 141, 142, 143, 144, 145, 146, 147, 148, 149, 150, 151, 152, 153, 154, 155, 156, 157, 158, 159, 160, 161, 162, 163, 164, 165, 166, 167, 168, 169, 170, 171, 172, 173, 174, 175, 176, 177, 178, 179, 180, 181, 182, 183, 184, 185, 186, 187, 188, 189, 190, 191, 192, 193, 194, 195, 196, 197, 198, 199, 200, 201, 202, 203, 204, 205, 206, 207, 208, 209, 210, 211, 212, 213, 214, 215, 216, 217, 218, 219, 220, 221, 222, 223, 224, 225, 226, 227, 228, 229, 230, 231, 232, 233, 234, 235, 236, 10, 237, 238, 239, 240, 241, 242, 243, 244, 245, 246, 247, 248, 249, 250, 251, 252, 253, 254, 255, 256, 257, 258, 259, 260, 261, 262, 263, 264, 265, 266, 267, 268, 269, 270, 271, 272, 273, 274, 275, 276, 277, 278, 279, 280, 281, 282, 283, 284, 285, 286, 287, 288, 289, 290, 291, 292, 293, 294, 295, 296, 297, 298, 299, 300] rfl (by decide +kernel)
set_option maxRecDepth 20000 in
theorem gX8_run_X8_tick : GoodIn wsX8_run (wsV RX8 129 RX8 yX8_tick wsX8_tick) := goodIn_app (goodIn_of _ (by decide +kernel)) ggX8_run_X8_tick
set_option maxRecDepth 20000 in
theorem ggX8_gyro_X5_at : GoodIn wsX8_gyro wsX5_at := goodIn_r _ [5] rfl (by decide +kernel)
set_option maxRecDepth 20000 in
theorem gX8_gyro_X5_at : GoodIn wsX8_gyro (va_wsS RX8 135 yX5_at wsX5_at) := goodIn_app (goodIn_of _ (by decide +kernel)) ggX8_gyro_X5_at
set_option maxRecDepth 20000 in
theorem ggX8_accelerometer_X5_at : GoodIn wsX8_accelerometer wsX5_at := goodIn_r _ [5] rfl (by decide +kernel)
set_option maxRecDepth 20000 in
theorem gX8_accelerometer_X5_at : GoodIn wsX8_accelerometer (va_wsS RX8 135 yX5_at wsX5_at) := goodIn_app (goodIn_of _ (by decide +kernel)) ggX8_accelerometer_X5_at
set_option maxRecDepth 20000 in
theorem ggX8_setMethod_X5_isBetween : GoodIn wsX8_setMethod wsX5_isBetween := goodIn_r _ [5] rfl (by decide +kernel)
set_option maxRecDepth 20000 in
theorem gX8_setMethod_X5_isBetween : GoodIn wsX8_setMethod (va_wsS RX8 81 yX5_isBetween wsX5_isBetween) := goodIn_app (goodIn_of _ (by decide +kernel)) ggX8_setMethod_X5_isBetween
set_option maxRecDepth 20000 in
theorem ggX8_setMethod_X4_changeMethod : GoodIn wsX8_setMethod wsX4_changeMethod := goodIn_r _ [10, 11, 26, 27, 28, 29, 30, 31, 32, 33, 34, 35, 36, 37] rfl (by decide +kernel)
set_option maxRecDepth 20000 in
theorem gX8_setMethod_X4_changeMethod : GoodIn wsX8_setMethod (wsV RX8 142 RX4 yX4_changeMethod wsX4_changeMethod) := goodIn_app (goodIn_of _ (by decide +kernel)) ggX8_setMethod_X4_changeMethod
set_option maxRecDepth 20000 in
theorem ggX8_setLevelling_X5_isBetween : GoodIn wsX8_setLevelling wsX5_isBetween := goodIn_r _ [5] rfl (by decide +kernel)
set_option maxRecDepth 20000 in
theorem gX8_setLevelling_X5_isBetween : GoodIn wsX8_setLevelling (va_wsS RX8 81 yX5_isBetween wsX5_isBetween) := goodIn_app (goodIn_of _ (by decide +kernel)) ggX8_setLevelling_X5_isBetween
set_option maxRecDepth 20000 in
theorem ggX8_setLevelling_X4_changeLevelling : GoodIn wsX8_setLevelling wsX4_changeLevelling := goodIn_r _ [10, 11, 26, 27, 28, 29, 30, 31, 32, 33, 34, 35, 36, 37] rfl (by decide +kernel)
set_option maxRecDepth 20000 in
theorem gX8_setLevelling_X4_changeLevelling : GoodIn wsX8_setLevelling (wsV RX8 145 RX4 yX4_changeLevelling wsX4_changeLevelling) := goodIn_app (goodIn_of _ (by decide +kernel)) ggX8_setLevelling_X4_changeLevelling
set_option maxRecDepth 20000 in
theorem ggX8_setHeading_X5_isBetween : GoodIn wsX8_setHeading wsX5_isBetween := goodIn_r _ [5] rfl (by decide +kernel)
set_option maxRecDepth 20000 in
theorem gX8_setHeading_X5_isBetween : GoodIn wsX8_setHeading (va_wsS RX8 81 yX5_isBetween wsX5_isBetween) := goodIn_app (goodIn_of _ (by decide +kernel)) ggX8_setHeading_X5_isBetween
set_option maxRecDepth 20000 in
theorem ggX8_setHeading_X4_changeHeading : GoodIn wsX8_setHeading wsX4_changeHeading := goodIn_r _ [10, 11, 12, 13, 14, 15, 16, 31, 32, 33, 34, 35, 36, 37, 38, 39, 40, 41, 42] rfl (by decide +kernel)
set_option maxRecDepth 20000 in
theorem gX8_setHeading_X4_changeHeading : GoodIn wsX8_setHeading (wsV RX8 148 RX4 yX4_changeHeading wsX4_changeHeading) := goodIn_app (goodIn_of _ (by decide +kernel)) ggX8_setHeading_X4_changeHeading
set_option maxRecDepth 20000 in
theorem ggX8_startCalibration_X5_isBetween : GoodIn wsX8_startCalibration wsX5_isBetween := goodIn_r _ [5] rfl (by decide +kernel)
set_option maxRecDepth 20000 in
theorem gX8_startCalibration_X5_isBetween : GoodIn wsX8_startCalibration (va_wsS RX8 81 yX5_isBetween wsX5_isBetween) := goodIn_app (goodIn_of _ (by decide +kernel)) ggX8_startCalibration_X5_isBetween
set_option maxRecDepth 20000 in
theorem ggX8_startCalibration_X2_isRunning : GoodIn wsX8_startCalibration wsX2_isRunning := goodIn_r _ [10, 11, 48, 49, 50] rfl (by decide +kernel)
set_option maxRecDepth 20000 in
theorem gX8_startCalibration_X2_isRunning : GoodIn wsX8_startCalibration (wsV RX8 155 RX2 yX2_isRunning wsX2_isRunning) := goodIn_app (goodIn_of _ (by decide +kernel)) ggX8_startCalibration_X2_isRunning
set_option maxRecDepth 20000 in
theorem ggX8_startCalibration_X2_start : GoodIn wsX8_startCalibration wsX2_start := goodIn_r _ [15, 16, 17, 11, 18, 19, 20, 21, 48, 49, 50] rfl (by decide +kernel)
set_option maxRecDepth 20000 in
theorem gX8_startCalibration_X2_start : GoodIn wsX8_startCalibration (wsV RX8 161 RX2 yX2_start wsX2_start) := goodIn_app (goodIn_of _ (by decide +kernel)) ggX8_startCalibration_X2_start
set_option maxRecDepth 20000 in
theorem ggX8_biasEstimate_X5_at : GoodIn wsX8_biasEstimate wsX5_at := goodIn_r _ [5] rfl (by decide +kernel)
set_option maxRecDepth 20000 in
theorem gX8_biasEstimate_X5_at : GoodIn wsX8_biasEstimate (va_wsS RX8 135 yX5_at wsX5_at) := goodIn_app (goodIn_of _ (by decide +kernel)) ggX8_biasEstimate_X5_at
set_option maxRecDepth 20000 in
theorem ggX8_setCompensation_X5_isAxis : GoodIn wsX8_setCompensation wsX5_isAxis := goodIn_r _ [6] rfl (by decide +kernel)
set_option maxRecDepth 20000 in
theorem gX8_setCompensation_X5_isAxis : GoodIn wsX8_setCompensation (va_wsS RX8 67 yX5_isAxis wsX5_isAxis) := goodIn_app (goodIn_of _ (by decide +kernel)) ggX8_setCompensation_X5_isAxis
set_option maxRecDepth 20000 in
theorem ggX8_setCompensation_X3_hasBin : GoodIn wsX8_setCompensation wsX3_hasBin := goodIn_r _ [10] rfl (by decide +kernel)
set_option maxRecDepth 20000 in
theorem gX8_setCompensation_X3_hasBin : GoodIn wsX8_setCompensation (va_wsS RX8 170 yX3_hasBin wsX3_hasBin) := goodIn_app (goodIn_of _ (by decide +kernel)) ggX8_setCompensation_X3_hasBin
set_option maxRecDepth 20000 in
theorem ggX8_setCompensation_X5_isWithin : GoodIn wsX8_setCompensation wsX5_isWithin := goodIn_r _ [13] rfl (by decide +kernel)
set_option maxRecDepth 20000 in
theorem gX8_setCompensation_X5_isWithin : GoodIn wsX8_setCompensation (va_wsS RX8 75 yX5_isWithin wsX5_isWithin) := goodIn_app (goodIn_of _ (by decide +kernel)) ggX8_setCompensation_X5_isWithin
set_option maxRecDepth 20000 in
theorem ggX8_setCompensation_X3_put : GoodIn wsX8_setCompensation wsX3_put := goodIn_r _ [17, 18, 19, 20, 21, 22, 9, 23, 24, 4, 5, 6, 25, 8, 10, 26, 27, 28, 43, 44, 45] rfl (by decide +kernel)
set_option maxRecDepth 20000 in
theorem gX8_setCompensation_X3_put : GoodIn wsX8_setCompensation (wsV RX8 175 RX3 yX3_put wsX3_put) := goodIn_app (goodIn_of _ (by decide +kernel)) ggX8_setCompensation_X3_put
set_option maxRecDepth 20000 in
theorem ggX8_learnCompensation_X2_isRunning : GoodIn wsX8_learnCompensation wsX2_isRunning := goodIn_r _ [8, 9, 89, 90, 91] rfl (by decide +kernel)
set_option maxRecDepth 20000 in
theorem gX8_learnCompensation_X2_isRunning : GoodIn wsX8_learnCompensation (wsV RX8 155 RX2 yX2_isRunning wsX2_isRunning) := goodIn_app (goodIn_of _ (by decide +kernel)) ggX8_learnCompensation_X2_isRunning
set_option maxRecDepth 20000 in
theorem ggX8_learnCompensation_X7_bin : GoodIn wsX8_learnCompensation wsX7_bin := goodIn_r _ [14, 15, 16, 17, 18, 19, 92, 93, 94, 95, 96, 97, 98, 99, 100, 101] rfl (by decide +kernel)
set_option maxRecDepth 20000 in
theorem gX8_learnCompensation_X7_bin : GoodIn wsX8_learnCompensation (wsV RX8 182 RX7 yX7_bin wsX7_bin) := goodIn_app (goodIn_of _ (by decide +kernel)) ggX8_learnCompensation_X7_bin
set_option maxRecDepth 20000 in
theorem ggX8_learnCompensation_X3_absorb : GoodIn wsX8_learnCompensation wsX3_absorb := goodIn_r _ [24, 25, 26, 27, 28, 23, 29, 30, 31, 32, 33, 34, 35, 36, 37, 38, 39, 40, 41, 42, 43, 44, 45, 46, 47, 48, 49, 50, 51, 52, 53, 54, 55, 56, 57, 58, 59, 86, 87, 88] rfl (by decide +kernel)
set_option maxRecDepth 20000 in
theorem gX8_learnCompensation_X3_absorb : GoodIn wsX8_learnCompensation (wsV RX8 185 RX3 yX3_absorb wsX3_absorb) := goodIn_app (goodIn_of _ (by decide +kernel)) ggX8_learnCompensation_X3_absorb
set_option maxRecDepth 20000 in
theorem ggX8_compensation_X3_value : GoodIn wsX8_compensation wsX3_value := goodIn_r _ [6, 7, 8, 9, 5, 10, 11, 12, 13, 14, 15, 16, 17, 18, 19, 20, 35, 36, 37] rfl (by decide +kernel)
set_option maxRecDepth 20000 in
theorem gX8_compensation_X3_value : GoodIn wsX8_compensation (wsV RX8 189 RX3 yX3_value wsX3_value) := goodIn_app (goodIn_of _ (by decide +kernel)) ggX8_compensation_X3_value
set_option maxRecDepth 20000 in
theorem ggX8_forgetBin_X3_removeBin : GoodIn wsX8_forgetBin wsX3_removeBin := goodIn_r _ [6, 7, 8, 9, 10, 11, 5, 12, 13, 14, 15, 16, 17, 18, 19, 20, 21, 22, 37, 38, 39] rfl (by decide +kernel)
set_option maxRecDepth 20000 in
theorem gX8_forgetBin_X3_removeBin : GoodIn wsX8_forgetBin (wsV RX8 193 RX3 yX3_removeBin wsX3_removeBin) := goodIn_app (goodIn_of _ (by decide +kernel)) ggX8_forgetBin_X3_removeBin
set_option maxRecDepth 20000 in
theorem ggX8_turnEstimate_X8_isTurn : GoodIn wsX8_turnEstimate wsX8_isTurn := goodIn_r _ [5, 6, 7, 8, 9, 10] rfl (by decide +kernel)
set_option maxRecDepth 20000 in
theorem gX8_turnEstimate_X8_isTurn : GoodIn wsX8_turnEstimate (va_wsS RX8 106 yX8_isTurn wsX8_isTurn) := goodIn_app (goodIn_of _ (by decide +kernel)) ggX8_turnEstimate_X8_isTurn
set_option maxRecDepth 20000 in
theorem ggX8_turnEstimate_X0_turn : GoodIn wsX8_turnEstimate wsX0_turn := goodIn_r _ [15, 16, 17, 18, 19, 20, 21, 22, 23, 24, 14, 25, 26, 27, 28, 29, 30, 31, 32, 33, 34, 35, 36, 37, 38, 39, 40, 41, 68, 69, 70, 71, 72] rfl (by decide +kernel)
set_option maxRecDepth 20000 in
theorem gX8_turnEstimate_X0_turn : GoodIn wsX8_turnEstimate (wsV RX8 120 RX0 yX0_turn wsX0_turn) := goodIn_app (goodIn_of _ (by decide +kernel)) ggX8_turnEstimate_X0_turn
set_option maxRecDepth 20000 in
theorem ggX8_estimate_X5_at : GoodIn wsX8_estimate wsX5_at := goodIn_r _ [5] rfl (by decide +kernel)
set_option maxRecDepth 20000 in
theorem gX8_estimate_X5_at : GoodIn wsX8_estimate (va_wsS RX8 135 yX5_at wsX5_at) := goodIn_app (goodIn_of _ (by decide +kernel)) ggX8_estimate_X5_at
set_option maxRecDepth 20000 in
theorem ggX8_truth_X5_at : GoodIn wsX8_truth wsX5_at := goodIn_r _ [5] rfl (by decide +kernel)
set_option maxRecDepth 20000 in
theorem gX8_truth_X5_at : GoodIn wsX8_truth (va_wsS RX8 135 yX5_at wsX5_at) := goodIn_app (goodIn_of _ (by decide +kernel)) ggX8_truth_X5_at
set_option maxRecDepth 20000 in
theorem ggX8_errorAngle_X0_angleFrom : GoodIn wsX8_errorAngle wsX0_angleFrom := goodIn_r _ [7, 8, 9, 10, 11, 12, 13, 6, 14, 15, 16, 17, 18, 19, 20, 21, 48, 49, 50, 51, 52] rfl (by decide +kernel)
set_option maxRecDepth 20000 in
theorem gX8_errorAngle_X0_angleFrom : GoodIn wsX8_errorAngle (wsV RX8 202 RX0 yX0_angleFrom wsX0_angleFrom) := goodIn_app (goodIn_of _ (by decide +kernel)) ggX8_errorAngle_X0_angleFrom
set_option maxRecDepth 20000 in
theorem ggX8_tiltError_X0_turnIntoBody : GoodIn wsX8_tiltError wsX0_turnIntoBody := goodIn_r _ [11, 12, 13, 14, 10, 15, 16, 17, 18, 19, 20, 56, 57, 58, 59, 60] rfl (by decide +kernel)
set_option maxRecDepth 20000 in
theorem gX8_tiltError_X0_turnIntoBody : GoodIn wsX8_tiltError (wsV RX8 213 RX0 yX0_turnIntoBody wsX0_turnIntoBody) := goodIn_app (goodIn_of _ (by decide +kernel)) ggX8_tiltError_X0_turnIntoBody
set_option maxRecDepth 20000 in
theorem ggX8_tiltError_X5_cross : GoodIn wsX8_tiltError wsX5_cross := goodIn_r _ [23] rfl (by decide +kernel)
set_option maxRecDepth 20000 in
theorem gX8_tiltError_X5_cross : GoodIn wsX8_tiltError (va_wsS RX8 217 yX5_cross wsX5_cross) := goodIn_app (goodIn_of _ (by decide +kernel)) ggX8_tiltError_X5_cross
set_option maxRecDepth 20000 in
theorem ggX8_tiltError_X5_length : GoodIn wsX8_tiltError wsX5_length := goodIn_r _ [26, 27, 28, 19, 29] rfl (by decide +kernel)
set_option maxRecDepth 20000 in
theorem gX8_tiltError_X5_length : GoodIn wsX8_tiltError (va_wsS RX8 221 yX5_length wsX5_length) := goodIn_app (goodIn_of _ (by decide +kernel)) ggX8_tiltError_X5_length
set_option maxRecDepth 20000 in
theorem ggX8_toNavigation_X8_isUnitVector : GoodIn wsX8_toNavigation wsX8_isUnitVector := goodIn_r _ [5, 6, 7, 8, 9, 10] rfl (by decide +kernel)
set_option maxRecDepth 20000 in
theorem gX8_toNavigation_X8_isUnitVector : GoodIn wsX8_toNavigation (va_wsS RX8 225 yX8_isUnitVector wsX8_isUnitVector) := goodIn_app (goodIn_of _ (by decide +kernel)) ggX8_toNavigation_X8_isUnitVector
set_option maxRecDepth 20000 in
theorem ggX8_toNavigation_X5_isAxis : GoodIn wsX8_toNavigation wsX5_isAxis := goodIn_r _ [13] rfl (by decide +kernel)
set_option maxRecDepth 20000 in
theorem gX8_toNavigation_X5_isAxis : GoodIn wsX8_toNavigation (va_wsS RX8 67 yX5_isAxis wsX5_isAxis) := goodIn_app (goodIn_of _ (by decide +kernel)) ggX8_toNavigation_X5_isAxis
set_option maxRecDepth 20000 in
theorem ggX8_toNavigation_X0_navigationComponent : GoodIn wsX8_toNavigation wsX0_navigationComponent := goodIn_r _ [18, 19, 20, 12, 9, 13, 47, 48, 49, 50, 51] rfl (by decide +kernel)
set_option maxRecDepth 20000 in
theorem gX8_toNavigation_X0_navigationComponent : GoodIn wsX8_toNavigation (wsV RX8 228 RX0 yX0_navigationComponent wsX0_navigationComponent) := goodIn_app (goodIn_of _ (by decide +kernel)) ggX8_toNavigation_X0_navigationComponent
set_option maxRecDepth 20000 in
theorem ggX8_toBody_X8_isUnitVector : GoodIn wsX8_toBody wsX8_isUnitVector := goodIn_r _ [5, 6, 7, 8, 9, 10] rfl (by decide +kernel)
set_option maxRecDepth 20000 in
theorem gX8_toBody_X8_isUnitVector : GoodIn wsX8_toBody (va_wsS RX8 225 yX8_isUnitVector wsX8_isUnitVector) := goodIn_app (goodIn_of _ (by decide +kernel)) ggX8_toBody_X8_isUnitVector
set_option maxRecDepth 20000 in
theorem ggX8_toBody_X5_isAxis : GoodIn wsX8_toBody wsX5_isAxis := goodIn_r _ [13] rfl (by decide +kernel)
set_option maxRecDepth 20000 in
theorem gX8_toBody_X5_isAxis : GoodIn wsX8_toBody (va_wsS RX8 67 yX5_isAxis wsX5_isAxis) := goodIn_app (goodIn_of _ (by decide +kernel)) ggX8_toBody_X5_isAxis
set_option maxRecDepth 20000 in
theorem ggX8_toBody_X0_bodyComponent : GoodIn wsX8_toBody wsX0_bodyComponent := goodIn_r _ [18, 19, 20, 12, 9, 13, 47, 48, 49, 50, 51] rfl (by decide +kernel)
set_option maxRecDepth 20000 in
theorem gX8_toBody_X0_bodyComponent : GoodIn wsX8_toBody (wsV RX8 232 RX0 yX0_bodyComponent wsX0_bodyComponent) := goodIn_app (goodIn_of _ (by decide +kernel)) ggX8_toBody_X0_bodyComponent
set_option maxRecDepth 20000 in
theorem ggX8_visitedBins_J6_bitCount_0f7a4 : GoodIn wsX8_visitedBins wsJ6_bitCount_0f7a4 := goodIn_r _ [5, 6, 7, 8] rfl (by decide +kernel)
set_option maxRecDepth 20000 in
theorem gX8_visitedBins_J6_bitCount_0f7a4 : GoodIn wsX8_visitedBins (va_wsS RX8 238 yJ6_bitCount_0f7a4 wsJ6_bitCount_0f7a4) := goodIn_app (goodIn_of _ (by decide +kernel)) ggX8_visitedBins_J6_bitCount_0f7a4
set_option maxRecDepth 20000 in
theorem ggX8_store_X5_isBetween : GoodIn wsX8_store wsX5_isBetween := goodIn_r _ [6] rfl (by decide +kernel)
set_option maxRecDepth 20000 in
theorem gX8_store_X5_isBetween : GoodIn wsX8_store (va_wsS RX8 81 yX5_isBetween wsX5_isBetween) := goodIn_app (goodIn_of _ (by decide +kernel)) ggX8_store_X5_isBetween
set_option maxRecDepth 20000 in
theorem ggX8_store_X1_put : GoodIn wsX8_store wsX1_put := goodIn_r _ [11, 12, 13, 14, 15, 16, 17, 18, 19, 20, 21, 10, 22, 49, 50, 51, 52, 53, 54, 55, 56, 57] rfl (by decide +kernel)
set_option maxRecDepth 20000 in
theorem gX8_store_X1_put : GoodIn wsX8_store (wsV RX8 243 RX1 yX1_put wsX1_put) := goodIn_app (goodIn_of _ (by decide +kernel)) ggX8_store_X1_put
set_option maxRecDepth 20000 in
theorem ggX8_recall_X1_placeOf : GoodIn wsX8_recall wsX1_placeOf := goodIn_r _ [7, 8, 9, 60, 61, 62, 63] rfl (by decide +kernel)
set_option maxRecDepth 20000 in
theorem gX8_recall_X1_placeOf : GoodIn wsX8_recall (wsV RX8 246 RX1 yX1_placeOf wsX1_placeOf) := goodIn_app (goodIn_of _ (by decide +kernel)) ggX8_recall_X1_placeOf
set_option maxRecDepth 20000 in
theorem ggX8_recall_X1_at : GoodIn wsX8_recall wsX1_at := goodIn_r _ [13, 8, 14, 15, 16, 17, 18, 19, 60, 61, 62, 63] rfl (by decide +kernel)
set_option maxRecDepth 20000 in
theorem gX8_recall_X1_at : GoodIn wsX8_recall (wsV RX8 249 RX1 yX1_at wsX1_at) := goodIn_app (goodIn_of _ (by decide +kernel)) ggX8_recall_X1_at
set_option maxRecDepth 20000 in
theorem ggX8_recall_X0_set : GoodIn wsX8_recall wsX0_set := goodIn_r _ [24, 25, 26, 17, 18, 19, 27, 28, 29, 23, 30, 31, 32, 33, 64, 65, 66, 67, 68] rfl (by decide +kernel)
set_option maxRecDepth 20000 in
theorem gX8_recall_X0_set : GoodIn wsX8_recall (wsV RX8 252 RX0 yX0_set wsX0_set) := goodIn_app (goodIn_of _ (by decide +kernel)) ggX8_recall_X0_set
set_option maxRecDepth 20000 in
theorem ggX8_forget_X1_placeOf : GoodIn wsX8_forget wsX1_placeOf := goodIn_r _ [6, 7, 8, 32, 33, 34, 35] rfl (by decide +kernel)
set_option maxRecDepth 20000 in
theorem gX8_forget_X1_placeOf : GoodIn wsX8_forget (wsV RX8 246 RX1 yX1_placeOf wsX1_placeOf) := goodIn_app (goodIn_of _ (by decide +kernel)) ggX8_forget_X1_placeOf
set_option maxRecDepth 20000 in
theorem ggX8_forget_X1_remove : GoodIn wsX8_forget wsX1_remove := goodIn_r _ [12, 7, 8, 13, 14, 15, 16, 17, 32, 33, 34, 35] rfl (by decide +kernel)
set_option maxRecDepth 20000 in
theorem gX8_forget_X1_remove : GoodIn wsX8_forget (wsV RX8 256 RX1 yX1_remove wsX1_remove) := goodIn_app (goodIn_of _ (by decide +kernel)) ggX8_forget_X1_remove
set_option maxRecDepth 20000 in
theorem ggX8_angleTo_X1_placeOf : GoodIn wsX8_angleTo wsX1_placeOf := goodIn_r _ [8, 9, 10, 66, 67, 68, 69] rfl (by decide +kernel)
set_option maxRecDepth 20000 in
theorem gX8_angleTo_X1_placeOf : GoodIn wsX8_angleTo (wsV RX8 246 RX1 yX1_placeOf wsX1_placeOf) := goodIn_app (goodIn_of _ (by decide +kernel)) ggX8_angleTo_X1_placeOf
set_option maxRecDepth 20000 in
theorem ggX8_angleTo_X1_at : GoodIn wsX8_angleTo wsX1_at := goodIn_r _ [14, 9, 15, 16, 17, 18, 19, 20, 66, 67, 68, 69] rfl (by decide +kernel)
set_option maxRecDepth 20000 in
theorem gX8_angleTo_X1_at : GoodIn wsX8_angleTo (wsV RX8 249 RX1 yX1_at wsX1_at) := goodIn_app (goodIn_of _ (by decide +kernel)) ggX8_angleTo_X1_at
set_option maxRecDepth 20000 in
theorem ggX8_angleTo_X0_angleFrom : GoodIn wsX8_angleTo wsX0_angleFrom := goodIn_r _ [25, 26, 27, 28, 29, 30, 31, 24, 32, 33, 34, 35, 36, 37, 38, 39, 70, 71, 72, 73, 74] rfl (by decide +kernel)
set_option maxRecDepth 20000 in
theorem gX8_angleTo_X0_angleFrom : GoodIn wsX8_angleTo (wsV RX8 202 RX0 yX0_angleFrom wsX0_angleFrom) := goodIn_app (goodIn_of _ (by decide +kernel)) ggX8_angleTo_X0_angleFrom
set_option maxRecDepth 20000 in
theorem ggX8_storedNumber_X1_numberAt : GoodIn wsX8_storedNumber wsX1_numberAt := goodIn_r _ [6, 7, 8, 23, 24, 25, 26] rfl (by decide +kernel)
set_option maxRecDepth 20000 in
theorem gX8_storedNumber_X1_numberAt : GoodIn wsX8_storedNumber (wsV RX8 261 RX1 yX1_numberAt wsX1_numberAt) := goodIn_app (goodIn_of _ (by decide +kernel)) ggX8_storedNumber_X1_numberAt
set_option maxRecDepth 20000 in
theorem ggX8_reset_J7_fill_d0a16 : GoodIn wsX8_reset wsJ7_fill_d0a16 := goodIn_r _ [14] rfl (by decide +kernel)
set_option maxRecDepth 20000 in
theorem gX8_reset_J7_fill_d0a16 : GoodIn wsX8_reset (va_wsS RX8 264 yJ7_fill_d0a16 wsJ7_fill_d0a16) := goodIn_app (goodIn_of _ (by decide +kernel)) ggX8_reset_J7_fill_d0a16
set_option maxRecDepth 20000 in
theorem ggX8_reset_X0_align : GoodIn wsX8_reset wsX0_align := goodIn_r _ [19, 20, 21, 22, 12, 13, 14, 23, 24, 25, 18, 26, 27, 28, 120, 121, 122, 123, 124] rfl (by decide +kernel)
set_option maxRecDepth 20000 in
theorem gX8_reset_X0_align : GoodIn wsX8_reset (wsV RX8 270 RX0 yX0_align wsX0_align) := goodIn_app (goodIn_of _ (by decide +kernel)) ggX8_reset_X0_align
set_option maxRecDepth 20000 in
theorem ggX8_reset_X6_empty : GoodIn wsX8_reset wsX6_empty := goodIn_r _ [33, 34, 125, 126, 127, 128, 129] rfl (by decide +kernel)
set_option maxRecDepth 20000 in
theorem gX8_reset_X6_empty : GoodIn wsX8_reset (wsV RX8 113 RX6 yX6_empty wsX6_empty) := goodIn_app (goodIn_of _ (by decide +kernel)) ggX8_reset_X6_empty
set_option maxRecDepth 20000 in
theorem ggX8_reset_X7_restore : GoodIn wsX8_reset wsX7_restore := goodIn_r _ [39, 40, 41, 42, 43, 44, 45, 46, 47, 48, 49, 50, 13, 51, 52, 12, 14, 130, 131, 132, 133, 134, 135, 136, 137, 138, 139] rfl (by decide +kernel)
set_option maxRecDepth 20000 in
theorem gX8_reset_X7_restore : GoodIn wsX8_reset (wsV RX8 273 RX7 yX7_restore wsX7_restore) := goodIn_app (goodIn_of _ (by decide +kernel)) ggX8_reset_X7_restore
set_option maxRecDepth 20000 in
theorem ggX8_reset_X3_empty : GoodIn wsX8_reset wsX3_empty := goodIn_r _ [57, 58, 59, 60, 56, 61, 62, 63, 64, 65, 66, 67, 68, 69, 70, 71, 72, 73, 74, 75, 76, 77, 140, 141, 142] rfl (by decide +kernel)
set_option maxRecDepth 20000 in
theorem gX8_reset_X3_empty : GoodIn wsX8_reset (wsV RX8 276 RX3 yX3_empty wsX3_empty) := goodIn_app (goodIn_of _ (by decide +kernel)) ggX8_reset_X3_empty
set_option maxRecDepth 20000 in
theorem ggX8_reset_X4_restore : GoodIn wsX8_reset wsX4_restore := goodIn_r _ [82, 83, 84, 85, 86, 87, 88, 89, 90, 91, 16, 17, 18, 19, 20, 21, 22, 12, 13, 14, 23, 24, 25, 26, 27, 28, 92, 93, 94, 95, 96, 97, 98, 99, 143, 144, 145, 146, 147, 148, 149, 150, 151, 152, 153, 154, 120, 121, 122, 123, 124, 155, 156, 157] rfl (by decide +kernel)
set_option maxRecDepth 20000 in
theorem gX8_reset_X4_restore : GoodIn wsX8_reset (wsV RX8 278 RX4 yX4_restore wsX4_restore) := goodIn_app (goodIn_of _ (by decide +kernel)) ggX8_reset_X4_restore
set_option maxRecDepth 20000 in
theorem ggX8_reset_X1_empty : GoodIn wsX8_reset wsX1_empty := goodIn_r _ [104, 105, 158, 159, 160, 161] rfl (by decide +kernel)
set_option maxRecDepth 20000 in
theorem gX8_reset_X1_empty : GoodIn wsX8_reset (wsV RX8 279 RX1 yX1_empty wsX1_empty) := goodIn_app (goodIn_of _ (by decide +kernel)) ggX8_reset_X1_empty
set_option maxRecDepth 20000 in
theorem ggX8_isTurn_X5_isWithin : GoodIn wsX8_isTurn wsX5_isWithin := goodIn_r _ [5] rfl (by decide +kernel)
set_option maxRecDepth 20000 in
theorem gX8_isTurn_X5_isWithin : GoodIn wsX8_isTurn (va_wsS RX8 75 yX5_isWithin wsX5_isWithin) := goodIn_app (goodIn_of _ (by decide +kernel)) ggX8_isTurn_X5_isWithin
set_option maxRecDepth 20000 in
theorem ggX8_isUnitVector_X5_isWithin : GoodIn wsX8_isUnitVector wsX5_isWithin := goodIn_r _ [5] rfl (by decide +kernel)
set_option maxRecDepth 20000 in
theorem gX8_isUnitVector_X5_isWithin : GoodIn wsX8_isUnitVector (va_wsS RX8 75 yX5_isWithin wsX5_isWithin) := goodIn_app (goodIn_of _ (by decide +kernel)) ggX8_isUnitVector_X5_isWithin
set_option maxRecDepth 20000 in
theorem ggX8_tick_X6_takeTick : GoodIn wsX8_tick wsX6_takeTick := goodIn_r _ [19, 20, 21, 22, 23, 24, 25, 26, 27, 28, 29, 30, 31, 18, 32, 33, 34, 35, 36, 255, 256, 257, 258, 259] rfl (by decide +kernel)
set_option maxRecDepth 20000 in
theorem gX8_tick_X6_takeTick : GoodIn wsX8_tick (wsV RX8 284 RX6 yX6_takeTick wsX6_takeTick) := goodIn_app (goodIn_of _ (by decide +kernel)) ggX8_tick_X6_takeTick
set_option maxRecDepth 20000 in
theorem ggX8_tick_X7_senseRates : GoodIn wsX8_tick wsX7_senseRates := goodIn_r _ [41, 42, 43, 44, 45, 46, 47, 48, 49, 50, 51, 52, 53, 54, 55, 56, 57, 58, 59, 60, 61, 62, 63, 64, 65, 66, 67, 68, 69, 70, 71, 72, 73, 40, 74, 75, 76, 260, 261, 262, 263, 264, 265, 266, 267, 268, 269, 270, 271, 272, 273, 274] rfl (by decide +kernel)
set_option maxRecDepth 20000 in
theorem gX8_tick_X7_senseRates : GoodIn wsX8_tick (wsV RX8 287 RX7 yX7_senseRates wsX7_senseRates) := goodIn_app (goodIn_of _ (by decide +kernel)) ggX8_tick_X7_senseRates
set_option maxRecDepth 20000 in
theorem ggX8_tick_X0_turn : GoodIn wsX8_tick wsX0_turn := goodIn_r _ [80, 81, 82, 83, 65, 66, 67, 84, 85, 86, 53, 87, 88, 89, 90, 91, 92, 93, 94, 95, 96, 97, 98, 99, 100, 101, 59, 102, 270, 271, 272, 273, 274] rfl (by decide +kernel)
set_option maxRecDepth 20000 in
theorem gX8_tick_X0_turn : GoodIn wsX8_tick (wsV RX8 120 RX0 yX0_turn wsX0_turn) := goodIn_app (goodIn_of _ (by decide +kernel)) ggX8_tick_X0_turn
set_option maxRecDepth 20000 in
theorem ggX8_tick_X7_senseGravity : GoodIn wsX8_tick wsX7_senseGravity := goodIn_r _ [106, 42, 107, 108, 50, 51, 52, 53, 54, 55, 56, 57, 58, 59, 60, 61, 62, 63, 260, 261, 262, 263, 264, 265, 266, 267, 268, 269, 270, 271, 272, 273, 274] rfl (by decide +kernel)
set_option maxRecDepth 20000 in
theorem gX8_tick_X7_senseGravity : GoodIn wsX8_tick (wsV RX8 291 RX7 yX7_senseGravity wsX7_senseGravity) := goodIn_app (goodIn_of _ (by decide +kernel)) ggX8_tick_X7_senseGravity
set_option maxRecDepth 20000 in
theorem ggX8_tick_X4_follow : GoodIn wsX8_tick wsX4_follow := goodIn_r _ [113, 114, 115, 116, 112, 117, 118, 119, 120, 121, 122, 123, 40, 124, 48, 68, 69, 66, 70, 125, 126, 127, 128, 129, 130, 131, 132, 133, 134, 61, 62, 63, 135, 136, 137, 138, 139, 140, 141, 142, 143, 144, 145, 146, 147, 148, 149, 150, 151, 152, 153, 154, 155, 156, 157, 158, 159, 160, 161, 162, 163, 34, 35, 36, 164, 51, 52, 53, 54, 55, 56, 57, 58, 59, 60, 165, 166, 167, 168, 81, 84, 85, 86, 87, 88, 89, 90, 91, 92, 93, 94, 95, 96, 97, 98, 99, 100, 101, 102, 169, 78, 79, 80, 82, 83, 65, 67, 170, 171, 172, 173, 174, 175, 176, 177, 178, 179, 180, 181, 182, 183, 184, 185, 186, 187, 188, 189, 190, 191, 192, 193, 194, 195, 196, 197, 198, 199, 200, 201, 202, 203, 204, 205, 206, 13, 207, 208, 12, 14, 209, 210, 211, 212, 213, 214, 215, 216, 217, 218, 219, 220, 221, 222, 260, 261, 262, 263, 264, 265, 266, 267, 268, 269, 275, 276, 277, 278, 279, 280, 281, 282, 283, 284, 285, 286, 287, 288, 289, 290, 291, 292, 270, 271, 272, 273, 274] rfl (by decide +kernel)
set_option maxRecDepth 20000 in
theorem gX8_tick_X4_follow : GoodIn wsX8_tick (wsV RX8 295 RX4 yX4_follow wsX4_follow) := goodIn_app (goodIn_of _ (by decide +kernel)) ggX8_tick_X4_follow
set_option maxRecDepth 20000 in
theorem ggX8_tick_X7_bin : GoodIn wsX8_tick wsX7_bin := goodIn_r _ [124, 48, 68, 69, 66, 70, 260, 261, 262, 263, 264, 265, 266, 267, 268, 269] rfl (by decide +kernel)
set_option maxRecDepth 20000 in
theorem gX8_tick_X7_bin : GoodIn wsX8_tick (wsV RX8 182 RX7 yX7_bin wsX7_bin) := goodIn_app (goodIn_of _ (by decide +kernel)) ggX8_tick_X7_bin
set_option maxRecDepth 20000 in
theorem ggX8_tick_X3_column : GoodIn wsX8_tick wsX3_column := goodIn_r _ [140] rfl (by decide +kernel)
set_option maxRecDepth 20000 in
theorem gX8_tick_X3_column : GoodIn wsX8_tick (va_wsS RX8 299 yX3_column wsX3_column) := goodIn_app (goodIn_of _ (by decide +kernel)) ggX8_tick_X3_column
set_option maxRecDepth 20000 in
theorem ggX8_tick_X8_errorAngle : GoodIn wsX8_tick wsX8_errorAngle := goodIn_r _ [229, 6, 5, 230, 231, 232, 53, 233, 234, 89, 90, 102, 91, 92, 93, 235, 236, 62, 237, 238, 239, 240, 241, 242, 243, 244, 245, 246, 247, 248, 249, 250, 251, 252, 253, 254, 275, 276, 277, 278, 279, 280, 281, 282, 283, 284, 285, 286, 270, 271, 272, 273, 274] rfl (by decide +kernel)
set_option maxRecDepth 20000 in
theorem gX8_tick_X8_errorAngle : GoodIn wsX8_tick (wsV RX8 302 RX8 yX8_errorAngle wsX8_errorAngle) := goodIn_app (goodIn_of _ (by decide +kernel)) ggX8_tick_X8_errorAngle
set_option maxRecDepth 20000 in
theorem ggX9_init_X9_begin : GoodIn wsX9_init wsX9_begin := goodIn_r _ [41, 5, 42, 6, 14, 15, 16, 17, 18, 21, 22, 26, 27, 28, 29, 32, 33, 43, 44, 45, 46, 47, 48, 49, 50, 51, 52, 53, 54, 55, 56, 57, 58, 59, 60, 61, 62, 63, 64, 65, 66, 67, 68, 69, 70, 71, 72, 73, 74, 75, 76, 77, 78, 79, 80, 81, 82, 83, 84, 85, 86, 87, 88, 89, 90, 91, 92, 93, 94, 95, 96, 97, 98] rfl (by decide +kernel)
set_option maxRecDepth 20000 in
theorem gX9_init_X9_begin : GoodIn wsX9_init (wsV RX9 102 RX9 yX9_begin wsX9_begin) := goodIn_app (goodIn_of _ (by decide +kernel)) ggX9_init_X9_begin
set_option maxRecDepth 20000 in
theorem ggX9_isAxis_X9_isIn : GoodIn wsX9_isAxis wsX9_isIn := goodIn_r _ [5] rfl (by decide +kernel)
set_option maxRecDepth 20000 in
theorem gX9_isAxis_X9_isIn : GoodIn wsX9_isAxis (va_wsS RX9 107 yX9_isIn wsX9_isIn) := goodIn_app (goodIn_of _ (by decide +kernel)) ggX9_isAxis_X9_isIn
set_option maxRecDepth 20000 in
theorem ggX9_laysBody_X9_laysMatrix : GoodIn wsX9_laysBody wsX9_laysMatrix := goodIn_r _ [7, 2, 8, 9, 10, 11, 12, 13, 14, 15, 16, 17, 18, 19, 20, 21, 22, 23, 24, 25, 26, 27, 28, 29, 30, 31, 32, 33, 34, 35, 36, 37, 38, 39, 40, 41, 42, 43, 44, 45, 46, 47, 48, 49, 50, 51, 52] rfl (by decide +kernel)
set_option maxRecDepth 20000 in
theorem gX9_laysBody_X9_laysMatrix : GoodIn wsX9_laysBody (wsV RX9 115 RX9 yX9_laysMatrix wsX9_laysMatrix) := goodIn_app (goodIn_of _ (by decide +kernel)) ggX9_laysBody_X9_laysMatrix
set_option maxRecDepth 20000 in
theorem ggX9_laysEarth_X9_laysBody : GoodIn wsX9_laysEarth wsX9_laysBody := goodIn_r _ [7, 8, 9, 10, 11, 12, 6, 13, 14, 15, 16, 17, 18, 19, 20, 21, 22, 23, 24, 25, 26, 27, 28, 29, 30, 31, 32, 33, 34, 35, 36, 37, 38, 39, 40, 41, 42, 43, 44, 45, 46, 47, 48, 49, 50, 51, 52, 53, 54, 55, 56, 57, 58] rfl (by decide +kernel)
set_option maxRecDepth 20000 in
theorem gX9_laysEarth_X9_laysBody : GoodIn wsX9_laysEarth (wsV RX9 126 RX9 yX9_laysBody wsX9_laysBody) := goodIn_app (goodIn_of _ (by decide +kernel)) ggX9_laysEarth_X9_laysBody
set_option maxRecDepth 20000 in
theorem ggX9_laysUp_X9_laysBody : GoodIn wsX9_laysUp wsX9_laysBody := goodIn_r _ [6, 7, 8, 9, 10, 11, 5, 12, 13, 14, 15, 16, 17, 18, 19, 20, 21, 22, 23, 24, 25, 26, 27, 28, 29, 30, 31, 32, 33, 34, 35, 36, 37, 38, 39, 40, 41, 42, 43, 44, 45, 46, 47, 48, 49, 50, 51, 52, 53, 54, 55, 56, 57] rfl (by decide +kernel)
set_option maxRecDepth 20000 in
theorem gX9_laysUp_X9_laysBody : GoodIn wsX9_laysUp (wsV RX9 126 RX9 yX9_laysBody wsX9_laysBody) := goodIn_app (goodIn_of _ (by decide +kernel)) ggX9_laysUp_X9_laysBody
set_option maxRecDepth 20000 in
theorem ggX9_turn_X9_floor : GoodIn wsX9_turn wsX9_floor := goodIn_r _ [8] rfl (by decide +kernel)
set_option maxRecDepth 20000 in
theorem gX9_turn_X9_floor : GoodIn wsX9_turn (va_wsS RX9 134 yX9_floor wsX9_floor) := goodIn_app (goodIn_of _ (by decide +kernel)) ggX9_turn_X9_floor
set_option maxRecDepth 20000 in
theorem ggX9_turn_X9_multiply : GoodIn wsX9_turn wsX9_multiply := goodIn_r _ [12, 4, 13, 14, 15, 16, 17, 18, 19, 20, 21, 22, 23, 24, 25, 26, 27, 28, 29, 30, 31, 32, 33, 34, 35, 36, 37, 38, 39, 40, 41, 42, 43, 44, 45, 46, 47, 48, 49, 50, 51, 52, 53, 54, 55] rfl (by decide +kernel)
set_option maxRecDepth 20000 in
theorem gX9_turn_X9_multiply : GoodIn wsX9_turn (wsV RX9 138 RX9 yX9_multiply wsX9_multiply) := goodIn_app (goodIn_of _ (by decide +kernel)) ggX9_turn_X9_multiply
set_option maxRecDepth 20000 in
theorem ggX9_angle_X9_multiply : GoodIn wsX9_angle wsX9_multiply := goodIn_r _ [8, 3, 13, 14, 15, 16, 17, 18, 19, 20, 21, 22, 23, 24, 25, 26, 27, 28, 29, 30, 31, 32, 33, 34, 35, 36, 37, 38, 39, 40, 41, 42, 43, 44, 45, 46, 47, 48, 49, 50, 51, 52, 53, 54, 55] rfl (by decide +kernel)
set_option maxRecDepth 20000 in
theorem gX9_angle_X9_multiply : GoodIn wsX9_angle (wsV RX9 138 RX9 yX9_multiply wsX9_multiply) := goodIn_app (goodIn_of _ (by decide +kernel)) ggX9_angle_X9_multiply
set_option maxRecDepth 20000 in
theorem ggX9_angle_X9_root : GoodIn wsX9_angle wsX9_root := goodIn_r _ [11, 12, 2] rfl (by decide +kernel)
set_option maxRecDepth 20000 in
theorem gX9_angle_X9_root : GoodIn wsX9_angle (va_wsS RX9 142 yX9_root wsX9_root) := goodIn_app (goodIn_of _ (by decide +kernel)) ggX9_angle_X9_root
set_option maxRecDepth 20000 in
theorem ggX9_setGyro_X9_isAxis : GoodIn wsX9_setGyro wsX9_isAxis := goodIn_r _ [14, 15, 16, 17, 13, 18] rfl (by decide +kernel)
set_option maxRecDepth 20000 in
theorem gX9_setGyro_X9_isAxis : GoodIn wsX9_setGyro (va_wsS RX9 180 yX9_isAxis wsX9_isAxis) := goodIn_app (goodIn_of _ (by decide +kernel)) ggX9_setGyro_X9_isAxis
set_option maxRecDepth 20000 in
theorem ggX9_setGyro_X9_isIn : GoodIn wsX9_setGyro wsX9_isIn := goodIn_r _ [18] rfl (by decide +kernel)
set_option maxRecDepth 20000 in
theorem gX9_setGyro_X9_isIn : GoodIn wsX9_setGyro (va_wsS RX9 107 yX9_isIn wsX9_isIn) := goodIn_app (goodIn_of _ (by decide +kernel)) ggX9_setGyro_X9_isIn
set_option maxRecDepth 20000 in
theorem ggX9_setAccelerometer_X9_isAxis : GoodIn wsX9_setAccelerometer wsX9_isAxis := goodIn_r _ [7, 8, 9, 10, 6, 11] rfl (by decide +kernel)
set_option maxRecDepth 20000 in
theorem gX9_setAccelerometer_X9_isAxis : GoodIn wsX9_setAccelerometer (va_wsS RX9 180 yX9_isAxis wsX9_isAxis) := goodIn_app (goodIn_of _ (by decide +kernel)) ggX9_setAccelerometer_X9_isAxis
set_option maxRecDepth 20000 in
theorem ggX9_setAccelerometer_X9_isIn : GoodIn wsX9_setAccelerometer wsX9_isIn := goodIn_r _ [11] rfl (by decide +kernel)
set_option maxRecDepth 20000 in
theorem gX9_setAccelerometer_X9_isIn : GoodIn wsX9_setAccelerometer (va_wsS RX9 107 yX9_isIn wsX9_isIn) := goodIn_app (goodIn_of _ (by decide +kernel)) ggX9_setAccelerometer_X9_isIn
set_option maxRecDepth 20000 in
theorem ggX9_setEarthRate_X9_isIn : GoodIn wsX9_setEarthRate wsX9_isIn := goodIn_r _ [8] rfl (by decide +kernel)
set_option maxRecDepth 20000 in
theorem gX9_setEarthRate_X9_isIn : GoodIn wsX9_setEarthRate (va_wsS RX9 107 yX9_isIn wsX9_isIn) := goodIn_app (goodIn_of _ (by decide +kernel)) ggX9_setEarthRate_X9_isIn
set_option maxRecDepth 20000 in
theorem ggX9_setTemperature_X9_isIn : GoodIn wsX9_setTemperature wsX9_isIn := goodIn_r _ [7] rfl (by decide +kernel)
set_option maxRecDepth 20000 in
theorem gX9_setTemperature_X9_isIn : GoodIn wsX9_setTemperature (va_wsS RX9 107 yX9_isIn wsX9_isIn) := goodIn_app (goodIn_of _ (by decide +kernel)) ggX9_setTemperature_X9_isIn
set_option maxRecDepth 20000 in
theorem ggX9_isTurn_X9_isIn : GoodIn wsX9_isTurn wsX9_isIn := goodIn_r _ [6] rfl (by decide +kernel)
set_option maxRecDepth 20000 in
theorem gX9_isTurn_X9_isIn : GoodIn wsX9_isTurn (va_wsS RX9 107 yX9_isIn wsX9_isIn) := goodIn_app (goodIn_of _ (by decide +kernel)) ggX9_isTurn_X9_isIn
set_option maxRecDepth 20000 in
theorem ggX9_addSegment_X9_isIn : GoodIn wsX9_addSegment wsX9_isIn := goodIn_r _ [8] rfl (by decide +kernel)
set_option maxRecDepth 20000 in
theorem gX9_addSegment_X9_isIn : GoodIn wsX9_addSegment (va_wsS RX9 107 yX9_isIn wsX9_isIn) := goodIn_app (goodIn_of _ (by decide +kernel)) ggX9_addSegment_X9_isIn
set_option maxRecDepth 20000 in
theorem ggX9_addSegment_X9_isTurn : GoodIn wsX9_addSegment wsX9_isTurn := goodIn_r _ [11, 12, 13, 5, 6, 7, 8] rfl (by decide +kernel)
set_option maxRecDepth 20000 in
theorem gX9_addSegment_X9_isTurn : GoodIn wsX9_addSegment (va_wsS RX9 212 yX9_isTurn wsX9_isTurn) := goodIn_app (goodIn_of _ (by decide +kernel)) ggX9_addSegment_X9_isTurn
set_option maxRecDepth 20000 in
theorem ggX9_turnTruth_X9_isTurn : GoodIn wsX9_turnTruth wsX9_isTurn := goodIn_r _ [5, 6, 7, 8, 9, 4, 10] rfl (by decide +kernel)
set_option maxRecDepth 20000 in
theorem gX9_turnTruth_X9_isTurn : GoodIn wsX9_turnTruth (va_wsS RX9 212 yX9_isTurn wsX9_isTurn) := goodIn_app (goodIn_of _ (by decide +kernel)) ggX9_turnTruth_X9_isTurn
set_option maxRecDepth 20000 in
theorem ggX9_turnTruth_X9_turn : GoodIn wsX9_turnTruth wsX9_turn := goodIn_r _ [14, 15, 16, 17, 18, 19, 20, 4, 21, 22, 23, 24, 25, 26, 27, 28, 29, 30, 31, 32, 33, 34, 35, 36, 37, 38, 39, 40, 41, 42, 43, 44, 45, 46, 47, 48, 49, 50, 51, 52, 53, 54, 55, 56, 57, 58, 59, 60, 61, 62, 63, 64, 65, 66, 67, 68] rfl (by decide +kernel)
set_option maxRecDepth 20000 in
theorem gX9_turnTruth_X9_turn : GoodIn wsX9_turnTruth (wsV RX9 216 RX9 yX9_turn wsX9_turn) := goodIn_app (goodIn_of _ (by decide +kernel)) ggX9_turnTruth_X9_turn
set_option maxRecDepth 20000 in
theorem ggX9_bin_X9_floor : GoodIn wsX9_bin wsX9_floor := goodIn_r _ [6] rfl (by decide +kernel)
set_option maxRecDepth 20000 in
theorem gX9_bin_X9_floor : GoodIn wsX9_bin (va_wsS RX9 134 yX9_floor wsX9_floor) := goodIn_app (goodIn_of _ (by decide +kernel)) ggX9_bin_X9_floor
set_option maxRecDepth 20000 in
theorem ggX9_reads_X9_laysEarth : GoodIn wsX9_reads wsX9_laysEarth := goodIn_r _ [18, 19, 20, 21, 22, 23, 17, 24, 3, 25, 26, 27, 28, 29, 30, 31, 57, 58, 59, 60, 61, 62, 63, 64, 65, 66, 67, 68, 69, 70, 71, 72, 73, 74, 75, 76, 77, 78, 79, 80, 81, 82, 83, 84, 85, 86, 87, 88, 89, 90, 91, 92, 93, 94, 95, 96, 97, 98, 99] rfl (by decide +kernel)
set_option maxRecDepth 20000 in
theorem gX9_reads_X9_laysEarth : GoodIn wsX9_reads (wsV RX9 223 RX9 yX9_laysEarth wsX9_laysEarth) := goodIn_app (goodIn_of _ (by decide +kernel)) ggX9_reads_X9_laysEarth
set_option maxRecDepth 20000 in
theorem ggX9_reads_X9_below : GoodIn wsX9_reads wsX9_below := goodIn_r _ [35, 36, 37, 57, 58, 59, 60, 61, 62, 63, 64, 65, 66, 67, 68, 69, 70, 71, 72, 73, 74, 75, 76, 77, 78, 79, 80, 81, 82, 83, 84, 85, 86, 87, 88, 89, 90, 91, 92, 93, 94, 95, 96, 97, 98, 99] rfl (by decide +kernel)
set_option maxRecDepth 20000 in
theorem gX9_reads_X9_below : GoodIn wsX9_reads (wsV RX9 226 RX9 yX9_below wsX9_below) := goodIn_app (goodIn_of _ (by decide +kernel)) ggX9_reads_X9_below
set_option maxRecDepth 20000 in
theorem ggX9_reads_X9_floor : GoodIn wsX9_reads wsX9_floor := goodIn_r _ [40] rfl (by decide +kernel)
set_option maxRecDepth 20000 in
theorem gX9_reads_X9_floor : GoodIn wsX9_reads (va_wsS RX9 134 yX9_floor wsX9_floor) := goodIn_app (goodIn_of _ (by decide +kernel)) ggX9_reads_X9_floor
set_option maxRecDepth 20000 in
theorem ggX9_reads_X9_turn : GoodIn wsX9_reads wsX9_turn := goodIn_r _ [44, 30, 45, 46, 47, 38, 39, 17, 40, 48, 49, 50, 51, 57, 58, 59, 60, 61, 62, 63, 64, 65, 66, 67, 68, 69, 70, 71, 72, 73, 74, 75, 76, 77, 78, 79, 80, 81, 82, 83, 84, 85, 86, 87, 88, 89, 90, 91, 92, 93, 94, 95, 96, 97, 98, 99] rfl (by decide +kernel)
set_option maxRecDepth 20000 in
theorem gX9_reads_X9_turn : GoodIn wsX9_reads (wsV RX9 216 RX9 yX9_turn wsX9_turn) := goodIn_app (goodIn_of _ (by decide +kernel)) ggX9_reads_X9_turn
set_option maxRecDepth 20000 in
theorem ggX9_reads_X9_laysUp : GoodIn wsX9_reads wsX9_laysUp := goodIn_r _ [55, 56, 21, 22, 23, 17, 24, 3, 25, 26, 27, 28, 29, 30, 31, 57, 58, 59, 60, 61, 62, 63, 64, 65, 66, 67, 68, 69, 70, 71, 72, 73, 74, 75, 76, 77, 78, 79, 80, 81, 82, 83, 84, 85, 86, 87, 88, 89, 90, 91, 92, 93, 94, 95, 96, 97, 98, 99] rfl (by decide +kernel)
set_option maxRecDepth 20000 in
theorem gX9_reads_X9_laysUp : GoodIn wsX9_reads (wsV RX9 232 RX9 yX9_laysUp wsX9_laysUp) := goodIn_app (goodIn_of _ (by decide +kernel)) ggX9_reads_X9_laysUp
set_option maxRecDepth 20000 in
theorem ggX9_propagates_X9_bin : GoodIn wsX9_propagates wsX9_bin := goodIn_r _ [17, 18, 19, 20, 21, 16, 22, 61, 62, 63, 64, 65, 66, 67, 68, 69, 70, 71, 72, 73, 74, 75, 76, 77, 78, 79, 80, 81, 82, 83, 84, 85, 86, 87, 88, 89, 90, 91, 92, 93, 94, 95, 96, 97, 98, 99, 100, 101, 102, 103] rfl (by decide +kernel)
set_option maxRecDepth 20000 in
theorem gX9_propagates_X9_bin : GoodIn wsX9_propagates (wsV RX9 235 RX9 yX9_bin wsX9_bin) := goodIn_app (goodIn_of _ (by decide +kernel)) ggX9_propagates_X9_bin
set_option maxRecDepth 20000 in
theorem ggX9_propagates_X9_compensationAt : GoodIn wsX9_propagates wsX9_compensationAt := goodIn_r _ [26, 27, 28, 61, 62, 63, 64, 65, 66, 67, 68, 69, 70, 71, 72, 73, 74, 75, 76, 77, 78, 79, 80, 81, 82, 83, 84, 85, 86, 87, 88, 89, 90, 91, 92, 93, 94, 95, 96, 97, 98, 99, 100, 101, 102, 103] rfl (by decide +kernel)
set_option maxRecDepth 20000 in
theorem gX9_propagates_X9_compensationAt : GoodIn wsX9_propagates (wsV RX9 239 RX9 yX9_compensationAt wsX9_compensationAt) := goodIn_app (goodIn_of _ (by decide +kernel)) ggX9_propagates_X9_compensationAt
set_option maxRecDepth 20000 in
theorem ggX9_propagates_X9_laysEarth : GoodIn wsX9_propagates wsX9_laysEarth := goodIn_r _ [32, 33, 34, 35, 36, 37, 16, 38, 8, 39, 40, 41, 42, 43, 44, 45, 61, 62, 63, 64, 65, 66, 67, 68, 69, 70, 71, 72, 73, 74, 75, 76, 77, 78, 79, 80, 81, 82, 83, 84, 85, 86, 87, 88, 89, 90, 91, 92, 93, 94, 95, 96, 97, 98, 99, 100, 101, 102, 103] rfl (by decide +kernel)
set_option maxRecDepth 20000 in
theorem gX9_propagates_X9_laysEarth : GoodIn wsX9_propagates (wsV RX9 223 RX9 yX9_laysEarth wsX9_laysEarth) := goodIn_app (goodIn_of _ (by decide +kernel)) ggX9_propagates_X9_laysEarth
set_option maxRecDepth 20000 in
theorem ggX9_propagates_X9_laysCross : GoodIn wsX9_propagates wsX9_laysCross := goodIn_r _ [49, 9, 61, 62, 63, 64, 65, 66, 67, 68, 69, 70, 71, 72, 73, 74, 75, 76, 77, 78, 79, 80, 81, 82, 83, 84, 85, 86, 87, 88, 89, 90, 91, 92, 93, 94, 95, 96, 97, 98, 99, 100, 101, 102, 103] rfl (by decide +kernel)
set_option maxRecDepth 20000 in
theorem gX9_propagates_X9_laysCross : GoodIn wsX9_propagates (wsV RX9 243 RX9 yX9_laysCross wsX9_laysCross) := goodIn_app (goodIn_of _ (by decide +kernel)) ggX9_propagates_X9_laysCross
set_option maxRecDepth 20000 in
theorem ggX9_propagates_X9_floor : GoodIn wsX9_propagates wsX9_floor := goodIn_r _ [22] rfl (by decide +kernel)
set_option maxRecDepth 20000 in
theorem gX9_propagates_X9_floor : GoodIn wsX9_propagates (va_wsS RX9 134 yX9_floor wsX9_floor) := goodIn_app (goodIn_of _ (by decide +kernel)) ggX9_propagates_X9_floor
set_option maxRecDepth 20000 in
theorem ggX9_propagates_X9_turn : GoodIn wsX9_propagates wsX9_turn := goodIn_r _ [53, 44, 54, 55, 56, 20, 21, 16, 22, 57, 58, 59, 60, 61, 62, 63, 64, 65, 66, 67, 68, 69, 70, 71, 72, 73, 74, 75, 76, 77, 78, 79, 80, 81, 82, 83, 84, 85, 86, 87, 88, 89, 90, 91, 92, 93, 94, 95, 96, 97, 98, 99, 100, 101, 102, 103] rfl (by decide +kernel)
set_option maxRecDepth 20000 in
theorem gX9_propagates_X9_turn : GoodIn wsX9_propagates (wsV RX9 216 RX9 yX9_turn wsX9_turn) := goodIn_app (goodIn_of _ (by decide +kernel)) ggX9_propagates_X9_turn
set_option maxRecDepth 20000 in
theorem ggX9_levels_X9_laysUp : GoodIn wsX9_levels wsX9_laysUp := goodIn_r _ [10, 11, 12, 13, 14, 9, 15, 3, 16, 17, 18, 19, 20, 21, 22, 41, 42, 43, 44, 45, 46, 47, 48, 49, 50, 51, 52, 53, 54, 55, 56, 57, 58, 59, 60, 61, 62, 63, 64, 65, 66, 67, 68, 69, 70, 71, 72, 73, 74, 75, 76, 77, 78, 79, 80, 81, 82, 83] rfl (by decide +kernel)
set_option maxRecDepth 20000 in
theorem gX9_levels_X9_laysUp : GoodIn wsX9_levels (wsV RX9 232 RX9 yX9_laysUp wsX9_laysUp) := goodIn_app (goodIn_of _ (by decide +kernel)) ggX9_levels_X9_laysUp
set_option maxRecDepth 20000 in
theorem ggX9_levels_X9_laysCross : GoodIn wsX9_levels wsX9_laysCross := goodIn_r _ [26, 4, 41, 42, 43, 44, 45, 46, 47, 48, 49, 50, 51, 52, 53, 54, 55, 56, 57, 58, 59, 60, 61, 62, 63, 64, 65, 66, 67, 68, 69, 70, 71, 72, 73, 74, 75, 76, 77, 78, 79, 80, 81, 82, 83] rfl (by decide +kernel)
set_option maxRecDepth 20000 in
theorem gX9_levels_X9_laysCross : GoodIn wsX9_levels (wsV RX9 243 RX9 yX9_laysCross wsX9_laysCross) := goodIn_app (goodIn_of _ (by decide +kernel)) ggX9_levels_X9_laysCross
set_option maxRecDepth 20000 in
theorem ggX9_levels_X9_turn : GoodIn wsX9_levels wsX9_turn := goodIn_r _ [30, 21, 31, 32, 33, 34, 35, 9, 36, 37, 38, 39, 40, 41, 42, 43, 44, 45, 46, 47, 48, 49, 50, 51, 52, 53, 54, 55, 56, 57, 58, 59, 60, 61, 62, 63, 64, 65, 66, 67, 68, 69, 70, 71, 72, 73, 74, 75, 76, 77, 78, 79, 80, 81, 82, 83] rfl (by decide +kernel)
set_option maxRecDepth 20000 in
theorem gX9_levels_X9_turn : GoodIn wsX9_levels (wsV RX9 216 RX9 yX9_turn wsX9_turn) := goodIn_app (goodIn_of _ (by decide +kernel)) ggX9_levels_X9_turn
set_option maxRecDepth 20000 in
theorem ggX9_heads_X9_isIn : GoodIn wsX9_heads wsX9_isIn := goodIn_r _ [15] rfl (by decide +kernel)
set_option maxRecDepth 20000 in
theorem gX9_heads_X9_isIn : GoodIn wsX9_heads (va_wsS RX9 107 yX9_isIn wsX9_isIn) := goodIn_app (goodIn_of _ (by decide +kernel)) ggX9_heads_X9_isIn
set_option maxRecDepth 20000 in
theorem ggX9_heads_X9_laysEarth : GoodIn wsX9_heads wsX9_laysEarth := goodIn_r _ [19, 1, 2, 20, 21, 22, 14, 23, 8, 24, 25, 26, 27, 28, 29, 30, 52, 53, 54, 55, 56, 57, 58, 59, 60, 61, 62, 63, 64, 65, 66, 67, 68, 69, 70, 71, 72, 73, 74, 75, 76, 77, 78, 79, 80, 81, 82, 83, 84, 85, 86, 87, 88, 89, 90, 91, 92, 93, 94] rfl (by decide +kernel)
set_option maxRecDepth 20000 in
theorem gX9_heads_X9_laysEarth : GoodIn wsX9_heads (wsV RX9 223 RX9 yX9_laysEarth wsX9_laysEarth) := goodIn_app (goodIn_of _ (by decide +kernel)) ggX9_heads_X9_laysEarth
set_option maxRecDepth 20000 in
theorem ggX9_heads_X9_laysCross : GoodIn wsX9_heads wsX9_laysCross := goodIn_r _ [34, 9, 52, 53, 54, 55, 56, 57, 58, 59, 60, 61, 62, 63, 64, 65, 66, 67, 68, 69, 70, 71, 72, 73, 74, 75, 76, 77, 78, 79, 80, 81, 82, 83, 84, 85, 86, 87, 88, 89, 90, 91, 92, 93, 94] rfl (by decide +kernel)
set_option maxRecDepth 20000 in
theorem gX9_heads_X9_laysCross : GoodIn wsX9_heads (wsV RX9 243 RX9 yX9_laysCross wsX9_laysCross) := goodIn_app (goodIn_of _ (by decide +kernel)) ggX9_heads_X9_laysCross
set_option maxRecDepth 20000 in
theorem ggX9_heads_X9_floor : GoodIn wsX9_heads wsX9_floor := goodIn_r _ [37] rfl (by decide +kernel)
set_option maxRecDepth 20000 in
theorem gX9_heads_X9_floor : GoodIn wsX9_heads (va_wsS RX9 134 yX9_floor wsX9_floor) := goodIn_app (goodIn_of _ (by decide +kernel)) ggX9_heads_X9_floor
set_option maxRecDepth 20000 in
theorem ggX9_heads_X9_limited : GoodIn wsX9_heads wsX9_limited := goodIn_r _ [40] rfl (by decide +kernel)
set_option maxRecDepth 20000 in
theorem gX9_heads_X9_limited : GoodIn wsX9_heads (va_wsS RX9 254 yX9_limited wsX9_limited) := goodIn_app (goodIn_of _ (by decide +kernel)) ggX9_heads_X9_limited
set_option maxRecDepth 20000 in
theorem ggX9_heads_X9_turn : GoodIn wsX9_heads wsX9_turn := goodIn_r _ [44, 29, 45, 46, 47, 35, 36, 14, 37, 48, 49, 50, 51, 52, 53, 54, 55, 56, 57, 58, 59, 60, 61, 62, 63, 64, 65, 66, 67, 68, 69, 70, 71, 72, 73, 74, 75, 76, 77, 78, 79, 80, 81, 82, 83, 84, 85, 86, 87, 88, 89, 90, 91, 92, 93, 94] rfl (by decide +kernel)
set_option maxRecDepth 20000 in
theorem gX9_heads_X9_turn : GoodIn wsX9_heads (wsV RX9 216 RX9 yX9_turn wsX9_turn) := goodIn_app (goodIn_of _ (by decide +kernel)) ggX9_heads_X9_turn
set_option maxRecDepth 20000 in
theorem ggX9_calibrates_X9_laysEarth : GoodIn wsX9_calibrates wsX9_laysEarth := goodIn_r _ [11, 12, 13, 14, 15, 16, 10, 17, 6, 18, 19, 20, 21, 22, 23, 24, 28, 29, 30, 31, 32, 33, 34, 35, 36, 37, 38, 39, 40, 41, 42, 43, 44, 45, 46, 47, 48, 49, 50, 51, 52, 53, 54, 55, 56, 57, 58, 59, 60, 61, 62, 63, 64, 65, 66, 67, 68, 69, 70] rfl (by decide +kernel)
set_option maxRecDepth 20000 in
theorem gX9_calibrates_X9_laysEarth : GoodIn wsX9_calibrates (wsV RX9 223 RX9 yX9_laysEarth wsX9_laysEarth) := goodIn_app (goodIn_of _ (by decide +kernel)) ggX9_calibrates_X9_laysEarth
set_option maxRecDepth 20000 in
theorem ggX9_calibrates_X9_floor : GoodIn wsX9_calibrates wsX9_floor := goodIn_r _ [27] rfl (by decide +kernel)
set_option maxRecDepth 20000 in
theorem gX9_calibrates_X9_floor : GoodIn wsX9_calibrates (va_wsS RX9 134 yX9_floor wsX9_floor) := goodIn_app (goodIn_of _ (by decide +kernel)) ggX9_calibrates_X9_floor
set_option maxRecDepth 20000 in
theorem ggX9_tick_X9_removeSegment : GoodIn wsX9_tick wsX9_removeSegment := goodIn_r _ [17, 2, 4, 3, 133, 134, 135, 136, 137, 138, 139, 140, 141, 142, 143, 144, 145, 146, 147, 148, 149, 150, 151, 152, 153, 154, 155, 156, 157, 158, 159, 160, 161, 162, 163, 164, 165, 166, 167, 168, 169, 170, 171, 172, 173, 174, 175] rfl (by decide +kernel)
set_option maxRecDepth 20000 in
theorem gX9_tick_X9_removeSegment : GoodIn wsX9_tick (wsV RX9 257 RX9 yX9_removeSegment wsX9_removeSegment) := goodIn_app (goodIn_of _ (by decide +kernel)) ggX9_tick_X9_removeSegment
set_option maxRecDepth 20000 in
theorem ggX9_tick_X9_reads : GoodIn wsX9_tick wsX9_reads := goodIn_r _ [21, 10, 1, 22, 23, 24, 25, 26, 27, 28, 29, 30, 31, 32, 33, 34, 35, 16, 36, 37, 38, 39, 40, 41, 42, 43, 44, 45, 46, 47, 48, 49, 50, 51, 52, 53, 54, 55, 56, 57, 58, 59, 60, 61, 62, 63, 64, 65, 66, 67, 68, 69, 70, 71, 72, 73, 74, 133, 134, 135, 136, 137, 138, 139, 140, 141, 142, 143, 144, 145, 146, 147, 148, 149, 150, 151, 152, 153, 154, 155, 156, 157, 158, 159, 160, 161, 162, 163, 164, 165, 166, 167, 168, 169, 170, 171, 172, 173, 174, 175] rfl (by decide +kernel)
set_option maxRecDepth 20000 in
theorem gX9_tick_X9_reads : GoodIn wsX9_tick (wsV RX9 260 RX9 yX9_reads wsX9_reads) := goodIn_app (goodIn_of _ (by decide +kernel)) ggX9_tick_X9_reads
set_option maxRecDepth 20000 in
theorem ggX9_tick_X9_propagates : GoodIn wsX9_tick wsX9_propagates := goodIn_r _ [78, 24, 7, 79, 80, 81, 11, 82, 22, 83, 84, 85, 86, 87, 88, 89, 16, 90, 29, 30, 56, 57, 58, 91, 92, 93, 94, 95, 96, 33, 34, 35, 36, 37, 38, 39, 40, 41, 42, 43, 44, 45, 46, 47, 48, 49, 97, 98, 99, 100, 59, 60, 61, 62, 63, 64, 65, 66, 67, 68, 69, 133, 134, 135, 136, 137, 138, 139, 140, 141, 142, 143, 144, 145, 146, 147, 148, 149, 150, 151, 152, 153, 154, 155, 156, 157, 158, 159, 160, 161, 162, 163, 164, 165, 166, 167, 168, 169, 170, 171, 172, 173, 174, 175] rfl (by decide +kernel)
set_option maxRecDepth 20000 in
theorem gX9_tick_X9_propagates : GoodIn wsX9_tick (wsV RX9 263 RX9 yX9_propagates wsX9_propagates) := goodIn_app (goodIn_of _ (by decide +kernel)) ggX9_tick_X9_propagates
set_option maxRecDepth 20000 in
theorem ggX9_tick_X9_levels : GoodIn wsX9_tick wsX9_levels := goodIn_r _ [104, 11, 31, 22, 83, 5, 70, 71, 72, 16, 73, 74, 39, 40, 41, 42, 43, 44, 45, 46, 47, 48, 49, 97, 98, 99, 100, 59, 60, 61, 62, 63, 64, 65, 56, 57, 58, 66, 67, 68, 69, 133, 134, 135, 136, 137, 138, 139, 140, 141, 142, 143, 144, 145, 146, 147, 148, 149, 150, 151, 152, 153, 154, 155, 156, 157, 158, 159, 160, 161, 162, 163, 164, 165, 166, 167, 168, 169, 170, 171, 172, 173, 174, 175] rfl (by decide +kernel)
set_option maxRecDepth 20000 in
theorem gX9_tick_X9_levels : GoodIn wsX9_tick (wsV RX9 266 RX9 yX9_levels wsX9_levels) := goodIn_app (goodIn_of _ (by decide +kernel)) ggX9_tick_X9_levels
set_option maxRecDepth 20000 in
theorem ggX9_tick_X9_heads : GoodIn wsX9_tick wsX9_heads := goodIn_r _ [108, 37, 38, 80, 109, 110, 111, 11, 22, 83, 6, 112, 113, 114, 16, 115, 33, 34, 35, 36, 39, 40, 41, 42, 43, 44, 45, 46, 47, 48, 49, 97, 98, 99, 100, 56, 57, 58, 116, 117, 118, 59, 60, 61, 62, 63, 64, 65, 66, 67, 68, 69, 133, 134, 135, 136, 137, 138, 139, 140, 141, 142, 143, 144, 145, 146, 147, 148, 149, 150, 151, 152, 153, 154, 155, 156, 157, 158, 159, 160, 161, 162, 163, 164, 165, 166, 167, 168, 169, 170, 171, 172, 173, 174, 175] rfl (by decide +kernel)
set_option maxRecDepth 20000 in
theorem gX9_tick_X9_heads : GoodIn wsX9_tick (wsV RX9 269 RX9 yX9_heads wsX9_heads) := goodIn_app (goodIn_of _ (by decide +kernel)) ggX9_tick_X9_heads
set_option maxRecDepth 20000 in
theorem ggX9_tick_X9_calibrates : GoodIn wsX9_tick wsX9_calibrates := goodIn_r _ [122, 7, 11, 81, 79, 123, 22, 33, 34, 35, 16, 36, 37, 38, 39, 40, 41, 42, 43, 44, 45, 46, 47, 48, 49, 56, 57, 58, 133, 134, 135, 136, 137, 138, 139, 140, 141, 142, 143, 144, 145, 146, 147, 148, 149, 150, 151, 152, 153, 154, 155, 156, 157, 158, 159, 160, 161, 162, 163, 164, 165, 166, 167, 168, 169, 170, 171, 172, 173, 174, 175] rfl (by decide +kernel)
set_option maxRecDepth 20000 in
theorem gX9_tick_X9_calibrates : GoodIn wsX9_tick (wsV RX9 272 RX9 yX9_calibrates wsX9_calibrates) := goodIn_app (goodIn_of _ (by decide +kernel)) ggX9_tick_X9_calibrates
set_option maxRecDepth 20000 in
theorem ggX9_tick_X9_bin : GoodIn wsX9_tick wsX9_bin := goodIn_r _ [90, 29, 30, 56, 57, 16, 58, 133, 134, 135, 136, 137, 138, 139, 140, 141, 142, 143, 144, 145, 146, 147, 148, 149, 150, 151, 152, 153, 154, 155, 156, 157, 158, 159, 160, 161, 162, 163, 164, 165, 166, 167, 168, 169, 170, 171, 172, 173, 174, 175] rfl (by decide +kernel)
set_option maxRecDepth 20000 in
theorem gX9_tick_X9_bin : GoodIn wsX9_tick (wsV RX9 235 RX9 yX9_bin wsX9_bin) := goodIn_app (goodIn_of _ (by decide +kernel)) ggX9_tick_X9_bin
set_option maxRecDepth 20000 in
theorem ggX9_tick_X9_angle : GoodIn wsX9_tick wsX9_angle := goodIn_r _ [127, 128, 49, 65, 66, 67, 68, 16, 69, 129, 130, 131, 132, 133, 134, 135, 136, 137, 138, 139, 140, 141, 142, 143, 144, 145, 146, 147, 148, 149, 150, 151, 152, 153, 154, 155, 156, 157, 158, 159, 160, 161, 162, 163, 164, 165, 166, 167, 168, 169, 170, 171, 172, 173, 174, 175] rfl (by decide +kernel)
set_option maxRecDepth 20000 in
theorem gX9_tick_X9_angle : GoodIn wsX9_tick (wsV RX9 275 RX9 yX9_angle wsX9_angle) := goodIn_app (goodIn_of _ (by decide +kernel)) ggX9_tick_X9_angle
set_option maxRecDepth 20000 in
theorem ggX9_run_X9_isIn : GoodIn wsX9_run wsX9_isIn := goodIn_r _ [7] rfl (by decide +kernel)
set_option maxRecDepth 20000 in
theorem gX9_run_X9_isIn : GoodIn wsX9_run (va_wsS RX9 107 yX9_isIn wsX9_isIn) := goodIn_app (goodIn_of _ (by decide +kernel)) ggX9_run_X9_isIn
set_option maxRecDepth 20000 in
theorem ggX9_run_X9_tick : GoodIn wsX9_run wsX9_tick := goodIn_r _ [11, 12, 13, 14, 15, 16, 17, 18, 2, 19, 20, 21, 22, 23, 24, 25, 6, 26, 27, 28, 29, 30, 31, 32, 33, 34, 35, 36, 37, 38, 39, 40, 41, 42, 43, 44, 45, 46, 47, 48, 49, 50, 51, 52, 53, 54, 55, 56, 57, 58, 59, 60, 61, 62, 63, 64, 65, 66, 67, 68, 69, 70, 71, 72, 73, 74, 75, 76, 77, 78, 79, 80, 81, 82, 83, 84, 85, 86, 87, 88, 89, 90, 91, 92, 93, 94, 95, 96, 97, 98, 99, 100, 101, 102, 103, 104, 105, 106, 107, 108, 109, 110, 111, 112, 113, 114, 115, 116, 117, 118, 119, 120, 121, 4, 5, 7, 122, 123, 124, 125, 126, 127, 128, 129, 130, 131, 132, 133, 134, 135, 136, 137, 138, 139, 140, 141, 142, 143, 144, 145, 146, 147, 148, 149, 150, 151, 152, 153, 154, 155, 156, 157, 158, 159, 160, 161, 162, 163, 164, 165, 166, 167, 168, 169, 170, 171, 172, 173, 174, 175, 176, 177, 178, 179, 180, 181] rfl (by decide +kernel)
set_option maxRecDepth 20000 in
theorem gX9_run_X9_tick : GoodIn wsX9_run (wsV RX9 282 RX9 yX9_tick wsX9_tick) := goodIn_app (goodIn_of _ (by decide +kernel)) ggX9_run_X9_tick
set_option maxRecDepth 20000 in
theorem ggX9_gyro_X9_isAxis : GoodIn wsX9_gyro wsX9_isAxis := goodIn_r _ [5, 6, 7, 8, 4, 9] rfl (by decide +kernel)
set_option maxRecDepth 20000 in
theorem gX9_gyro_X9_isAxis : GoodIn wsX9_gyro (va_wsS RX9 180 yX9_isAxis wsX9_isAxis) := goodIn_app (goodIn_of _ (by decide +kernel)) ggX9_gyro_X9_isAxis
set_option maxRecDepth 20000 in
theorem ggX9_accelerometer_X9_isAxis : GoodIn wsX9_accelerometer wsX9_isAxis := goodIn_r _ [5, 6, 7, 8, 4, 9] rfl (by decide +kernel)
set_option maxRecDepth 20000 in
theorem gX9_accelerometer_X9_isAxis : GoodIn wsX9_accelerometer (va_wsS RX9 180 yX9_isAxis wsX9_isAxis) := goodIn_app (goodIn_of _ (by decide +kernel)) ggX9_accelerometer_X9_isAxis
set_option maxRecDepth 20000 in
theorem ggX9_setMethod_X9_isIn : GoodIn wsX9_setMethod wsX9_isIn := goodIn_r _ [6] rfl (by decide +kernel)
set_option maxRecDepth 20000 in
theorem gX9_setMethod_X9_isIn : GoodIn wsX9_setMethod (va_wsS RX9 107 yX9_isIn wsX9_isIn) := goodIn_app (goodIn_of _ (by decide +kernel)) ggX9_setMethod_X9_isIn
set_option maxRecDepth 20000 in
theorem ggX9_setLevelling_X9_isIn : GoodIn wsX9_setLevelling wsX9_isIn := goodIn_r _ [6] rfl (by decide +kernel)
set_option maxRecDepth 20000 in
theorem gX9_setLevelling_X9_isIn : GoodIn wsX9_setLevelling (va_wsS RX9 107 yX9_isIn wsX9_isIn) := goodIn_app (goodIn_of _ (by decide +kernel)) ggX9_setLevelling_X9_isIn
set_option maxRecDepth 20000 in
theorem ggX9_setHeading_X9_isIn : GoodIn wsX9_setHeading wsX9_isIn := goodIn_r _ [7] rfl (by decide +kernel)
set_option maxRecDepth 20000 in
theorem gX9_setHeading_X9_isIn : GoodIn wsX9_setHeading (va_wsS RX9 107 yX9_isIn wsX9_isIn) := goodIn_app (goodIn_of _ (by decide +kernel)) ggX9_setHeading_X9_isIn
set_option maxRecDepth 20000 in
theorem ggX9_startCalibration_X9_isIn : GoodIn wsX9_startCalibration wsX9_isIn := goodIn_r _ [8] rfl (by decide +kernel)
set_option maxRecDepth 20000 in
theorem gX9_startCalibration_X9_isIn : GoodIn wsX9_startCalibration (va_wsS RX9 107 yX9_isIn wsX9_isIn) := goodIn_app (goodIn_of _ (by decide +kernel)) ggX9_startCalibration_X9_isIn
set_option maxRecDepth 20000 in
theorem ggX9_biasEstimate_X9_isAxis : GoodIn wsX9_biasEstimate wsX9_isAxis := goodIn_r _ [5, 6, 7, 8, 4, 9] rfl (by decide +kernel)
set_option maxRecDepth 20000 in
theorem gX9_biasEstimate_X9_isAxis : GoodIn wsX9_biasEstimate (va_wsS RX9 180 yX9_isAxis wsX9_isAxis) := goodIn_app (goodIn_of _ (by decide +kernel)) ggX9_biasEstimate_X9_isAxis
set_option maxRecDepth 20000 in
theorem ggX9_isBin_X9_isIn : GoodIn wsX9_isBin wsX9_isIn := goodIn_r _ [6] rfl (by decide +kernel)
set_option maxRecDepth 20000 in
theorem gX9_isBin_X9_isIn : GoodIn wsX9_isBin (va_wsS RX9 107 yX9_isIn wsX9_isIn) := goodIn_app (goodIn_of _ (by decide +kernel)) ggX9_isBin_X9_isIn
set_option maxRecDepth 20000 in
theorem ggX9_setCompensation_X9_isAxis : GoodIn wsX9_setCompensation wsX9_isAxis := goodIn_r _ [6, 7, 8, 9, 5, 10] rfl (by decide +kernel)
set_option maxRecDepth 20000 in
theorem gX9_setCompensation_X9_isAxis : GoodIn wsX9_setCompensation (va_wsS RX9 180 yX9_isAxis wsX9_isAxis) := goodIn_app (goodIn_of _ (by decide +kernel)) ggX9_setCompensation_X9_isAxis
set_option maxRecDepth 20000 in
theorem ggX9_setCompensation_X9_isBin : GoodIn wsX9_setCompensation wsX9_isBin := goodIn_r _ [13, 14, 15, 8, 9, 5, 10] rfl (by decide +kernel)
set_option maxRecDepth 20000 in
theorem gX9_setCompensation_X9_isBin : GoodIn wsX9_setCompensation (va_wsS RX9 291 yX9_isBin wsX9_isBin) := goodIn_app (goodIn_of _ (by decide +kernel)) ggX9_setCompensation_X9_isBin
set_option maxRecDepth 20000 in
theorem ggX9_setCompensation_X9_isIn : GoodIn wsX9_setCompensation wsX9_isIn := goodIn_r _ [10] rfl (by decide +kernel)
set_option maxRecDepth 20000 in
theorem gX9_setCompensation_X9_isIn : GoodIn wsX9_setCompensation (va_wsS RX9 107 yX9_isIn wsX9_isIn) := goodIn_app (goodIn_of _ (by decide +kernel)) ggX9_setCompensation_X9_isIn
set_option maxRecDepth 20000 in
theorem ggX9_setCompensation_X9_compensates : GoodIn wsX9_setCompensation wsX9_compensates := goodIn_r _ [19, 20, 21, 26, 27, 28, 29, 30, 31, 32, 33, 34, 35, 36, 37, 38, 39, 40, 41, 42, 43, 44, 45, 46, 47, 48, 49, 50, 51, 52, 53, 54, 55, 56, 57, 58, 59, 60, 61, 62, 63, 64, 65, 66, 67, 68] rfl (by decide +kernel)
set_option maxRecDepth 20000 in
theorem gX9_setCompensation_X9_compensates : GoodIn wsX9_setCompensation (wsV RX9 296 RX9 yX9_compensates wsX9_compensates) := goodIn_app (goodIn_of _ (by decide +kernel)) ggX9_setCompensation_X9_compensates
set_option maxRecDepth 20000 in
theorem ggX9_setCompensation_X9_values : GoodIn wsX9_setCompensation wsX9_values := goodIn_r _ [25, 20, 26, 27, 28, 29, 30, 31, 32, 33, 34, 35, 36, 37, 38, 39, 40, 41, 42, 43, 44, 45, 46, 47, 48, 49, 50, 51, 52, 53, 54, 55, 56, 57, 58, 59, 60, 61, 62, 63, 64, 65, 66, 67, 68] rfl (by decide +kernel)
set_option maxRecDepth 20000 in
theorem gX9_setCompensation_X9_values : GoodIn wsX9_setCompensation (wsV RX9 300 RX9 yX9_values wsX9_values) := goodIn_app (goodIn_of _ (by decide +kernel)) ggX9_setCompensation_X9_values
set_option maxRecDepth 20000 in
theorem ggX9_learnCompensation_X9_bin : GoodIn wsX9_learnCompensation wsX9_bin := goodIn_r _ [8, 9, 10, 11, 12, 7, 13, 31, 32, 33, 34, 35, 36, 37, 38, 39, 40, 41, 42, 43, 44, 45, 46, 47, 48, 49, 50, 51, 52, 53, 54, 55, 56, 57, 58, 59, 60, 61, 62, 63, 64, 65, 66, 67, 68, 69, 70, 71, 72, 73] rfl (by decide +kernel)
set_option maxRecDepth 20000 in
theorem gX9_learnCompensation_X9_bin : GoodIn wsX9_learnCompensation (wsV RX9 235 RX9 yX9_bin wsX9_bin) := goodIn_app (goodIn_of _ (by decide +kernel)) ggX9_learnCompensation_X9_bin
set_option maxRecDepth 20000 in
theorem ggX9_learnCompensation_X9_compensationAt : GoodIn wsX9_learnCompensation wsX9_compensationAt := goodIn_r _ [17, 18, 19, 31, 32, 33, 34, 35, 36, 37, 38, 39, 40, 41, 42, 43, 44, 45, 46, 47, 48, 49, 50, 51, 52, 53, 54, 55, 56, 57, 58, 59, 60, 61, 62, 63, 64, 65, 66, 67, 68, 69, 70, 71, 72, 73] rfl (by decide +kernel)
set_option maxRecDepth 20000 in
theorem gX9_learnCompensation_X9_compensationAt : GoodIn wsX9_learnCompensation (wsV RX9 239 RX9 yX9_compensationAt wsX9_compensationAt) := goodIn_app (goodIn_of _ (by decide +kernel)) ggX9_learnCompensation_X9_compensationAt
set_option maxRecDepth 20000 in
theorem ggX9_learnCompensation_X9_limited : GoodIn wsX9_learnCompensation wsX9_limited := goodIn_r _ [22] rfl (by decide +kernel)
set_option maxRecDepth 20000 in
theorem gX9_learnCompensation_X9_limited : GoodIn wsX9_learnCompensation (va_wsS RX9 254 yX9_limited wsX9_limited) := goodIn_app (goodIn_of _ (by decide +kernel)) ggX9_learnCompensation_X9_limited
set_option maxRecDepth 20000 in
theorem ggX9_learnCompensation_X9_compensates : GoodIn wsX9_learnCompensation wsX9_compensates := goodIn_r _ [26, 18, 19, 31, 32, 33, 34, 35, 36, 37, 38, 39, 40, 41, 42, 43, 44, 45, 46, 47, 48, 49, 50, 51, 52, 53, 54, 55, 56, 57, 58, 59, 60, 61, 62, 63, 64, 65, 66, 67, 68, 69, 70, 71, 72, 73] rfl (by decide +kernel)
set_option maxRecDepth 20000 in
theorem gX9_learnCompensation_X9_compensates : GoodIn wsX9_learnCompensation (wsV RX9 296 RX9 yX9_compensates wsX9_compensates) := goodIn_app (goodIn_of _ (by decide +kernel)) ggX9_learnCompensation_X9_compensates
set_option maxRecDepth 20000 in
theorem ggX9_learnCompensation_X9_values : GoodIn wsX9_learnCompensation wsX9_values := goodIn_r _ [30, 18, 31, 32, 33, 34, 35, 36, 37, 38, 39, 40, 41, 42, 43, 44, 45, 46, 47, 48, 49, 50, 51, 52, 53, 54, 55, 56, 57, 58, 59, 60, 61, 62, 63, 64, 65, 66, 67, 68, 69, 70, 71, 72, 73] rfl (by decide +kernel)
set_option maxRecDepth 20000 in
theorem gX9_learnCompensation_X9_values : GoodIn wsX9_learnCompensation (wsV RX9 300 RX9 yX9_values wsX9_values) := goodIn_app (goodIn_of _ (by decide +kernel)) ggX9_learnCompensation_X9_values
set_option maxRecDepth 20000 in
theorem ggX9_compensation_X9_isAxis : GoodIn wsX9_compensation wsX9_isAxis := goodIn_r _ [4, 5, 6, 7, 3, 8] rfl (by decide +kernel)
set_option maxRecDepth 20000 in
theorem gX9_compensation_X9_isAxis : GoodIn wsX9_compensation (va_wsS RX9 180 yX9_isAxis wsX9_isAxis) := goodIn_app (goodIn_of _ (by decide +kernel)) ggX9_compensation_X9_isAxis
set_option maxRecDepth 20000 in
theorem ggX9_compensation_X9_isBin : GoodIn wsX9_compensation wsX9_isBin := goodIn_r _ [11, 12, 13, 6, 7, 3, 8] rfl (by decide +kernel)
set_option maxRecDepth 20000 in
theorem gX9_compensation_X9_isBin : GoodIn wsX9_compensation (va_wsS RX9 291 yX9_isBin wsX9_isBin) := goodIn_app (goodIn_of _ (by decide +kernel)) ggX9_compensation_X9_isBin
set_option maxRecDepth 20000 in
theorem ggX9_compensation_X9_compensationAt : GoodIn wsX9_compensation wsX9_compensationAt := goodIn_r _ [17, 18, 19, 20, 21, 22, 23, 24, 25, 26, 27, 28, 29, 30, 31, 32, 33, 34, 35, 36, 37, 38, 39, 40, 41, 42, 43, 44, 45, 46, 47, 48, 49, 50, 51, 52, 53, 54, 55, 56, 57, 58, 59, 60, 61, 62] rfl (by decide +kernel)
set_option maxRecDepth 20000 in
theorem gX9_compensation_X9_compensationAt : GoodIn wsX9_compensation (wsV RX9 239 RX9 yX9_compensationAt wsX9_compensationAt) := goodIn_app (goodIn_of _ (by decide +kernel)) ggX9_compensation_X9_compensationAt
set_option maxRecDepth 20000 in
theorem ggX9_forgetBin_X9_values : GoodIn wsX9_forgetBin wsX9_values := goodIn_r _ [6, 1, 15, 16, 17, 18, 19, 20, 21, 22, 23, 24, 25, 26, 27, 28, 29, 30, 31, 32, 33, 34, 35, 36, 37, 38, 39, 40, 41, 42, 43, 44, 45, 46, 47, 48, 49, 50, 51, 52, 53, 54, 55, 56, 57] rfl (by decide +kernel)
set_option maxRecDepth 20000 in
theorem gX9_forgetBin_X9_values : GoodIn wsX9_forgetBin (wsV RX9 300 RX9 yX9_values wsX9_values) := goodIn_app (goodIn_of _ (by decide +kernel)) ggX9_forgetBin_X9_values
set_option maxRecDepth 20000 in
theorem ggX9_forgetBin_X9_isBin : GoodIn wsX9_forgetBin wsX9_isBin := goodIn_r _ [9, 10, 11, 12, 13, 5, 14] rfl (by decide +kernel)
set_option maxRecDepth 20000 in
theorem gX9_forgetBin_X9_isBin : GoodIn wsX9_forgetBin (va_wsS RX9 291 yX9_isBin wsX9_isBin) := goodIn_app (goodIn_of _ (by decide +kernel)) ggX9_forgetBin_X9_isBin
set_option maxRecDepth 20000 in
theorem ggX9_turnEstimate_X9_isTurn : GoodIn wsX9_turnEstimate wsX9_isTurn := goodIn_r _ [5, 6, 7, 8, 9, 4, 10] rfl (by decide +kernel)
set_option maxRecDepth 20000 in
theorem gX9_turnEstimate_X9_isTurn : GoodIn wsX9_turnEstimate (va_wsS RX9 212 yX9_isTurn wsX9_isTurn) := goodIn_app (goodIn_of _ (by decide +kernel)) ggX9_turnEstimate_X9_isTurn
set_option maxRecDepth 20000 in
theorem ggX9_turnEstimate_X9_turn : GoodIn wsX9_turnEstimate wsX9_turn := goodIn_r _ [14, 15, 16, 17, 18, 19, 20, 4, 21, 22, 23, 24, 25, 26, 27, 28, 29, 30, 31, 32, 33, 34, 35, 36, 37, 38, 39, 40, 41, 42, 43, 44, 45, 46, 47, 48, 49, 50, 51, 52, 53, 54, 55, 56, 57, 58, 59, 60, 61, 62, 63, 64, 65, 66, 67, 68] rfl (by decide +kernel)
set_option maxRecDepth 20000 in
theorem gX9_turnEstimate_X9_turn : GoodIn wsX9_turnEstimate (wsV RX9 216 RX9 yX9_turn wsX9_turn) := goodIn_app (goodIn_of _ (by decide +kernel)) ggX9_turnEstimate_X9_turn
set_option maxRecDepth 20000 in
theorem ggX9_estimate_X9_isIn : GoodIn wsX9_estimate wsX9_isIn := goodIn_r _ [6] rfl (by decide +kernel)
set_option maxRecDepth 20000 in
theorem gX9_estimate_X9_isIn : GoodIn wsX9_estimate (va_wsS RX9 107 yX9_isIn wsX9_isIn) := goodIn_app (goodIn_of _ (by decide +kernel)) ggX9_estimate_X9_isIn
set_option maxRecDepth 20000 in
theorem ggX9_truth_X9_isIn : GoodIn wsX9_truth wsX9_isIn := goodIn_r _ [6] rfl (by decide +kernel)
set_option maxRecDepth 20000 in
theorem gX9_truth_X9_isIn : GoodIn wsX9_truth (va_wsS RX9 107 yX9_isIn wsX9_isIn) := goodIn_app (goodIn_of _ (by decide +kernel)) ggX9_truth_X9_isIn
set_option maxRecDepth 20000 in
theorem ggX9_errorAngle_X9_angle : GoodIn wsX9_errorAngle wsX9_angle := goodIn_r _ [7, 8, 9, 10, 11, 12, 13, 6, 14, 15, 16, 17, 18, 19, 20, 21, 22, 23, 24, 25, 26, 27, 28, 29, 30, 31, 32, 33, 34, 35, 36, 37, 38, 39, 40, 41, 42, 43, 44, 45, 46, 47, 48, 49, 50, 51, 52, 53, 54, 55, 56, 57, 58, 59, 60, 61] rfl (by decide +kernel)
set_option maxRecDepth 20000 in
theorem gX9_errorAngle_X9_angle : GoodIn wsX9_errorAngle (wsV RX9 275 RX9 yX9_angle wsX9_angle) := goodIn_app (goodIn_of _ (by decide +kernel)) ggX9_errorAngle_X9_angle
set_option maxRecDepth 20000 in
theorem ggX9_tiltError_X9_laysUp : GoodIn wsX9_tiltError wsX9_laysUp := goodIn_r _ [10, 11, 12, 13, 14, 9, 15, 3, 16, 17, 18, 19, 20, 21, 22, 31, 32, 33, 34, 35, 36, 37, 38, 39, 40, 41, 42, 43, 44, 45, 46, 47, 48, 49, 50, 51, 52, 53, 54, 55, 56, 57, 58, 59, 60, 61, 62, 63, 64, 65, 66, 67, 68, 69, 70, 71, 72, 73] rfl (by decide +kernel)
set_option maxRecDepth 20000 in
theorem gX9_tiltError_X9_laysUp : GoodIn wsX9_tiltError (wsV RX9 232 RX9 yX9_laysUp wsX9_laysUp) := goodIn_app (goodIn_of _ (by decide +kernel)) ggX9_tiltError_X9_laysUp
set_option maxRecDepth 20000 in
theorem ggX9_tiltError_X9_laysCross : GoodIn wsX9_tiltError wsX9_laysCross := goodIn_r _ [26, 5, 31, 32, 33, 34, 35, 36, 37, 38, 39, 40, 41, 42, 43, 44, 45, 46, 47, 48, 49, 50, 51, 52, 53, 54, 55, 56, 57, 58, 59, 60, 61, 62, 63, 64, 65, 66, 67, 68, 69, 70, 71, 72, 73] rfl (by decide +kernel)
set_option maxRecDepth 20000 in
theorem gX9_tiltError_X9_laysCross : GoodIn wsX9_tiltError (wsV RX9 243 RX9 yX9_laysCross wsX9_laysCross) := goodIn_app (goodIn_of _ (by decide +kernel)) ggX9_tiltError_X9_laysCross
set_option maxRecDepth 20000 in
theorem ggX9_tiltError_X9_root : GoodIn wsX9_tiltError wsX9_root := goodIn_r _ [29, 30, 22] rfl (by decide +kernel)
set_option maxRecDepth 20000 in
theorem gX9_tiltError_X9_root : GoodIn wsX9_tiltError (va_wsS RX9 142 yX9_root wsX9_root) := goodIn_app (goodIn_of _ (by decide +kernel)) ggX9_tiltError_X9_root
set_option maxRecDepth 20000 in
theorem ggX9_isWide_X9_isIn : GoodIn wsX9_isWide wsX9_isIn := goodIn_r _ [6] rfl (by decide +kernel)
set_option maxRecDepth 20000 in
theorem gX9_isWide_X9_isIn : GoodIn wsX9_isWide (va_wsS RX9 107 yX9_isIn wsX9_isIn) := goodIn_app (goodIn_of _ (by decide +kernel)) ggX9_isWide_X9_isIn
set_option maxRecDepth 20000 in
theorem ggX9_isWide_X9_isAxis : GoodIn wsX9_isWide wsX9_isAxis := goodIn_r _ [9, 10, 3, 4, 5, 6] rfl (by decide +kernel)
set_option maxRecDepth 20000 in
theorem gX9_isWide_X9_isAxis : GoodIn wsX9_isWide (va_wsS RX9 180 yX9_isAxis wsX9_isAxis) := goodIn_app (goodIn_of _ (by decide +kernel)) ggX9_isWide_X9_isAxis
set_option maxRecDepth 20000 in
theorem ggX9_toNavigation_X9_isWide : GoodIn wsX9_toNavigation wsX9_isWide := goodIn_r _ [6, 7, 8, 9, 10, 5, 11, 12, 13, 14, 15] rfl (by decide +kernel)
set_option maxRecDepth 20000 in
theorem gX9_toNavigation_X9_isWide : GoodIn wsX9_toNavigation (va_wsS RX9 305 yX9_isWide wsX9_isWide) := goodIn_app (goodIn_of _ (by decide +kernel)) ggX9_toNavigation_X9_isWide
set_option maxRecDepth 20000 in
theorem ggX9_toNavigation_X9_laysMatrix : GoodIn wsX9_toNavigation wsX9_laysMatrix := goodIn_r _ [19, 2, 8, 15, 20, 21, 22, 23, 24, 25, 26, 27, 28, 29, 30, 31, 32, 33, 34, 35, 36, 37, 38, 39, 40, 41, 42, 43, 44, 45, 46, 47, 48, 49, 50, 51, 52, 53, 54, 55, 56, 57, 58, 59, 60, 61, 62] rfl (by decide +kernel)
set_option maxRecDepth 20000 in
theorem gX9_toNavigation_X9_laysMatrix : GoodIn wsX9_toNavigation (wsV RX9 115 RX9 yX9_laysMatrix wsX9_laysMatrix) := goodIn_app (goodIn_of _ (by decide +kernel)) ggX9_toNavigation_X9_laysMatrix
set_option maxRecDepth 20000 in
theorem ggX9_toBody_X9_isWide : GoodIn wsX9_toBody wsX9_isWide := goodIn_r _ [6, 7, 8, 9, 10, 5, 11, 12, 13, 14, 15] rfl (by decide +kernel)
set_option maxRecDepth 20000 in
theorem gX9_toBody_X9_isWide : GoodIn wsX9_toBody (va_wsS RX9 305 yX9_isWide wsX9_isWide) := goodIn_app (goodIn_of _ (by decide +kernel)) ggX9_toBody_X9_isWide
set_option maxRecDepth 20000 in
theorem ggX9_toBody_X9_laysBody : GoodIn wsX9_toBody wsX9_laysBody := goodIn_r _ [19, 2, 20, 21, 22, 23, 5, 24, 8, 15, 25, 26, 27, 28, 29, 30, 31, 32, 33, 34, 35, 36, 37, 38, 39, 40, 41, 42, 43, 44, 45, 46, 47, 48, 49, 50, 51, 52, 53, 54, 55, 56, 57, 58, 59, 60, 61, 62, 63, 64, 65, 66, 67] rfl (by decide +kernel)
set_option maxRecDepth 20000 in
theorem gX9_toBody_X9_laysBody : GoodIn wsX9_toBody (wsV RX9 126 RX9 yX9_laysBody wsX9_laysBody) := goodIn_app (goodIn_of _ (by decide +kernel)) ggX9_toBody_X9_laysBody
set_option maxRecDepth 20000 in
theorem ggX9_store_X9_isIn : GoodIn wsX9_store wsX9_isIn := goodIn_r _ [9] rfl (by decide +kernel)
set_option maxRecDepth 20000 in
theorem gX9_store_X9_isIn : GoodIn wsX9_store (va_wsS RX9 107 yX9_isIn wsX9_isIn) := goodIn_app (goodIn_of _ (by decide +kernel)) ggX9_store_X9_isIn
set_option maxRecDepth 20000 in
theorem ggX9_store_X9_placeOf : GoodIn wsX9_store wsX9_placeOf := goodIn_r _ [13, 2, 3, 14, 15, 16, 17, 18, 19, 20, 21, 22, 23, 24, 25, 26, 27, 28, 29, 30, 31, 32, 33, 34, 35, 36, 37, 38, 39, 40, 41, 42, 43, 44, 45, 46, 47, 48, 49, 50, 51, 52, 53, 54, 55, 56] rfl (by decide +kernel)
set_option maxRecDepth 20000 in
theorem gX9_store_X9_placeOf : GoodIn wsX9_store (wsV RX9 311 RX9 yX9_placeOf wsX9_placeOf) := goodIn_app (goodIn_of _ (by decide +kernel)) ggX9_store_X9_placeOf
set_option maxRecDepth 20000 in
theorem ggX9_recall_X9_placeOf : GoodIn wsX9_recall wsX9_placeOf := goodIn_r _ [7, 8, 9, 10, 11, 12, 13, 14, 15, 16, 17, 18, 19, 20, 21, 22, 23, 24, 25, 26, 27, 28, 29, 30, 31, 32, 33, 34, 35, 36, 37, 38, 39, 40, 41, 42, 43, 44, 45, 46, 47, 48, 49, 50, 51, 52] rfl (by decide +kernel)
set_option maxRecDepth 20000 in
theorem gX9_recall_X9_placeOf : GoodIn wsX9_recall (wsV RX9 311 RX9 yX9_placeOf wsX9_placeOf) := goodIn_app (goodIn_of _ (by decide +kernel)) ggX9_recall_X9_placeOf
set_option maxRecDepth 20000 in
theorem ggX9_forget_X9_placeOf : GoodIn wsX9_forget wsX9_placeOf := goodIn_r _ [8, 1, 2, 9, 10, 11, 12, 13, 14, 15, 16, 17, 18, 19, 20, 21, 22, 23, 24, 25, 26, 27, 28, 29, 30, 31, 32, 33, 34, 35, 36, 37, 38, 39, 40, 41, 42, 43, 44, 45, 46, 47, 48, 49, 50, 51] rfl (by decide +kernel)
set_option maxRecDepth 20000 in
theorem gX9_forget_X9_placeOf : GoodIn wsX9_forget (wsV RX9 311 RX9 yX9_placeOf wsX9_placeOf) := goodIn_app (goodIn_of _ (by decide +kernel)) ggX9_forget_X9_placeOf
set_option maxRecDepth 20000 in
theorem ggX9_angleTo_X9_placeOf : GoodIn wsX9_angleTo wsX9_placeOf := goodIn_r _ [9, 10, 11, 27, 28, 29, 30, 31, 32, 33, 34, 35, 36, 37, 38, 39, 40, 41, 42, 43, 44, 45, 46, 47, 48, 49, 50, 51, 52, 53, 54, 55, 56, 57, 58, 59, 60, 61, 62, 63, 64, 65, 66, 67, 68, 69] rfl (by decide +kernel)
set_option maxRecDepth 20000 in
theorem gX9_angleTo_X9_placeOf : GoodIn wsX9_angleTo (wsV RX9 311 RX9 yX9_placeOf wsX9_placeOf) := goodIn_app (goodIn_of _ (by decide +kernel)) ggX9_angleTo_X9_placeOf
set_option maxRecDepth 20000 in
theorem ggX9_angleTo_X9_angle : GoodIn wsX9_angleTo wsX9_angle := goodIn_r _ [15, 16, 17, 18, 19, 20, 21, 8, 22, 23, 24, 25, 26, 27, 28, 29, 30, 31, 32, 33, 34, 35, 36, 37, 38, 39, 40, 41, 42, 43, 44, 45, 46, 47, 48, 49, 50, 51, 52, 53, 54, 55, 56, 57, 58, 59, 60, 61, 62, 63, 64, 65, 66, 67, 68, 69] rfl (by decide +kernel)
set_option maxRecDepth 20000 in
theorem gX9_angleTo_X9_angle : GoodIn wsX9_angleTo (wsV RX9 275 RX9 yX9_angle wsX9_angle) := goodIn_app (goodIn_of _ (by decide +kernel)) ggX9_angleTo_X9_angle
set_option maxRecDepth 20000 in
theorem ggX9_storedNumber_X9_isIn : GoodIn wsX9_storedNumber wsX9_isIn := goodIn_r _ [6] rfl (by decide +kernel)
set_option maxRecDepth 20000 in
theorem gX9_storedNumber_X9_isIn : GoodIn wsX9_storedNumber (va_wsS RX9 107 yX9_isIn wsX9_isIn) := goodIn_app (goodIn_of _ (by decide +kernel)) ggX9_storedNumber_X9_isIn
set_option maxRecDepth 20000 in
theorem ggX9_reset_X9_begin : GoodIn wsX9_reset wsX9_begin := goodIn_r _ [6, 7, 8, 9, 10, 11, 12, 13, 14, 15, 16, 17, 18, 19, 20, 21, 22, 23, 24, 25, 26, 1, 27, 28, 29, 30, 31, 32, 33, 34, 35, 36, 37, 38, 39, 40, 41, 42, 43, 44, 45, 46, 47, 48, 49, 50, 51, 52, 53, 54, 55, 56, 57, 58, 59, 60, 61, 62, 63, 64, 65, 66, 67, 68, 69, 70, 71, 72, 73, 74, 75, 76, 77] rfl (by decide +kernel)
set_option maxRecDepth 20000 in
theorem gX9_reset_X9_begin : GoodIn wsX9_reset (wsV RX9 102 RX9 yX9_begin wsX9_begin) := goodIn_app (goodIn_of _ (by decide +kernel)) ggX9_reset_X9_begin
