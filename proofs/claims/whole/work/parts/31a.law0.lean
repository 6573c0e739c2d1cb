theorem wd_535 : wdG (Cond.code yX2_mean cX2_mean 2 (some .long)) := ⟨tin3 _ (List.mem_of_getElem? (i := 38) rfl), good_of_word rfl⟩
theorem wd_536 : wdG (Cond.selects RX2 yX2_mean yX2_mean) := ⟨tin3 _ (List.mem_of_getElem? (i := 37) rfl), good_of_word rfl⟩
theorem wd_537 : wdG (Cond.instanceMethod yX2_mean) := ⟨tin3 _ (List.mem_of_getElem? (i := 36) rfl), good_of_word rfl⟩
theorem wd_538 : wdG (Cond.methodLink RX4 166 yX2_mean) := ⟨tin3 _ (List.mem_of_getElem? (i := 35) rfl), good_of_word rfl⟩
theorem wd_539 : wdG (Cond.code yX2_endsWithThisTick cX2_endsWithThisTick 1 (some .boolean)) := ⟨tin3 _ (List.mem_of_getElem? (i := 34) rfl), good_of_word rfl⟩
theorem wd_540 : wdG (Cond.selects RX2 yX2_endsWithThisTick yX2_endsWithThisTick) := ⟨tin3 _ (List.mem_of_getElem? (i := 33) rfl), good_of_word rfl⟩
theorem wd_541 : wdG (Cond.instanceMethod yX2_endsWithThisTick) := ⟨tin3 _ (List.mem_of_getElem? (i := 32) rfl), good_of_word rfl⟩
theorem wd_542 : wdG (Cond.methodLink RX4 163 yX2_endsWithThisTick) := ⟨tin3 _ (List.mem_of_getElem? (i := 31) rfl), good_of_word rfl⟩
theorem wd_543 : wdG (Cond.code yX4_calibrate cX4_calibrate 3 none) := ⟨tin3 _ (List.mem_of_getElem? (i := 30) rfl), good_of_word rfl⟩
theorem wd_544 : wdG (Cond.selects RX4 yX4_calibrate yX4_calibrate) := ⟨tinP _ (List.mem_of_getElem? (i := 12) rfl), good_of_word rfl⟩
theorem wd_545 : wdG (Cond.instanceMethod yX4_calibrate) := ⟨tin3 _ (List.mem_of_getElem? (i := 29) rfl), good_of_word rfl⟩
theorem wd_546 : wdG (Cond.methodLink RX4 88 yX4_calibrate) := ⟨tin3 _ (List.mem_of_getElem? (i := 27) rfl), good_of_word rfl⟩
theorem wd_547 : wdG (Cond.methodLink RX5 15 Lib.MathLoose.max_long.x) := ⟨tin3 _ (List.mem_of_getElem? (i := 24) rfl), good_of_word rfl⟩
theorem wd_548 : wdG (Cond.code yX5_root cX5_root 7 (some .long)) := ⟨tin3 _ (List.mem_of_getElem? (i := 55) rfl), good_of_word rfl⟩
theorem wd_549 : wdG (Cond.static yX5_root) := ⟨tin3 _ (List.mem_of_getElem? (i := 54) rfl), good_of_word rfl⟩
theorem wd_550 : wdG (Cond.methodLink RX5 18 yX5_root) := ⟨tin3 _ (List.mem_of_getElem? (i := 53) rfl), good_of_word rfl⟩
theorem wd_551 : wdG (Cond.code yX5_length cX5_length 6 (some .long)) := ⟨tin3 _ (List.mem_of_getElem? (i := 52) rfl), good_of_word rfl⟩
theorem wd_552 : wdG (Cond.static yX5_length) := ⟨tin3 _ (List.mem_of_getElem? (i := 51) rfl), good_of_word rfl⟩
theorem wd_553 : wdG (Cond.methodLink RX0 80 yX5_length) := ⟨tin3 _ (List.mem_of_getElem? (i := 50) rfl), good_of_word rfl⟩
theorem wd_554 : wdG (Cond.code yX0_angleFrom cX0_angleFrom 2 (some .long)) := ⟨tin3 _ (List.mem_of_getElem? (i := 49) rfl), good_of_word rfl⟩
theorem wd_555 : wdG (Cond.code yX9_run cX9_run 3 (some .int)) := ⟨tin5 _ (List.mem_of_getElem? (i := 18) rfl), good_of_word rfl⟩
theorem wd_556 : wdG (Cond.instanceMethod yX9_removeSegment) := ⟨tin5 _ (List.mem_of_getElem? (i := 27) rfl), good_of_word rfl⟩
theorem wd_557 : wdG (Cond.methodLink RX9 257 yX9_removeSegment) := ⟨tin5 _ (List.mem_of_getElem? (i := 25) rfl), good_of_word rfl⟩
theorem wd_558 : wdG (Cond.code yX9_tick cX9_tick 3 none) := ⟨tin5 _ (List.mem_of_getElem? (i := 24) rfl), good_of_word rfl⟩
theorem wd_559 : wdG (Cond.selects RX9 yX9_tick yX9_tick) := ⟨tinP _ (List.mem_of_getElem? (i := 16) rfl), good_of_word rfl⟩
theorem wd_560 : wdG (Cond.instanceMethod yX9_tick) := ⟨tin5 _ (List.mem_of_getElem? (i := 23) rfl), good_of_word rfl⟩
theorem wd_561 : wdG (Cond.methodLink RX9 282 yX9_tick) := ⟨tin5 _ (List.mem_of_getElem? (i := 21) rfl), good_of_word rfl⟩
theorem wd_562 : wdG (Cond.constant RX9 281 (100000)) := ⟨tin5 _ (List.mem_of_getElem? (i := 20) rfl), good_of_word rfl⟩
theorem wd_563 : wdG (Cond.constantLong RX9 279 (200)) := ⟨tin5 _ (List.mem_of_getElem? (i := 19) rfl), good_of_word rfl⟩
theorem wd_564 : wdG (Cond.methodLink RX9 126 yX9_laysBody) := ⟨tin5 _ (List.mem_of_getElem? (i := 37) rfl), good_of_word rfl⟩
theorem wd_565 : wdG (Cond.code yX9_laysEarth cX9_laysEarth 2 none) := ⟨tin5 _ (List.mem_of_getElem? (i := 36) rfl), good_of_word rfl⟩
theorem wd_566 : wdG (Cond.selects RX9 yX9_laysEarth yX9_laysEarth) := ⟨tinP _ (List.mem_of_getElem? (i := 19) rfl), good_of_word rfl⟩
theorem wd_567 : wdG (Cond.instanceMethod yX9_laysEarth) := ⟨tin5 _ (List.mem_of_getElem? (i := 35) rfl), good_of_word rfl⟩
theorem wd_568 : wdG (Cond.methodLink RX9 223 yX9_laysEarth) := ⟨tin5 _ (List.mem_of_getElem? (i := 33) rfl), good_of_word rfl⟩
theorem wd_569 : wdG (Cond.constantLong RX9 221 (10)) := ⟨tin5 _ (List.mem_of_getElem? (i := 51) rfl), good_of_word rfl⟩
theorem wd_570 : wdG (Cond.constantLong RX9 230 (1000000)) := ⟨tin5 _ (List.mem_of_getElem? (i := 50) rfl), good_of_word rfl⟩
theorem wd_571 : wdG (Cond.code yX9_reads cX9_reads 6 none) := ⟨tin5 _ (List.mem_of_getElem? (i := 32) rfl), good_of_word rfl⟩
theorem wd_572 : wdG (Cond.selects RX9 yX9_reads yX9_reads) := ⟨tinP _ (List.mem_of_getElem? (i := 18) rfl), good_of_word rfl⟩
theorem wd_573 : wdG (Cond.instanceMethod yX9_reads) := ⟨tin5 _ (List.mem_of_getElem? (i := 31) rfl), good_of_word rfl⟩
theorem wd_574 : wdG (Cond.methodLink RX9 260 yX9_reads) := ⟨tin5 _ (List.mem_of_getElem? (i := 29) rfl), good_of_word rfl⟩
theorem wd_575 : wdG (Cond.code yX9_removeSegment cX9_removeSegment 2 none) := ⟨tin5 _ (List.mem_of_getElem? (i := 28) rfl), good_of_word rfl⟩
theorem wd_576 : wdG (Cond.selects RX9 yX9_removeSegment yX9_removeSegment) := ⟨tinP _ (List.mem_of_getElem? (i := 17) rfl), good_of_word rfl⟩
theorem wd_577 : wdG (Cond.constant RX9 220 (1103515245)) := ⟨tin5 _ (List.mem_of_getElem? (i := 49) rfl), good_of_word rfl⟩
theorem wd_578 : wdG (Cond.code yX9_below cX9_below 2 (some .int)) := ⟨tin5 _ (List.mem_of_getElem? (i := 48) rfl), good_of_word rfl⟩
theorem wd_579 : wdG (Cond.selects RX9 yX9_below yX9_below) := ⟨tinP _ (List.mem_of_getElem? (i := 22) rfl), good_of_word rfl⟩
theorem wd_580 : wdG (Cond.instanceMethod yX9_below) := ⟨tin5 _ (List.mem_of_getElem? (i := 47) rfl), good_of_word rfl⟩
theorem wd_581 : wdG (Cond.methodLink RX9 226 yX9_below) := ⟨tin5 _ (List.mem_of_getElem? (i := 45) rfl), good_of_word rfl⟩
theorem wd_582 : wdG (Cond.code yX9_laysMatrix cX9_laysMatrix 10 none) := ⟨tin5 _ (List.mem_of_getElem? (i := 44) rfl), good_of_word rfl⟩
theorem wd_583 : wdG (Cond.selects RX9 yX9_laysMatrix yX9_laysMatrix) := ⟨tinP _ (List.mem_of_getElem? (i := 21) rfl), good_of_word rfl⟩
theorem wd_584 : wdG (Cond.instanceMethod yX9_laysMatrix) := ⟨tin5 _ (List.mem_of_getElem? (i := 43) rfl), good_of_word rfl⟩
theorem wd_585 : wdG (Cond.methodLink RX9 115 yX9_laysMatrix) := ⟨tin5 _ (List.mem_of_getElem? (i := 41) rfl), good_of_word rfl⟩
theorem wd_586 : wdG (Cond.code yX9_laysBody cX9_laysBody 9 none) := ⟨tin5 _ (List.mem_of_getElem? (i := 40) rfl), good_of_word rfl⟩
theorem wd_587 : wdG (Cond.selects RX9 yX9_laysBody yX9_laysBody) := ⟨tinP _ (List.mem_of_getElem? (i := 20) rfl), good_of_word rfl⟩
theorem wd_588 : wdG (Cond.instanceMethod yX9_laysBody) := ⟨tin5 _ (List.mem_of_getElem? (i := 39) rfl), good_of_word rfl⟩
theorem wd_589 : wdG (Cond.methodLink RX9 235 yX9_bin) := ⟨tin5 _ (List.mem_of_getElem? (i := 61) rfl), good_of_word rfl⟩
theorem wd_590 : wdG (Cond.constantLong RX9 246 (12)) := ⟨tin5 _ (List.mem_of_getElem? (i := 73) rfl), good_of_word rfl⟩
theorem wd_591 : wdG (Cond.code yX9_propagates cX9_propagates 4 none) := ⟨tin5 _ (List.mem_of_getElem? (i := 60) rfl), good_of_word rfl⟩
theorem wd_592 : wdG (Cond.selects RX9 yX9_propagates yX9_propagates) := ⟨tinP _ (List.mem_of_getElem? (i := 24) rfl), good_of_word rfl⟩
theorem wd_593 : wdG (Cond.instanceMethod yX9_propagates) := ⟨tin5 _ (List.mem_of_getElem? (i := 59) rfl), good_of_word rfl⟩
theorem wd_594 : wdG (Cond.methodLink RX9 263 yX9_propagates) := ⟨tin5 _ (List.mem_of_getElem? (i := 57) rfl), good_of_word rfl⟩
theorem wd_595 : wdG (Cond.constantLong RX9 130 (-268435456)) := ⟨tin5 _ (List.mem_of_getElem? (i := 56) rfl), good_of_word rfl⟩
theorem wd_596 : wdG (Cond.code yX9_laysUp cX9_laysUp 2 none) := ⟨tin5 _ (List.mem_of_getElem? (i := 55) rfl), good_of_word rfl⟩
theorem wd_597 : wdG (Cond.selects RX9 yX9_laysUp yX9_laysUp) := ⟨tinP _ (List.mem_of_getElem? (i := 23) rfl), good_of_word rfl⟩
theorem wd_598 : wdG (Cond.instanceMethod yX9_laysUp) := ⟨tin5 _ (List.mem_of_getElem? (i := 54) rfl), good_of_word rfl⟩
theorem wd_599 : wdG (Cond.methodLink RX9 232 yX9_laysUp) := ⟨tin5 _ (List.mem_of_getElem? (i := 52) rfl), good_of_word rfl⟩
theorem wd_600 : wdG (Cond.constantLong RX9 250 (262144)) := ⟨tin5 _ (List.mem_of_getElem? (i := 83) rfl), good_of_word rfl⟩
theorem wd_601 : wdG (Cond.constantLong RX9 248 (-262144)) := ⟨tin5 _ (List.mem_of_getElem? (i := 82) rfl), good_of_word rfl⟩
theorem wd_602 : wdG (Cond.code yX9_heads cX9_heads 5 none) := ⟨tin5 _ (List.mem_of_getElem? (i := 81) rfl), good_of_word rfl⟩
theorem wd_603 : wdG (Cond.selects RX9 yX9_heads yX9_heads) := ⟨tinP _ (List.mem_of_getElem? (i := 29) rfl), good_of_word rfl⟩
theorem wd_604 : wdG (Cond.instanceMethod yX9_heads) := ⟨tin5 _ (List.mem_of_getElem? (i := 80) rfl), good_of_word rfl⟩
theorem wd_605 : wdG (Cond.methodLink RX9 269 yX9_heads) := ⟨tin5 _ (List.mem_of_getElem? (i := 78) rfl), good_of_word rfl⟩
theorem wd_606 : wdG (Cond.code yX9_levels cX9_levels 1 none) := ⟨tin5 _ (List.mem_of_getElem? (i := 77) rfl), good_of_word rfl⟩
theorem wd_607 : wdG (Cond.selects RX9 yX9_levels yX9_levels) := ⟨tinP _ (List.mem_of_getElem? (i := 28) rfl), good_of_word rfl⟩
theorem wd_608 : wdG (Cond.instanceMethod yX9_levels) := ⟨tin5 _ (List.mem_of_getElem? (i := 76) rfl), good_of_word rfl⟩
theorem wd_609 : wdG (Cond.methodLink RX9 266 yX9_levels) := ⟨tin5 _ (List.mem_of_getElem? (i := 74) rfl), good_of_word rfl⟩
theorem wd_610 : wdG (Cond.code yX9_laysCross cX9_laysCross 3 none) := ⟨tin5 _ (List.mem_of_getElem? (i := 72) rfl), good_of_word rfl⟩
theorem wd_611 : wdG (Cond.selects RX9 yX9_laysCross yX9_laysCross) := ⟨tinP _ (List.mem_of_getElem? (i := 27) rfl), good_of_word rfl⟩
theorem wd_612 : wdG (Cond.instanceMethod yX9_laysCross) := ⟨tin5 _ (List.mem_of_getElem? (i := 71) rfl), good_of_word rfl⟩
theorem wd_613 : wdG (Cond.methodLink RX9 243 yX9_laysCross) := ⟨tin5 _ (List.mem_of_getElem? (i := 69) rfl), good_of_word rfl⟩
theorem wd_614 : wdG (Cond.code yX9_compensationAt cX9_compensationAt 3 (some .int)) := ⟨tin5 _ (List.mem_of_getElem? (i := 68) rfl), good_of_word rfl⟩
theorem wd_615 : wdG (Cond.selects RX9 yX9_compensationAt yX9_compensationAt) := ⟨tinP _ (List.mem_of_getElem? (i := 26) rfl), good_of_word rfl⟩
theorem wd_616 : wdG (Cond.instanceMethod yX9_compensationAt) := ⟨tin5 _ (List.mem_of_getElem? (i := 67) rfl), good_of_word rfl⟩
theorem wd_617 : wdG (Cond.methodLink RX9 239 yX9_compensationAt) := ⟨tin5 _ (List.mem_of_getElem? (i := 65) rfl), good_of_word rfl⟩
theorem wd_618 : wdG (Cond.code yX9_bin cX9_bin 1 (some .int)) := ⟨tin5 _ (List.mem_of_getElem? (i := 64) rfl), good_of_word rfl⟩
theorem wd_619 : wdG (Cond.selects RX9 yX9_bin yX9_bin) := ⟨tinP _ (List.mem_of_getElem? (i := 25) rfl), good_of_word rfl⟩
theorem wd_620 : wdG (Cond.instanceMethod yX9_bin) := ⟨tin5 _ (List.mem_of_getElem? (i := 63) rfl), good_of_word rfl⟩
theorem wd_621 : wdG (Cond.constantLong RX9 111 (3037000499)) := ⟨tin5 _ (List.mem_of_getElem? (i := 99) rfl), good_of_word rfl⟩
theorem wd_622 : wdG (Cond.code yX9_root cX9_root 8 (some .long)) := ⟨tin5 _ (List.mem_of_getElem? (i := 98) rfl), good_of_word rfl⟩
theorem wd_623 : wdG (Cond.static yX9_root) := ⟨tin5 _ (List.mem_of_getElem? (i := 97) rfl), good_of_word rfl⟩
theorem wd_624 : wdG (Cond.methodLink RX9 142 yX9_root) := ⟨tin5 _ (List.mem_of_getElem? (i := 96) rfl), good_of_word rfl⟩
theorem wd_625 : wdG (Cond.code yX9_angle cX9_angle 4 (some .long)) := ⟨tin5 _ (List.mem_of_getElem? (i := 95) rfl), good_of_word rfl⟩
theorem wd_626 : wdG (Cond.selects RX9 yX9_angle yX9_angle) := ⟨tinP _ (List.mem_of_getElem? (i := 31) rfl), good_of_word rfl⟩
theorem wd_627 : wdG (Cond.instanceMethod yX9_angle) := ⟨tin5 _ (List.mem_of_getElem? (i := 94) rfl), good_of_word rfl⟩
theorem wd_628 : wdG (Cond.methodLink RX9 275 yX9_angle) := ⟨tin5 _ (List.mem_of_getElem? (i := 92) rfl), good_of_word rfl⟩
theorem wd_629 : wdG (Cond.code yX9_calibrates cX9_calibrates 2 none) := ⟨tin5 _ (List.mem_of_getElem? (i := 91) rfl), good_of_word rfl⟩
theorem wd_630 : wdG (Cond.selects RX9 yX9_calibrates yX9_calibrates) := ⟨tinP _ (List.mem_of_getElem? (i := 30) rfl), good_of_word rfl⟩
theorem wd_631 : wdG (Cond.instanceMethod yX9_calibrates) := ⟨tin5 _ (List.mem_of_getElem? (i := 90) rfl), good_of_word rfl⟩
theorem wd_632 : wdG (Cond.methodLink RX9 272 yX9_calibrates) := ⟨tin5 _ (List.mem_of_getElem? (i := 88) rfl), good_of_word rfl⟩
theorem wd_633 : wdG (Cond.code yX9_limited cX9_limited 4 (some .long)) := ⟨tin5 _ (List.mem_of_getElem? (i := 87) rfl), good_of_word rfl⟩
theorem wd_634 : wdG (Cond.static yX9_limited) := ⟨tin5 _ (List.mem_of_getElem? (i := 86) rfl), good_of_word rfl⟩
theorem wd_635 : wdG (Cond.methodLink RX9 254 yX9_limited) := ⟨tin5 _ (List.mem_of_getElem? (i := 85) rfl), good_of_word rfl⟩
theorem wd_636 : wdG (Cond.constantLong RX9 252 (16777216)) := ⟨tin5 _ (List.mem_of_getElem? (i := 84) rfl), good_of_word rfl⟩
theorem wd_637 : wdG (Cond.code yX8_time cX8_time 1 (some .int)) := ⟨tin3 _ (List.mem_of_getElem? (i := 60) rfl), good_of_word rfl⟩
theorem wd_638 : wdG (Cond.code yX9_time cX9_time 1 (some .int)) := ⟨tin5 _ (List.mem_of_getElem? (i := 103) rfl), good_of_word rfl⟩
theorem wd_639 : wdG (Cond.code yX8_gyro cX8_gyro 2 (some .long)) := ⟨tin3 _ (List.mem_of_getElem? (i := 64) rfl), good_of_word rfl⟩
theorem wd_640 : wdG (Cond.code yX5_at cX5_at 2 (some .long)) := ⟨tin3 _ (List.mem_of_getElem? (i := 67) rfl), good_of_word rfl⟩
theorem wd_641 : wdG (Cond.static yX5_at) := ⟨tin3 _ (List.mem_of_getElem? (i := 66) rfl), good_of_word rfl⟩
theorem wd_642 : wdG (Cond.methodLink RX8 135 yX5_at) := ⟨tin3 _ (List.mem_of_getElem? (i := 65) rfl), good_of_word rfl⟩
theorem wd_643 : wdG (Cond.code yX9_gyro cX9_gyro 2 (some .long)) := ⟨tin5 _ (List.mem_of_getElem? (i := 107) rfl), good_of_word rfl⟩
theorem wd_644 : wdG (Cond.code yX8_accelerometer cX8_accelerometer 2 (some .long)) := ⟨tin3 _ (List.mem_of_getElem? (i := 71) rfl), good_of_word rfl⟩
theorem wd_645 : wdG (Cond.code yX9_accelerometer cX9_accelerometer 2 (some .long)) := ⟨tin5 _ (List.mem_of_getElem? (i := 111) rfl), good_of_word rfl⟩
theorem wd_646 : wdG (Cond.code yX8_setMethod cX8_setMethod 2 (some .int)) := ⟨tin3 _ (List.mem_of_getElem? (i := 75) rfl), good_of_word rfl⟩
theorem wd_647 : wdG (Cond.code yX4_changeMethod cX4_changeMethod 3 (some .int)) := ⟨tin3 _ (List.mem_of_getElem? (i := 79) rfl), good_of_word rfl⟩
theorem wd_648 : wdG (Cond.selects RX4 yX4_changeMethod yX4_changeMethod) := ⟨tin3 _ (List.mem_of_getElem? (i := 78) rfl), good_of_word rfl⟩
theorem wd_649 : wdG (Cond.instanceMethod yX4_changeMethod) := ⟨tin3 _ (List.mem_of_getElem? (i := 77) rfl), good_of_word rfl⟩
theorem wd_650 : wdG (Cond.methodLink RX8 142 yX4_changeMethod) := ⟨tin3 _ (List.mem_of_getElem? (i := 76) rfl), good_of_word rfl⟩
theorem wd_651 : wdG (Cond.code yX9_setMethod cX9_setMethod 3 (some .int)) := ⟨tin5 _ (List.mem_of_getElem? (i := 115) rfl), good_of_word rfl⟩
theorem wd_652 : wdG (Cond.code yX8_setLevelling cX8_setLevelling 2 (some .int)) := ⟨tin3 _ (List.mem_of_getElem? (i := 83) rfl), good_of_word rfl⟩
theorem wd_653 : wdG (Cond.code yX4_changeLevelling cX4_changeLevelling 3 (some .int)) := ⟨tin3 _ (List.mem_of_getElem? (i := 87) rfl), good_of_word rfl⟩
theorem wd_654 : wdG (Cond.selects RX4 yX4_changeLevelling yX4_changeLevelling) := ⟨tin3 _ (List.mem_of_getElem? (i := 86) rfl), good_of_word rfl⟩
theorem wd_655 : wdG (Cond.instanceMethod yX4_changeLevelling) := ⟨tin3 _ (List.mem_of_getElem? (i := 85) rfl), good_of_word rfl⟩
theorem wd_656 : wdG (Cond.methodLink RX8 145 yX4_changeLevelling) := ⟨tin3 _ (List.mem_of_getElem? (i := 84) rfl), good_of_word rfl⟩
theorem wd_657 : wdG (Cond.code yX9_setLevelling cX9_setLevelling 3 (some .int)) := ⟨tin5 _ (List.mem_of_getElem? (i := 119) rfl), good_of_word rfl⟩
theorem wd_658 : wdG (Cond.constantLong RX9 285 (20)) := ⟨tin5 _ (List.mem_of_getElem? (i := 120) rfl), good_of_word rfl⟩
theorem wd_659 : wdG (Cond.code yX8_setHeading cX8_setHeading 2 (some .int)) := ⟨tin3 _ (List.mem_of_getElem? (i := 91) rfl), good_of_word rfl⟩
theorem wd_660 : wdG (Cond.methodLink RX4 57 yJ7_fill_d0a16) := ⟨tin3 _ (List.mem_of_getElem? (i := 96) rfl), good_of_word rfl⟩
theorem wd_661 : wdG (Cond.code yX4_changeHeading cX4_changeHeading 3 (some .int)) := ⟨tin3 _ (List.mem_of_getElem? (i := 95) rfl), good_of_word rfl⟩
theorem wd_662 : wdG (Cond.selects RX4 yX4_changeHeading yX4_changeHeading) := ⟨tin3 _ (List.mem_of_getElem? (i := 94) rfl), good_of_word rfl⟩
theorem wd_663 : wdG (Cond.instanceMethod yX4_changeHeading) := ⟨tin3 _ (List.mem_of_getElem? (i := 93) rfl), good_of_word rfl⟩
theorem wd_664 : wdG (Cond.methodLink RX8 148 yX4_changeHeading) := ⟨tin3 _ (List.mem_of_getElem? (i := 92) rfl), good_of_word rfl⟩
theorem wd_665 : wdG (Cond.code yX9_setHeading cX9_setHeading 4 (some .int)) := ⟨tin5 _ (List.mem_of_getElem? (i := 124) rfl), good_of_word rfl⟩
theorem wd_666 : wdG (Cond.code yX8_startCalibration cX8_startCalibration 2 (some .int)) := ⟨tin3 _ (List.mem_of_getElem? (i := 100) rfl), good_of_word rfl⟩
theorem wd_667 : wdG (Cond.methodLink RX2 19 yJ7_fill_d0a16) := ⟨tin3 _ (List.mem_of_getElem? (i := 106) rfl), good_of_word rfl⟩
theorem wd_668 : wdG (Cond.code yX2_start cX2_start 2 none) := ⟨tin3 _ (List.mem_of_getElem? (i := 105) rfl), good_of_word rfl⟩
theorem wd_669 : wdG (Cond.selects RX2 yX2_start yX2_start) := ⟨tin3 _ (List.mem_of_getElem? (i := 104) rfl), good_of_word rfl⟩
theorem wd_670 : wdG (Cond.instanceMethod yX2_start) := ⟨tin3 _ (List.mem_of_getElem? (i := 103) rfl), good_of_word rfl⟩
theorem wd_671 : wdG (Cond.methodLink RX8 161 yX2_start) := ⟨tin3 _ (List.mem_of_getElem? (i := 102) rfl), good_of_word rfl⟩
theorem wd_672 : wdG (Cond.methodLink RX8 155 yX2_isRunning) := ⟨tin3 _ (List.mem_of_getElem? (i := 101) rfl), good_of_word rfl⟩
theorem wd_673 : wdG (Cond.code yX9_startCalibration cX9_startCalibration 3 (some .int)) := ⟨tin5 _ (List.mem_of_getElem? (i := 128) rfl), good_of_word rfl⟩
theorem wd_674 : wdG (Cond.code yX8_calibrationLeft cX8_calibrationLeft 1 (some .int)) := ⟨tin3 _ (List.mem_of_getElem? (i := 110) rfl), good_of_word rfl⟩
theorem wd_675 : wdG (Cond.code yX9_calibrationLeft cX9_calibrationLeft 1 (some .int)) := ⟨tin5 _ (List.mem_of_getElem? (i := 132) rfl), good_of_word rfl⟩
theorem wd_676 : wdG (Cond.code yX8_biasEstimate cX8_biasEstimate 2 (some .long)) := ⟨tin3 _ (List.mem_of_getElem? (i := 114) rfl), good_of_word rfl⟩
theorem wd_677 : wdG (Cond.code yX9_biasEstimate cX9_biasEstimate 2 (some .long)) := ⟨tin5 _ (List.mem_of_getElem? (i := 136) rfl), good_of_word rfl⟩
theorem wd_678 : wdG (Cond.code yX8_setCompensation cX8_setCompensation 4 (some .int)) := ⟨tin3 _ (List.mem_of_getElem? (i := 118) rfl), good_of_word rfl⟩
theorem wd_679 : wdG (Cond.fieldLink RX3 36 "InertialReference$CompensationTable" "size" "I") := ⟨tin1 _ (List.mem_of_getElem? (i := 135) rfl), good_of_word rfl⟩
theorem wd_680 : wdG (Cond.code yX3_put cX3_put 5 none) := ⟨tin3 _ (List.mem_of_getElem? (i := 124) rfl), good_of_word rfl⟩
theorem wd_681 : wdG (Cond.selects RX3 yX3_put yX3_put) := ⟨tin3 _ (List.mem_of_getElem? (i := 123) rfl), good_of_word rfl⟩
theorem wd_682 : wdG (Cond.instanceMethod yX3_put) := ⟨tin3 _ (List.mem_of_getElem? (i := 122) rfl), good_of_word rfl⟩
theorem wd_683 : wdG (Cond.methodLink RX8 175 yX3_put) := ⟨tin3 _ (List.mem_of_getElem? (i := 121) rfl), good_of_word rfl⟩
theorem wd_684 : wdG (Cond.methodLink RX8 170 yX3_hasBin) := ⟨tin3 _ (List.mem_of_getElem? (i := 119) rfl), good_of_word rfl⟩
theorem wd_685 : wdG (Cond.constantLong RX8 173 (1000000)) := ⟨tin3 _ (List.mem_of_getElem? (i := 120) rfl), good_of_word rfl⟩
theorem wd_686 : wdG (Cond.code yX9_setCompensation cX9_setCompensation 4 (some .int)) := ⟨tin5 _ (List.mem_of_getElem? (i := 140) rfl), good_of_word rfl⟩
theorem wd_687 : wdG (Cond.selects RX9 yX9_values yX9_values) := ⟨tinP _ (List.mem_of_getElem? (i := 33) rfl), good_of_word rfl⟩
theorem wd_688 : wdG (Cond.instanceMethod yX9_values) := ⟨tin5 _ (List.mem_of_getElem? (i := 153) rfl), good_of_word rfl⟩
theorem wd_689 : wdG (Cond.methodLink RX9 300 yX9_values) := ⟨tin5 _ (List.mem_of_getElem? (i := 151) rfl), good_of_word rfl⟩
theorem wd_690 : wdG (Cond.code yX9_compensates cX9_compensates 4 none) := ⟨tin5 _ (List.mem_of_getElem? (i := 150) rfl), good_of_word rfl⟩
theorem wd_691 : wdG (Cond.selects RX9 yX9_compensates yX9_compensates) := ⟨tinP _ (List.mem_of_getElem? (i := 32) rfl), good_of_word rfl⟩
theorem wd_692 : wdG (Cond.instanceMethod yX9_compensates) := ⟨tin5 _ (List.mem_of_getElem? (i := 149) rfl), good_of_word rfl⟩
theorem wd_693 : wdG (Cond.methodLink RX9 296 yX9_compensates) := ⟨tin5 _ (List.mem_of_getElem? (i := 147) rfl), good_of_word rfl⟩
theorem wd_694 : wdG (Cond.constantLong RX9 289 (8)) := ⟨tin5 _ (List.mem_of_getElem? (i := 145) rfl), good_of_word rfl⟩
theorem wd_695 : wdG (Cond.constantLong RX9 287 (-4)) := ⟨tin5 _ (List.mem_of_getElem? (i := 144) rfl), good_of_word rfl⟩
theorem wd_696 : wdG (Cond.code yX9_isBin cX9_isBin 1 (some .boolean)) := ⟨tin5 _ (List.mem_of_getElem? (i := 143) rfl), good_of_word rfl⟩
theorem wd_697 : wdG (Cond.static yX9_isBin) := ⟨tin5 _ (List.mem_of_getElem? (i := 142) rfl), good_of_word rfl⟩
theorem wd_698 : wdG (Cond.methodLink RX9 291 yX9_isBin) := ⟨tin5 _ (List.mem_of_getElem? (i := 141) rfl), good_of_word rfl⟩
theorem wd_699 : wdG (Cond.constantLong RX9 294 (-1000000)) := ⟨tin5 _ (List.mem_of_getElem? (i := 146) rfl), good_of_word rfl⟩
theorem wd_700 : wdG (Cond.code yX9_values cX9_values 3 (some .int)) := ⟨tin5 _ (List.mem_of_getElem? (i := 154) rfl), good_of_word rfl⟩
theorem wd_701 : wdG (Cond.code yX8_learnCompensation cX8_learnCompensation 1 (some .int)) := ⟨tin3 _ (List.mem_of_getElem? (i := 128) rfl), good_of_word rfl⟩
theorem wd_702 : wdG (Cond.code yX3_absorb cX3_absorb 4 none) := ⟨tin3 _ (List.mem_of_getElem? (i := 132) rfl), good_of_word rfl⟩
theorem wd_703 : wdG (Cond.selects RX3 yX3_absorb yX3_absorb) := ⟨tin3 _ (List.mem_of_getElem? (i := 131) rfl), good_of_word rfl⟩
theorem wd_704 : wdG (Cond.instanceMethod yX3_absorb) := ⟨tin3 _ (List.mem_of_getElem? (i := 130) rfl), good_of_word rfl⟩
theorem wd_705 : wdG (Cond.methodLink RX8 185 yX3_absorb) := ⟨tin3 _ (List.mem_of_getElem? (i := 129) rfl), good_of_word rfl⟩
theorem wd_706 : wdG (Cond.methodLink RX3 45 yX5_limited) := ⟨tin3 _ (List.mem_of_getElem? (i := 135) rfl), good_of_word rfl⟩
theorem wd_707 : wdG (Cond.methodLink RX3 40 yX3_value) := ⟨tin3 _ (List.mem_of_getElem? (i := 133) rfl), good_of_word rfl⟩
theorem wd_708 : wdG (Cond.constantLong RX3 43 (1000000)) := ⟨tin3 _ (List.mem_of_getElem? (i := 134) rfl), good_of_word rfl⟩
theorem wd_709 : wdG (Cond.methodLink RX3 49 yX3_put) := ⟨tin3 _ (List.mem_of_getElem? (i := 136) rfl), good_of_word rfl⟩
theorem wd_710 : wdG (Cond.code yX9_learnCompensation cX9_learnCompensation 4 (some .int)) := ⟨tin5 _ (List.mem_of_getElem? (i := 158) rfl), good_of_word rfl⟩
theorem wd_711 : wdG (Cond.code yX8_compensation cX8_compensation 3 (some .int)) := ⟨tin3 _ (List.mem_of_getElem? (i := 140) rfl), good_of_word rfl⟩
theorem wd_712 : wdG (Cond.methodLink RX8 189 yX3_value) := ⟨tin3 _ (List.mem_of_getElem? (i := 141) rfl), good_of_word rfl⟩
theorem wd_713 : wdG (Cond.code yX9_compensation cX9_compensation 3 (some .int)) := ⟨tin5 _ (List.mem_of_getElem? (i := 162) rfl), good_of_word rfl⟩
theorem wd_714 : wdG (Cond.code yX8_forgetBin cX8_forgetBin 2 (some .int)) := ⟨tin3 _ (List.mem_of_getElem? (i := 145) rfl), good_of_word rfl⟩
theorem wd_715 : wdG (Cond.code yX3_removeBin cX3_removeBin 5 (some .int)) := ⟨tin3 _ (List.mem_of_getElem? (i := 149) rfl), good_of_word rfl⟩
theorem wd_716 : wdG (Cond.selects RX3 yX3_removeBin yX3_removeBin) := ⟨tin3 _ (List.mem_of_getElem? (i := 148) rfl), good_of_word rfl⟩
theorem wd_717 : wdG (Cond.instanceMethod yX3_removeBin) := ⟨tin3 _ (List.mem_of_getElem? (i := 147) rfl), good_of_word rfl⟩
theorem wd_718 : wdG (Cond.methodLink RX8 193 yX3_removeBin) := ⟨tin3 _ (List.mem_of_getElem? (i := 146) rfl), good_of_word rfl⟩
theorem wd_719 : wdG (Cond.code yX9_forgetBin cX9_forgetBin 4 (some .int)) := ⟨tin5 _ (List.mem_of_getElem? (i := 166) rfl), good_of_word rfl⟩
theorem wd_720 : wdG (Cond.code yX8_turnEstimate cX8_turnEstimate 4 (some .int)) := ⟨tin3 _ (List.mem_of_getElem? (i := 153) rfl), good_of_word rfl⟩
theorem wd_721 : wdG (Cond.code yX9_turnEstimate cX9_turnEstimate 4 (some .int)) := ⟨tin5 _ (List.mem_of_getElem? (i := 170) rfl), good_of_word rfl⟩
theorem wd_722 : wdG (Cond.code yX8_estimate cX8_estimate 2 (some .long)) := ⟨tin3 _ (List.mem_of_getElem? (i := 157) rfl), good_of_word rfl⟩
theorem wd_723 : wdG (Cond.code yX9_estimate cX9_estimate 2 (some .long)) := ⟨tin5 _ (List.mem_of_getElem? (i := 174) rfl), good_of_word rfl⟩
theorem wd_724 : wdG (Cond.constantLong RX9 303 (3)) := ⟨tin5 _ (List.mem_of_getElem? (i := 175) rfl), good_of_word rfl⟩
theorem wd_725 : wdG (Cond.code yX8_truth cX8_truth 2 (some .long)) := ⟨tin3 _ (List.mem_of_getElem? (i := 161) rfl), good_of_word rfl⟩
theorem wd_726 : wdG (Cond.code yX9_truth cX9_truth 2 (some .long)) := ⟨tin5 _ (List.mem_of_getElem? (i := 179) rfl), good_of_word rfl⟩
theorem wd_727 : wdG (Cond.code yX9_errorAngle cX9_errorAngle 1 (some .long)) := ⟨tin5 _ (List.mem_of_getElem? (i := 183) rfl), good_of_word rfl⟩
theorem wd_728 : wdG (Cond.code yX8_greatestError cX8_greatestError 1 (some .long)) := ⟨tin3 _ (List.mem_of_getElem? (i := 166) rfl), good_of_word rfl⟩
theorem wd_729 : wdG (Cond.code yX9_greatestError cX9_greatestError 1 (some .long)) := ⟨tin5 _ (List.mem_of_getElem? (i := 187) rfl), good_of_word rfl⟩
theorem wd_730 : wdG (Cond.code yX8_tiltError cX8_tiltError 1 (some .long)) := ⟨tin3 _ (List.mem_of_getElem? (i := 170) rfl), good_of_word rfl⟩
theorem wd_731 : wdG (Cond.methodLink RX8 221 yX5_length) := ⟨tin3 _ (List.mem_of_getElem? (i := 174) rfl), good_of_word rfl⟩
theorem wd_732 : wdG (Cond.methodLink RX8 217 yX5_cross) := ⟨tin3 _ (List.mem_of_getElem? (i := 173) rfl), good_of_word rfl⟩
theorem wd_733 : wdG (Cond.methodLink RX8 213 yX0_turnIntoBody) := ⟨tin3 _ (List.mem_of_getElem? (i := 172) rfl), good_of_word rfl⟩
theorem wd_734 : wdG (Cond.fieldLink RX8 210 "InertialReference" "UPWARD" "[J") := ⟨tin3 _ (List.mem_of_getElem? (i := 171) rfl), good_of_word rfl⟩
theorem wd_735 : wdG (Cond.code yX9_tiltError cX9_tiltError 4 (some .long)) := ⟨tin5 _ (List.mem_of_getElem? (i := 191) rfl), good_of_word rfl⟩
theorem wd_736 : wdG (Cond.code yX8_toNavigation cX8_toNavigation 5 (some .long)) := ⟨tin3 _ (List.mem_of_getElem? (i := 178) rfl), good_of_word rfl⟩
theorem wd_737 : wdG (Cond.code yX0_navigationComponent cX0_navigationComponent 8 (some .long)) := ⟨tin3 _ (List.mem_of_getElem? (i := 186) rfl), good_of_word rfl⟩
theorem wd_738 : wdG (Cond.selects RX0 yX0_navigationComponent yX0_navigationComponent) := ⟨tin3 _ (List.mem_of_getElem? (i := 185) rfl), good_of_word rfl⟩
theorem wd_739 : wdG (Cond.instanceMethod yX0_navigationComponent) := ⟨tin3 _ (List.mem_of_getElem? (i := 184) rfl), good_of_word rfl⟩
theorem wd_740 : wdG (Cond.methodLink RX8 228 yX0_navigationComponent) := ⟨tin3 _ (List.mem_of_getElem? (i := 183) rfl), good_of_word rfl⟩
theorem wd_741 : wdG (Cond.constantLong RX8 282 (268435456)) := ⟨tin3 _ (List.mem_of_getElem? (i := 182) rfl), good_of_word rfl⟩
theorem wd_742 : wdG (Cond.code yX8_isUnitVector cX8_isUnitVector 3 (some .boolean)) := ⟨tin3 _ (List.mem_of_getElem? (i := 181) rfl), good_of_word rfl⟩
theorem wd_743 : wdG (Cond.static yX8_isUnitVector) := ⟨tin3 _ (List.mem_of_getElem? (i := 180) rfl), good_of_word rfl⟩
theorem wd_744 : wdG (Cond.methodLink RX8 225 yX8_isUnitVector) := ⟨tin3 _ (List.mem_of_getElem? (i := 179) rfl), good_of_word rfl⟩
theorem wd_745 : wdG (Cond.code yX9_toNavigation cX9_toNavigation 5 (some .long)) := ⟨tin5 _ (List.mem_of_getElem? (i := 195) rfl), good_of_word rfl⟩
theorem wd_746 : wdG (Cond.code yX9_isWide cX9_isWide 4 (some .boolean)) := ⟨tin5 _ (List.mem_of_getElem? (i := 198) rfl), good_of_word rfl⟩
theorem wd_747 : wdG (Cond.static yX9_isWide) := ⟨tin5 _ (List.mem_of_getElem? (i := 197) rfl), good_of_word rfl⟩
theorem wd_748 : wdG (Cond.methodLink RX9 305 yX9_isWide) := ⟨tin5 _ (List.mem_of_getElem? (i := 196) rfl), good_of_word rfl⟩
theorem wd_749 : wdG (Cond.code yX8_toBody cX8_toBody 5 (some .long)) := ⟨tin3 _ (List.mem_of_getElem? (i := 190) rfl), good_of_word rfl⟩
theorem wd_750 : wdG (Cond.methodLink RX8 232 yX0_bodyComponent) := ⟨tin3 _ (List.mem_of_getElem? (i := 191) rfl), good_of_word rfl⟩
theorem wd_751 : wdG (Cond.code yX9_toBody cX9_toBody 5 (some .long)) := ⟨tin5 _ (List.mem_of_getElem? (i := 202) rfl), good_of_word rfl⟩
theorem wd_752 : wdG (Cond.code yX8_visitedBins cX8_visitedBins 1 (some .int)) := ⟨tin3 _ (List.mem_of_getElem? (i := 195) rfl), good_of_word rfl⟩
theorem wd_753 : wdG (Cond.constant RJ6 267 (252645135)) := ⟨tin3 _ (List.mem_of_getElem? (i := 201) rfl), good_of_word rfl⟩
theorem wd_754 : wdG (Cond.constant RJ6 266 (858993459)) := ⟨tin3 _ (List.mem_of_getElem? (i := 200) rfl), good_of_word rfl⟩
theorem wd_755 : wdG (Cond.constant RJ6 265 (1431655765)) := ⟨tin3 _ (List.mem_of_getElem? (i := 199) rfl), good_of_word rfl⟩
theorem wd_756 : wdG (Cond.code yJ6_bitCount_0f7a4 cJ6_bitCount_0f7a4 1 (some .int)) := ⟨tin3 _ (List.mem_of_getElem? (i := 198) rfl), good_of_word rfl⟩
theorem wd_757 : wdG (Cond.initialized RJ6) := ⟨tin1 _ (List.mem_of_getElem? (i := 14) rfl), good_of_word rfl⟩
theorem wd_758 : wdG (Cond.static yJ6_bitCount_0f7a4) := ⟨tin3 _ (List.mem_of_getElem? (i := 197) rfl), good_of_word rfl⟩
theorem wd_759 : wdG (Cond.methodLink RX8 238 yJ6_bitCount_0f7a4) := ⟨tin3 _ (List.mem_of_getElem? (i := 196) rfl), good_of_word rfl⟩
theorem wd_760 : wdG (Cond.code yX9_visitedBins cX9_visitedBins 3 (some .int)) := ⟨tin5 _ (List.mem_of_getElem? (i := 206) rfl), good_of_word rfl⟩
theorem wd_761 : wdG (Cond.code yX8_store cX8_store 2 (some .int)) := ⟨tin3 _ (List.mem_of_getElem? (i := 205) rfl), good_of_word rfl⟩
theorem wd_762 : wdG (Cond.code yX1_placeOf cX1_placeOf 3 (some .int)) := ⟨tin3 _ (List.mem_of_getElem? (i := 213) rfl), good_of_word rfl⟩
theorem wd_763 : wdG (Cond.selects RX1 yX1_placeOf yX1_placeOf) := ⟨tin3 _ (List.mem_of_getElem? (i := 212) rfl), good_of_word rfl⟩
theorem wd_764 : wdG (Cond.instanceMethod yX1_placeOf) := ⟨tin3 _ (List.mem_of_getElem? (i := 211) rfl), good_of_word rfl⟩
theorem wd_765 : wdG (Cond.methodLink RX1 26 yX1_placeOf) := ⟨tin3 _ (List.mem_of_getElem? (i := 210) rfl), good_of_word rfl⟩
theorem wd_766 : wdG (Cond.methodLink RX1 35 arraycopyName) := ⟨tin3 _ (List.mem_of_getElem? (i := 214) rfl), good_of_word rfl⟩
theorem wd_767 : wdG (Cond.fieldLink RX1 22 "InertialReference$AttitudeShelf" "count" "I") := ⟨tin1 _ (List.mem_of_getElem? (i := 219) rfl), good_of_word rfl⟩
theorem wd_768 : wdG (Cond.code yX1_put cX1_put 4 (some .int)) := ⟨tin3 _ (List.mem_of_getElem? (i := 209) rfl), good_of_word rfl⟩
theorem wd_769 : wdG (Cond.selects RX1 yX1_put yX1_put) := ⟨tin3 _ (List.mem_of_getElem? (i := 208) rfl), good_of_word rfl⟩
theorem wd_770 : wdG (Cond.instanceMethod yX1_put) := ⟨tin3 _ (List.mem_of_getElem? (i := 207) rfl), good_of_word rfl⟩
theorem wd_771 : wdG (Cond.methodLink RX8 243 yX1_put) := ⟨tin3 _ (List.mem_of_getElem? (i := 206) rfl), good_of_word rfl⟩
theorem wd_772 : wdG (Cond.code yX9_store cX9_store 4 (some .int)) := ⟨tin5 _ (List.mem_of_getElem? (i := 210) rfl), good_of_word rfl⟩
theorem wd_773 : wdG (Cond.code yX9_placeOf cX9_placeOf 3 (some .int)) := ⟨tin5 _ (List.mem_of_getElem? (i := 215) rfl), good_of_word rfl⟩
theorem wd_774 : wdG (Cond.selects RX9 yX9_placeOf yX9_placeOf) := ⟨tinP _ (List.mem_of_getElem? (i := 34) rfl), good_of_word rfl⟩
theorem wd_775 : wdG (Cond.instanceMethod yX9_placeOf) := ⟨tin5 _ (List.mem_of_getElem? (i := 214) rfl), good_of_word rfl⟩
theorem wd_776 : wdG (Cond.methodLink RX9 311 yX9_placeOf) := ⟨tin5 _ (List.mem_of_getElem? (i := 212) rfl), good_of_word rfl⟩
theorem wd_777 : wdG (Cond.constantLong RX9 309 (999)) := ⟨tin5 _ (List.mem_of_getElem? (i := 211) rfl), good_of_word rfl⟩
theorem wd_778 : wdG (Cond.code yX8_recall cX8_recall 3 (some .int)) := ⟨tin3 _ (List.mem_of_getElem? (i := 218) rfl), good_of_word rfl⟩
theorem wd_779 : wdG (Cond.code yX0_set cX0_set 2 none) := ⟨tin3 _ (List.mem_of_getElem? (i := 227) rfl), good_of_word rfl⟩
theorem wd_780 : wdG (Cond.selects RX0 yX0_set yX0_set) := ⟨tin3 _ (List.mem_of_getElem? (i := 226) rfl), good_of_word rfl⟩
theorem wd_781 : wdG (Cond.instanceMethod yX0_set) := ⟨tin3 _ (List.mem_of_getElem? (i := 225) rfl), good_of_word rfl⟩
theorem wd_782 : wdG (Cond.methodLink RX8 252 yX0_set) := ⟨tin3 _ (List.mem_of_getElem? (i := 224) rfl), good_of_word rfl⟩
theorem wd_783 : wdG (Cond.code yX1_at cX1_at 2 (some (.array .long))) := ⟨tin3 _ (List.mem_of_getElem? (i := 223) rfl), good_of_word rfl⟩
theorem wd_784 : wdG (Cond.selects RX1 yX1_at yX1_at) := ⟨tin3 _ (List.mem_of_getElem? (i := 222) rfl), good_of_word rfl⟩
theorem wd_785 : wdG (Cond.instanceMethod yX1_at) := ⟨tin3 _ (List.mem_of_getElem? (i := 221) rfl), good_of_word rfl⟩
theorem wd_786 : wdG (Cond.methodLink RX8 249 yX1_at) := ⟨tin3 _ (List.mem_of_getElem? (i := 220) rfl), good_of_word rfl⟩
theorem wd_787 : wdG (Cond.methodLink RX8 246 yX1_placeOf) := ⟨tin3 _ (List.mem_of_getElem? (i := 219) rfl), good_of_word rfl⟩
theorem wd_788 : wdG (Cond.methodLink RX0 43 arraycopyName) := ⟨tin3 _ (List.mem_of_getElem? (i := 228) rfl), good_of_word rfl⟩
theorem wd_789 : wdG (Cond.code yX9_recall cX9_recall 4 (some .int)) := ⟨tin5 _ (List.mem_of_getElem? (i := 219) rfl), good_of_word rfl⟩
theorem wd_790 : wdG (Cond.code yX8_forget cX8_forget 3 (some .int)) := ⟨tin3 _ (List.mem_of_getElem? (i := 232) rfl), good_of_word rfl⟩
theorem wd_791 : wdG (Cond.code yX1_remove cX1_remove 3 (some .int)) := ⟨tin3 _ (List.mem_of_getElem? (i := 236) rfl), good_of_word rfl⟩
theorem wd_792 : wdG (Cond.selects RX1 yX1_remove yX1_remove) := ⟨tin3 _ (List.mem_of_getElem? (i := 235) rfl), good_of_word rfl⟩
theorem wd_793 : wdG (Cond.instanceMethod yX1_remove) := ⟨tin3 _ (List.mem_of_getElem? (i := 234) rfl), good_of_word rfl⟩
theorem wd_794 : wdG (Cond.methodLink RX8 256 yX1_remove) := ⟨tin3 _ (List.mem_of_getElem? (i := 233) rfl), good_of_word rfl⟩
theorem wd_795 : wdG (Cond.code yX9_forget cX9_forget 4 (some .int)) := ⟨tin5 _ (List.mem_of_getElem? (i := 223) rfl), good_of_word rfl⟩
theorem wd_796 : wdG (Cond.code yX8_angleTo cX8_angleTo 3 (some .long)) := ⟨tin4 _ (List.mem_of_getElem? (i := 0) rfl), good_of_word rfl⟩
theorem wd_797 : wdG (Cond.constantLong RX8 259 (-1)) := ⟨tin4 _ (List.mem_of_getElem? (i := 1) rfl), good_of_word rfl⟩
theorem wd_798 : wdG (Cond.code yX9_angleTo cX9_angleTo 4 (some .long)) := ⟨tin5 _ (List.mem_of_getElem? (i := 227) rfl), good_of_word rfl⟩
theorem wd_799 : wdG (Cond.constantLong RX9 314 (-1)) := ⟨tin5 _ (List.mem_of_getElem? (i := 228) rfl), good_of_word rfl⟩
theorem wd_800 : wdG (Cond.code yX8_storedNumber cX8_storedNumber 2 (some .int)) := ⟨tin4 _ (List.mem_of_getElem? (i := 5) rfl), good_of_word rfl⟩
theorem wd_801 : wdG (Cond.code yX1_numberAt cX1_numberAt 2 (some .int)) := ⟨tin4 _ (List.mem_of_getElem? (i := 9) rfl), good_of_word rfl⟩
theorem wd_802 : wdG (Cond.selects RX1 yX1_numberAt yX1_numberAt) := ⟨tin4 _ (List.mem_of_getElem? (i := 8) rfl), good_of_word rfl⟩
theorem wd_803 : wdG (Cond.instanceMethod yX1_numberAt) := ⟨tin4 _ (List.mem_of_getElem? (i := 7) rfl), good_of_word rfl⟩
theorem wd_804 : wdG (Cond.methodLink RX8 261 yX1_numberAt) := ⟨tin4 _ (List.mem_of_getElem? (i := 6) rfl), good_of_word rfl⟩
theorem wd_805 : wdG (Cond.code yX9_storedNumber cX9_storedNumber 2 (some .int)) := ⟨tin5 _ (List.mem_of_getElem? (i := 232) rfl), good_of_word rfl⟩
theorem wd_806 : wdG (Cond.code yX8_reset cX8_reset 2 (some .int)) := ⟨tin4 _ (List.mem_of_getElem? (i := 13) rfl), good_of_word rfl⟩
theorem wd_807 : wdG (Cond.methodLink RX8 270 yX0_align) := ⟨tin4 _ (List.mem_of_getElem? (i := 15) rfl), good_of_word rfl⟩
theorem wd_808 : wdG (Cond.methodLink RX8 264 yJ7_fill_d0a16) := ⟨tin4 _ (List.mem_of_getElem? (i := 14) rfl), good_of_word rfl⟩
theorem wd_809 : wdG (Cond.code yX7_restore cX7_restore 1 none) := ⟨tin4 _ (List.mem_of_getElem? (i := 19) rfl), good_of_word rfl⟩
theorem wd_810 : wdG (Cond.selects RX7 yX7_restore yX7_restore) := ⟨tin4 _ (List.mem_of_getElem? (i := 18) rfl), good_of_word rfl⟩
theorem wd_811 : wdG (Cond.instanceMethod yX7_restore) := ⟨tin4 _ (List.mem_of_getElem? (i := 17) rfl), good_of_word rfl⟩
theorem wd_812 : wdG (Cond.methodLink RX8 273 yX7_restore) := ⟨tin4 _ (List.mem_of_getElem? (i := 16) rfl), good_of_word rfl⟩
theorem wd_813 : wdG (Cond.methodLink RX3 53 yX3_removeBin) := ⟨tin4 _ (List.mem_of_getElem? (i := 28) rfl), good_of_word rfl⟩
theorem wd_814 : wdG (Cond.code yX3_empty cX3_empty 2 none) := ⟨tin4 _ (List.mem_of_getElem? (i := 27) rfl), good_of_word rfl⟩
theorem wd_815 : wdG (Cond.selects RX3 yX3_empty yX3_empty) := ⟨tin4 _ (List.mem_of_getElem? (i := 26) rfl), good_of_word rfl⟩
theorem wd_816 : wdG (Cond.instanceMethod yX3_empty) := ⟨tin4 _ (List.mem_of_getElem? (i := 25) rfl), good_of_word rfl⟩
theorem wd_817 : wdG (Cond.methodLink RX8 276 yX3_empty) := ⟨tin4 _ (List.mem_of_getElem? (i := 24) rfl), good_of_word rfl⟩
theorem wd_818 : wdG (Cond.methodLink RX7 47 yJ7_fill_d0a16) := ⟨tin4 _ (List.mem_of_getElem? (i := 23) rfl), good_of_word rfl⟩
theorem wd_819 : wdG (Cond.code yJ7_fill_53178 cJ7_fill_53178 4 none) := ⟨tin4 _ (List.mem_of_getElem? (i := 22) rfl), good_of_word rfl⟩
theorem wd_820 : wdG (Cond.static yJ7_fill_53178) := ⟨tin4 _ (List.mem_of_getElem? (i := 21) rfl), good_of_word rfl⟩
theorem wd_821 : wdG (Cond.methodLink RX7 41 yJ7_fill_53178) := ⟨tin4 _ (List.mem_of_getElem? (i := 20) rfl), good_of_word rfl⟩
theorem wd_822 : wdG (Cond.code yX2_stop cX2_stop 1 none) := ⟨tin4 _ (List.mem_of_getElem? (i := 37) rfl), good_of_word rfl⟩
theorem wd_823 : wdG (Cond.selects RX2 yX2_stop yX2_stop) := ⟨tin4 _ (List.mem_of_getElem? (i := 36) rfl), good_of_word rfl⟩
theorem wd_824 : wdG (Cond.instanceMethod yX2_stop) := ⟨tin4 _ (List.mem_of_getElem? (i := 35) rfl), good_of_word rfl⟩
theorem wd_825 : wdG (Cond.methodLink RX4 54 yX2_stop) := ⟨tin4 _ (List.mem_of_getElem? (i := 34) rfl), good_of_word rfl⟩
theorem wd_826 : wdG (Cond.methodLink RX4 51 yX0_align) := ⟨tin4 _ (List.mem_of_getElem? (i := 33) rfl), good_of_word rfl⟩
theorem wd_827 : wdG (Cond.code yX4_restore cX4_restore 1 none) := ⟨tin4 _ (List.mem_of_getElem? (i := 32) rfl), good_of_word rfl⟩
theorem wd_828 : wdG (Cond.selects RX4 yX4_restore yX4_restore) := ⟨tin4 _ (List.mem_of_getElem? (i := 31) rfl), good_of_word rfl⟩
theorem wd_829 : wdG (Cond.instanceMethod yX4_restore) := ⟨tin4 _ (List.mem_of_getElem? (i := 30) rfl), good_of_word rfl⟩
theorem wd_830 : wdG (Cond.methodLink RX8 278 yX4_restore) := ⟨tin4 _ (List.mem_of_getElem? (i := 29) rfl), good_of_word rfl⟩
theorem wd_831 : wdG (Cond.code yX1_empty cX1_empty 1 none) := ⟨tin4 _ (List.mem_of_getElem? (i := 41) rfl), good_of_word rfl⟩
theorem wd_832 : wdG (Cond.selects RX1 yX1_empty yX1_empty) := ⟨tin4 _ (List.mem_of_getElem? (i := 40) rfl), good_of_word rfl⟩
theorem wd_833 : wdG (Cond.instanceMethod yX1_empty) := ⟨tin4 _ (List.mem_of_getElem? (i := 39) rfl), good_of_word rfl⟩
theorem wd_834 : wdG (Cond.methodLink RX8 279 yX1_empty) := ⟨tin4 _ (List.mem_of_getElem? (i := 38) rfl), good_of_word rfl⟩
theorem wd_835 : wdG (Cond.code yX9_reset cX9_reset 2 (some .int)) := ⟨tin5 _ (List.mem_of_getElem? (i := 236) rfl), good_of_word rfl⟩
theorem wd_836 : wdG (Cond.methodLink RL 9 yX8_init) := ⟨tin1 _ (List.mem_of_getElem? (i := 17) rfl), good_of_word rfl⟩
theorem wd_837 : wdG (Cond.instanceMethod yX8_init) := ⟨tin1 _ (List.mem_of_getElem? (i := 18) rfl), good_of_word rfl⟩
theorem wd_838 : wdG (Cond.methodLink RL 12 yX9_init) := ⟨tin4 _ (List.mem_of_getElem? (i := 44) rfl), good_of_word rfl⟩
theorem wd_839 : wdG (Cond.instanceMethod yX9_init) := ⟨tin4 _ (List.mem_of_getElem? (i := 45) rfl), good_of_word rfl⟩
theorem wd_840 : wdG (Cond.methodLink RL 13 yX8_setGyro) := ⟨tin2 _ (List.mem_of_getElem? (i := 32) rfl), good_of_word rfl⟩
theorem wd_841 : wdG (Cond.instanceMethod yX8_setGyro) := ⟨tin2 _ (List.mem_of_getElem? (i := 33) rfl), good_of_word rfl⟩
theorem wd_842 : wdG (Cond.selects RX8 yX8_setGyro yX8_setGyro) := ⟨tin2 _ (List.mem_of_getElem? (i := 34) rfl), good_of_word rfl⟩
theorem wd_843 : wdG (Cond.methodLink RL 17 yX9_setGyro) := ⟨tin4 _ (List.mem_of_getElem? (i := 183) rfl), good_of_word rfl⟩
theorem wd_844 : wdG (Cond.instanceMethod yX9_setGyro) := ⟨tin4 _ (List.mem_of_getElem? (i := 184) rfl), good_of_word rfl⟩
theorem wd_845 : wdG (Cond.selects RX9 yX9_setGyro yX9_setGyro) := ⟨tin4 _ (List.mem_of_getElem? (i := 185) rfl), good_of_word rfl⟩
theorem wd_846 : wdG (Cond.methodLink RL 18 yX8_setAccelerometer) := ⟨tin2 _ (List.mem_of_getElem? (i := 53) rfl), good_of_word rfl⟩
theorem wd_847 : wdG (Cond.instanceMethod yX8_setAccelerometer) := ⟨tin2 _ (List.mem_of_getElem? (i := 54) rfl), good_of_word rfl⟩
theorem wd_848 : wdG (Cond.selects RX8 yX8_setAccelerometer yX8_setAccelerometer) := ⟨tin2 _ (List.mem_of_getElem? (i := 55) rfl), good_of_word rfl⟩
theorem wd_849 : wdG (Cond.methodLink RL 22 yX9_setAccelerometer) := ⟨tin4 _ (List.mem_of_getElem? (i := 200) rfl), good_of_word rfl⟩
theorem wd_850 : wdG (Cond.instanceMethod yX9_setAccelerometer) := ⟨tin4 _ (List.mem_of_getElem? (i := 201) rfl), good_of_word rfl⟩
theorem wd_851 : wdG (Cond.selects RX9 yX9_setAccelerometer yX9_setAccelerometer) := ⟨tin4 _ (List.mem_of_getElem? (i := 202) rfl), good_of_word rfl⟩
theorem wd_852 : wdG (Cond.methodLink RL 23 yX8_setEarthRate) := ⟨tin2 _ (List.mem_of_getElem? (i := 62) rfl), good_of_word rfl⟩
theorem wd_853 : wdG (Cond.instanceMethod yX8_setEarthRate) := ⟨tin2 _ (List.mem_of_getElem? (i := 63) rfl), good_of_word rfl⟩
theorem wd_854 : wdG (Cond.selects RX8 yX8_setEarthRate yX8_setEarthRate) := ⟨tin2 _ (List.mem_of_getElem? (i := 64) rfl), good_of_word rfl⟩
theorem wd_855 : wdG (Cond.methodLink RL 26 yX9_setEarthRate) := ⟨tin4 _ (List.mem_of_getElem? (i := 206) rfl), good_of_word rfl⟩
theorem wd_856 : wdG (Cond.instanceMethod yX9_setEarthRate) := ⟨tin4 _ (List.mem_of_getElem? (i := 207) rfl), good_of_word rfl⟩
theorem wd_857 : wdG (Cond.selects RX9 yX9_setEarthRate yX9_setEarthRate) := ⟨tin4 _ (List.mem_of_getElem? (i := 208) rfl), good_of_word rfl⟩
theorem wd_858 : wdG (Cond.methodLink RL 27 yX8_setTemperature) := ⟨tin2 _ (List.mem_of_getElem? (i := 67) rfl), good_of_word rfl⟩
theorem wd_859 : wdG (Cond.instanceMethod yX8_setTemperature) := ⟨tin2 _ (List.mem_of_getElem? (i := 68) rfl), good_of_word rfl⟩
theorem wd_860 : wdG (Cond.selects RX8 yX8_setTemperature yX8_setTemperature) := ⟨tin2 _ (List.mem_of_getElem? (i := 69) rfl), good_of_word rfl⟩
theorem wd_861 : wdG (Cond.methodLink RL 31 yX9_setTemperature) := ⟨tin4 _ (List.mem_of_getElem? (i := 212) rfl), good_of_word rfl⟩
theorem wd_862 : wdG (Cond.instanceMethod yX9_setTemperature) := ⟨tin4 _ (List.mem_of_getElem? (i := 213) rfl), good_of_word rfl⟩
theorem wd_863 : wdG (Cond.selects RX9 yX9_setTemperature yX9_setTemperature) := ⟨tin4 _ (List.mem_of_getElem? (i := 214) rfl), good_of_word rfl⟩
theorem wd_864 : wdG (Cond.methodLink RL 32 yX8_setSeed) := ⟨tin2 _ (List.mem_of_getElem? (i := 75) rfl), good_of_word rfl⟩
theorem wd_865 : wdG (Cond.instanceMethod yX8_setSeed) := ⟨tin2 _ (List.mem_of_getElem? (i := 76) rfl), good_of_word rfl⟩
theorem wd_866 : wdG (Cond.selects RX8 yX8_setSeed yX8_setSeed) := ⟨tin2 _ (List.mem_of_getElem? (i := 77) rfl), good_of_word rfl⟩
theorem wd_867 : wdG (Cond.methodLink RL 35 yX9_setSeed) := ⟨tin4 _ (List.mem_of_getElem? (i := 218) rfl), good_of_word rfl⟩
theorem wd_868 : wdG (Cond.instanceMethod yX9_setSeed) := ⟨tin4 _ (List.mem_of_getElem? (i := 219) rfl), good_of_word rfl⟩
theorem wd_869 : wdG (Cond.selects RX9 yX9_setSeed yX9_setSeed) := ⟨tin4 _ (List.mem_of_getElem? (i := 220) rfl), good_of_word rfl⟩
theorem wd_870 : wdG (Cond.methodLink RL 36 yX8_addSegment) := ⟨tin2 _ (List.mem_of_getElem? (i := 83) rfl), good_of_word rfl⟩
theorem wd_871 : wdG (Cond.instanceMethod yX8_addSegment) := ⟨tin2 _ (List.mem_of_getElem? (i := 84) rfl), good_of_word rfl⟩
theorem wd_872 : wdG (Cond.selects RX8 yX8_addSegment yX8_addSegment) := ⟨tin2 _ (List.mem_of_getElem? (i := 85) rfl), good_of_word rfl⟩
theorem wd_873 : wdG (Cond.methodLink RL 40 yX9_addSegment) := ⟨tin4 _ (List.mem_of_getElem? (i := 222) rfl), good_of_word rfl⟩
theorem wd_874 : wdG (Cond.instanceMethod yX9_addSegment) := ⟨tin4 _ (List.mem_of_getElem? (i := 223) rfl), good_of_word rfl⟩
theorem wd_875 : wdG (Cond.selects RX9 yX9_addSegment yX9_addSegment) := ⟨tin4 _ (List.mem_of_getElem? (i := 224) rfl), good_of_word rfl⟩
theorem wd_876 : wdG (Cond.methodLink RL 41 yX8_clearScript) := ⟨tin2 _ (List.mem_of_getElem? (i := 95) rfl), good_of_word rfl⟩
theorem wd_877 : wdG (Cond.instanceMethod yX8_clearScript) := ⟨tin2 _ (List.mem_of_getElem? (i := 96) rfl), good_of_word rfl⟩
theorem wd_878 : wdG (Cond.selects RX8 yX8_clearScript yX8_clearScript) := ⟨tin2 _ (List.mem_of_getElem? (i := 97) rfl), good_of_word rfl⟩
theorem wd_879 : wdG (Cond.methodLink RL 45 yX9_clearScript) := ⟨tin4 _ (List.mem_of_getElem? (i := 231) rfl), good_of_word rfl⟩
theorem wd_880 : wdG (Cond.instanceMethod yX9_clearScript) := ⟨tin4 _ (List.mem_of_getElem? (i := 232) rfl), good_of_word rfl⟩
theorem wd_881 : wdG (Cond.selects RX9 yX9_clearScript yX9_clearScript) := ⟨tin4 _ (List.mem_of_getElem? (i := 233) rfl), good_of_word rfl⟩
theorem wd_882 : wdG (Cond.methodLink RL 46 yX8_scriptTicks) := ⟨tin2 _ (List.mem_of_getElem? (i := 103) rfl), good_of_word rfl⟩
theorem wd_883 : wdG (Cond.instanceMethod yX8_scriptTicks) := ⟨tin2 _ (List.mem_of_getElem? (i := 104) rfl), good_of_word rfl⟩
theorem wd_884 : wdG (Cond.selects RX8 yX8_scriptTicks yX8_scriptTicks) := ⟨tin2 _ (List.mem_of_getElem? (i := 105) rfl), good_of_word rfl⟩
theorem wd_885 : wdG (Cond.methodLink RL 49 yX9_scriptTicks) := ⟨tin4 _ (List.mem_of_getElem? (i := 235) rfl), good_of_word rfl⟩
theorem wd_886 : wdG (Cond.instanceMethod yX9_scriptTicks) := ⟨tin4 _ (List.mem_of_getElem? (i := 236) rfl), good_of_word rfl⟩
theorem wd_887 : wdG (Cond.selects RX9 yX9_scriptTicks yX9_scriptTicks) := ⟨tin4 _ (List.mem_of_getElem? (i := 237) rfl), good_of_word rfl⟩
theorem wd_888 : wdG (Cond.methodLink RL 50 yX8_turnTruth) := ⟨tin2 _ (List.mem_of_getElem? (i := 111) rfl), good_of_word rfl⟩
theorem wd_889 : wdG (Cond.instanceMethod yX8_turnTruth) := ⟨tin2 _ (List.mem_of_getElem? (i := 112) rfl), good_of_word rfl⟩
theorem wd_890 : wdG (Cond.selects RX8 yX8_turnTruth yX8_turnTruth) := ⟨tin2 _ (List.mem_of_getElem? (i := 113) rfl), good_of_word rfl⟩
theorem wd_891 : wdG (Cond.methodLink RL 54 yX9_turnTruth) := ⟨tin4 _ (List.mem_of_getElem? (i := 239) rfl), good_of_word rfl⟩
theorem wd_892 : wdG (Cond.instanceMethod yX9_turnTruth) := ⟨tin5 _ (List.mem_of_getElem? (i := 0) rfl), good_of_word rfl⟩
theorem wd_893 : wdG (Cond.selects RX9 yX9_turnTruth yX9_turnTruth) := ⟨tin5 _ (List.mem_of_getElem? (i := 1) rfl), good_of_word rfl⟩
theorem wd_894 : wdG (Cond.methodLink RL 55 yX8_run) := ⟨tin2 _ (List.mem_of_getElem? (i := 134) rfl), good_of_word rfl⟩
theorem wd_895 : wdG (Cond.instanceMethod yX8_run) := ⟨tin2 _ (List.mem_of_getElem? (i := 135) rfl), good_of_word rfl⟩
theorem wd_896 : wdG (Cond.selects RX8 yX8_run yX8_run) := ⟨tin2 _ (List.mem_of_getElem? (i := 136) rfl), good_of_word rfl⟩
theorem wd_897 : wdG (Cond.methodLink RL 58 yX9_run) := ⟨tin5 _ (List.mem_of_getElem? (i := 15) rfl), good_of_word rfl⟩
theorem wd_898 : wdG (Cond.instanceMethod yX9_run) := ⟨tin5 _ (List.mem_of_getElem? (i := 16) rfl), good_of_word rfl⟩
theorem wd_899 : wdG (Cond.selects RX9 yX9_run yX9_run) := ⟨tin5 _ (List.mem_of_getElem? (i := 17) rfl), good_of_word rfl⟩
theorem wd_900 : wdG (Cond.methodLink RL 59 yX8_time) := ⟨tin3 _ (List.mem_of_getElem? (i := 57) rfl), good_of_word rfl⟩
theorem wd_901 : wdG (Cond.instanceMethod yX8_time) := ⟨tin3 _ (List.mem_of_getElem? (i := 58) rfl), good_of_word rfl⟩
theorem wd_902 : wdG (Cond.selects RX8 yX8_time yX8_time) := ⟨tin3 _ (List.mem_of_getElem? (i := 59) rfl), good_of_word rfl⟩
theorem wd_903 : wdG (Cond.methodLink RL 62 yX9_time) := ⟨tin5 _ (List.mem_of_getElem? (i := 100) rfl), good_of_word rfl⟩
theorem wd_904 : wdG (Cond.instanceMethod yX9_time) := ⟨tin5 _ (List.mem_of_getElem? (i := 101) rfl), good_of_word rfl⟩
theorem wd_905 : wdG (Cond.selects RX9 yX9_time yX9_time) := ⟨tin5 _ (List.mem_of_getElem? (i := 102) rfl), good_of_word rfl⟩
theorem wd_906 : wdG (Cond.methodLink RL 63 yX8_gyro) := ⟨tin3 _ (List.mem_of_getElem? (i := 61) rfl), good_of_word rfl⟩
theorem wd_907 : wdG (Cond.instanceMethod yX8_gyro) := ⟨tin3 _ (List.mem_of_getElem? (i := 62) rfl), good_of_word rfl⟩
theorem wd_908 : wdG (Cond.selects RX8 yX8_gyro yX8_gyro) := ⟨tin3 _ (List.mem_of_getElem? (i := 63) rfl), good_of_word rfl⟩
theorem wd_909 : wdG (Cond.methodLink RL 67 yX9_gyro) := ⟨tin5 _ (List.mem_of_getElem? (i := 104) rfl), good_of_word rfl⟩
theorem wd_910 : wdG (Cond.instanceMethod yX9_gyro) := ⟨tin5 _ (List.mem_of_getElem? (i := 105) rfl), good_of_word rfl⟩
theorem wd_911 : wdG (Cond.selects RX9 yX9_gyro yX9_gyro) := ⟨tin5 _ (List.mem_of_getElem? (i := 106) rfl), good_of_word rfl⟩
theorem wd_912 : wdG (Cond.methodLink RL 68 yX8_accelerometer) := ⟨tin3 _ (List.mem_of_getElem? (i := 68) rfl), good_of_word rfl⟩
theorem wd_913 : wdG (Cond.instanceMethod yX8_accelerometer) := ⟨tin3 _ (List.mem_of_getElem? (i := 69) rfl), good_of_word rfl⟩
theorem wd_914 : wdG (Cond.selects RX8 yX8_accelerometer yX8_accelerometer) := ⟨tin3 _ (List.mem_of_getElem? (i := 70) rfl), good_of_word rfl⟩
theorem wd_915 : wdG (Cond.methodLink RL 71 yX9_accelerometer) := ⟨tin5 _ (List.mem_of_getElem? (i := 108) rfl), good_of_word rfl⟩
theorem wd_916 : wdG (Cond.instanceMethod yX9_accelerometer) := ⟨tin5 _ (List.mem_of_getElem? (i := 109) rfl), good_of_word rfl⟩
theorem wd_917 : wdG (Cond.selects RX9 yX9_accelerometer yX9_accelerometer) := ⟨tin5 _ (List.mem_of_getElem? (i := 110) rfl), good_of_word rfl⟩
theorem wd_918 : wdG (Cond.methodLink RL 72 yX8_setMethod) := ⟨tin3 _ (List.mem_of_getElem? (i := 72) rfl), good_of_word rfl⟩
theorem wd_919 : wdG (Cond.instanceMethod yX8_setMethod) := ⟨tin3 _ (List.mem_of_getElem? (i := 73) rfl), good_of_word rfl⟩
theorem wd_920 : wdG (Cond.selects RX8 yX8_setMethod yX8_setMethod) := ⟨tin3 _ (List.mem_of_getElem? (i := 74) rfl), good_of_word rfl⟩
theorem wd_921 : wdG (Cond.methodLink RL 75 yX9_setMethod) := ⟨tin5 _ (List.mem_of_getElem? (i := 112) rfl), good_of_word rfl⟩
theorem wd_922 : wdG (Cond.instanceMethod yX9_setMethod) := ⟨tin5 _ (List.mem_of_getElem? (i := 113) rfl), good_of_word rfl⟩
theorem wd_923 : wdG (Cond.selects RX9 yX9_setMethod yX9_setMethod) := ⟨tin5 _ (List.mem_of_getElem? (i := 114) rfl), good_of_word rfl⟩
theorem wd_924 : wdG (Cond.methodLink RL 76 yX8_setLevelling) := ⟨tin3 _ (List.mem_of_getElem? (i := 80) rfl), good_of_word rfl⟩
theorem wd_925 : wdG (Cond.instanceMethod yX8_setLevelling) := ⟨tin3 _ (List.mem_of_getElem? (i := 81) rfl), good_of_word rfl⟩
theorem wd_926 : wdG (Cond.selects RX8 yX8_setLevelling yX8_setLevelling) := ⟨tin3 _ (List.mem_of_getElem? (i := 82) rfl), good_of_word rfl⟩
theorem wd_927 : wdG (Cond.methodLink RL 79 yX9_setLevelling) := ⟨tin5 _ (List.mem_of_getElem? (i := 116) rfl), good_of_word rfl⟩
theorem wd_928 : wdG (Cond.instanceMethod yX9_setLevelling) := ⟨tin5 _ (List.mem_of_getElem? (i := 117) rfl), good_of_word rfl⟩
theorem wd_929 : wdG (Cond.selects RX9 yX9_setLevelling yX9_setLevelling) := ⟨tin5 _ (List.mem_of_getElem? (i := 118) rfl), good_of_word rfl⟩
theorem wd_930 : wdG (Cond.methodLink RL 80 yX8_setHeading) := ⟨tin3 _ (List.mem_of_getElem? (i := 88) rfl), good_of_word rfl⟩
theorem wd_931 : wdG (Cond.instanceMethod yX8_setHeading) := ⟨tin3 _ (List.mem_of_getElem? (i := 89) rfl), good_of_word rfl⟩
theorem wd_932 : wdG (Cond.selects RX8 yX8_setHeading yX8_setHeading) := ⟨tin3 _ (List.mem_of_getElem? (i := 90) rfl), good_of_word rfl⟩
theorem wd_933 : wdG (Cond.methodLink RL 83 yX9_setHeading) := ⟨tin5 _ (List.mem_of_getElem? (i := 121) rfl), good_of_word rfl⟩
theorem wd_934 : wdG (Cond.instanceMethod yX9_setHeading) := ⟨tin5 _ (List.mem_of_getElem? (i := 122) rfl), good_of_word rfl⟩
theorem wd_935 : wdG (Cond.selects RX9 yX9_setHeading yX9_setHeading) := ⟨tin5 _ (List.mem_of_getElem? (i := 123) rfl), good_of_word rfl⟩
theorem wd_936 : wdG (Cond.methodLink RL 84 yX8_startCalibration) := ⟨tin3 _ (List.mem_of_getElem? (i := 97) rfl), good_of_word rfl⟩
theorem wd_937 : wdG (Cond.instanceMethod yX8_startCalibration) := ⟨tin3 _ (List.mem_of_getElem? (i := 98) rfl), good_of_word rfl⟩
theorem wd_938 : wdG (Cond.selects RX8 yX8_startCalibration yX8_startCalibration) := ⟨tin3 _ (List.mem_of_getElem? (i := 99) rfl), good_of_word rfl⟩
theorem wd_939 : wdG (Cond.methodLink RL 87 yX9_startCalibration) := ⟨tin5 _ (List.mem_of_getElem? (i := 125) rfl), good_of_word rfl⟩
theorem wd_940 : wdG (Cond.instanceMethod yX9_startCalibration) := ⟨tin5 _ (List.mem_of_getElem? (i := 126) rfl), good_of_word rfl⟩
theorem wd_941 : wdG (Cond.selects RX9 yX9_startCalibration yX9_startCalibration) := ⟨tin5 _ (List.mem_of_getElem? (i := 127) rfl), good_of_word rfl⟩
theorem wd_942 : wdG (Cond.methodLink RL 88 yX8_calibrationLeft) := ⟨tin3 _ (List.mem_of_getElem? (i := 107) rfl), good_of_word rfl⟩
theorem wd_943 : wdG (Cond.instanceMethod yX8_calibrationLeft) := ⟨tin3 _ (List.mem_of_getElem? (i := 108) rfl), good_of_word rfl⟩
theorem wd_944 : wdG (Cond.selects RX8 yX8_calibrationLeft yX8_calibrationLeft) := ⟨tin3 _ (List.mem_of_getElem? (i := 109) rfl), good_of_word rfl⟩
theorem wd_945 : wdG (Cond.methodLink RL 91 yX9_calibrationLeft) := ⟨tin5 _ (List.mem_of_getElem? (i := 129) rfl), good_of_word rfl⟩
theorem wd_946 : wdG (Cond.instanceMethod yX9_calibrationLeft) := ⟨tin5 _ (List.mem_of_getElem? (i := 130) rfl), good_of_word rfl⟩
theorem wd_947 : wdG (Cond.selects RX9 yX9_calibrationLeft yX9_calibrationLeft) := ⟨tin5 _ (List.mem_of_getElem? (i := 131) rfl), good_of_word rfl⟩
theorem wd_948 : wdG (Cond.methodLink RL 92 yX8_biasEstimate) := ⟨tin3 _ (List.mem_of_getElem? (i := 111) rfl), good_of_word rfl⟩
theorem wd_949 : wdG (Cond.instanceMethod yX8_biasEstimate) := ⟨tin3 _ (List.mem_of_getElem? (i := 112) rfl), good_of_word rfl⟩
theorem wd_950 : wdG (Cond.selects RX8 yX8_biasEstimate yX8_biasEstimate) := ⟨tin3 _ (List.mem_of_getElem? (i := 113) rfl), good_of_word rfl⟩
theorem wd_951 : wdG (Cond.methodLink RL 95 yX9_biasEstimate) := ⟨tin5 _ (List.mem_of_getElem? (i := 133) rfl), good_of_word rfl⟩
theorem wd_952 : wdG (Cond.instanceMethod yX9_biasEstimate) := ⟨tin5 _ (List.mem_of_getElem? (i := 134) rfl), good_of_word rfl⟩
theorem wd_953 : wdG (Cond.selects RX9 yX9_biasEstimate yX9_biasEstimate) := ⟨tin5 _ (List.mem_of_getElem? (i := 135) rfl), good_of_word rfl⟩
theorem wd_954 : wdG (Cond.methodLink RL 96 yX8_setCompensation) := ⟨tin3 _ (List.mem_of_getElem? (i := 115) rfl), good_of_word rfl⟩
theorem wd_955 : wdG (Cond.instanceMethod yX8_setCompensation) := ⟨tin3 _ (List.mem_of_getElem? (i := 116) rfl), good_of_word rfl⟩
theorem wd_956 : wdG (Cond.selects RX8 yX8_setCompensation yX8_setCompensation) := ⟨tin3 _ (List.mem_of_getElem? (i := 117) rfl), good_of_word rfl⟩
theorem wd_957 : wdG (Cond.methodLink RL 99 yX9_setCompensation) := ⟨tin5 _ (List.mem_of_getElem? (i := 137) rfl), good_of_word rfl⟩
theorem wd_958 : wdG (Cond.instanceMethod yX9_setCompensation) := ⟨tin5 _ (List.mem_of_getElem? (i := 138) rfl), good_of_word rfl⟩
theorem wd_959 : wdG (Cond.selects RX9 yX9_setCompensation yX9_setCompensation) := ⟨tin5 _ (List.mem_of_getElem? (i := 139) rfl), good_of_word rfl⟩
theorem wd_960 : wdG (Cond.methodLink RL 100 yX8_learnCompensation) := ⟨tin3 _ (List.mem_of_getElem? (i := 125) rfl), good_of_word rfl⟩
theorem wd_961 : wdG (Cond.instanceMethod yX8_learnCompensation) := ⟨tin3 _ (List.mem_of_getElem? (i := 126) rfl), good_of_word rfl⟩
theorem wd_962 : wdG (Cond.selects RX8 yX8_learnCompensation yX8_learnCompensation) := ⟨tin3 _ (List.mem_of_getElem? (i := 127) rfl), good_of_word rfl⟩
theorem wd_963 : wdG (Cond.methodLink RL 103 yX9_learnCompensation) := ⟨tin5 _ (List.mem_of_getElem? (i := 155) rfl), good_of_word rfl⟩
theorem wd_964 : wdG (Cond.instanceMethod yX9_learnCompensation) := ⟨tin5 _ (List.mem_of_getElem? (i := 156) rfl), good_of_word rfl⟩
theorem wd_965 : wdG (Cond.selects RX9 yX9_learnCompensation yX9_learnCompensation) := ⟨tin5 _ (List.mem_of_getElem? (i := 157) rfl), good_of_word rfl⟩
theorem wd_966 : wdG (Cond.methodLink RL 104 yX8_compensation) := ⟨tin3 _ (List.mem_of_getElem? (i := 137) rfl), good_of_word rfl⟩
theorem wd_967 : wdG (Cond.instanceMethod yX8_compensation) := ⟨tin3 _ (List.mem_of_getElem? (i := 138) rfl), good_of_word rfl⟩
theorem wd_968 : wdG (Cond.selects RX8 yX8_compensation yX8_compensation) := ⟨tin3 _ (List.mem_of_getElem? (i := 139) rfl), good_of_word rfl⟩
theorem wd_969 : wdG (Cond.methodLink RL 107 yX9_compensation) := ⟨tin5 _ (List.mem_of_getElem? (i := 159) rfl), good_of_word rfl⟩
theorem wd_970 : wdG (Cond.instanceMethod yX9_compensation) := ⟨tin5 _ (List.mem_of_getElem? (i := 160) rfl), good_of_word rfl⟩
theorem wd_971 : wdG (Cond.selects RX9 yX9_compensation yX9_compensation) := ⟨tin5 _ (List.mem_of_getElem? (i := 161) rfl), good_of_word rfl⟩
theorem wd_972 : wdG (Cond.methodLink RL 108 yX8_forgetBin) := ⟨tin3 _ (List.mem_of_getElem? (i := 142) rfl), good_of_word rfl⟩
theorem wd_973 : wdG (Cond.instanceMethod yX8_forgetBin) := ⟨tin3 _ (List.mem_of_getElem? (i := 143) rfl), good_of_word rfl⟩
theorem wd_974 : wdG (Cond.selects RX8 yX8_forgetBin yX8_forgetBin) := ⟨tin3 _ (List.mem_of_getElem? (i := 144) rfl), good_of_word rfl⟩
theorem wd_975 : wdG (Cond.methodLink RL 111 yX9_forgetBin) := ⟨tin5 _ (List.mem_of_getElem? (i := 163) rfl), good_of_word rfl⟩
theorem wd_976 : wdG (Cond.instanceMethod yX9_forgetBin) := ⟨tin5 _ (List.mem_of_getElem? (i := 164) rfl), good_of_word rfl⟩
theorem wd_977 : wdG (Cond.selects RX9 yX9_forgetBin yX9_forgetBin) := ⟨tin5 _ (List.mem_of_getElem? (i := 165) rfl), good_of_word rfl⟩
theorem wd_978 : wdG (Cond.methodLink RL 112 yX8_turnEstimate) := ⟨tin3 _ (List.mem_of_getElem? (i := 150) rfl), good_of_word rfl⟩
theorem wd_979 : wdG (Cond.instanceMethod yX8_turnEstimate) := ⟨tin3 _ (List.mem_of_getElem? (i := 151) rfl), good_of_word rfl⟩
theorem wd_980 : wdG (Cond.selects RX8 yX8_turnEstimate yX8_turnEstimate) := ⟨tin3 _ (List.mem_of_getElem? (i := 152) rfl), good_of_word rfl⟩
theorem wd_981 : wdG (Cond.methodLink RL 115 yX9_turnEstimate) := ⟨tin5 _ (List.mem_of_getElem? (i := 167) rfl), good_of_word rfl⟩
theorem wd_982 : wdG (Cond.instanceMethod yX9_turnEstimate) := ⟨tin5 _ (List.mem_of_getElem? (i := 168) rfl), good_of_word rfl⟩
theorem wd_983 : wdG (Cond.selects RX9 yX9_turnEstimate yX9_turnEstimate) := ⟨tin5 _ (List.mem_of_getElem? (i := 169) rfl), good_of_word rfl⟩
theorem wd_984 : wdG (Cond.methodLink RL 116 yX8_estimate) := ⟨tin3 _ (List.mem_of_getElem? (i := 154) rfl), good_of_word rfl⟩
theorem wd_985 : wdG (Cond.instanceMethod yX8_estimate) := ⟨tin3 _ (List.mem_of_getElem? (i := 155) rfl), good_of_word rfl⟩
theorem wd_986 : wdG (Cond.selects RX8 yX8_estimate yX8_estimate) := ⟨tin3 _ (List.mem_of_getElem? (i := 156) rfl), good_of_word rfl⟩
theorem wd_987 : wdG (Cond.methodLink RL 119 yX9_estimate) := ⟨tin5 _ (List.mem_of_getElem? (i := 171) rfl), good_of_word rfl⟩
theorem wd_988 : wdG (Cond.instanceMethod yX9_estimate) := ⟨tin5 _ (List.mem_of_getElem? (i := 172) rfl), good_of_word rfl⟩
theorem wd_989 : wdG (Cond.selects RX9 yX9_estimate yX9_estimate) := ⟨tin5 _ (List.mem_of_getElem? (i := 173) rfl), good_of_word rfl⟩
theorem wd_990 : wdG (Cond.methodLink RL 120 yX8_truth) := ⟨tin3 _ (List.mem_of_getElem? (i := 158) rfl), good_of_word rfl⟩
theorem wd_991 : wdG (Cond.instanceMethod yX8_truth) := ⟨tin3 _ (List.mem_of_getElem? (i := 159) rfl), good_of_word rfl⟩
theorem wd_992 : wdG (Cond.selects RX8 yX8_truth yX8_truth) := ⟨tin3 _ (List.mem_of_getElem? (i := 160) rfl), good_of_word rfl⟩
theorem wd_993 : wdG (Cond.methodLink RL 123 yX9_truth) := ⟨tin5 _ (List.mem_of_getElem? (i := 176) rfl), good_of_word rfl⟩
theorem wd_994 : wdG (Cond.instanceMethod yX9_truth) := ⟨tin5 _ (List.mem_of_getElem? (i := 177) rfl), good_of_word rfl⟩
theorem wd_995 : wdG (Cond.selects RX9 yX9_truth yX9_truth) := ⟨tin5 _ (List.mem_of_getElem? (i := 178) rfl), good_of_word rfl⟩
theorem wd_996 : wdG (Cond.methodLink RL 124 yX8_errorAngle) := ⟨tin3 _ (List.mem_of_getElem? (i := 162) rfl), good_of_word rfl⟩
theorem wd_997 : wdG (Cond.methodLink RL 128 yX9_errorAngle) := ⟨tin5 _ (List.mem_of_getElem? (i := 180) rfl), good_of_word rfl⟩
theorem wd_998 : wdG (Cond.instanceMethod yX9_errorAngle) := ⟨tin5 _ (List.mem_of_getElem? (i := 181) rfl), good_of_word rfl⟩
theorem wd_999 : wdG (Cond.selects RX9 yX9_errorAngle yX9_errorAngle) := ⟨tin5 _ (List.mem_of_getElem? (i := 182) rfl), good_of_word rfl⟩
theorem wd_1000 : wdG (Cond.methodLink RL 129 yX8_greatestError) := ⟨tin3 _ (List.mem_of_getElem? (i := 163) rfl), good_of_word rfl⟩
theorem wd_1001 : wdG (Cond.instanceMethod yX8_greatestError) := ⟨tin3 _ (List.mem_of_getElem? (i := 164) rfl), good_of_word rfl⟩
theorem wd_1002 : wdG (Cond.selects RX8 yX8_greatestError yX8_greatestError) := ⟨tin3 _ (List.mem_of_getElem? (i := 165) rfl), good_of_word rfl⟩
theorem wd_1003 : wdG (Cond.methodLink RL 132 yX9_greatestError) := ⟨tin5 _ (List.mem_of_getElem? (i := 184) rfl), good_of_word rfl⟩
theorem wd_1004 : wdG (Cond.instanceMethod yX9_greatestError) := ⟨tin5 _ (List.mem_of_getElem? (i := 185) rfl), good_of_word rfl⟩
theorem wd_1005 : wdG (Cond.selects RX9 yX9_greatestError yX9_greatestError) := ⟨tin5 _ (List.mem_of_getElem? (i := 186) rfl), good_of_word rfl⟩
theorem wd_1006 : wdG (Cond.methodLink RL 133 yX8_tiltError) := ⟨tin3 _ (List.mem_of_getElem? (i := 167) rfl), good_of_word rfl⟩
theorem wd_1007 : wdG (Cond.instanceMethod yX8_tiltError) := ⟨tin3 _ (List.mem_of_getElem? (i := 168) rfl), good_of_word rfl⟩
theorem wd_1008 : wdG (Cond.selects RX8 yX8_tiltError yX8_tiltError) := ⟨tin3 _ (List.mem_of_getElem? (i := 169) rfl), good_of_word rfl⟩
theorem wd_1009 : wdG (Cond.methodLink RL 136 yX9_tiltError) := ⟨tin5 _ (List.mem_of_getElem? (i := 188) rfl), good_of_word rfl⟩
theorem wd_1010 : wdG (Cond.instanceMethod yX9_tiltError) := ⟨tin5 _ (List.mem_of_getElem? (i := 189) rfl), good_of_word rfl⟩
theorem wd_1011 : wdG (Cond.selects RX9 yX9_tiltError yX9_tiltError) := ⟨tin5 _ (List.mem_of_getElem? (i := 190) rfl), good_of_word rfl⟩
theorem wd_1012 : wdG (Cond.methodLink RL 137 yX8_toNavigation) := ⟨tin3 _ (List.mem_of_getElem? (i := 175) rfl), good_of_word rfl⟩
theorem wd_1013 : wdG (Cond.instanceMethod yX8_toNavigation) := ⟨tin3 _ (List.mem_of_getElem? (i := 176) rfl), good_of_word rfl⟩
theorem wd_1014 : wdG (Cond.selects RX8 yX8_toNavigation yX8_toNavigation) := ⟨tin3 _ (List.mem_of_getElem? (i := 177) rfl), good_of_word rfl⟩
theorem wd_1015 : wdG (Cond.methodLink RL 141 yX9_toNavigation) := ⟨tin5 _ (List.mem_of_getElem? (i := 192) rfl), good_of_word rfl⟩
theorem wd_1016 : wdG (Cond.instanceMethod yX9_toNavigation) := ⟨tin5 _ (List.mem_of_getElem? (i := 193) rfl), good_of_word rfl⟩
theorem wd_1017 : wdG (Cond.selects RX9 yX9_toNavigation yX9_toNavigation) := ⟨tin5 _ (List.mem_of_getElem? (i := 194) rfl), good_of_word rfl⟩
theorem wd_1018 : wdG (Cond.methodLink RL 142 yX8_toBody) := ⟨tin3 _ (List.mem_of_getElem? (i := 187) rfl), good_of_word rfl⟩
theorem wd_1019 : wdG (Cond.instanceMethod yX8_toBody) := ⟨tin3 _ (List.mem_of_getElem? (i := 188) rfl), good_of_word rfl⟩
theorem wd_1020 : wdG (Cond.selects RX8 yX8_toBody yX8_toBody) := ⟨tin3 _ (List.mem_of_getElem? (i := 189) rfl), good_of_word rfl⟩
theorem wd_1021 : wdG (Cond.methodLink RL 145 yX9_toBody) := ⟨tin5 _ (List.mem_of_getElem? (i := 199) rfl), good_of_word rfl⟩
theorem wd_1022 : wdG (Cond.instanceMethod yX9_toBody) := ⟨tin5 _ (List.mem_of_getElem? (i := 200) rfl), good_of_word rfl⟩
theorem wd_1023 : wdG (Cond.selects RX9 yX9_toBody yX9_toBody) := ⟨tin5 _ (List.mem_of_getElem? (i := 201) rfl), good_of_word rfl⟩
theorem wd_1024 : wdG (Cond.methodLink RL 146 yX8_visitedBins) := ⟨tin3 _ (List.mem_of_getElem? (i := 192) rfl), good_of_word rfl⟩
theorem wd_1025 : wdG (Cond.instanceMethod yX8_visitedBins) := ⟨tin3 _ (List.mem_of_getElem? (i := 193) rfl), good_of_word rfl⟩
theorem wd_1026 : wdG (Cond.selects RX8 yX8_visitedBins yX8_visitedBins) := ⟨tin3 _ (List.mem_of_getElem? (i := 194) rfl), good_of_word rfl⟩
theorem wd_1027 : wdG (Cond.methodLink RL 149 yX9_visitedBins) := ⟨tin5 _ (List.mem_of_getElem? (i := 203) rfl), good_of_word rfl⟩
theorem wd_1028 : wdG (Cond.instanceMethod yX9_visitedBins) := ⟨tin5 _ (List.mem_of_getElem? (i := 204) rfl), good_of_word rfl⟩
theorem wd_1029 : wdG (Cond.selects RX9 yX9_visitedBins yX9_visitedBins) := ⟨tin5 _ (List.mem_of_getElem? (i := 205) rfl), good_of_word rfl⟩
theorem wd_1030 : wdG (Cond.methodLink RL 150 yX8_store) := ⟨tin3 _ (List.mem_of_getElem? (i := 202) rfl), good_of_word rfl⟩
theorem wd_1031 : wdG (Cond.instanceMethod yX8_store) := ⟨tin3 _ (List.mem_of_getElem? (i := 203) rfl), good_of_word rfl⟩
theorem wd_1032 : wdG (Cond.selects RX8 yX8_store yX8_store) := ⟨tin3 _ (List.mem_of_getElem? (i := 204) rfl), good_of_word rfl⟩
theorem wd_1033 : wdG (Cond.methodLink RL 153 yX9_store) := ⟨tin5 _ (List.mem_of_getElem? (i := 207) rfl), good_of_word rfl⟩
theorem wd_1034 : wdG (Cond.instanceMethod yX9_store) := ⟨tin5 _ (List.mem_of_getElem? (i := 208) rfl), good_of_word rfl⟩
theorem wd_1035 : wdG (Cond.selects RX9 yX9_store yX9_store) := ⟨tin5 _ (List.mem_of_getElem? (i := 209) rfl), good_of_word rfl⟩
theorem wd_1036 : wdG (Cond.methodLink RL 154 yX8_recall) := ⟨tin3 _ (List.mem_of_getElem? (i := 215) rfl), good_of_word rfl⟩
theorem wd_1037 : wdG (Cond.instanceMethod yX8_recall) := ⟨tin3 _ (List.mem_of_getElem? (i := 216) rfl), good_of_word rfl⟩
theorem wd_1038 : wdG (Cond.selects RX8 yX8_recall yX8_recall) := ⟨tin3 _ (List.mem_of_getElem? (i := 217) rfl), good_of_word rfl⟩
theorem wd_1039 : wdG (Cond.methodLink RL 157 yX9_recall) := ⟨tin5 _ (List.mem_of_getElem? (i := 216) rfl), good_of_word rfl⟩
theorem wd_1040 : wdG (Cond.instanceMethod yX9_recall) := ⟨tin5 _ (List.mem_of_getElem? (i := 217) rfl), good_of_word rfl⟩
theorem wd_1041 : wdG (Cond.selects RX9 yX9_recall yX9_recall) := ⟨tin5 _ (List.mem_of_getElem? (i := 218) rfl), good_of_word rfl⟩
theorem wd_1042 : wdG (Cond.methodLink RL 158 yX8_forget) := ⟨tin3 _ (List.mem_of_getElem? (i := 229) rfl), good_of_word rfl⟩
theorem wd_1043 : wdG (Cond.instanceMethod yX8_forget) := ⟨tin3 _ (List.mem_of_getElem? (i := 230) rfl), good_of_word rfl⟩
theorem wd_1044 : wdG (Cond.selects RX8 yX8_forget yX8_forget) := ⟨tin3 _ (List.mem_of_getElem? (i := 231) rfl), good_of_word rfl⟩
theorem wd_1045 : wdG (Cond.methodLink RL 161 yX9_forget) := ⟨tin5 _ (List.mem_of_getElem? (i := 220) rfl), good_of_word rfl⟩
theorem wd_1046 : wdG (Cond.instanceMethod yX9_forget) := ⟨tin5 _ (List.mem_of_getElem? (i := 221) rfl), good_of_word rfl⟩
theorem wd_1047 : wdG (Cond.selects RX9 yX9_forget yX9_forget) := ⟨tin5 _ (List.mem_of_getElem? (i := 222) rfl), good_of_word rfl⟩
theorem wd_1048 : wdG (Cond.methodLink RL 162 yX8_angleTo) := ⟨tin3 _ (List.mem_of_getElem? (i := 237) rfl), good_of_word rfl⟩
theorem wd_1049 : wdG (Cond.instanceMethod yX8_angleTo) := ⟨tin3 _ (List.mem_of_getElem? (i := 238) rfl), good_of_word rfl⟩
theorem wd_1050 : wdG (Cond.selects RX8 yX8_angleTo yX8_angleTo) := ⟨tin3 _ (List.mem_of_getElem? (i := 239) rfl), good_of_word rfl⟩
theorem wd_1051 : wdG (Cond.methodLink RL 165 yX9_angleTo) := ⟨tin5 _ (List.mem_of_getElem? (i := 224) rfl), good_of_word rfl⟩
theorem wd_1052 : wdG (Cond.instanceMethod yX9_angleTo) := ⟨tin5 _ (List.mem_of_getElem? (i := 225) rfl), good_of_word rfl⟩
theorem wd_1053 : wdG (Cond.selects RX9 yX9_angleTo yX9_angleTo) := ⟨tin5 _ (List.mem_of_getElem? (i := 226) rfl), good_of_word rfl⟩
theorem wd_1054 : wdG (Cond.methodLink RL 166 yX8_storedNumber) := ⟨tin4 _ (List.mem_of_getElem? (i := 2) rfl), good_of_word rfl⟩
theorem wd_1055 : wdG (Cond.instanceMethod yX8_storedNumber) := ⟨tin4 _ (List.mem_of_getElem? (i := 3) rfl), good_of_word rfl⟩
theorem wd_1056 : wdG (Cond.selects RX8 yX8_storedNumber yX8_storedNumber) := ⟨tin4 _ (List.mem_of_getElem? (i := 4) rfl), good_of_word rfl⟩
theorem wd_1057 : wdG (Cond.methodLink RL 169 yX9_storedNumber) := ⟨tin5 _ (List.mem_of_getElem? (i := 229) rfl), good_of_word rfl⟩
theorem wd_1058 : wdG (Cond.instanceMethod yX9_storedNumber) := ⟨tin5 _ (List.mem_of_getElem? (i := 230) rfl), good_of_word rfl⟩
theorem wd_1059 : wdG (Cond.selects RX9 yX9_storedNumber yX9_storedNumber) := ⟨tin5 _ (List.mem_of_getElem? (i := 231) rfl), good_of_word rfl⟩
theorem wd_1060 : wdG (Cond.methodLink RL 170 yX8_reset) := ⟨tin4 _ (List.mem_of_getElem? (i := 10) rfl), good_of_word rfl⟩
theorem wd_1061 : wdG (Cond.instanceMethod yX8_reset) := ⟨tin4 _ (List.mem_of_getElem? (i := 11) rfl), good_of_word rfl⟩
theorem wd_1062 : wdG (Cond.selects RX8 yX8_reset yX8_reset) := ⟨tin4 _ (List.mem_of_getElem? (i := 12) rfl), good_of_word rfl⟩
theorem wd_1063 : wdG (Cond.methodLink RL 173 yX9_reset) := ⟨tin5 _ (List.mem_of_getElem? (i := 233) rfl), good_of_word rfl⟩
theorem wd_1064 : wdG (Cond.instanceMethod yX9_reset) := ⟨tin5 _ (List.mem_of_getElem? (i := 234) rfl), good_of_word rfl⟩
theorem wd_1065 : wdG (Cond.selects RX9 yX9_reset yX9_reset) := ⟨tin5 _ (List.mem_of_getElem? (i := 235) rfl), good_of_word rfl⟩
theorem wd_1066 : wdG (Cond.classLink RL 7 RX8) := ⟨tin1 _ (List.mem_of_getElem? (i := 15) rfl), good_of_word rfl⟩
theorem wd_1067 : wdG (Cond.instantiable RX8 14) := ⟨tin1 _ (List.mem_of_getElem? (i := 16) rfl), good_of_word rfl⟩
theorem wd_1068 : wdG (Cond.classLink RL 10 RX9) := ⟨tin4 _ (List.mem_of_getElem? (i := 42) rfl), good_of_word rfl⟩
theorem wd_1069 : wdG (Cond.instantiable RX9 43) := ⟨tin4 _ (List.mem_of_getElem? (i := 43) rfl), good_of_word rfl⟩
theorem gd_wsX8_init_r1 : GoodIn lw_tbl wsX8_init_r1 := (gdc wd_24 (gdc wd_23 (gdc wd_22 (gdc wd_21 (gdc wd_20 (gdc wd_19 (gdc wd_18 (gdc wd_17 (gdc wd_16 (gdc wd_15 (gdc wd_14 (gdc wd_13 (gdc wd_12 (gdc wd_11 (gdc wd_10 (gdc wd_9 (gdc wd_8 (gdc wd_7 (gdc wd_6 (gdc wd_5 (gdc wd_4 (gdc wd_3 (gdc wd_2 (gdc wd_1 gdn))))))))))))))))))))))))
theorem gd_wsX8_init_r2 : GoodIn lw_tbl wsX8_init_r2 := (gdc wd_48 (gdc wd_47 (gdc wd_46 (gdc wd_45 (gdc wd_44 (gdc wd_43 (gdc wd_42 (gdc wd_41 (gdc wd_40 (gdc wd_39 (gdc wd_38 (gdc wd_37 (gdc wd_36 (gdc wd_35 (gdc wd_34 (gdc wd_33 (gdc wd_32 (gdc wd_31 (gdc wd_30 (gdc wd_29 (gdc wd_28 (gdc wd_27 (gdc wd_26 (gdc wd_25 gdn))))))))))))))))))))))))
theorem gd_wsX8_init_r3 : GoodIn lw_tbl wsX8_init_r3 := (gdc wd_72 (gdc wd_71 (gdc wd_70 (gdc wd_69 (gdc wd_68 (gdc wd_67 (gdc wd_66 (gdc wd_65 (gdc wd_64 (gdc wd_63 (gdc wd_62 (gdc wd_61 (gdc wd_60 (gdc wd_59 (gdc wd_58 (gdc wd_57 (gdc wd_56 (gdc wd_55 (gdc wd_54 (gdc wd_53 (gdc wd_52 (gdc wd_51 (gdc wd_50 (gdc wd_49 gdn))))))))))))))))))))))))
theorem gd_wsX8_init_r4 : GoodIn lw_tbl wsX8_init_r4 := (gdc wd_96 (gdc wd_95 (gdc wd_94 (gdc wd_93 (gdc wd_92 (gdc wd_91 (gdc wd_90 (gdc wd_89 (gdc wd_88 (gdc wd_87 (gdc wd_86 (gdc wd_85 (gdc wd_84 (gdc wd_83 (gdc wd_82 (gdc wd_81 (gdc wd_80 (gdc wd_79 (gdc wd_78 (gdc wd_77 (gdc wd_76 (gdc wd_75 (gdc wd_74 (gdc wd_73 gdn))))))))))))))))))))))))
theorem gd_wsX8_init_r5 : GoodIn lw_tbl wsX8_init_r5 := (gdc wd_113 (gdc wd_112 (gdc wd_111 (gdc wd_110 (gdc wd_109 (gdc wd_108 (gdc wd_107 (gdc wd_106 (gdc wd_105 (gdc wd_104 (gdc wd_103 (gdc wd_102 (gdc wd_101 (gdc wd_100 (gdc wd_99 (gdc wd_98 (gdc wd_97 gdn)))))))))))))))))
theorem gd_wsX00 : GoodIn lw_tbl wsX00 := gdk (show wsX00 = [Cond.laysFinal "InertialReference$Attitude" "InertialReference$Attitude" "parts" "[J", Cond.laysFinal "InertialReference$Attitude" "InertialReference$Attitude" "step" "[J", Cond.laysFinal "InertialReference$Attitude" "InertialReference$Attitude" "inverse" "[J", Cond.laysFinal "InertialReference$Attitude" "InertialReference$Attitude" "product" "[J", Cond.laysFinal "InertialReference$Attitude" "InertialReference$Attitude" "matrix" "[[J"] from rfl) (gdc wd_118 (gdc wd_117 (gdc wd_116 (gdc wd_115 (gdc wd_114 gdn)))))
theorem gd_wsX80 : GoodIn lw_tbl wsX80 := gdk (show wsX80 = [Cond.laysFinal "InertialReference" "InertialReference" "trueAttitude" "LInertialReference$Attitude;", Cond.laysFinal "InertialReference" "InertialReference" "script" "LInertialReference$Script;", Cond.laysFinal "InertialReference" "InertialReference" "sensors" "LInertialReference$Sensors;", Cond.laysFinal "InertialReference" "InertialReference" "table" "LInertialReference$CompensationTable;", Cond.laysFinal "InertialReference" "InertialReference" "estimator" "LInertialReference$Estimator;", Cond.laysFinal "InertialReference" "InertialReference" "shelf" "LInertialReference$AttitudeShelf;", Cond.laysFinal "InertialReference" "InertialReference" "earthRate" "[J", Cond.laysFinal "InertialReference" "InertialReference" "rates" "[J", Cond.laysFinal "InertialReference" "InertialReference" "trueUp" "[J", Cond.laysFinal "InertialReference" "InertialReference" "estimatedUp" "[J", Cond.laysFinal "InertialReference" "InertialReference" "between" "[J", Cond.lays "InertialReference" "InertialReference" "now" "I", Cond.lays "InertialReference" "InertialReference" "visited" "I", Cond.lays "InertialReference" "InertialReference" "greatest" "J"] from rfl) (gdc wd_132 (gdc wd_131 (gdc wd_130 (gdc wd_129 (gdc wd_128 (gdc wd_127 (gdc wd_126 (gdc wd_125 (gdc wd_124 (gdc wd_123 (gdc wd_122 (gdc wd_121 (gdc wd_120 (gdc wd_119 gdn))))))))))))))
theorem gd_wsX60 : GoodIn lw_tbl wsX60 := gdk (show wsX60 = [Cond.laysFinal "InertialReference$Script" "InertialReference$Script" "ticks" "[I", Cond.laysFinal "InertialReference$Script" "InertialReference$Script" "x" "[I", Cond.laysFinal "InertialReference$Script" "InertialReference$Script" "y" "[I", Cond.laysFinal "InertialReference$Script" "InertialReference$Script" "z" "[I", Cond.lays "InertialReference$Script" "InertialReference$Script" "count" "I"] from rfl) (gdc wd_137 (gdc wd_136 (gdc wd_135 (gdc wd_134 (gdc wd_133 gdn)))))
theorem gd_wsX70 : GoodIn lw_tbl wsX70 := gdk (show wsX70 = [Cond.laysFinal "InertialReference$Sensors" "InertialReference$Sensors" "bias" "[I", Cond.laysFinal "InertialReference$Sensors" "InertialReference$Sensors" "scale" "[I", Cond.laysFinal "InertialReference$Sensors" "InertialReference$Sensors" "noise" "[I", Cond.laysFinal "InertialReference$Sensors" "InertialReference$Sensors" "slope" "[I", Cond.laysFinal "InertialReference$Sensors" "InertialReference$Sensors" "accelerometerBias" "[I", Cond.laysFinal "InertialReference$Sensors" "InertialReference$Sensors" "gyroReadings" "[J", Cond.laysFinal "InertialReference$Sensors" "InertialReference$Sensors" "accelerometerReadings" "[J", Cond.laysFinal "InertialReference$Sensors" "InertialReference$Sensors" "inBody" "[J", Cond.lays "InertialReference$Sensors" "InertialReference$Sensors" "temperature" "I", Cond.lays "InertialReference$Sensors" "InertialReference$Sensors" "seed" "I"] from rfl) (gdc wd_147 (gdc wd_146 (gdc wd_145 (gdc wd_144 (gdc wd_143 (gdc wd_142 (gdc wd_141 (gdc wd_140 (gdc wd_139 (gdc wd_138 gdn))))))))))
theorem gd_wsX30 : GoodIn lw_tbl wsX30 := gdk (show wsX30 = [Cond.laysFinal "InertialReference$CompensationTable" "InertialReference$CompensationTable" "values" "[I", Cond.laysFinal "InertialReference$CompensationTable" "InertialReference$CompensationTable" "known" "[Z", Cond.lays "InertialReference$CompensationTable" "InertialReference$CompensationTable" "size" "I"] from rfl) (gdc wd_150 (gdc wd_149 (gdc wd_148 gdn)))
theorem gd_wsX40 : GoodIn lw_tbl wsX40 := gdk (show wsX40 = [Cond.laysFinal "InertialReference$Estimator" "InertialReference$Estimator" "attitude" "LInertialReference$Attitude;", Cond.laysFinal "InertialReference$Estimator" "InertialReference$Estimator" "calibration" "LInertialReference$Calibration;", Cond.laysFinal "InertialReference$Estimator" "InertialReference$Estimator" "bias" "[J", Cond.laysFinal "InertialReference$Estimator" "InertialReference$Estimator" "filtered" "[J", Cond.laysFinal "InertialReference$Estimator" "InertialReference$Estimator" "latestTurn" "[J", Cond.laysFinal "InertialReference$Estimator" "InertialReference$Estimator" "corrected" "[J", Cond.laysFinal "InertialReference$Estimator" "InertialReference$Estimator" "turn" "[J", Cond.laysFinal "InertialReference$Estimator" "InertialReference$Estimator" "inBody" "[J", Cond.laysFinal "InertialReference$Estimator" "InertialReference$Estimator" "product" "[J", Cond.lays "InertialReference$Estimator" "InertialReference$Estimator" "method" "I", Cond.lays "InertialReference$Estimator" "InertialReference$Estimator" "levelling" "I", Cond.lays "InertialReference$Estimator" "InertialReference$Estimator" "heading" "I"] from rfl) (gdc wd_162 (gdc wd_161 (gdc wd_160 (gdc wd_159 (gdc wd_158 (gdc wd_157 (gdc wd_156 (gdc wd_155 (gdc wd_154 (gdc wd_153 (gdc wd_152 (gdc wd_151 gdn))))))))))))
theorem gd_wsX10 : GoodIn lw_tbl wsX10 := gdk (show wsX10 = [Cond.laysFinal "InertialReference$AttitudeShelf" "InertialReference$AttitudeShelf" "numbers" "[I", Cond.laysFinal "InertialReference$AttitudeShelf" "InertialReference$AttitudeShelf" "stored" "[J", Cond.laysFinal "InertialReference$AttitudeShelf" "InertialReference$AttitudeShelf" "picked" "[J", Cond.lays "InertialReference$AttitudeShelf" "InertialReference$AttitudeShelf" "count" "I"] from rfl) (gdc wd_166 (gdc wd_165 (gdc wd_164 (gdc wd_163 gdn))))
theorem gd_wsX20 : GoodIn lw_tbl wsX20 := gdk (show wsX20 = [Cond.laysFinal "InertialReference$Calibration" "InertialReference$Calibration" "sums" "[J", Cond.lays "InertialReference$Calibration" "InertialReference$Calibration" "ticks" "I", Cond.lays "InertialReference$Calibration" "InertialReference$Calibration" "ticksLeft" "I"] from rfl) (gdc wd_169 (gdc wd_168 (gdc wd_167 gdn)))
theorem gd_wsX8_init : GoodIn lw_tbl wsX8_init := (gdc wd_0 (goodIn_app (goodIn_app (goodIn_app (goodIn_app (goodIn_app (goodIn_app (goodIn_app (goodIn_app (goodIn_app gd_wsX8_init_r1 (goodIn_app gd_wsX8_init_r2 (goodIn_app gd_wsX8_init_r3 (goodIn_app gd_wsX8_init_r4 gd_wsX8_init_r5)))) gd_wsX00) gd_wsX80) gd_wsX60) gd_wsX70) gd_wsX30) gd_wsX40) gd_wsX10) gd_wsX20))
theorem gd_wsX9_init_r1 : GoodIn lw_tbl wsX9_init_r1 := (gdc wd_190 (gdc wd_23 (gdc wd_22 (gdc wd_45 (gdc wd_189 (gdc wd_188 (gdc wd_187 (gdc wd_186 (gdc wd_185 (gdc wd_184 (gdc wd_183 (gdc wd_182 (gdc wd_60 (gdc wd_181 (gdc wd_180 (gdc wd_179 (gdc wd_178 (gdc wd_177 (gdc wd_176 (gdc wd_175 (gdc wd_174 (gdc wd_173 (gdc wd_172 (gdc wd_171 gdn))))))))))))))))))))))))
theorem gd_wsX9_init_r2 : GoodIn lw_tbl wsX9_init_r2 := (gdc wd_213 (gdc wd_212 (gdc wd_211 (gdc wd_210 (gdc wd_209 (gdc wd_208 (gdc wd_86 (gdc wd_207 (gdc wd_206 (gdc wd_205 (gdc wd_204 (gdc wd_203 (gdc wd_202 (gdc wd_201 (gdc wd_200 (gdc wd_199 (gdc wd_198 (gdc wd_197 (gdc wd_196 (gdc wd_195 (gdc wd_194 (gdc wd_193 (gdc wd_192 (gdc wd_191 gdn))))))))))))))))))))))))
theorem gd_wsX9_init_r3 : GoodIn lw_tbl wsX9_init_r3 := (gdc wd_220 (gdc wd_219 (gdc wd_218 (gdc wd_217 (gdc wd_216 (gdc wd_215 (gdc wd_214 gdn)))))))
theorem gd_wsX90 : GoodIn lw_tbl wsX90 := gdk (show wsX90 = [Cond.laysFinal "InertialReferenceModel" "InertialReferenceModel" "truth" "[J", Cond.laysFinal "InertialReferenceModel" "InertialReferenceModel" "estimate" "[J", Cond.laysFinal "InertialReferenceModel" "InertialReferenceModel" "small" "[J", Cond.laysFinal "InertialReferenceModel" "InertialReferenceModel" "product" "[J", Cond.laysFinal "InertialReferenceModel" "InertialReferenceModel" "matrix" "[J", Cond.laysFinal "InertialReferenceModel" "InertialReferenceModel" "body" "[J", Cond.laysFinal "InertialReferenceModel" "InertialReferenceModel" "cross" "[J", Cond.laysFinal "InertialReferenceModel" "InertialReferenceModel" "other" "[J", Cond.laysFinal "InertialReferenceModel" "InertialReferenceModel" "bias" "[I", Cond.laysFinal "InertialReferenceModel" "InertialReferenceModel" "scale" "[I", Cond.laysFinal "InertialReferenceModel" "InertialReferenceModel" "noise" "[I", Cond.laysFinal "InertialReferenceModel" "InertialReferenceModel" "slope" "[I", Cond.laysFinal "InertialReferenceModel" "InertialReferenceModel" "lean" "[I", Cond.lays "InertialReferenceModel" "InertialReferenceModel" "earthNorth" "J", Cond.lays "InertialReferenceModel" "InertialReferenceModel" "earthDown" "J", Cond.lays "InertialReferenceModel" "InertialReferenceModel" "temperature" "I", Cond.lays "InertialReferenceModel" "InertialReferenceModel" "seed" "I", Cond.lays "InertialReferenceModel" "InertialReferenceModel" "time" "I", Cond.laysFinal "InertialReferenceModel" "InertialReferenceModel" "segmentTicks" "[I", Cond.laysFinal "InertialReferenceModel" "InertialReferenceModel" "segmentRate" "[I", Cond.lays "InertialReferenceModel" "InertialReferenceModel" "segments" "I", Cond.laysFinal "InertialReferenceModel" "InertialReferenceModel" "reading" "[J", Cond.laysFinal "InertialReferenceModel" "InertialReferenceModel" "force" "[J", Cond.laysFinal "InertialReferenceModel" "InertialReferenceModel" "rates" "[J", Cond.laysFinal "InertialReferenceModel" "InertialReferenceModel" "clean" "[J", Cond.laysFinal "InertialReferenceModel" "InertialReferenceModel" "turning" "[J", Cond.lays "InertialReferenceModel" "InertialReferenceModel" "method" "I", Cond.lays "InertialReferenceModel" "InertialReferenceModel" "levelling" "I", Cond.lays "InertialReferenceModel" "InertialReferenceModel" "heading" "I", Cond.lays "InertialReferenceModel" "InertialReferenceModel" "left" "I", Cond.lays "InertialReferenceModel" "InertialReferenceModel" "length" "I", Cond.laysFinal "InertialReferenceModel" "InertialReferenceModel" "guess" "[J", Cond.laysFinal "InertialReferenceModel" "InertialReferenceModel" "sum" "[J", Cond.laysFinal "InertialReferenceModel" "InertialReferenceModel" "filtered" "[J", Cond.laysFinal "InertialReferenceModel" "InertialReferenceModel" "latest" "[J", Cond.laysFinal "InertialReferenceModel" "InertialReferenceModel" "compensations" "[I", Cond.laysFinal "InertialReferenceModel" "InertialReferenceModel" "isCompensated" "[Z", Cond.laysFinal "InertialReferenceModel" "InertialReferenceModel" "isVisited" "[Z", Cond.lays "InertialReferenceModel" "InertialReferenceModel" "greatest" "J", Cond.laysFinal "InertialReferenceModel" "InertialReferenceModel" "storedNumber" "[I", Cond.laysFinal "InertialReferenceModel" "InertialReferenceModel" "storedPart" "[J", Cond.lays "InertialReferenceModel" "InertialReferenceModel" "stored" "I", Cond.laysFinal "InertialReferenceModel" "InertialReferenceModel" "there" "[J"] from rfl) (gdc wd_263 (gdc wd_262 (gdc wd_261 (gdc wd_260 (gdc wd_259 (gdc wd_258 (gdc wd_257 (gdc wd_256 (gdc wd_255 (gdc wd_254 (gdc wd_253 (gdc wd_252 (gdc wd_251 (gdc wd_250 (gdc wd_249 (gdc wd_248 (gdc wd_247 (gdc wd_246 (gdc wd_245 (gdc wd_244 (gdc wd_243 (gdc wd_242 (gdc wd_241 (gdc wd_240 (gdc wd_239 (gdc wd_238 (gdc wd_237 (gdc wd_236 (gdc wd_235 (gdc wd_234 (gdc wd_233 (gdc wd_232 (gdc wd_231 (gdc wd_230 (gdc wd_229 (gdc wd_228 (gdc wd_227 (gdc wd_226 (gdc wd_225 (gdc wd_224 (gdc wd_223 (gdc wd_222 (gdc wd_221 gdn)))))))))))))))))))))))))))))))))))))))))))
theorem gd_wsX9_init : GoodIn lw_tbl wsX9_init := (gdc wd_170 (goodIn_app (goodIn_app gd_wsX9_init_r1 (goodIn_app gd_wsX9_init_r2 gd_wsX9_init_r3)) gd_wsX90))
theorem gd_wsX8_setGyro : GoodIn lw_tbl wsX8_setGyro := (gdc wd_264 (goodIn_app (goodIn_app (gdc wd_282 (gdc wd_281 (gdc wd_280 (gdc wd_10 (gdc wd_279 (gdc wd_278 (gdc wd_277 (gdc wd_276 (gdc wd_275 (gdc wd_274 (gdc wd_273 (gdc wd_272 (gdc wd_271 (gdc wd_270 (gdc wd_269 (gdc wd_268 (gdc wd_267 (gdc wd_11 (gdc wd_266 (gdc wd_51 (gdc wd_50 (gdc wd_49 (gdc wd_96 (gdc wd_265 gdn)))))))))))))))))))))))) gd_wsX80) gd_wsX70))
theorem gd_wsX9_setGyro : GoodIn lw_tbl wsX9_setGyro := (gdc wd_283 (goodIn_app (gdc wd_296 (gdc wd_295 (gdc wd_294 (gdc wd_293 (gdc wd_292 (gdc wd_291 (gdc wd_181 (gdc wd_180 (gdc wd_179 (gdc wd_178 (gdc wd_290 (gdc wd_289 (gdc wd_199 (gdc wd_288 (gdc wd_287 (gdc wd_286 (gdc wd_285 (gdc wd_284 gdn)))))))))))))))))) gd_wsX90))
theorem gd_wsX8_setAccelerometer : GoodIn lw_tbl wsX8_setAccelerometer := (gdc wd_297 (goodIn_app (goodIn_app (gdc wd_302 (gdc wd_10 (gdc wd_279 (gdc wd_278 (gdc wd_277 (gdc wd_276 (gdc wd_275 (gdc wd_274 (gdc wd_273 (gdc wd_301 (gdc wd_300 (gdc wd_299 (gdc wd_11 (gdc wd_298 (gdc wd_95 (gdc wd_265 gdn)))))))))))))))) gd_wsX80) gd_wsX70))
theorem gd_wsX9_setAccelerometer : GoodIn lw_tbl wsX9_setAccelerometer := (gdc wd_303 (goodIn_app (gdc wd_305 (gdc wd_304 (gdc wd_177 (gdc wd_290 (gdc wd_289 (gdc wd_199 (gdc wd_288 (gdc wd_287 (gdc wd_286 (gdc wd_285 (gdc wd_284 gdn))))))))))) gd_wsX90))
theorem gd_wsX8_setEarthRate : GoodIn lw_tbl wsX8_setEarthRate := (gdc wd_306 (goodIn_app (gdc wd_307 (gdc wd_44 (gdc wd_275 (gdc wd_274 (gdc wd_277 (gdc wd_273 gdn)))))) gd_wsX80))
theorem gd_wsX9_setEarthRate : GoodIn lw_tbl wsX9_setEarthRate := (gdc wd_308 (goodIn_app (gdc wd_310 (gdc wd_309 (gdc wd_196 (gdc wd_195 (gdc wd_286 (gdc wd_285 (gdc wd_199 (gdc wd_284 gdn)))))))) gd_wsX90))
theorem gd_wsX8_setTemperature : GoodIn lw_tbl wsX8_setTemperature := (gdc wd_311 (goodIn_app (goodIn_app (gdc wd_10 (gdc wd_272 (gdc wd_271 (gdc wd_277 (gdc wd_270 (gdc wd_315 (gdc wd_314 (gdc wd_313 (gdc wd_11 (gdc wd_312 (gdc wd_91 gdn))))))))))) gd_wsX80) gd_wsX70))
theorem gd_wsX9_setTemperature : GoodIn lw_tbl wsX9_setTemperature := (gdc wd_316 (goodIn_app (gdc wd_318 (gdc wd_317 (gdc wd_194 (gdc wd_286 (gdc wd_285 (gdc wd_199 (gdc wd_284 gdn))))))) gd_wsX90))
theorem gd_wsX8_setSeed : GoodIn lw_tbl wsX8_setSeed := (gdc wd_319 (goodIn_app (goodIn_app (gdc wd_10 (gdc wd_324 (gdc wd_323 (gdc wd_322 (gdc wd_11 (gdc wd_321 (gdc wd_320 gdn))))))) gd_wsX80) gd_wsX70))
theorem gd_wsX9_setSeed : GoodIn lw_tbl wsX9_setSeed := (gdc wd_325 (goodIn_app (gdc wd_193 gdn) gd_wsX90))
theorem gd_wsX8_addSegment : GoodIn lw_tbl wsX8_addSegment := (gdc wd_326 (goodIn_app (goodIn_app (gdc wd_14 (gdc wd_272 (gdc wd_271 (gdc wd_277 (gdc wd_270 (gdc wd_336 (gdc wd_335 (gdc wd_334 (gdc wd_333 (gdc wd_332 (gdc wd_275 (gdc wd_274 (gdc wd_273 (gdc wd_331 (gdc wd_330 (gdc wd_329 (gdc wd_15 (gdc wd_328 (gdc wd_327 (gdc wd_59 (gdc wd_58 (gdc wd_57 (gdc wd_56 gdn))))))))))))))))))))))) gd_wsX80) gd_wsX60))
theorem gd_wsX9_addSegment : GoodIn lw_tbl wsX9_addSegment := (gdc wd_337 (goodIn_app (gdc wd_291 (gdc wd_191 (gdc wd_176 (gdc wd_175 (gdc wd_286 (gdc wd_285 (gdc wd_199 (gdc wd_284 (gdc wd_342 (gdc wd_341 (gdc wd_340 (gdc wd_339 (gdc wd_338 gdn))))))))))))) gd_wsX90))
theorem gd_wsX8_clearScript : GoodIn lw_tbl wsX8_clearScript := (gdc wd_343 (goodIn_app (goodIn_app (gdc wd_14 (gdc wd_347 (gdc wd_346 (gdc wd_345 (gdc wd_15 (gdc wd_344 (gdc wd_327 gdn))))))) gd_wsX80) gd_wsX60))
theorem gd_wsX9_clearScript : GoodIn lw_tbl wsX9_clearScript := (gdc wd_348 (goodIn_app (gdc wd_191 gdn) gd_wsX90))
theorem gd_wsX8_scriptTicks : GoodIn lw_tbl wsX8_scriptTicks := (gdc wd_349 (goodIn_app (goodIn_app (gdc wd_14 (gdc wd_353 (gdc wd_352 (gdc wd_351 (gdc wd_15 (gdc wd_350 (gdc wd_327 (gdc wd_59 gdn)))))))) gd_wsX80) gd_wsX60))
theorem gd_wsX9_scriptTicks : GoodIn lw_tbl wsX9_scriptTicks := (gdc wd_354 (goodIn_app (gdc wd_191 (gdc wd_176 gdn)) gd_wsX90))
theorem gd_wsX8_turnTruth_r1 : GoodIn lw_tbl wsX8_turnTruth_r1 := (gdc wd_18 (gdc wd_336 (gdc wd_335 (gdc wd_334 (gdc wd_333 (gdc wd_332 (gdc wd_275 (gdc wd_274 (gdc wd_277 (gdc wd_273 (gdc wd_367 (gdc wd_366 (gdc wd_365 (gdc wd_19 (gdc wd_364 (gdc wd_25 (gdc wd_363 (gdc wd_362 (gdc wd_361 (gdc wd_360 (gdc wd_359 (gdc wd_358 (gdc wd_357 (gdc wd_356 gdn))))))))))))))))))))))))
theorem gd_wsX8_turnTruth_r2 : GoodIn lw_tbl wsX8_turnTruth_r2 := (gdc wd_375 (gdc wd_34 (gdc wd_35 (gdc wd_32 (gdc wd_374 (gdc wd_373 (gdc wd_372 (gdc wd_371 (gdc wd_370 (gdc wd_369 (gdc wd_368 (gdc wd_68 (gdc wd_67 (gdc wd_66 (gdc wd_65 (gdc wd_30 (gdc wd_64 gdn)))))))))))))))))
theorem gd_wsX8_turnTruth : GoodIn lw_tbl wsX8_turnTruth := (gdc wd_355 (goodIn_app (goodIn_app (goodIn_app gd_wsX8_turnTruth_r1 gd_wsX8_turnTruth_r2) gd_wsX80) gd_wsX00))
theorem gd_wsX9_turnTruth_r1 : GoodIn lw_tbl wsX9_turnTruth_r1 := (gdc wd_189 (gdc wd_342 (gdc wd_341 (gdc wd_199 (gdc wd_340 (gdc wd_339 (gdc wd_338 (gdc wd_286 (gdc wd_285 (gdc wd_284 (gdc wd_387 (gdc wd_386 (gdc wd_385 (gdc wd_384 (gdc wd_197 (gdc wd_383 (gdc wd_187 (gdc wd_186 (gdc wd_382 (gdc wd_381 (gdc wd_380 (gdc wd_379 (gdc wd_378 (gdc wd_377 gdn))))))))))))))))))))))))
theorem gd_wsX9_turnTruth_r2 : GoodIn lw_tbl wsX9_turnTruth_r2 := (gdc wd_388 gdn)
theorem gd_wsX9_turnTruth : GoodIn lw_tbl wsX9_turnTruth := (gdc wd_376 (goodIn_app (goodIn_app gd_wsX9_turnTruth_r1 gd_wsX9_turnTruth_r2) gd_wsX90))
theorem gd_wsX8_run_r1 : GoodIn lw_tbl wsX8_run_r1 := (gdc wd_401 (gdc wd_400 (gdc wd_272 (gdc wd_271 (gdc wd_277 (gdc wd_270 (gdc wd_399 (gdc wd_398 (gdc wd_397 (gdc wd_334 (gdc wd_396 (gdc wd_14 (gdc wd_43 (gdc wd_10 (gdc wd_44 (gdc wd_18 (gdc wd_2 (gdc wd_6 (gdc wd_395 (gdc wd_394 (gdc wd_393 (gdc wd_392 (gdc wd_391 (gdc wd_390 gdn))))))))))))))))))))))))
theorem gd_wsX8_run_r2 : GoodIn lw_tbl wsX8_run_r2 := (gdc wd_416 (gdc wd_415 (gdc wd_414 (gdc wd_15 (gdc wd_413 (gdc wd_327 (gdc wd_58 (gdc wd_57 (gdc wd_56 (gdc wd_59 (gdc wd_412 (gdc wd_71 (gdc wd_70 (gdc wd_69 (gdc wd_411 (gdc wd_410 (gdc wd_409 (gdc wd_408 (gdc wd_407 (gdc wd_406 (gdc wd_405 (gdc wd_404 (gdc wd_403 (gdc wd_402 gdn))))))))))))))))))))))))
theorem gd_wsX8_run_r3 : GoodIn lw_tbl wsX8_run_r3 := (gdc wd_428 (gdc wd_11 (gdc wd_427 (gdc wd_92 (gdc wd_94 (gdc wd_50 (gdc wd_426 (gdc wd_51 (gdc wd_96 (gdc wd_91 (gdc wd_49 (gdc wd_425 (gdc wd_424 (gdc wd_423 (gdc wd_19 (gdc wd_422 (gdc wd_421 (gdc wd_420 (gdc wd_419 (gdc wd_418 (gdc wd_30 (gdc wd_417 (gdc wd_278 (gdc wd_276 gdn))))))))))))))))))))))))
theorem gd_wsX8_run_r4 : GoodIn lw_tbl wsX8_run_r4 := (gdc wd_437 (gdc wd_361 (gdc wd_360 (gdc wd_359 (gdc wd_436 (gdc wd_435 (gdc wd_434 (gdc wd_433 (gdc wd_432 (gdc wd_431 (gdc wd_430 (gdc wd_320 (gdc wd_429 (gdc wd_367 (gdc wd_366 (gdc wd_365 (gdc wd_364 (gdc wd_25 (gdc wd_363 (gdc wd_362 (gdc wd_358 (gdc wd_357 (gdc wd_356 (gdc wd_375 gdn))))))))))))))))))))))))
theorem gd_wsX8_run_r5 : GoodIn lw_tbl wsX8_run_r5 := (gdc wd_34 (gdc wd_35 (gdc wd_32 (gdc wd_374 (gdc wd_373 (gdc wd_372 (gdc wd_371 (gdc wd_370 (gdc wd_369 (gdc wd_368 (gdc wd_68 (gdc wd_67 (gdc wd_66 (gdc wd_65 (gdc wd_64 (gdc wd_444 (gdc wd_443 (gdc wd_442 (gdc wd_441 (gdc wd_93 (gdc wd_95 (gdc wd_440 (gdc wd_439 (gdc wd_438 gdn))))))))))))))))))))))))
theorem gd_wsX8_run_r6 : GoodIn lw_tbl wsX8_run_r6 := (gdc wd_3 (gdc wd_462 (gdc wd_461 (gdc wd_460 (gdc wd_459 (gdc wd_458 (gdc wd_75 (gdc wd_112 (gdc wd_74 (gdc wd_457 (gdc wd_456 (gdc wd_455 (gdc wd_454 (gdc wd_453 (gdc wd_452 (gdc wd_451 (gdc wd_7 (gdc wd_450 (gdc wd_87 (gdc wd_449 (gdc wd_448 (gdc wd_447 (gdc wd_446 (gdc wd_445 gdn))))))))))))))))))))))))
theorem gd_wsX8_run_r7 : GoodIn lw_tbl wsX8_run_r7 := (gdc wd_481 (gdc wd_480 (gdc wd_479 (gdc wd_478 (gdc wd_477 (gdc wd_476 (gdc wd_475 (gdc wd_474 (gdc wd_76 (gdc wd_473 (gdc wd_103 (gdc wd_472 (gdc wd_471 (gdc wd_470 (gdc wd_469 (gdc wd_468 (gdc wd_467 (gdc wd_466 (gdc wd_465 (gdc wd_464 (gdc wd_463 (gdc wd_79 (gdc wd_110 (gdc wd_111 gdn))))))))))))))))))))))))
theorem gd_wsX8_run_r8 : GoodIn lw_tbl wsX8_run_r8 := (gdc wd_108 (gdc wd_113 (gdc wd_109 (gdc wd_502 (gdc wd_501 (gdc wd_500 (gdc wd_499 (gdc wd_498 (gdc wd_497 (gdc wd_496 (gdc wd_495 (gdc wd_494 (gdc wd_493 (gdc wd_492 (gdc wd_491 (gdc wd_490 (gdc wd_489 (gdc wd_488 (gdc wd_487 (gdc wd_486 (gdc wd_485 (gdc wd_484 (gdc wd_483 (gdc wd_482 gdn))))))))))))))))))))))))
theorem gd_wsX8_run_r9 : GoodIn lw_tbl wsX8_run_r9 := (gdc wd_523 (gdc wd_522 (gdc wd_521 (gdc wd_520 (gdc wd_73 (gdc wd_519 (gdc wd_518 (gdc wd_517 (gdc wd_516 (gdc wd_515 (gdc wd_514 (gdc wd_274 (gdc wd_273 (gdc wd_513 (gdc wd_512 (gdc wd_511 (gdc wd_510 (gdc wd_509 (gdc wd_508 (gdc wd_507 (gdc wd_506 (gdc wd_505 (gdc wd_504 (gdc wd_503 gdn))))))))))))))))))))))))
theorem gd_wsX8_run_r10 : GoodIn lw_tbl wsX8_run_r10 := (gdc wd_547 (gdc wd_546 (gdc wd_545 (gdc wd_544 (gdc wd_543 (gdc wd_542 (gdc wd_541 (gdc wd_540 (gdc wd_539 (gdc wd_538 (gdc wd_537 (gdc wd_536 (gdc wd_535 (gdc wd_534 (gdc wd_533 (gdc wd_532 (gdc wd_531 (gdc wd_530 (gdc wd_529 (gdc wd_528 (gdc wd_527 (gdc wd_526 (gdc wd_525 (gdc wd_524 gdn))))))))))))))))))))))))
theorem gd_wsX8_run_r11 : GoodIn lw_tbl wsX8_run_r11 := (gdc wd_554 (gdc wd_33 (gdc wd_553 (gdc wd_552 (gdc wd_551 (gdc wd_550 (gdc wd_549 (gdc wd_548 gdn))))))))
theorem gd_wsX8_run : GoodIn lw_tbl wsX8_run := (gdc wd_389 (goodIn_app (goodIn_app (goodIn_app (goodIn_app (goodIn_app (goodIn_app (goodIn_app (goodIn_app gd_wsX8_run_r1 (goodIn_app gd_wsX8_run_r2 (goodIn_app gd_wsX8_run_r3 (goodIn_app gd_wsX8_run_r4 (goodIn_app gd_wsX8_run_r5 (goodIn_app gd_wsX8_run_r6 (goodIn_app gd_wsX8_run_r7 (goodIn_app gd_wsX8_run_r8 (goodIn_app gd_wsX8_run_r9 (goodIn_app gd_wsX8_run_r10 gd_wsX8_run_r11)))))))))) gd_wsX80) gd_wsX60) gd_wsX70) gd_wsX00) gd_wsX40) gd_wsX30) gd_wsX20))
theorem gd_wsX9_run_r1 : GoodIn lw_tbl wsX9_run_r1 := (gdc wd_563 (gdc wd_192 (gdc wd_562 (gdc wd_286 (gdc wd_285 (gdc wd_199 (gdc wd_284 (gdc wd_561 (gdc wd_560 (gdc wd_559 (gdc wd_558 (gdc wd_172 (gdc wd_191 (gdc wd_175 (gdc wd_176 (gdc wd_219 (gdc wd_218 (gdc wd_217 (gdc wd_206 (gdc wd_189 (gdc wd_188 (gdc wd_215 (gdc wd_557 (gdc wd_556 gdn))))))))))))))))))))))))
theorem gd_wsX9_run_r2 : GoodIn lw_tbl wsX9_run_r2 := (gdc wd_576 (gdc wd_575 (gdc wd_574 (gdc wd_573 (gdc wd_572 (gdc wd_571 (gdc wd_184 (gdc wd_179 (gdc wd_174 (gdc wd_180 (gdc wd_570 (gdc wd_181 (gdc wd_178 (gdc wd_194 (gdc wd_569 (gdc wd_173 (gdc wd_177 (gdc wd_568 (gdc wd_567 (gdc wd_566 (gdc wd_565 (gdc wd_196 (gdc wd_195 (gdc wd_564 gdn))))))))))))))))))))))))
theorem gd_wsX9_run_r3 : GoodIn lw_tbl wsX9_run_r3 := (gdc wd_588 (gdc wd_587 (gdc wd_586 (gdc wd_185 (gdc wd_585 (gdc wd_584 (gdc wd_583 (gdc wd_582 (gdc wd_197 (gdc wd_287 (gdc wd_581 (gdc wd_580 (gdc wd_579 (gdc wd_578 (gdc wd_193 (gdc wd_577 (gdc wd_382 (gdc wd_381 (gdc wd_380 (gdc wd_387 (gdc wd_386 (gdc wd_385 (gdc wd_384 (gdc wd_383 gdn))))))))))))))))))))))))
theorem gd_wsX9_run_r4 : GoodIn lw_tbl wsX9_run_r4 := (gdc wd_187 (gdc wd_186 (gdc wd_379 (gdc wd_378 (gdc wd_377 (gdc wd_388 (gdc wd_599 (gdc wd_598 (gdc wd_597 (gdc wd_596 (gdc wd_595 (gdc wd_594 (gdc wd_593 (gdc wd_592 (gdc wd_591 (gdc wd_211 (gdc wd_171 (gdc wd_212 (gdc wd_213 (gdc wd_183 (gdc wd_220 (gdc wd_209 (gdc wd_590 (gdc wd_589 gdn))))))))))))))))))))))))
theorem gd_wsX9_run_r5 : GoodIn lw_tbl wsX9_run_r5 := (gdc wd_620 (gdc wd_619 (gdc wd_618 (gdc wd_617 (gdc wd_616 (gdc wd_615 (gdc wd_614 (gdc wd_207 (gdc wd_208 (gdc wd_613 (gdc wd_612 (gdc wd_611 (gdc wd_610 (gdc wd_609 (gdc wd_608 (gdc wd_607 (gdc wd_606 (gdc wd_605 (gdc wd_604 (gdc wd_603 (gdc wd_602 (gdc wd_601 (gdc wd_600 (gdc wd_210 gdn))))))))))))))))))))))))
theorem gd_wsX9_run_r6 : GoodIn lw_tbl wsX9_run_r6 := (gdc wd_636 (gdc wd_635 (gdc wd_634 (gdc wd_633 (gdc wd_632 (gdc wd_631 (gdc wd_630 (gdc wd_629 (gdc wd_216 (gdc wd_628 (gdc wd_627 (gdc wd_626 (gdc wd_625 (gdc wd_182 (gdc wd_624 (gdc wd_623 (gdc wd_622 (gdc wd_621 gdn))))))))))))))))))
theorem gd_wsX9_run : GoodIn lw_tbl wsX9_run := (gdc wd_555 (goodIn_app (goodIn_app gd_wsX9_run_r1 (goodIn_app gd_wsX9_run_r2 (goodIn_app gd_wsX9_run_r3 (goodIn_app gd_wsX9_run_r4 (goodIn_app gd_wsX9_run_r5 gd_wsX9_run_r6))))) gd_wsX90))
theorem gd_wsX8_time : GoodIn lw_tbl wsX8_time := (gdc wd_637 (goodIn_app (gdc wd_401 gdn) gd_wsX80))
theorem gd_wsX9_time : GoodIn lw_tbl wsX9_time := (gdc wd_638 (goodIn_app (gdc wd_192 gdn) gd_wsX90))
theorem gd_wsX8_gyro : GoodIn lw_tbl wsX8_gyro := (gdc wd_639 (goodIn_app (goodIn_app (gdc wd_10 (gdc wd_642 (gdc wd_641 (gdc wd_277 (gdc wd_640 gdn))))) gd_wsX80) gd_wsX70))
theorem gd_wsX9_gyro : GoodIn lw_tbl wsX9_gyro := (gdc wd_643 (goodIn_app (gdc wd_174 (gdc wd_290 (gdc wd_289 (gdc wd_199 (gdc wd_288 (gdc wd_287 (gdc wd_286 (gdc wd_285 (gdc wd_284 gdn))))))))) gd_wsX90))
theorem gd_wsX8_accelerometer : GoodIn lw_tbl wsX8_accelerometer := (gdc wd_644 (goodIn_app (goodIn_app (gdc wd_10 (gdc wd_642 (gdc wd_641 (gdc wd_277 (gdc wd_640 gdn))))) gd_wsX80) gd_wsX70))
theorem gd_wsX9_accelerometer : GoodIn lw_tbl wsX9_accelerometer := (gdc wd_645 (goodIn_app (gdc wd_173 (gdc wd_290 (gdc wd_289 (gdc wd_199 (gdc wd_288 (gdc wd_287 (gdc wd_286 (gdc wd_285 (gdc wd_284 gdn))))))))) gd_wsX90))
theorem gd_wsX8_setMethod : GoodIn lw_tbl wsX8_setMethod := (gdc wd_646 (goodIn_app (goodIn_app (gdc wd_2 (gdc wd_272 (gdc wd_271 (gdc wd_277 (gdc wd_270 (gdc wd_650 (gdc wd_649 (gdc wd_648 (gdc wd_3 (gdc wd_647 (gdc wd_108 gdn))))))))))) gd_wsX80) gd_wsX40))
theorem gd_wsX9_setMethod : GoodIn lw_tbl wsX9_setMethod := (gdc wd_651 (goodIn_app (gdc wd_287 (gdc wd_220 (gdc wd_286 (gdc wd_285 (gdc wd_199 (gdc wd_284 gdn)))))) gd_wsX90))
theorem gd_wsX8_setLevelling : GoodIn lw_tbl wsX8_setLevelling := (gdc wd_652 (goodIn_app (goodIn_app (gdc wd_2 (gdc wd_272 (gdc wd_271 (gdc wd_277 (gdc wd_270 (gdc wd_656 (gdc wd_655 (gdc wd_654 (gdc wd_3 (gdc wd_653 (gdc wd_483 gdn))))))))))) gd_wsX80) gd_wsX40))
theorem gd_wsX9_setLevelling : GoodIn lw_tbl wsX9_setLevelling := (gdc wd_657 (goodIn_app (gdc wd_658 (gdc wd_219 (gdc wd_286 (gdc wd_285 (gdc wd_199 (gdc wd_284 gdn)))))) gd_wsX90))
theorem gd_wsX8_setHeading : GoodIn lw_tbl wsX8_setHeading := (gdc wd_659 (goodIn_app (goodIn_app (gdc wd_2 (gdc wd_272 (gdc wd_271 (gdc wd_277 (gdc wd_270 (gdc wd_664 (gdc wd_663 (gdc wd_662 (gdc wd_3 (gdc wd_661 (gdc wd_520 (gdc wd_73 (gdc wd_660 (gdc wd_71 (gdc wd_70 (gdc wd_69 gdn)))))))))))))))) gd_wsX80) gd_wsX40))
theorem gd_wsX9_setHeading : GoodIn lw_tbl wsX9_setHeading := (gdc wd_665 (goodIn_app (gdc wd_658 (gdc wd_218 (gdc wd_210 (gdc wd_286 (gdc wd_285 (gdc wd_199 (gdc wd_284 gdn))))))) gd_wsX90))
theorem gd_wsX8_startCalibration : GoodIn lw_tbl wsX8_startCalibration := (gdc wd_666 (goodIn_app (goodIn_app (goodIn_app (gdc wd_2 (gdc wd_272 (gdc wd_271 (gdc wd_277 (gdc wd_270 (gdc wd_672 (gdc wd_471 (gdc wd_470 (gdc wd_76 (gdc wd_469 (gdc wd_468 (gdc wd_671 (gdc wd_670 (gdc wd_669 (gdc wd_668 (gdc wd_103 (gdc wd_534 (gdc wd_667 (gdc wd_71 (gdc wd_70 (gdc wd_69 gdn))))))))))))))))))))) gd_wsX80) gd_wsX40) gd_wsX20))
theorem gd_wsX9_startCalibration : GoodIn lw_tbl wsX9_startCalibration := (gdc wd_673 (goodIn_app (gdc wd_291 (gdc wd_217 (gdc wd_216 (gdc wd_211 (gdc wd_286 (gdc wd_285 (gdc wd_199 (gdc wd_284 gdn)))))))) gd_wsX90))
theorem gd_wsX8_calibrationLeft : GoodIn lw_tbl wsX8_calibrationLeft := (gdc wd_674 (goodIn_app (goodIn_app (goodIn_app (gdc wd_2 gdn) gd_wsX80) gd_wsX40) gd_wsX20))
theorem gd_wsX9_calibrationLeft : GoodIn lw_tbl wsX9_calibrationLeft := (gdc wd_675 (goodIn_app (gdc wd_217 gdn) gd_wsX90))
theorem gd_wsX8_biasEstimate : GoodIn lw_tbl wsX8_biasEstimate := (gdc wd_676 (goodIn_app (goodIn_app (gdc wd_2 (gdc wd_642 (gdc wd_641 (gdc wd_277 (gdc wd_640 gdn))))) gd_wsX80) gd_wsX40))
theorem gd_wsX9_biasEstimate : GoodIn lw_tbl wsX9_biasEstimate := (gdc wd_677 (goodIn_app (gdc wd_212 (gdc wd_290 (gdc wd_289 (gdc wd_199 (gdc wd_288 (gdc wd_287 (gdc wd_286 (gdc wd_285 (gdc wd_284 gdn))))))))) gd_wsX90))
theorem gd_wsX8_setCompensation_r1 : GoodIn lw_tbl wsX8_setCompensation_r1 := (gdc wd_685 (gdc wd_6 (gdc wd_279 (gdc wd_278 (gdc wd_277 (gdc wd_276 (gdc wd_684 (gdc wd_481 (gdc wd_7 (gdc wd_480 (gdc wd_275 (gdc wd_274 (gdc wd_273 (gdc wd_683 (gdc wd_682 (gdc wd_681 (gdc wd_680 (gdc wd_87 (gdc wd_85 (gdc wd_679 (gdc wd_449 (gdc wd_448 (gdc wd_447 (gdc wd_446 gdn))))))))))))))))))))))))
theorem gd_wsX8_setCompensation_r2 : GoodIn lw_tbl wsX8_setCompensation_r2 := (gdc wd_445 (gdc wd_479 (gdc wd_478 (gdc wd_477 gdn))))
theorem gd_wsX8_setCompensation : GoodIn lw_tbl wsX8_setCompensation := (gdc wd_678 (goodIn_app (goodIn_app (goodIn_app gd_wsX8_setCompensation_r1 gd_wsX8_setCompensation_r2) gd_wsX80) gd_wsX30))
theorem gd_wsX9_setCompensation_r1 : GoodIn lw_tbl wsX9_setCompensation_r1 := (gdc wd_699 (gdc wd_570 (gdc wd_290 (gdc wd_289 (gdc wd_199 (gdc wd_288 (gdc wd_287 (gdc wd_286 (gdc wd_285 (gdc wd_284 (gdc wd_698 (gdc wd_697 (gdc wd_696 (gdc wd_695 (gdc wd_694 (gdc wd_693 (gdc wd_692 (gdc wd_691 (gdc wd_690 (gdc wd_207 (gdc wd_208 (gdc wd_689 (gdc wd_688 (gdc wd_687 gdn))))))))))))))))))))))))
theorem gd_wsX9_setCompensation_r2 : GoodIn lw_tbl wsX9_setCompensation_r2 := (gdc wd_700 gdn)
theorem gd_wsX9_setCompensation : GoodIn lw_tbl wsX9_setCompensation := (gdc wd_686 (goodIn_app (goodIn_app gd_wsX9_setCompensation_r1 gd_wsX9_setCompensation_r2) gd_wsX90))
theorem gd_wsX8_learnCompensation_r1 : GoodIn lw_tbl wsX8_learnCompensation_r1 := (gdc wd_2 (gdc wd_6 (gdc wd_10 (gdc wd_672 (gdc wd_471 (gdc wd_470 (gdc wd_76 (gdc wd_469 (gdc wd_468 (gdc wd_532 (gdc wd_456 (gdc wd_455 (gdc wd_11 (gdc wd_454 (gdc wd_91 (gdc wd_436 (gdc wd_435 (gdc wd_360 (gdc wd_434 (gdc wd_705 (gdc wd_704 (gdc wd_703 (gdc wd_7 (gdc wd_702 gdn))))))))))))))))))))))))
theorem gd_wsX8_learnCompensation_r2 : GoodIn lw_tbl wsX8_learnCompensation_r2 := (gdc wd_708 (gdc wd_707 (gdc wd_452 (gdc wd_451 (gdc wd_450 (gdc wd_87 (gdc wd_449 (gdc wd_448 (gdc wd_447 (gdc wd_446 (gdc wd_278 (gdc wd_277 (gdc wd_276 (gdc wd_445 (gdc wd_481 (gdc wd_480 (gdc wd_479 (gdc wd_478 (gdc wd_477 (gdc wd_706 (gdc wd_507 (gdc wd_506 (gdc wd_505 (gdc wd_504 gdn))))))))))))))))))))))))
theorem gd_wsX8_learnCompensation_r3 : GoodIn lw_tbl wsX8_learnCompensation_r3 := (gdc wd_391 (gdc wd_503 (gdc wd_547 (gdc wd_392 (gdc wd_390 (gdc wd_709 (gdc wd_682 (gdc wd_681 (gdc wd_680 (gdc wd_85 (gdc wd_679 gdn)))))))))))
theorem gd_wsX8_learnCompensation : GoodIn lw_tbl wsX8_learnCompensation := (gdc wd_701 (goodIn_app (goodIn_app (goodIn_app (goodIn_app (goodIn_app (goodIn_app gd_wsX8_learnCompensation_r1 (goodIn_app gd_wsX8_learnCompensation_r2 gd_wsX8_learnCompensation_r3)) gd_wsX80) gd_wsX40) gd_wsX30) gd_wsX20) gd_wsX70))
theorem gd_wsX9_learnCompensation_r1 : GoodIn lw_tbl wsX9_learnCompensation_r1 := (gdc wd_217 (gdc wd_212 (gdc wd_570 (gdc wd_589 (gdc wd_620 (gdc wd_619 (gdc wd_199 (gdc wd_618 (gdc wd_194 (gdc wd_569 (gdc wd_382 (gdc wd_381 (gdc wd_380 (gdc wd_617 (gdc wd_616 (gdc wd_615 (gdc wd_614 (gdc wd_207 (gdc wd_208 (gdc wd_635 (gdc wd_634 (gdc wd_633 (gdc wd_693 (gdc wd_692 gdn))))))))))))))))))))))))
theorem gd_wsX9_learnCompensation_r2 : GoodIn lw_tbl wsX9_learnCompensation_r2 := (gdc wd_691 (gdc wd_690 (gdc wd_689 (gdc wd_688 (gdc wd_687 (gdc wd_700 gdn))))))
theorem gd_wsX9_learnCompensation : GoodIn lw_tbl wsX9_learnCompensation := (gdc wd_710 (goodIn_app (goodIn_app gd_wsX9_learnCompensation_r1 gd_wsX9_learnCompensation_r2) gd_wsX90))
theorem gd_wsX8_compensation : GoodIn lw_tbl wsX8_compensation := (gdc wd_711 (goodIn_app (goodIn_app (gdc wd_6 (gdc wd_712 (gdc wd_452 (gdc wd_451 (gdc wd_7 (gdc wd_450 (gdc wd_87 (gdc wd_449 (gdc wd_448 (gdc wd_447 (gdc wd_446 (gdc wd_278 (gdc wd_277 (gdc wd_276 (gdc wd_445 (gdc wd_481 (gdc wd_480 (gdc wd_479 (gdc wd_478 (gdc wd_477 gdn)))))))))))))))))))) gd_wsX80) gd_wsX30))
theorem gd_wsX9_compensation : GoodIn lw_tbl wsX9_compensation := (gdc wd_713 (goodIn_app (gdc wd_290 (gdc wd_289 (gdc wd_199 (gdc wd_288 (gdc wd_287 (gdc wd_286 (gdc wd_285 (gdc wd_284 (gdc wd_698 (gdc wd_697 (gdc wd_696 (gdc wd_695 (gdc wd_694 (gdc wd_617 (gdc wd_616 (gdc wd_615 (gdc wd_614 (gdc wd_207 (gdc wd_208 gdn))))))))))))))))))) gd_wsX90))
theorem gd_wsX8_forgetBin : GoodIn lw_tbl wsX8_forgetBin := (gdc wd_714 (goodIn_app (goodIn_app (gdc wd_6 (gdc wd_718 (gdc wd_717 (gdc wd_716 (gdc wd_7 (gdc wd_715 (gdc wd_679 (gdc wd_85 (gdc wd_87 (gdc wd_449 (gdc wd_448 (gdc wd_447 (gdc wd_446 (gdc wd_278 (gdc wd_277 (gdc wd_276 (gdc wd_445 (gdc wd_481 (gdc wd_480 (gdc wd_479 (gdc wd_478 (gdc wd_477 gdn)))))))))))))))))))))) gd_wsX80) gd_wsX30))
theorem gd_wsX9_forgetBin : GoodIn lw_tbl wsX9_forgetBin := (gdc wd_719 (goodIn_app (gdc wd_207 (gdc wd_689 (gdc wd_688 (gdc wd_687 (gdc wd_199 (gdc wd_700 (gdc wd_698 (gdc wd_697 (gdc wd_696 (gdc wd_695 (gdc wd_694 (gdc wd_286 (gdc wd_285 (gdc wd_284 gdn)))))))))))))) gd_wsX90))
theorem gd_wsX8_turnEstimate_r1 : GoodIn lw_tbl wsX8_turnEstimate_r1 := (gdc wd_2 (gdc wd_336 (gdc wd_335 (gdc wd_334 (gdc wd_333 (gdc wd_332 (gdc wd_275 (gdc wd_274 (gdc wd_277 (gdc wd_273 (gdc wd_367 (gdc wd_366 (gdc wd_365 (gdc wd_19 (gdc wd_364 (gdc wd_25 (gdc wd_363 (gdc wd_362 (gdc wd_361 (gdc wd_360 (gdc wd_359 (gdc wd_358 (gdc wd_357 (gdc wd_356 gdn))))))))))))))))))))))))
theorem gd_wsX8_turnEstimate_r2 : GoodIn lw_tbl wsX8_turnEstimate_r2 := (gdc wd_375 (gdc wd_34 (gdc wd_35 (gdc wd_32 (gdc wd_374 (gdc wd_373 (gdc wd_372 (gdc wd_371 (gdc wd_370 (gdc wd_369 (gdc wd_368 (gdc wd_68 (gdc wd_67 (gdc wd_66 (gdc wd_65 (gdc wd_30 (gdc wd_64 gdn)))))))))))))))))
theorem gd_wsX8_turnEstimate : GoodIn lw_tbl wsX8_turnEstimate := (gdc wd_720 (goodIn_app (goodIn_app (goodIn_app (goodIn_app gd_wsX8_turnEstimate_r1 gd_wsX8_turnEstimate_r2) gd_wsX80) gd_wsX40) gd_wsX00))
theorem gd_wsX9_turnEstimate_r1 : GoodIn lw_tbl wsX9_turnEstimate_r1 := (gdc wd_188 (gdc wd_342 (gdc wd_341 (gdc wd_199 (gdc wd_340 (gdc wd_339 (gdc wd_338 (gdc wd_286 (gdc wd_285 (gdc wd_284 (gdc wd_387 (gdc wd_386 (gdc wd_385 (gdc wd_384 (gdc wd_197 (gdc wd_383 (gdc wd_187 (gdc wd_186 (gdc wd_382 (gdc wd_381 (gdc wd_380 (gdc wd_379 (gdc wd_378 (gdc wd_377 gdn))))))))))))))))))))))))
theorem gd_wsX9_turnEstimate_r2 : GoodIn lw_tbl wsX9_turnEstimate_r2 := (gdc wd_388 gdn)
theorem gd_wsX9_turnEstimate : GoodIn lw_tbl wsX9_turnEstimate := (gdc wd_721 (goodIn_app (goodIn_app gd_wsX9_turnEstimate_r1 gd_wsX9_turnEstimate_r2) gd_wsX90))
theorem gd_wsX8_estimate : GoodIn lw_tbl wsX8_estimate := (gdc wd_722 (goodIn_app (goodIn_app (goodIn_app (gdc wd_2 (gdc wd_642 (gdc wd_641 (gdc wd_277 (gdc wd_640 gdn))))) gd_wsX80) gd_wsX40) gd_wsX00))
theorem gd_wsX9_estimate : GoodIn lw_tbl wsX9_estimate := (gdc wd_723 (goodIn_app (gdc wd_724 (gdc wd_188 (gdc wd_286 (gdc wd_285 (gdc wd_199 (gdc wd_284 gdn)))))) gd_wsX90))
theorem gd_wsX8_truth : GoodIn lw_tbl wsX8_truth := (gdc wd_725 (goodIn_app (goodIn_app (gdc wd_18 (gdc wd_642 (gdc wd_641 (gdc wd_277 (gdc wd_640 gdn))))) gd_wsX80) gd_wsX00))
theorem gd_wsX9_truth : GoodIn lw_tbl wsX9_truth := (gdc wd_726 (goodIn_app (gdc wd_724 (gdc wd_189 (gdc wd_286 (gdc wd_285 (gdc wd_199 (gdc wd_284 gdn)))))) gd_wsX90))
theorem gd_wsX8_errorAngle : GoodIn lw_tbl wsX8_errorAngle := (gdc wd_527 (goodIn_app (goodIn_app (goodIn_app (gdc wd_2 (gdc wd_18 (gdc wd_526 (gdc wd_525 (gdc wd_524 (gdc wd_19 (gdc wd_554 (gdc wd_33 (gdc wd_35 (gdc wd_32 (gdc wd_64 (gdc wd_374 (gdc wd_373 (gdc wd_372 (gdc wd_553 (gdc wd_552 (gdc wd_277 (gdc wd_551 (gdc wd_550 (gdc wd_549 (gdc wd_548 gdn))))))))))))))))))))) gd_wsX80) gd_wsX40) gd_wsX00))
theorem gd_wsX9_errorAngle : GoodIn lw_tbl wsX9_errorAngle := (gdc wd_727 (goodIn_app (gdc wd_189 (gdc wd_188 (gdc wd_628 (gdc wd_627 (gdc wd_626 (gdc wd_199 (gdc wd_625 (gdc wd_182 (gdc wd_287 (gdc wd_186 (gdc wd_379 (gdc wd_378 (gdc wd_377 (gdc wd_388 (gdc wd_624 (gdc wd_623 (gdc wd_622 (gdc wd_621 gdn)))))))))))))))))) gd_wsX90))
theorem gd_wsX8_greatestError : GoodIn lw_tbl wsX8_greatestError := (gdc wd_728 (goodIn_app (gdc wd_394 gdn) gd_wsX80))
theorem gd_wsX9_greatestError : GoodIn lw_tbl wsX9_greatestError := (gdc wd_729 (goodIn_app (gdc wd_215 gdn) gd_wsX90))
theorem gd_wsX8_tiltError_r1 : GoodIn lw_tbl wsX8_tiltError_r1 := (gdc wd_18 (gdc wd_734 (gdc wd_42 (gdc wd_2 (gdc wd_41 (gdc wd_40 (gdc wd_733 (gdc wd_424 (gdc wd_423 (gdc wd_19 (gdc wd_422 (gdc wd_421 (gdc wd_420 (gdc wd_419 (gdc wd_418 (gdc wd_30 (gdc wd_417 (gdc wd_278 (gdc wd_277 (gdc wd_276 (gdc wd_732 (gdc wd_494 (gdc wd_493 (gdc wd_731 gdn))))))))))))))))))))))))
theorem gd_wsX8_tiltError_r2 : GoodIn lw_tbl wsX8_tiltError_r2 := (gdc wd_552 (gdc wd_551 (gdc wd_550 (gdc wd_549 (gdc wd_548 gdn)))))
theorem gd_wsX8_tiltError : GoodIn lw_tbl wsX8_tiltError := (gdc wd_730 (goodIn_app (goodIn_app (goodIn_app (goodIn_app gd_wsX8_tiltError_r1 gd_wsX8_tiltError_r2) gd_wsX80) gd_wsX40) gd_wsX00))
theorem gd_wsX9_tiltError_r1 : GoodIn lw_tbl wsX9_tiltError_r1 := (gdc wd_189 (gdc wd_213 (gdc wd_184 (gdc wd_188 (gdc wd_183 (gdc wd_599 (gdc wd_598 (gdc wd_597 (gdc wd_199 (gdc wd_596 (gdc wd_595 (gdc wd_564 (gdc wd_588 (gdc wd_587 (gdc wd_586 (gdc wd_185 (gdc wd_585 (gdc wd_584 (gdc wd_583 (gdc wd_582 (gdc wd_197 (gdc wd_287 (gdc wd_613 (gdc wd_612 gdn))))))))))))))))))))))))
theorem gd_wsX9_tiltError_r2 : GoodIn lw_tbl wsX9_tiltError_r2 := (gdc wd_611 (gdc wd_610 (gdc wd_624 (gdc wd_623 (gdc wd_622 (gdc wd_621 gdn))))))
theorem gd_wsX9_tiltError : GoodIn lw_tbl wsX9_tiltError := (gdc wd_735 (goodIn_app (goodIn_app gd_wsX9_tiltError_r1 gd_wsX9_tiltError_r2) gd_wsX90))
theorem gd_wsX8_toNavigation : GoodIn lw_tbl wsX8_toNavigation := (gdc wd_736 (goodIn_app (goodIn_app (goodIn_app (gdc wd_2 (gdc wd_744 (gdc wd_743 (gdc wd_334 (gdc wd_742 (gdc wd_741 (gdc wd_275 (gdc wd_274 (gdc wd_277 (gdc wd_273 (gdc wd_279 (gdc wd_278 (gdc wd_276 (gdc wd_740 (gdc wd_739 (gdc wd_738 (gdc wd_19 (gdc wd_737 (gdc wd_30 (gdc wd_417 gdn)))))))))))))))))))) gd_wsX80) gd_wsX40) gd_wsX00))
theorem gd_wsX9_toNavigation : GoodIn lw_tbl wsX9_toNavigation := (gdc wd_745 (goodIn_app (gdc wd_188 (gdc wd_185 (gdc wd_748 (gdc wd_747 (gdc wd_199 (gdc wd_746 (gdc wd_595 (gdc wd_197 (gdc wd_286 (gdc wd_285 (gdc wd_284 (gdc wd_290 (gdc wd_289 (gdc wd_288 (gdc wd_287 (gdc wd_585 (gdc wd_584 (gdc wd_583 (gdc wd_582 gdn))))))))))))))))))) gd_wsX90))
theorem gd_wsX8_toBody : GoodIn lw_tbl wsX8_toBody := (gdc wd_749 (goodIn_app (goodIn_app (goodIn_app (gdc wd_2 (gdc wd_744 (gdc wd_743 (gdc wd_334 (gdc wd_742 (gdc wd_741 (gdc wd_275 (gdc wd_274 (gdc wd_277 (gdc wd_273 (gdc wd_279 (gdc wd_278 (gdc wd_276 (gdc wd_750 (gdc wd_420 (gdc wd_419 (gdc wd_19 (gdc wd_418 (gdc wd_30 (gdc wd_417 gdn)))))))))))))))))))) gd_wsX80) gd_wsX40) gd_wsX00))
theorem gd_wsX9_toBody : GoodIn lw_tbl wsX9_toBody := (gdc wd_751 (goodIn_app (gdc wd_188 (gdc wd_184 (gdc wd_748 (gdc wd_747 (gdc wd_199 (gdc wd_746 (gdc wd_595 (gdc wd_197 (gdc wd_286 (gdc wd_285 (gdc wd_284 (gdc wd_290 (gdc wd_289 (gdc wd_288 (gdc wd_287 (gdc wd_564 (gdc wd_588 (gdc wd_587 (gdc wd_586 (gdc wd_185 (gdc wd_585 (gdc wd_584 (gdc wd_583 (gdc wd_582 gdn)))))))))))))))))))))))) gd_wsX90))
theorem gd_wsX8_visitedBins : GoodIn lw_tbl wsX8_visitedBins := (gdc wd_752 (goodIn_app (gdc wd_395 (gdc wd_759 (gdc wd_758 (gdc wd_757 (gdc wd_756 (gdc wd_755 (gdc wd_754 (gdc wd_753 gdn)))))))) gd_wsX80))
theorem gd_wsX9_visitedBins : GoodIn lw_tbl wsX9_visitedBins := (gdc wd_760 (goodIn_app (gdc wd_206 gdn) gd_wsX90))
theorem gd_wsX8_store : GoodIn lw_tbl wsX8_store := (gdc wd_761 (goodIn_app (goodIn_app (goodIn_app (goodIn_app (gdc wd_46 (gdc wd_2 (gdc wd_272 (gdc wd_271 (gdc wd_277 (gdc wd_270 (gdc wd_771 (gdc wd_770 (gdc wd_769 (gdc wd_47 (gdc wd_768 (gdc wd_767 (gdc wd_99 (gdc wd_98 (gdc wd_766 (gdc wd_406 (gdc wd_405 (gdc wd_404 (gdc wd_765 (gdc wd_764 (gdc wd_763 (gdc wd_762 gdn)))))))))))))))))))))) gd_wsX80) gd_wsX40) gd_wsX10) gd_wsX00))
theorem gd_wsX9_store : GoodIn lw_tbl wsX9_store := (gdc wd_772 (goodIn_app (gdc wd_777 (gdc wd_214 (gdc wd_205 (gdc wd_204 (gdc wd_188 (gdc wd_286 (gdc wd_285 (gdc wd_199 (gdc wd_284 (gdc wd_776 (gdc wd_775 (gdc wd_774 (gdc wd_773 gdn))))))))))))) gd_wsX90))
theorem gd_wsX8_recall_r1 : GoodIn lw_tbl wsX8_recall_r1 := (gdc wd_46 (gdc wd_2 (gdc wd_787 (gdc wd_764 (gdc wd_763 (gdc wd_47 (gdc wd_762 (gdc wd_767 (gdc wd_99 (gdc wd_786 (gdc wd_785 (gdc wd_784 (gdc wd_783 (gdc wd_98 (gdc wd_97 (gdc wd_766 (gdc wd_406 (gdc wd_405 (gdc wd_404 (gdc wd_782 (gdc wd_781 (gdc wd_780 (gdc wd_19 (gdc wd_779 gdn))))))))))))))))))))))))
theorem gd_wsX8_recall_r2 : GoodIn lw_tbl wsX8_recall_r2 := (gdc wd_35 (gdc wd_788 (gdc wd_68 (gdc wd_67 (gdc wd_66 (gdc wd_65 (gdc wd_30 (gdc wd_25 (gdc wd_64 gdn)))))))))
theorem gd_wsX8_recall : GoodIn lw_tbl wsX8_recall := (gdc wd_778 (goodIn_app (goodIn_app (goodIn_app (goodIn_app (goodIn_app gd_wsX8_recall_r1 gd_wsX8_recall_r2) gd_wsX80) gd_wsX40) gd_wsX10) gd_wsX00))
theorem gd_wsX9_recall : GoodIn lw_tbl wsX9_recall := (gdc wd_789 (goodIn_app (gdc wd_188 (gdc wd_204 (gdc wd_776 (gdc wd_775 (gdc wd_774 (gdc wd_199 (gdc wd_773 (gdc wd_214 (gdc wd_205 gdn))))))))) gd_wsX90))
theorem gd_wsX8_forget : GoodIn lw_tbl wsX8_forget := (gdc wd_790 (goodIn_app (goodIn_app (gdc wd_46 (gdc wd_787 (gdc wd_764 (gdc wd_763 (gdc wd_47 (gdc wd_762 (gdc wd_767 (gdc wd_99 (gdc wd_794 (gdc wd_793 (gdc wd_792 (gdc wd_791 (gdc wd_766 (gdc wd_406 (gdc wd_405 (gdc wd_404 (gdc wd_98 gdn))))))))))))))))) gd_wsX80) gd_wsX10))
theorem gd_wsX9_forget : GoodIn lw_tbl wsX9_forget := (gdc wd_795 (goodIn_app (gdc wd_214 (gdc wd_205 (gdc wd_204 (gdc wd_776 (gdc wd_775 (gdc wd_774 (gdc wd_199 (gdc wd_773 gdn)))))))) gd_wsX90))
theorem gd_wsX8_angleTo_r1 : GoodIn lw_tbl wsX8_angleTo_r1 := (gdc wd_46 (gdc wd_797 (gdc wd_2 (gdc wd_787 (gdc wd_764 (gdc wd_763 (gdc wd_47 (gdc wd_762 (gdc wd_767 (gdc wd_99 (gdc wd_786 (gdc wd_785 (gdc wd_784 (gdc wd_783 (gdc wd_98 (gdc wd_97 (gdc wd_766 (gdc wd_406 (gdc wd_405 (gdc wd_404 (gdc wd_526 (gdc wd_525 (gdc wd_524 (gdc wd_19 gdn))))))))))))))))))))))))
theorem gd_wsX8_angleTo_r2 : GoodIn lw_tbl wsX8_angleTo_r2 := (gdc wd_554 (gdc wd_33 (gdc wd_35 (gdc wd_32 (gdc wd_64 (gdc wd_374 (gdc wd_373 (gdc wd_372 (gdc wd_553 (gdc wd_552 (gdc wd_277 (gdc wd_551 (gdc wd_550 (gdc wd_549 (gdc wd_548 gdn)))))))))))))))
theorem gd_wsX8_angleTo : GoodIn lw_tbl wsX8_angleTo := (gdc wd_796 (goodIn_app (goodIn_app (goodIn_app (goodIn_app (goodIn_app gd_wsX8_angleTo_r1 gd_wsX8_angleTo_r2) gd_wsX80) gd_wsX40) gd_wsX10) gd_wsX00))
theorem gd_wsX9_angleTo_r1 : GoodIn lw_tbl wsX9_angleTo_r1 := (gdc wd_799 (gdc wd_203 (gdc wd_204 (gdc wd_188 (gdc wd_776 (gdc wd_775 (gdc wd_774 (gdc wd_199 (gdc wd_773 (gdc wd_214 (gdc wd_205 (gdc wd_628 (gdc wd_627 (gdc wd_626 (gdc wd_625 (gdc wd_182 (gdc wd_287 (gdc wd_186 (gdc wd_379 (gdc wd_378 (gdc wd_377 (gdc wd_388 (gdc wd_624 (gdc wd_623 gdn))))))))))))))))))))))))
theorem gd_wsX9_angleTo_r2 : GoodIn lw_tbl wsX9_angleTo_r2 := (gdc wd_622 (gdc wd_621 gdn))
theorem gd_wsX9_angleTo : GoodIn lw_tbl wsX9_angleTo := (gdc wd_798 (goodIn_app (goodIn_app gd_wsX9_angleTo_r1 gd_wsX9_angleTo_r2) gd_wsX90))
theorem gd_wsX8_storedNumber : GoodIn lw_tbl wsX8_storedNumber := (gdc wd_800 (goodIn_app (goodIn_app (gdc wd_46 (gdc wd_804 (gdc wd_803 (gdc wd_802 (gdc wd_47 (gdc wd_801 (gdc wd_767 (gdc wd_99 gdn)))))))) gd_wsX80) gd_wsX10))
theorem gd_wsX9_storedNumber : GoodIn lw_tbl wsX9_storedNumber := (gdc wd_805 (goodIn_app (gdc wd_214 (gdc wd_205 (gdc wd_286 (gdc wd_285 (gdc wd_199 (gdc wd_284 gdn)))))) gd_wsX90))
theorem gd_wsX8_reset_r1 : GoodIn lw_tbl wsX8_reset_r1 := (gdc wd_401 (gdc wd_395 (gdc wd_394 (gdc wd_44 (gdc wd_18 (gdc wd_14 (gdc wd_10 (gdc wd_6 (gdc wd_2 (gdc wd_46 (gdc wd_808 (gdc wd_71 (gdc wd_70 (gdc wd_69 (gdc wd_807 (gdc wd_28 (gdc wd_27 (gdc wd_19 (gdc wd_26 (gdc wd_35 (gdc wd_25 (gdc wd_72 (gdc wd_68 (gdc wd_67 gdn))))))))))))))))))))))))
theorem gd_wsX8_reset_r2 : GoodIn lw_tbl wsX8_reset_r2 := (gdc wd_66 (gdc wd_65 (gdc wd_30 (gdc wd_64 (gdc wd_347 (gdc wd_346 (gdc wd_345 (gdc wd_15 (gdc wd_344 (gdc wd_327 (gdc wd_812 (gdc wd_811 (gdc wd_810 (gdc wd_11 (gdc wd_809 (gdc wd_51 (gdc wd_50 (gdc wd_49 (gdc wd_96 (gdc wd_95 (gdc wd_94 (gdc wd_93 (gdc wd_91 (gdc wd_320 gdn))))))))))))))))))))))))
theorem gd_wsX8_reset_r3 : GoodIn lw_tbl wsX8_reset_r3 := (gdc wd_821 (gdc wd_820 (gdc wd_819 (gdc wd_818 (gdc wd_817 (gdc wd_816 (gdc wd_815 (gdc wd_7 (gdc wd_814 (gdc wd_813 (gdc wd_717 (gdc wd_716 (gdc wd_715 (gdc wd_679 (gdc wd_85 (gdc wd_87 (gdc wd_449 (gdc wd_448 (gdc wd_447 (gdc wd_446 (gdc wd_278 (gdc wd_277 (gdc wd_276 (gdc wd_445 gdn))))))))))))))))))))))))
theorem gd_wsX8_reset_r4 : GoodIn lw_tbl wsX8_reset_r4 := (gdc wd_481 (gdc wd_480 (gdc wd_479 (gdc wd_478 (gdc wd_477 (gdc wd_830 (gdc wd_829 (gdc wd_828 (gdc wd_3 (gdc wd_827 (gdc wd_79 (gdc wd_75 (gdc wd_74 (gdc wd_73 (gdc wd_113 (gdc wd_108 (gdc wd_483 (gdc wd_520 (gdc wd_826 (gdc wd_825 (gdc wd_824 (gdc wd_823 (gdc wd_76 (gdc wd_822 gdn))))))))))))))))))))))))
theorem gd_wsX8_reset_r5 : GoodIn lw_tbl wsX8_reset_r5 := (gdc wd_534 (gdc wd_468 (gdc wd_660 (gdc wd_834 (gdc wd_833 (gdc wd_832 (gdc wd_47 (gdc wd_831 (gdc wd_767 gdn)))))))))
theorem gd_wsX8_reset : GoodIn lw_tbl wsX8_reset := (gdc wd_806 (goodIn_app (goodIn_app (goodIn_app (goodIn_app (goodIn_app (goodIn_app (goodIn_app (goodIn_app (goodIn_app gd_wsX8_reset_r1 (goodIn_app gd_wsX8_reset_r2 (goodIn_app gd_wsX8_reset_r3 (goodIn_app gd_wsX8_reset_r4 gd_wsX8_reset_r5)))) gd_wsX80) gd_wsX00) gd_wsX60) gd_wsX70) gd_wsX30) gd_wsX40) gd_wsX20) gd_wsX10))
theorem gd_wsX9_reset_r1 : GoodIn lw_tbl wsX9_reset_r1 := (gdc wd_192 (gdc wd_202 (gdc wd_201 (gdc wd_200 (gdc wd_199 (gdc wd_198 (gdc wd_189 (gdc wd_197 (gdc wd_188 (gdc wd_181 (gdc wd_180 (gdc wd_179 (gdc wd_178 (gdc wd_177 (gdc wd_174 (gdc wd_173 (gdc wd_212 (gdc wd_211 (gdc wd_210 (gdc wd_209 (gdc wd_207 (gdc wd_206 (gdc wd_196 (gdc wd_195 gdn))))))))))))))))))))))))
theorem gd_wsX9_reset_r2 : GoodIn lw_tbl wsX9_reset_r2 := (gdc wd_194 (gdc wd_193 (gdc wd_191 (gdc wd_220 (gdc wd_219 (gdc wd_218 (gdc wd_217 (gdc wd_216 (gdc wd_215 (gdc wd_214 gdn))))))))))
theorem gd_wsX9_reset : GoodIn lw_tbl wsX9_reset := (gdc wd_835 (goodIn_app (goodIn_app gd_wsX9_reset_r1 gd_wsX9_reset_r2) gd_wsX90))
theorem gL_law_X8_init : GoodIn lw_tbl wsX8_init := gd_wsX8_init
theorem gL_law_X9_init : GoodIn lw_tbl wsX9_init := gd_wsX9_init
theorem gL_law_X8_setGyro : GoodIn lw_tbl (wsV RL 13 RX8 yX8_setGyro wsX8_setGyro) := goodIn_app (gdc wd_840 (gdc wd_841 (gdc wd_842 (gdc wd_334 gdn)))) gd_wsX8_setGyro
theorem gL_law_X9_setGyro : GoodIn lw_tbl (wsV RL 17 RX9 yX9_setGyro wsX9_setGyro) := goodIn_app (gdc wd_843 (gdc wd_844 (gdc wd_845 (gdc wd_199 gdn)))) gd_wsX9_setGyro
theorem gL_law_X8_setAccelerometer : GoodIn lw_tbl (wsV RL 18 RX8 yX8_setAccelerometer wsX8_setAccelerometer) := goodIn_app (gdc wd_846 (gdc wd_847 (gdc wd_848 (gdc wd_334 gdn)))) gd_wsX8_setAccelerometer
theorem gL_law_X9_setAccelerometer : GoodIn lw_tbl (wsV RL 22 RX9 yX9_setAccelerometer wsX9_setAccelerometer) := goodIn_app (gdc wd_849 (gdc wd_850 (gdc wd_851 (gdc wd_199 gdn)))) gd_wsX9_setAccelerometer
theorem gL_law_X8_setEarthRate : GoodIn lw_tbl (wsV RL 23 RX8 yX8_setEarthRate wsX8_setEarthRate) := goodIn_app (gdc wd_852 (gdc wd_853 (gdc wd_854 (gdc wd_334 gdn)))) gd_wsX8_setEarthRate
theorem gL_law_X9_setEarthRate : GoodIn lw_tbl (wsV RL 26 RX9 yX9_setEarthRate wsX9_setEarthRate) := goodIn_app (gdc wd_855 (gdc wd_856 (gdc wd_857 (gdc wd_199 gdn)))) gd_wsX9_setEarthRate
theorem gL_law_X8_setTemperature : GoodIn lw_tbl (wsV RL 27 RX8 yX8_setTemperature wsX8_setTemperature) := goodIn_app (gdc wd_858 (gdc wd_859 (gdc wd_860 (gdc wd_334 gdn)))) gd_wsX8_setTemperature
theorem gL_law_X9_setTemperature : GoodIn lw_tbl (wsV RL 31 RX9 yX9_setTemperature wsX9_setTemperature) := goodIn_app (gdc wd_861 (gdc wd_862 (gdc wd_863 (gdc wd_199 gdn)))) gd_wsX9_setTemperature
theorem gL_law_X8_setSeed : GoodIn lw_tbl (wsV RL 32 RX8 yX8_setSeed wsX8_setSeed) := goodIn_app (gdc wd_864 (gdc wd_865 (gdc wd_866 (gdc wd_334 gdn)))) gd_wsX8_setSeed
theorem gL_law_X9_setSeed : GoodIn lw_tbl (wsV RL 35 RX9 yX9_setSeed wsX9_setSeed) := goodIn_app (gdc wd_867 (gdc wd_868 (gdc wd_869 (gdc wd_199 gdn)))) gd_wsX9_setSeed
theorem gL_law_X8_addSegment : GoodIn lw_tbl (wsV RL 36 RX8 yX8_addSegment wsX8_addSegment) := goodIn_app (gdc wd_870 (gdc wd_871 (gdc wd_872 (gdc wd_334 gdn)))) gd_wsX8_addSegment
theorem gL_law_X9_addSegment : GoodIn lw_tbl (wsV RL 40 RX9 yX9_addSegment wsX9_addSegment) := goodIn_app (gdc wd_873 (gdc wd_874 (gdc wd_875 (gdc wd_199 gdn)))) gd_wsX9_addSegment
theorem gL_law_X8_clearScript : GoodIn lw_tbl (wsV RL 41 RX8 yX8_clearScript wsX8_clearScript) := goodIn_app (gdc wd_876 (gdc wd_877 (gdc wd_878 (gdc wd_334 gdn)))) gd_wsX8_clearScript
theorem gL_law_X9_clearScript : GoodIn lw_tbl (wsV RL 45 RX9 yX9_clearScript wsX9_clearScript) := goodIn_app (gdc wd_879 (gdc wd_880 (gdc wd_881 (gdc wd_199 gdn)))) gd_wsX9_clearScript
theorem gL_law_X8_scriptTicks : GoodIn lw_tbl (wsV RL 46 RX8 yX8_scriptTicks wsX8_scriptTicks) := goodIn_app (gdc wd_882 (gdc wd_883 (gdc wd_884 (gdc wd_334 gdn)))) gd_wsX8_scriptTicks
theorem gL_law_X9_scriptTicks : GoodIn lw_tbl (wsV RL 49 RX9 yX9_scriptTicks wsX9_scriptTicks) := goodIn_app (gdc wd_885 (gdc wd_886 (gdc wd_887 (gdc wd_199 gdn)))) gd_wsX9_scriptTicks
theorem gL_law_X8_turnTruth : GoodIn lw_tbl (wsV RL 50 RX8 yX8_turnTruth wsX8_turnTruth) := goodIn_app (gdc wd_888 (gdc wd_889 (gdc wd_890 (gdc wd_334 gdn)))) gd_wsX8_turnTruth
theorem gL_law_X9_turnTruth : GoodIn lw_tbl (wsV RL 54 RX9 yX9_turnTruth wsX9_turnTruth) := goodIn_app (gdc wd_891 (gdc wd_892 (gdc wd_893 (gdc wd_199 gdn)))) gd_wsX9_turnTruth
theorem gL_law_X8_run : GoodIn lw_tbl (wsV RL 55 RX8 yX8_run wsX8_run) := goodIn_app (gdc wd_894 (gdc wd_895 (gdc wd_896 (gdc wd_334 gdn)))) gd_wsX8_run
theorem gL_law_X9_run : GoodIn lw_tbl (wsV RL 58 RX9 yX9_run wsX9_run) := goodIn_app (gdc wd_897 (gdc wd_898 (gdc wd_899 (gdc wd_199 gdn)))) gd_wsX9_run
theorem gL_law_X8_time : GoodIn lw_tbl (wsV RL 59 RX8 yX8_time wsX8_time) := goodIn_app (gdc wd_900 (gdc wd_901 (gdc wd_902 (gdc wd_334 gdn)))) gd_wsX8_time
theorem gL_law_X9_time : GoodIn lw_tbl (wsV RL 62 RX9 yX9_time wsX9_time) := goodIn_app (gdc wd_903 (gdc wd_904 (gdc wd_905 (gdc wd_199 gdn)))) gd_wsX9_time
theorem gL_law_X8_gyro : GoodIn lw_tbl (wsV RL 63 RX8 yX8_gyro wsX8_gyro) := goodIn_app (gdc wd_906 (gdc wd_907 (gdc wd_908 (gdc wd_334 gdn)))) gd_wsX8_gyro
theorem gL_law_X9_gyro : GoodIn lw_tbl (wsV RL 67 RX9 yX9_gyro wsX9_gyro) := goodIn_app (gdc wd_909 (gdc wd_910 (gdc wd_911 (gdc wd_199 gdn)))) gd_wsX9_gyro
theorem gL_law_X8_accelerometer : GoodIn lw_tbl (wsV RL 68 RX8 yX8_accelerometer wsX8_accelerometer) := goodIn_app (gdc wd_912 (gdc wd_913 (gdc wd_914 (gdc wd_334 gdn)))) gd_wsX8_accelerometer
theorem gL_law_X9_accelerometer : GoodIn lw_tbl (wsV RL 71 RX9 yX9_accelerometer wsX9_accelerometer) := goodIn_app (gdc wd_915 (gdc wd_916 (gdc wd_917 (gdc wd_199 gdn)))) gd_wsX9_accelerometer
theorem gL_law_X8_setMethod : GoodIn lw_tbl (wsV RL 72 RX8 yX8_setMethod wsX8_setMethod) := goodIn_app (gdc wd_918 (gdc wd_919 (gdc wd_920 (gdc wd_334 gdn)))) gd_wsX8_setMethod
theorem gL_law_X9_setMethod : GoodIn lw_tbl (wsV RL 75 RX9 yX9_setMethod wsX9_setMethod) := goodIn_app (gdc wd_921 (gdc wd_922 (gdc wd_923 (gdc wd_199 gdn)))) gd_wsX9_setMethod
theorem gL_law_X8_setLevelling : GoodIn lw_tbl (wsV RL 76 RX8 yX8_setLevelling wsX8_setLevelling) := goodIn_app (gdc wd_924 (gdc wd_925 (gdc wd_926 (gdc wd_334 gdn)))) gd_wsX8_setLevelling
theorem gL_law_X9_setLevelling : GoodIn lw_tbl (wsV RL 79 RX9 yX9_setLevelling wsX9_setLevelling) := goodIn_app (gdc wd_927 (gdc wd_928 (gdc wd_929 (gdc wd_199 gdn)))) gd_wsX9_setLevelling
theorem gL_law_X8_setHeading : GoodIn lw_tbl (wsV RL 80 RX8 yX8_setHeading wsX8_setHeading) := goodIn_app (gdc wd_930 (gdc wd_931 (gdc wd_932 (gdc wd_334 gdn)))) gd_wsX8_setHeading
theorem gL_law_X9_setHeading : GoodIn lw_tbl (wsV RL 83 RX9 yX9_setHeading wsX9_setHeading) := goodIn_app (gdc wd_933 (gdc wd_934 (gdc wd_935 (gdc wd_199 gdn)))) gd_wsX9_setHeading
theorem gL_law_X8_startCalibration : GoodIn lw_tbl (wsV RL 84 RX8 yX8_startCalibration wsX8_startCalibration) := goodIn_app (gdc wd_936 (gdc wd_937 (gdc wd_938 (gdc wd_334 gdn)))) gd_wsX8_startCalibration
theorem gL_law_X9_startCalibration : GoodIn lw_tbl (wsV RL 87 RX9 yX9_startCalibration wsX9_startCalibration) := goodIn_app (gdc wd_939 (gdc wd_940 (gdc wd_941 (gdc wd_199 gdn)))) gd_wsX9_startCalibration
theorem gL_law_X8_calibrationLeft : GoodIn lw_tbl (wsV RL 88 RX8 yX8_calibrationLeft wsX8_calibrationLeft) := goodIn_app (gdc wd_942 (gdc wd_943 (gdc wd_944 (gdc wd_334 gdn)))) gd_wsX8_calibrationLeft
theorem gL_law_X9_calibrationLeft : GoodIn lw_tbl (wsV RL 91 RX9 yX9_calibrationLeft wsX9_calibrationLeft) := goodIn_app (gdc wd_945 (gdc wd_946 (gdc wd_947 (gdc wd_199 gdn)))) gd_wsX9_calibrationLeft
theorem gL_law_X8_biasEstimate : GoodIn lw_tbl (wsV RL 92 RX8 yX8_biasEstimate wsX8_biasEstimate) := goodIn_app (gdc wd_948 (gdc wd_949 (gdc wd_950 (gdc wd_334 gdn)))) gd_wsX8_biasEstimate
theorem gL_law_X9_biasEstimate : GoodIn lw_tbl (wsV RL 95 RX9 yX9_biasEstimate wsX9_biasEstimate) := goodIn_app (gdc wd_951 (gdc wd_952 (gdc wd_953 (gdc wd_199 gdn)))) gd_wsX9_biasEstimate
theorem gL_law_X8_setCompensation : GoodIn lw_tbl (wsV RL 96 RX8 yX8_setCompensation wsX8_setCompensation) := goodIn_app (gdc wd_954 (gdc wd_955 (gdc wd_956 (gdc wd_334 gdn)))) gd_wsX8_setCompensation
theorem gL_law_X9_setCompensation : GoodIn lw_tbl (wsV RL 99 RX9 yX9_setCompensation wsX9_setCompensation) := goodIn_app (gdc wd_957 (gdc wd_958 (gdc wd_959 (gdc wd_199 gdn)))) gd_wsX9_setCompensation
theorem gL_law_X8_learnCompensation : GoodIn lw_tbl (wsV RL 100 RX8 yX8_learnCompensation wsX8_learnCompensation) := goodIn_app (gdc wd_960 (gdc wd_961 (gdc wd_962 (gdc wd_334 gdn)))) gd_wsX8_learnCompensation
theorem gL_law_X9_learnCompensation : GoodIn lw_tbl (wsV RL 103 RX9 yX9_learnCompensation wsX9_learnCompensation) := goodIn_app (gdc wd_963 (gdc wd_964 (gdc wd_965 (gdc wd_199 gdn)))) gd_wsX9_learnCompensation
theorem gL_law_X8_compensation : GoodIn lw_tbl (wsV RL 104 RX8 yX8_compensation wsX8_compensation) := goodIn_app (gdc wd_966 (gdc wd_967 (gdc wd_968 (gdc wd_334 gdn)))) gd_wsX8_compensation
theorem gL_law_X9_compensation : GoodIn lw_tbl (wsV RL 107 RX9 yX9_compensation wsX9_compensation) := goodIn_app (gdc wd_969 (gdc wd_970 (gdc wd_971 (gdc wd_199 gdn)))) gd_wsX9_compensation
theorem gL_law_X8_forgetBin : GoodIn lw_tbl (wsV RL 108 RX8 yX8_forgetBin wsX8_forgetBin) := goodIn_app (gdc wd_972 (gdc wd_973 (gdc wd_974 (gdc wd_334 gdn)))) gd_wsX8_forgetBin
theorem gL_law_X9_forgetBin : GoodIn lw_tbl (wsV RL 111 RX9 yX9_forgetBin wsX9_forgetBin) := goodIn_app (gdc wd_975 (gdc wd_976 (gdc wd_977 (gdc wd_199 gdn)))) gd_wsX9_forgetBin
theorem gL_law_X8_turnEstimate : GoodIn lw_tbl (wsV RL 112 RX8 yX8_turnEstimate wsX8_turnEstimate) := goodIn_app (gdc wd_978 (gdc wd_979 (gdc wd_980 (gdc wd_334 gdn)))) gd_wsX8_turnEstimate
theorem gL_law_X9_turnEstimate : GoodIn lw_tbl (wsV RL 115 RX9 yX9_turnEstimate wsX9_turnEstimate) := goodIn_app (gdc wd_981 (gdc wd_982 (gdc wd_983 (gdc wd_199 gdn)))) gd_wsX9_turnEstimate
theorem gL_law_X8_estimate : GoodIn lw_tbl (wsV RL 116 RX8 yX8_estimate wsX8_estimate) := goodIn_app (gdc wd_984 (gdc wd_985 (gdc wd_986 (gdc wd_334 gdn)))) gd_wsX8_estimate
theorem gL_law_X9_estimate : GoodIn lw_tbl (wsV RL 119 RX9 yX9_estimate wsX9_estimate) := goodIn_app (gdc wd_987 (gdc wd_988 (gdc wd_989 (gdc wd_199 gdn)))) gd_wsX9_estimate
theorem gL_law_X8_truth : GoodIn lw_tbl (wsV RL 120 RX8 yX8_truth wsX8_truth) := goodIn_app (gdc wd_990 (gdc wd_991 (gdc wd_992 (gdc wd_334 gdn)))) gd_wsX8_truth
theorem gL_law_X9_truth : GoodIn lw_tbl (wsV RL 123 RX9 yX9_truth wsX9_truth) := goodIn_app (gdc wd_993 (gdc wd_994 (gdc wd_995 (gdc wd_199 gdn)))) gd_wsX9_truth
theorem gL_law_X8_errorAngle : GoodIn lw_tbl (wsV RL 124 RX8 yX8_errorAngle wsX8_errorAngle) := goodIn_app (gdc wd_996 (gdc wd_529 (gdc wd_528 (gdc wd_334 gdn)))) gd_wsX8_errorAngle
theorem gL_law_X9_errorAngle : GoodIn lw_tbl (wsV RL 128 RX9 yX9_errorAngle wsX9_errorAngle) := goodIn_app (gdc wd_997 (gdc wd_998 (gdc wd_999 (gdc wd_199 gdn)))) gd_wsX9_errorAngle
theorem gL_law_X8_greatestError : GoodIn lw_tbl (wsV RL 129 RX8 yX8_greatestError wsX8_greatestError) := goodIn_app (gdc wd_1000 (gdc wd_1001 (gdc wd_1002 (gdc wd_334 gdn)))) gd_wsX8_greatestError
theorem gL_law_X9_greatestError : GoodIn lw_tbl (wsV RL 132 RX9 yX9_greatestError wsX9_greatestError) := goodIn_app (gdc wd_1003 (gdc wd_1004 (gdc wd_1005 (gdc wd_199 gdn)))) gd_wsX9_greatestError
theorem gL_law_X8_tiltError : GoodIn lw_tbl (wsV RL 133 RX8 yX8_tiltError wsX8_tiltError) := goodIn_app (gdc wd_1006 (gdc wd_1007 (gdc wd_1008 (gdc wd_334 gdn)))) gd_wsX8_tiltError
theorem gL_law_X9_tiltError : GoodIn lw_tbl (wsV RL 136 RX9 yX9_tiltError wsX9_tiltError) := goodIn_app (gdc wd_1009 (gdc wd_1010 (gdc wd_1011 (gdc wd_199 gdn)))) gd_wsX9_tiltError
theorem gL_law_X8_toNavigation : GoodIn lw_tbl (wsV RL 137 RX8 yX8_toNavigation wsX8_toNavigation) := goodIn_app (gdc wd_1012 (gdc wd_1013 (gdc wd_1014 (gdc wd_334 gdn)))) gd_wsX8_toNavigation
theorem gL_law_X9_toNavigation : GoodIn lw_tbl (wsV RL 141 RX9 yX9_toNavigation wsX9_toNavigation) := goodIn_app (gdc wd_1015 (gdc wd_1016 (gdc wd_1017 (gdc wd_199 gdn)))) gd_wsX9_toNavigation
theorem gL_law_X8_toBody : GoodIn lw_tbl (wsV RL 142 RX8 yX8_toBody wsX8_toBody) := goodIn_app (gdc wd_1018 (gdc wd_1019 (gdc wd_1020 (gdc wd_334 gdn)))) gd_wsX8_toBody
theorem gL_law_X9_toBody : GoodIn lw_tbl (wsV RL 145 RX9 yX9_toBody wsX9_toBody) := goodIn_app (gdc wd_1021 (gdc wd_1022 (gdc wd_1023 (gdc wd_199 gdn)))) gd_wsX9_toBody
theorem gL_law_X8_visitedBins : GoodIn lw_tbl (wsV RL 146 RX8 yX8_visitedBins wsX8_visitedBins) := goodIn_app (gdc wd_1024 (gdc wd_1025 (gdc wd_1026 (gdc wd_334 gdn)))) gd_wsX8_visitedBins
theorem gL_law_X9_visitedBins : GoodIn lw_tbl (wsV RL 149 RX9 yX9_visitedBins wsX9_visitedBins) := goodIn_app (gdc wd_1027 (gdc wd_1028 (gdc wd_1029 (gdc wd_199 gdn)))) gd_wsX9_visitedBins
theorem gL_law_X8_store : GoodIn lw_tbl (wsV RL 150 RX8 yX8_store wsX8_store) := goodIn_app (gdc wd_1030 (gdc wd_1031 (gdc wd_1032 (gdc wd_334 gdn)))) gd_wsX8_store
theorem gL_law_X9_store : GoodIn lw_tbl (wsV RL 153 RX9 yX9_store wsX9_store) := goodIn_app (gdc wd_1033 (gdc wd_1034 (gdc wd_1035 (gdc wd_199 gdn)))) gd_wsX9_store
theorem gL_law_X8_recall : GoodIn lw_tbl (wsV RL 154 RX8 yX8_recall wsX8_recall) := goodIn_app (gdc wd_1036 (gdc wd_1037 (gdc wd_1038 (gdc wd_334 gdn)))) gd_wsX8_recall
theorem gL_law_X9_recall : GoodIn lw_tbl (wsV RL 157 RX9 yX9_recall wsX9_recall) := goodIn_app (gdc wd_1039 (gdc wd_1040 (gdc wd_1041 (gdc wd_199 gdn)))) gd_wsX9_recall
theorem gL_law_X8_forget : GoodIn lw_tbl (wsV RL 158 RX8 yX8_forget wsX8_forget) := goodIn_app (gdc wd_1042 (gdc wd_1043 (gdc wd_1044 (gdc wd_334 gdn)))) gd_wsX8_forget
theorem gL_law_X9_forget : GoodIn lw_tbl (wsV RL 161 RX9 yX9_forget wsX9_forget) := goodIn_app (gdc wd_1045 (gdc wd_1046 (gdc wd_1047 (gdc wd_199 gdn)))) gd_wsX9_forget
theorem gL_law_X8_angleTo : GoodIn lw_tbl (wsV RL 162 RX8 yX8_angleTo wsX8_angleTo) := goodIn_app (gdc wd_1048 (gdc wd_1049 (gdc wd_1050 (gdc wd_334 gdn)))) gd_wsX8_angleTo
theorem gL_law_X9_angleTo : GoodIn lw_tbl (wsV RL 165 RX9 yX9_angleTo wsX9_angleTo) := goodIn_app (gdc wd_1051 (gdc wd_1052 (gdc wd_1053 (gdc wd_199 gdn)))) gd_wsX9_angleTo
theorem gL_law_X8_storedNumber : GoodIn lw_tbl (wsV RL 166 RX8 yX8_storedNumber wsX8_storedNumber) := goodIn_app (gdc wd_1054 (gdc wd_1055 (gdc wd_1056 (gdc wd_334 gdn)))) gd_wsX8_storedNumber
theorem gL_law_X9_storedNumber : GoodIn lw_tbl (wsV RL 169 RX9 yX9_storedNumber wsX9_storedNumber) := goodIn_app (gdc wd_1057 (gdc wd_1058 (gdc wd_1059 (gdc wd_199 gdn)))) gd_wsX9_storedNumber
theorem gL_law_X8_reset : GoodIn lw_tbl (wsV RL 170 RX8 yX8_reset wsX8_reset) := goodIn_app (gdc wd_1060 (gdc wd_1061 (gdc wd_1062 (gdc wd_334 gdn)))) gd_wsX8_reset
theorem gL_law_X9_reset : GoodIn lw_tbl (wsV RL 173 RX9 yX9_reset wsX9_reset) := goodIn_app (gdc wd_1063 (gdc wd_1064 (gdc wd_1065 (gdc wd_199 gdn)))) gd_wsX9_reset
