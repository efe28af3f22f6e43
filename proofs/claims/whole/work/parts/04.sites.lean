/-! SITES: what the class files name, by place in the constant pools (by program, wip/whole/gen_sites.py) -/
theorem fs_at9 {w : Cond} (i : Nat) (h : lw_tbl[i]? = some w) (g : goodWord w = true) : w ∈ fs_T := fs_in (List.mem_of_getElem? h) g
abbrev mJ7_fillI : fsM := (yJ7_fill_53178, cJ7_fill_53178, 4, none)
abbrev mJ7_fillJ : fsM := (yJ7_fill_d0a16, cJ7_fill_d0a16, 5, none)
abbrev mX0_limited : fsM := (yX0_limited, cX0_limited, 2, (some .long))
abbrev mX0_product : fsM := (yX0_product, cX0_product, 10, (some .long))
abbrev mX0_quotient : fsM := (yX0_quotient, cX0_quotient, 6, (some .long))
abbrev mX0_rounded : fsM := (yX0_rounded, cX0_rounded, 9, (some .long))
abbrev mX1_init : fsM := (yX1_init, cX1_init, 1, none)
abbrev mX1_empty : fsM := (yX1_empty, cX1_empty, 1, none)
abbrev mX1_canTake : fsM := (yX1_canTake, cX1_canTake, 2, (some .boolean))
abbrev mX1_take : fsM := (yX1_take, cX1_take, 2, (some .int))
abbrev mX1_rowsOf : fsM := (yX1_rowsOf, cX1_rowsOf, 2, (some .int))
abbrev mX1_has : fsM := (yX1_has, cX1_has, 3, (some .boolean))
abbrev mX1_isField : fsM := (yX1_isField, cX1_isField, 2, (some .boolean))
abbrev mX1_isCheck : fsM := (yX1_isCheck, cX1_isCheck, 2, (some .boolean))
abbrev mX1_isCaption : fsM := (yX1_isCaption, cX1_isCaption, 2, (some .boolean))
abbrev mX1_isTold : fsM := (yX1_isTold, cX1_isTold, 2, (some .boolean))
abbrev mX1_repeats : fsM := (yX1_repeats, cX1_repeats, 2, (some .boolean))
abbrev mX1_isOfKind : fsM := (yX1_isOfKind, cX1_isOfKind, 3, (some .boolean))
abbrev mX1_fieldNamed : fsM := (yX1_fieldNamed, cX1_fieldNamed, 3, (some .int))
abbrev mX1_valueCount : fsM := (yX1_valueCount, cX1_valueCount, 3, (some .int))
abbrev mX1_resolveNames : fsM := (yX1_resolveNames, cX1_resolveNames, 2, (some .boolean))
abbrev mX1_resolve : fsM := (yX1_resolve, cX1_resolve, 3, (some .boolean))
abbrev mX2_init : fsM := (yX2_init, cX2_init, 6, none)
abbrev mX3_init : fsM := (yX3_init, cX3_init, 4, none)
abbrev mX3_pageCount : fsM := (yX3_pageCount, cX3_pageCount, 1, (some .int))
abbrev mX3_placeOf : fsM := (yX3_placeOf, cX3_placeOf, 3, (some .int))
abbrev mX3_standsAt : fsM := (yX3_standsAt, cX3_standsAt, 3, (some .int))
abbrev mX3_layOut : fsM := (yX3_layOut, cX3_layOut, 2, none)
abbrev mX3_measure : fsM := (yX3_measure, cX3_measure, 3, none)
abbrev mX3_linesOf : fsM := (yX3_linesOf, cX3_linesOf, 3, (some .int))
abbrev mX3_putSection : fsM := (yX3_putSection, cX3_putSection, 4, none)
abbrev mX3_putBlock : fsM := (yX3_putBlock, cX3_putBlock, 7, none)
abbrev mX3_putHeader : fsM := (yX3_putHeader, cX3_putHeader, 3, none)
abbrev mX3_putAlone : fsM := (yX3_putAlone, cX3_putAlone, 3, none)
abbrev mX3_turnPage : fsM := (yX3_turnPage, cX3_turnPage, 2, (some .boolean))
abbrev mX3_putLines : fsM := (yX3_putLines, cX3_putLines, 6, none)
abbrev mX4_init : fsM := (yX4_init, cX4_init, 5, none)
abbrev mX4_init_ : fsM := (yX4_init_, cX4_init_, 5, none)
abbrev mX5_init : fsM := (yX5_init, cX5_init, 1, none)
abbrev mX5_append : fsM := (yX5_append, cX5_append, 6, (some .boolean))
abbrev mX5_takeItem : fsM := (yX5_takeItem, cX5_takeItem, 3, (some (.object "FormSheet$Item")))
abbrev mX5_reached : fsM := (yX5_reached, cX5_reached, 1, (some .int))
abbrev mX5_codeIn : fsM := (yX5_codeIn, cX5_codeIn, 3, (some .int))
abbrev mX5_fieldItem : fsM := (yX5_fieldItem, cX5_fieldItem, 4, (some (.object "FormSheet$Item")))
abbrev mX5_checkItem : fsM := (yX5_checkItem, cX5_checkItem, 3, (some (.object "FormSheet$Item")))
abbrev mX5_captionItem : fsM := (yX5_captionItem, cX5_captionItem, 3, (some (.object "FormSheet$Item")))
abbrev mX5_expression : fsM := (yX5_expression, cX5_expression, 2, (some (.object "FormSheet$Part")))
abbrev mX5_inBrackets : fsM := (yX5_inBrackets, cX5_inBrackets, 6, (some (.object "FormSheet$Part")))
abbrev mX5_number : fsM := (yX5_number, cX5_number, 6, (some (.object "FormSheet$Part")))
abbrev mX5_digits : fsM := (yX5_digits, cX5_digits, 5, (some .long))
abbrev mX5_nameCode : fsM := (yX5_nameCode, cX5_nameCode, 3, (some .int))
abbrev mX5_next : fsM := (yX5_next, cX5_next, 1, (some .char))
abbrev mX5_skip : fsM := (yX5_skip, cX5_skip, 2, (some .boolean))
abbrev mX5_isSign : fsM := (yX5_isSign, cX5_isSign, 1, (some .boolean))
abbrev mX6_init : fsM := (yX6_init, cX6_init, 2, none)
abbrev mX6_forgetAll : fsM := (yX6_forgetAll, cX6_forgetAll, 1, none)
abbrev mX6_forgetRowsFrom : fsM := (yX6_forgetRowsFrom, cX6_forgetRowsFrom, 4, none)
abbrev mX6_outcomeOf : fsM := (yX6_outcomeOf, cX6_outcomeOf, 3, (some .long))
abbrev mX6_fails : fsM := (yX6_fails, cX6_fails, 5, (some .boolean))
abbrev mX6_faultCount : fsM := (yX6_faultCount, cX6_faultCount, 4, (some .int))
abbrev mX6_tell : fsM := (yX6_tell, cX6_tell, 6, (some .int))
abbrev mX6_workOutAll : fsM := (yX6_workOutAll, cX6_workOutAll, 2, none)
abbrev mX6_link : fsM := (yX6_link, cX6_link, 6, none)
abbrev mX6_cellsNamed : fsM := (yX6_cellsNamed, cX6_cellsNamed, 6, (some .long))
abbrev mX6_cellNamed : fsM := (yX6_cellNamed, cX6_cellNamed, 3, (some .int))
abbrev mX6_followHangs : fsM := (yX6_followHangs, cX6_followHangs, 3, none)
abbrev mX6_putInOrder : fsM := (yX6_putInOrder, cX6_putInOrder, 7, none)
abbrev mX6_append : fsM := (yX6_append, cX6_append, 2, none)
abbrev mX6_hangsOn : fsM := (yX6_hangsOn, cX6_hangsOn, 3, (some .boolean))
abbrev mX6_setOf : fsM := (yX6_setOf, cX6_setOf, 1, (some .long))
abbrev mX6_workOut : fsM := (yX6_workOut, cX6_workOut, 3, none)
abbrev mX6_worth : fsM := (yX6_worth, cX6_worth, 7, (some .long))
abbrev mX6_total : fsM := (yX6_total, cX6_total, 7, (some .long))
abbrev mX6_operate : fsM := (yX6_operate, cX6_operate, 5, (some .long))
abbrev mX7_init : fsM := (yX7_init, cX7_init, 2, none)
abbrev mX7_write : fsM := (yX7_write, cX7_write, 3, (some .boolean))
abbrev mX7_add : fsM := (yX7_add, cX7_add, 2, (some .int))
abbrev mX7_position : fsM := (yX7_position, cX7_position, 1, (some .int))
abbrev mX7_close : fsM := (yX7_close, cX7_close, 1, (some .int))
abbrev mX7_clear : fsM := (yX7_clear, cX7_clear, 1, none)
abbrev mX7_rows : fsM := (yX7_rows, cX7_rows, 2, (some .int))
abbrev mX7_set : fsM := (yX7_set, cX7_set, 6, (some .int))
abbrev mX7_get : fsM := (yX7_get, cX7_get, 5, (some .long))
abbrev mX7_fault : fsM := (yX7_fault, cX7_fault, 5, (some .int))
abbrev mX7_message : fsM := (yX7_message, cX7_message, 5, (some .int))
abbrev mX7_place : fsM := (yX7_place, cX7_place, 3, (some .int))
abbrev mX7_pages : fsM := (yX7_pages, cX7_pages, 1, (some .int))
abbrev mX7_line : fsM := (yX7_line, cX7_line, 3, (some .int))
abbrev mX7_count : fsM := (yX7_count, cX7_count, 2, (some .int))
abbrev mX7_isThere : fsM := (yX7_isThere, cX7_isThere, 3, (some .boolean))
abbrev mX7_cellOf : fsM := (yX7_cellOf, cX7_cellOf, 2, (some .int))
abbrev mX7_isFault : fsM := (yX7_isFault, cX7_isFault, 2, (some .boolean))
abbrev mX7_isLetter : fsM := (yX7_isLetter, cX7_isLetter, 1, (some .boolean))
abbrev mX7_isDigit : fsM := (yX7_isDigit, cX7_isDigit, 1, (some .boolean))
abbrev mX8_init : fsM := (yX8_init, cX8_init, 2, none)
abbrev mX8_thrown : fsM := (yX8_thrown, cX8_thrown, 1, (some .int))
abbrev mX8_write : fsM := (yX8_write, cX8_write, 6, (some .boolean))
abbrev mX8_here : fsM := (yX8_here, cX8_here, 1, (some .char))
abbrev mX8_letter : fsM := (yX8_letter, cX8_letter, 1, (some .boolean))
abbrev mX8_digit : fsM := (yX8_digit, cX8_digit, 1, (some .boolean))
abbrev mX8_readName : fsM := (yX8_readName, cX8_readName, 2, (some .int))
abbrev mX8_part : fsM := (yX8_part, cX8_part, 8, (some .int))
abbrev mX8_readNumber : fsM := (yX8_readNumber, cX8_readNumber, 4, (some .long))
abbrev mX8_isSign : fsM := (yX8_isSign, cX8_isSign, 1, (some .boolean))
abbrev mX8_begin : fsM := (yX8_begin, cX8_begin, 4, (some .int))
abbrev mX8_goOn : fsM := (yX8_goOn, cX8_goOn, 4, (some .int))
abbrev mX8_expression : fsM := (yX8_expression, cX8_expression, 3, (some .boolean))
abbrev mX8_star : fsM := (yX8_star, cX8_star, 2, (some .boolean))
abbrev mX8_read : fsM := (yX8_read, cX8_read, 3, (some .boolean))
abbrev mX8_find : fsM := (yX8_find, cX8_find, 4, (some .int))
abbrev mX8_add : fsM := (yX8_add, cX8_add, 3, (some .int))
abbrev mX8_position : fsM := (yX8_position, cX8_position, 1, (some .int))
abbrev mX8_named : fsM := (yX8_named, cX8_named, 4, (some .boolean))
abbrev mX8_rowsOf : fsM := (yX8_rowsOf, cX8_rowsOf, 2, (some .int))
abbrev mX8_values : fsM := (yX8_values, cX8_values, 3, (some .int))
abbrev mX8_close : fsM := (yX8_close, cX8_close, 3, (some .int))
abbrev mX8_clear : fsM := (yX8_clear, cX8_clear, 2, none)
abbrev mX8_names : fsM := (yX8_names, cX8_names, 8, (some .long))
abbrev mX8_isIn : fsM := (yX8_isIn, cX8_isIn, 2, (some .boolean))
abbrev mX8_divided : fsM := (yX8_divided, cX8_divided, 12, (some .long))
abbrev mX8_product : fsM := (yX8_product, cX8_product, 15, (some .long))
abbrev mX8_come : fsM := (yX8_come, cX8_come, 6, none)
abbrev mX8_sumUp : fsM := (yX8_sumUp, cX8_sumUp, 7, none)
abbrev mX8_worked : fsM := (yX8_worked, cX8_worked, 10, none)
abbrev mX8_work : fsM := (yX8_work, cX8_work, 8, (some .int))
abbrev mX8_isWorked : fsM := (yX8_isWorked, cX8_isWorked, 2, (some .boolean))
abbrev mX8_workAll : fsM := (yX8_workAll, cX8_workAll, 4, none)
abbrev mX8_follow : fsM := (yX8_follow, cX8_follow, 6, none)
abbrev mX8_allKnown : fsM := (yX8_allKnown, cX8_allKnown, 5, (some .boolean))
abbrev mX8_fails : fsM := (yX8_fails, cX8_fails, 4, (some .boolean))
abbrev mX8_linesOf : fsM := (yX8_linesOf, cX8_linesOf, 3, (some .int))
abbrev mX8_lay : fsM := (yX8_lay, cX8_lay, 6, none)
abbrev mX8_turn : fsM := (yX8_turn, cX8_turn, 2, (some .boolean))
abbrev mX8_layBlock : fsM := (yX8_layBlock, cX8_layBlock, 8, none)
abbrev mX8_refresh : fsM := (yX8_refresh, cX8_refresh, 5, none)
abbrev mX8_rows : fsM := (yX8_rows, cX8_rows, 3, (some .int))
abbrev mX8_there : fsM := (yX8_there, cX8_there, 3, (some .boolean))
abbrev mX8_set : fsM := (yX8_set, cX8_set, 8, (some .int))
abbrev mX8_get : fsM := (yX8_get, cX8_get, 3, (some .long))
abbrev mX8_fault : fsM := (yX8_fault, cX8_fault, 3, (some .int))
abbrev mX8_message : fsM := (yX8_message, cX8_message, 3, (some .int))
abbrev mX8_place : fsM := (yX8_place, cX8_place, 3, (some .int))
abbrev mX8_pages : fsM := (yX8_pages, cX8_pages, 1, (some .int))
abbrev mX8_line : fsM := (yX8_line, cX8_line, 3, (some .int))
abbrev mX8_count : fsM := (yX8_count, cX8_count, 4, (some .int))
abbrev mL_cell : fsM := (yL_cell, cL_cell, 2, (some .int))
abbrev mL_add : fsM := (yL_add, cL_add, 3, (some .int))
abbrev mL_close : fsM := (yL_close, cL_close, 3, (some .int))
abbrev mL_law : fsM := (yL_law, cL_law, 7, (some .boolean))
theorem ux_X1 : ∀ w ∈ u_ws RX1 TX1 3, w ∈ fs_T := fun w hw => by
  obtain ⟨k, hk, rfl⟩ := List.mem_map.mp hw
  have hk := List.mem_range.mp hk
  exact match k, hk with | 0, _ => fs_at9 122 (by decide +kernel) rfl | 1, _ => fs_at9 124 (by decide +kernel) rfl | 2, _ => fs_at9 126 (by decide +kernel) rfl | k + 3, hk => absurd hk (by omega)
theorem ux_X2 : ∀ w ∈ u_ws RX2 TX2 5, w ∈ fs_T := fun w hw => by
  obtain ⟨k, hk, rfl⟩ := List.mem_map.mp hw
  have hk := List.mem_range.mp hk
  exact match k, hk with | 0, _ => fs_at9 539 (by decide +kernel) rfl | 1, _ => fs_at9 541 (by decide +kernel) rfl | 2, _ => fs_at9 543 (by decide +kernel) rfl | 3, _ => fs_at9 545 (by decide +kernel) rfl | 4, _ => fs_at9 547 (by decide +kernel) rfl | k + 5, hk => absurd hk (by omega)
theorem ux_X3 : ∀ w ∈ u_ws RX3 TX3 8, w ∈ fs_T := fun w hw => by
  obtain ⟨k, hk, rfl⟩ := List.mem_map.mp hw
  have hk := List.mem_range.mp hk
  exact match k, hk with | 0, _ => fs_at9 174 (by decide +kernel) rfl | 1, _ => fs_at9 176 (by decide +kernel) rfl | 2, _ => fs_at9 178 (by decide +kernel) rfl | 3, _ => fs_at9 180 (by decide +kernel) rfl | 4, _ => fs_at9 182 (by decide +kernel) rfl | 5, _ => fs_at9 184 (by decide +kernel) rfl | 6, _ => fs_at9 186 (by decide +kernel) rfl | 7, _ => fs_at9 188 (by decide +kernel) rfl | k + 8, hk => absurd hk (by omega)
theorem ux_X4 : ∀ w ∈ u_ws RX4 TX4 7, w ∈ fs_T := fun w hw => by
  obtain ⟨k, hk, rfl⟩ := List.mem_map.mp hw
  have hk := List.mem_range.mp hk
  exact match k, hk with | 0, _ => fs_at9 592 (by decide +kernel) rfl | 1, _ => fs_at9 594 (by decide +kernel) rfl | 2, _ => fs_at9 596 (by decide +kernel) rfl | 3, _ => fs_at9 598 (by decide +kernel) rfl | 4, _ => fs_at9 600 (by decide +kernel) rfl | 5, _ => fs_at9 602 (by decide +kernel) rfl | 6, _ => fs_at9 604 (by decide +kernel) rfl | k + 7, hk => absurd hk (by omega)
theorem ux_X5 : ∀ w ∈ u_ws RX5 TX5 3, w ∈ fs_T := fun w hw => by
  obtain ⟨k, hk, rfl⟩ := List.mem_map.mp hw
  have hk := List.mem_range.mp hk
  exact match k, hk with | 0, _ => fs_at9 96 (by decide +kernel) rfl | 1, _ => fs_at9 98 (by decide +kernel) rfl | 2, _ => fs_at9 100 (by decide +kernel) rfl | k + 3, hk => absurd hk (by omega)
theorem ux_X6 : ∀ w ∈ u_ws RX6 TX6 5, w ∈ fs_T := fun w hw => by
  obtain ⟨k, hk, rfl⟩ := List.mem_map.mp hw
  have hk := List.mem_range.mp hk
  exact match k, hk with | 0, _ => fs_at9 140 (by decide +kernel) rfl | 1, _ => fs_at9 142 (by decide +kernel) rfl | 2, _ => fs_at9 144 (by decide +kernel) rfl | 3, _ => fs_at9 146 (by decide +kernel) rfl | 4, _ => fs_at9 148 (by decide +kernel) rfl | k + 5, hk => absurd hk (by omega)
theorem ux_X7 : ∀ w ∈ u_ws RX7 TX7 6, w ∈ fs_T := fun w hw => by
  obtain ⟨k, hk, rfl⟩ := List.mem_map.mp hw
  have hk := List.mem_range.mp hk
  exact match k, hk with | 0, _ => fs_at9 197 (by decide +kernel) rfl | 1, _ => fs_at9 199 (by decide +kernel) rfl | 2, _ => fs_at9 201 (by decide +kernel) rfl | 3, _ => fs_at9 203 (by decide +kernel) rfl | 4, _ => fs_at9 205 (by decide +kernel) rfl | 5, _ => fs_at9 207 (by decide +kernel) rfl | k + 6, hk => absurd hk (by omega)
theorem ux_X8 : ∀ w ∈ u_ws RX8 TX8 38, w ∈ fs_T := fun w hw => by
  obtain ⟨k, hk, rfl⟩ := List.mem_map.mp hw
  have hk := List.mem_range.mp hk
  exact match k, hk with | 0, _ => fs_at9 791 (by decide +kernel) rfl | 1, _ => fs_at9 793 (by decide +kernel) rfl | 2, _ => fs_at9 795 (by decide +kernel) rfl | 3, _ => fs_at9 797 (by decide +kernel) rfl | 4, _ => fs_at9 799 (by decide +kernel) rfl | 5, _ => fs_at9 801 (by decide +kernel) rfl | 6, _ => fs_at9 803 (by decide +kernel) rfl | 7, _ => fs_at9 805 (by decide +kernel) rfl | 8, _ => fs_at9 807 (by decide +kernel) rfl | 9, _ => fs_at9 809 (by decide +kernel) rfl | 10, _ => fs_at9 811 (by decide +kernel) rfl | 11, _ => fs_at9 813 (by decide +kernel) rfl | 12, _ => fs_at9 815 (by decide +kernel) rfl | 13, _ => fs_at9 817 (by decide +kernel) rfl | 14, _ => fs_at9 819 (by decide +kernel) rfl | 15, _ => fs_at9 821 (by decide +kernel) rfl | 16, _ => fs_at9 823 (by decide +kernel) rfl | 17, _ => fs_at9 825 (by decide +kernel) rfl | 18, _ => fs_at9 827 (by decide +kernel) rfl | 19, _ => fs_at9 829 (by decide +kernel) rfl | 20, _ => fs_at9 831 (by decide +kernel) rfl | 21, _ => fs_at9 833 (by decide +kernel) rfl | 22, _ => fs_at9 835 (by decide +kernel) rfl | 23, _ => fs_at9 837 (by decide +kernel) rfl | 24, _ => fs_at9 839 (by decide +kernel) rfl | 25, _ => fs_at9 841 (by decide +kernel) rfl | 26, _ => fs_at9 843 (by decide +kernel) rfl | 27, _ => fs_at9 845 (by decide +kernel) rfl | 28, _ => fs_at9 847 (by decide +kernel) rfl | 29, _ => fs_at9 849 (by decide +kernel) rfl | 30, _ => fs_at9 851 (by decide +kernel) rfl | 31, _ => fs_at9 853 (by decide +kernel) rfl | 32, _ => fs_at9 855 (by decide +kernel) rfl | 33, _ => fs_at9 857 (by decide +kernel) rfl | 34, _ => fs_at9 859 (by decide +kernel) rfl | 35, _ => fs_at9 861 (by decide +kernel) rfl | 36, _ => fs_at9 863 (by decide +kernel) rfl | 37, _ => fs_at9 865 (by decide +kernel) rfl | k + 38, hk => absurd hk (by omega)
theorem w_oi1 : Cond.instanceMethod objectInit ∈ fs_T := fs_in (by decide +kernel) rfl
theorem w_oi2 : Cond.code objectInit ⟨#[0xb1]⟩ 1 none ∈ fs_T := fs_in (by decide +kernel) rfl
theorem w_mi : Cond.initialized "java/lang/Math" ∈ fs_T := fs_in (by decide +kernel) rfl
theorem w_ms_max : Cond.static Lib.Math.max.name ∈ fs_T := fs_in (by decide +kernel) rfl
theorem w_mc_max : Cond.code Lib.Math.max.name Lib.Math.max.code 2 (some .int) ∈ fs_T := fs_in (by decide +kernel) rfl
theorem w_ms_min : Cond.static Lib.Math.min.name ∈ fs_T := fs_in (by decide +kernel) rfl
theorem w_mc_min : Cond.code Lib.Math.min.name Lib.Math.min.code 2 (some .int) ∈ fs_T := fs_in (by decide +kernel) rfl
theorem w_ms_abs : Cond.static Lib.MathLoose.abs_long.x ∈ fs_T := fs_in (by decide +kernel) rfl
theorem w_mc_abs : Cond.code Lib.MathLoose.abs_long.x Lib.MathLoose.abs_long.code 2 (some .long) ∈ fs_T := fs_in (by decide +kernel) rfl
theorem so_X7_3 : Cond.methodLink RX7 3 objectInit ∈ fs_T := fs_at9 84 (by decide +kernel) rfl
theorem sf_X7_9 : fs_F RX7 9 6 0 := ⟨RX7, TX7, 6, rfl, ux_X7, by decide, fs_at9 191 (by decide +kernel) rfl⟩
theorem sp_X7_9 : fs_FP RX7 9 6 0 .int false := ⟨RX7, TX7, 6, tyX7, rfl, ux_X7, by decide, fs_at9 191 (by decide +kernel) rfl, tyX7_ok, nmX7, rfl, rfl, fun h => absurd h (by decide)⟩
theorem sf_X7_13 : fs_F RX7 13 6 1 := ⟨RX7, TX7, 6, rfl, ux_X7, by decide, fs_at9 192 (by decide +kernel) rfl⟩
theorem sp_X7_13 : fs_FP RX7 13 6 1 .boolean false := ⟨RX7, TX7, 6, tyX7, rfl, ux_X7, by decide, fs_at9 192 (by decide +kernel) rfl, tyX7_ok, nmX7, rfl, rfl, fun h => absurd h (by decide)⟩
theorem sw_X7_17 : fs_NW RX7 17 4 3 [fsR none, fsI 0, fsI 0] := ⟨RX5, TX5, tyX5, rfl, ux_X5, tyX5_ok, fs_at9 87 (by decide +kernel) rfl, fs_at9 88 (by decide +kernel) rfl, fs_at9 64 (by decide +kernel) rfl, fun b j hj => match j with | 0 => rfl | 1 => rfl | 2 => rfl | j + 3 => absurd hj (by omega)⟩
theorem sc_mX5_init : Cond.code mX5_init.1 mX5_init.2.1 mX5_init.2.2.1 mX5_init.2.2.2 ∈ fs_T := fs_at9 91 (by decide +kernel) rfl
theorem sn_mX5_init : Cond.initialized mX5_init.1.cls ∈ fs_T := fs_at9 64 (by decide +kernel) rfl
theorem sd_mX5_init : mX5_init.1.cls ≠ "java/lang/invoke/MethodHandle" ∧ mX5_init.1.cls ≠ "java/lang/invoke/VarHandle" ∧ (parseMethodDescriptor mX5_init.1.desc).map (fun d => d.parameters.length) = some 0 ∧ mX5_init.2.2.1 ≤ 45 := ⟨by decide, by decide, by decide +kernel, by decide⟩
theorem si_mX5_init : Cond.instanceMethod mX5_init.1 ∈ fs_T := fs_at9 90 (by decide +kernel) rfl
theorem sv_X7_19 : fs_SIN RX7 19 mX5_init 0 := ⟨sc_mX5_init, rfl, ⟨"FormSheet", List.mem_filter.mpr ⟨List.mem_of_getElem? (i := 89) (by decide +kernel), rfl⟩⟩, si_mX5_init, sn_mX5_init, rfl, sd_mX5_init.1, sd_mX5_init.2.1, sd_mX5_init.2.2.1, sd_mX5_init.2.2.2⟩
theorem sf_X7_20 : fs_F RX7 20 6 2 := ⟨RX7, TX7, 6, rfl, ux_X7, by decide, fs_at9 193 (by decide +kernel) rfl⟩
theorem sp_X7_20 : fs_FP RX7 20 6 2 (tyX7 2) true := ⟨RX7, TX7, 6, tyX7, rfl, ux_X7, by decide, fs_at9 193 (by decide +kernel) rfl, tyX7_ok, nmX7, rfl, rfl, fun h => rfl⟩
theorem sw_X7_24 : fs_NW RX7 24 0 3 [fsR none, fsI 0, fsI 0] := ⟨RX1, TX1, tyX1, rfl, ux_X1, tyX1_ok, fs_at9 104 (by decide +kernel) rfl, fs_at9 105 (by decide +kernel) rfl, fs_at9 65 (by decide +kernel) rfl, fun b j hj => match j with | 0 => rfl | 1 => rfl | 2 => rfl | j + 3 => absurd hj (by omega)⟩
theorem sc_mX1_init : Cond.code mX1_init.1 mX1_init.2.1 mX1_init.2.2.1 mX1_init.2.2.2 ∈ fs_T := fs_at9 108 (by decide +kernel) rfl
theorem sn_mX1_init : Cond.initialized mX1_init.1.cls ∈ fs_T := fs_at9 65 (by decide +kernel) rfl
theorem sd_mX1_init : mX1_init.1.cls ≠ "java/lang/invoke/MethodHandle" ∧ mX1_init.1.cls ≠ "java/lang/invoke/VarHandle" ∧ (parseMethodDescriptor mX1_init.1.desc).map (fun d => d.parameters.length) = some 0 ∧ mX1_init.2.2.1 ≤ 45 := ⟨by decide, by decide, by decide +kernel, by decide⟩
theorem si_mX1_init : Cond.instanceMethod mX1_init.1 ∈ fs_T := fs_at9 107 (by decide +kernel) rfl
theorem sv_X7_26 : fs_SIN RX7 26 mX1_init 0 := ⟨sc_mX1_init, rfl, ⟨"FormSheet", List.mem_filter.mpr ⟨List.mem_of_getElem? (i := 106) (by decide +kernel), rfl⟩⟩, si_mX1_init, sn_mX1_init, rfl, sd_mX1_init.1, sd_mX1_init.2.1, sd_mX1_init.2.2.1, sd_mX1_init.2.2.2⟩
theorem sf_X7_27 : fs_F RX7 27 6 3 := ⟨RX7, TX7, 6, rfl, ux_X7, by decide, fs_at9 194 (by decide +kernel) rfl⟩
theorem sp_X7_27 : fs_FP RX7 27 6 3 (tyX7 3) true := ⟨RX7, TX7, 6, tyX7, rfl, ux_X7, by decide, fs_at9 194 (by decide +kernel) rfl, tyX7_ok, nmX7, rfl, rfl, fun h => rfl⟩
theorem sw_X7_31 : fs_NW RX7 31 5 5 [fsR none, fsR none, fsR none, fsR none, fsI 0] := ⟨RX6, TX6, tyX6, rfl, ux_X6, tyX6_ok, fs_at9 129 (by decide +kernel) rfl, fs_at9 130 (by decide +kernel) rfl, fs_at9 66 (by decide +kernel) rfl, fun b j hj => match j with | 0 => rfl | 1 => rfl | 2 => rfl | 3 => rfl | 4 => rfl | j + 5 => absurd hj (by omega)⟩
theorem sc_mX6_init : Cond.code mX6_init.1 mX6_init.2.1 mX6_init.2.2.1 mX6_init.2.2.2 ∈ fs_T := fs_at9 133 (by decide +kernel) rfl
theorem sn_mX6_init : Cond.initialized mX6_init.1.cls ∈ fs_T := fs_at9 66 (by decide +kernel) rfl
theorem sd_mX6_init : mX6_init.1.cls ≠ "java/lang/invoke/MethodHandle" ∧ mX6_init.1.cls ≠ "java/lang/invoke/VarHandle" ∧ (parseMethodDescriptor mX6_init.1.desc).map (fun d => d.parameters.length) = some 1 ∧ mX6_init.2.2.1 ≤ 45 := ⟨by decide, by decide, by decide +kernel, by decide⟩
theorem si_mX6_init : Cond.instanceMethod mX6_init.1 ∈ fs_T := fs_at9 132 (by decide +kernel) rfl
theorem sv_X7_33 : fs_SI RX7 33 mX6_init 1 := ⟨sc_mX6_init, rfl, fs_at9 131 (by decide +kernel) rfl, si_mX6_init, sn_mX6_init, rfl, sd_mX6_init.1, sd_mX6_init.2.1, sd_mX6_init.2.2.1, sd_mX6_init.2.2.2⟩
theorem sf_X7_36 : fs_F RX7 36 6 4 := ⟨RX7, TX7, 6, rfl, ux_X7, by decide, fs_at9 195 (by decide +kernel) rfl⟩
theorem sp_X7_36 : fs_FP RX7 36 6 4 (tyX7 4) true := ⟨RX7, TX7, 6, tyX7, rfl, ux_X7, by decide, fs_at9 195 (by decide +kernel) rfl, tyX7_ok, nmX7, rfl, rfl, fun h => rfl⟩
theorem sw_X7_40 : fs_NW RX7 40 2 8 [fsI 0, fsR none, fsR none, fsR none, fsR none, fsR none, fsR none, fsI 0] := ⟨RX3, TX3, tyX3, rfl, ux_X3, tyX3_ok, fs_at9 153 (by decide +kernel) rfl, fs_at9 154 (by decide +kernel) rfl, fs_at9 67 (by decide +kernel) rfl, fun b j hj => match j with | 0 => rfl | 1 => rfl | 2 => rfl | 3 => rfl | 4 => rfl | 5 => rfl | 6 => rfl | 7 => rfl | j + 8 => absurd hj (by omega)⟩
theorem sl_X7_42 : Cond.methodLink RX7 42 Lib.Math.min.name ∈ fs_T := fs_at9 155 (by decide +kernel) rfl
theorem sl_X7_48 : Cond.methodLink RX7 48 Lib.Math.max.name ∈ fs_T := fs_at9 158 (by decide +kernel) rfl
theorem sc_mX3_init : Cond.code mX3_init.1 mX3_init.2.1 mX3_init.2.2.1 mX3_init.2.2.2 ∈ fs_T := fs_at9 163 (by decide +kernel) rfl
theorem sn_mX3_init : Cond.initialized mX3_init.1.cls ∈ fs_T := fs_at9 67 (by decide +kernel) rfl
theorem sd_mX3_init : mX3_init.1.cls ≠ "java/lang/invoke/MethodHandle" ∧ mX3_init.1.cls ≠ "java/lang/invoke/VarHandle" ∧ (parseMethodDescriptor mX3_init.1.desc).map (fun d => d.parameters.length) = some 3 ∧ mX3_init.2.2.1 ≤ 45 := ⟨by decide, by decide, by decide +kernel, by decide⟩
theorem si_mX3_init : Cond.instanceMethod mX3_init.1 ∈ fs_T := fs_at9 162 (by decide +kernel) rfl
theorem sv_X7_51 : fs_SI RX7 51 mX3_init 3 := ⟨sc_mX3_init, rfl, fs_at9 161 (by decide +kernel) rfl, si_mX3_init, sn_mX3_init, rfl, sd_mX3_init.1, sd_mX3_init.2.1, sd_mX3_init.2.2.1, sd_mX3_init.2.2.2⟩
theorem sf_X7_54 : fs_F RX7 54 6 5 := ⟨RX7, TX7, 6, rfl, ux_X7, by decide, fs_at9 196 (by decide +kernel) rfl⟩
theorem sp_X7_54 : fs_FP RX7 54 6 5 (tyX7 5) true := ⟨RX7, TX7, 6, tyX7, rfl, ux_X7, by decide, fs_at9 196 (by decide +kernel) rfl, tyX7_ok, nmX7, rfl, rfl, fun h => rfl⟩
theorem sc_mX5_append : Cond.code mX5_append.1 mX5_append.2.1 mX5_append.2.2.1 mX5_append.2.2.2 ∈ fs_T := fs_at9 217 (by decide +kernel) rfl
theorem sn_mX5_append : Cond.initialized mX5_append.1.cls ∈ fs_T := fs_at9 64 (by decide +kernel) rfl
theorem sd_mX5_append : mX5_append.1.cls ≠ "java/lang/invoke/MethodHandle" ∧ mX5_append.1.cls ≠ "java/lang/invoke/VarHandle" ∧ (parseMethodDescriptor mX5_append.1.desc).map (fun d => d.parameters.length) = some 1 ∧ mX5_append.2.2.1 ≤ 45 := ⟨by decide, by decide, by decide +kernel, by decide⟩
theorem si_mX5_append : Cond.instanceMethod mX5_append.1 ∈ fs_T := fs_at9 215 (by decide +kernel) rfl
theorem se_mX5_append : Cond.selects mX5_append.1.cls mX5_append.1 mX5_append.1 ∈ fs_T := fs_at9 216 (by decide +kernel) rfl
theorem sv_X7_58 : fs_SV RX7 58 mX5_append 1 := ⟨sc_mX5_append, fs_at9 214 (by decide +kernel) rfl, si_mX5_append, se_mX5_append, sn_mX5_append, sd_mX5_append.1, sd_mX5_append.2.1, sd_mX5_append.2.2.1, sd_mX5_append.2.2.2⟩
theorem sc_mX5_takeItem : Cond.code mX5_takeItem.1 mX5_takeItem.2.1 mX5_takeItem.2.2.1 mX5_takeItem.2.2.2 ∈ fs_T := fs_at9 502 (by decide +kernel) rfl
theorem sn_mX5_takeItem : Cond.initialized mX5_takeItem.1.cls ∈ fs_T := fs_at9 64 (by decide +kernel) rfl
theorem sd_mX5_takeItem : mX5_takeItem.1.cls ≠ "java/lang/invoke/MethodHandle" ∧ mX5_takeItem.1.cls ≠ "java/lang/invoke/VarHandle" ∧ (parseMethodDescriptor mX5_takeItem.1.desc).map (fun d => d.parameters.length) = some 0 ∧ mX5_takeItem.2.2.1 ≤ 45 := ⟨by decide, by decide, by decide +kernel, by decide⟩
theorem si_mX5_takeItem : Cond.instanceMethod mX5_takeItem.1 ∈ fs_T := fs_at9 500 (by decide +kernel) rfl
theorem se_mX5_takeItem : Cond.selects mX5_takeItem.1.cls mX5_takeItem.1 mX5_takeItem.1 ∈ fs_T := fs_at9 501 (by decide +kernel) rfl
theorem sv_X7_62 : fs_SV RX7 62 mX5_takeItem 0 := ⟨sc_mX5_takeItem, fs_at9 499 (by decide +kernel) rfl, si_mX5_takeItem, se_mX5_takeItem, sn_mX5_takeItem, sd_mX5_takeItem.1, sd_mX5_takeItem.2.1, sd_mX5_takeItem.2.2.1, sd_mX5_takeItem.2.2.2⟩
theorem sc_mX5_reached : Cond.code mX5_reached.1 mX5_reached.2.1 mX5_reached.2.2.1 mX5_reached.2.2.2 ∈ fs_T := fs_at9 629 (by decide +kernel) rfl
theorem sn_mX5_reached : Cond.initialized mX5_reached.1.cls ∈ fs_T := fs_at9 64 (by decide +kernel) rfl
theorem sd_mX5_reached : mX5_reached.1.cls ≠ "java/lang/invoke/MethodHandle" ∧ mX5_reached.1.cls ≠ "java/lang/invoke/VarHandle" ∧ (parseMethodDescriptor mX5_reached.1.desc).map (fun d => d.parameters.length) = some 0 ∧ mX5_reached.2.2.1 ≤ 45 := ⟨by decide, by decide, by decide +kernel, by decide⟩
theorem si_mX5_reached : Cond.instanceMethod mX5_reached.1 ∈ fs_T := fs_at9 627 (by decide +kernel) rfl
theorem se_mX5_reached : Cond.selects mX5_reached.1.cls mX5_reached.1 mX5_reached.1 ∈ fs_T := fs_at9 628 (by decide +kernel) rfl
theorem sv_X7_66 : fs_SV RX7 66 mX5_reached 0 := ⟨sc_mX5_reached, fs_at9 626 (by decide +kernel) rfl, si_mX5_reached, se_mX5_reached, sn_mX5_reached, sd_mX5_reached.1, sd_mX5_reached.2.1, sd_mX5_reached.2.2.1, sd_mX5_reached.2.2.2⟩
theorem sc_mX1_canTake : Cond.code mX1_canTake.1 mX1_canTake.2.1 mX1_canTake.2.2.1 mX1_canTake.2.2.2 ∈ fs_T := fs_at9 700 (by decide +kernel) rfl
theorem sn_mX1_canTake : Cond.initialized mX1_canTake.1.cls ∈ fs_T := fs_at9 65 (by decide +kernel) rfl
theorem sd_mX1_canTake : mX1_canTake.1.cls ≠ "java/lang/invoke/MethodHandle" ∧ mX1_canTake.1.cls ≠ "java/lang/invoke/VarHandle" ∧ (parseMethodDescriptor mX1_canTake.1.desc).map (fun d => d.parameters.length) = some 1 ∧ mX1_canTake.2.2.1 ≤ 45 := ⟨by decide, by decide, by decide +kernel, by decide⟩
theorem si_mX1_canTake : Cond.instanceMethod mX1_canTake.1 ∈ fs_T := fs_at9 698 (by decide +kernel) rfl
theorem se_mX1_canTake : Cond.selects mX1_canTake.1.cls mX1_canTake.1 mX1_canTake.1 ∈ fs_T := fs_at9 699 (by decide +kernel) rfl
theorem sv_X7_77 : fs_SV RX7 77 mX1_canTake 1 := ⟨sc_mX1_canTake, fs_at9 697 (by decide +kernel) rfl, si_mX1_canTake, se_mX1_canTake, sn_mX1_canTake, sd_mX1_canTake.1, sd_mX1_canTake.2.1, sd_mX1_canTake.2.2.1, sd_mX1_canTake.2.2.2⟩
theorem sc_mX1_take : Cond.code mX1_take.1 mX1_take.2.1 mX1_take.2.2.1 mX1_take.2.2.2 ∈ fs_T := fs_at9 724 (by decide +kernel) rfl
theorem sn_mX1_take : Cond.initialized mX1_take.1.cls ∈ fs_T := fs_at9 65 (by decide +kernel) rfl
theorem sd_mX1_take : mX1_take.1.cls ≠ "java/lang/invoke/MethodHandle" ∧ mX1_take.1.cls ≠ "java/lang/invoke/VarHandle" ∧ (parseMethodDescriptor mX1_take.1.desc).map (fun d => d.parameters.length) = some 1 ∧ mX1_take.2.2.1 ≤ 45 := ⟨by decide, by decide, by decide +kernel, by decide⟩
theorem si_mX1_take : Cond.instanceMethod mX1_take.1 ∈ fs_T := fs_at9 722 (by decide +kernel) rfl
theorem se_mX1_take : Cond.selects mX1_take.1.cls mX1_take.1 mX1_take.1 ∈ fs_T := fs_at9 723 (by decide +kernel) rfl
theorem sv_X7_86 : fs_SV RX7 86 mX1_take 1 := ⟨sc_mX1_take, fs_at9 721 (by decide +kernel) rfl, si_mX1_take, se_mX1_take, sn_mX1_take, sd_mX1_take.1, sd_mX1_take.2.1, sd_mX1_take.2.2.1, sd_mX1_take.2.2.2⟩
theorem sc_mX1_resolveNames : Cond.code mX1_resolveNames.1 mX1_resolveNames.2.1 mX1_resolveNames.2.2.1 mX1_resolveNames.2.2.2 ∈ fs_T := fs_at9 736 (by decide +kernel) rfl
theorem sn_mX1_resolveNames : Cond.initialized mX1_resolveNames.1.cls ∈ fs_T := fs_at9 65 (by decide +kernel) rfl
theorem sd_mX1_resolveNames : mX1_resolveNames.1.cls ≠ "java/lang/invoke/MethodHandle" ∧ mX1_resolveNames.1.cls ≠ "java/lang/invoke/VarHandle" ∧ (parseMethodDescriptor mX1_resolveNames.1.desc).map (fun d => d.parameters.length) = some 0 ∧ mX1_resolveNames.2.2.1 ≤ 45 := ⟨by decide, by decide, by decide +kernel, by decide⟩
theorem si_mX1_resolveNames : Cond.instanceMethod mX1_resolveNames.1 ∈ fs_T := fs_at9 734 (by decide +kernel) rfl
theorem se_mX1_resolveNames : Cond.selects mX1_resolveNames.1.cls mX1_resolveNames.1 mX1_resolveNames.1 ∈ fs_T := fs_at9 735 (by decide +kernel) rfl
theorem sv_X7_92 : fs_SV RX7 92 mX1_resolveNames 0 := ⟨sc_mX1_resolveNames, fs_at9 733 (by decide +kernel) rfl, si_mX1_resolveNames, se_mX1_resolveNames, sn_mX1_resolveNames, sd_mX1_resolveNames.1, sd_mX1_resolveNames.2.1, sd_mX1_resolveNames.2.2.1, sd_mX1_resolveNames.2.2.2⟩
theorem sc_mX6_forgetAll : Cond.code mX6_forgetAll.1 mX6_forgetAll.2.1 mX6_forgetAll.2.2.1 mX6_forgetAll.2.2.2 ∈ fs_T := fs_at9 746 (by decide +kernel) rfl
theorem sn_mX6_forgetAll : Cond.initialized mX6_forgetAll.1.cls ∈ fs_T := fs_at9 66 (by decide +kernel) rfl
theorem sd_mX6_forgetAll : mX6_forgetAll.1.cls ≠ "java/lang/invoke/MethodHandle" ∧ mX6_forgetAll.1.cls ≠ "java/lang/invoke/VarHandle" ∧ (parseMethodDescriptor mX6_forgetAll.1.desc).map (fun d => d.parameters.length) = some 0 ∧ mX6_forgetAll.2.2.1 ≤ 45 := ⟨by decide, by decide, by decide +kernel, by decide⟩
theorem si_mX6_forgetAll : Cond.instanceMethod mX6_forgetAll.1 ∈ fs_T := fs_at9 744 (by decide +kernel) rfl
theorem se_mX6_forgetAll : Cond.selects mX6_forgetAll.1.cls mX6_forgetAll.1 mX6_forgetAll.1 ∈ fs_T := fs_at9 745 (by decide +kernel) rfl
theorem sv_X7_98 : fs_SV RX7 98 mX6_forgetAll 0 := ⟨sc_mX6_forgetAll, fs_at9 743 (by decide +kernel) rfl, si_mX6_forgetAll, se_mX6_forgetAll, sn_mX6_forgetAll, sd_mX6_forgetAll.1, sd_mX6_forgetAll.2.1, sd_mX6_forgetAll.2.2.1, sd_mX6_forgetAll.2.2.2⟩
theorem sc_mX6_workOutAll : Cond.code mX6_workOutAll.1 mX6_workOutAll.2.1 mX6_workOutAll.2.2.1 mX6_workOutAll.2.2.2 ∈ fs_T := fs_at9 253 (by decide +kernel) rfl
theorem sn_mX6_workOutAll : Cond.initialized mX6_workOutAll.1.cls ∈ fs_T := fs_at9 66 (by decide +kernel) rfl
theorem sd_mX6_workOutAll : mX6_workOutAll.1.cls ≠ "java/lang/invoke/MethodHandle" ∧ mX6_workOutAll.1.cls ≠ "java/lang/invoke/VarHandle" ∧ (parseMethodDescriptor mX6_workOutAll.1.desc).map (fun d => d.parameters.length) = some 0 ∧ mX6_workOutAll.2.2.1 ≤ 45 := ⟨by decide, by decide, by decide +kernel, by decide⟩
theorem si_mX6_workOutAll : Cond.instanceMethod mX6_workOutAll.1 ∈ fs_T := fs_at9 251 (by decide +kernel) rfl
theorem se_mX6_workOutAll : Cond.selects mX6_workOutAll.1.cls mX6_workOutAll.1 mX6_workOutAll.1 ∈ fs_T := fs_at9 252 (by decide +kernel) rfl
theorem sv_X7_101 : fs_SV RX7 101 mX6_workOutAll 0 := ⟨sc_mX6_workOutAll, fs_at9 250 (by decide +kernel) rfl, si_mX6_workOutAll, se_mX6_workOutAll, sn_mX6_workOutAll, sd_mX6_workOutAll.1, sd_mX6_workOutAll.2.1, sd_mX6_workOutAll.2.2.1, sd_mX6_workOutAll.2.2.2⟩
theorem sc_mX3_layOut : Cond.code mX3_layOut.1 mX3_layOut.2.1 mX3_layOut.2.2.1 mX3_layOut.2.2.2 ∈ fs_T := fs_at9 349 (by decide +kernel) rfl
theorem sn_mX3_layOut : Cond.initialized mX3_layOut.1.cls ∈ fs_T := fs_at9 67 (by decide +kernel) rfl
theorem sd_mX3_layOut : mX3_layOut.1.cls ≠ "java/lang/invoke/MethodHandle" ∧ mX3_layOut.1.cls ≠ "java/lang/invoke/VarHandle" ∧ (parseMethodDescriptor mX3_layOut.1.desc).map (fun d => d.parameters.length) = some 0 ∧ mX3_layOut.2.2.1 ≤ 45 := ⟨by decide, by decide, by decide +kernel, by decide⟩
theorem si_mX3_layOut : Cond.instanceMethod mX3_layOut.1 ∈ fs_T := fs_at9 347 (by decide +kernel) rfl
theorem se_mX3_layOut : Cond.selects mX3_layOut.1.cls mX3_layOut.1 mX3_layOut.1 ∈ fs_T := fs_at9 348 (by decide +kernel) rfl
theorem sv_X7_104 : fs_SV RX7 104 mX3_layOut 0 := ⟨sc_mX3_layOut, fs_at9 346 (by decide +kernel) rfl, si_mX3_layOut, se_mX3_layOut, sn_mX3_layOut, sd_mX3_layOut.1, sd_mX3_layOut.2.1, sd_mX3_layOut.2.2.1, sd_mX3_layOut.2.2.2⟩
theorem sc_mX1_valueCount : Cond.code mX1_valueCount.1 mX1_valueCount.2.1 mX1_valueCount.2.2.1 mX1_valueCount.2.2.2 ∈ fs_T := fs_at9 412 (by decide +kernel) rfl
theorem sn_mX1_valueCount : Cond.initialized mX1_valueCount.1.cls ∈ fs_T := fs_at9 65 (by decide +kernel) rfl
theorem sd_mX1_valueCount : mX1_valueCount.1.cls ≠ "java/lang/invoke/MethodHandle" ∧ mX1_valueCount.1.cls ≠ "java/lang/invoke/VarHandle" ∧ (parseMethodDescriptor mX1_valueCount.1.desc).map (fun d => d.parameters.length) = some 0 ∧ mX1_valueCount.2.2.1 ≤ 45 := ⟨by decide, by decide, by decide +kernel, by decide⟩
theorem si_mX1_valueCount : Cond.instanceMethod mX1_valueCount.1 ∈ fs_T := fs_at9 410 (by decide +kernel) rfl
theorem se_mX1_valueCount : Cond.selects mX1_valueCount.1.cls mX1_valueCount.1 mX1_valueCount.1 ∈ fs_T := fs_at9 411 (by decide +kernel) rfl
theorem sv_X7_107 : fs_SV RX7 107 mX1_valueCount 0 := ⟨sc_mX1_valueCount, fs_at9 409 (by decide +kernel) rfl, si_mX1_valueCount, se_mX1_valueCount, sn_mX1_valueCount, sd_mX1_valueCount.1, sd_mX1_valueCount.2.1, sd_mX1_valueCount.2.2.1, sd_mX1_valueCount.2.2.2⟩
theorem sc_mX1_empty : Cond.code mX1_empty.1 mX1_empty.2.1 mX1_empty.2.2.1 mX1_empty.2.2.2 ∈ fs_T := fs_at9 233 (by decide +kernel) rfl
theorem sn_mX1_empty : Cond.initialized mX1_empty.1.cls ∈ fs_T := fs_at9 65 (by decide +kernel) rfl
theorem sd_mX1_empty : mX1_empty.1.cls ≠ "java/lang/invoke/MethodHandle" ∧ mX1_empty.1.cls ≠ "java/lang/invoke/VarHandle" ∧ (parseMethodDescriptor mX1_empty.1.desc).map (fun d => d.parameters.length) = some 0 ∧ mX1_empty.2.2.1 ≤ 45 := ⟨by decide, by decide, by decide +kernel, by decide⟩
theorem si_mX1_empty : Cond.instanceMethod mX1_empty.1 ∈ fs_T := fs_at9 231 (by decide +kernel) rfl
theorem se_mX1_empty : Cond.selects mX1_empty.1.cls mX1_empty.1 mX1_empty.1 ∈ fs_T := fs_at9 232 (by decide +kernel) rfl
theorem sv_X7_110 : fs_SV RX7 110 mX1_empty 0 := ⟨sc_mX1_empty, fs_at9 230 (by decide +kernel) rfl, si_mX1_empty, se_mX1_empty, sn_mX1_empty, sd_mX1_empty.1, sd_mX1_empty.2.1, sd_mX1_empty.2.2.1, sd_mX1_empty.2.2.2⟩
theorem sf_X7_113 : fs_F RX7 113 0 2 := ⟨RX1, TX1, 3, rfl, ux_X1, by decide, fs_at9 120 (by decide +kernel) rfl⟩
theorem sc_mX6_forgetRowsFrom : Cond.code mX6_forgetRowsFrom.1 mX6_forgetRowsFrom.2.1 mX6_forgetRowsFrom.2.2.1 mX6_forgetRowsFrom.2.2.2 ∈ fs_T := fs_at9 241 (by decide +kernel) rfl
theorem sn_mX6_forgetRowsFrom : Cond.initialized mX6_forgetRowsFrom.1.cls ∈ fs_T := fs_at9 66 (by decide +kernel) rfl
theorem sd_mX6_forgetRowsFrom : mX6_forgetRowsFrom.1.cls ≠ "java/lang/invoke/MethodHandle" ∧ mX6_forgetRowsFrom.1.cls ≠ "java/lang/invoke/VarHandle" ∧ (parseMethodDescriptor mX6_forgetRowsFrom.1.desc).map (fun d => d.parameters.length) = some 1 ∧ mX6_forgetRowsFrom.2.2.1 ≤ 45 := ⟨by decide, by decide, by decide +kernel, by decide⟩
theorem si_mX6_forgetRowsFrom : Cond.instanceMethod mX6_forgetRowsFrom.1 ∈ fs_T := fs_at9 239 (by decide +kernel) rfl
theorem se_mX6_forgetRowsFrom : Cond.selects mX6_forgetRowsFrom.1.cls mX6_forgetRowsFrom.1 mX6_forgetRowsFrom.1 ∈ fs_T := fs_at9 240 (by decide +kernel) rfl
theorem sv_X7_116 : fs_SV RX7 116 mX6_forgetRowsFrom 1 := ⟨sc_mX6_forgetRowsFrom, fs_at9 238 (by decide +kernel) rfl, si_mX6_forgetRowsFrom, se_mX6_forgetRowsFrom, sn_mX6_forgetRowsFrom, sd_mX6_forgetRowsFrom.1, sd_mX6_forgetRowsFrom.2.1, sd_mX6_forgetRowsFrom.2.2.1, sd_mX6_forgetRowsFrom.2.2.2⟩
theorem sp_X7_113 : fs_FP RX7 113 0 2 .int false := ⟨RX1, TX1, 3, tyX1, rfl, ux_X1, by decide, fs_at9 120 (by decide +kernel) rfl, tyX1_ok, nmX1, rfl, rfl, fun h => absurd h (by decide)⟩
theorem sc_mX7_isThere : Cond.code mX7_isThere.1 mX7_isThere.2.1 mX7_isThere.2.2.1 mX7_isThere.2.2.2 ∈ fs_T := fs_at9 421 (by decide +kernel) rfl
theorem sn_mX7_isThere : Cond.initialized mX7_isThere.1.cls ∈ fs_T := fs_at9 63 (by decide +kernel) rfl
theorem sd_mX7_isThere : mX7_isThere.1.cls ≠ "java/lang/invoke/MethodHandle" ∧ mX7_isThere.1.cls ≠ "java/lang/invoke/VarHandle" ∧ (parseMethodDescriptor mX7_isThere.1.desc).map (fun d => d.parameters.length) = some 2 ∧ mX7_isThere.2.2.1 ≤ 45 := ⟨by decide, by decide, by decide +kernel, by decide⟩
theorem si_mX7_isThere : Cond.instanceMethod mX7_isThere.1 ∈ fs_T := fs_at9 420 (by decide +kernel) rfl
theorem se_mX7_isThere : Cond.selects mX7_isThere.1.cls mX7_isThere.1 mX7_isThere.1 ∈ fs_T := fs_at9 19 (by decide +kernel) rfl
theorem sv_X7_120 : fs_SV RX7 120 mX7_isThere 2 := ⟨sc_mX7_isThere, fs_at9 418 (by decide +kernel) rfl, si_mX7_isThere, se_mX7_isThere, sn_mX7_isThere, sd_mX7_isThere.1, sd_mX7_isThere.2.1, sd_mX7_isThere.2.2.1, sd_mX7_isThere.2.2.2⟩
theorem sc_mX1_isTold : Cond.code mX1_isTold.1 mX1_isTold.2.1 mX1_isTold.2.2.1 mX1_isTold.2.2.2 ∈ fs_T := fs_at9 426 (by decide +kernel) rfl
theorem sn_mX1_isTold : Cond.initialized mX1_isTold.1.cls ∈ fs_T := fs_at9 65 (by decide +kernel) rfl
theorem sd_mX1_isTold : mX1_isTold.1.cls ≠ "java/lang/invoke/MethodHandle" ∧ mX1_isTold.1.cls ≠ "java/lang/invoke/VarHandle" ∧ (parseMethodDescriptor mX1_isTold.1.desc).map (fun d => d.parameters.length) = some 1 ∧ mX1_isTold.2.2.1 ≤ 45 := ⟨by decide, by decide, by decide +kernel, by decide⟩
theorem si_mX1_isTold : Cond.instanceMethod mX1_isTold.1 ∈ fs_T := fs_at9 424 (by decide +kernel) rfl
theorem se_mX1_isTold : Cond.selects mX1_isTold.1.cls mX1_isTold.1 mX1_isTold.1 ∈ fs_T := fs_at9 425 (by decide +kernel) rfl
theorem sv_X7_124 : fs_SV RX7 124 mX1_isTold 1 := ⟨sc_mX1_isTold, fs_at9 423 (by decide +kernel) rfl, si_mX1_isTold, se_mX1_isTold, sn_mX1_isTold, sd_mX1_isTold.1, sd_mX1_isTold.2.1, sd_mX1_isTold.2.2.1, sd_mX1_isTold.2.2.2⟩
theorem sk_X7_128 : Cond.constantLong RX7 128 (-1000000000000000) ∈ fs_T := fs_at9 427 (by decide +kernel) rfl
theorem sk_X7_130 : Cond.constantLong RX7 130 (1000000000000000) ∈ fs_T := fs_at9 318 (by decide +kernel) rfl
theorem sc_mX7_cellOf : Cond.code mX7_cellOf.1 mX7_cellOf.2.1 mX7_cellOf.2.2.1 mX7_cellOf.2.2.2 ∈ fs_T := fs_at9 249 (by decide +kernel) rfl
theorem sn_mX7_cellOf : Cond.initialized mX7_cellOf.1.cls ∈ fs_T := fs_at9 63 (by decide +kernel) rfl
theorem sd_mX7_cellOf : mX7_cellOf.1.cls ≠ "java/lang/invoke/MethodHandle" ∧ mX7_cellOf.1.cls ≠ "java/lang/invoke/VarHandle" ∧ (parseMethodDescriptor mX7_cellOf.1.desc).map (fun d => d.parameters.length) = some 2 ∧ mX7_cellOf.2.2.1 ≤ 45 := ⟨by decide, by decide, by decide +kernel, by decide⟩
theorem ss_mX7_cellOf : Cond.static mX7_cellOf.1 ∈ fs_T := fs_at9 248 (by decide +kernel) rfl
theorem sv_X7_132 : fs_SS RX7 132 mX7_cellOf 2 := ⟨sc_mX7_cellOf, fs_at9 428 (by decide +kernel) rfl, ss_mX7_cellOf, sn_mX7_cellOf, sd_mX7_cellOf.1, sd_mX7_cellOf.2.1, sd_mX7_cellOf.2.2.1, sd_mX7_cellOf.2.2.2⟩
theorem sc_mX6_tell : Cond.code mX6_tell.1 mX6_tell.2.1 mX6_tell.2.2.1 mX6_tell.2.2.2 ∈ fs_T := fs_at9 432 (by decide +kernel) rfl
theorem sn_mX6_tell : Cond.initialized mX6_tell.1.cls ∈ fs_T := fs_at9 66 (by decide +kernel) rfl
theorem sd_mX6_tell : mX6_tell.1.cls ≠ "java/lang/invoke/MethodHandle" ∧ mX6_tell.1.cls ≠ "java/lang/invoke/VarHandle" ∧ (parseMethodDescriptor mX6_tell.1.desc).map (fun d => d.parameters.length) = some 2 ∧ mX6_tell.2.2.1 ≤ 45 := ⟨by decide, by decide, by decide +kernel, by decide⟩
theorem si_mX6_tell : Cond.instanceMethod mX6_tell.1 ∈ fs_T := fs_at9 430 (by decide +kernel) rfl
theorem se_mX6_tell : Cond.selects mX6_tell.1.cls mX6_tell.1 mX6_tell.1 ∈ fs_T := fs_at9 431 (by decide +kernel) rfl
theorem sv_X7_135 : fs_SV RX7 135 mX6_tell 2 := ⟨sc_mX6_tell, fs_at9 429 (by decide +kernel) rfl, si_mX6_tell, se_mX6_tell, sn_mX6_tell, sd_mX6_tell.1, sd_mX6_tell.2.1, sd_mX6_tell.2.2.1, sd_mX6_tell.2.2.2⟩
theorem sc_mX1_isField : Cond.code mX1_isField.1 mX1_isField.2.1 mX1_isField.2.2.1 mX1_isField.2.2.2 ∈ fs_T := fs_at9 374 (by decide +kernel) rfl
theorem sn_mX1_isField : Cond.initialized mX1_isField.1.cls ∈ fs_T := fs_at9 65 (by decide +kernel) rfl
theorem sd_mX1_isField : mX1_isField.1.cls ≠ "java/lang/invoke/MethodHandle" ∧ mX1_isField.1.cls ≠ "java/lang/invoke/VarHandle" ∧ (parseMethodDescriptor mX1_isField.1.desc).map (fun d => d.parameters.length) = some 1 ∧ mX1_isField.2.2.1 ≤ 45 := ⟨by decide, by decide, by decide +kernel, by decide⟩
theorem si_mX1_isField : Cond.instanceMethod mX1_isField.1 ∈ fs_T := fs_at9 372 (by decide +kernel) rfl
theorem se_mX1_isField : Cond.selects mX1_isField.1.cls mX1_isField.1 mX1_isField.1 ∈ fs_T := fs_at9 373 (by decide +kernel) rfl
theorem sv_X7_139 : fs_SV RX7 139 mX1_isField 1 := ⟨sc_mX1_isField, fs_at9 438 (by decide +kernel) rfl, si_mX1_isField, se_mX1_isField, sn_mX1_isField, sd_mX1_isField.1, sd_mX1_isField.2.1, sd_mX1_isField.2.2.1, sd_mX1_isField.2.2.2⟩
theorem sc_mX6_outcomeOf : Cond.code mX6_outcomeOf.1 mX6_outcomeOf.2.1 mX6_outcomeOf.2.2.1 mX6_outcomeOf.2.2.2 ∈ fs_T := fs_at9 310 (by decide +kernel) rfl
theorem sn_mX6_outcomeOf : Cond.initialized mX6_outcomeOf.1.cls ∈ fs_T := fs_at9 66 (by decide +kernel) rfl
theorem sd_mX6_outcomeOf : mX6_outcomeOf.1.cls ≠ "java/lang/invoke/MethodHandle" ∧ mX6_outcomeOf.1.cls ≠ "java/lang/invoke/VarHandle" ∧ (parseMethodDescriptor mX6_outcomeOf.1.desc).map (fun d => d.parameters.length) = some 2 ∧ mX6_outcomeOf.2.2.1 ≤ 45 := ⟨by decide, by decide, by decide +kernel, by decide⟩
theorem si_mX6_outcomeOf : Cond.instanceMethod mX6_outcomeOf.1 ∈ fs_T := fs_at9 308 (by decide +kernel) rfl
theorem se_mX6_outcomeOf : Cond.selects mX6_outcomeOf.1.cls mX6_outcomeOf.1 mX6_outcomeOf.1 ∈ fs_T := fs_at9 309 (by decide +kernel) rfl
theorem sv_X7_142 : fs_SV RX7 142 mX6_outcomeOf 2 := ⟨sc_mX6_outcomeOf, fs_at9 439 (by decide +kernel) rfl, si_mX6_outcomeOf, se_mX6_outcomeOf, sn_mX6_outcomeOf, sd_mX6_outcomeOf.1, sd_mX6_outcomeOf.2.1, sd_mX6_outcomeOf.2.2.1, sd_mX6_outcomeOf.2.2.2⟩
theorem sc_mX7_isFault : Cond.code mX7_isFault.1 mX7_isFault.2.1 mX7_isFault.2.2.1 mX7_isFault.2.2.2 ∈ fs_T := fs_at9 317 (by decide +kernel) rfl
theorem sn_mX7_isFault : Cond.initialized mX7_isFault.1.cls ∈ fs_T := fs_at9 63 (by decide +kernel) rfl
theorem sd_mX7_isFault : mX7_isFault.1.cls ≠ "java/lang/invoke/MethodHandle" ∧ mX7_isFault.1.cls ≠ "java/lang/invoke/VarHandle" ∧ (parseMethodDescriptor mX7_isFault.1.desc).map (fun d => d.parameters.length) = some 1 ∧ mX7_isFault.2.2.1 ≤ 45 := ⟨by decide, by decide, by decide +kernel, by decide⟩
theorem ss_mX7_isFault : Cond.static mX7_isFault.1 ∈ fs_T := fs_at9 316 (by decide +kernel) rfl
theorem sv_X7_146 : fs_SS RX7 146 mX7_isFault 1 := ⟨sc_mX7_isFault, fs_at9 440 (by decide +kernel) rfl, ss_mX7_isFault, sn_mX7_isFault, sd_mX7_isFault.1, sd_mX7_isFault.2.1, sd_mX7_isFault.2.2.1, sd_mX7_isFault.2.2.2⟩
theorem sc_mX1_isCaption : Cond.code mX1_isCaption.1 mX1_isCaption.2.1 mX1_isCaption.2.2.1 mX1_isCaption.2.2.2 ∈ fs_T := fs_at9 366 (by decide +kernel) rfl
theorem sn_mX1_isCaption : Cond.initialized mX1_isCaption.1.cls ∈ fs_T := fs_at9 65 (by decide +kernel) rfl
theorem sd_mX1_isCaption : mX1_isCaption.1.cls ≠ "java/lang/invoke/MethodHandle" ∧ mX1_isCaption.1.cls ≠ "java/lang/invoke/VarHandle" ∧ (parseMethodDescriptor mX1_isCaption.1.desc).map (fun d => d.parameters.length) = some 1 ∧ mX1_isCaption.2.2.1 ≤ 45 := ⟨by decide, by decide, by decide +kernel, by decide⟩
theorem si_mX1_isCaption : Cond.instanceMethod mX1_isCaption.1 ∈ fs_T := fs_at9 364 (by decide +kernel) rfl
theorem se_mX1_isCaption : Cond.selects mX1_isCaption.1.cls mX1_isCaption.1 mX1_isCaption.1 ∈ fs_T := fs_at9 365 (by decide +kernel) rfl
theorem sv_X7_149 : fs_SV RX7 149 mX1_isCaption 1 := ⟨sc_mX1_isCaption, fs_at9 445 (by decide +kernel) rfl, si_mX1_isCaption, se_mX1_isCaption, sn_mX1_isCaption, sd_mX1_isCaption.1, sd_mX1_isCaption.2.1, sd_mX1_isCaption.2.2.1, sd_mX1_isCaption.2.2.2⟩
theorem sc_mX1_isCheck : Cond.code mX1_isCheck.1 mX1_isCheck.2.1 mX1_isCheck.2.2.1 mX1_isCheck.2.2.2 ∈ fs_T := fs_at9 382 (by decide +kernel) rfl
theorem sn_mX1_isCheck : Cond.initialized mX1_isCheck.1.cls ∈ fs_T := fs_at9 65 (by decide +kernel) rfl
theorem sd_mX1_isCheck : mX1_isCheck.1.cls ≠ "java/lang/invoke/MethodHandle" ∧ mX1_isCheck.1.cls ≠ "java/lang/invoke/VarHandle" ∧ (parseMethodDescriptor mX1_isCheck.1.desc).map (fun d => d.parameters.length) = some 1 ∧ mX1_isCheck.2.2.1 ≤ 45 := ⟨by decide, by decide, by decide +kernel, by decide⟩
theorem si_mX1_isCheck : Cond.instanceMethod mX1_isCheck.1 ∈ fs_T := fs_at9 380 (by decide +kernel) rfl
theorem se_mX1_isCheck : Cond.selects mX1_isCheck.1.cls mX1_isCheck.1 mX1_isCheck.1 ∈ fs_T := fs_at9 381 (by decide +kernel) rfl
theorem sv_X7_152 : fs_SV RX7 152 mX1_isCheck 1 := ⟨sc_mX1_isCheck, fs_at9 446 (by decide +kernel) rfl, si_mX1_isCheck, se_mX1_isCheck, sn_mX1_isCheck, sd_mX1_isCheck.1, sd_mX1_isCheck.2.1, sd_mX1_isCheck.2.2.1, sd_mX1_isCheck.2.2.2⟩
theorem sc_mX6_fails : Cond.code mX6_fails.1 mX6_fails.2.1 mX6_fails.2.2.1 mX6_fails.2.2.2 ∈ fs_T := fs_at9 378 (by decide +kernel) rfl
theorem sn_mX6_fails : Cond.initialized mX6_fails.1.cls ∈ fs_T := fs_at9 66 (by decide +kernel) rfl
theorem sd_mX6_fails : mX6_fails.1.cls ≠ "java/lang/invoke/MethodHandle" ∧ mX6_fails.1.cls ≠ "java/lang/invoke/VarHandle" ∧ (parseMethodDescriptor mX6_fails.1.desc).map (fun d => d.parameters.length) = some 2 ∧ mX6_fails.2.2.1 ≤ 45 := ⟨by decide, by decide, by decide +kernel, by decide⟩
theorem si_mX6_fails : Cond.instanceMethod mX6_fails.1 ∈ fs_T := fs_at9 376 (by decide +kernel) rfl
theorem se_mX6_fails : Cond.selects mX6_fails.1.cls mX6_fails.1 mX6_fails.1 ∈ fs_T := fs_at9 377 (by decide +kernel) rfl
theorem sv_X7_155 : fs_SV RX7 155 mX6_fails 2 := ⟨sc_mX6_fails, fs_at9 447 (by decide +kernel) rfl, si_mX6_fails, se_mX6_fails, sn_mX6_fails, sd_mX6_fails.1, sd_mX6_fails.2.1, sd_mX6_fails.2.2.1, sd_mX6_fails.2.2.2⟩
theorem sk_X7_158 : Cond.constantLong RX7 158 (10000000000000000) ∈ fs_T := fs_at9 448 (by decide +kernel) rfl
theorem sf_X7_160 : fs_F RX7 160 0 1 := ⟨RX1, TX1, 3, rfl, ux_X1, by decide, fs_at9 118 (by decide +kernel) rfl⟩
theorem sc_mX1_rowsOf : Cond.code mX1_rowsOf.1 mX1_rowsOf.2.1 mX1_rowsOf.2.2.1 mX1_rowsOf.2.2.2 ∈ fs_T := fs_at9 264 (by decide +kernel) rfl
theorem sn_mX1_rowsOf : Cond.initialized mX1_rowsOf.1.cls ∈ fs_T := fs_at9 65 (by decide +kernel) rfl
theorem sd_mX1_rowsOf : mX1_rowsOf.1.cls ≠ "java/lang/invoke/MethodHandle" ∧ mX1_rowsOf.1.cls ≠ "java/lang/invoke/VarHandle" ∧ (parseMethodDescriptor mX1_rowsOf.1.desc).map (fun d => d.parameters.length) = some 1 ∧ mX1_rowsOf.2.2.1 ≤ 45 := ⟨by decide, by decide, by decide +kernel, by decide⟩
theorem si_mX1_rowsOf : Cond.instanceMethod mX1_rowsOf.1 ∈ fs_T := fs_at9 262 (by decide +kernel) rfl
theorem se_mX1_rowsOf : Cond.selects mX1_rowsOf.1.cls mX1_rowsOf.1 mX1_rowsOf.1 ∈ fs_T := fs_at9 263 (by decide +kernel) rfl
theorem sv_X7_163 : fs_SV RX7 163 mX1_rowsOf 1 := ⟨sc_mX1_rowsOf, fs_at9 453 (by decide +kernel) rfl, si_mX1_rowsOf, se_mX1_rowsOf, sn_mX1_rowsOf, sd_mX1_rowsOf.1, sd_mX1_rowsOf.2.1, sd_mX1_rowsOf.2.2.1, sd_mX1_rowsOf.2.2.2⟩
theorem sc_mX3_placeOf : Cond.code mX3_placeOf.1 mX3_placeOf.2.1 mX3_placeOf.2.2.1 mX3_placeOf.2.2.2 ∈ fs_T := fs_at9 461 (by decide +kernel) rfl
theorem sn_mX3_placeOf : Cond.initialized mX3_placeOf.1.cls ∈ fs_T := fs_at9 67 (by decide +kernel) rfl
theorem sd_mX3_placeOf : mX3_placeOf.1.cls ≠ "java/lang/invoke/MethodHandle" ∧ mX3_placeOf.1.cls ≠ "java/lang/invoke/VarHandle" ∧ (parseMethodDescriptor mX3_placeOf.1.desc).map (fun d => d.parameters.length) = some 2 ∧ mX3_placeOf.2.2.1 ≤ 45 := ⟨by decide, by decide, by decide +kernel, by decide⟩
theorem si_mX3_placeOf : Cond.instanceMethod mX3_placeOf.1 ∈ fs_T := fs_at9 459 (by decide +kernel) rfl
theorem se_mX3_placeOf : Cond.selects mX3_placeOf.1.cls mX3_placeOf.1 mX3_placeOf.1 ∈ fs_T := fs_at9 460 (by decide +kernel) rfl
theorem sv_X7_167 : fs_SV RX7 167 mX3_placeOf 2 := ⟨sc_mX3_placeOf, fs_at9 458 (by decide +kernel) rfl, si_mX3_placeOf, se_mX3_placeOf, sn_mX3_placeOf, sd_mX3_placeOf.1, sd_mX3_placeOf.2.1, sd_mX3_placeOf.2.2.1, sd_mX3_placeOf.2.2.2⟩
theorem sc_mX3_pageCount : Cond.code mX3_pageCount.1 mX3_pageCount.2.1 mX3_pageCount.2.2.1 mX3_pageCount.2.2.2 ∈ fs_T := fs_at9 470 (by decide +kernel) rfl
theorem sn_mX3_pageCount : Cond.initialized mX3_pageCount.1.cls ∈ fs_T := fs_at9 67 (by decide +kernel) rfl
theorem sd_mX3_pageCount : mX3_pageCount.1.cls ≠ "java/lang/invoke/MethodHandle" ∧ mX3_pageCount.1.cls ≠ "java/lang/invoke/VarHandle" ∧ (parseMethodDescriptor mX3_pageCount.1.desc).map (fun d => d.parameters.length) = some 0 ∧ mX3_pageCount.2.2.1 ≤ 45 := ⟨by decide, by decide, by decide +kernel, by decide⟩
theorem si_mX3_pageCount : Cond.instanceMethod mX3_pageCount.1 ∈ fs_T := fs_at9 468 (by decide +kernel) rfl
theorem se_mX3_pageCount : Cond.selects mX3_pageCount.1.cls mX3_pageCount.1 mX3_pageCount.1 ∈ fs_T := fs_at9 469 (by decide +kernel) rfl
theorem sv_X7_170 : fs_SV RX7 170 mX3_pageCount 0 := ⟨sc_mX3_pageCount, fs_at9 467 (by decide +kernel) rfl, si_mX3_pageCount, se_mX3_pageCount, sn_mX3_pageCount, sd_mX3_pageCount.1, sd_mX3_pageCount.2.1, sd_mX3_pageCount.2.2.1, sd_mX3_pageCount.2.2.2⟩
theorem sc_mX3_standsAt : Cond.code mX3_standsAt.1 mX3_standsAt.2.1 mX3_standsAt.2.2.1 mX3_standsAt.2.2.2 ∈ fs_T := fs_at9 478 (by decide +kernel) rfl
theorem sn_mX3_standsAt : Cond.initialized mX3_standsAt.1.cls ∈ fs_T := fs_at9 67 (by decide +kernel) rfl
theorem sd_mX3_standsAt : mX3_standsAt.1.cls ≠ "java/lang/invoke/MethodHandle" ∧ mX3_standsAt.1.cls ≠ "java/lang/invoke/VarHandle" ∧ (parseMethodDescriptor mX3_standsAt.1.desc).map (fun d => d.parameters.length) = some 2 ∧ mX3_standsAt.2.2.1 ≤ 45 := ⟨by decide, by decide, by decide +kernel, by decide⟩
theorem si_mX3_standsAt : Cond.instanceMethod mX3_standsAt.1 ∈ fs_T := fs_at9 476 (by decide +kernel) rfl
theorem se_mX3_standsAt : Cond.selects mX3_standsAt.1.cls mX3_standsAt.1 mX3_standsAt.1 ∈ fs_T := fs_at9 477 (by decide +kernel) rfl
theorem sv_X7_173 : fs_SV RX7 173 mX3_standsAt 2 := ⟨sc_mX3_standsAt, fs_at9 475 (by decide +kernel) rfl, si_mX3_standsAt, se_mX3_standsAt, sn_mX3_standsAt, sd_mX3_standsAt.1, sd_mX3_standsAt.2.1, sd_mX3_standsAt.2.2.1, sd_mX3_standsAt.2.2.2⟩
theorem sf_X7_176 : fs_F RX7 176 2 0 := ⟨RX3, TX3, 8, rfl, ux_X3, by decide, fs_at9 166 (by decide +kernel) rfl⟩
theorem sc_mX6_faultCount : Cond.code mX6_faultCount.1 mX6_faultCount.2.1 mX6_faultCount.2.2.1 mX6_faultCount.2.2.2 ∈ fs_T := fs_at9 486 (by decide +kernel) rfl
theorem sn_mX6_faultCount : Cond.initialized mX6_faultCount.1.cls ∈ fs_T := fs_at9 66 (by decide +kernel) rfl
theorem sd_mX6_faultCount : mX6_faultCount.1.cls ≠ "java/lang/invoke/MethodHandle" ∧ mX6_faultCount.1.cls ≠ "java/lang/invoke/VarHandle" ∧ (parseMethodDescriptor mX6_faultCount.1.desc).map (fun d => d.parameters.length) = some 0 ∧ mX6_faultCount.2.2.1 ≤ 45 := ⟨by decide, by decide, by decide +kernel, by decide⟩
theorem si_mX6_faultCount : Cond.instanceMethod mX6_faultCount.1 ∈ fs_T := fs_at9 484 (by decide +kernel) rfl
theorem se_mX6_faultCount : Cond.selects mX6_faultCount.1.cls mX6_faultCount.1 mX6_faultCount.1 ∈ fs_T := fs_at9 485 (by decide +kernel) rfl
theorem sv_X7_179 : fs_SV RX7 179 mX6_faultCount 0 := ⟨sc_mX6_faultCount, fs_at9 483 (by decide +kernel) rfl, si_mX6_faultCount, se_mX6_faultCount, sn_mX6_faultCount, sd_mX6_faultCount.1, sd_mX6_faultCount.2.1, sd_mX6_faultCount.2.2.1, sd_mX6_faultCount.2.2.2⟩
theorem sc_mX1_has : Cond.code mX1_has.1 mX1_has.2.1 mX1_has.2.2.1 mX1_has.2.2.2 ∈ fs_T := fs_at9 300 (by decide +kernel) rfl
theorem sn_mX1_has : Cond.initialized mX1_has.1.cls ∈ fs_T := fs_at9 65 (by decide +kernel) rfl
theorem sd_mX1_has : mX1_has.1.cls ≠ "java/lang/invoke/MethodHandle" ∧ mX1_has.1.cls ≠ "java/lang/invoke/VarHandle" ∧ (parseMethodDescriptor mX1_has.1.desc).map (fun d => d.parameters.length) = some 2 ∧ mX1_has.2.2.1 ≤ 45 := ⟨by decide, by decide, by decide +kernel, by decide⟩
theorem si_mX1_has : Cond.instanceMethod mX1_has.1 ∈ fs_T := fs_at9 298 (by decide +kernel) rfl
theorem se_mX1_has : Cond.selects mX1_has.1.cls mX1_has.1 mX1_has.1 ∈ fs_T := fs_at9 299 (by decide +kernel) rfl
theorem sv_X7_182 : fs_SV RX7 182 mX1_has 2 := ⟨sc_mX1_has, fs_at9 422 (by decide +kernel) rfl, si_mX1_has, se_mX1_has, sn_mX1_has, sd_mX1_has.1, sd_mX1_has.2.1, sd_mX1_has.2.2.1, sd_mX1_has.2.2.2⟩
theorem so_X8_1 : Cond.methodLink RX8 1 objectInit ∈ fs_T := fs_at9 752 (by decide +kernel) rfl
theorem sf_X8_7 : fs_F RX8 7 7 2 := ⟨RX8, TX8, 38, rfl, ux_X8, by decide, fs_at9 755 (by decide +kernel) rfl⟩
theorem sp_X8_7 : fs_FP RX8 7 7 2 (tyX8 2) true := ⟨RX8, TX8, 38, tyX8, rfl, ux_X8, by decide, fs_at9 755 (by decide +kernel) rfl, tyX8_ok, nmX8, rfl, rfl, fun h => rfl⟩
theorem sf_X8_13 : fs_F RX8 13 7 3 := ⟨RX8, TX8, 38, rfl, ux_X8, by decide, fs_at9 756 (by decide +kernel) rfl⟩
theorem sp_X8_13 : fs_FP RX8 13 7 3 .int false := ⟨RX8, TX8, 38, tyX8, rfl, ux_X8, by decide, fs_at9 756 (by decide +kernel) rfl, tyX8_ok, nmX8, rfl, rfl, fun h => absurd h (by decide)⟩
theorem sf_X8_17 : fs_F RX8 17 7 5 := ⟨RX8, TX8, 38, rfl, ux_X8, by decide, fs_at9 758 (by decide +kernel) rfl⟩
theorem sp_X8_17 : fs_FP RX8 17 7 5 .int false := ⟨RX8, TX8, 38, tyX8, rfl, ux_X8, by decide, fs_at9 758 (by decide +kernel) rfl, tyX8_ok, nmX8, rfl, rfl, fun h => absurd h (by decide)⟩
theorem sf_X8_20 : fs_F RX8 20 7 8 := ⟨RX8, TX8, 38, rfl, ux_X8, by decide, fs_at9 761 (by decide +kernel) rfl⟩
theorem sp_X8_20 : fs_FP RX8 20 7 8 (tyX8 8) true := ⟨RX8, TX8, 38, tyX8, rfl, ux_X8, by decide, fs_at9 761 (by decide +kernel) rfl, tyX8_ok, nmX8, rfl, rfl, fun h => rfl⟩
theorem sf_X8_24 : fs_F RX8 24 7 9 := ⟨RX8, TX8, 38, rfl, ux_X8, by decide, fs_at9 762 (by decide +kernel) rfl⟩
theorem sp_X8_24 : fs_FP RX8 24 7 9 (tyX8 9) true := ⟨RX8, TX8, 38, tyX8, rfl, ux_X8, by decide, fs_at9 762 (by decide +kernel) rfl, tyX8_ok, nmX8, rfl, rfl, fun h => rfl⟩
theorem sf_X8_27 : fs_F RX8 27 7 10 := ⟨RX8, TX8, 38, rfl, ux_X8, by decide, fs_at9 763 (by decide +kernel) rfl⟩
theorem sp_X8_27 : fs_FP RX8 27 7 10 (tyX8 10) true := ⟨RX8, TX8, 38, tyX8, rfl, ux_X8, by decide, fs_at9 763 (by decide +kernel) rfl, tyX8_ok, nmX8, rfl, rfl, fun h => rfl⟩
theorem sf_X8_31 : fs_F RX8 31 7 11 := ⟨RX8, TX8, 38, rfl, ux_X8, by decide, fs_at9 764 (by decide +kernel) rfl⟩
theorem sp_X8_31 : fs_FP RX8 31 7 11 (tyX8 11) true := ⟨RX8, TX8, 38, tyX8, rfl, ux_X8, by decide, fs_at9 764 (by decide +kernel) rfl, tyX8_ok, nmX8, rfl, rfl, fun h => rfl⟩
theorem sf_X8_34 : fs_F RX8 34 7 12 := ⟨RX8, TX8, 38, rfl, ux_X8, by decide, fs_at9 765 (by decide +kernel) rfl⟩
theorem sp_X8_34 : fs_FP RX8 34 7 12 (tyX8 12) true := ⟨RX8, TX8, 38, tyX8, rfl, ux_X8, by decide, fs_at9 765 (by decide +kernel) rfl, tyX8_ok, nmX8, rfl, rfl, fun h => rfl⟩
theorem sf_X8_37 : fs_F RX8 37 7 13 := ⟨RX8, TX8, 38, rfl, ux_X8, by decide, fs_at9 766 (by decide +kernel) rfl⟩
theorem sp_X8_37 : fs_FP RX8 37 7 13 (tyX8 13) true := ⟨RX8, TX8, 38, tyX8, rfl, ux_X8, by decide, fs_at9 766 (by decide +kernel) rfl, tyX8_ok, nmX8, rfl, rfl, fun h => rfl⟩
theorem sf_X8_40 : fs_F RX8 40 7 14 := ⟨RX8, TX8, 38, rfl, ux_X8, by decide, fs_at9 767 (by decide +kernel) rfl⟩
theorem sp_X8_40 : fs_FP RX8 40 7 14 (tyX8 14) true := ⟨RX8, TX8, 38, tyX8, rfl, ux_X8, by decide, fs_at9 767 (by decide +kernel) rfl, tyX8_ok, nmX8, rfl, rfl, fun h => rfl⟩
theorem sf_X8_43 : fs_F RX8 43 7 15 := ⟨RX8, TX8, 38, rfl, ux_X8, by decide, fs_at9 768 (by decide +kernel) rfl⟩
theorem sp_X8_43 : fs_FP RX8 43 7 15 (tyX8 15) true := ⟨RX8, TX8, 38, tyX8, rfl, ux_X8, by decide, fs_at9 768 (by decide +kernel) rfl, tyX8_ok, nmX8, rfl, rfl, fun h => rfl⟩
theorem sf_X8_46 : fs_F RX8 46 7 16 := ⟨RX8, TX8, 38, rfl, ux_X8, by decide, fs_at9 769 (by decide +kernel) rfl⟩
theorem sp_X8_46 : fs_FP RX8 46 7 16 (tyX8 16) true := ⟨RX8, TX8, 38, tyX8, rfl, ux_X8, by decide, fs_at9 769 (by decide +kernel) rfl, tyX8_ok, nmX8, rfl, rfl, fun h => rfl⟩
theorem sf_X8_49 : fs_F RX8 49 7 17 := ⟨RX8, TX8, 38, rfl, ux_X8, by decide, fs_at9 770 (by decide +kernel) rfl⟩
theorem sp_X8_49 : fs_FP RX8 49 7 17 (tyX8 17) true := ⟨RX8, TX8, 38, tyX8, rfl, ux_X8, by decide, fs_at9 770 (by decide +kernel) rfl, tyX8_ok, nmX8, rfl, rfl, fun h => rfl⟩
theorem sf_X8_53 : fs_F RX8 53 7 20 := ⟨RX8, TX8, 38, rfl, ux_X8, by decide, fs_at9 773 (by decide +kernel) rfl⟩
theorem sp_X8_53 : fs_FP RX8 53 7 20 (tyX8 20) true := ⟨RX8, TX8, 38, tyX8, rfl, ux_X8, by decide, fs_at9 773 (by decide +kernel) rfl, tyX8_ok, nmX8, rfl, rfl, fun h => rfl⟩
theorem sf_X8_56 : fs_F RX8 56 7 21 := ⟨RX8, TX8, 38, rfl, ux_X8, by decide, fs_at9 774 (by decide +kernel) rfl⟩
theorem sp_X8_56 : fs_FP RX8 56 7 21 (tyX8 21) true := ⟨RX8, TX8, 38, tyX8, rfl, ux_X8, by decide, fs_at9 774 (by decide +kernel) rfl, tyX8_ok, nmX8, rfl, rfl, fun h => rfl⟩
theorem sf_X8_59 : fs_F RX8 59 7 22 := ⟨RX8, TX8, 38, rfl, ux_X8, by decide, fs_at9 775 (by decide +kernel) rfl⟩
theorem sp_X8_59 : fs_FP RX8 59 7 22 (tyX8 22) true := ⟨RX8, TX8, 38, tyX8, rfl, ux_X8, by decide, fs_at9 775 (by decide +kernel) rfl, tyX8_ok, nmX8, rfl, rfl, fun h => rfl⟩
theorem sf_X8_62 : fs_F RX8 62 7 23 := ⟨RX8, TX8, 38, rfl, ux_X8, by decide, fs_at9 776 (by decide +kernel) rfl⟩
theorem sp_X8_62 : fs_FP RX8 62 7 23 (tyX8 23) true := ⟨RX8, TX8, 38, tyX8, rfl, ux_X8, by decide, fs_at9 776 (by decide +kernel) rfl, tyX8_ok, nmX8, rfl, rfl, fun h => rfl⟩
theorem sf_X8_65 : fs_F RX8 65 7 24 := ⟨RX8, TX8, 38, rfl, ux_X8, by decide, fs_at9 777 (by decide +kernel) rfl⟩
theorem sp_X8_65 : fs_FP RX8 65 7 24 (tyX8 24) true := ⟨RX8, TX8, 38, tyX8, rfl, ux_X8, by decide, fs_at9 777 (by decide +kernel) rfl, tyX8_ok, nmX8, rfl, rfl, fun h => rfl⟩
theorem sf_X8_68 : fs_F RX8 68 7 25 := ⟨RX8, TX8, 38, rfl, ux_X8, by decide, fs_at9 778 (by decide +kernel) rfl⟩
theorem sp_X8_68 : fs_FP RX8 68 7 25 (tyX8 25) true := ⟨RX8, TX8, 38, tyX8, rfl, ux_X8, by decide, fs_at9 778 (by decide +kernel) rfl, tyX8_ok, nmX8, rfl, rfl, fun h => rfl⟩
theorem sf_X8_71 : fs_F RX8 71 7 26 := ⟨RX8, TX8, 38, rfl, ux_X8, by decide, fs_at9 779 (by decide +kernel) rfl⟩
theorem sp_X8_71 : fs_FP RX8 71 7 26 (tyX8 26) true := ⟨RX8, TX8, 38, tyX8, rfl, ux_X8, by decide, fs_at9 779 (by decide +kernel) rfl, tyX8_ok, nmX8, rfl, rfl, fun h => rfl⟩
theorem sf_X8_74 : fs_F RX8 74 7 27 := ⟨RX8, TX8, 38, rfl, ux_X8, by decide, fs_at9 780 (by decide +kernel) rfl⟩
theorem sp_X8_74 : fs_FP RX8 74 7 27 (tyX8 27) true := ⟨RX8, TX8, 38, tyX8, rfl, ux_X8, by decide, fs_at9 780 (by decide +kernel) rfl, tyX8_ok, nmX8, rfl, rfl, fun h => rfl⟩
theorem sf_X8_77 : fs_F RX8 77 7 28 := ⟨RX8, TX8, 38, rfl, ux_X8, by decide, fs_at9 781 (by decide +kernel) rfl⟩
theorem sp_X8_77 : fs_FP RX8 77 7 28 (tyX8 28) true := ⟨RX8, TX8, 38, tyX8, rfl, ux_X8, by decide, fs_at9 781 (by decide +kernel) rfl, tyX8_ok, nmX8, rfl, rfl, fun h => rfl⟩
theorem sf_X8_80 : fs_F RX8 80 7 29 := ⟨RX8, TX8, 38, rfl, ux_X8, by decide, fs_at9 782 (by decide +kernel) rfl⟩
theorem sp_X8_80 : fs_FP RX8 80 7 29 (tyX8 29) true := ⟨RX8, TX8, 38, tyX8, rfl, ux_X8, by decide, fs_at9 782 (by decide +kernel) rfl, tyX8_ok, nmX8, rfl, rfl, fun h => rfl⟩
theorem sf_X8_83 : fs_F RX8 83 7 30 := ⟨RX8, TX8, 38, rfl, ux_X8, by decide, fs_at9 783 (by decide +kernel) rfl⟩
theorem sp_X8_83 : fs_FP RX8 83 7 30 (tyX8 30) true := ⟨RX8, TX8, 38, tyX8, rfl, ux_X8, by decide, fs_at9 783 (by decide +kernel) rfl, tyX8_ok, nmX8, rfl, rfl, fun h => rfl⟩
theorem sf_X8_86 : fs_F RX8 86 7 32 := ⟨RX8, TX8, 38, rfl, ux_X8, by decide, fs_at9 785 (by decide +kernel) rfl⟩
theorem sp_X8_86 : fs_FP RX8 86 7 32 (tyX8 32) true := ⟨RX8, TX8, 38, tyX8, rfl, ux_X8, by decide, fs_at9 785 (by decide +kernel) rfl, tyX8_ok, nmX8, rfl, rfl, fun h => rfl⟩
theorem sf_X8_89 : fs_F RX8 89 7 36 := ⟨RX8, TX8, 38, rfl, ux_X8, by decide, fs_at9 789 (by decide +kernel) rfl⟩
theorem sp_X8_89 : fs_FP RX8 89 7 36 (tyX8 36) true := ⟨RX8, TX8, 38, tyX8, rfl, ux_X8, by decide, fs_at9 789 (by decide +kernel) rfl, tyX8_ok, nmX8, rfl, rfl, fun h => rfl⟩
theorem sf_X8_92 : fs_F RX8 92 7 37 := ⟨RX8, TX8, 38, rfl, ux_X8, by decide, fs_at9 790 (by decide +kernel) rfl⟩
theorem sp_X8_92 : fs_FP RX8 92 7 37 (tyX8 37) true := ⟨RX8, TX8, 38, tyX8, rfl, ux_X8, by decide, fs_at9 790 (by decide +kernel) rfl, tyX8_ok, nmX8, rfl, rfl, fun h => rfl⟩
theorem sf_X8_95 : fs_F RX8 95 7 4 := ⟨RX8, TX8, 38, rfl, ux_X8, by decide, fs_at9 757 (by decide +kernel) rfl⟩
theorem sp_X8_95 : fs_FP RX8 95 7 4 .int true := ⟨RX8, TX8, 38, tyX8, rfl, ux_X8, by decide, fs_at9 757 (by decide +kernel) rfl, tyX8_ok, nmX8, rfl, rfl, fun h => rfl⟩
theorem sf_X8_98 : fs_F RX8 98 7 0 := ⟨RX8, TX8, 38, rfl, ux_X8, by decide, fs_at9 753 (by decide +kernel) rfl⟩
theorem sp_X8_98 : fs_FP RX8 98 7 0 .int false := ⟨RX8, TX8, 38, tyX8, rfl, ux_X8, by decide, fs_at9 753 (by decide +kernel) rfl, tyX8_ok, nmX8, rfl, rfl, fun h => absurd h (by decide)⟩
theorem sf_X8_101 : fs_F RX8 101 7 1 := ⟨RX8, TX8, 38, rfl, ux_X8, by decide, fs_at9 754 (by decide +kernel) rfl⟩
theorem sp_X8_101 : fs_FP RX8 101 7 1 .int false := ⟨RX8, TX8, 38, tyX8, rfl, ux_X8, by decide, fs_at9 754 (by decide +kernel) rfl, tyX8_ok, nmX8, rfl, rfl, fun h => absurd h (by decide)⟩
theorem sf_X8_104 : fs_F RX8 104 7 18 := ⟨RX8, TX8, 38, rfl, ux_X8, by decide, fs_at9 771 (by decide +kernel) rfl⟩
theorem sc_mX8_here : Cond.code mX8_here.1 mX8_here.2.1 mX8_here.2.2.1 mX8_here.2.2.2 ∈ fs_T := fs_at9 888 (by decide +kernel) rfl
theorem sn_mX8_here : Cond.initialized mX8_here.1.cls ∈ fs_T := fs_at9 69 (by decide +kernel) rfl
theorem sd_mX8_here : mX8_here.1.cls ≠ "java/lang/invoke/MethodHandle" ∧ mX8_here.1.cls ≠ "java/lang/invoke/VarHandle" ∧ (parseMethodDescriptor mX8_here.1.desc).map (fun d => d.parameters.length) = some 0 ∧ mX8_here.2.2.1 ≤ 45 := ⟨by decide, by decide, by decide +kernel, by decide⟩
theorem si_mX8_here : Cond.instanceMethod mX8_here.1 ∈ fs_T := fs_at9 887 (by decide +kernel) rfl
theorem se_mX8_here : Cond.selects mX8_here.1.cls mX8_here.1 mX8_here.1 ∈ fs_T := fs_at9 34 (by decide +kernel) rfl
theorem sv_X8_107 : fs_SV RX8 107 mX8_here 0 := ⟨sc_mX8_here, fs_at9 885 (by decide +kernel) rfl, si_mX8_here, se_mX8_here, sn_mX8_here, sd_mX8_here.1, sd_mX8_here.2.1, sd_mX8_here.2.2.1, sd_mX8_here.2.2.2⟩
theorem sc_mX8_letter : Cond.code mX8_letter.1 mX8_letter.2.1 mX8_letter.2.2.1 mX8_letter.2.2.2 ∈ fs_T := fs_at9 918 (by decide +kernel) rfl
theorem sn_mX8_letter : Cond.initialized mX8_letter.1.cls ∈ fs_T := fs_at9 69 (by decide +kernel) rfl
theorem sd_mX8_letter : mX8_letter.1.cls ≠ "java/lang/invoke/MethodHandle" ∧ mX8_letter.1.cls ≠ "java/lang/invoke/VarHandle" ∧ (parseMethodDescriptor mX8_letter.1.desc).map (fun d => d.parameters.length) = some 1 ∧ mX8_letter.2.2.1 ≤ 45 := ⟨by decide, by decide, by decide +kernel, by decide⟩
theorem ss_mX8_letter : Cond.static mX8_letter.1 ∈ fs_T := fs_at9 917 (by decide +kernel) rfl
theorem sv_X8_111 : fs_SS RX8 111 mX8_letter 1 := ⟨sc_mX8_letter, fs_at9 916 (by decide +kernel) rfl, ss_mX8_letter, sn_mX8_letter, sd_mX8_letter.1, sd_mX8_letter.2.1, sd_mX8_letter.2.2.1, sd_mX8_letter.2.2.2⟩
theorem sp_X8_104 : fs_FP RX8 104 7 18 .int false := ⟨RX8, TX8, 38, tyX8, rfl, ux_X8, by decide, fs_at9 771 (by decide +kernel) rfl, tyX8_ok, nmX8, rfl, rfl, fun h => absurd h (by decide)⟩
theorem sf_X8_115 : fs_F RX8 115 7 7 := ⟨RX8, TX8, 38, rfl, ux_X8, by decide, fs_at9 760 (by decide +kernel) rfl⟩
theorem sc_mX8_digit : Cond.code mX8_digit.1 mX8_digit.2.1 mX8_digit.2.2.1 mX8_digit.2.2.2 ∈ fs_T := fs_at9 903 (by decide +kernel) rfl
theorem sn_mX8_digit : Cond.initialized mX8_digit.1.cls ∈ fs_T := fs_at9 69 (by decide +kernel) rfl
theorem sd_mX8_digit : mX8_digit.1.cls ≠ "java/lang/invoke/MethodHandle" ∧ mX8_digit.1.cls ≠ "java/lang/invoke/VarHandle" ∧ (parseMethodDescriptor mX8_digit.1.desc).map (fun d => d.parameters.length) = some 1 ∧ mX8_digit.2.2.1 ≤ 45 := ⟨by decide, by decide, by decide +kernel, by decide⟩
theorem ss_mX8_digit : Cond.static mX8_digit.1 ∈ fs_T := fs_at9 902 (by decide +kernel) rfl
theorem sv_X8_118 : fs_SS RX8 118 mX8_digit 1 := ⟨sc_mX8_digit, fs_at9 901 (by decide +kernel) rfl, ss_mX8_digit, sn_mX8_digit, sd_mX8_digit.1, sd_mX8_digit.2.1, sd_mX8_digit.2.2.1, sd_mX8_digit.2.2.2⟩
theorem sk_X8_121 : Cond.constantLong RX8 121 (10) ∈ fs_T := fs_at9 908 (by decide +kernel) rfl
theorem sk_X8_123 : Cond.constantLong RX8 123 (48) ∈ fs_T := fs_at9 909 (by decide +kernel) rfl
theorem sk_X8_125 : Cond.constantLong RX8 125 (100) ∈ fs_T := fs_at9 910 (by decide +kernel) rfl
theorem sk_X8_127 : Cond.constantLong RX8 127 (-1) ∈ fs_T := fs_at9 911 (by decide +kernel) rfl
theorem sc_mX8_readNumber : Cond.code mX8_readNumber.1 mX8_readNumber.2.1 mX8_readNumber.2.2.1 mX8_readNumber.2.2.2 ∈ fs_T := fs_at9 907 (by decide +kernel) rfl
theorem sn_mX8_readNumber : Cond.initialized mX8_readNumber.1.cls ∈ fs_T := fs_at9 69 (by decide +kernel) rfl
theorem sd_mX8_readNumber : mX8_readNumber.1.cls ≠ "java/lang/invoke/MethodHandle" ∧ mX8_readNumber.1.cls ≠ "java/lang/invoke/VarHandle" ∧ (parseMethodDescriptor mX8_readNumber.1.desc).map (fun d => d.parameters.length) = some 0 ∧ mX8_readNumber.2.2.1 ≤ 45 := ⟨by decide, by decide, by decide +kernel, by decide⟩
theorem si_mX8_readNumber : Cond.instanceMethod mX8_readNumber.1 ∈ fs_T := fs_at9 906 (by decide +kernel) rfl
theorem se_mX8_readNumber : Cond.selects mX8_readNumber.1.cls mX8_readNumber.1 mX8_readNumber.1 ∈ fs_T := fs_at9 38 (by decide +kernel) rfl
theorem sv_X8_129 : fs_SV RX8 129 mX8_readNumber 0 := ⟨sc_mX8_readNumber, fs_at9 904 (by decide +kernel) rfl, si_mX8_readNumber, se_mX8_readNumber, sn_mX8_readNumber, sd_mX8_readNumber.1, sd_mX8_readNumber.2.1, sd_mX8_readNumber.2.2.1, sd_mX8_readNumber.2.2.2⟩
theorem sc_mX8_part : Cond.code mX8_part.1 mX8_part.2.1 mX8_part.2.2.1 mX8_part.2.2.2 ∈ fs_T := fs_at9 915 (by decide +kernel) rfl
theorem sn_mX8_part : Cond.initialized mX8_part.1.cls ∈ fs_T := fs_at9 69 (by decide +kernel) rfl
theorem sd_mX8_part : mX8_part.1.cls ≠ "java/lang/invoke/MethodHandle" ∧ mX8_part.1.cls ≠ "java/lang/invoke/VarHandle" ∧ (parseMethodDescriptor mX8_part.1.desc).map (fun d => d.parameters.length) = some 5 ∧ mX8_part.2.2.1 ≤ 45 := ⟨by decide, by decide, by decide +kernel, by decide⟩
theorem si_mX8_part : Cond.instanceMethod mX8_part.1 ∈ fs_T := fs_at9 914 (by decide +kernel) rfl
theorem se_mX8_part : Cond.selects mX8_part.1.cls mX8_part.1 mX8_part.1 ∈ fs_T := fs_at9 39 (by decide +kernel) rfl
theorem sv_X8_133 : fs_SV RX8 133 mX8_part 5 := ⟨sc_mX8_part, fs_at9 912 (by decide +kernel) rfl, si_mX8_part, se_mX8_part, sn_mX8_part, sd_mX8_part.1, sd_mX8_part.2.1, sd_mX8_part.2.2.1, sd_mX8_part.2.2.2⟩
theorem sc_mX8_readName : Cond.code mX8_readName.1 mX8_readName.2.1 mX8_readName.2.2.1 mX8_readName.2.2.2 ∈ fs_T := fs_at9 922 (by decide +kernel) rfl
theorem sn_mX8_readName : Cond.initialized mX8_readName.1.cls ∈ fs_T := fs_at9 69 (by decide +kernel) rfl
theorem sd_mX8_readName : mX8_readName.1.cls ≠ "java/lang/invoke/MethodHandle" ∧ mX8_readName.1.cls ≠ "java/lang/invoke/VarHandle" ∧ (parseMethodDescriptor mX8_readName.1.desc).map (fun d => d.parameters.length) = some 0 ∧ mX8_readName.2.2.1 ≤ 45 := ⟨by decide, by decide, by decide +kernel, by decide⟩
theorem si_mX8_readName : Cond.instanceMethod mX8_readName.1 ∈ fs_T := fs_at9 921 (by decide +kernel) rfl
theorem se_mX8_readName : Cond.selects mX8_readName.1.cls mX8_readName.1 mX8_readName.1 ∈ fs_T := fs_at9 40 (by decide +kernel) rfl
theorem sv_X8_137 : fs_SV RX8 137 mX8_readName 0 := ⟨sc_mX8_readName, fs_at9 919 (by decide +kernel) rfl, si_mX8_readName, se_mX8_readName, sn_mX8_readName, sd_mX8_readName.1, sd_mX8_readName.2.1, sd_mX8_readName.2.2.1, sd_mX8_readName.2.2.2⟩
theorem sf_X8_141 : fs_F RX8 141 7 19 := ⟨RX8, TX8, 38, rfl, ux_X8, by decide, fs_at9 772 (by decide +kernel) rfl⟩
theorem sp_X8_141 : fs_FP RX8 141 7 19 .int false := ⟨RX8, TX8, 38, tyX8, rfl, ux_X8, by decide, fs_at9 772 (by decide +kernel) rfl, tyX8_ok, nmX8, rfl, rfl, fun h => absurd h (by decide)⟩
theorem sc_mX8_isSign : Cond.code mX8_isSign.1 mX8_isSign.2.1 mX8_isSign.2.2.1 mX8_isSign.2.2.2 ∈ fs_T := fs_at9 929 (by decide +kernel) rfl
theorem sn_mX8_isSign : Cond.initialized mX8_isSign.1.cls ∈ fs_T := fs_at9 69 (by decide +kernel) rfl
theorem sd_mX8_isSign : mX8_isSign.1.cls ≠ "java/lang/invoke/MethodHandle" ∧ mX8_isSign.1.cls ≠ "java/lang/invoke/VarHandle" ∧ (parseMethodDescriptor mX8_isSign.1.desc).map (fun d => d.parameters.length) = some 1 ∧ mX8_isSign.2.2.1 ≤ 45 := ⟨by decide, by decide, by decide +kernel, by decide⟩
theorem ss_mX8_isSign : Cond.static mX8_isSign.1 ∈ fs_T := fs_at9 928 (by decide +kernel) rfl
theorem sv_X8_144 : fs_SS RX8 144 mX8_isSign 1 := ⟨sc_mX8_isSign, fs_at9 927 (by decide +kernel) rfl, ss_mX8_isSign, sn_mX8_isSign, sd_mX8_isSign.1, sd_mX8_isSign.2.1, sd_mX8_isSign.2.2.1, sd_mX8_isSign.2.2.2⟩
theorem sc_mX8_begin : Cond.code mX8_begin.1 mX8_begin.2.1 mX8_begin.2.2.1 mX8_begin.2.2.2 ∈ fs_T := fs_at9 900 (by decide +kernel) rfl
theorem sn_mX8_begin : Cond.initialized mX8_begin.1.cls ∈ fs_T := fs_at9 69 (by decide +kernel) rfl
theorem sd_mX8_begin : mX8_begin.1.cls ≠ "java/lang/invoke/MethodHandle" ∧ mX8_begin.1.cls ≠ "java/lang/invoke/VarHandle" ∧ (parseMethodDescriptor mX8_begin.1.desc).map (fun d => d.parameters.length) = some 0 ∧ mX8_begin.2.2.1 ≤ 45 := ⟨by decide, by decide, by decide +kernel, by decide⟩
theorem si_mX8_begin : Cond.instanceMethod mX8_begin.1 ∈ fs_T := fs_at9 899 (by decide +kernel) rfl
theorem se_mX8_begin : Cond.selects mX8_begin.1.cls mX8_begin.1 mX8_begin.1 ∈ fs_T := fs_at9 37 (by decide +kernel) rfl
theorem sv_X8_147 : fs_SV RX8 147 mX8_begin 0 := ⟨sc_mX8_begin, fs_at9 897 (by decide +kernel) rfl, si_mX8_begin, se_mX8_begin, sn_mX8_begin, sd_mX8_begin.1, sd_mX8_begin.2.1, sd_mX8_begin.2.2.1, sd_mX8_begin.2.2.2⟩
theorem sc_mX8_goOn : Cond.code mX8_goOn.1 mX8_goOn.2.1 mX8_goOn.2.2.1 mX8_goOn.2.2.2 ∈ fs_T := fs_at9 926 (by decide +kernel) rfl
theorem sn_mX8_goOn : Cond.initialized mX8_goOn.1.cls ∈ fs_T := fs_at9 69 (by decide +kernel) rfl
theorem sd_mX8_goOn : mX8_goOn.1.cls ≠ "java/lang/invoke/MethodHandle" ∧ mX8_goOn.1.cls ≠ "java/lang/invoke/VarHandle" ∧ (parseMethodDescriptor mX8_goOn.1.desc).map (fun d => d.parameters.length) = some 1 ∧ mX8_goOn.2.2.1 ≤ 45 := ⟨by decide, by decide, by decide +kernel, by decide⟩
theorem si_mX8_goOn : Cond.instanceMethod mX8_goOn.1 ∈ fs_T := fs_at9 925 (by decide +kernel) rfl
theorem se_mX8_goOn : Cond.selects mX8_goOn.1.cls mX8_goOn.1 mX8_goOn.1 ∈ fs_T := fs_at9 41 (by decide +kernel) rfl
theorem sv_X8_150 : fs_SV RX8 150 mX8_goOn 1 := ⟨sc_mX8_goOn, fs_at9 923 (by decide +kernel) rfl, si_mX8_goOn, se_mX8_goOn, sn_mX8_goOn, sd_mX8_goOn.1, sd_mX8_goOn.2.1, sd_mX8_goOn.2.2.1, sd_mX8_goOn.2.2.2⟩
theorem sc_mX8_star : Cond.code mX8_star.1 mX8_star.2.1 mX8_star.2.2.1 mX8_star.2.2.2 ∈ fs_T := fs_at9 892 (by decide +kernel) rfl
theorem sn_mX8_star : Cond.initialized mX8_star.1.cls ∈ fs_T := fs_at9 69 (by decide +kernel) rfl
theorem sd_mX8_star : mX8_star.1.cls ≠ "java/lang/invoke/MethodHandle" ∧ mX8_star.1.cls ≠ "java/lang/invoke/VarHandle" ∧ (parseMethodDescriptor mX8_star.1.desc).map (fun d => d.parameters.length) = some 0 ∧ mX8_star.2.2.1 ≤ 45 := ⟨by decide, by decide, by decide +kernel, by decide⟩
theorem si_mX8_star : Cond.instanceMethod mX8_star.1 ∈ fs_T := fs_at9 891 (by decide +kernel) rfl
theorem se_mX8_star : Cond.selects mX8_star.1.cls mX8_star.1 mX8_star.1 ∈ fs_T := fs_at9 35 (by decide +kernel) rfl
theorem sv_X8_154 : fs_SV RX8 154 mX8_star 0 := ⟨sc_mX8_star, fs_at9 889 (by decide +kernel) rfl, si_mX8_star, se_mX8_star, sn_mX8_star, sd_mX8_star.1, sd_mX8_star.2.1, sd_mX8_star.2.2.1, sd_mX8_star.2.2.2⟩
theorem sc_mX8_expression : Cond.code mX8_expression.1 mX8_expression.2.1 mX8_expression.2.2.1 mX8_expression.2.2.2 ∈ fs_T := fs_at9 896 (by decide +kernel) rfl
theorem sn_mX8_expression : Cond.initialized mX8_expression.1.cls ∈ fs_T := fs_at9 69 (by decide +kernel) rfl
theorem sd_mX8_expression : mX8_expression.1.cls ≠ "java/lang/invoke/MethodHandle" ∧ mX8_expression.1.cls ≠ "java/lang/invoke/VarHandle" ∧ (parseMethodDescriptor mX8_expression.1.desc).map (fun d => d.parameters.length) = some 0 ∧ mX8_expression.2.2.1 ≤ 45 := ⟨by decide, by decide, by decide +kernel, by decide⟩
theorem si_mX8_expression : Cond.instanceMethod mX8_expression.1 ∈ fs_T := fs_at9 895 (by decide +kernel) rfl
theorem se_mX8_expression : Cond.selects mX8_expression.1.cls mX8_expression.1 mX8_expression.1 ∈ fs_T := fs_at9 36 (by decide +kernel) rfl
theorem sv_X8_158 : fs_SV RX8 158 mX8_expression 0 := ⟨sc_mX8_expression, fs_at9 893 (by decide +kernel) rfl, si_mX8_expression, se_mX8_expression, sn_mX8_expression, sd_mX8_expression.1, sd_mX8_expression.2.1, sd_mX8_expression.2.2.1, sd_mX8_expression.2.2.2⟩
theorem sc_mX8_read : Cond.code mX8_read.1 mX8_read.2.1 mX8_read.2.2.1 mX8_read.2.2.2 ∈ fs_T := fs_at9 884 (by decide +kernel) rfl
theorem sn_mX8_read : Cond.initialized mX8_read.1.cls ∈ fs_T := fs_at9 69 (by decide +kernel) rfl
theorem sd_mX8_read : mX8_read.1.cls ≠ "java/lang/invoke/MethodHandle" ∧ mX8_read.1.cls ≠ "java/lang/invoke/VarHandle" ∧ (parseMethodDescriptor mX8_read.1.desc).map (fun d => d.parameters.length) = some 0 ∧ mX8_read.2.2.1 ≤ 45 := ⟨by decide, by decide, by decide +kernel, by decide⟩
theorem si_mX8_read : Cond.instanceMethod mX8_read.1 ∈ fs_T := fs_at9 883 (by decide +kernel) rfl
theorem se_mX8_read : Cond.selects mX8_read.1.cls mX8_read.1 mX8_read.1 ∈ fs_T := fs_at9 33 (by decide +kernel) rfl
theorem sv_X8_161 : fs_SV RX8 161 mX8_read 0 := ⟨sc_mX8_read, fs_at9 881 (by decide +kernel) rfl, si_mX8_read, se_mX8_read, sn_mX8_read, sd_mX8_read.1, sd_mX8_read.2.1, sd_mX8_read.2.2.1, sd_mX8_read.2.2.2⟩
theorem sf_X8_164 : fs_F RX8 164 7 6 := ⟨RX8, TX8, 38, rfl, ux_X8, by decide, fs_at9 759 (by decide +kernel) rfl⟩
theorem sc_mX8_find : Cond.code mX8_find.1 mX8_find.2.1 mX8_find.2.2.1 mX8_find.2.2.2 ∈ fs_T := fs_at9 933 (by decide +kernel) rfl
theorem sn_mX8_find : Cond.initialized mX8_find.1.cls ∈ fs_T := fs_at9 69 (by decide +kernel) rfl
theorem sd_mX8_find : mX8_find.1.cls ≠ "java/lang/invoke/MethodHandle" ∧ mX8_find.1.cls ≠ "java/lang/invoke/VarHandle" ∧ (parseMethodDescriptor mX8_find.1.desc).map (fun d => d.parameters.length) = some 2 ∧ mX8_find.2.2.1 ≤ 45 := ⟨by decide, by decide, by decide +kernel, by decide⟩
theorem si_mX8_find : Cond.instanceMethod mX8_find.1 ∈ fs_T := fs_at9 932 (by decide +kernel) rfl
theorem se_mX8_find : Cond.selects mX8_find.1.cls mX8_find.1 mX8_find.1 ∈ fs_T := fs_at9 42 (by decide +kernel) rfl
theorem sv_X8_168 : fs_SV RX8 168 mX8_find 2 := ⟨sc_mX8_find, fs_at9 930 (by decide +kernel) rfl, si_mX8_find, se_mX8_find, sn_mX8_find, sd_mX8_find.1, sd_mX8_find.2.1, sd_mX8_find.2.2.1, sd_mX8_find.2.2.2⟩
theorem sp_X8_115 : fs_FP RX8 115 7 7 .int false := ⟨RX8, TX8, 38, tyX8, rfl, ux_X8, by decide, fs_at9 760 (by decide +kernel) rfl, tyX8_ok, nmX8, rfl, rfl, fun h => absurd h (by decide)⟩
theorem sc_mX8_rowsOf : Cond.code mX8_rowsOf.1 mX8_rowsOf.2.1 mX8_rowsOf.2.2.1 mX8_rowsOf.2.2.2 ∈ fs_T := fs_at9 957 (by decide +kernel) rfl
theorem sn_mX8_rowsOf : Cond.initialized mX8_rowsOf.1.cls ∈ fs_T := fs_at9 69 (by decide +kernel) rfl
theorem sd_mX8_rowsOf : mX8_rowsOf.1.cls ≠ "java/lang/invoke/MethodHandle" ∧ mX8_rowsOf.1.cls ≠ "java/lang/invoke/VarHandle" ∧ (parseMethodDescriptor mX8_rowsOf.1.desc).map (fun d => d.parameters.length) = some 1 ∧ mX8_rowsOf.2.2.1 ≤ 45 := ⟨by decide, by decide, by decide +kernel, by decide⟩
theorem si_mX8_rowsOf : Cond.instanceMethod mX8_rowsOf.1 ∈ fs_T := fs_at9 956 (by decide +kernel) rfl
theorem se_mX8_rowsOf : Cond.selects mX8_rowsOf.1.cls mX8_rowsOf.1 mX8_rowsOf.1 ∈ fs_T := fs_at9 46 (by decide +kernel) rfl
theorem sv_X8_172 : fs_SV RX8 172 mX8_rowsOf 1 := ⟨sc_mX8_rowsOf, fs_at9 954 (by decide +kernel) rfl, si_mX8_rowsOf, se_mX8_rowsOf, sn_mX8_rowsOf, sd_mX8_rowsOf.1, sd_mX8_rowsOf.2.1, sd_mX8_rowsOf.2.2.1, sd_mX8_rowsOf.2.2.2⟩
theorem sc_mX8_named : Cond.code mX8_named.1 mX8_named.2.1 mX8_named.2.2.1 mX8_named.2.2.2 ∈ fs_T := fs_at9 945 (by decide +kernel) rfl
theorem sn_mX8_named : Cond.initialized mX8_named.1.cls ∈ fs_T := fs_at9 69 (by decide +kernel) rfl
theorem sd_mX8_named : mX8_named.1.cls ≠ "java/lang/invoke/MethodHandle" ∧ mX8_named.1.cls ≠ "java/lang/invoke/VarHandle" ∧ (parseMethodDescriptor mX8_named.1.desc).map (fun d => d.parameters.length) = some 1 ∧ mX8_named.2.2.1 ≤ 45 := ⟨by decide, by decide, by decide +kernel, by decide⟩
theorem si_mX8_named : Cond.instanceMethod mX8_named.1 ∈ fs_T := fs_at9 944 (by decide +kernel) rfl
theorem se_mX8_named : Cond.selects mX8_named.1.cls mX8_named.1 mX8_named.1 ∈ fs_T := fs_at9 43 (by decide +kernel) rfl
theorem sv_X8_175 : fs_SV RX8 175 mX8_named 1 := ⟨sc_mX8_named, fs_at9 942 (by decide +kernel) rfl, si_mX8_named, se_mX8_named, sn_mX8_named, sd_mX8_named.1, sd_mX8_named.2.1, sd_mX8_named.2.2.1, sd_mX8_named.2.2.2⟩
theorem sp_X8_164 : fs_FP RX8 164 7 6 .boolean false := ⟨RX8, TX8, 38, tyX8, rfl, ux_X8, by decide, fs_at9 759 (by decide +kernel) rfl, tyX8_ok, nmX8, rfl, rfl, fun h => absurd h (by decide)⟩
theorem sc_mX8_refresh : Cond.code mX8_refresh.1 mX8_refresh.2.1 mX8_refresh.2.2.1 mX8_refresh.2.2.2 ∈ fs_T := fs_at9 949 (by decide +kernel) rfl
theorem sn_mX8_refresh : Cond.initialized mX8_refresh.1.cls ∈ fs_T := fs_at9 69 (by decide +kernel) rfl
theorem sd_mX8_refresh : mX8_refresh.1.cls ≠ "java/lang/invoke/MethodHandle" ∧ mX8_refresh.1.cls ≠ "java/lang/invoke/VarHandle" ∧ (parseMethodDescriptor mX8_refresh.1.desc).map (fun d => d.parameters.length) = some 0 ∧ mX8_refresh.2.2.1 ≤ 45 := ⟨by decide, by decide, by decide +kernel, by decide⟩
theorem si_mX8_refresh : Cond.instanceMethod mX8_refresh.1 ∈ fs_T := fs_at9 948 (by decide +kernel) rfl
theorem se_mX8_refresh : Cond.selects mX8_refresh.1.cls mX8_refresh.1 mX8_refresh.1 ∈ fs_T := fs_at9 44 (by decide +kernel) rfl
theorem sv_X8_179 : fs_SV RX8 179 mX8_refresh 0 := ⟨sc_mX8_refresh, fs_at9 946 (by decide +kernel) rfl, si_mX8_refresh, se_mX8_refresh, sn_mX8_refresh, sd_mX8_refresh.1, sd_mX8_refresh.2.1, sd_mX8_refresh.2.2.1, sd_mX8_refresh.2.2.2⟩
theorem sc_mX8_values : Cond.code mX8_values.1 mX8_values.2.1 mX8_values.2.2.1 mX8_values.2.2.2 ∈ fs_T := fs_at9 1026 (by decide +kernel) rfl
theorem sn_mX8_values : Cond.initialized mX8_values.1.cls ∈ fs_T := fs_at9 69 (by decide +kernel) rfl
theorem sd_mX8_values : mX8_values.1.cls ≠ "java/lang/invoke/MethodHandle" ∧ mX8_values.1.cls ≠ "java/lang/invoke/VarHandle" ∧ (parseMethodDescriptor mX8_values.1.desc).map (fun d => d.parameters.length) = some 0 ∧ mX8_values.2.2.1 ≤ 45 := ⟨by decide, by decide, by decide +kernel, by decide⟩
theorem si_mX8_values : Cond.instanceMethod mX8_values.1 ∈ fs_T := fs_at9 1025 (by decide +kernel) rfl
theorem se_mX8_values : Cond.selects mX8_values.1.cls mX8_values.1 mX8_values.1 ∈ fs_T := fs_at9 59 (by decide +kernel) rfl
theorem sv_X8_182 : fs_SV RX8 182 mX8_values 0 := ⟨sc_mX8_values, fs_at9 1023 (by decide +kernel) rfl, si_mX8_values, se_mX8_values, sn_mX8_values, sd_mX8_values.1, sd_mX8_values.2.1, sd_mX8_values.2.2.1, sd_mX8_values.2.2.2⟩
theorem sk_X8_185 : Cond.constantLong RX8 185 (-1000000000000000) ∈ fs_T := fs_at9 981 (by decide +kernel) rfl
theorem sk_X8_187 : Cond.constantLong RX8 187 (1000000000000000) ∈ fs_T := fs_at9 982 (by decide +kernel) rfl
theorem sk_X8_189 : Cond.constantLong RX8 189 (2) ∈ fs_T := fs_at9 1001 (by decide +kernel) rfl
theorem sk_X8_191 : Cond.constantLong RX8 191 (1000000000) ∈ fs_T := fs_at9 994 (by decide +kernel) rfl
theorem sk_X8_193 : Cond.constantLong RX8 193 (200000000) ∈ fs_T := fs_at9 995 (by decide +kernel) rfl
theorem sk_X8_195 : Cond.constantLong RX8 195 (-2000000000000000) ∈ fs_T := fs_at9 996 (by decide +kernel) rfl
theorem sk_X8_197 : Cond.constantLong RX8 197 (2000000000000000) ∈ fs_T := fs_at9 997 (by decide +kernel) rfl
theorem sc_mX8_divided : Cond.code mX8_divided.1 mX8_divided.2.1 mX8_divided.2.2.1 mX8_divided.2.2.2 ∈ fs_T := fs_at9 1000 (by decide +kernel) rfl
theorem sn_mX8_divided : Cond.initialized mX8_divided.1.cls ∈ fs_T := fs_at9 69 (by decide +kernel) rfl
theorem sd_mX8_divided : mX8_divided.1.cls ≠ "java/lang/invoke/MethodHandle" ∧ mX8_divided.1.cls ≠ "java/lang/invoke/VarHandle" ∧ (parseMethodDescriptor mX8_divided.1.desc).map (fun d => d.parameters.length) = some 2 ∧ mX8_divided.2.2.1 ≤ 45 := ⟨by decide, by decide, by decide +kernel, by decide⟩
theorem ss_mX8_divided : Cond.static mX8_divided.1 ∈ fs_T := fs_at9 999 (by decide +kernel) rfl
theorem sv_X8_199 : fs_SS RX8 199 mX8_divided 2 := ⟨sc_mX8_divided, fs_at9 998 (by decide +kernel) rfl, ss_mX8_divided, sn_mX8_divided, sd_mX8_divided.1, sd_mX8_divided.2.1, sd_mX8_divided.2.2.1, sd_mX8_divided.2.2.2⟩
theorem sc_mX8_isIn : Cond.code mX8_isIn.1 mX8_isIn.2.1 mX8_isIn.2.2.1 mX8_isIn.2.2.2 ∈ fs_T := fs_at9 980 (by decide +kernel) rfl
theorem sn_mX8_isIn : Cond.initialized mX8_isIn.1.cls ∈ fs_T := fs_at9 69 (by decide +kernel) rfl
theorem sd_mX8_isIn : mX8_isIn.1.cls ≠ "java/lang/invoke/MethodHandle" ∧ mX8_isIn.1.cls ≠ "java/lang/invoke/VarHandle" ∧ (parseMethodDescriptor mX8_isIn.1.desc).map (fun d => d.parameters.length) = some 1 ∧ mX8_isIn.2.2.1 ≤ 45 := ⟨by decide, by decide, by decide +kernel, by decide⟩
theorem ss_mX8_isIn : Cond.static mX8_isIn.1 ∈ fs_T := fs_at9 979 (by decide +kernel) rfl
theorem sv_X8_203 : fs_SS RX8 203 mX8_isIn 1 := ⟨sc_mX8_isIn, fs_at9 978 (by decide +kernel) rfl, ss_mX8_isIn, sn_mX8_isIn, sd_mX8_isIn.1, sd_mX8_isIn.2.1, sd_mX8_isIn.2.2.1, sd_mX8_isIn.2.2.2⟩
theorem sc_mX8_come : Cond.code mX8_come.1 mX8_come.2.1 mX8_come.2.2.1 mX8_come.2.2.2 ∈ fs_T := fs_at9 977 (by decide +kernel) rfl
theorem sn_mX8_come : Cond.initialized mX8_come.1.cls ∈ fs_T := fs_at9 69 (by decide +kernel) rfl
theorem sd_mX8_come : mX8_come.1.cls ≠ "java/lang/invoke/MethodHandle" ∧ mX8_come.1.cls ≠ "java/lang/invoke/VarHandle" ∧ (parseMethodDescriptor mX8_come.1.desc).map (fun d => d.parameters.length) = some 3 ∧ mX8_come.2.2.1 ≤ 45 := ⟨by decide, by decide, by decide +kernel, by decide⟩
theorem si_mX8_come : Cond.instanceMethod mX8_come.1 ∈ fs_T := fs_at9 976 (by decide +kernel) rfl
theorem se_mX8_come : Cond.selects mX8_come.1.cls mX8_come.1 mX8_come.1 ∈ fs_T := fs_at9 51 (by decide +kernel) rfl
theorem sv_X8_207 : fs_SV RX8 207 mX8_come 3 := ⟨sc_mX8_come, fs_at9 974 (by decide +kernel) rfl, si_mX8_come, se_mX8_come, sn_mX8_come, sd_mX8_come.1, sd_mX8_come.2.1, sd_mX8_come.2.2.1, sd_mX8_come.2.2.2⟩
theorem sc_mX8_product : Cond.code mX8_product.1 mX8_product.2.1 mX8_product.2.2.1 mX8_product.2.2.2 ∈ fs_T := fs_at9 993 (by decide +kernel) rfl
theorem sn_mX8_product : Cond.initialized mX8_product.1.cls ∈ fs_T := fs_at9 69 (by decide +kernel) rfl
theorem sd_mX8_product : mX8_product.1.cls ≠ "java/lang/invoke/MethodHandle" ∧ mX8_product.1.cls ≠ "java/lang/invoke/VarHandle" ∧ (parseMethodDescriptor mX8_product.1.desc).map (fun d => d.parameters.length) = some 2 ∧ mX8_product.2.2.1 ≤ 45 := ⟨by decide, by decide, by decide +kernel, by decide⟩
theorem ss_mX8_product : Cond.static mX8_product.1 ∈ fs_T := fs_at9 992 (by decide +kernel) rfl
theorem sv_X8_211 : fs_SS RX8 211 mX8_product 2 := ⟨sc_mX8_product, fs_at9 991 (by decide +kernel) rfl, ss_mX8_product, sn_mX8_product, sd_mX8_product.1, sd_mX8_product.2.1, sd_mX8_product.2.2.1, sd_mX8_product.2.2.2⟩
theorem sk_X8_214 : Cond.constantLong RX8 214 (-100) ∈ fs_T := fs_at9 1002 (by decide +kernel) rfl
theorem sc_mX8_sumUp : Cond.code mX8_sumUp.1 mX8_sumUp.2.1 mX8_sumUp.2.2.1 mX8_sumUp.2.2.2 ∈ fs_T := fs_at9 986 (by decide +kernel) rfl
theorem sn_mX8_sumUp : Cond.initialized mX8_sumUp.1.cls ∈ fs_T := fs_at9 69 (by decide +kernel) rfl
theorem sd_mX8_sumUp : mX8_sumUp.1.cls ≠ "java/lang/invoke/MethodHandle" ∧ mX8_sumUp.1.cls ≠ "java/lang/invoke/VarHandle" ∧ (parseMethodDescriptor mX8_sumUp.1.desc).map (fun d => d.parameters.length) = some 2 ∧ mX8_sumUp.2.2.1 ≤ 45 := ⟨by decide, by decide, by decide +kernel, by decide⟩
theorem si_mX8_sumUp : Cond.instanceMethod mX8_sumUp.1 ∈ fs_T := fs_at9 985 (by decide +kernel) rfl
theorem se_mX8_sumUp : Cond.selects mX8_sumUp.1.cls mX8_sumUp.1 mX8_sumUp.1 ∈ fs_T := fs_at9 52 (by decide +kernel) rfl
theorem sv_X8_216 : fs_SV RX8 216 mX8_sumUp 2 := ⟨sc_mX8_sumUp, fs_at9 983 (by decide +kernel) rfl, si_mX8_sumUp, se_mX8_sumUp, sn_mX8_sumUp, sd_mX8_sumUp.1, sd_mX8_sumUp.2.1, sd_mX8_sumUp.2.2.1, sd_mX8_sumUp.2.2.2⟩
theorem sc_mX8_worked : Cond.code mX8_worked.1 mX8_worked.2.1 mX8_worked.2.2.1 mX8_worked.2.2.2 ∈ fs_T := fs_at9 990 (by decide +kernel) rfl
theorem sn_mX8_worked : Cond.initialized mX8_worked.1.cls ∈ fs_T := fs_at9 69 (by decide +kernel) rfl
theorem sd_mX8_worked : mX8_worked.1.cls ≠ "java/lang/invoke/MethodHandle" ∧ mX8_worked.1.cls ≠ "java/lang/invoke/VarHandle" ∧ (parseMethodDescriptor mX8_worked.1.desc).map (fun d => d.parameters.length) = some 4 ∧ mX8_worked.2.2.1 ≤ 45 := ⟨by decide, by decide, by decide +kernel, by decide⟩
theorem si_mX8_worked : Cond.instanceMethod mX8_worked.1 ∈ fs_T := fs_at9 989 (by decide +kernel) rfl
theorem se_mX8_worked : Cond.selects mX8_worked.1.cls mX8_worked.1 mX8_worked.1 ∈ fs_T := fs_at9 53 (by decide +kernel) rfl
theorem sv_X8_220 : fs_SV RX8 220 mX8_worked 4 := ⟨sc_mX8_worked, fs_at9 987 (by decide +kernel) rfl, si_mX8_worked, se_mX8_worked, sn_mX8_worked, sd_mX8_worked.1, sd_mX8_worked.2.1, sd_mX8_worked.2.2.1, sd_mX8_worked.2.2.2⟩
theorem sc_mX8_names : Cond.code mX8_names.1 mX8_names.2.1 mX8_names.2.2.1 mX8_names.2.2.2 ∈ fs_T := fs_at9 961 (by decide +kernel) rfl
theorem sn_mX8_names : Cond.initialized mX8_names.1.cls ∈ fs_T := fs_at9 69 (by decide +kernel) rfl
theorem sd_mX8_names : mX8_names.1.cls ≠ "java/lang/invoke/MethodHandle" ∧ mX8_names.1.cls ≠ "java/lang/invoke/VarHandle" ∧ (parseMethodDescriptor mX8_names.1.desc).map (fun d => d.parameters.length) = some 2 ∧ mX8_names.2.2.1 ≤ 45 := ⟨by decide, by decide, by decide +kernel, by decide⟩
theorem si_mX8_names : Cond.instanceMethod mX8_names.1 ∈ fs_T := fs_at9 960 (by decide +kernel) rfl
theorem se_mX8_names : Cond.selects mX8_names.1.cls mX8_names.1 mX8_names.1 ∈ fs_T := fs_at9 47 (by decide +kernel) rfl
theorem sv_X8_224 : fs_SV RX8 224 mX8_names 2 := ⟨sc_mX8_names, fs_at9 958 (by decide +kernel) rfl, si_mX8_names, se_mX8_names, sn_mX8_names, sd_mX8_names.1, sd_mX8_names.2.1, sd_mX8_names.2.2.1, sd_mX8_names.2.2.2⟩
theorem sc_mX8_follow : Cond.code mX8_follow.1 mX8_follow.2.1 mX8_follow.2.2.1 mX8_follow.2.2.2 ∈ fs_T := fs_at9 965 (by decide +kernel) rfl
theorem sn_mX8_follow : Cond.initialized mX8_follow.1.cls ∈ fs_T := fs_at9 69 (by decide +kernel) rfl
theorem sd_mX8_follow : mX8_follow.1.cls ≠ "java/lang/invoke/MethodHandle" ∧ mX8_follow.1.cls ≠ "java/lang/invoke/VarHandle" ∧ (parseMethodDescriptor mX8_follow.1.desc).map (fun d => d.parameters.length) = some 0 ∧ mX8_follow.2.2.1 ≤ 45 := ⟨by decide, by decide, by decide +kernel, by decide⟩
theorem si_mX8_follow : Cond.instanceMethod mX8_follow.1 ∈ fs_T := fs_at9 964 (by decide +kernel) rfl
theorem se_mX8_follow : Cond.selects mX8_follow.1.cls mX8_follow.1 mX8_follow.1 ∈ fs_T := fs_at9 48 (by decide +kernel) rfl
theorem sv_X8_228 : fs_SV RX8 228 mX8_follow 0 := ⟨sc_mX8_follow, fs_at9 962 (by decide +kernel) rfl, si_mX8_follow, se_mX8_follow, sn_mX8_follow, sd_mX8_follow.1, sd_mX8_follow.2.1, sd_mX8_follow.2.2.1, sd_mX8_follow.2.2.2⟩
theorem sc_mX8_allKnown : Cond.code mX8_allKnown.1 mX8_allKnown.2.1 mX8_allKnown.2.2.1 mX8_allKnown.2.2.2 ∈ fs_T := fs_at9 969 (by decide +kernel) rfl
theorem sn_mX8_allKnown : Cond.initialized mX8_allKnown.1.cls ∈ fs_T := fs_at9 69 (by decide +kernel) rfl
theorem sd_mX8_allKnown : mX8_allKnown.1.cls ≠ "java/lang/invoke/MethodHandle" ∧ mX8_allKnown.1.cls ≠ "java/lang/invoke/VarHandle" ∧ (parseMethodDescriptor mX8_allKnown.1.desc).map (fun d => d.parameters.length) = some 1 ∧ mX8_allKnown.2.2.1 ≤ 45 := ⟨by decide, by decide, by decide +kernel, by decide⟩
theorem si_mX8_allKnown : Cond.instanceMethod mX8_allKnown.1 ∈ fs_T := fs_at9 968 (by decide +kernel) rfl
theorem se_mX8_allKnown : Cond.selects mX8_allKnown.1.cls mX8_allKnown.1 mX8_allKnown.1 ∈ fs_T := fs_at9 49 (by decide +kernel) rfl
theorem sv_X8_231 : fs_SV RX8 231 mX8_allKnown 1 := ⟨sc_mX8_allKnown, fs_at9 966 (by decide +kernel) rfl, si_mX8_allKnown, se_mX8_allKnown, sn_mX8_allKnown, sd_mX8_allKnown.1, sd_mX8_allKnown.2.1, sd_mX8_allKnown.2.2.1, sd_mX8_allKnown.2.2.2⟩
theorem sc_mX8_work : Cond.code mX8_work.1 mX8_work.2.1 mX8_work.2.2.1 mX8_work.2.2.2 ∈ fs_T := fs_at9 973 (by decide +kernel) rfl
theorem sn_mX8_work : Cond.initialized mX8_work.1.cls ∈ fs_T := fs_at9 69 (by decide +kernel) rfl
theorem sd_mX8_work : mX8_work.1.cls ≠ "java/lang/invoke/MethodHandle" ∧ mX8_work.1.cls ≠ "java/lang/invoke/VarHandle" ∧ (parseMethodDescriptor mX8_work.1.desc).map (fun d => d.parameters.length) = some 2 ∧ mX8_work.2.2.1 ≤ 45 := ⟨by decide, by decide, by decide +kernel, by decide⟩
theorem si_mX8_work : Cond.instanceMethod mX8_work.1 ∈ fs_T := fs_at9 972 (by decide +kernel) rfl
theorem se_mX8_work : Cond.selects mX8_work.1.cls mX8_work.1 mX8_work.1 ∈ fs_T := fs_at9 50 (by decide +kernel) rfl
theorem sv_X8_234 : fs_SV RX8 234 mX8_work 2 := ⟨sc_mX8_work, fs_at9 970 (by decide +kernel) rfl, si_mX8_work, se_mX8_work, sn_mX8_work, sd_mX8_work.1, sd_mX8_work.2.1, sd_mX8_work.2.2.1, sd_mX8_work.2.2.2⟩
theorem sc_mX8_fails : Cond.code mX8_fails.1 mX8_fails.2.1 mX8_fails.2.2.1 mX8_fails.2.2.2 ∈ fs_T := fs_at9 1006 (by decide +kernel) rfl
theorem sn_mX8_fails : Cond.initialized mX8_fails.1.cls ∈ fs_T := fs_at9 69 (by decide +kernel) rfl
theorem sd_mX8_fails : mX8_fails.1.cls ≠ "java/lang/invoke/MethodHandle" ∧ mX8_fails.1.cls ≠ "java/lang/invoke/VarHandle" ∧ (parseMethodDescriptor mX8_fails.1.desc).map (fun d => d.parameters.length) = some 2 ∧ mX8_fails.2.2.1 ≤ 45 := ⟨by decide, by decide, by decide +kernel, by decide⟩
theorem si_mX8_fails : Cond.instanceMethod mX8_fails.1 ∈ fs_T := fs_at9 1005 (by decide +kernel) rfl
theorem se_mX8_fails : Cond.selects mX8_fails.1.cls mX8_fails.1 mX8_fails.1 ∈ fs_T := fs_at9 54 (by decide +kernel) rfl
theorem sv_X8_237 : fs_SV RX8 237 mX8_fails 2 := ⟨sc_mX8_fails, fs_at9 1003 (by decide +kernel) rfl, si_mX8_fails, se_mX8_fails, sn_mX8_fails, sd_mX8_fails.1, sd_mX8_fails.2.1, sd_mX8_fails.2.2.1, sd_mX8_fails.2.2.2⟩
theorem sc_mX8_linesOf : Cond.code mX8_linesOf.1 mX8_linesOf.2.1 mX8_linesOf.2.2.1 mX8_linesOf.2.2.2 ∈ fs_T := fs_at9 1010 (by decide +kernel) rfl
theorem sn_mX8_linesOf : Cond.initialized mX8_linesOf.1.cls ∈ fs_T := fs_at9 69 (by decide +kernel) rfl
theorem sd_mX8_linesOf : mX8_linesOf.1.cls ≠ "java/lang/invoke/MethodHandle" ∧ mX8_linesOf.1.cls ≠ "java/lang/invoke/VarHandle" ∧ (parseMethodDescriptor mX8_linesOf.1.desc).map (fun d => d.parameters.length) = some 2 ∧ mX8_linesOf.2.2.1 ≤ 45 := ⟨by decide, by decide, by decide +kernel, by decide⟩
theorem si_mX8_linesOf : Cond.instanceMethod mX8_linesOf.1 ∈ fs_T := fs_at9 1009 (by decide +kernel) rfl
theorem se_mX8_linesOf : Cond.selects mX8_linesOf.1.cls mX8_linesOf.1 mX8_linesOf.1 ∈ fs_T := fs_at9 55 (by decide +kernel) rfl
theorem sv_X8_241 : fs_SV RX8 241 mX8_linesOf 2 := ⟨sc_mX8_linesOf, fs_at9 1007 (by decide +kernel) rfl, si_mX8_linesOf, se_mX8_linesOf, sn_mX8_linesOf, sd_mX8_linesOf.1, sd_mX8_linesOf.2.1, sd_mX8_linesOf.2.2.1, sd_mX8_linesOf.2.2.2⟩
theorem sf_X8_244 : fs_F RX8 244 7 33 := ⟨RX8, TX8, 38, rfl, ux_X8, by decide, fs_at9 786 (by decide +kernel) rfl⟩
theorem sf_X8_247 : fs_F RX8 247 7 34 := ⟨RX8, TX8, 38, rfl, ux_X8, by decide, fs_at9 787 (by decide +kernel) rfl⟩
theorem sp_X8_247 : fs_FP RX8 247 7 34 .int false := ⟨RX8, TX8, 38, tyX8, rfl, ux_X8, by decide, fs_at9 787 (by decide +kernel) rfl, tyX8_ok, nmX8, rfl, rfl, fun h => absurd h (by decide)⟩
theorem sf_X8_250 : fs_F RX8 250 7 35 := ⟨RX8, TX8, 38, rfl, ux_X8, by decide, fs_at9 788 (by decide +kernel) rfl⟩
theorem sp_X8_250 : fs_FP RX8 250 7 35 .int false := ⟨RX8, TX8, 38, tyX8, rfl, ux_X8, by decide, fs_at9 788 (by decide +kernel) rfl, tyX8_ok, nmX8, rfl, rfl, fun h => absurd h (by decide)⟩
theorem sp_X8_244 : fs_FP RX8 244 7 33 .int false := ⟨RX8, TX8, 38, tyX8, rfl, ux_X8, by decide, fs_at9 786 (by decide +kernel) rfl, tyX8_ok, nmX8, rfl, rfl, fun h => absurd h (by decide)⟩
theorem sc_mX8_turn : Cond.code mX8_turn.1 mX8_turn.2.1 mX8_turn.2.2.1 mX8_turn.2.2.2 ∈ fs_T := fs_at9 1014 (by decide +kernel) rfl
theorem sn_mX8_turn : Cond.initialized mX8_turn.1.cls ∈ fs_T := fs_at9 69 (by decide +kernel) rfl
theorem sd_mX8_turn : mX8_turn.1.cls ≠ "java/lang/invoke/MethodHandle" ∧ mX8_turn.1.cls ≠ "java/lang/invoke/VarHandle" ∧ (parseMethodDescriptor mX8_turn.1.desc).map (fun d => d.parameters.length) = some 1 ∧ mX8_turn.2.2.1 ≤ 45 := ⟨by decide, by decide, by decide +kernel, by decide⟩
theorem si_mX8_turn : Cond.instanceMethod mX8_turn.1 ∈ fs_T := fs_at9 1013 (by decide +kernel) rfl
theorem se_mX8_turn : Cond.selects mX8_turn.1.cls mX8_turn.1 mX8_turn.1 ∈ fs_T := fs_at9 56 (by decide +kernel) rfl
theorem sv_X8_253 : fs_SV RX8 253 mX8_turn 1 := ⟨sc_mX8_turn, fs_at9 1011 (by decide +kernel) rfl, si_mX8_turn, se_mX8_turn, sn_mX8_turn, sd_mX8_turn.1, sd_mX8_turn.2.1, sd_mX8_turn.2.2.1, sd_mX8_turn.2.2.2⟩
theorem sc_mX8_lay : Cond.code mX8_lay.1 mX8_lay.2.1 mX8_lay.2.2.1 mX8_lay.2.2.2 ∈ fs_T := fs_at9 1018 (by decide +kernel) rfl
theorem sn_mX8_lay : Cond.initialized mX8_lay.1.cls ∈ fs_T := fs_at9 69 (by decide +kernel) rfl
theorem sd_mX8_lay : mX8_lay.1.cls ≠ "java/lang/invoke/MethodHandle" ∧ mX8_lay.1.cls ≠ "java/lang/invoke/VarHandle" ∧ (parseMethodDescriptor mX8_lay.1.desc).map (fun d => d.parameters.length) = some 3 ∧ mX8_lay.2.2.1 ≤ 45 := ⟨by decide, by decide, by decide +kernel, by decide⟩
theorem si_mX8_lay : Cond.instanceMethod mX8_lay.1 ∈ fs_T := fs_at9 1017 (by decide +kernel) rfl
theorem se_mX8_lay : Cond.selects mX8_lay.1.cls mX8_lay.1 mX8_lay.1 ∈ fs_T := fs_at9 57 (by decide +kernel) rfl
theorem sv_X8_256 : fs_SV RX8 256 mX8_lay 3 := ⟨sc_mX8_lay, fs_at9 1015 (by decide +kernel) rfl, si_mX8_lay, se_mX8_lay, sn_mX8_lay, sd_mX8_lay.1, sd_mX8_lay.2.1, sd_mX8_lay.2.2.1, sd_mX8_lay.2.2.2⟩
theorem sc_mX8_workAll : Cond.code mX8_workAll.1 mX8_workAll.2.1 mX8_workAll.2.2.1 mX8_workAll.2.2.2 ∈ fs_T := fs_at9 953 (by decide +kernel) rfl
theorem sn_mX8_workAll : Cond.initialized mX8_workAll.1.cls ∈ fs_T := fs_at9 69 (by decide +kernel) rfl
theorem sd_mX8_workAll : mX8_workAll.1.cls ≠ "java/lang/invoke/MethodHandle" ∧ mX8_workAll.1.cls ≠ "java/lang/invoke/VarHandle" ∧ (parseMethodDescriptor mX8_workAll.1.desc).map (fun d => d.parameters.length) = some 0 ∧ mX8_workAll.2.2.1 ≤ 45 := ⟨by decide, by decide, by decide +kernel, by decide⟩
theorem si_mX8_workAll : Cond.instanceMethod mX8_workAll.1 ∈ fs_T := fs_at9 952 (by decide +kernel) rfl
theorem se_mX8_workAll : Cond.selects mX8_workAll.1.cls mX8_workAll.1 mX8_workAll.1 ∈ fs_T := fs_at9 45 (by decide +kernel) rfl
theorem sv_X8_260 : fs_SV RX8 260 mX8_workAll 0 := ⟨sc_mX8_workAll, fs_at9 950 (by decide +kernel) rfl, si_mX8_workAll, se_mX8_workAll, sn_mX8_workAll, sd_mX8_workAll.1, sd_mX8_workAll.2.1, sd_mX8_workAll.2.2.1, sd_mX8_workAll.2.2.2⟩
theorem sf_X8_263 : fs_F RX8 263 7 31 := ⟨RX8, TX8, 38, rfl, ux_X8, by decide, fs_at9 784 (by decide +kernel) rfl⟩
theorem sp_X8_263 : fs_FP RX8 263 7 31 .int false := ⟨RX8, TX8, 38, tyX8, rfl, ux_X8, by decide, fs_at9 784 (by decide +kernel) rfl, tyX8_ok, nmX8, rfl, rfl, fun h => absurd h (by decide)⟩
theorem sc_mX8_layBlock : Cond.code mX8_layBlock.1 mX8_layBlock.2.1 mX8_layBlock.2.2.1 mX8_layBlock.2.2.2 ∈ fs_T := fs_at9 1022 (by decide +kernel) rfl
theorem sn_mX8_layBlock : Cond.initialized mX8_layBlock.1.cls ∈ fs_T := fs_at9 69 (by decide +kernel) rfl
theorem sd_mX8_layBlock : mX8_layBlock.1.cls ≠ "java/lang/invoke/MethodHandle" ∧ mX8_layBlock.1.cls ≠ "java/lang/invoke/VarHandle" ∧ (parseMethodDescriptor mX8_layBlock.1.desc).map (fun d => d.parameters.length) = some 4 ∧ mX8_layBlock.2.2.1 ≤ 45 := ⟨by decide, by decide, by decide +kernel, by decide⟩
theorem si_mX8_layBlock : Cond.instanceMethod mX8_layBlock.1 ∈ fs_T := fs_at9 1021 (by decide +kernel) rfl
theorem se_mX8_layBlock : Cond.selects mX8_layBlock.1.cls mX8_layBlock.1 mX8_layBlock.1 ∈ fs_T := fs_at9 58 (by decide +kernel) rfl
theorem sv_X8_266 : fs_SV RX8 266 mX8_layBlock 4 := ⟨sc_mX8_layBlock, fs_at9 1019 (by decide +kernel) rfl, si_mX8_layBlock, se_mX8_layBlock, sn_mX8_layBlock, sd_mX8_layBlock.1, sd_mX8_layBlock.2.1, sd_mX8_layBlock.2.2.1, sd_mX8_layBlock.2.2.2⟩
theorem sc_mX8_there : Cond.code mX8_there.1 mX8_there.2.1 mX8_there.2.2.1 mX8_there.2.2.2 ∈ fs_T := fs_at9 1042 (by decide +kernel) rfl
theorem sn_mX8_there : Cond.initialized mX8_there.1.cls ∈ fs_T := fs_at9 69 (by decide +kernel) rfl
theorem sd_mX8_there : mX8_there.1.cls ≠ "java/lang/invoke/MethodHandle" ∧ mX8_there.1.cls ≠ "java/lang/invoke/VarHandle" ∧ (parseMethodDescriptor mX8_there.1.desc).map (fun d => d.parameters.length) = some 2 ∧ mX8_there.2.2.1 ≤ 45 := ⟨by decide, by decide, by decide +kernel, by decide⟩
theorem si_mX8_there : Cond.instanceMethod mX8_there.1 ∈ fs_T := fs_at9 1041 (by decide +kernel) rfl
theorem se_mX8_there : Cond.selects mX8_there.1.cls mX8_there.1 mX8_there.1 ∈ fs_T := fs_at9 60 (by decide +kernel) rfl
theorem sv_X8_269 : fs_SV RX8 269 mX8_there 2 := ⟨sc_mX8_there, fs_at9 1039 (by decide +kernel) rfl, si_mX8_there, se_mX8_there, sn_mX8_there, sd_mX8_there.1, sd_mX8_there.2.1, sd_mX8_there.2.2.1, sd_mX8_there.2.2.2⟩
theorem sc_mX8_isWorked : Cond.code mX8_isWorked.1 mX8_isWorked.2.1 mX8_isWorked.2.2.1 mX8_isWorked.2.2.2 ∈ fs_T := fs_at9 1046 (by decide +kernel) rfl
theorem sn_mX8_isWorked : Cond.initialized mX8_isWorked.1.cls ∈ fs_T := fs_at9 69 (by decide +kernel) rfl
theorem sd_mX8_isWorked : mX8_isWorked.1.cls ≠ "java/lang/invoke/MethodHandle" ∧ mX8_isWorked.1.cls ≠ "java/lang/invoke/VarHandle" ∧ (parseMethodDescriptor mX8_isWorked.1.desc).map (fun d => d.parameters.length) = some 1 ∧ mX8_isWorked.2.2.1 ≤ 45 := ⟨by decide, by decide, by decide +kernel, by decide⟩
theorem si_mX8_isWorked : Cond.instanceMethod mX8_isWorked.1 ∈ fs_T := fs_at9 1045 (by decide +kernel) rfl
theorem se_mX8_isWorked : Cond.selects mX8_isWorked.1.cls mX8_isWorked.1 mX8_isWorked.1 ∈ fs_T := fs_at9 61 (by decide +kernel) rfl
theorem sv_X8_272 : fs_SV RX8 272 mX8_isWorked 1 := ⟨sc_mX8_isWorked, fs_at9 1043 (by decide +kernel) rfl, si_mX8_isWorked, se_mX8_isWorked, sn_mX8_isWorked, sd_mX8_isWorked.1, sd_mX8_isWorked.2.1, sd_mX8_isWorked.2.2.1, sd_mX8_isWorked.2.2.2⟩
theorem sk_X0_9 : Cond.constantLong RX0 9 (-1000000000000000) ∈ fs_T := fs_at9 322 (by decide +kernel) rfl
theorem sk_X0_11 : Cond.constantLong RX0 11 (1000000000000000) ∈ fs_T := fs_at9 323 (by decide +kernel) rfl
theorem sk_X0_13 : Cond.constantLong RX0 13 (10000000000000001) ∈ fs_T := fs_at9 324 (by decide +kernel) rfl
theorem sl_X0_15 : Cond.methodLink RX0 15 Lib.MathLoose.abs_long.x ∈ fs_T := fs_at9 331 (by decide +kernel) rfl
theorem sk_X0_21 : Cond.constantLong RX0 21 (100000000000000050) ∈ fs_T := fs_at9 334 (by decide +kernel) rfl
theorem sk_X0_23 : Cond.constantLong RX0 23 (100) ∈ fs_T := fs_at9 335 (by decide +kernel) rfl
theorem sc_mX0_rounded : Cond.code mX0_rounded.1 mX0_rounded.2.1 mX0_rounded.2.2.1 mX0_rounded.2.2.2 ∈ fs_T := fs_at9 338 (by decide +kernel) rfl
theorem sn_mX0_rounded : Cond.initialized mX0_rounded.1.cls ∈ fs_T := fs_at9 78 (by decide +kernel) rfl
theorem sd_mX0_rounded : mX0_rounded.1.cls ≠ "java/lang/invoke/MethodHandle" ∧ mX0_rounded.1.cls ≠ "java/lang/invoke/VarHandle" ∧ (parseMethodDescriptor mX0_rounded.1.desc).map (fun d => d.parameters.length) = some 2 ∧ mX0_rounded.2.2.1 ≤ 45 := ⟨by decide, by decide, by decide +kernel, by decide⟩
theorem ss_mX0_rounded : Cond.static mX0_rounded.1 ∈ fs_T := fs_at9 337 (by decide +kernel) rfl
theorem sv_X0_25 : fs_SS RX0 25 mX0_rounded 2 := ⟨sc_mX0_rounded, fs_at9 336 (by decide +kernel) rfl, ss_mX0_rounded, sn_mX0_rounded, sd_mX0_rounded.1, sd_mX0_rounded.2.1, sd_mX0_rounded.2.2.1, sd_mX0_rounded.2.2.2⟩
theorem sc_mX0_limited : Cond.code mX0_limited.1 mX0_limited.2.1 mX0_limited.2.2.1 mX0_limited.2.2.2 ∈ fs_T := fs_at9 321 (by decide +kernel) rfl
theorem sn_mX0_limited : Cond.initialized mX0_limited.1.cls ∈ fs_T := fs_at9 78 (by decide +kernel) rfl
theorem sd_mX0_limited : mX0_limited.1.cls ≠ "java/lang/invoke/MethodHandle" ∧ mX0_limited.1.cls ≠ "java/lang/invoke/VarHandle" ∧ (parseMethodDescriptor mX0_limited.1.desc).map (fun d => d.parameters.length) = some 1 ∧ mX0_limited.2.2.1 ≤ 45 := ⟨by decide, by decide, by decide +kernel, by decide⟩
theorem ss_mX0_limited : Cond.static mX0_limited.1 ∈ fs_T := fs_at9 320 (by decide +kernel) rfl
theorem sv_X0_31 : fs_SS RX0 31 mX0_limited 1 := ⟨sc_mX0_limited, fs_at9 340 (by decide +kernel) rfl, ss_mX0_limited, sn_mX0_limited, sd_mX0_limited.1, sd_mX0_limited.2.1, sd_mX0_limited.2.2.1, sd_mX0_limited.2.2.2⟩
theorem sk_X0_34 : Cond.constantLong RX0 34 (10000000000000002) ∈ fs_T := fs_at9 344 (by decide +kernel) rfl
theorem sk_X0_36 : Cond.constantLong RX0 36 (2) ∈ fs_T := fs_at9 339 (by decide +kernel) rfl
theorem so_X1_3 : Cond.methodLink RX1 3 objectInit ∈ fs_T := fs_at9 109 (by decide +kernel) rfl
theorem sa_X1_9 : Cond.classLink RX1 9 "FormSheet$Item" ∈ fs_T := fs_at9 110 (by decide +kernel) rfl
theorem sf_X1_11 : fs_F RX1 11 0 0 := ⟨RX1, TX1, 3, rfl, ux_X1, by decide, fs_at9 112 (by decide +kernel) rfl⟩
theorem sp_X1_11 : fs_FP RX1 11 0 0 (tyX1 0) true := ⟨RX1, TX1, 3, tyX1, rfl, ux_X1, by decide, fs_at9 112 (by decide +kernel) rfl, tyX1_ok, nmX1, rfl, rfl, fun h => rfl⟩
theorem sf_X1_17 : fs_F RX1 17 0 1 := ⟨RX1, TX1, 3, rfl, ux_X1, by decide, fs_at9 115 (by decide +kernel) rfl⟩
theorem sp_X1_17 : fs_FP RX1 17 0 1 .int false := ⟨RX1, TX1, 3, tyX1, rfl, ux_X1, by decide, fs_at9 115 (by decide +kernel) rfl, tyX1_ok, nmX1, rfl, rfl, fun h => absurd h (by decide)⟩
theorem sf_X1_21 : fs_F RX1 21 0 2 := ⟨RX1, TX1, 3, rfl, ux_X1, by decide, fs_at9 119 (by decide +kernel) rfl⟩
theorem sp_X1_21 : fs_FP RX1 21 0 2 .int false := ⟨RX1, TX1, 3, tyX1, rfl, ux_X1, by decide, fs_at9 119 (by decide +kernel) rfl, tyX1_ok, nmX1, rfl, rfl, fun h => absurd h (by decide)⟩
theorem sf_X1_24 : fs_F RX1 24 1 0 := ⟨RX2, TX2, 5, rfl, ux_X2, by decide, fs_at9 529 (by decide +kernel) rfl⟩
theorem sf_X1_28 : fs_F RX1 28 1 1 := ⟨RX2, TX2, 5, rfl, ux_X2, by decide, fs_at9 531 (by decide +kernel) rfl⟩
theorem sc_mX1_fieldNamed : Cond.code mX1_fieldNamed.1 mX1_fieldNamed.2.1 mX1_fieldNamed.2.2.1 mX1_fieldNamed.2.2.2 ∈ fs_T := fs_at9 704 (by decide +kernel) rfl
theorem sn_mX1_fieldNamed : Cond.initialized mX1_fieldNamed.1.cls ∈ fs_T := fs_at9 65 (by decide +kernel) rfl
theorem sd_mX1_fieldNamed : mX1_fieldNamed.1.cls ≠ "java/lang/invoke/MethodHandle" ∧ mX1_fieldNamed.1.cls ≠ "java/lang/invoke/VarHandle" ∧ (parseMethodDescriptor mX1_fieldNamed.1.desc).map (fun d => d.parameters.length) = some 1 ∧ mX1_fieldNamed.2.2.1 ≤ 45 := ⟨by decide, by decide, by decide +kernel, by decide⟩
theorem si_mX1_fieldNamed : Cond.instanceMethod mX1_fieldNamed.1 ∈ fs_T := fs_at9 703 (by decide +kernel) rfl
theorem se_mX1_fieldNamed : Cond.selects mX1_fieldNamed.1.cls mX1_fieldNamed.1 mX1_fieldNamed.1 ∈ fs_T := fs_at9 31 (by decide +kernel) rfl
theorem sv_X1_31 : fs_SV RX1 31 mX1_fieldNamed 1 := ⟨sc_mX1_fieldNamed, fs_at9 701 (by decide +kernel) rfl, si_mX1_fieldNamed, se_mX1_fieldNamed, sn_mX1_fieldNamed, sd_mX1_fieldNamed.1, sd_mX1_fieldNamed.2.1, sd_mX1_fieldNamed.2.2.1, sd_mX1_fieldNamed.2.2.2⟩
theorem sf_X1_35 : fs_F RX1 35 1 2 := ⟨RX2, TX2, 5, rfl, ux_X2, by decide, fs_at9 533 (by decide +kernel) rfl⟩
theorem sv_X1_39 : fs_SV RX1 39 mX1_rowsOf 1 := ⟨sc_mX1_rowsOf, fs_at9 301 (by decide +kernel) rfl, si_mX1_rowsOf, se_mX1_rowsOf, sn_mX1_rowsOf, sd_mX1_rowsOf.1, sd_mX1_rowsOf.2.1, sd_mX1_rowsOf.2.2.1, sd_mX1_rowsOf.2.2.2⟩
theorem sc_mX1_isOfKind : Cond.code mX1_isOfKind.1 mX1_isOfKind.2.1 mX1_isOfKind.2.2.1 mX1_isOfKind.2.2.2 ∈ fs_T := fs_at9 370 (by decide +kernel) rfl
theorem sn_mX1_isOfKind : Cond.initialized mX1_isOfKind.1.cls ∈ fs_T := fs_at9 65 (by decide +kernel) rfl
theorem sd_mX1_isOfKind : mX1_isOfKind.1.cls ≠ "java/lang/invoke/MethodHandle" ∧ mX1_isOfKind.1.cls ≠ "java/lang/invoke/VarHandle" ∧ (parseMethodDescriptor mX1_isOfKind.1.desc).map (fun d => d.parameters.length) = some 2 ∧ mX1_isOfKind.2.2.1 ≤ 45 := ⟨by decide, by decide, by decide +kernel, by decide⟩
theorem si_mX1_isOfKind : Cond.instanceMethod mX1_isOfKind.1 ∈ fs_T := fs_at9 369 (by decide +kernel) rfl
theorem se_mX1_isOfKind : Cond.selects mX1_isOfKind.1.cls mX1_isOfKind.1 mX1_isOfKind.1 ∈ fs_T := fs_at9 12 (by decide +kernel) rfl
theorem sv_X1_42 : fs_SV RX1 42 mX1_isOfKind 2 := ⟨sc_mX1_isOfKind, fs_at9 367 (by decide +kernel) rfl, si_mX1_isOfKind, se_mX1_isOfKind, sn_mX1_isOfKind, sd_mX1_isOfKind.1, sd_mX1_isOfKind.2.1, sd_mX1_isOfKind.2.2.1, sd_mX1_isOfKind.2.2.2⟩
theorem sv_X1_46 : fs_SV RX1 46 mX1_isField 1 := ⟨sc_mX1_isField, fs_at9 413 (by decide +kernel) rfl, si_mX1_isField, se_mX1_isField, sn_mX1_isField, sd_mX1_isField.1, sd_mX1_isField.2.1, sd_mX1_isField.2.2.1, sd_mX1_isField.2.2.2⟩
theorem sf_X1_50 : fs_F RX1 50 1 3 := ⟨RX2, TX2, 5, rfl, ux_X2, by decide, fs_at9 536 (by decide +kernel) rfl⟩
theorem sc_mX1_resolve : Cond.code mX1_resolve.1 mX1_resolve.2.1 mX1_resolve.2.2.1 mX1_resolve.2.2.2 ∈ fs_T := fs_at9 740 (by decide +kernel) rfl
theorem sn_mX1_resolve : Cond.initialized mX1_resolve.1.cls ∈ fs_T := fs_at9 65 (by decide +kernel) rfl
theorem sd_mX1_resolve : mX1_resolve.1.cls ≠ "java/lang/invoke/MethodHandle" ∧ mX1_resolve.1.cls ≠ "java/lang/invoke/VarHandle" ∧ (parseMethodDescriptor mX1_resolve.1.desc).map (fun d => d.parameters.length) = some 2 ∧ mX1_resolve.2.2.1 ≤ 45 := ⟨by decide, by decide, by decide +kernel, by decide⟩
theorem si_mX1_resolve : Cond.instanceMethod mX1_resolve.1 ∈ fs_T := fs_at9 739 (by decide +kernel) rfl
theorem se_mX1_resolve : Cond.selects mX1_resolve.1.cls mX1_resolve.1 mX1_resolve.1 ∈ fs_T := fs_at9 32 (by decide +kernel) rfl
theorem sv_X1_54 : fs_SV RX1 54 mX1_resolve 2 := ⟨sc_mX1_resolve, fs_at9 737 (by decide +kernel) rfl, si_mX1_resolve, se_mX1_resolve, sn_mX1_resolve, sd_mX1_resolve.1, sd_mX1_resolve.2.1, sd_mX1_resolve.2.2.1, sd_mX1_resolve.2.2.2⟩
theorem sf_X1_58 : fs_F RX1 58 3 0 := ⟨RX4, TX4, 7, rfl, ux_X4, by decide, fs_at9 575 (by decide +kernel) rfl⟩
theorem sf_X1_61 : fs_F RX1 61 3 2 := ⟨RX4, TX4, 7, rfl, ux_X4, by decide, fs_at9 579 (by decide +kernel) rfl⟩
theorem sf_X1_62 : fs_F RX1 62 3 6 := ⟨RX4, TX4, 7, rfl, ux_X4, by decide, fs_at9 591 (by decide +kernel) rfl⟩
theorem sp_X1_62 : fs_FP RX1 62 3 6 .int false := ⟨RX4, TX4, 7, tyX4, rfl, ux_X4, by decide, fs_at9 591 (by decide +kernel) rfl, tyX4_ok, nmX4, rfl, rfl, fun h => absurd h (by decide)⟩
theorem sc_mX1_repeats : Cond.code mX1_repeats.1 mX1_repeats.2.1 mX1_repeats.2.2.1 mX1_repeats.2.2.2 ∈ fs_T := fs_at9 246 (by decide +kernel) rfl
theorem sn_mX1_repeats : Cond.initialized mX1_repeats.1.cls ∈ fs_T := fs_at9 65 (by decide +kernel) rfl
theorem sd_mX1_repeats : mX1_repeats.1.cls ≠ "java/lang/invoke/MethodHandle" ∧ mX1_repeats.1.cls ≠ "java/lang/invoke/VarHandle" ∧ (parseMethodDescriptor mX1_repeats.1.desc).map (fun d => d.parameters.length) = some 1 ∧ mX1_repeats.2.2.1 ≤ 45 := ⟨by decide, by decide, by decide +kernel, by decide⟩
theorem si_mX1_repeats : Cond.instanceMethod mX1_repeats.1 ∈ fs_T := fs_at9 244 (by decide +kernel) rfl
theorem se_mX1_repeats : Cond.selects mX1_repeats.1.cls mX1_repeats.1 mX1_repeats.1 ∈ fs_T := fs_at9 245 (by decide +kernel) rfl
theorem sv_X1_65 : fs_SV RX1 65 mX1_repeats 1 := ⟨sc_mX1_repeats, fs_at9 741 (by decide +kernel) rfl, si_mX1_repeats, se_mX1_repeats, sn_mX1_repeats, sd_mX1_repeats.1, sd_mX1_repeats.2.1, sd_mX1_repeats.2.2.1, sd_mX1_repeats.2.2.2⟩
theorem sf_X1_67 : fs_F RX1 67 3 3 := ⟨RX4, TX4, 7, rfl, ux_X4, by decide, fs_at9 582 (by decide +kernel) rfl⟩
theorem sf_X1_70 : fs_F RX1 70 3 4 := ⟨RX4, TX4, 7, rfl, ux_X4, by decide, fs_at9 585 (by decide +kernel) rfl⟩
theorem sf_X1_73 : fs_F RX1 73 3 5 := ⟨RX4, TX4, 7, rfl, ux_X4, by decide, fs_at9 588 (by decide +kernel) rfl⟩
theorem so_X2_1 : Cond.methodLink RX2 1 objectInit ∈ fs_T := fs_at9 527 (by decide +kernel) rfl
theorem sf_X2_7 : fs_F RX2 7 1 0 := ⟨RX2, TX2, 5, rfl, ux_X2, by decide, fs_at9 528 (by decide +kernel) rfl⟩
theorem sp_X2_7 : fs_FP RX2 7 1 0 .char true := ⟨RX2, TX2, 5, tyX2, rfl, ux_X2, by decide, fs_at9 528 (by decide +kernel) rfl, tyX2_ok, nmX2, rfl, rfl, fun h => rfl⟩
theorem sf_X2_13 : fs_F RX2 13 1 1 := ⟨RX2, TX2, 5, rfl, ux_X2, by decide, fs_at9 530 (by decide +kernel) rfl⟩
theorem sp_X2_13 : fs_FP RX2 13 1 1 .int true := ⟨RX2, TX2, 5, tyX2, rfl, ux_X2, by decide, fs_at9 530 (by decide +kernel) rfl, tyX2_ok, nmX2, rfl, rfl, fun h => rfl⟩
theorem sf_X2_17 : fs_F RX2 17 1 2 := ⟨RX2, TX2, 5, rfl, ux_X2, by decide, fs_at9 532 (by decide +kernel) rfl⟩
theorem sp_X2_17 : fs_FP RX2 17 1 2 .boolean true := ⟨RX2, TX2, 5, tyX2, rfl, ux_X2, by decide, fs_at9 532 (by decide +kernel) rfl, tyX2_ok, nmX2, rfl, rfl, fun h => rfl⟩
theorem sf_X2_21 : fs_F RX2 21 1 3 := ⟨RX2, TX2, 5, rfl, ux_X2, by decide, fs_at9 534 (by decide +kernel) rfl⟩
theorem sp_X2_21 : fs_FP RX2 21 1 3 (tyX2 3) true := ⟨RX2, TX2, 5, tyX2, rfl, ux_X2, by decide, fs_at9 534 (by decide +kernel) rfl, tyX2_ok, nmX2, rfl, rfl, fun h => rfl⟩
theorem sf_X2_25 : fs_F RX2 25 1 4 := ⟨RX2, TX2, 5, rfl, ux_X2, by decide, fs_at9 537 (by decide +kernel) rfl⟩
theorem sp_X2_25 : fs_FP RX2 25 1 4 .int true := ⟨RX2, TX2, 5, tyX2, rfl, ux_X2, by decide, fs_at9 537 (by decide +kernel) rfl, tyX2_ok, nmX2, rfl, rfl, fun h => rfl⟩
theorem so_X3_3 : Cond.methodLink RX3 3 objectInit ∈ fs_T := fs_at9 164 (by decide +kernel) rfl
theorem sf_X3_9 : fs_F RX3 9 2 4 := ⟨RX3, TX3, 8, rfl, ux_X3, by decide, fs_at9 170 (by decide +kernel) rfl⟩
theorem sp_X3_9 : fs_FP RX3 9 2 4 (tyX3 4) true := ⟨RX3, TX3, 8, tyX3, rfl, ux_X3, by decide, fs_at9 170 (by decide +kernel) rfl, tyX3_ok, nmX3, rfl, rfl, fun h => rfl⟩
theorem sf_X3_15 : fs_F RX3 15 2 5 := ⟨RX3, TX3, 8, rfl, ux_X3, by decide, fs_at9 171 (by decide +kernel) rfl⟩
theorem sp_X3_15 : fs_FP RX3 15 2 5 (tyX3 5) true := ⟨RX3, TX3, 8, tyX3, rfl, ux_X3, by decide, fs_at9 171 (by decide +kernel) rfl, tyX3_ok, nmX3, rfl, rfl, fun h => rfl⟩
theorem sf_X3_18 : fs_F RX3 18 2 6 := ⟨RX3, TX3, 8, rfl, ux_X3, by decide, fs_at9 172 (by decide +kernel) rfl⟩
theorem sp_X3_18 : fs_FP RX3 18 2 6 (tyX3 6) true := ⟨RX3, TX3, 8, tyX3, rfl, ux_X3, by decide, fs_at9 172 (by decide +kernel) rfl, tyX3_ok, nmX3, rfl, rfl, fun h => rfl⟩
theorem sf_X3_21 : fs_F RX3 21 2 7 := ⟨RX3, TX3, 8, rfl, ux_X3, by decide, fs_at9 173 (by decide +kernel) rfl⟩
theorem sp_X3_21 : fs_FP RX3 21 2 7 .int false := ⟨RX3, TX3, 8, tyX3, rfl, ux_X3, by decide, fs_at9 173 (by decide +kernel) rfl, tyX3_ok, nmX3, rfl, rfl, fun h => absurd h (by decide)⟩
theorem sf_X3_25 : fs_F RX3 25 2 1 := ⟨RX3, TX3, 8, rfl, ux_X3, by decide, fs_at9 167 (by decide +kernel) rfl⟩
theorem sp_X3_25 : fs_FP RX3 25 2 1 (tyX3 1) true := ⟨RX3, TX3, 8, tyX3, rfl, ux_X3, by decide, fs_at9 167 (by decide +kernel) rfl, tyX3_ok, nmX3, rfl, rfl, fun h => rfl⟩
theorem sf_X3_29 : fs_F RX3 29 2 2 := ⟨RX3, TX3, 8, rfl, ux_X3, by decide, fs_at9 168 (by decide +kernel) rfl⟩
theorem sp_X3_29 : fs_FP RX3 29 2 2 (tyX3 2) true := ⟨RX3, TX3, 8, tyX3, rfl, ux_X3, by decide, fs_at9 168 (by decide +kernel) rfl, tyX3_ok, nmX3, rfl, rfl, fun h => rfl⟩
theorem sf_X3_33 : fs_F RX3 33 2 0 := ⟨RX3, TX3, 8, rfl, ux_X3, by decide, fs_at9 165 (by decide +kernel) rfl⟩
theorem sp_X3_33 : fs_FP RX3 33 2 0 .int true := ⟨RX3, TX3, 8, tyX3, rfl, ux_X3, by decide, fs_at9 165 (by decide +kernel) rfl, tyX3_ok, nmX3, rfl, rfl, fun h => rfl⟩
theorem sf_X3_36 : fs_F RX3 36 2 3 := ⟨RX3, TX3, 8, rfl, ux_X3, by decide, fs_at9 169 (by decide +kernel) rfl⟩
theorem sp_X3_36 : fs_FP RX3 36 2 3 (tyX3 3) true := ⟨RX3, TX3, 8, tyX3, rfl, ux_X3, by decide, fs_at9 169 (by decide +kernel) rfl, tyX3_ok, nmX3, rfl, rfl, fun h => rfl⟩
theorem sv_X3_39 : fs_SV RX3 39 mX1_has 2 := ⟨sc_mX1_has, fs_at9 462 (by decide +kernel) rfl, si_mX1_has, se_mX1_has, sn_mX1_has, sd_mX1_has.1, sd_mX1_has.2.1, sd_mX1_has.2.2.1, sd_mX1_has.2.2.2⟩
theorem sv_X3_45 : fs_SSN RX3 45 mX7_cellOf 2 := ⟨sc_mX7_cellOf, ⟨"FormSheet", List.mem_filter.mpr ⟨List.mem_of_getElem? (i := 358) (by decide +kernel), rfl⟩⟩, ss_mX7_cellOf, sn_mX7_cellOf, sd_mX7_cellOf.1, sd_mX7_cellOf.2.1, sd_mX7_cellOf.2.2.1, sd_mX7_cellOf.2.2.2⟩
theorem sc_mJ7_fillI : Cond.code mJ7_fillI.1 mJ7_fillI.2.1 mJ7_fillI.2.2.1 mJ7_fillI.2.2.2 ∈ fs_T := fs_at9 352 (by decide +kernel) rfl
theorem sn_mJ7_fillI : Cond.initialized mJ7_fillI.1.cls ∈ fs_T := fs_at9 77 (by decide +kernel) rfl
theorem sd_mJ7_fillI : mJ7_fillI.1.cls ≠ "java/lang/invoke/MethodHandle" ∧ mJ7_fillI.1.cls ≠ "java/lang/invoke/VarHandle" ∧ (parseMethodDescriptor mJ7_fillI.1.desc).map (fun d => d.parameters.length) = some 2 ∧ mJ7_fillI.2.2.1 ≤ 45 := ⟨by decide, by decide, by decide +kernel, by decide⟩
theorem ss_mJ7_fillI : Cond.static mJ7_fillI.1 ∈ fs_T := fs_at9 351 (by decide +kernel) rfl
theorem sv_X3_49 : fs_SS RX3 49 mJ7_fillI 2 := ⟨sc_mJ7_fillI, fs_at9 350 (by decide +kernel) rfl, ss_mJ7_fillI, sn_mJ7_fillI, sd_mJ7_fillI.1, sd_mJ7_fillI.2.1, sd_mJ7_fillI.2.2.1, sd_mJ7_fillI.2.2.2⟩
theorem sc_mX3_measure : Cond.code mX3_measure.1 mX3_measure.2.1 mX3_measure.2.2.1 mX3_measure.2.2.2 ∈ fs_T := fs_at9 356 (by decide +kernel) rfl
theorem sn_mX3_measure : Cond.initialized mX3_measure.1.cls ∈ fs_T := fs_at9 67 (by decide +kernel) rfl
theorem sd_mX3_measure : mX3_measure.1.cls ≠ "java/lang/invoke/MethodHandle" ∧ mX3_measure.1.cls ≠ "java/lang/invoke/VarHandle" ∧ (parseMethodDescriptor mX3_measure.1.desc).map (fun d => d.parameters.length) = some 0 ∧ mX3_measure.2.2.1 ≤ 45 := ⟨by decide, by decide, by decide +kernel, by decide⟩
theorem si_mX3_measure : Cond.instanceMethod mX3_measure.1 ∈ fs_T := fs_at9 355 (by decide +kernel) rfl
theorem se_mX3_measure : Cond.selects mX3_measure.1.cls mX3_measure.1 mX3_measure.1 ∈ fs_T := fs_at9 10 (by decide +kernel) rfl
theorem sv_X3_55 : fs_SV RX3 55 mX3_measure 0 := ⟨sc_mX3_measure, fs_at9 353 (by decide +kernel) rfl, si_mX3_measure, se_mX3_measure, sn_mX3_measure, sd_mX3_measure.1, sd_mX3_measure.2.1, sd_mX3_measure.2.2.1, sd_mX3_measure.2.2.2⟩
theorem sf_X3_58 : fs_F RX3 58 0 1 := ⟨RX1, TX1, 3, rfl, ux_X1, by decide, fs_at9 117 (by decide +kernel) rfl⟩
theorem sv_X3_61 : fs_SV RX3 61 mX1_repeats 1 := ⟨sc_mX1_repeats, fs_at9 383 (by decide +kernel) rfl, si_mX1_repeats, se_mX1_repeats, sn_mX1_repeats, sd_mX1_repeats.1, sd_mX1_repeats.2.1, sd_mX1_repeats.2.2.1, sd_mX1_repeats.2.2.2⟩
theorem sc_mX3_putAlone : Cond.code mX3_putAlone.1 mX3_putAlone.2.1 mX3_putAlone.2.2.1 mX3_putAlone.2.2.2 ∈ fs_T := fs_at9 387 (by decide +kernel) rfl
theorem sn_mX3_putAlone : Cond.initialized mX3_putAlone.1.cls ∈ fs_T := fs_at9 67 (by decide +kernel) rfl
theorem sd_mX3_putAlone : mX3_putAlone.1.cls ≠ "java/lang/invoke/MethodHandle" ∧ mX3_putAlone.1.cls ≠ "java/lang/invoke/VarHandle" ∧ (parseMethodDescriptor mX3_putAlone.1.desc).map (fun d => d.parameters.length) = some 2 ∧ mX3_putAlone.2.2.1 ≤ 45 := ⟨by decide, by decide, by decide +kernel, by decide⟩
theorem si_mX3_putAlone : Cond.instanceMethod mX3_putAlone.1 ∈ fs_T := fs_at9 386 (by decide +kernel) rfl
theorem se_mX3_putAlone : Cond.selects mX3_putAlone.1.cls mX3_putAlone.1 mX3_putAlone.1 ∈ fs_T := fs_at9 13 (by decide +kernel) rfl
theorem sv_X3_65 : fs_SV RX3 65 mX3_putAlone 2 := ⟨sc_mX3_putAlone, fs_at9 384 (by decide +kernel) rfl, si_mX3_putAlone, se_mX3_putAlone, sn_mX3_putAlone, sd_mX3_putAlone.1, sd_mX3_putAlone.2.1, sd_mX3_putAlone.2.2.1, sd_mX3_putAlone.2.2.2⟩
theorem sc_mX3_putSection : Cond.code mX3_putSection.1 mX3_putSection.2.1 mX3_putSection.2.2.1 mX3_putSection.2.2.2 ∈ fs_T := fs_at9 400 (by decide +kernel) rfl
theorem sn_mX3_putSection : Cond.initialized mX3_putSection.1.cls ∈ fs_T := fs_at9 67 (by decide +kernel) rfl
theorem sd_mX3_putSection : mX3_putSection.1.cls ≠ "java/lang/invoke/MethodHandle" ∧ mX3_putSection.1.cls ≠ "java/lang/invoke/VarHandle" ∧ (parseMethodDescriptor mX3_putSection.1.desc).map (fun d => d.parameters.length) = some 1 ∧ mX3_putSection.2.2.1 ≤ 45 := ⟨by decide, by decide, by decide +kernel, by decide⟩
theorem si_mX3_putSection : Cond.instanceMethod mX3_putSection.1 ∈ fs_T := fs_at9 399 (by decide +kernel) rfl
theorem se_mX3_putSection : Cond.selects mX3_putSection.1.cls mX3_putSection.1 mX3_putSection.1 ∈ fs_T := fs_at9 16 (by decide +kernel) rfl
theorem sv_X3_69 : fs_SV RX3 69 mX3_putSection 1 := ⟨sc_mX3_putSection, fs_at9 397 (by decide +kernel) rfl, si_mX3_putSection, se_mX3_putSection, sn_mX3_putSection, sd_mX3_putSection.1, sd_mX3_putSection.2.1, sd_mX3_putSection.2.2.1, sd_mX3_putSection.2.2.2⟩
theorem sv_X3_73 : fs_SV RX3 73 mX1_rowsOf 1 := ⟨sc_mX1_rowsOf, fs_at9 357 (by decide +kernel) rfl, si_mX1_rowsOf, se_mX1_rowsOf, sn_mX1_rowsOf, sd_mX1_rowsOf.1, sd_mX1_rowsOf.2.1, sd_mX1_rowsOf.2.2.1, sd_mX1_rowsOf.2.2.2⟩
theorem sc_mX3_linesOf : Cond.code mX3_linesOf.1 mX3_linesOf.2.1 mX3_linesOf.2.2.1 mX3_linesOf.2.2.2 ∈ fs_T := fs_at9 362 (by decide +kernel) rfl
theorem sn_mX3_linesOf : Cond.initialized mX3_linesOf.1.cls ∈ fs_T := fs_at9 67 (by decide +kernel) rfl
theorem sd_mX3_linesOf : mX3_linesOf.1.cls ≠ "java/lang/invoke/MethodHandle" ∧ mX3_linesOf.1.cls ≠ "java/lang/invoke/VarHandle" ∧ (parseMethodDescriptor mX3_linesOf.1.desc).map (fun d => d.parameters.length) = some 2 ∧ mX3_linesOf.2.2.1 ≤ 45 := ⟨by decide, by decide, by decide +kernel, by decide⟩
theorem si_mX3_linesOf : Cond.instanceMethod mX3_linesOf.1 ∈ fs_T := fs_at9 361 (by decide +kernel) rfl
theorem se_mX3_linesOf : Cond.selects mX3_linesOf.1.cls mX3_linesOf.1 mX3_linesOf.1 ∈ fs_T := fs_at9 11 (by decide +kernel) rfl
theorem sv_X3_77 : fs_SV RX3 77 mX3_linesOf 2 := ⟨sc_mX3_linesOf, fs_at9 359 (by decide +kernel) rfl, si_mX3_linesOf, se_mX3_linesOf, sn_mX3_linesOf, sd_mX3_linesOf.1, sd_mX3_linesOf.2.1, sd_mX3_linesOf.2.2.1, sd_mX3_linesOf.2.2.2⟩
theorem sv_X3_80 : fs_SV RX3 80 mX1_isCaption 1 := ⟨sc_mX1_isCaption, fs_at9 363 (by decide +kernel) rfl, si_mX1_isCaption, se_mX1_isCaption, sn_mX1_isCaption, sd_mX1_isCaption.1, sd_mX1_isCaption.2.1, sd_mX1_isCaption.2.2.1, sd_mX1_isCaption.2.2.2⟩
theorem sf_X3_83 : fs_F RX3 83 0 0 := ⟨RX1, TX1, 3, rfl, ux_X1, by decide, fs_at9 113 (by decide +kernel) rfl⟩
theorem sf_X3_87 : fs_F RX3 87 1 4 := ⟨RX2, TX2, 5, rfl, ux_X2, by decide, fs_at9 538 (by decide +kernel) rfl⟩
theorem sv_X3_92 : fs_SV RX3 92 mX1_isField 1 := ⟨sc_mX1_isField, fs_at9 371 (by decide +kernel) rfl, si_mX1_isField, se_mX1_isField, sn_mX1_isField, sd_mX1_isField.1, sd_mX1_isField.2.1, sd_mX1_isField.2.2.1, sd_mX1_isField.2.2.2⟩
theorem sv_X3_95 : fs_SV RX3 95 mX6_fails 2 := ⟨sc_mX6_fails, fs_at9 375 (by decide +kernel) rfl, si_mX6_fails, se_mX6_fails, sn_mX6_fails, sd_mX6_fails.1, sd_mX6_fails.2.1, sd_mX6_fails.2.2.1, sd_mX6_fails.2.2.2⟩
theorem sf_X3_100 : fs_F RX3 100 0 2 := ⟨RX1, TX1, 3, rfl, ux_X1, by decide, fs_at9 121 (by decide +kernel) rfl⟩
theorem sc_mX3_putBlock : Cond.code mX3_putBlock.1 mX3_putBlock.2.1 mX3_putBlock.2.2.1 mX3_putBlock.2.2.2 ∈ fs_T := fs_at9 404 (by decide +kernel) rfl
theorem sn_mX3_putBlock : Cond.initialized mX3_putBlock.1.cls ∈ fs_T := fs_at9 67 (by decide +kernel) rfl
theorem sd_mX3_putBlock : mX3_putBlock.1.cls ≠ "java/lang/invoke/MethodHandle" ∧ mX3_putBlock.1.cls ≠ "java/lang/invoke/VarHandle" ∧ (parseMethodDescriptor mX3_putBlock.1.desc).map (fun d => d.parameters.length) = some 3 ∧ mX3_putBlock.2.2.1 ≤ 45 := ⟨by decide, by decide, by decide +kernel, by decide⟩
theorem si_mX3_putBlock : Cond.instanceMethod mX3_putBlock.1 ∈ fs_T := fs_at9 403 (by decide +kernel) rfl
theorem se_mX3_putBlock : Cond.selects mX3_putBlock.1.cls mX3_putBlock.1 mX3_putBlock.1 ∈ fs_T := fs_at9 17 (by decide +kernel) rfl
theorem sv_X3_103 : fs_SV RX3 103 mX3_putBlock 3 := ⟨sc_mX3_putBlock, fs_at9 401 (by decide +kernel) rfl, si_mX3_putBlock, se_mX3_putBlock, sn_mX3_putBlock, sd_mX3_putBlock.1, sd_mX3_putBlock.2.1, sd_mX3_putBlock.2.2.1, sd_mX3_putBlock.2.2.2⟩
theorem sc_mX3_turnPage : Cond.code mX3_turnPage.1 mX3_turnPage.2.1 mX3_turnPage.2.2.1 mX3_turnPage.2.2.2 ∈ fs_T := fs_at9 391 (by decide +kernel) rfl
theorem sn_mX3_turnPage : Cond.initialized mX3_turnPage.1.cls ∈ fs_T := fs_at9 67 (by decide +kernel) rfl
theorem sd_mX3_turnPage : mX3_turnPage.1.cls ≠ "java/lang/invoke/MethodHandle" ∧ mX3_turnPage.1.cls ≠ "java/lang/invoke/VarHandle" ∧ (parseMethodDescriptor mX3_turnPage.1.desc).map (fun d => d.parameters.length) = some 1 ∧ mX3_turnPage.2.2.1 ≤ 45 := ⟨by decide, by decide, by decide +kernel, by decide⟩
theorem si_mX3_turnPage : Cond.instanceMethod mX3_turnPage.1 ∈ fs_T := fs_at9 390 (by decide +kernel) rfl
theorem se_mX3_turnPage : Cond.selects mX3_turnPage.1.cls mX3_turnPage.1 mX3_turnPage.1 ∈ fs_T := fs_at9 14 (by decide +kernel) rfl
theorem sv_X3_107 : fs_SV RX3 107 mX3_turnPage 1 := ⟨sc_mX3_turnPage, fs_at9 388 (by decide +kernel) rfl, si_mX3_turnPage, se_mX3_turnPage, sn_mX3_turnPage, sd_mX3_turnPage.1, sd_mX3_turnPage.2.1, sd_mX3_turnPage.2.2.1, sd_mX3_turnPage.2.2.2⟩
theorem sc_mX3_putHeader : Cond.code mX3_putHeader.1 mX3_putHeader.2.1 mX3_putHeader.2.2.1 mX3_putHeader.2.2.2 ∈ fs_T := fs_at9 408 (by decide +kernel) rfl
theorem sn_mX3_putHeader : Cond.initialized mX3_putHeader.1.cls ∈ fs_T := fs_at9 67 (by decide +kernel) rfl
theorem sd_mX3_putHeader : mX3_putHeader.1.cls ≠ "java/lang/invoke/MethodHandle" ∧ mX3_putHeader.1.cls ≠ "java/lang/invoke/VarHandle" ∧ (parseMethodDescriptor mX3_putHeader.1.desc).map (fun d => d.parameters.length) = some 2 ∧ mX3_putHeader.2.2.1 ≤ 45 := ⟨by decide, by decide, by decide +kernel, by decide⟩
theorem si_mX3_putHeader : Cond.instanceMethod mX3_putHeader.1 ∈ fs_T := fs_at9 407 (by decide +kernel) rfl
theorem se_mX3_putHeader : Cond.selects mX3_putHeader.1.cls mX3_putHeader.1 mX3_putHeader.1 ∈ fs_T := fs_at9 18 (by decide +kernel) rfl
theorem sv_X3_110 : fs_SV RX3 110 mX3_putHeader 2 := ⟨sc_mX3_putHeader, fs_at9 405 (by decide +kernel) rfl, si_mX3_putHeader, se_mX3_putHeader, sn_mX3_putHeader, sd_mX3_putHeader.1, sd_mX3_putHeader.2.1, sd_mX3_putHeader.2.2.1, sd_mX3_putHeader.2.2.2⟩
theorem sc_mX3_putLines : Cond.code mX3_putLines.1 mX3_putLines.2.1 mX3_putLines.2.2.1 mX3_putLines.2.2.2 ∈ fs_T := fs_at9 395 (by decide +kernel) rfl
theorem sn_mX3_putLines : Cond.initialized mX3_putLines.1.cls ∈ fs_T := fs_at9 67 (by decide +kernel) rfl
theorem sd_mX3_putLines : mX3_putLines.1.cls ≠ "java/lang/invoke/MethodHandle" ∧ mX3_putLines.1.cls ≠ "java/lang/invoke/VarHandle" ∧ (parseMethodDescriptor mX3_putLines.1.desc).map (fun d => d.parameters.length) = some 2 ∧ mX3_putLines.2.2.1 ≤ 45 := ⟨by decide, by decide, by decide +kernel, by decide⟩
theorem si_mX3_putLines : Cond.instanceMethod mX3_putLines.1 ∈ fs_T := fs_at9 394 (by decide +kernel) rfl
theorem se_mX3_putLines : Cond.selects mX3_putLines.1.cls mX3_putLines.1 mX3_putLines.1 ∈ fs_T := fs_at9 15 (by decide +kernel) rfl
theorem sv_X3_113 : fs_SV RX3 113 mX3_putLines 2 := ⟨sc_mX3_putLines, fs_at9 392 (by decide +kernel) rfl, si_mX3_putLines, se_mX3_putLines, sn_mX3_putLines, sd_mX3_putLines.1, sd_mX3_putLines.2.1, sd_mX3_putLines.2.2.1, sd_mX3_putLines.2.2.2⟩
theorem sl_X3_116 : Cond.methodLink RX3 116 Lib.Math.min.name ∈ fs_T := fs_at9 396 (by decide +kernel) rfl
theorem so_X4_3 : Cond.methodLink RX4 3 objectInit ∈ fs_T := fs_at9 572 (by decide +kernel) rfl
theorem sf_X4_9 : fs_F RX4 9 3 6 := ⟨RX4, TX4, 7, rfl, ux_X4, by decide, fs_at9 589 (by decide +kernel) rfl⟩
theorem sp_X4_9 : fs_FP RX4 9 3 6 .int false := ⟨RX4, TX4, 7, tyX4, rfl, ux_X4, by decide, fs_at9 589 (by decide +kernel) rfl, tyX4_ok, nmX4, rfl, rfl, fun h => absurd h (by decide)⟩
theorem sf_X4_15 : fs_F RX4 15 3 0 := ⟨RX4, TX4, 7, rfl, ux_X4, by decide, fs_at9 573 (by decide +kernel) rfl⟩
theorem sp_X4_15 : fs_FP RX4 15 3 0 .char true := ⟨RX4, TX4, 7, tyX4, rfl, ux_X4, by decide, fs_at9 573 (by decide +kernel) rfl, tyX4_ok, nmX4, rfl, rfl, fun h => rfl⟩
theorem sf_X4_19 : fs_F RX4 19 3 1 := ⟨RX4, TX4, 7, rfl, ux_X4, by decide, fs_at9 576 (by decide +kernel) rfl⟩
theorem sp_X4_19 : fs_FP RX4 19 3 1 .long true := ⟨RX4, TX4, 7, tyX4, rfl, ux_X4, by decide, fs_at9 576 (by decide +kernel) rfl, tyX4_ok, nmX4, rfl, rfl, fun h => rfl⟩
theorem sf_X4_23 : fs_F RX4 23 3 2 := ⟨RX4, TX4, 7, rfl, ux_X4, by decide, fs_at9 578 (by decide +kernel) rfl⟩
theorem sp_X4_23 : fs_FP RX4 23 3 2 .int true := ⟨RX4, TX4, 7, tyX4, rfl, ux_X4, by decide, fs_at9 578 (by decide +kernel) rfl, tyX4_ok, nmX4, rfl, rfl, fun h => rfl⟩
theorem sf_X4_26 : fs_F RX4 26 3 3 := ⟨RX4, TX4, 7, rfl, ux_X4, by decide, fs_at9 580 (by decide +kernel) rfl⟩
theorem sp_X4_26 : fs_FP RX4 26 3 3 (tyX4 3) true := ⟨RX4, TX4, 7, tyX4, rfl, ux_X4, by decide, fs_at9 580 (by decide +kernel) rfl, tyX4_ok, nmX4, rfl, rfl, fun h => rfl⟩
theorem sf_X4_30 : fs_F RX4 30 3 4 := ⟨RX4, TX4, 7, rfl, ux_X4, by decide, fs_at9 583 (by decide +kernel) rfl⟩
theorem sp_X4_30 : fs_FP RX4 30 3 4 (tyX4 4) true := ⟨RX4, TX4, 7, tyX4, rfl, ux_X4, by decide, fs_at9 583 (by decide +kernel) rfl, tyX4_ok, nmX4, rfl, rfl, fun h => rfl⟩
theorem sf_X4_33 : fs_F RX4 33 3 5 := ⟨RX4, TX4, 7, rfl, ux_X4, by decide, fs_at9 586 (by decide +kernel) rfl⟩
theorem sp_X4_33 : fs_FP RX4 33 3 5 (tyX4 5) true := ⟨RX4, TX4, 7, tyX4, rfl, ux_X4, by decide, fs_at9 586 (by decide +kernel) rfl, tyX4_ok, nmX4, rfl, rfl, fun h => rfl⟩
theorem so_X5_3 : Cond.methodLink RX5 3 objectInit ∈ fs_T := fs_at9 92 (by decide +kernel) rfl
theorem sf_X5_9 : fs_F RX5 9 4 0 := ⟨RX5, TX5, 3, rfl, ux_X5, by decide, fs_at9 93 (by decide +kernel) rfl⟩
theorem sp_X5_9 : fs_FP RX5 9 4 0 (tyX5 0) true := ⟨RX5, TX5, 3, tyX5, rfl, ux_X5, by decide, fs_at9 93 (by decide +kernel) rfl, tyX5_ok, nmX5, rfl, rfl, fun h => rfl⟩
theorem sf_X5_15 : fs_F RX5 15 4 1 := ⟨RX5, TX5, 3, rfl, ux_X5, by decide, fs_at9 94 (by decide +kernel) rfl⟩
theorem sp_X5_15 : fs_FP RX5 15 4 1 .int false := ⟨RX5, TX5, 3, tyX5, rfl, ux_X5, by decide, fs_at9 94 (by decide +kernel) rfl, tyX5_ok, nmX5, rfl, rfl, fun h => absurd h (by decide)⟩
theorem sf_X5_19 : fs_F RX5 19 4 2 := ⟨RX5, TX5, 3, rfl, ux_X5, by decide, fs_at9 95 (by decide +kernel) rfl⟩
theorem sp_X5_19 : fs_FP RX5 19 4 2 .int false := ⟨RX5, TX5, 3, tyX5, rfl, ux_X5, by decide, fs_at9 95 (by decide +kernel) rfl, tyX5_ok, nmX5, rfl, rfl, fun h => absurd h (by decide)⟩
theorem sc_mX5_codeIn : Cond.code mX5_codeIn.1 mX5_codeIn.2.1 mX5_codeIn.2.2.1 mX5_codeIn.2.2.2 ∈ fs_T := fs_at9 220 (by decide +kernel) rfl
theorem sn_mX5_codeIn : Cond.initialized mX5_codeIn.1.cls ∈ fs_T := fs_at9 64 (by decide +kernel) rfl
theorem sd_mX5_codeIn : mX5_codeIn.1.cls ≠ "java/lang/invoke/MethodHandle" ∧ mX5_codeIn.1.cls ≠ "java/lang/invoke/VarHandle" ∧ (parseMethodDescriptor mX5_codeIn.1.desc).map (fun d => d.parameters.length) = some 2 ∧ mX5_codeIn.2.2.1 ≤ 45 := ⟨by decide, by decide, by decide +kernel, by decide⟩
theorem ss_mX5_codeIn : Cond.static mX5_codeIn.1 ∈ fs_T := fs_at9 219 (by decide +kernel) rfl
theorem sv_X5_22 : fs_SS RX5 22 mX5_codeIn 2 := ⟨sc_mX5_codeIn, fs_at9 218 (by decide +kernel) rfl, ss_mX5_codeIn, sn_mX5_codeIn, sd_mX5_codeIn.1, sd_mX5_codeIn.2.1, sd_mX5_codeIn.2.2.1, sd_mX5_codeIn.2.2.2⟩
theorem sc_mX5_next : Cond.code mX5_next.1 mX5_next.2.1 mX5_next.2.2.1 mX5_next.2.2.2 ∈ fs_T := fs_at9 506 (by decide +kernel) rfl
theorem sn_mX5_next : Cond.initialized mX5_next.1.cls ∈ fs_T := fs_at9 64 (by decide +kernel) rfl
theorem sd_mX5_next : mX5_next.1.cls ≠ "java/lang/invoke/MethodHandle" ∧ mX5_next.1.cls ≠ "java/lang/invoke/VarHandle" ∧ (parseMethodDescriptor mX5_next.1.desc).map (fun d => d.parameters.length) = some 0 ∧ mX5_next.2.2.1 ≤ 45 := ⟨by decide, by decide, by decide +kernel, by decide⟩
theorem si_mX5_next : Cond.instanceMethod mX5_next.1 ∈ fs_T := fs_at9 505 (by decide +kernel) rfl
theorem se_mX5_next : Cond.selects mX5_next.1.cls mX5_next.1 mX5_next.1 ∈ fs_T := fs_at9 20 (by decide +kernel) rfl
theorem sv_X5_26 : fs_SV RX5 26 mX5_next 0 := ⟨sc_mX5_next, fs_at9 503 (by decide +kernel) rfl, si_mX5_next, se_mX5_next, sn_mX5_next, sd_mX5_next.1, sd_mX5_next.2.1, sd_mX5_next.2.2.1, sd_mX5_next.2.2.2⟩
theorem sc_mX7_isLetter : Cond.code mX7_isLetter.1 mX7_isLetter.2.1 mX7_isLetter.2.2.1 mX7_isLetter.2.2.2 ∈ fs_T := fs_at9 509 (by decide +kernel) rfl
theorem sn_mX7_isLetter : Cond.initialized mX7_isLetter.1.cls ∈ fs_T := fs_at9 63 (by decide +kernel) rfl
theorem sd_mX7_isLetter : mX7_isLetter.1.cls ≠ "java/lang/invoke/MethodHandle" ∧ mX7_isLetter.1.cls ≠ "java/lang/invoke/VarHandle" ∧ (parseMethodDescriptor mX7_isLetter.1.desc).map (fun d => d.parameters.length) = some 1 ∧ mX7_isLetter.2.2.1 ≤ 45 := ⟨by decide, by decide, by decide +kernel, by decide⟩
theorem ss_mX7_isLetter : Cond.static mX7_isLetter.1 ∈ fs_T := fs_at9 508 (by decide +kernel) rfl
theorem sv_X5_30 : fs_SSN RX5 30 mX7_isLetter 1 := ⟨sc_mX7_isLetter, ⟨"FormSheet", List.mem_filter.mpr ⟨List.mem_of_getElem? (i := 507) (by decide +kernel), rfl⟩⟩, ss_mX7_isLetter, sn_mX7_isLetter, sd_mX7_isLetter.1, sd_mX7_isLetter.2.1, sd_mX7_isLetter.2.2.1, sd_mX7_isLetter.2.2.2⟩
theorem sc_mX5_fieldItem : Cond.code mX5_fieldItem.1 mX5_fieldItem.2.1 mX5_fieldItem.2.2.1 mX5_fieldItem.2.2.2 ∈ fs_T := fs_at9 513 (by decide +kernel) rfl
theorem sn_mX5_fieldItem : Cond.initialized mX5_fieldItem.1.cls ∈ fs_T := fs_at9 64 (by decide +kernel) rfl
theorem sd_mX5_fieldItem : mX5_fieldItem.1.cls ≠ "java/lang/invoke/MethodHandle" ∧ mX5_fieldItem.1.cls ≠ "java/lang/invoke/VarHandle" ∧ (parseMethodDescriptor mX5_fieldItem.1.desc).map (fun d => d.parameters.length) = some 0 ∧ mX5_fieldItem.2.2.1 ≤ 45 := ⟨by decide, by decide, by decide +kernel, by decide⟩
theorem si_mX5_fieldItem : Cond.instanceMethod mX5_fieldItem.1 ∈ fs_T := fs_at9 512 (by decide +kernel) rfl
theorem se_mX5_fieldItem : Cond.selects mX5_fieldItem.1.cls mX5_fieldItem.1 mX5_fieldItem.1 ∈ fs_T := fs_at9 21 (by decide +kernel) rfl
theorem sv_X5_34 : fs_SV RX5 34 mX5_fieldItem 0 := ⟨sc_mX5_fieldItem, fs_at9 510 (by decide +kernel) rfl, si_mX5_fieldItem, se_mX5_fieldItem, sn_mX5_fieldItem, sd_mX5_fieldItem.1, sd_mX5_fieldItem.2.1, sd_mX5_fieldItem.2.2.1, sd_mX5_fieldItem.2.2.2⟩
theorem sc_mX5_skip : Cond.code mX5_skip.1 mX5_skip.2.1 mX5_skip.2.2.1 mX5_skip.2.2.2 ∈ fs_T := fs_at9 521 (by decide +kernel) rfl
theorem sn_mX5_skip : Cond.initialized mX5_skip.1.cls ∈ fs_T := fs_at9 64 (by decide +kernel) rfl
theorem sd_mX5_skip : mX5_skip.1.cls ≠ "java/lang/invoke/MethodHandle" ∧ mX5_skip.1.cls ≠ "java/lang/invoke/VarHandle" ∧ (parseMethodDescriptor mX5_skip.1.desc).map (fun d => d.parameters.length) = some 1 ∧ mX5_skip.2.2.1 ≤ 45 := ⟨by decide, by decide, by decide +kernel, by decide⟩
theorem si_mX5_skip : Cond.instanceMethod mX5_skip.1 ∈ fs_T := fs_at9 520 (by decide +kernel) rfl
theorem se_mX5_skip : Cond.selects mX5_skip.1.cls mX5_skip.1 mX5_skip.1 ∈ fs_T := fs_at9 23 (by decide +kernel) rfl
theorem sv_X5_38 : fs_SV RX5 38 mX5_skip 1 := ⟨sc_mX5_skip, fs_at9 518 (by decide +kernel) rfl, si_mX5_skip, se_mX5_skip, sn_mX5_skip, sd_mX5_skip.1, sd_mX5_skip.2.1, sd_mX5_skip.2.2.1, sd_mX5_skip.2.2.2⟩
theorem sc_mX5_checkItem : Cond.code mX5_checkItem.1 mX5_checkItem.2.1 mX5_checkItem.2.2.1 mX5_checkItem.2.2.2 ∈ fs_T := fs_at9 620 (by decide +kernel) rfl
theorem sn_mX5_checkItem : Cond.initialized mX5_checkItem.1.cls ∈ fs_T := fs_at9 64 (by decide +kernel) rfl
theorem sd_mX5_checkItem : mX5_checkItem.1.cls ≠ "java/lang/invoke/MethodHandle" ∧ mX5_checkItem.1.cls ≠ "java/lang/invoke/VarHandle" ∧ (parseMethodDescriptor mX5_checkItem.1.desc).map (fun d => d.parameters.length) = some 0 ∧ mX5_checkItem.2.2.1 ≤ 45 := ⟨by decide, by decide, by decide +kernel, by decide⟩
theorem si_mX5_checkItem : Cond.instanceMethod mX5_checkItem.1 ∈ fs_T := fs_at9 619 (by decide +kernel) rfl
theorem se_mX5_checkItem : Cond.selects mX5_checkItem.1.cls mX5_checkItem.1 mX5_checkItem.1 ∈ fs_T := fs_at9 28 (by decide +kernel) rfl
theorem sv_X5_41 : fs_SV RX5 41 mX5_checkItem 0 := ⟨sc_mX5_checkItem, fs_at9 617 (by decide +kernel) rfl, si_mX5_checkItem, se_mX5_checkItem, sn_mX5_checkItem, sd_mX5_checkItem.1, sd_mX5_checkItem.2.1, sd_mX5_checkItem.2.2.1, sd_mX5_checkItem.2.2.2⟩
theorem sc_mX5_captionItem : Cond.code mX5_captionItem.1 mX5_captionItem.2.1 mX5_captionItem.2.2.1 mX5_captionItem.2.2.2 ∈ fs_T := fs_at9 624 (by decide +kernel) rfl
theorem sn_mX5_captionItem : Cond.initialized mX5_captionItem.1.cls ∈ fs_T := fs_at9 64 (by decide +kernel) rfl
theorem sd_mX5_captionItem : mX5_captionItem.1.cls ≠ "java/lang/invoke/MethodHandle" ∧ mX5_captionItem.1.cls ≠ "java/lang/invoke/VarHandle" ∧ (parseMethodDescriptor mX5_captionItem.1.desc).map (fun d => d.parameters.length) = some 0 ∧ mX5_captionItem.2.2.1 ≤ 45 := ⟨by decide, by decide, by decide +kernel, by decide⟩
theorem si_mX5_captionItem : Cond.instanceMethod mX5_captionItem.1 ∈ fs_T := fs_at9 623 (by decide +kernel) rfl
theorem se_mX5_captionItem : Cond.selects mX5_captionItem.1.cls mX5_captionItem.1 mX5_captionItem.1 ∈ fs_T := fs_at9 29 (by decide +kernel) rfl
theorem sv_X5_44 : fs_SV RX5 44 mX5_captionItem 0 := ⟨sc_mX5_captionItem, fs_at9 621 (by decide +kernel) rfl, si_mX5_captionItem, se_mX5_captionItem, sn_mX5_captionItem, sd_mX5_captionItem.1, sd_mX5_captionItem.2.1, sd_mX5_captionItem.2.2.1, sd_mX5_captionItem.2.2.2⟩
theorem sk_X5_47 : Cond.constantLong RX5 47 (255) ∈ fs_T := fs_at9 221 (by decide +kernel) rfl
theorem sc_mX5_nameCode : Cond.code mX5_nameCode.1 mX5_nameCode.2.1 mX5_nameCode.2.2.1 mX5_nameCode.2.2.2 ∈ fs_T := fs_at9 517 (by decide +kernel) rfl
theorem sn_mX5_nameCode : Cond.initialized mX5_nameCode.1.cls ∈ fs_T := fs_at9 64 (by decide +kernel) rfl
theorem sd_mX5_nameCode : mX5_nameCode.1.cls ≠ "java/lang/invoke/MethodHandle" ∧ mX5_nameCode.1.cls ≠ "java/lang/invoke/VarHandle" ∧ (parseMethodDescriptor mX5_nameCode.1.desc).map (fun d => d.parameters.length) = some 0 ∧ mX5_nameCode.2.2.1 ≤ 45 := ⟨by decide, by decide, by decide +kernel, by decide⟩
theorem si_mX5_nameCode : Cond.instanceMethod mX5_nameCode.1 ∈ fs_T := fs_at9 516 (by decide +kernel) rfl
theorem se_mX5_nameCode : Cond.selects mX5_nameCode.1.cls mX5_nameCode.1 mX5_nameCode.1 ∈ fs_T := fs_at9 22 (by decide +kernel) rfl
theorem sv_X5_49 : fs_SV RX5 49 mX5_nameCode 0 := ⟨sc_mX5_nameCode, fs_at9 514 (by decide +kernel) rfl, si_mX5_nameCode, se_mX5_nameCode, sn_mX5_nameCode, sd_mX5_nameCode.1, sd_mX5_nameCode.2.1, sd_mX5_nameCode.2.2.1, sd_mX5_nameCode.2.2.2⟩
theorem sw_X5_53 : fs_NW RX5 53 1 5 [fsI 0, fsI 0, fsI 0, fsR none, fsI 0] := ⟨RX2, TX2, tyX2, rfl, ux_X2, tyX2_ok, fs_at9 522 (by decide +kernel) rfl, fs_at9 523 (by decide +kernel) rfl, fs_at9 70 (by decide +kernel) rfl, fun b j hj => match j with | 0 => rfl | 1 => rfl | 2 => rfl | 3 => rfl | 4 => rfl | j + 5 => absurd hj (by omega)⟩
theorem sc_mX2_init : Cond.code mX2_init.1 mX2_init.2.1 mX2_init.2.2.1 mX2_init.2.2.2 ∈ fs_T := fs_at9 526 (by decide +kernel) rfl
theorem sn_mX2_init : Cond.initialized mX2_init.1.cls ∈ fs_T := fs_at9 70 (by decide +kernel) rfl
theorem sd_mX2_init : mX2_init.1.cls ≠ "java/lang/invoke/MethodHandle" ∧ mX2_init.1.cls ≠ "java/lang/invoke/VarHandle" ∧ (parseMethodDescriptor mX2_init.1.desc).map (fun d => d.parameters.length) = some 5 ∧ mX2_init.2.2.1 ≤ 45 := ⟨by decide, by decide, by decide +kernel, by decide⟩
theorem si_mX2_init : Cond.instanceMethod mX2_init.1 ∈ fs_T := fs_at9 525 (by decide +kernel) rfl
theorem sv_X5_55 : fs_SI RX5 55 mX2_init 5 := ⟨sc_mX2_init, rfl, fs_at9 524 (by decide +kernel) rfl, si_mX2_init, sn_mX2_init, rfl, sd_mX2_init.1, sd_mX2_init.2.1, sd_mX2_init.2.2.1, sd_mX2_init.2.2.2⟩
theorem sc_mX5_expression : Cond.code mX5_expression.1 mX5_expression.2.1 mX5_expression.2.2.1 mX5_expression.2.2.2 ∈ fs_T := fs_at9 553 (by decide +kernel) rfl
theorem sn_mX5_expression : Cond.initialized mX5_expression.1.cls ∈ fs_T := fs_at9 64 (by decide +kernel) rfl
theorem sd_mX5_expression : mX5_expression.1.cls ≠ "java/lang/invoke/MethodHandle" ∧ mX5_expression.1.cls ≠ "java/lang/invoke/VarHandle" ∧ (parseMethodDescriptor mX5_expression.1.desc).map (fun d => d.parameters.length) = some 1 ∧ mX5_expression.2.2.1 ≤ 45 := ⟨by decide, by decide, by decide +kernel, by decide⟩
theorem si_mX5_expression : Cond.instanceMethod mX5_expression.1 ∈ fs_T := fs_at9 552 (by decide +kernel) rfl
theorem se_mX5_expression : Cond.selects mX5_expression.1.cls mX5_expression.1 mX5_expression.1 ∈ fs_T := fs_at9 24 (by decide +kernel) rfl
theorem sv_X5_58 : fs_SV RX5 58 mX5_expression 1 := ⟨sc_mX5_expression, fs_at9 550 (by decide +kernel) rfl, si_mX5_expression, se_mX5_expression, sn_mX5_expression, sd_mX5_expression.1, sd_mX5_expression.2.1, sd_mX5_expression.2.2.1, sd_mX5_expression.2.2.2⟩
theorem sl_X5_62 : Cond.methodLink RX5 62 Lib.Math.min.name ∈ fs_T := fs_at9 625 (by decide +kernel) rfl
theorem sc_mX7_isDigit : Cond.code mX7_isDigit.1 mX7_isDigit.2.1 mX7_isDigit.2.2.1 mX7_isDigit.2.2.2 ∈ fs_T := fs_at9 556 (by decide +kernel) rfl
theorem sn_mX7_isDigit : Cond.initialized mX7_isDigit.1.cls ∈ fs_T := fs_at9 63 (by decide +kernel) rfl
theorem sd_mX7_isDigit : mX7_isDigit.1.cls ≠ "java/lang/invoke/MethodHandle" ∧ mX7_isDigit.1.cls ≠ "java/lang/invoke/VarHandle" ∧ (parseMethodDescriptor mX7_isDigit.1.desc).map (fun d => d.parameters.length) = some 1 ∧ mX7_isDigit.2.2.1 ≤ 45 := ⟨by decide, by decide, by decide +kernel, by decide⟩
theorem ss_mX7_isDigit : Cond.static mX7_isDigit.1 ∈ fs_T := fs_at9 555 (by decide +kernel) rfl
theorem sv_X5_68 : fs_SSN RX5 68 mX7_isDigit 1 := ⟨sc_mX7_isDigit, ⟨"FormSheet", List.mem_filter.mpr ⟨List.mem_of_getElem? (i := 554) (by decide +kernel), rfl⟩⟩, ss_mX7_isDigit, sn_mX7_isDigit, sd_mX7_isDigit.1, sd_mX7_isDigit.2.1, sd_mX7_isDigit.2.2.1, sd_mX7_isDigit.2.2.2⟩
theorem sc_mX5_number : Cond.code mX5_number.1 mX5_number.2.1 mX5_number.2.2.1 mX5_number.2.2.2 ∈ fs_T := fs_at9 560 (by decide +kernel) rfl
theorem sn_mX5_number : Cond.initialized mX5_number.1.cls ∈ fs_T := fs_at9 64 (by decide +kernel) rfl
theorem sd_mX5_number : mX5_number.1.cls ≠ "java/lang/invoke/MethodHandle" ∧ mX5_number.1.cls ≠ "java/lang/invoke/VarHandle" ∧ (parseMethodDescriptor mX5_number.1.desc).map (fun d => d.parameters.length) = some 0 ∧ mX5_number.2.2.1 ≤ 45 := ⟨by decide, by decide, by decide +kernel, by decide⟩
theorem si_mX5_number : Cond.instanceMethod mX5_number.1 ∈ fs_T := fs_at9 559 (by decide +kernel) rfl
theorem se_mX5_number : Cond.selects mX5_number.1.cls mX5_number.1 mX5_number.1 ∈ fs_T := fs_at9 25 (by decide +kernel) rfl
theorem sv_X5_71 : fs_SV RX5 71 mX5_number 0 := ⟨sc_mX5_number, fs_at9 557 (by decide +kernel) rfl, si_mX5_number, se_mX5_number, sn_mX5_number, sd_mX5_number.1, sd_mX5_number.2.1, sd_mX5_number.2.2.1, sd_mX5_number.2.2.2⟩
theorem sw_X5_75 : fs_NW RX5 75 3 7 [fsI 0, fsJ 0, fsI 0, fsR none, fsR none, fsR none, fsI 0] := ⟨RX4, TX4, tyX4, rfl, ux_X4, tyX4_ok, fs_at9 567 (by decide +kernel) rfl, fs_at9 568 (by decide +kernel) rfl, fs_at9 71 (by decide +kernel) rfl, fun b j hj => match j with | 0 => rfl | 1 => rfl | 2 => rfl | 3 => rfl | 4 => rfl | 5 => rfl | 6 => rfl | j + 7 => absurd hj (by omega)⟩
theorem sc_mX4_init : Cond.code mX4_init.1 mX4_init.2.1 mX4_init.2.2.1 mX4_init.2.2.2 ∈ fs_T := fs_at9 571 (by decide +kernel) rfl
theorem sn_mX4_init : Cond.initialized mX4_init.1.cls ∈ fs_T := fs_at9 71 (by decide +kernel) rfl
theorem sd_mX4_init : mX4_init.1.cls ≠ "java/lang/invoke/MethodHandle" ∧ mX4_init.1.cls ≠ "java/lang/invoke/VarHandle" ∧ (parseMethodDescriptor mX4_init.1.desc).map (fun d => d.parameters.length) = some 3 ∧ mX4_init.2.2.1 ≤ 45 := ⟨by decide, by decide, by decide +kernel, by decide⟩
theorem si_mX4_init : Cond.instanceMethod mX4_init.1 ∈ fs_T := fs_at9 570 (by decide +kernel) rfl
theorem sv_X5_77 : fs_SI RX5 77 mX4_init 3 := ⟨sc_mX4_init, rfl, fs_at9 569 (by decide +kernel) rfl, si_mX4_init, sn_mX4_init, rfl, sd_mX4_init.1, sd_mX4_init.2.1, sd_mX4_init.2.2.1, sd_mX4_init.2.2.2⟩
theorem sc_mX5_inBrackets : Cond.code mX5_inBrackets.1 mX5_inBrackets.2.1 mX5_inBrackets.2.2.1 mX5_inBrackets.2.2.2 ∈ fs_T := fs_at9 610 (by decide +kernel) rfl
theorem sn_mX5_inBrackets : Cond.initialized mX5_inBrackets.1.cls ∈ fs_T := fs_at9 64 (by decide +kernel) rfl
theorem sd_mX5_inBrackets : mX5_inBrackets.1.cls ≠ "java/lang/invoke/MethodHandle" ∧ mX5_inBrackets.1.cls ≠ "java/lang/invoke/VarHandle" ∧ (parseMethodDescriptor mX5_inBrackets.1.desc).map (fun d => d.parameters.length) = some 1 ∧ mX5_inBrackets.2.2.1 ≤ 45 := ⟨by decide, by decide, by decide +kernel, by decide⟩
theorem si_mX5_inBrackets : Cond.instanceMethod mX5_inBrackets.1 ∈ fs_T := fs_at9 609 (by decide +kernel) rfl
theorem se_mX5_inBrackets : Cond.selects mX5_inBrackets.1.cls mX5_inBrackets.1 mX5_inBrackets.1 ∈ fs_T := fs_at9 27 (by decide +kernel) rfl
theorem sv_X5_80 : fs_SV RX5 80 mX5_inBrackets 1 := ⟨sc_mX5_inBrackets, fs_at9 607 (by decide +kernel) rfl, si_mX5_inBrackets, se_mX5_inBrackets, sn_mX5_inBrackets, sd_mX5_inBrackets.1, sd_mX5_inBrackets.2.1, sd_mX5_inBrackets.2.2.1, sd_mX5_inBrackets.2.2.2⟩
theorem sc_mX5_isSign : Cond.code mX5_isSign.1 mX5_isSign.2.1 mX5_isSign.2.2.1 mX5_isSign.2.2.2 ∈ fs_T := fs_at9 613 (by decide +kernel) rfl
theorem sn_mX5_isSign : Cond.initialized mX5_isSign.1.cls ∈ fs_T := fs_at9 64 (by decide +kernel) rfl
theorem sd_mX5_isSign : mX5_isSign.1.cls ≠ "java/lang/invoke/MethodHandle" ∧ mX5_isSign.1.cls ≠ "java/lang/invoke/VarHandle" ∧ (parseMethodDescriptor mX5_isSign.1.desc).map (fun d => d.parameters.length) = some 1 ∧ mX5_isSign.2.2.1 ≤ 45 := ⟨by decide, by decide, by decide +kernel, by decide⟩
theorem ss_mX5_isSign : Cond.static mX5_isSign.1 ∈ fs_T := fs_at9 612 (by decide +kernel) rfl
theorem sv_X5_83 : fs_SS RX5 83 mX5_isSign 1 := ⟨sc_mX5_isSign, fs_at9 611 (by decide +kernel) rfl, ss_mX5_isSign, sn_mX5_isSign, sd_mX5_isSign.1, sd_mX5_isSign.2.1, sd_mX5_isSign.2.2.1, sd_mX5_isSign.2.2.2⟩
theorem sc_mX4_init_ : Cond.code mX4_init_.1 mX4_init_.2.1 mX4_init_.2.2.1 mX4_init_.2.2.2 ∈ fs_T := fs_at9 616 (by decide +kernel) rfl
theorem sn_mX4_init_ : Cond.initialized mX4_init_.1.cls ∈ fs_T := fs_at9 71 (by decide +kernel) rfl
theorem sd_mX4_init_ : mX4_init_.1.cls ≠ "java/lang/invoke/MethodHandle" ∧ mX4_init_.1.cls ≠ "java/lang/invoke/VarHandle" ∧ (parseMethodDescriptor mX4_init_.1.desc).map (fun d => d.parameters.length) = some 4 ∧ mX4_init_.2.2.1 ≤ 45 := ⟨by decide, by decide, by decide +kernel, by decide⟩
theorem si_mX4_init_ : Cond.instanceMethod mX4_init_.1 ∈ fs_T := fs_at9 615 (by decide +kernel) rfl
theorem sv_X5_86 : fs_SI RX5 86 mX4_init_ 4 := ⟨sc_mX4_init_, rfl, fs_at9 614 (by decide +kernel) rfl, si_mX4_init_, sn_mX4_init_, rfl, sd_mX4_init_.1, sd_mX4_init_.2.1, sd_mX4_init_.2.2.1, sd_mX4_init_.2.2.2⟩
theorem sk_X5_89 : Cond.constantLong RX5 89 (100) ∈ fs_T := fs_at9 561 (by decide +kernel) rfl
theorem sc_mX5_digits : Cond.code mX5_digits.1 mX5_digits.2.1 mX5_digits.2.2.1 mX5_digits.2.2.2 ∈ fs_T := fs_at9 565 (by decide +kernel) rfl
theorem sn_mX5_digits : Cond.initialized mX5_digits.1.cls ∈ fs_T := fs_at9 64 (by decide +kernel) rfl
theorem sd_mX5_digits : mX5_digits.1.cls ≠ "java/lang/invoke/MethodHandle" ∧ mX5_digits.1.cls ≠ "java/lang/invoke/VarHandle" ∧ (parseMethodDescriptor mX5_digits.1.desc).map (fun d => d.parameters.length) = some 1 ∧ mX5_digits.2.2.1 ≤ 45 := ⟨by decide, by decide, by decide +kernel, by decide⟩
theorem si_mX5_digits : Cond.instanceMethod mX5_digits.1 ∈ fs_T := fs_at9 564 (by decide +kernel) rfl
theorem se_mX5_digits : Cond.selects mX5_digits.1.cls mX5_digits.1 mX5_digits.1 ∈ fs_T := fs_at9 26 (by decide +kernel) rfl
theorem sv_X5_91 : fs_SV RX5 91 mX5_digits 1 := ⟨sc_mX5_digits, fs_at9 562 (by decide +kernel) rfl, si_mX5_digits, se_mX5_digits, sn_mX5_digits, sd_mX5_digits.1, sd_mX5_digits.2.1, sd_mX5_digits.2.2.1, sd_mX5_digits.2.2.2⟩
theorem sk_X5_95 : Cond.constantLong RX5 95 (10) ∈ fs_T := fs_at9 566 (by decide +kernel) rfl
theorem so_X6_3 : Cond.methodLink RX6 3 objectInit ∈ fs_T := fs_at9 134 (by decide +kernel) rfl
theorem sf_X6_9 : fs_F RX6 9 5 1 := ⟨RX6, TX6, 5, rfl, ux_X6, by decide, fs_at9 136 (by decide +kernel) rfl⟩
theorem sp_X6_9 : fs_FP RX6 9 5 1 (tyX6 1) true := ⟨RX6, TX6, 5, tyX6, rfl, ux_X6, by decide, fs_at9 136 (by decide +kernel) rfl, tyX6_ok, nmX6, rfl, rfl, fun h => rfl⟩
theorem sf_X6_15 : fs_F RX6 15 5 2 := ⟨RX6, TX6, 5, rfl, ux_X6, by decide, fs_at9 137 (by decide +kernel) rfl⟩
theorem sp_X6_15 : fs_FP RX6 15 5 2 (tyX6 2) true := ⟨RX6, TX6, 5, tyX6, rfl, ux_X6, by decide, fs_at9 137 (by decide +kernel) rfl, tyX6_ok, nmX6, rfl, rfl, fun h => rfl⟩
theorem sf_X6_18 : fs_F RX6 18 5 3 := ⟨RX6, TX6, 5, rfl, ux_X6, by decide, fs_at9 138 (by decide +kernel) rfl⟩
theorem sp_X6_18 : fs_FP RX6 18 5 3 (tyX6 3) true := ⟨RX6, TX6, 5, tyX6, rfl, ux_X6, by decide, fs_at9 138 (by decide +kernel) rfl, tyX6_ok, nmX6, rfl, rfl, fun h => rfl⟩
theorem sf_X6_22 : fs_F RX6 22 5 4 := ⟨RX6, TX6, 5, rfl, ux_X6, by decide, fs_at9 139 (by decide +kernel) rfl⟩
theorem sp_X6_22 : fs_FP RX6 22 5 4 .int false := ⟨RX6, TX6, 5, tyX6, rfl, ux_X6, by decide, fs_at9 139 (by decide +kernel) rfl, tyX6_ok, nmX6, rfl, rfl, fun h => absurd h (by decide)⟩
theorem sf_X6_26 : fs_F RX6 26 5 0 := ⟨RX6, TX6, 5, rfl, ux_X6, by decide, fs_at9 135 (by decide +kernel) rfl⟩
theorem sp_X6_26 : fs_FP RX6 26 5 0 (tyX6 0) true := ⟨RX6, TX6, 5, tyX6, rfl, ux_X6, by decide, fs_at9 135 (by decide +kernel) rfl, tyX6_ok, nmX6, rfl, rfl, fun h => rfl⟩
theorem sc_mJ7_fillJ : Cond.code mJ7_fillJ.1 mJ7_fillJ.2.1 mJ7_fillJ.2.2.1 mJ7_fillJ.2.2.2 ∈ fs_T := fs_at9 260 (by decide +kernel) rfl
theorem sn_mJ7_fillJ : Cond.initialized mJ7_fillJ.1.cls ∈ fs_T := fs_at9 77 (by decide +kernel) rfl
theorem sd_mJ7_fillJ : mJ7_fillJ.1.cls ≠ "java/lang/invoke/MethodHandle" ∧ mJ7_fillJ.1.cls ≠ "java/lang/invoke/VarHandle" ∧ (parseMethodDescriptor mJ7_fillJ.1.desc).map (fun d => d.parameters.length) = some 2 ∧ mJ7_fillJ.2.2.1 ≤ 45 := ⟨by decide, by decide, by decide +kernel, by decide⟩
theorem ss_mJ7_fillJ : Cond.static mJ7_fillJ.1 ∈ fs_T := fs_at9 259 (by decide +kernel) rfl
theorem sv_X6_30 : fs_SS RX6 30 mJ7_fillJ 2 := ⟨sc_mJ7_fillJ, fs_at9 258 (by decide +kernel) rfl, ss_mJ7_fillJ, sn_mJ7_fillJ, sd_mJ7_fillJ.1, sd_mJ7_fillJ.2.1, sd_mJ7_fillJ.2.2.1, sd_mJ7_fillJ.2.2.2⟩
theorem sf_X6_36 : fs_F RX6 36 0 1 := ⟨RX1, TX1, 3, rfl, ux_X1, by decide, fs_at9 116 (by decide +kernel) rfl⟩
theorem sl_X6_41 : Cond.methodLink RX6 41 Lib.Math.max.name ∈ fs_T := fs_at9 242 (by decide +kernel) rfl
theorem sv_X6_47 : fs_SV RX6 47 mX1_repeats 1 := ⟨sc_mX1_repeats, fs_at9 243 (by decide +kernel) rfl, si_mX1_repeats, se_mX1_repeats, sn_mX1_repeats, sd_mX1_repeats.1, sd_mX1_repeats.2.1, sd_mX1_repeats.2.2.1, sd_mX1_repeats.2.2.2⟩
theorem sv_X6_51 : fs_SSN RX6 51 mX7_cellOf 2 := ⟨sc_mX7_cellOf, ⟨"FormSheet", List.mem_filter.mpr ⟨List.mem_of_getElem? (i := 247) (by decide +kernel), rfl⟩⟩, ss_mX7_cellOf, sn_mX7_cellOf, sd_mX7_cellOf.1, sd_mX7_cellOf.2.1, sd_mX7_cellOf.2.2.1, sd_mX7_cellOf.2.2.2⟩
theorem sv_X6_54 : fs_SV RX6 54 mX1_has 2 := ⟨sc_mX1_has, fs_at9 297 (by decide +kernel) rfl, si_mX1_has, se_mX1_has, sn_mX1_has, sd_mX1_has.1, sd_mX1_has.2.1, sd_mX1_has.2.2.1, sd_mX1_has.2.2.2⟩
theorem sv_X6_58 : fs_SV RX6 58 mX1_isCheck 1 := ⟨sc_mX1_isCheck, fs_at9 379 (by decide +kernel) rfl, si_mX1_isCheck, se_mX1_isCheck, sn_mX1_isCheck, sd_mX1_isCheck.1, sd_mX1_isCheck.2.1, sd_mX1_isCheck.2.2.1, sd_mX1_isCheck.2.2.2⟩
theorem sv_X6_61 : fs_SV RX6 61 mX6_outcomeOf 2 := ⟨sc_mX6_outcomeOf, fs_at9 307 (by decide +kernel) rfl, si_mX6_outcomeOf, se_mX6_outcomeOf, sn_mX6_outcomeOf, sd_mX6_outcomeOf.1, sd_mX6_outcomeOf.2.1, sd_mX6_outcomeOf.2.2.1, sd_mX6_outcomeOf.2.2.2⟩
theorem sv_X6_65 : fs_SSN RX6 65 mX7_isFault 1 := ⟨sc_mX7_isFault, ⟨"FormSheet", List.mem_filter.mpr ⟨List.mem_of_getElem? (i := 315) (by decide +kernel), rfl⟩⟩, ss_mX7_isFault, sn_mX7_isFault, sd_mX7_isFault.1, sd_mX7_isFault.2.1, sd_mX7_isFault.2.2.1, sd_mX7_isFault.2.2.2⟩
theorem sv_X6_69 : fs_SV RX6 69 mX1_rowsOf 1 := ⟨sc_mX1_rowsOf, fs_at9 261 (by decide +kernel) rfl, si_mX1_rowsOf, se_mX1_rowsOf, sn_mX1_rowsOf, sd_mX1_rowsOf.1, sd_mX1_rowsOf.2.1, sd_mX1_rowsOf.2.2.1, sd_mX1_rowsOf.2.2.2⟩
theorem sv_X6_73 : fs_SV RX6 73 mX1_isField 1 := ⟨sc_mX1_isField, fs_at9 433 (by decide +kernel) rfl, si_mX1_isField, se_mX1_isField, sn_mX1_isField, sd_mX1_isField.1, sd_mX1_isField.2.1, sd_mX1_isField.2.2.1, sd_mX1_isField.2.2.2⟩
theorem sc_mX6_hangsOn : Cond.code mX6_hangsOn.1 mX6_hangsOn.2.1 mX6_hangsOn.2.2.1 mX6_hangsOn.2.2.2 ∈ fs_T := fs_at9 283 (by decide +kernel) rfl
theorem sn_mX6_hangsOn : Cond.initialized mX6_hangsOn.1.cls ∈ fs_T := fs_at9 66 (by decide +kernel) rfl
theorem sd_mX6_hangsOn : mX6_hangsOn.1.cls ≠ "java/lang/invoke/MethodHandle" ∧ mX6_hangsOn.1.cls ≠ "java/lang/invoke/VarHandle" ∧ (parseMethodDescriptor mX6_hangsOn.1.desc).map (fun d => d.parameters.length) = some 2 ∧ mX6_hangsOn.2.2.1 ≤ 45 := ⟨by decide, by decide, by decide +kernel, by decide⟩
theorem si_mX6_hangsOn : Cond.instanceMethod mX6_hangsOn.1 ∈ fs_T := fs_at9 282 (by decide +kernel) rfl
theorem se_mX6_hangsOn : Cond.selects mX6_hangsOn.1.cls mX6_hangsOn.1 mX6_hangsOn.1 ∈ fs_T := fs_at9 4 (by decide +kernel) rfl
theorem sv_X6_76 : fs_SV RX6 76 mX6_hangsOn 2 := ⟨sc_mX6_hangsOn, fs_at9 280 (by decide +kernel) rfl, si_mX6_hangsOn, se_mX6_hangsOn, sn_mX6_hangsOn, sd_mX6_hangsOn.1, sd_mX6_hangsOn.2.1, sd_mX6_hangsOn.2.2.1, sd_mX6_hangsOn.2.2.2⟩
theorem sc_mX6_workOut : Cond.code mX6_workOut.1 mX6_workOut.2.1 mX6_workOut.2.2.1 mX6_workOut.2.2.2 ∈ fs_T := fs_at9 296 (by decide +kernel) rfl
theorem sn_mX6_workOut : Cond.initialized mX6_workOut.1.cls ∈ fs_T := fs_at9 66 (by decide +kernel) rfl
theorem sd_mX6_workOut : mX6_workOut.1.cls ≠ "java/lang/invoke/MethodHandle" ∧ mX6_workOut.1.cls ≠ "java/lang/invoke/VarHandle" ∧ (parseMethodDescriptor mX6_workOut.1.desc).map (fun d => d.parameters.length) = some 1 ∧ mX6_workOut.2.2.1 ≤ 45 := ⟨by decide, by decide, by decide +kernel, by decide⟩
theorem si_mX6_workOut : Cond.instanceMethod mX6_workOut.1 ∈ fs_T := fs_at9 295 (by decide +kernel) rfl
theorem se_mX6_workOut : Cond.selects mX6_workOut.1.cls mX6_workOut.1 mX6_workOut.1 ∈ fs_T := fs_at9 7 (by decide +kernel) rfl
theorem sv_X6_79 : fs_SV RX6 79 mX6_workOut 1 := ⟨sc_mX6_workOut, fs_at9 293 (by decide +kernel) rfl, si_mX6_workOut, se_mX6_workOut, sn_mX6_workOut, sd_mX6_workOut.1, sd_mX6_workOut.2.1, sd_mX6_workOut.2.2.1, sd_mX6_workOut.2.2.2⟩
theorem sc_mX6_link : Cond.code mX6_link.1 mX6_link.2.1 mX6_link.2.2.1 mX6_link.2.2.2 ∈ fs_T := fs_at9 257 (by decide +kernel) rfl
theorem sn_mX6_link : Cond.initialized mX6_link.1.cls ∈ fs_T := fs_at9 66 (by decide +kernel) rfl
theorem sd_mX6_link : mX6_link.1.cls ≠ "java/lang/invoke/MethodHandle" ∧ mX6_link.1.cls ≠ "java/lang/invoke/VarHandle" ∧ (parseMethodDescriptor mX6_link.1.desc).map (fun d => d.parameters.length) = some 0 ∧ mX6_link.2.2.1 ≤ 45 := ⟨by decide, by decide, by decide +kernel, by decide⟩
theorem si_mX6_link : Cond.instanceMethod mX6_link.1 ∈ fs_T := fs_at9 256 (by decide +kernel) rfl
theorem se_mX6_link : Cond.selects mX6_link.1.cls mX6_link.1 mX6_link.1 ∈ fs_T := fs_at9 0 (by decide +kernel) rfl
theorem sv_X6_83 : fs_SV RX6 83 mX6_link 0 := ⟨sc_mX6_link, fs_at9 254 (by decide +kernel) rfl, si_mX6_link, se_mX6_link, sn_mX6_link, sd_mX6_link.1, sd_mX6_link.2.1, sd_mX6_link.2.2.1, sd_mX6_link.2.2.2⟩
theorem sf_X6_86 : fs_F RX6 86 0 0 := ⟨RX1, TX1, 3, rfl, ux_X1, by decide, fs_at9 114 (by decide +kernel) rfl⟩
theorem sf_X6_90 : fs_F RX6 90 1 3 := ⟨RX2, TX2, 5, rfl, ux_X2, by decide, fs_at9 535 (by decide +kernel) rfl⟩
theorem sc_mX6_cellsNamed : Cond.code mX6_cellsNamed.1 mX6_cellsNamed.2.1 mX6_cellsNamed.2.2.1 mX6_cellsNamed.2.2.2 ∈ fs_T := fs_at9 268 (by decide +kernel) rfl
theorem sn_mX6_cellsNamed : Cond.initialized mX6_cellsNamed.1.cls ∈ fs_T := fs_at9 66 (by decide +kernel) rfl
theorem sd_mX6_cellsNamed : mX6_cellsNamed.1.cls ≠ "java/lang/invoke/MethodHandle" ∧ mX6_cellsNamed.1.cls ≠ "java/lang/invoke/VarHandle" ∧ (parseMethodDescriptor mX6_cellsNamed.1.desc).map (fun d => d.parameters.length) = some 2 ∧ mX6_cellsNamed.2.2.1 ≤ 45 := ⟨by decide, by decide, by decide +kernel, by decide⟩
theorem si_mX6_cellsNamed : Cond.instanceMethod mX6_cellsNamed.1 ∈ fs_T := fs_at9 267 (by decide +kernel) rfl
theorem se_mX6_cellsNamed : Cond.selects mX6_cellsNamed.1.cls mX6_cellsNamed.1 mX6_cellsNamed.1 ∈ fs_T := fs_at9 1 (by decide +kernel) rfl
theorem sv_X6_96 : fs_SV RX6 96 mX6_cellsNamed 2 := ⟨sc_mX6_cellsNamed, fs_at9 265 (by decide +kernel) rfl, si_mX6_cellsNamed, se_mX6_cellsNamed, sn_mX6_cellsNamed, sd_mX6_cellsNamed.1, sd_mX6_cellsNamed.2.1, sd_mX6_cellsNamed.2.2.1, sd_mX6_cellsNamed.2.2.2⟩
theorem sc_mX6_setOf : Cond.code mX6_setOf.1 mX6_setOf.2.1 mX6_setOf.2.2.1 mX6_setOf.2.2.2 ∈ fs_T := fs_at9 275 (by decide +kernel) rfl
theorem sn_mX6_setOf : Cond.initialized mX6_setOf.1.cls ∈ fs_T := fs_at9 66 (by decide +kernel) rfl
theorem sd_mX6_setOf : mX6_setOf.1.cls ≠ "java/lang/invoke/MethodHandle" ∧ mX6_setOf.1.cls ≠ "java/lang/invoke/VarHandle" ∧ (parseMethodDescriptor mX6_setOf.1.desc).map (fun d => d.parameters.length) = some 1 ∧ mX6_setOf.2.2.1 ≤ 45 := ⟨by decide, by decide, by decide +kernel, by decide⟩
theorem ss_mX6_setOf : Cond.static mX6_setOf.1 ∈ fs_T := fs_at9 274 (by decide +kernel) rfl
theorem sv_X6_100 : fs_SS RX6 100 mX6_setOf 1 := ⟨sc_mX6_setOf, fs_at9 273 (by decide +kernel) rfl, ss_mX6_setOf, sn_mX6_setOf, sd_mX6_setOf.1, sd_mX6_setOf.2.1, sd_mX6_setOf.2.2.1, sd_mX6_setOf.2.2.2⟩
theorem sc_mX6_followHangs : Cond.code mX6_followHangs.1 mX6_followHangs.2.1 mX6_followHangs.2.2.1 mX6_followHangs.2.2.2 ∈ fs_T := fs_at9 279 (by decide +kernel) rfl
theorem sn_mX6_followHangs : Cond.initialized mX6_followHangs.1.cls ∈ fs_T := fs_at9 66 (by decide +kernel) rfl
theorem sd_mX6_followHangs : mX6_followHangs.1.cls ≠ "java/lang/invoke/MethodHandle" ∧ mX6_followHangs.1.cls ≠ "java/lang/invoke/VarHandle" ∧ (parseMethodDescriptor mX6_followHangs.1.desc).map (fun d => d.parameters.length) = some 0 ∧ mX6_followHangs.2.2.1 ≤ 45 := ⟨by decide, by decide, by decide +kernel, by decide⟩
theorem si_mX6_followHangs : Cond.instanceMethod mX6_followHangs.1 ∈ fs_T := fs_at9 278 (by decide +kernel) rfl
theorem se_mX6_followHangs : Cond.selects mX6_followHangs.1.cls mX6_followHangs.1 mX6_followHangs.1 ∈ fs_T := fs_at9 3 (by decide +kernel) rfl
theorem sv_X6_104 : fs_SV RX6 104 mX6_followHangs 0 := ⟨sc_mX6_followHangs, fs_at9 276 (by decide +kernel) rfl, si_mX6_followHangs, se_mX6_followHangs, sn_mX6_followHangs, sd_mX6_followHangs.1, sd_mX6_followHangs.2.1, sd_mX6_followHangs.2.2.1, sd_mX6_followHangs.2.2.2⟩
theorem sc_mX6_putInOrder : Cond.code mX6_putInOrder.1 mX6_putInOrder.2.1 mX6_putInOrder.2.2.1 mX6_putInOrder.2.2.2 ∈ fs_T := fs_at9 287 (by decide +kernel) rfl
theorem sn_mX6_putInOrder : Cond.initialized mX6_putInOrder.1.cls ∈ fs_T := fs_at9 66 (by decide +kernel) rfl
theorem sd_mX6_putInOrder : mX6_putInOrder.1.cls ≠ "java/lang/invoke/MethodHandle" ∧ mX6_putInOrder.1.cls ≠ "java/lang/invoke/VarHandle" ∧ (parseMethodDescriptor mX6_putInOrder.1.desc).map (fun d => d.parameters.length) = some 1 ∧ mX6_putInOrder.2.2.1 ≤ 45 := ⟨by decide, by decide, by decide +kernel, by decide⟩
theorem si_mX6_putInOrder : Cond.instanceMethod mX6_putInOrder.1 ∈ fs_T := fs_at9 286 (by decide +kernel) rfl
theorem se_mX6_putInOrder : Cond.selects mX6_putInOrder.1.cls mX6_putInOrder.1 mX6_putInOrder.1 ∈ fs_T := fs_at9 5 (by decide +kernel) rfl
theorem sv_X6_107 : fs_SV RX6 107 mX6_putInOrder 1 := ⟨sc_mX6_putInOrder, fs_at9 284 (by decide +kernel) rfl, si_mX6_putInOrder, se_mX6_putInOrder, sn_mX6_putInOrder, sd_mX6_putInOrder.1, sd_mX6_putInOrder.2.1, sd_mX6_putInOrder.2.2.1, sd_mX6_putInOrder.2.2.2⟩
theorem sf_X6_111 : fs_F RX6 111 3 0 := ⟨RX4, TX4, 7, rfl, ux_X4, by decide, fs_at9 574 (by decide +kernel) rfl⟩
theorem sf_X6_117 : fs_F RX6 117 3 6 := ⟨RX4, TX4, 7, rfl, ux_X4, by decide, fs_at9 590 (by decide +kernel) rfl⟩
theorem sc_mX6_cellNamed : Cond.code mX6_cellNamed.1 mX6_cellNamed.2.1 mX6_cellNamed.2.2.1 mX6_cellNamed.2.2.2 ∈ fs_T := fs_at9 272 (by decide +kernel) rfl
theorem sn_mX6_cellNamed : Cond.initialized mX6_cellNamed.1.cls ∈ fs_T := fs_at9 66 (by decide +kernel) rfl
theorem sd_mX6_cellNamed : mX6_cellNamed.1.cls ≠ "java/lang/invoke/MethodHandle" ∧ mX6_cellNamed.1.cls ≠ "java/lang/invoke/VarHandle" ∧ (parseMethodDescriptor mX6_cellNamed.1.desc).map (fun d => d.parameters.length) = some 2 ∧ mX6_cellNamed.2.2.1 ≤ 45 := ⟨by decide, by decide, by decide +kernel, by decide⟩
theorem si_mX6_cellNamed : Cond.instanceMethod mX6_cellNamed.1 ∈ fs_T := fs_at9 271 (by decide +kernel) rfl
theorem se_mX6_cellNamed : Cond.selects mX6_cellNamed.1.cls mX6_cellNamed.1 mX6_cellNamed.1 ∈ fs_T := fs_at9 2 (by decide +kernel) rfl
theorem sv_X6_120 : fs_SV RX6 120 mX6_cellNamed 2 := ⟨sc_mX6_cellNamed, fs_at9 269 (by decide +kernel) rfl, si_mX6_cellNamed, se_mX6_cellNamed, sn_mX6_cellNamed, sd_mX6_cellNamed.1, sd_mX6_cellNamed.2.1, sd_mX6_cellNamed.2.2.1, sd_mX6_cellNamed.2.2.2⟩
theorem sf_X6_123 : fs_F RX6 123 3 3 := ⟨RX4, TX4, 7, rfl, ux_X4, by decide, fs_at9 581 (by decide +kernel) rfl⟩
theorem sf_X6_126 : fs_F RX6 126 3 4 := ⟨RX4, TX4, 7, rfl, ux_X4, by decide, fs_at9 584 (by decide +kernel) rfl⟩
theorem sf_X6_129 : fs_F RX6 129 3 5 := ⟨RX4, TX4, 7, rfl, ux_X4, by decide, fs_at9 587 (by decide +kernel) rfl⟩
theorem sc_mX6_append : Cond.code mX6_append.1 mX6_append.2.1 mX6_append.2.2.1 mX6_append.2.2.2 ∈ fs_T := fs_at9 291 (by decide +kernel) rfl
theorem sn_mX6_append : Cond.initialized mX6_append.1.cls ∈ fs_T := fs_at9 66 (by decide +kernel) rfl
theorem sd_mX6_append : mX6_append.1.cls ≠ "java/lang/invoke/MethodHandle" ∧ mX6_append.1.cls ≠ "java/lang/invoke/VarHandle" ∧ (parseMethodDescriptor mX6_append.1.desc).map (fun d => d.parameters.length) = some 1 ∧ mX6_append.2.2.1 ≤ 45 := ⟨by decide, by decide, by decide +kernel, by decide⟩
theorem si_mX6_append : Cond.instanceMethod mX6_append.1 ∈ fs_T := fs_at9 290 (by decide +kernel) rfl
theorem se_mX6_append : Cond.selects mX6_append.1.cls mX6_append.1 mX6_append.1 ∈ fs_T := fs_at9 6 (by decide +kernel) rfl
theorem sv_X6_132 : fs_SV RX6 132 mX6_append 1 := ⟨sc_mX6_append, fs_at9 288 (by decide +kernel) rfl, si_mX6_append, se_mX6_append, sn_mX6_append, sd_mX6_append.1, sd_mX6_append.2.1, sd_mX6_append.2.2.1, sd_mX6_append.2.2.2⟩
theorem sk_X6_135 : Cond.constantLong RX6 135 (-1) ∈ fs_T := fs_at9 292 (by decide +kernel) rfl
theorem sk_X6_137 : Cond.constantLong RX6 137 (10000000000000003) ∈ fs_T := fs_at9 302 (by decide +kernel) rfl
theorem sc_mX6_worth : Cond.code mX6_worth.1 mX6_worth.2.1 mX6_worth.2.2.1 mX6_worth.2.2.2 ∈ fs_T := fs_at9 306 (by decide +kernel) rfl
theorem sn_mX6_worth : Cond.initialized mX6_worth.1.cls ∈ fs_T := fs_at9 66 (by decide +kernel) rfl
theorem sd_mX6_worth : mX6_worth.1.cls ≠ "java/lang/invoke/MethodHandle" ∧ mX6_worth.1.cls ≠ "java/lang/invoke/VarHandle" ∧ (parseMethodDescriptor mX6_worth.1.desc).map (fun d => d.parameters.length) = some 2 ∧ mX6_worth.2.2.1 ≤ 45 := ⟨by decide, by decide, by decide +kernel, by decide⟩
theorem si_mX6_worth : Cond.instanceMethod mX6_worth.1 ∈ fs_T := fs_at9 305 (by decide +kernel) rfl
theorem se_mX6_worth : Cond.selects mX6_worth.1.cls mX6_worth.1 mX6_worth.1 ∈ fs_T := fs_at9 8 (by decide +kernel) rfl
theorem sv_X6_139 : fs_SV RX6 139 mX6_worth 2 := ⟨sc_mX6_worth, fs_at9 303 (by decide +kernel) rfl, si_mX6_worth, se_mX6_worth, sn_mX6_worth, sd_mX6_worth.1, sd_mX6_worth.2.1, sd_mX6_worth.2.2.1, sd_mX6_worth.2.2.2⟩
theorem sf_X6_142 : fs_F RX6 142 3 1 := ⟨RX4, TX4, 7, rfl, ux_X4, by decide, fs_at9 577 (by decide +kernel) rfl⟩
theorem sc_mX6_total : Cond.code mX6_total.1 mX6_total.2.1 mX6_total.2.2.1 mX6_total.2.2.2 ∈ fs_T := fs_at9 314 (by decide +kernel) rfl
theorem sn_mX6_total : Cond.initialized mX6_total.1.cls ∈ fs_T := fs_at9 66 (by decide +kernel) rfl
theorem sd_mX6_total : mX6_total.1.cls ≠ "java/lang/invoke/MethodHandle" ∧ mX6_total.1.cls ≠ "java/lang/invoke/VarHandle" ∧ (parseMethodDescriptor mX6_total.1.desc).map (fun d => d.parameters.length) = some 1 ∧ mX6_total.2.2.1 ≤ 45 := ⟨by decide, by decide, by decide +kernel, by decide⟩
theorem si_mX6_total : Cond.instanceMethod mX6_total.1 ∈ fs_T := fs_at9 313 (by decide +kernel) rfl
theorem se_mX6_total : Cond.selects mX6_total.1.cls mX6_total.1 mX6_total.1 ∈ fs_T := fs_at9 9 (by decide +kernel) rfl
theorem sv_X6_146 : fs_SV RX6 146 mX6_total 1 := ⟨sc_mX6_total, fs_at9 311 (by decide +kernel) rfl, si_mX6_total, se_mX6_total, sn_mX6_total, sd_mX6_total.1, sd_mX6_total.2.1, sd_mX6_total.2.2.1, sd_mX6_total.2.2.2⟩
theorem sc_mX6_operate : Cond.code mX6_operate.1 mX6_operate.2.1 mX6_operate.2.2.1 mX6_operate.2.2.2 ∈ fs_T := fs_at9 327 (by decide +kernel) rfl
theorem sn_mX6_operate : Cond.initialized mX6_operate.1.cls ∈ fs_T := fs_at9 66 (by decide +kernel) rfl
theorem sd_mX6_operate : mX6_operate.1.cls ≠ "java/lang/invoke/MethodHandle" ∧ mX6_operate.1.cls ≠ "java/lang/invoke/VarHandle" ∧ (parseMethodDescriptor mX6_operate.1.desc).map (fun d => d.parameters.length) = some 3 ∧ mX6_operate.2.2.1 ≤ 45 := ⟨by decide, by decide, by decide +kernel, by decide⟩
theorem ss_mX6_operate : Cond.static mX6_operate.1 ∈ fs_T := fs_at9 326 (by decide +kernel) rfl
theorem sv_X6_149 : fs_SS RX6 149 mX6_operate 3 := ⟨sc_mX6_operate, fs_at9 325 (by decide +kernel) rfl, ss_mX6_operate, sn_mX6_operate, sd_mX6_operate.1, sd_mX6_operate.2.1, sd_mX6_operate.2.2.1, sd_mX6_operate.2.2.2⟩
theorem sv_X6_153 : fs_SS RX6 153 mX0_limited 1 := ⟨sc_mX0_limited, fs_at9 319 (by decide +kernel) rfl, ss_mX0_limited, sn_mX0_limited, sd_mX0_limited.1, sd_mX0_limited.2.1, sd_mX0_limited.2.2.1, sd_mX0_limited.2.2.2⟩
theorem sc_mX0_product : Cond.code mX0_product.1 mX0_product.2.1 mX0_product.2.2.1 mX0_product.2.2.2 ∈ fs_T := fs_at9 330 (by decide +kernel) rfl
theorem sn_mX0_product : Cond.initialized mX0_product.1.cls ∈ fs_T := fs_at9 78 (by decide +kernel) rfl
theorem sd_mX0_product : mX0_product.1.cls ≠ "java/lang/invoke/MethodHandle" ∧ mX0_product.1.cls ≠ "java/lang/invoke/VarHandle" ∧ (parseMethodDescriptor mX0_product.1.desc).map (fun d => d.parameters.length) = some 2 ∧ mX0_product.2.2.1 ≤ 45 := ⟨by decide, by decide, by decide +kernel, by decide⟩
theorem ss_mX0_product : Cond.static mX0_product.1 ∈ fs_T := fs_at9 329 (by decide +kernel) rfl
theorem sv_X6_159 : fs_SS RX6 159 mX0_product 2 := ⟨sc_mX0_product, fs_at9 328 (by decide +kernel) rfl, ss_mX0_product, sn_mX0_product, sd_mX0_product.1, sd_mX0_product.2.1, sd_mX0_product.2.2.1, sd_mX0_product.2.2.2⟩
theorem sc_mX0_quotient : Cond.code mX0_quotient.1 mX0_quotient.2.1 mX0_quotient.2.2.1 mX0_quotient.2.2.2 ∈ fs_T := fs_at9 343 (by decide +kernel) rfl
theorem sn_mX0_quotient : Cond.initialized mX0_quotient.1.cls ∈ fs_T := fs_at9 78 (by decide +kernel) rfl
theorem sd_mX0_quotient : mX0_quotient.1.cls ≠ "java/lang/invoke/MethodHandle" ∧ mX0_quotient.1.cls ≠ "java/lang/invoke/VarHandle" ∧ (parseMethodDescriptor mX0_quotient.1.desc).map (fun d => d.parameters.length) = some 2 ∧ mX0_quotient.2.2.1 ≤ 45 := ⟨by decide, by decide, by decide +kernel, by decide⟩
theorem ss_mX0_quotient : Cond.static mX0_quotient.1 ∈ fs_T := fs_at9 342 (by decide +kernel) rfl
theorem sv_X6_163 : fs_SS RX6 163 mX0_quotient 2 := ⟨sc_mX0_quotient, fs_at9 341 (by decide +kernel) rfl, ss_mX0_quotient, sn_mX0_quotient, sd_mX0_quotient.1, sd_mX0_quotient.2.1, sd_mX0_quotient.2.2.1, sd_mX0_quotient.2.2.2⟩
theorem sk_X6_166 : Cond.constantLong RX6 166 (100) ∈ fs_T := fs_at9 345 (by decide +kernel) rfl
theorem sw_L_8 : fs_NW RL 8 6 6 [fsI 0, fsI 0, fsR none, fsR none, fsR none, fsR none] := ⟨RX7, TX7, tyX7, rfl, ux_X7, tyX7_ok, fs_at9 79 (by decide +kernel) rfl, fs_at9 80 (by decide +kernel) rfl, fs_at9 63 (by decide +kernel) rfl, fun b j hj => match j with | 0 => rfl | 1 => rfl | 2 => rfl | 3 => rfl | 4 => rfl | 5 => rfl | j + 6 => absurd hj (by omega)⟩
theorem sc_mL_cell : Cond.code mL_cell.1 mL_cell.2.1 mL_cell.2.2.1 mL_cell.2.2.2 ∈ fs_T := fs_at9 489 (by decide +kernel) rfl
theorem sn_mL_cell : Cond.initialized mL_cell.1.cls ∈ fs_T := fs_at9 62 (by decide +kernel) rfl
theorem sd_mL_cell : mL_cell.1.cls ≠ "java/lang/invoke/MethodHandle" ∧ mL_cell.1.cls ≠ "java/lang/invoke/VarHandle" ∧ (parseMethodDescriptor mL_cell.1.desc).map (fun d => d.parameters.length) = some 2 ∧ mL_cell.2.2.1 ≤ 45 := ⟨by decide, by decide, by decide +kernel, by decide⟩
theorem ss_mL_cell : Cond.static mL_cell.1 ∈ fs_T := fs_at9 488 (by decide +kernel) rfl
theorem sv_L_20 : fs_SS RL 20 mL_cell 2 := ⟨sc_mL_cell, fs_at9 487 (by decide +kernel) rfl, ss_mL_cell, sn_mL_cell, sd_mL_cell.1, sd_mL_cell.2.1, sd_mL_cell.2.2.1, sd_mL_cell.2.2.2⟩
theorem sc_mX7_init : Cond.code mX7_init.1 mX7_init.2.1 mX7_init.2.2.1 mX7_init.2.2.2 ∈ fs_T := fs_at9 83 (by decide +kernel) rfl
theorem sn_mX7_init : Cond.initialized mX7_init.1.cls ∈ fs_T := fs_at9 63 (by decide +kernel) rfl
theorem sd_mX7_init : mX7_init.1.cls ≠ "java/lang/invoke/MethodHandle" ∧ mX7_init.1.cls ≠ "java/lang/invoke/VarHandle" ∧ (parseMethodDescriptor mX7_init.1.desc).map (fun d => d.parameters.length) = some 1 ∧ mX7_init.2.2.1 ≤ 45 := ⟨by decide, by decide, by decide +kernel, by decide⟩
theorem si_mX7_init : Cond.instanceMethod mX7_init.1 ∈ fs_T := fs_at9 82 (by decide +kernel) rfl
theorem sv_L_26 : fs_SI RL 26 mX7_init 1 := ⟨sc_mX7_init, rfl, fs_at9 81 (by decide +kernel) rfl, si_mX7_init, sn_mX7_init, rfl, sd_mX7_init.1, sd_mX7_init.2.1, sd_mX7_init.2.2.1, sd_mX7_init.2.2.2⟩
theorem sw_L_29 : fs_NW RL 29 7 38 [fsI 0, fsI 0, fsR none, fsI 0, fsI 0, fsI 0, fsI 0, fsI 0, fsR none, fsR none, fsR none, fsR none, fsR none, fsR none, fsR none, fsR none, fsR none, fsR none, fsI 0, fsI 0, fsR none, fsR none, fsR none, fsR none, fsR none, fsR none, fsR none, fsR none, fsR none, fsR none, fsR none, fsI 0, fsR none, fsI 0, fsI 0, fsI 0, fsR none, fsR none] := ⟨RX8, TX8, tyX8, rfl, ux_X8, tyX8_ok, fs_at9 747 (by decide +kernel) rfl, fs_at9 748 (by decide +kernel) rfl, fs_at9 69 (by decide +kernel) rfl, fun b j hj => match j with | 0 => rfl | 1 => rfl | 2 => rfl | 3 => rfl | 4 => rfl | 5 => rfl | 6 => rfl | 7 => rfl | 8 => rfl | 9 => rfl | 10 => rfl | 11 => rfl | 12 => rfl | 13 => rfl | 14 => rfl | 15 => rfl | 16 => rfl | 17 => rfl | 18 => rfl | 19 => rfl | 20 => rfl | 21 => rfl | 22 => rfl | 23 => rfl | 24 => rfl | 25 => rfl | 26 => rfl | 27 => rfl | 28 => rfl | 29 => rfl | 30 => rfl | 31 => rfl | 32 => rfl | 33 => rfl | 34 => rfl | 35 => rfl | 36 => rfl | 37 => rfl | j + 38 => absurd hj (by omega)⟩
theorem sc_mX8_init : Cond.code mX8_init.1 mX8_init.2.1 mX8_init.2.2.1 mX8_init.2.2.2 ∈ fs_T := fs_at9 751 (by decide +kernel) rfl
theorem sn_mX8_init : Cond.initialized mX8_init.1.cls ∈ fs_T := fs_at9 69 (by decide +kernel) rfl
theorem sd_mX8_init : mX8_init.1.cls ≠ "java/lang/invoke/MethodHandle" ∧ mX8_init.1.cls ≠ "java/lang/invoke/VarHandle" ∧ (parseMethodDescriptor mX8_init.1.desc).map (fun d => d.parameters.length) = some 1 ∧ mX8_init.2.2.1 ≤ 45 := ⟨by decide, by decide, by decide +kernel, by decide⟩
theorem si_mX8_init : Cond.instanceMethod mX8_init.1 ∈ fs_T := fs_at9 750 (by decide +kernel) rfl
theorem sv_L_31 : fs_SI RL 31 mX8_init 1 := ⟨sc_mX8_init, rfl, fs_at9 749 (by decide +kernel) rfl, si_mX8_init, sn_mX8_init, rfl, sd_mX8_init.1, sd_mX8_init.2.1, sd_mX8_init.2.2.1, sd_mX8_init.2.2.2⟩
theorem sk_L_32 : Cond.constantLong RL 32 (4294967295) ∈ fs_T := fs_at9 1075 (by decide +kernel) rfl
theorem sc_mX7_write : Cond.code mX7_write.1 mX7_write.2.1 mX7_write.2.2.1 mX7_write.2.2.2 ∈ fs_T := fs_at9 213 (by decide +kernel) rfl
theorem sn_mX7_write : Cond.initialized mX7_write.1.cls ∈ fs_T := fs_at9 63 (by decide +kernel) rfl
theorem sd_mX7_write : mX7_write.1.cls ≠ "java/lang/invoke/MethodHandle" ∧ mX7_write.1.cls ≠ "java/lang/invoke/VarHandle" ∧ (parseMethodDescriptor mX7_write.1.desc).map (fun d => d.parameters.length) = some 1 ∧ mX7_write.2.2.1 ≤ 45 := ⟨by decide, by decide, by decide +kernel, by decide⟩
theorem si_mX7_write : Cond.instanceMethod mX7_write.1 ∈ fs_T := fs_at9 211 (by decide +kernel) rfl
theorem se_mX7_write : Cond.selects mX7_write.1.cls mX7_write.1 mX7_write.1 ∈ fs_T := fs_at9 212 (by decide +kernel) rfl
theorem sv_L_34 : fs_SV RL 34 mX7_write 1 := ⟨sc_mX7_write, fs_at9 210 (by decide +kernel) rfl, si_mX7_write, se_mX7_write, sn_mX7_write, sd_mX7_write.1, sd_mX7_write.2.1, sd_mX7_write.2.2.1, sd_mX7_write.2.2.2⟩
theorem sc_mX8_write : Cond.code mX8_write.1 mX8_write.2.1 mX8_write.2.2.1 mX8_write.2.2.2 ∈ fs_T := fs_at9 876 (by decide +kernel) rfl
theorem sn_mX8_write : Cond.initialized mX8_write.1.cls ∈ fs_T := fs_at9 69 (by decide +kernel) rfl
theorem sd_mX8_write : mX8_write.1.cls ≠ "java/lang/invoke/MethodHandle" ∧ mX8_write.1.cls ≠ "java/lang/invoke/VarHandle" ∧ (parseMethodDescriptor mX8_write.1.desc).map (fun d => d.parameters.length) = some 1 ∧ mX8_write.2.2.1 ≤ 45 := ⟨by decide, by decide, by decide +kernel, by decide⟩
theorem si_mX8_write : Cond.instanceMethod mX8_write.1 ∈ fs_T := fs_at9 874 (by decide +kernel) rfl
theorem se_mX8_write : Cond.selects mX8_write.1.cls mX8_write.1 mX8_write.1 ∈ fs_T := fs_at9 875 (by decide +kernel) rfl
theorem sv_L_38 : fs_SV RL 38 mX8_write 1 := ⟨sc_mX8_write, fs_at9 873 (by decide +kernel) rfl, si_mX8_write, se_mX8_write, sn_mX8_write, sd_mX8_write.1, sd_mX8_write.2.1, sd_mX8_write.2.2.1, sd_mX8_write.2.2.2⟩
theorem sc_mX8_add : Cond.code mX8_add.1 mX8_add.2.1 mX8_add.2.2.1 mX8_add.2.2.2 ∈ fs_T := fs_at9 880 (by decide +kernel) rfl
theorem sn_mX8_add : Cond.initialized mX8_add.1.cls ∈ fs_T := fs_at9 69 (by decide +kernel) rfl
theorem sd_mX8_add : mX8_add.1.cls ≠ "java/lang/invoke/MethodHandle" ∧ mX8_add.1.cls ≠ "java/lang/invoke/VarHandle" ∧ (parseMethodDescriptor mX8_add.1.desc).map (fun d => d.parameters.length) = some 0 ∧ mX8_add.2.2.1 ≤ 45 := ⟨by decide, by decide, by decide +kernel, by decide⟩
theorem si_mX8_add : Cond.instanceMethod mX8_add.1 ∈ fs_T := fs_at9 878 (by decide +kernel) rfl
theorem se_mX8_add : Cond.selects mX8_add.1.cls mX8_add.1 mX8_add.1 ∈ fs_T := fs_at9 879 (by decide +kernel) rfl
theorem sv_L_42 : fs_SV RL 42 mX8_add 0 := ⟨sc_mX8_add, fs_at9 877 (by decide +kernel) rfl, si_mX8_add, se_mX8_add, sn_mX8_add, sd_mX8_add.1, sd_mX8_add.2.1, sd_mX8_add.2.2.1, sd_mX8_add.2.2.2⟩
theorem sc_mX8_thrown : Cond.code mX8_thrown.1 mX8_thrown.2.1 mX8_thrown.2.2.1 mX8_thrown.2.2.2 ∈ fs_T := fs_at9 872 (by decide +kernel) rfl
theorem sn_mX8_thrown : Cond.initialized mX8_thrown.1.cls ∈ fs_T := fs_at9 69 (by decide +kernel) rfl
theorem sd_mX8_thrown : mX8_thrown.1.cls ≠ "java/lang/invoke/MethodHandle" ∧ mX8_thrown.1.cls ≠ "java/lang/invoke/VarHandle" ∧ (parseMethodDescriptor mX8_thrown.1.desc).map (fun d => d.parameters.length) = some 0 ∧ mX8_thrown.2.2.1 ≤ 45 := ⟨by decide, by decide, by decide +kernel, by decide⟩
theorem si_mX8_thrown : Cond.instanceMethod mX8_thrown.1 ∈ fs_T := fs_at9 870 (by decide +kernel) rfl
theorem se_mX8_thrown : Cond.selects mX8_thrown.1.cls mX8_thrown.1 mX8_thrown.1 ∈ fs_T := fs_at9 871 (by decide +kernel) rfl
theorem sv_L_43 : fs_SV RL 43 mX8_thrown 0 := ⟨sc_mX8_thrown, fs_at9 869 (by decide +kernel) rfl, si_mX8_thrown, se_mX8_thrown, sn_mX8_thrown, sd_mX8_thrown.1, sd_mX8_thrown.2.1, sd_mX8_thrown.2.2.1, sd_mX8_thrown.2.2.2⟩
theorem sc_mX7_position : Cond.code mX7_position.1 mX7_position.2.1 mX7_position.2.2.1 mX7_position.2.2.2 ∈ fs_T := fs_at9 225 (by decide +kernel) rfl
theorem sn_mX7_position : Cond.initialized mX7_position.1.cls ∈ fs_T := fs_at9 63 (by decide +kernel) rfl
theorem sd_mX7_position : mX7_position.1.cls ≠ "java/lang/invoke/MethodHandle" ∧ mX7_position.1.cls ≠ "java/lang/invoke/VarHandle" ∧ (parseMethodDescriptor mX7_position.1.desc).map (fun d => d.parameters.length) = some 0 ∧ mX7_position.2.2.1 ≤ 45 := ⟨by decide, by decide, by decide +kernel, by decide⟩
theorem si_mX7_position : Cond.instanceMethod mX7_position.1 ∈ fs_T := fs_at9 223 (by decide +kernel) rfl
theorem se_mX7_position : Cond.selects mX7_position.1.cls mX7_position.1 mX7_position.1 ∈ fs_T := fs_at9 224 (by decide +kernel) rfl
theorem sv_L_46 : fs_SV RL 46 mX7_position 0 := ⟨sc_mX7_position, fs_at9 222 (by decide +kernel) rfl, si_mX7_position, se_mX7_position, sn_mX7_position, sd_mX7_position.1, sd_mX7_position.2.1, sd_mX7_position.2.2.1, sd_mX7_position.2.2.2⟩
theorem sc_mX8_position : Cond.code mX8_position.1 mX8_position.2.1 mX8_position.2.2.1 mX8_position.2.2.2 ∈ fs_T := fs_at9 937 (by decide +kernel) rfl
theorem sn_mX8_position : Cond.initialized mX8_position.1.cls ∈ fs_T := fs_at9 69 (by decide +kernel) rfl
theorem sd_mX8_position : mX8_position.1.cls ≠ "java/lang/invoke/MethodHandle" ∧ mX8_position.1.cls ≠ "java/lang/invoke/VarHandle" ∧ (parseMethodDescriptor mX8_position.1.desc).map (fun d => d.parameters.length) = some 0 ∧ mX8_position.2.2.1 ≤ 45 := ⟨by decide, by decide, by decide +kernel, by decide⟩
theorem si_mX8_position : Cond.instanceMethod mX8_position.1 ∈ fs_T := fs_at9 935 (by decide +kernel) rfl
theorem se_mX8_position : Cond.selects mX8_position.1.cls mX8_position.1 mX8_position.1 ∈ fs_T := fs_at9 936 (by decide +kernel) rfl
theorem sv_L_49 : fs_SV RL 49 mX8_position 0 := ⟨sc_mX8_position, fs_at9 934 (by decide +kernel) rfl, si_mX8_position, se_mX8_position, sn_mX8_position, sd_mX8_position.1, sd_mX8_position.2.1, sd_mX8_position.2.2.1, sd_mX8_position.2.2.2⟩
theorem sc_mX8_close : Cond.code mX8_close.1 mX8_close.2.1 mX8_close.2.2.1 mX8_close.2.2.2 ∈ fs_T := fs_at9 941 (by decide +kernel) rfl
theorem sn_mX8_close : Cond.initialized mX8_close.1.cls ∈ fs_T := fs_at9 69 (by decide +kernel) rfl
theorem sd_mX8_close : mX8_close.1.cls ≠ "java/lang/invoke/MethodHandle" ∧ mX8_close.1.cls ≠ "java/lang/invoke/VarHandle" ∧ (parseMethodDescriptor mX8_close.1.desc).map (fun d => d.parameters.length) = some 0 ∧ mX8_close.2.2.1 ≤ 45 := ⟨by decide, by decide, by decide +kernel, by decide⟩
theorem si_mX8_close : Cond.instanceMethod mX8_close.1 ∈ fs_T := fs_at9 939 (by decide +kernel) rfl
theorem se_mX8_close : Cond.selects mX8_close.1.cls mX8_close.1 mX8_close.1 ∈ fs_T := fs_at9 940 (by decide +kernel) rfl
theorem sv_L_52 : fs_SV RL 52 mX8_close 0 := ⟨sc_mX8_close, fs_at9 938 (by decide +kernel) rfl, si_mX8_close, se_mX8_close, sn_mX8_close, sd_mX8_close.1, sd_mX8_close.2.1, sd_mX8_close.2.2.1, sd_mX8_close.2.2.2⟩
theorem sc_mX7_clear : Cond.code mX7_clear.1 mX7_clear.2.1 mX7_clear.2.2.1 mX7_clear.2.2.2 ∈ fs_T := fs_at9 229 (by decide +kernel) rfl
theorem sn_mX7_clear : Cond.initialized mX7_clear.1.cls ∈ fs_T := fs_at9 63 (by decide +kernel) rfl
theorem sd_mX7_clear : mX7_clear.1.cls ≠ "java/lang/invoke/MethodHandle" ∧ mX7_clear.1.cls ≠ "java/lang/invoke/VarHandle" ∧ (parseMethodDescriptor mX7_clear.1.desc).map (fun d => d.parameters.length) = some 0 ∧ mX7_clear.2.2.1 ≤ 45 := ⟨by decide, by decide, by decide +kernel, by decide⟩
theorem si_mX7_clear : Cond.instanceMethod mX7_clear.1 ∈ fs_T := fs_at9 227 (by decide +kernel) rfl
theorem se_mX7_clear : Cond.selects mX7_clear.1.cls mX7_clear.1 mX7_clear.1 ∈ fs_T := fs_at9 228 (by decide +kernel) rfl
theorem sv_L_53 : fs_SV RL 53 mX7_clear 0 := ⟨sc_mX7_clear, fs_at9 226 (by decide +kernel) rfl, si_mX7_clear, se_mX7_clear, sn_mX7_clear, sd_mX7_clear.1, sd_mX7_clear.2.1, sd_mX7_clear.2.2.1, sd_mX7_clear.2.2.2⟩
theorem sc_mX8_clear : Cond.code mX8_clear.1 mX8_clear.2.1 mX8_clear.2.2.1 mX8_clear.2.2.2 ∈ fs_T := fs_at9 1030 (by decide +kernel) rfl
theorem sn_mX8_clear : Cond.initialized mX8_clear.1.cls ∈ fs_T := fs_at9 69 (by decide +kernel) rfl
theorem sd_mX8_clear : mX8_clear.1.cls ≠ "java/lang/invoke/MethodHandle" ∧ mX8_clear.1.cls ≠ "java/lang/invoke/VarHandle" ∧ (parseMethodDescriptor mX8_clear.1.desc).map (fun d => d.parameters.length) = some 0 ∧ mX8_clear.2.2.1 ≤ 45 := ⟨by decide, by decide, by decide +kernel, by decide⟩
theorem si_mX8_clear : Cond.instanceMethod mX8_clear.1 ∈ fs_T := fs_at9 1028 (by decide +kernel) rfl
theorem se_mX8_clear : Cond.selects mX8_clear.1.cls mX8_clear.1 mX8_clear.1 ∈ fs_T := fs_at9 1029 (by decide +kernel) rfl
theorem sv_L_56 : fs_SV RL 56 mX8_clear 0 := ⟨sc_mX8_clear, fs_at9 1027 (by decide +kernel) rfl, si_mX8_clear, se_mX8_clear, sn_mX8_clear, sd_mX8_clear.1, sd_mX8_clear.2.1, sd_mX8_clear.2.2.1, sd_mX8_clear.2.2.2⟩
theorem sc_mX7_rows : Cond.code mX7_rows.1 mX7_rows.2.1 mX7_rows.2.2.1 mX7_rows.2.2.2 ∈ fs_T := fs_at9 237 (by decide +kernel) rfl
theorem sn_mX7_rows : Cond.initialized mX7_rows.1.cls ∈ fs_T := fs_at9 63 (by decide +kernel) rfl
theorem sd_mX7_rows : mX7_rows.1.cls ≠ "java/lang/invoke/MethodHandle" ∧ mX7_rows.1.cls ≠ "java/lang/invoke/VarHandle" ∧ (parseMethodDescriptor mX7_rows.1.desc).map (fun d => d.parameters.length) = some 1 ∧ mX7_rows.2.2.1 ≤ 45 := ⟨by decide, by decide, by decide +kernel, by decide⟩
theorem si_mX7_rows : Cond.instanceMethod mX7_rows.1 ∈ fs_T := fs_at9 235 (by decide +kernel) rfl
theorem se_mX7_rows : Cond.selects mX7_rows.1.cls mX7_rows.1 mX7_rows.1 ∈ fs_T := fs_at9 236 (by decide +kernel) rfl
theorem sv_L_57 : fs_SV RL 57 mX7_rows 1 := ⟨sc_mX7_rows, fs_at9 234 (by decide +kernel) rfl, si_mX7_rows, se_mX7_rows, sn_mX7_rows, sd_mX7_rows.1, sd_mX7_rows.2.1, sd_mX7_rows.2.2.1, sd_mX7_rows.2.2.2⟩
theorem sc_mX8_rows : Cond.code mX8_rows.1 mX8_rows.2.1 mX8_rows.2.2.1 mX8_rows.2.2.2 ∈ fs_T := fs_at9 1034 (by decide +kernel) rfl
theorem sn_mX8_rows : Cond.initialized mX8_rows.1.cls ∈ fs_T := fs_at9 69 (by decide +kernel) rfl
theorem sd_mX8_rows : mX8_rows.1.cls ≠ "java/lang/invoke/MethodHandle" ∧ mX8_rows.1.cls ≠ "java/lang/invoke/VarHandle" ∧ (parseMethodDescriptor mX8_rows.1.desc).map (fun d => d.parameters.length) = some 1 ∧ mX8_rows.2.2.1 ≤ 45 := ⟨by decide, by decide, by decide +kernel, by decide⟩
theorem si_mX8_rows : Cond.instanceMethod mX8_rows.1 ∈ fs_T := fs_at9 1032 (by decide +kernel) rfl
theorem se_mX8_rows : Cond.selects mX8_rows.1.cls mX8_rows.1 mX8_rows.1 ∈ fs_T := fs_at9 1033 (by decide +kernel) rfl
theorem sv_L_61 : fs_SV RL 61 mX8_rows 1 := ⟨sc_mX8_rows, fs_at9 1031 (by decide +kernel) rfl, si_mX8_rows, se_mX8_rows, sn_mX8_rows, sd_mX8_rows.1, sd_mX8_rows.2.1, sd_mX8_rows.2.2.1, sd_mX8_rows.2.2.2⟩
theorem sc_mX7_set : Cond.code mX7_set.1 mX7_set.2.1 mX7_set.2.2.1 mX7_set.2.2.2 ∈ fs_T := fs_at9 417 (by decide +kernel) rfl
theorem sn_mX7_set : Cond.initialized mX7_set.1.cls ∈ fs_T := fs_at9 63 (by decide +kernel) rfl
theorem sd_mX7_set : mX7_set.1.cls ≠ "java/lang/invoke/MethodHandle" ∧ mX7_set.1.cls ≠ "java/lang/invoke/VarHandle" ∧ (parseMethodDescriptor mX7_set.1.desc).map (fun d => d.parameters.length) = some 3 ∧ mX7_set.2.2.1 ≤ 45 := ⟨by decide, by decide, by decide +kernel, by decide⟩
theorem si_mX7_set : Cond.instanceMethod mX7_set.1 ∈ fs_T := fs_at9 415 (by decide +kernel) rfl
theorem se_mX7_set : Cond.selects mX7_set.1.cls mX7_set.1 mX7_set.1 ∈ fs_T := fs_at9 416 (by decide +kernel) rfl
theorem sv_L_62 : fs_SV RL 62 mX7_set 3 := ⟨sc_mX7_set, fs_at9 414 (by decide +kernel) rfl, si_mX7_set, se_mX7_set, sn_mX7_set, sd_mX7_set.1, sd_mX7_set.2.1, sd_mX7_set.2.2.1, sd_mX7_set.2.2.2⟩
theorem sc_mX8_set : Cond.code mX8_set.1 mX8_set.2.1 mX8_set.2.2.1 mX8_set.2.2.2 ∈ fs_T := fs_at9 1038 (by decide +kernel) rfl
theorem sn_mX8_set : Cond.initialized mX8_set.1.cls ∈ fs_T := fs_at9 69 (by decide +kernel) rfl
theorem sd_mX8_set : mX8_set.1.cls ≠ "java/lang/invoke/MethodHandle" ∧ mX8_set.1.cls ≠ "java/lang/invoke/VarHandle" ∧ (parseMethodDescriptor mX8_set.1.desc).map (fun d => d.parameters.length) = some 3 ∧ mX8_set.2.2.1 ≤ 45 := ⟨by decide, by decide, by decide +kernel, by decide⟩
theorem si_mX8_set : Cond.instanceMethod mX8_set.1 ∈ fs_T := fs_at9 1036 (by decide +kernel) rfl
theorem se_mX8_set : Cond.selects mX8_set.1.cls mX8_set.1 mX8_set.1 ∈ fs_T := fs_at9 1037 (by decide +kernel) rfl
theorem sv_L_66 : fs_SV RL 66 mX8_set 3 := ⟨sc_mX8_set, fs_at9 1035 (by decide +kernel) rfl, si_mX8_set, se_mX8_set, sn_mX8_set, sd_mX8_set.1, sd_mX8_set.2.1, sd_mX8_set.2.2.1, sd_mX8_set.2.2.2⟩
theorem sc_mX7_get : Cond.code mX7_get.1 mX7_get.2.1 mX7_get.2.2.1 mX7_get.2.2.2 ∈ fs_T := fs_at9 437 (by decide +kernel) rfl
theorem sn_mX7_get : Cond.initialized mX7_get.1.cls ∈ fs_T := fs_at9 63 (by decide +kernel) rfl
theorem sd_mX7_get : mX7_get.1.cls ≠ "java/lang/invoke/MethodHandle" ∧ mX7_get.1.cls ≠ "java/lang/invoke/VarHandle" ∧ (parseMethodDescriptor mX7_get.1.desc).map (fun d => d.parameters.length) = some 2 ∧ mX7_get.2.2.1 ≤ 45 := ⟨by decide, by decide, by decide +kernel, by decide⟩
theorem si_mX7_get : Cond.instanceMethod mX7_get.1 ∈ fs_T := fs_at9 435 (by decide +kernel) rfl
theorem se_mX7_get : Cond.selects mX7_get.1.cls mX7_get.1 mX7_get.1 ∈ fs_T := fs_at9 436 (by decide +kernel) rfl
theorem sv_L_67 : fs_SV RL 67 mX7_get 2 := ⟨sc_mX7_get, fs_at9 434 (by decide +kernel) rfl, si_mX7_get, se_mX7_get, sn_mX7_get, sd_mX7_get.1, sd_mX7_get.2.1, sd_mX7_get.2.2.1, sd_mX7_get.2.2.2⟩
theorem sc_mX8_get : Cond.code mX8_get.1 mX8_get.2.1 mX8_get.2.2.1 mX8_get.2.2.2 ∈ fs_T := fs_at9 1050 (by decide +kernel) rfl
theorem sn_mX8_get : Cond.initialized mX8_get.1.cls ∈ fs_T := fs_at9 69 (by decide +kernel) rfl
theorem sd_mX8_get : mX8_get.1.cls ≠ "java/lang/invoke/MethodHandle" ∧ mX8_get.1.cls ≠ "java/lang/invoke/VarHandle" ∧ (parseMethodDescriptor mX8_get.1.desc).map (fun d => d.parameters.length) = some 2 ∧ mX8_get.2.2.1 ≤ 45 := ⟨by decide, by decide, by decide +kernel, by decide⟩
theorem si_mX8_get : Cond.instanceMethod mX8_get.1 ∈ fs_T := fs_at9 1048 (by decide +kernel) rfl
theorem se_mX8_get : Cond.selects mX8_get.1.cls mX8_get.1 mX8_get.1 ∈ fs_T := fs_at9 1049 (by decide +kernel) rfl
theorem sv_L_71 : fs_SV RL 71 mX8_get 2 := ⟨sc_mX8_get, fs_at9 1047 (by decide +kernel) rfl, si_mX8_get, se_mX8_get, sn_mX8_get, sd_mX8_get.1, sd_mX8_get.2.1, sd_mX8_get.2.2.1, sd_mX8_get.2.2.2⟩
theorem sc_mX7_fault : Cond.code mX7_fault.1 mX7_fault.2.1 mX7_fault.2.2.1 mX7_fault.2.2.2 ∈ fs_T := fs_at9 444 (by decide +kernel) rfl
theorem sn_mX7_fault : Cond.initialized mX7_fault.1.cls ∈ fs_T := fs_at9 63 (by decide +kernel) rfl
theorem sd_mX7_fault : mX7_fault.1.cls ≠ "java/lang/invoke/MethodHandle" ∧ mX7_fault.1.cls ≠ "java/lang/invoke/VarHandle" ∧ (parseMethodDescriptor mX7_fault.1.desc).map (fun d => d.parameters.length) = some 2 ∧ mX7_fault.2.2.1 ≤ 45 := ⟨by decide, by decide, by decide +kernel, by decide⟩
theorem si_mX7_fault : Cond.instanceMethod mX7_fault.1 ∈ fs_T := fs_at9 442 (by decide +kernel) rfl
theorem se_mX7_fault : Cond.selects mX7_fault.1.cls mX7_fault.1 mX7_fault.1 ∈ fs_T := fs_at9 443 (by decide +kernel) rfl
theorem sv_L_72 : fs_SV RL 72 mX7_fault 2 := ⟨sc_mX7_fault, fs_at9 441 (by decide +kernel) rfl, si_mX7_fault, se_mX7_fault, sn_mX7_fault, sd_mX7_fault.1, sd_mX7_fault.2.1, sd_mX7_fault.2.2.1, sd_mX7_fault.2.2.2⟩
theorem sc_mX8_fault : Cond.code mX8_fault.1 mX8_fault.2.1 mX8_fault.2.2.1 mX8_fault.2.2.2 ∈ fs_T := fs_at9 1054 (by decide +kernel) rfl
theorem sn_mX8_fault : Cond.initialized mX8_fault.1.cls ∈ fs_T := fs_at9 69 (by decide +kernel) rfl
theorem sd_mX8_fault : mX8_fault.1.cls ≠ "java/lang/invoke/MethodHandle" ∧ mX8_fault.1.cls ≠ "java/lang/invoke/VarHandle" ∧ (parseMethodDescriptor mX8_fault.1.desc).map (fun d => d.parameters.length) = some 2 ∧ mX8_fault.2.2.1 ≤ 45 := ⟨by decide, by decide, by decide +kernel, by decide⟩
theorem si_mX8_fault : Cond.instanceMethod mX8_fault.1 ∈ fs_T := fs_at9 1052 (by decide +kernel) rfl
theorem se_mX8_fault : Cond.selects mX8_fault.1.cls mX8_fault.1 mX8_fault.1 ∈ fs_T := fs_at9 1053 (by decide +kernel) rfl
theorem sv_L_76 : fs_SV RL 76 mX8_fault 2 := ⟨sc_mX8_fault, fs_at9 1051 (by decide +kernel) rfl, si_mX8_fault, se_mX8_fault, sn_mX8_fault, sd_mX8_fault.1, sd_mX8_fault.2.1, sd_mX8_fault.2.2.1, sd_mX8_fault.2.2.2⟩
theorem sc_mX7_message : Cond.code mX7_message.1 mX7_message.2.1 mX7_message.2.2.1 mX7_message.2.2.2 ∈ fs_T := fs_at9 452 (by decide +kernel) rfl
theorem sn_mX7_message : Cond.initialized mX7_message.1.cls ∈ fs_T := fs_at9 63 (by decide +kernel) rfl
theorem sd_mX7_message : mX7_message.1.cls ≠ "java/lang/invoke/MethodHandle" ∧ mX7_message.1.cls ≠ "java/lang/invoke/VarHandle" ∧ (parseMethodDescriptor mX7_message.1.desc).map (fun d => d.parameters.length) = some 1 ∧ mX7_message.2.2.1 ≤ 45 := ⟨by decide, by decide, by decide +kernel, by decide⟩
theorem si_mX7_message : Cond.instanceMethod mX7_message.1 ∈ fs_T := fs_at9 450 (by decide +kernel) rfl
theorem se_mX7_message : Cond.selects mX7_message.1.cls mX7_message.1 mX7_message.1 ∈ fs_T := fs_at9 451 (by decide +kernel) rfl
theorem sv_L_77 : fs_SV RL 77 mX7_message 1 := ⟨sc_mX7_message, fs_at9 449 (by decide +kernel) rfl, si_mX7_message, se_mX7_message, sn_mX7_message, sd_mX7_message.1, sd_mX7_message.2.1, sd_mX7_message.2.2.1, sd_mX7_message.2.2.2⟩
theorem sc_mX8_message : Cond.code mX8_message.1 mX8_message.2.1 mX8_message.2.2.1 mX8_message.2.2.2 ∈ fs_T := fs_at9 1058 (by decide +kernel) rfl
theorem sn_mX8_message : Cond.initialized mX8_message.1.cls ∈ fs_T := fs_at9 69 (by decide +kernel) rfl
theorem sd_mX8_message : mX8_message.1.cls ≠ "java/lang/invoke/MethodHandle" ∧ mX8_message.1.cls ≠ "java/lang/invoke/VarHandle" ∧ (parseMethodDescriptor mX8_message.1.desc).map (fun d => d.parameters.length) = some 1 ∧ mX8_message.2.2.1 ≤ 45 := ⟨by decide, by decide, by decide +kernel, by decide⟩
theorem si_mX8_message : Cond.instanceMethod mX8_message.1 ∈ fs_T := fs_at9 1056 (by decide +kernel) rfl
theorem se_mX8_message : Cond.selects mX8_message.1.cls mX8_message.1 mX8_message.1 ∈ fs_T := fs_at9 1057 (by decide +kernel) rfl
theorem sv_L_80 : fs_SV RL 80 mX8_message 1 := ⟨sc_mX8_message, fs_at9 1055 (by decide +kernel) rfl, si_mX8_message, se_mX8_message, sn_mX8_message, sd_mX8_message.1, sd_mX8_message.2.1, sd_mX8_message.2.2.1, sd_mX8_message.2.2.2⟩
theorem sc_mX7_place : Cond.code mX7_place.1 mX7_place.2.1 mX7_place.2.2.1 mX7_place.2.2.2 ∈ fs_T := fs_at9 457 (by decide +kernel) rfl
theorem sn_mX7_place : Cond.initialized mX7_place.1.cls ∈ fs_T := fs_at9 63 (by decide +kernel) rfl
theorem sd_mX7_place : mX7_place.1.cls ≠ "java/lang/invoke/MethodHandle" ∧ mX7_place.1.cls ≠ "java/lang/invoke/VarHandle" ∧ (parseMethodDescriptor mX7_place.1.desc).map (fun d => d.parameters.length) = some 2 ∧ mX7_place.2.2.1 ≤ 45 := ⟨by decide, by decide, by decide +kernel, by decide⟩
theorem si_mX7_place : Cond.instanceMethod mX7_place.1 ∈ fs_T := fs_at9 455 (by decide +kernel) rfl
theorem se_mX7_place : Cond.selects mX7_place.1.cls mX7_place.1 mX7_place.1 ∈ fs_T := fs_at9 456 (by decide +kernel) rfl
theorem sv_L_81 : fs_SV RL 81 mX7_place 2 := ⟨sc_mX7_place, fs_at9 454 (by decide +kernel) rfl, si_mX7_place, se_mX7_place, sn_mX7_place, sd_mX7_place.1, sd_mX7_place.2.1, sd_mX7_place.2.2.1, sd_mX7_place.2.2.2⟩
theorem sc_mX8_place : Cond.code mX8_place.1 mX8_place.2.1 mX8_place.2.2.1 mX8_place.2.2.2 ∈ fs_T := fs_at9 1062 (by decide +kernel) rfl
theorem sn_mX8_place : Cond.initialized mX8_place.1.cls ∈ fs_T := fs_at9 69 (by decide +kernel) rfl
theorem sd_mX8_place : mX8_place.1.cls ≠ "java/lang/invoke/MethodHandle" ∧ mX8_place.1.cls ≠ "java/lang/invoke/VarHandle" ∧ (parseMethodDescriptor mX8_place.1.desc).map (fun d => d.parameters.length) = some 2 ∧ mX8_place.2.2.1 ≤ 45 := ⟨by decide, by decide, by decide +kernel, by decide⟩
theorem si_mX8_place : Cond.instanceMethod mX8_place.1 ∈ fs_T := fs_at9 1060 (by decide +kernel) rfl
theorem se_mX8_place : Cond.selects mX8_place.1.cls mX8_place.1 mX8_place.1 ∈ fs_T := fs_at9 1061 (by decide +kernel) rfl
theorem sv_L_84 : fs_SV RL 84 mX8_place 2 := ⟨sc_mX8_place, fs_at9 1059 (by decide +kernel) rfl, si_mX8_place, se_mX8_place, sn_mX8_place, sd_mX8_place.1, sd_mX8_place.2.1, sd_mX8_place.2.2.1, sd_mX8_place.2.2.2⟩
theorem sc_mX7_pages : Cond.code mX7_pages.1 mX7_pages.2.1 mX7_pages.2.2.1 mX7_pages.2.2.2 ∈ fs_T := fs_at9 466 (by decide +kernel) rfl
theorem sn_mX7_pages : Cond.initialized mX7_pages.1.cls ∈ fs_T := fs_at9 63 (by decide +kernel) rfl
theorem sd_mX7_pages : mX7_pages.1.cls ≠ "java/lang/invoke/MethodHandle" ∧ mX7_pages.1.cls ≠ "java/lang/invoke/VarHandle" ∧ (parseMethodDescriptor mX7_pages.1.desc).map (fun d => d.parameters.length) = some 0 ∧ mX7_pages.2.2.1 ≤ 45 := ⟨by decide, by decide, by decide +kernel, by decide⟩
theorem si_mX7_pages : Cond.instanceMethod mX7_pages.1 ∈ fs_T := fs_at9 464 (by decide +kernel) rfl
theorem se_mX7_pages : Cond.selects mX7_pages.1.cls mX7_pages.1 mX7_pages.1 ∈ fs_T := fs_at9 465 (by decide +kernel) rfl
theorem sv_L_85 : fs_SV RL 85 mX7_pages 0 := ⟨sc_mX7_pages, fs_at9 463 (by decide +kernel) rfl, si_mX7_pages, se_mX7_pages, sn_mX7_pages, sd_mX7_pages.1, sd_mX7_pages.2.1, sd_mX7_pages.2.2.1, sd_mX7_pages.2.2.2⟩
theorem sc_mX8_pages : Cond.code mX8_pages.1 mX8_pages.2.1 mX8_pages.2.2.1 mX8_pages.2.2.2 ∈ fs_T := fs_at9 1066 (by decide +kernel) rfl
theorem sn_mX8_pages : Cond.initialized mX8_pages.1.cls ∈ fs_T := fs_at9 69 (by decide +kernel) rfl
theorem sd_mX8_pages : mX8_pages.1.cls ≠ "java/lang/invoke/MethodHandle" ∧ mX8_pages.1.cls ≠ "java/lang/invoke/VarHandle" ∧ (parseMethodDescriptor mX8_pages.1.desc).map (fun d => d.parameters.length) = some 0 ∧ mX8_pages.2.2.1 ≤ 45 := ⟨by decide, by decide, by decide +kernel, by decide⟩
theorem si_mX8_pages : Cond.instanceMethod mX8_pages.1 ∈ fs_T := fs_at9 1064 (by decide +kernel) rfl
theorem se_mX8_pages : Cond.selects mX8_pages.1.cls mX8_pages.1 mX8_pages.1 ∈ fs_T := fs_at9 1065 (by decide +kernel) rfl
theorem sv_L_88 : fs_SV RL 88 mX8_pages 0 := ⟨sc_mX8_pages, fs_at9 1063 (by decide +kernel) rfl, si_mX8_pages, se_mX8_pages, sn_mX8_pages, sd_mX8_pages.1, sd_mX8_pages.2.1, sd_mX8_pages.2.2.1, sd_mX8_pages.2.2.2⟩
theorem sc_mX7_line : Cond.code mX7_line.1 mX7_line.2.1 mX7_line.2.2.1 mX7_line.2.2.2 ∈ fs_T := fs_at9 474 (by decide +kernel) rfl
theorem sn_mX7_line : Cond.initialized mX7_line.1.cls ∈ fs_T := fs_at9 63 (by decide +kernel) rfl
theorem sd_mX7_line : mX7_line.1.cls ≠ "java/lang/invoke/MethodHandle" ∧ mX7_line.1.cls ≠ "java/lang/invoke/VarHandle" ∧ (parseMethodDescriptor mX7_line.1.desc).map (fun d => d.parameters.length) = some 2 ∧ mX7_line.2.2.1 ≤ 45 := ⟨by decide, by decide, by decide +kernel, by decide⟩
theorem si_mX7_line : Cond.instanceMethod mX7_line.1 ∈ fs_T := fs_at9 472 (by decide +kernel) rfl
theorem se_mX7_line : Cond.selects mX7_line.1.cls mX7_line.1 mX7_line.1 ∈ fs_T := fs_at9 473 (by decide +kernel) rfl
theorem sv_L_89 : fs_SV RL 89 mX7_line 2 := ⟨sc_mX7_line, fs_at9 471 (by decide +kernel) rfl, si_mX7_line, se_mX7_line, sn_mX7_line, sd_mX7_line.1, sd_mX7_line.2.1, sd_mX7_line.2.2.1, sd_mX7_line.2.2.2⟩
theorem sc_mX8_line : Cond.code mX8_line.1 mX8_line.2.1 mX8_line.2.2.1 mX8_line.2.2.2 ∈ fs_T := fs_at9 1070 (by decide +kernel) rfl
theorem sn_mX8_line : Cond.initialized mX8_line.1.cls ∈ fs_T := fs_at9 69 (by decide +kernel) rfl
theorem sd_mX8_line : mX8_line.1.cls ≠ "java/lang/invoke/MethodHandle" ∧ mX8_line.1.cls ≠ "java/lang/invoke/VarHandle" ∧ (parseMethodDescriptor mX8_line.1.desc).map (fun d => d.parameters.length) = some 2 ∧ mX8_line.2.2.1 ≤ 45 := ⟨by decide, by decide, by decide +kernel, by decide⟩
theorem si_mX8_line : Cond.instanceMethod mX8_line.1 ∈ fs_T := fs_at9 1068 (by decide +kernel) rfl
theorem se_mX8_line : Cond.selects mX8_line.1.cls mX8_line.1 mX8_line.1 ∈ fs_T := fs_at9 1069 (by decide +kernel) rfl
theorem sv_L_92 : fs_SV RL 92 mX8_line 2 := ⟨sc_mX8_line, fs_at9 1067 (by decide +kernel) rfl, si_mX8_line, se_mX8_line, sn_mX8_line, sd_mX8_line.1, sd_mX8_line.2.1, sd_mX8_line.2.2.1, sd_mX8_line.2.2.2⟩
theorem sc_mX7_count : Cond.code mX7_count.1 mX7_count.2.1 mX7_count.2.2.1 mX7_count.2.2.2 ∈ fs_T := fs_at9 482 (by decide +kernel) rfl
theorem sn_mX7_count : Cond.initialized mX7_count.1.cls ∈ fs_T := fs_at9 63 (by decide +kernel) rfl
theorem sd_mX7_count : mX7_count.1.cls ≠ "java/lang/invoke/MethodHandle" ∧ mX7_count.1.cls ≠ "java/lang/invoke/VarHandle" ∧ (parseMethodDescriptor mX7_count.1.desc).map (fun d => d.parameters.length) = some 1 ∧ mX7_count.2.2.1 ≤ 45 := ⟨by decide, by decide, by decide +kernel, by decide⟩
theorem si_mX7_count : Cond.instanceMethod mX7_count.1 ∈ fs_T := fs_at9 480 (by decide +kernel) rfl
theorem se_mX7_count : Cond.selects mX7_count.1.cls mX7_count.1 mX7_count.1 ∈ fs_T := fs_at9 481 (by decide +kernel) rfl
theorem sv_L_93 : fs_SV RL 93 mX7_count 1 := ⟨sc_mX7_count, fs_at9 479 (by decide +kernel) rfl, si_mX7_count, se_mX7_count, sn_mX7_count, sd_mX7_count.1, sd_mX7_count.2.1, sd_mX7_count.2.2.1, sd_mX7_count.2.2.2⟩
theorem sc_mX8_count : Cond.code mX8_count.1 mX8_count.2.1 mX8_count.2.2.1 mX8_count.2.2.2 ∈ fs_T := fs_at9 1074 (by decide +kernel) rfl
theorem sn_mX8_count : Cond.initialized mX8_count.1.cls ∈ fs_T := fs_at9 69 (by decide +kernel) rfl
theorem sd_mX8_count : mX8_count.1.cls ≠ "java/lang/invoke/MethodHandle" ∧ mX8_count.1.cls ≠ "java/lang/invoke/VarHandle" ∧ (parseMethodDescriptor mX8_count.1.desc).map (fun d => d.parameters.length) = some 1 ∧ mX8_count.2.2.1 ≤ 45 := ⟨by decide, by decide, by decide +kernel, by decide⟩
theorem si_mX8_count : Cond.instanceMethod mX8_count.1 ∈ fs_T := fs_at9 1072 (by decide +kernel) rfl
theorem se_mX8_count : Cond.selects mX8_count.1.cls mX8_count.1 mX8_count.1 ∈ fs_T := fs_at9 1073 (by decide +kernel) rfl
theorem sv_L_96 : fs_SV RL 96 mX8_count 1 := ⟨sc_mX8_count, fs_at9 1071 (by decide +kernel) rfl, si_mX8_count, se_mX8_count, sn_mX8_count, sd_mX8_count.1, sd_mX8_count.2.1, sd_mX8_count.2.2.1, sd_mX8_count.2.2.2⟩
theorem wa_int : Cond.arrayClass .int ∈ fs_T := fs_in (by decide +kernel) rfl
theorem wa_char : Cond.arrayClass .char ∈ fs_T := fs_in (by decide +kernel) rfl
theorem wa_long : Cond.arrayClass .long ∈ fs_T := fs_in (by decide +kernel) rfl
theorem wa_boolean : Cond.arrayClass .boolean ∈ fs_T := fs_in (by decide +kernel) rfl
