/-! ===== what links to what: the words of each call and field (by program) ===== -/
theorem mt1 {w : Cond} (i : Nat) (h : tables_1_1[i]? = some w) : w ∈ lw_tbl := List.mem_append_right _ (List.mem_append_left _ (List.mem_of_getElem? h))
theorem mt2 {w : Cond} (i : Nat) (h : tables_1_2[i]? = some w) : w ∈ lw_tbl := List.mem_append_right _ (List.mem_append_right _ (List.mem_append_left _ (List.mem_of_getElem? h)))
theorem mt3 {w : Cond} (i : Nat) (h : tables_1_3[i]? = some w) : w ∈ lw_tbl := List.mem_append_right _ (List.mem_append_right _ (List.mem_append_right _ (List.mem_append_left _ (List.mem_of_getElem? h))))
theorem mt4 {w : Cond} (i : Nat) (h : tables_1_4[i]? = some w) : w ∈ lw_tbl := List.mem_append_right _ (List.mem_append_right _ (List.mem_append_right _ (List.mem_append_right _ (List.mem_append_left _ (List.mem_of_getElem? h)))))
theorem mt5 {w : Cond} (i : Nat) (h : tables_1_5[i]? = some w) : w ∈ lw_tbl := List.mem_append_right _ (List.mem_append_right _ (List.mem_append_right _ (List.mem_append_right _ (List.mem_append_right _ (List.mem_append_left _ (List.mem_of_getElem? h))))))
theorem mt6 {w : Cond} (i : Nat) (h : tables_1_6[i]? = some w) : w ∈ lw_tbl := List.mem_append_right _ (List.mem_append_right _ (List.mem_append_right _ (List.mem_append_right _ (List.mem_append_right _ (List.mem_append_right _ (List.mem_of_getElem? h))))))
theorem mp {w : Cond} (i : Nat) (h : (k2_sels lw_privs)[i]? = some w) (g : goodWord w = true) : w ∈ tsG := tsG_of (List.mem_append_left _ (List.mem_of_getElem? h)) g
abbrev mX8_init : aM := (yX8_init, cX8_init, 1, none)
set_option maxRecDepth 20000 in
theorem kX8_init : cOK mX8_init 0 := ⟨(tsG_of (mt1 82 rfl) rfl), (tsG_of (mt1 4 rfl) rfl), by decide +kernel, by decide⟩
abbrev mX0_init : aM := (yX0_init, cX0_init, 1, none)
set_option maxRecDepth 20000 in
theorem kX0_init : cOK mX0_init 0 := ⟨(tsG_of (mt1 228 rfl) rfl), (tsG_of (mt1 8 rfl) rfl), by decide +kernel, by decide⟩
abbrev mX9_isSplit : aM := (yX9_isSplit, cX9_isSplit, 1, (some .boolean))
set_option maxRecDepth 20000 in
theorem kX9_isSplit : cOK mX9_isSplit 0 := ⟨(tsG_of (mt3 112 rfl) rfl), (tsG_of (mt1 15 rfl) rfl), by decide +kernel, by decide⟩
abbrev mX9_chairAlone : aM := (yX9_chairAlone, cX9_chairAlone, 1, (some .int))
set_option maxRecDepth 20000 in
theorem kX9_chairAlone : cOK mX9_chairAlone 0 := ⟨(tsG_of (mt3 152 rfl) rfl), (tsG_of (mt1 15 rfl) rfl), by decide +kernel, by decide⟩
abbrev mX11_isIn : aM := (yX11_isIn, cX11_isIn, 2, (some .boolean))
set_option maxRecDepth 20000 in
theorem kX11_isIn : cOK mX11_isIn 2 := ⟨(tsG_of (mt3 74 rfl) rfl), (tsG_of (mt1 1 rfl) rfl), by decide +kernel, by decide⟩
abbrev mX0_listSuspects : aM := (yX0_listSuspects, cX0_listSuspects, 4, none)
set_option maxRecDepth 20000 in
theorem kX0_listSuspects : cOK mX0_listSuspects 1 := ⟨(tsG_of (mt4 24 rfl) rfl), (tsG_of (mt1 8 rfl) rfl), by decide +kernel, by decide⟩
abbrev mX9_choices : aM := (yX9_choices, cX9_choices, 1, (some .int))
set_option maxRecDepth 20000 in
theorem kX9_choices : cOK mX9_choices 0 := ⟨(tsG_of (mt3 108 rfl) rfl), (tsG_of (mt1 15 rfl) rfl), by decide +kernel, by decide⟩
abbrev mX9_firstOf : aM := (yX9_firstOf, cX9_firstOf, 2, (some .int))
set_option maxRecDepth 20000 in
theorem kX9_firstOf : cOK mX9_firstOf 1 := ⟨(tsG_of (mt3 120 rfl) rfl), (tsG_of (mt1 15 rfl) rfl), by decide +kernel, by decide⟩
abbrev mX9_secondOf : aM := (yX9_secondOf, cX9_secondOf, 2, (some .int))
set_option maxRecDepth 20000 in
theorem kX9_secondOf : cOK mX9_secondOf 1 := ⟨(tsG_of (mt3 126 rfl) rfl), (tsG_of (mt1 15 rfl) rfl), by decide +kernel, by decide⟩
abbrev mX9_has : aM := (yX9_has, cX9_has, 2, (some .boolean))
set_option maxRecDepth 20000 in
theorem kX9_has : cOK mX9_has 1 := ⟨(tsG_of (mt3 116 rfl) rfl), (tsG_of (mt1 15 rfl) rfl), by decide +kernel, by decide⟩
abbrev mX8_stands : aM := (yX8_stands, cX8_stands, 5, (some .boolean))
set_option maxRecDepth 20000 in
theorem kX8_stands : cOK mX8_stands 3 := ⟨(tsG_of (mt3 210 rfl) rfl), (tsG_of (mt1 4 rfl) rfl), by decide +kernel, by decide⟩
abbrev mX1_engaged : aM := (yX1_engaged, cX1_engaged, 5, (some .int))
set_option maxRecDepth 20000 in
theorem kX1_engaged : cOK mX1_engaged 2 := ⟨(tsG_of (mt3 188 rfl) rfl), (tsG_of (mt1 3 rfl) rfl), by decide +kernel, by decide⟩
abbrev mX8_freeAt : aM := (yX8_freeAt, cX8_freeAt, 5, (some .int))
set_option maxRecDepth 20000 in
theorem kX8_freeAt : cOK mX8_freeAt 4 := ⟨(tsG_of (mt3 184 rfl) rfl), (tsG_of (mt1 4 rfl) rfl), by decide +kernel, by decide⟩
abbrev mX8_preferSecond : aM := (yX8_preferSecond, cX8_preferSecond, 5, (some .int))
set_option maxRecDepth 20000 in
theorem kX8_preferSecond : cOK mX8_preferSecond 2 := ⟨(tsG_of (mt3 193 rfl) rfl), (tsG_of (mt1 4 rfl) rfl), by decide +kernel, by decide⟩
abbrev mX8_seat : aM := (yX8_seat, cX8_seat, 7, none)
set_option maxRecDepth 20000 in
theorem kX8_seat : cOK mX8_seat 4 := ⟨(tsG_of (mt3 179 rfl) rfl), (tsG_of (mt1 4 rfl) rfl), by decide +kernel, by decide⟩
abbrev mX0_noteHindered : aM := (yX0_noteHindered, cX0_noteHindered, 6, none)
set_option maxRecDepth 20000 in
theorem kX0_noteHindered : cOK mX0_noteHindered 2 := ⟨(tsG_of (mt4 33 rfl) rfl), (tsG_of (mt1 8 rfl) rfl), by decide +kernel, by decide⟩
abbrev mX0_hinderedBy : aM := (yX0_hinderedBy, cX0_hinderedBy, 4, (some .int))
set_option maxRecDepth 20000 in
theorem kX0_hinderedBy : cOK mX0_hinderedBy 1 := ⟨(tsG_of (mt4 41 rfl) rfl), (tsG_of (mt1 8 rfl) rfl), by decide +kernel, by decide⟩
abbrev mJ6_bitCount_0f7a4 : aM := (yJ6_bitCount_0f7a4, cJ6_bitCount_0f7a4, 1, (some .int))
set_option maxRecDepth 20000 in
theorem kJ6_bitCount_0f7a4 : cOK mJ6_bitCount_0f7a4 1 := ⟨(tsG_of (mt4 44 rfl) rfl), (tsG_of (mt1 16 rfl) rfl), by decide +kernel, by decide⟩
abbrev mX0_personsOf : aM := (yX0_personsOf, cX0_personsOf, 4, (some .int))
set_option maxRecDepth 20000 in
theorem kX0_personsOf : cOK mX0_personsOf 1 := ⟨(tsG_of (mt4 51 rfl) rfl), (tsG_of (mt1 8 rfl) rfl), by decide +kernel, by decide⟩
abbrev mX0_leastSet : aM := (yX0_leastSet, cX0_leastSet, 4, (some .int))
set_option maxRecDepth 20000 in
theorem kX0_leastSet : cOK mX0_leastSet 1 := ⟨(tsG_of (mt4 37 rfl) rfl), (tsG_of (mt1 8 rfl) rfl), by decide +kernel, by decide⟩
abbrev mX0_find : aM := (yX0_find, cX0_find, 6, (some .int))
set_option maxRecDepth 20000 in
theorem kX0_find : cOK mX0_find 3 := ⟨(tsG_of (mt4 20 rfl) rfl), (tsG_of (mt1 8 rfl) rfl), by decide +kernel, by decide⟩
abbrev mX1_init : aM := (yX1_init, cX1_init, 1, none)
set_option maxRecDepth 20000 in
theorem kX1_init : cOK mX1_init 0 := ⟨(tsG_of (mt1 58 rfl) rfl), (tsG_of (mt1 3 rfl) rfl), by decide +kernel, by decide⟩
abbrev mJ7_fill_53178 : aM := (yJ7_fill_53178, cJ7_fill_53178, 4, none)
set_option maxRecDepth 20000 in
theorem kJ7_fill_53178 : cOK mJ7_fill_53178 2 := ⟨(tsG_of (mt3 140 rfl) rfl), (tsG_of (mt1 13 rfl) rfl), by decide +kernel, by decide⟩
abbrev mX1_clear : aM := (yX1_clear, cX1_clear, 1, none)
set_option maxRecDepth 20000 in
theorem kX1_clear : cOK mX1_clear 0 := ⟨(tsG_of (mt3 137 rfl) rfl), (tsG_of (mt1 3 rfl) rfl), by decide +kernel, by decide⟩
abbrev mX1_add : aM := (yX1_add, cX1_add, 4, none)
set_option maxRecDepth 20000 in
theorem kX1_add : cOK mX1_add 3 := ⟨(tsG_of (mt3 202 rfl) rfl), (tsG_of (mt1 3 rfl) rfl), by decide +kernel, by decide⟩
abbrev mX1_put : aM := (yX1_put, cX1_put, 4, none)
set_option maxRecDepth 20000 in
theorem kX1_put : cOK mX1_put 3 := ⟨(tsG_of (mt3 198 rfl) rfl), (tsG_of (mt1 3 rfl) rfl), by decide +kernel, by decide⟩
abbrev mX2_init : aM := (yX2_init, cX2_init, 1, none)
set_option maxRecDepth 20000 in
theorem kX2_init : cOK mX2_init 0 := ⟨(tsG_of (mt1 121 rfl) rfl), (tsG_of (mt1 6 rfl) rfl), by decide +kernel, by decide⟩
abbrev mX2_begin : aM := (yX2_begin, cX2_begin, 2, none)
set_option maxRecDepth 20000 in
theorem kX2_begin : cOK mX2_begin 1 := ⟨(tsG_of (mt3 237 rfl) rfl), (tsG_of (mt1 6 rfl) rfl), by decide +kernel, by decide⟩
abbrev mX2_bringGreatest : aM := (yX2_bringGreatest, cX2_bringGreatest, 5, none)
set_option maxRecDepth 20000 in
theorem kX2_bringGreatest : cOK mX2_bringGreatest 2 := ⟨(tsG_of (mt4 75 rfl) rfl), (tsG_of (mt1 6 rfl) rfl), by decide +kernel, by decide⟩
abbrev mX2_isBetter : aM := (yX2_isBetter, cX2_isBetter, 3, (some .boolean))
set_option maxRecDepth 20000 in
theorem kX2_isBetter : cOK mX2_isBetter 1 := ⟨(tsG_of (mt4 68 rfl) rfl), (tsG_of (mt1 6 rfl) rfl), by decide +kernel, by decide⟩
abbrev mX2_keep : aM := (yX2_keep, cX2_keep, 3, none)
set_option maxRecDepth 20000 in
theorem kX2_keep : cOK mX2_keep 1 := ⟨(tsG_of (mt4 79 rfl) rfl), (tsG_of (mt1 6 rfl) rfl), by decide +kernel, by decide⟩
abbrev mX2_greatest : aM := (yX2_greatest, cX2_greatest, 1, (some .int))
set_option maxRecDepth 20000 in
theorem kX2_greatest : cOK mX2_greatest 0 := ⟨(tsG_of (mt4 92 rfl) rfl), (tsG_of (mt1 6 rfl) rfl), by decide +kernel, by decide⟩
abbrev mX3_init : aM := (yX3_init, cX3_init, 6, none)
set_option maxRecDepth 20000 in
theorem kX3_init : cOK mX3_init 5 := ⟨(tsG_of (mt2 216 rfl) rfl), (tsG_of (mt1 14 rfl) rfl), by decide +kernel, by decide⟩
abbrev mX4_init : aM := (yX4_init, cX4_init, 2, none)
set_option maxRecDepth 20000 in
theorem kX4_init : cOK mX4_init 1 := ⟨(tsG_of (mt2 58 rfl) rfl), (tsG_of (mt1 10 rfl) rfl), by decide +kernel, by decide⟩
abbrev mX4_offsetAt : aM := (yX4_offsetAt, cX4_offsetAt, 6, (some .int))
set_option maxRecDepth 20000 in
theorem kX4_offsetAt : cOK mX4_offsetAt 2 := ⟨(tsG_of (mt3 35 rfl) rfl), (tsG_of (mt1 10 rfl) rfl), by decide +kernel, by decide⟩
abbrev mX4_celebrates : aM := (yX4_celebrates, cX4_celebrates, 4, (some .boolean))
set_option maxRecDepth 20000 in
theorem kX4_celebrates : cOK mX4_celebrates 2 := ⟨(tsG_of (mt3 78 rfl) rfl), (tsG_of (mt1 10 rfl) rfl), by decide +kernel, by decide⟩
abbrev mX5_init : aM := (yX5_init, cX5_init, 2, none)
set_option maxRecDepth 20000 in
theorem kX5_init : cOK mX5_init 0 := ⟨(tsG_of (mt1 179 rfl) rfl), (tsG_of (mt1 7 rfl) rfl), by decide +kernel, by decide⟩
abbrev mX5_begin : aM := (yX5_begin, cX5_begin, 2, none)
set_option maxRecDepth 20000 in
theorem kX5_begin : cOK mX5_begin 1 := ⟨(tsG_of (mt4 105 rfl) rfl), (tsG_of (mt1 7 rfl) rfl), by decide +kernel, by decide⟩
abbrev mX5_add : aM := (yX5_add, cX5_add, 4, none)
set_option maxRecDepth 20000 in
theorem kX5_add : cOK mX5_add 3 := ⟨(tsG_of (mt4 113 rfl) rfl), (tsG_of (mt1 7 rfl) rfl), by decide +kernel, by decide⟩
abbrev mX8_isBehindChain : aM := (yX8_isBehindChain, cX8_isBehindChain, 5, (some .boolean))
set_option maxRecDepth 20000 in
theorem kX8_isBehindChain : cOK mX8_isBehindChain 3 := ⟨(tsG_of (mt3 220 rfl) rfl), (tsG_of (mt1 4 rfl) rfl), by decide +kernel, by decide⟩
abbrev mX8_suits : aM := (yX8_suits, cX8_suits, 7, (some .boolean))
set_option maxRecDepth 20000 in
theorem kX8_suits : cOK mX8_suits 4 := ⟨(tsG_of (mt3 207 rfl) rfl), (tsG_of (mt1 4 rfl) rfl), by decide +kernel, by decide⟩
abbrev mX8_priceFor : aM := (yX8_priceFor, cX8_priceFor, 4, (some .int))
set_option maxRecDepth 20000 in
theorem kX8_priceFor : cOK mX8_priceFor 2 := ⟨(tsG_of (mt4 16 rfl) rfl), (tsG_of (mt1 4 rfl) rfl), by decide +kernel, by decide⟩
abbrev mX5_charge : aM := (yX5_charge, cX5_charge, 4, none)
set_option maxRecDepth 20000 in
theorem kX5_charge : cOK mX5_charge 2 := ⟨(tsG_of (mt4 135 rfl) rfl), (tsG_of (mt1 7 rfl) rfl), by decide +kernel, by decide⟩
abbrev mX5_searchBehind : aM := (yX5_searchBehind, cX5_searchBehind, 4, none)
set_option maxRecDepth 20000 in
theorem kX5_searchBehind : cOK mX5_searchBehind 2 := ⟨(tsG_of (mt4 130 rfl) rfl), (tsG_of (mt1 7 rfl) rfl), by decide +kernel, by decide⟩
abbrev mX5_search : aM := (yX5_search, cX5_search, 5, none)
set_option maxRecDepth 20000 in
theorem kX5_search : cOK mX5_search 2 := ⟨(tsG_of (mt4 121 rfl) rfl), (tsG_of (mt1 7 rfl) rfl), by decide +kernel, by decide⟩
abbrev mX5_findBest : aM := (yX5_findBest, cX5_findBest, 2, (some .int))
set_option maxRecDepth 20000 in
theorem kX5_findBest : cOK mX5_findBest 0 := ⟨(tsG_of (mt4 117 rfl) rfl), (tsG_of (mt1 7 rfl) rfl), by decide +kernel, by decide⟩
abbrev mX5_settle : aM := (yX5_settle, cX5_settle, 3, none)
set_option maxRecDepth 20000 in
theorem kX5_settle : cOK mX5_settle 1 := ⟨(tsG_of (mt4 140 rfl) rfl), (tsG_of (mt1 7 rfl) rfl), by decide +kernel, by decide⟩
abbrev mX6_init : aM := (yX6_init, cX6_init, 3, none)
set_option maxRecDepth 20000 in
theorem kX6_init : cOK mX6_init 2 := ⟨(tsG_of (mt2 83 rfl) rfl), (tsG_of (mt1 11 rfl) rfl), by decide +kernel, by decide⟩
abbrev mJ7_fill_031fb : aM := (yJ7_fill_031fb, cJ7_fill_031fb, 4, none)
set_option maxRecDepth 20000 in
theorem kJ7_fill_031fb : cOK mJ7_fill_031fb 2 := ⟨(tsG_of (mt2 123 rfl) rfl), (tsG_of (mt1 13 rfl) rfl), by decide +kernel, by decide⟩
abbrev mX6_clearCells : aM := (yX6_clearCells, cX6_clearCells, 2, none)
set_option maxRecDepth 20000 in
theorem kX6_clearCells : cOK mX6_clearCells 1 := ⟨(tsG_of (mt2 120 rfl) rfl), (tsG_of (mt1 11 rfl) rfl), by decide +kernel, by decide⟩
abbrev mJ9_floorMod_7cf53 : aM := (yJ9_floorMod_7cf53, cJ9_floorMod_7cf53, 3, (some .int))
set_option maxRecDepth 20000 in
theorem kJ9_floorMod_7cf53 : cOK mJ9_floorMod_7cf53 2 := ⟨(tsG_of (mt3 41 rfl) rfl), (tsG_of (mt1 12 rfl) rfl), by decide +kernel, by decide⟩
abbrev mX6_cellAt : aM := (yX6_cellAt, cX6_cellAt, 2, (some .int))
set_option maxRecDepth 20000 in
theorem kX6_cellAt : cOK mX6_cellAt 1 := ⟨(tsG_of (mt3 69 rfl) rfl), (tsG_of (mt1 11 rfl) rfl), by decide +kernel, by decide⟩
abbrev mX6_spanAt : aM := (yX6_spanAt, cX6_spanAt, 4, (some (.object "ClockCall$Fact")))
set_option maxRecDepth 20000 in
theorem kX6_spanAt : cOK mX6_spanAt 2 := ⟨(tsG_of (mt3 82 rfl) rfl), (tsG_of (mt1 11 rfl) rfl), by decide +kernel, by decide⟩
abbrev mJ9_floorDiv_7cf53 : aM := (yJ9_floorDiv_7cf53, cJ9_floorDiv_7cf53, 3, (some .int))
set_option maxRecDepth 20000 in
theorem kJ9_floorDiv_7cf53 : cOK mJ9_floorDiv_7cf53 2 := ⟨(tsG_of (mt3 38 rfl) rfl), (tsG_of (mt1 12 rfl) rfl), by decide +kernel, by decide⟩
abbrev mX6_hindranceAt : aM := (yX6_hindranceAt, cX6_hindranceAt, 5, (some .int))
set_option maxRecDepth 20000 in
theorem kX6_hindranceAt : cOK mX6_hindranceAt 2 := ⟨(tsG_of (mt3 63 rfl) rfl), (tsG_of (mt1 11 rfl) rfl), by decide +kernel, by decide⟩
abbrev mX6_hindrance : aM := (yX6_hindrance, cX6_hindrance, 6, (some .int))
set_option maxRecDepth 20000 in
theorem kX6_hindrance : cOK mX6_hindrance 3 := ⟨(tsG_of (mt3 59 rfl) rfl), (tsG_of (mt1 11 rfl) rfl), by decide +kernel, by decide⟩
abbrev mX6_price : aM := (yX6_price, cX6_price, 6, (some .int))
set_option maxRecDepth 20000 in
theorem kX6_price : cOK mX6_price 3 := ⟨(tsG_of (mt3 90 rfl) rfl), (tsG_of (mt1 11 rfl) rfl), by decide +kernel, by decide⟩
abbrev mX7_init : aM := (yX7_init, cX7_init, 1, none)
set_option maxRecDepth 20000 in
theorem kX7_init : cOK mX7_init 0 := ⟨(tsG_of (mt1 115 rfl) rfl), (tsG_of (mt1 5 rfl) rfl), by decide +kernel, by decide⟩
abbrev mX7_begin : aM := (yX7_begin, cX7_begin, 3, none)
set_option maxRecDepth 20000 in
theorem kX7_begin : cOK mX7_begin 2 := ⟨(tsG_of (mt3 232 rfl) rfl), (tsG_of (mt1 5 rfl) rfl), by decide +kernel, by decide⟩
abbrev mX7_priceAt : aM := (yX7_priceAt, cX7_priceAt, 2, (some .int))
set_option maxRecDepth 20000 in
theorem kX7_priceAt : cOK mX7_priceAt 2 := ⟨(tsG_of (mt4 12 rfl) rfl), (tsG_of (mt1 5 rfl) rfl), by decide +kernel, by decide⟩
abbrev mX7_rate : aM := (yX7_rate, cX7_rate, 7, (some .boolean))
set_option maxRecDepth 20000 in
theorem kX7_rate : cOK mX7_rate 4 := ⟨(tsG_of (mt4 7 rfl) rfl), (tsG_of (mt1 5 rfl) rfl), by decide +kernel, by decide⟩
abbrev mX7_leastAt : aM := (yX7_leastAt, cX7_leastAt, 6, (some .int))
set_option maxRecDepth 20000 in
theorem kX7_leastAt : cOK mX7_leastAt 2 := ⟨(tsG_of (mt4 59 rfl) rfl), (tsG_of (mt1 5 rfl) rfl), by decide +kernel, by decide⟩
abbrev mX7_charge : aM := (yX7_charge, cX7_charge, 4, none)
set_option maxRecDepth 20000 in
theorem kX7_charge : cOK mX7_charge 2 := ⟨(tsG_of (mt4 88 rfl) rfl), (tsG_of (mt1 5 rfl) rfl), by decide +kernel, by decide⟩
abbrev mX7_searchBehind : aM := (yX7_searchBehind, cX7_searchBehind, 3, none)
set_option maxRecDepth 20000 in
theorem kX7_searchBehind : cOK mX7_searchBehind 2 := ⟨(tsG_of (mt4 84 rfl) rfl), (tsG_of (mt1 5 rfl) rfl), by decide +kernel, by decide⟩
abbrev mX7_search : aM := (yX7_search, cX7_search, 3, none)
set_option maxRecDepth 20000 in
theorem kX7_search : cOK mX7_search 1 := ⟨(tsG_of (mt4 64 rfl) rfl), (tsG_of (mt1 5 rfl) rfl), by decide +kernel, by decide⟩
abbrev mX7_findBest : aM := (yX7_findBest, cX7_findBest, 3, none)
set_option maxRecDepth 20000 in
theorem kX7_findBest : cOK mX7_findBest 0 := ⟨(tsG_of (mt4 55 rfl) rfl), (tsG_of (mt1 5 rfl) rfl), by decide +kernel, by decide⟩
abbrev mX9_init : aM := (yX9_init, cX9_init, 6, none)
set_option maxRecDepth 20000 in
theorem kX9_init : cOK mX9_init 4 := ⟨(tsG_of (mt2 139 rfl) rfl), (tsG_of (mt1 15 rfl) rfl), by decide +kernel, by decide⟩
abbrev mX9_mostWeeks : aM := (yX9_mostWeeks, cX9_mostWeeks, 1, (some .int))
set_option maxRecDepth 20000 in
theorem kX9_mostWeeks : cOK mX9_mostWeeks 0 := ⟨(tsG_of (mt3 228 rfl) rfl), (tsG_of (mt1 15 rfl) rfl), by decide +kernel, by decide⟩
abbrev mX9_choiceOf : aM := (yX9_choiceOf, cX9_choiceOf, 4, (some .int))
set_option maxRecDepth 20000 in
theorem kX9_choiceOf : cOK mX9_choiceOf 2 := ⟨(tsG_of (mt3 104 rfl) rfl), (tsG_of (mt1 15 rfl) rfl), by decide +kernel, by decide⟩
abbrev mX9_optionsOf : aM := (yX9_optionsOf, cX9_optionsOf, 2, (some .int))
set_option maxRecDepth 20000 in
theorem kX9_optionsOf : cOK mX9_optionsOf 1 := ⟨(tsG_of (mt3 160 rfl) rfl), (tsG_of (mt1 15 rfl) rfl), by decide +kernel, by decide⟩
abbrev mX9_allOptions : aM := (yX9_allOptions, cX9_allOptions, 1, (some .int))
set_option maxRecDepth 20000 in
theorem kX9_allOptions : cOK mX9_allOptions 0 := ⟨(tsG_of (mt4 3 rfl) rfl), (tsG_of (mt1 15 rfl) rfl), by decide +kernel, by decide⟩
abbrev mX9_startOf : aM := (yX9_startOf, cX9_startOf, 3, (some .int))
set_option maxRecDepth 20000 in
theorem kX9_startOf : cOK mX9_startOf 2 := ⟨(tsG_of (mt3 169 rfl) rfl), (tsG_of (mt1 15 rfl) rfl), by decide +kernel, by decide⟩
abbrev mX9_giveRole : aM := (yX9_giveRole, cX9_giveRole, 4, none)
set_option maxRecDepth 20000 in
theorem kX9_giveRole : cOK mX9_giveRole 2 := ⟨(tsG_of (mt2 196 rfl) rfl), (tsG_of (mt1 15 rfl) rfl), by decide +kernel, by decide⟩
abbrev mX9_withRole : aM := (yX9_withRole, cX9_withRole, 3, (some .int))
set_option maxRecDepth 20000 in
theorem kX9_withRole : cOK mX9_withRole 0 := ⟨(tsG_of (mt3 148 rfl) rfl), (tsG_of (mt1 15 rfl) rfl), by decide +kernel, by decide⟩
abbrev mX9_everyone : aM := (yX9_everyone, cX9_everyone, 1, (some .int))
set_option maxRecDepth 20000 in
theorem kX9_everyone : cOK mX9_everyone 0 := ⟨(tsG_of (mt3 144 rfl) rfl), (tsG_of (mt1 15 rfl) rfl), by decide +kernel, by decide⟩
abbrev mX9_hasCant : aM := (yX9_hasCant, cX9_hasCant, 5, (some .boolean))
set_option maxRecDepth 20000 in
theorem kX9_hasCant : cOK mX9_hasCant 3 := ⟨(tsG_of (mt3 173 rfl) rfl), (tsG_of (mt1 15 rfl) rfl), by decide +kernel, by decide⟩
abbrev mX10_init : aM := (yX10_init, cX10_init, 1, none)
set_option maxRecDepth 20000 in
theorem kX10_init : cOK mX10_init 0 := ⟨(tsG_of (mt1 37 rfl) rfl), (tsG_of (mt1 2 rfl) rfl), by decide +kernel, by decide⟩
abbrev mX10_fill : aM := (yX10_fill, cX10_fill, 12, none)
set_option maxRecDepth 20000 in
theorem kX10_fill : cOK mX10_fill 6 := ⟨(tsG_of (mt3 164 rfl) rfl), (tsG_of (mt1 2 rfl) rfl), by decide +kernel, by decide⟩
abbrev mX11_init : aM := (yX11_init, cX11_init, 2, none)
set_option maxRecDepth 20000 in
theorem kX11_init : cOK mX11_init 0 := ⟨(tsG_of (mt1 22 rfl) rfl), (tsG_of (mt1 1 rfl) rfl), by decide +kernel, by decide⟩
abbrev mX11_isOffset : aM := (yX11_isOffset, cX11_isOffset, 1, (some .boolean))
set_option maxRecDepth 20000 in
theorem kX11_isOffset : cOK mX11_isOffset 1 := ⟨(tsG_of (mt2 54 rfl) rfl), (tsG_of (mt1 1 rfl) rfl), by decide +kernel, by decide⟩
abbrev mX11_land : aM := (yX11_land, cX11_land, 2, (some .int))
set_option maxRecDepth 20000 in
theorem kX11_land : cOK mX11_land 1 := ⟨(tsG_of (mt2 51 rfl) rfl), (tsG_of (mt1 1 rfl) rfl), by decide +kernel, by decide⟩
abbrev mX11_landAt : aM := (yX11_landAt, cX11_landAt, 2, (some (.object "ClockCall$Land")))
set_option maxRecDepth 20000 in
theorem kX11_landAt : cOK mX11_landAt 1 := ⟨(tsG_of (mt2 79 rfl) rfl), (tsG_of (mt1 1 rfl) rfl), by decide +kernel, by decide⟩
abbrev mX11_person : aM := (yX11_person, cX11_person, 4, (some .int))
set_option maxRecDepth 20000 in
theorem kX11_person : cOK mX11_person 2 := ⟨(tsG_of (mt2 75 rfl) rfl), (tsG_of (mt1 1 rfl) rfl), by decide +kernel, by decide⟩
abbrev mX11_personAt : aM := (yX11_personAt, cX11_personAt, 2, (some (.object "ClockCall$Person")))
set_option maxRecDepth 20000 in
theorem kX11_personAt : cOK mX11_personAt 1 := ⟨(tsG_of (mt2 113 rfl) rfl), (tsG_of (mt1 1 rfl) rfl), by decide +kernel, by decide⟩
abbrev mX11_row : aM := (yX11_row, cX11_row, 4, (some .boolean))
set_option maxRecDepth 20000 in
theorem kX11_row : cOK mX11_row 2 := ⟨(tsG_of (mt2 109 rfl) rfl), (tsG_of (mt1 1 rfl) rfl), by decide +kernel, by decide⟩
abbrev mX11_cell : aM := (yX11_cell, cX11_cell, 5, (some .boolean))
set_option maxRecDepth 20000 in
theorem kX11_cell : cOK mX11_cell 3 := ⟨(tsG_of (mt2 127 rfl) rfl), (tsG_of (mt1 1 rfl) rfl), by decide +kernel, by decide⟩
abbrev mX11_seriesAt : aM := (yX11_seriesAt, cX11_seriesAt, 2, (some (.object "ClockCall$Series")))
set_option maxRecDepth 20000 in
theorem kX11_seriesAt : cOK mX11_seriesAt 1 := ⟨(tsG_of (mt2 135 rfl) rfl), (tsG_of (mt1 1 rfl) rfl), by decide +kernel, by decide⟩
abbrev mX11_series : aM := (yX11_series, cX11_series, 7, (some .int))
set_option maxRecDepth 20000 in
theorem kX11_series : cOK mX11_series 3 := ⟨(tsG_of (mt2 131 rfl) rfl), (tsG_of (mt1 1 rfl) rfl), by decide +kernel, by decide⟩
abbrev mX11_option : aM := (yX11_option, cX11_option, 4, (some .int))
set_option maxRecDepth 20000 in
theorem kX11_option : cOK mX11_option 2 := ⟨(tsG_of (mt2 188 rfl) rfl), (tsG_of (mt1 1 rfl) rfl), by decide +kernel, by decide⟩
abbrev mX11_role : aM := (yX11_role, cX11_role, 5, (some .boolean))
set_option maxRecDepth 20000 in
theorem kX11_role : cOK mX11_role 3 := ⟨(tsG_of (mt2 192 rfl) rfl), (tsG_of (mt1 1 rfl) rfl), by decide +kernel, by decide⟩
abbrev mX11_meetingCount : aM := (yX11_meetingCount, cX11_meetingCount, 4, (some .int))
set_option maxRecDepth 20000 in
theorem kX11_meetingCount : cOK mX11_meetingCount 0 := ⟨(tsG_of (mt2 204 rfl) rfl), (tsG_of (mt1 1 rfl) rfl), by decide +kernel, by decide⟩
abbrev mX11_count : aM := (yX11_count, cX11_count, 2, (some .int))
set_option maxRecDepth 20000 in
theorem kX11_count : cOK mX11_count 1 := ⟨(tsG_of (mt2 200 rfl) rfl), (tsG_of (mt1 1 rfl) rfl), by decide +kernel, by decide⟩
abbrev mX11_isSlot : aM := (yX11_isSlot, cX11_isSlot, 1, (some .boolean))
set_option maxRecDepth 20000 in
theorem kX11_isSlot : cOK mX11_isSlot 1 := ⟨(tsG_of (mt2 211 rfl) rfl), (tsG_of (mt1 1 rfl) rfl), by decide +kernel, by decide⟩
abbrev mX11_change : aM := (yX11_change, cX11_change, 5, (some .int))
set_option maxRecDepth 20000 in
theorem kX11_change : cOK mX11_change 3 := ⟨(tsG_of (mt2 208 rfl) rfl), (tsG_of (mt1 1 rfl) rfl), by decide +kernel, by decide⟩
abbrev mX11_feast : aM := (yX11_feast, cX11_feast, 4, (some .int))
set_option maxRecDepth 20000 in
theorem kX11_feast : cOK mX11_feast 2 := ⟨(tsG_of (mt3 11 rfl) rfl), (tsG_of (mt1 1 rfl) rfl), by decide +kernel, by decide⟩
abbrev mX11_busy : aM := (yX11_busy, cX11_busy, 6, (some .int))
set_option maxRecDepth 20000 in
theorem kX11_busy : cOK mX11_busy 4 := ⟨(tsG_of (mt3 15 rfl) rfl), (tsG_of (mt1 1 rfl) rfl), by decide +kernel, by decide⟩
abbrev mX11_isWeek : aM := (yX11_isWeek, cX11_isWeek, 1, (some .boolean))
set_option maxRecDepth 20000 in
theorem kX11_isWeek : cOK mX11_isWeek 1 := ⟨(tsG_of (mt3 22 rfl) rfl), (tsG_of (mt1 1 rfl) rfl), by decide +kernel, by decide⟩
abbrev mX11_cant : aM := (yX11_cant, cX11_cant, 5, (some .int))
set_option maxRecDepth 20000 in
theorem kX11_cant : cOK mX11_cant 3 := ⟨(tsG_of (mt3 19 rfl) rfl), (tsG_of (mt1 1 rfl) rfl), by decide +kernel, by decide⟩
abbrev mX11_isKnown : aM := (yX11_isKnown, cX11_isKnown, 2, (some .boolean))
set_option maxRecDepth 20000 in
theorem kX11_isKnown : cOK mX11_isKnown 1 := ⟨(tsG_of (mt3 30 rfl) rfl), (tsG_of (mt1 1 rfl) rfl), by decide +kernel, by decide⟩
abbrev mX11_local : aM := (yX11_local, cX11_local, 8, (some .int))
set_option maxRecDepth 20000 in
theorem kX11_local : cOK mX11_local 4 := ⟨(tsG_of (mt3 26 rfl) rfl), (tsG_of (mt1 1 rfl) rfl), by decide +kernel, by decide⟩
abbrev mX11_when : aM := (yX11_when, cX11_when, 15, (some .int))
set_option maxRecDepth 20000 in
theorem kX11_when : cOK mX11_when 5 := ⟨(tsG_of (mt3 45 rfl) rfl), (tsG_of (mt1 1 rfl) rfl), by decide +kernel, by decide⟩
abbrev mX11_isStretch : aM := (yX11_isStretch, cX11_isStretch, 2, (some .boolean))
set_option maxRecDepth 20000 in
theorem kX11_isStretch : cOK mX11_isStretch 2 := ⟨(tsG_of (mt3 55 rfl) rfl), (tsG_of (mt1 1 rfl) rfl), by decide +kernel, by decide⟩
abbrev mX11_can : aM := (yX11_can, cX11_can, 6, (some .int))
set_option maxRecDepth 20000 in
theorem kX11_can : cOK mX11_can 4 := ⟨(tsG_of (mt3 52 rfl) rfl), (tsG_of (mt1 1 rfl) rfl), by decide +kernel, by decide⟩
abbrev mX11_cost : aM := (yX11_cost, cX11_cost, 6, (some .int))
set_option maxRecDepth 20000 in
theorem kX11_cost : cOK mX11_cost 4 := ⟨(tsG_of (mt3 86 rfl) rfl), (tsG_of (mt1 1 rfl) rfl), by decide +kernel, by decide⟩
abbrev mX11_span : aM := (yX11_span, cX11_span, 6, (some .int))
set_option maxRecDepth 20000 in
theorem kX11_span : cOK mX11_span 3 := ⟨(tsG_of (mt3 95 rfl) rfl), (tsG_of (mt1 1 rfl) rfl), by decide +kernel, by decide⟩
abbrev mX11_seat : aM := (yX11_seat, cX11_seat, 7, (some .boolean))
set_option maxRecDepth 20000 in
theorem kX11_seat : cOK mX11_seat 4 := ⟨(tsG_of (mt3 156 rfl) rfl), (tsG_of (mt1 1 rfl) rfl), by decide +kernel, by decide⟩
abbrev mX11_seatLesser : aM := (yX11_seatLesser, cX11_seatLesser, 5, none)
set_option maxRecDepth 20000 in
theorem kX11_seatLesser : cOK mX11_seatLesser 3 := ⟨(tsG_of (mt3 133 rfl) rfl), (tsG_of (mt1 1 rfl) rfl), by decide +kernel, by decide⟩
abbrev mX11_fits : aM := (yX11_fits, cX11_fits, 9, (some .int))
set_option maxRecDepth 20000 in
theorem kX11_fits : cOK mX11_fits 5 := ⟨(tsG_of (mt3 100 rfl) rfl), (tsG_of (mt1 1 rfl) rfl), by decide +kernel, by decide⟩
abbrev mX11_plan : aM := (yX11_plan, cX11_plan, 9, (some .int))
set_option maxRecDepth 20000 in
theorem kX11_plan : cOK mX11_plan 4 := ⟨(tsG_of (mt3 224 rfl) rfl), (tsG_of (mt1 1 rfl) rfl), by decide +kernel, by decide⟩
abbrev mX11_stuck : aM := (yX11_stuck, cX11_stuck, 4, (some .int))
set_option maxRecDepth 20000 in
theorem kX11_stuck : cOK mX11_stuck 1 := ⟨(tsG_of (mt4 96 rfl) rfl), (tsG_of (mt1 1 rfl) rfl), by decide +kernel, by decide⟩
abbrev mX11_move : aM := (yX11_move, cX11_move, 5, (some .int))
set_option maxRecDepth 20000 in
theorem kX11_move : cOK mX11_move 2 := ⟨(tsG_of (mt4 101 rfl) rfl), (tsG_of (mt1 1 rfl) rfl), by decide +kernel, by decide⟩
abbrev mX11_planned : aM := (yX11_planned, cX11_planned, 7, (some .int))
set_option maxRecDepth 20000 in
theorem kX11_planned : cOK mX11_planned 3 := ⟨(tsG_of (mt4 144 rfl) rfl), (tsG_of (mt1 1 rfl) rfl), by decide +kernel, by decide⟩
abbrev mX11_comes : aM := (yX11_comes, cX11_comes, 7, (some .int))
set_option maxRecDepth 20000 in
theorem kX11_comes : cOK mX11_comes 4 := ⟨(tsG_of (mt4 151 rfl) rfl), (tsG_of (mt1 1 rfl) rfl), by decide +kernel, by decide⟩
abbrev mX11_sum : aM := (yX11_sum, cX11_sum, 6, (some .int))
set_option maxRecDepth 20000 in
theorem kX11_sum : cOK mX11_sum 2 := ⟨(tsG_of (mt4 155 rfl) rfl), (tsG_of (mt1 1 rfl) rfl), by decide +kernel, by decide⟩
abbrev mX11_isShifted : aM := (yX11_isShifted, cX11_isShifted, 8, (some .boolean))
set_option maxRecDepth 20000 in
theorem kX11_isShifted : cOK mX11_isShifted 4 := ⟨(tsG_of (mt4 164 rfl) rfl), (tsG_of (mt1 1 rfl) rfl), by decide +kernel, by decide⟩
abbrev mX11_shifted : aM := (yX11_shifted, cX11_shifted, 8, (some .int))
set_option maxRecDepth 20000 in
theorem kX11_shifted : cOK mX11_shifted 2 := ⟨(tsG_of (mt4 160 rfl) rfl), (tsG_of (mt1 1 rfl) rfl), by decide +kernel, by decide⟩
abbrev mX12_init : aM := (yX12_init, cX12_init, 2, none)
set_option maxRecDepth 20000 in
theorem kX12_init : cOK mX12_init 0 := ⟨(tsG_of (mt4 170 rfl) rfl), (tsG_of (mt1 9 rfl) rfl), by decide +kernel, by decide⟩
abbrev mX12_isLand : aM := (yX12_isLand, cX12_isLand, 2, (some .boolean))
set_option maxRecDepth 20000 in
theorem kX12_isLand : cOK mX12_isLand 1 := ⟨(tsG_of (mt5 76 rfl) rfl), (tsG_of (mt1 9 rfl) rfl), by decide +kernel, by decide⟩
abbrev mX12_isPerson : aM := (yX12_isPerson, cX12_isPerson, 2, (some .boolean))
set_option maxRecDepth 20000 in
theorem kX12_isPerson : cOK mX12_isPerson 1 := ⟨(tsG_of (mt5 84 rfl) rfl), (tsG_of (mt1 9 rfl) rfl), by decide +kernel, by decide⟩
abbrev mX12_isSeries : aM := (yX12_isSeries, cX12_isSeries, 2, (some .boolean))
set_option maxRecDepth 20000 in
theorem kX12_isSeries : cOK mX12_isSeries 1 := ⟨(tsG_of (mt5 112 rfl) rfl), (tsG_of (mt1 9 rfl) rfl), by decide +kernel, by decide⟩
abbrev mX12_isWeek : aM := (yX12_isWeek, cX12_isWeek, 1, (some .boolean))
set_option maxRecDepth 20000 in
theorem kX12_isWeek : cOK mX12_isWeek 1 := ⟨(tsG_of (mt5 115 rfl) rfl), (tsG_of (mt1 9 rfl) rfl), by decide +kernel, by decide⟩
abbrev mX12_isKnown : aM := (yX12_isKnown, cX12_isKnown, 2, (some .boolean))
set_option maxRecDepth 20000 in
theorem kX12_isKnown : cOK mX12_isKnown 1 := ⟨(tsG_of (mt5 123 rfl) rfl), (tsG_of (mt1 9 rfl) rfl), by decide +kernel, by decide⟩
abbrev mX12_isOffset : aM := (yX12_isOffset, cX12_isOffset, 1, (some .boolean))
set_option maxRecDepth 20000 in
theorem kX12_isOffset : cOK mX12_isOffset 1 := ⟨(tsG_of (mt5 68 rfl) rfl), (tsG_of (mt1 9 rfl) rfl), by decide +kernel, by decide⟩
abbrev mX12_land : aM := (yX12_land, cX12_land, 2, (some .int))
set_option maxRecDepth 20000 in
theorem kX12_land : cOK mX12_land 1 := ⟨(tsG_of (mt5 65 rfl) rfl), (tsG_of (mt1 9 rfl) rfl), by decide +kernel, by decide⟩
abbrev mX12_person : aM := (yX12_person, cX12_person, 3, (some .int))
set_option maxRecDepth 20000 in
theorem kX12_person : cOK mX12_person 2 := ⟨(tsG_of (mt5 72 rfl) rfl), (tsG_of (mt1 9 rfl) rfl), by decide +kernel, by decide⟩
abbrev mX12_row : aM := (yX12_row, cX12_row, 4, (some .boolean))
set_option maxRecDepth 20000 in
theorem kX12_row : cOK mX12_row 2 := ⟨(tsG_of (mt5 80 rfl) rfl), (tsG_of (mt1 9 rfl) rfl), by decide +kernel, by decide⟩
abbrev mX12_cell : aM := (yX12_cell, cX12_cell, 4, (some .boolean))
set_option maxRecDepth 20000 in
theorem kX12_cell : cOK mX12_cell 3 := ⟨(tsG_of (mt5 88 rfl) rfl), (tsG_of (mt1 9 rfl) rfl), by decide +kernel, by decide⟩
abbrev mX12_fact : aM := (yX12_fact, cX12_fact, 6, (some .int))
set_option maxRecDepth 20000 in
theorem kX12_fact : cOK mX12_fact 5 := ⟨(tsG_of (mt5 96 rfl) rfl), (tsG_of (mt1 9 rfl) rfl), by decide +kernel, by decide⟩
abbrev mX12_change : aM := (yX12_change, cX12_change, 4, (some .int))
set_option maxRecDepth 20000 in
theorem kX12_change : cOK mX12_change 3 := ⟨(tsG_of (mt5 92 rfl) rfl), (tsG_of (mt1 9 rfl) rfl), by decide +kernel, by decide⟩
abbrev mX12_feast : aM := (yX12_feast, cX12_feast, 3, (some .int))
set_option maxRecDepth 20000 in
theorem kX12_feast : cOK mX12_feast 2 := ⟨(tsG_of (mt5 100 rfl) rfl), (tsG_of (mt1 9 rfl) rfl), by decide +kernel, by decide⟩
abbrev mX12_busy : aM := (yX12_busy, cX12_busy, 5, (some .int))
set_option maxRecDepth 20000 in
theorem kX12_busy : cOK mX12_busy 4 := ⟨(tsG_of (mt5 104 rfl) rfl), (tsG_of (mt1 9 rfl) rfl), by decide +kernel, by decide⟩
abbrev mX12_cant : aM := (yX12_cant, cX12_cant, 4, (some .int))
set_option maxRecDepth 20000 in
theorem kX12_cant : cOK mX12_cant 3 := ⟨(tsG_of (mt5 108 rfl) rfl), (tsG_of (mt1 9 rfl) rfl), by decide +kernel, by decide⟩
abbrev mX12_offsetAt : aM := (yX12_offsetAt, cX12_offsetAt, 6, (some .int))
set_option maxRecDepth 20000 in
theorem kX12_offsetAt : cOK mX12_offsetAt 3 := ⟨(tsG_of (mt5 128 rfl) rfl), (tsG_of (mt1 9 rfl) rfl), by decide +kernel, by decide⟩
abbrev mX12_down : aM := (yX12_down, cX12_down, 3, (some .int))
set_option maxRecDepth 20000 in
theorem kX12_down : cOK mX12_down 2 := ⟨(tsG_of (mt5 131 rfl) rfl), (tsG_of (mt1 9 rfl) rfl), by decide +kernel, by decide⟩
abbrev mX12_local : aM := (yX12_local, cX12_local, 7, (some .int))
set_option maxRecDepth 20000 in
theorem kX12_local : cOK mX12_local 4 := ⟨(tsG_of (mt5 119 rfl) rfl), (tsG_of (mt1 9 rfl) rfl), by decide +kernel, by decide⟩
abbrev mX12_when : aM := (yX12_when, cX12_when, 11, (some .int))
set_option maxRecDepth 20000 in
theorem kX12_when : cOK mX12_when 5 := ⟨(tsG_of (mt5 135 rfl) rfl), (tsG_of (mt1 9 rfl) rfl), by decide +kernel, by decide⟩
abbrev mX12_costAt : aM := (yX12_costAt, cX12_costAt, 3, (some .int))
set_option maxRecDepth 20000 in
theorem kX12_costAt : cOK mX12_costAt 2 := ⟨(tsG_of (mt5 155 rfl) rfl), (tsG_of (mt1 9 rfl) rfl), by decide +kernel, by decide⟩
abbrev mX12_reason : aM := (yX12_reason, cX12_reason, 8, (some .int))
set_option maxRecDepth 20000 in
theorem kX12_reason : cOK mX12_reason 3 := ⟨(tsG_of (mt5 151 rfl) rfl), (tsG_of (mt1 9 rfl) rfl), by decide +kernel, by decide⟩
abbrev mX12_reasons : aM := (yX12_reasons, cX12_reasons, 7, (some .int))
set_option maxRecDepth 20000 in
theorem kX12_reasons : cOK mX12_reasons 4 := ⟨(tsG_of (mt5 147 rfl) rfl), (tsG_of (mt1 9 rfl) rfl), by decide +kernel, by decide⟩
abbrev mX12_costs : aM := (yX12_costs, cX12_costs, 9, (some .int))
set_option maxRecDepth 20000 in
theorem kX12_costs : cOK mX12_costs 4 := ⟨(tsG_of (mt5 163 rfl) rfl), (tsG_of (mt1 9 rfl) rfl), by decide +kernel, by decide⟩
abbrev mX12_isSpan : aM := (yX12_isSpan, cX12_isSpan, 5, (some .boolean))
set_option maxRecDepth 20000 in
theorem kX12_isSpan : cOK mX12_isSpan 4 := ⟨(tsG_of (mt5 143 rfl) rfl), (tsG_of (mt1 9 rfl) rfl), by decide +kernel, by decide⟩
abbrev mX12_can : aM := (yX12_can, cX12_can, 5, (some .int))
set_option maxRecDepth 20000 in
theorem kX12_can : cOK mX12_can 4 := ⟨(tsG_of (mt5 139 rfl) rfl), (tsG_of (mt1 9 rfl) rfl), by decide +kernel, by decide⟩
abbrev mX12_cost : aM := (yX12_cost, cX12_cost, 5, (some .int))
set_option maxRecDepth 20000 in
theorem kX12_cost : cOK mX12_cost 4 := ⟨(tsG_of (mt5 159 rfl) rfl), (tsG_of (mt1 9 rfl) rfl), by decide +kernel, by decide⟩
abbrev mX12_span : aM := (yX12_span, cX12_span, 5, (some .int))
set_option maxRecDepth 20000 in
theorem kX12_span : cOK mX12_span 3 := ⟨(tsG_of (mt5 167 rfl) rfl), (tsG_of (mt1 9 rfl) rfl), by decide +kernel, by decide⟩
abbrev mX12_series : aM := (yX12_series, cX12_series, 4, (some .int))
set_option maxRecDepth 20000 in
theorem kX12_series : cOK mX12_series 3 := ⟨(tsG_of (mt5 171 rfl) rfl), (tsG_of (mt1 9 rfl) rfl), by decide +kernel, by decide⟩
abbrev mX12_option : aM := (yX12_option, cX12_option, 3, (some .int))
set_option maxRecDepth 20000 in
theorem kX12_option : cOK mX12_option 2 := ⟨(tsG_of (mt5 175 rfl) rfl), (tsG_of (mt1 9 rfl) rfl), by decide +kernel, by decide⟩
abbrev mX12_role : aM := (yX12_role, cX12_role, 4, (some .boolean))
set_option maxRecDepth 20000 in
theorem kX12_role : cOK mX12_role 3 := ⟨(tsG_of (mt5 179 rfl) rfl), (tsG_of (mt1 9 rfl) rfl), by decide +kernel, by decide⟩
abbrev mX12_slotOf : aM := (yX12_slotOf, cX12_slotOf, 3, (some .int))
set_option maxRecDepth 20000 in
theorem kX12_slotOf : cOK mX12_slotOf 2 := ⟨(tsG_of (mt5 207 rfl) rfl), (tsG_of (mt1 9 rfl) rfl), by decide +kernel, by decide⟩
abbrev mX12_isIn : aM := (yX12_isIn, cX12_isIn, 3, (some .boolean))
set_option maxRecDepth 20000 in
theorem kX12_isIn : cOK mX12_isIn 2 := ⟨(tsG_of (mt5 203 rfl) rfl), (tsG_of (mt1 9 rfl) rfl), by decide +kernel, by decide⟩
abbrev mX12_meet : aM := (yX12_meet, cX12_meet, 7, (some .boolean))
set_option maxRecDepth 20000 in
theorem kX12_meet : cOK mX12_meet 4 := ⟨(tsG_of (mt5 215 rfl) rfl), (tsG_of (mt1 9 rfl) rfl), by decide +kernel, by decide⟩
abbrev mX12_isFree : aM := (yX12_isFree, cX12_isFree, 5, (some .boolean))
set_option maxRecDepth 20000 in
theorem kX12_isFree : cOK mX12_isFree 3 := ⟨(tsG_of (mt5 211 rfl) rfl), (tsG_of (mt1 9 rfl) rfl), by decide +kernel, by decide⟩
abbrev mX12_asksFree : aM := (yX12_asksFree, cX12_asksFree, 4, none)
set_option maxRecDepth 20000 in
theorem kX12_asksFree : cOK mX12_asksFree 1 := ⟨(tsG_of (mt5 199 rfl) rfl), (tsG_of (mt1 9 rfl) rfl), by decide +kernel, by decide⟩
abbrev mX12_comesTo : aM := (yX12_comesTo, cX12_comesTo, 7, (some .int))
set_option maxRecDepth 20000 in
theorem kX12_comesTo : cOK mX12_comesTo 4 := ⟨(tsG_of (mt5 219 rfl) rfl), (tsG_of (mt1 9 rfl) rfl), by decide +kernel, by decide⟩
abbrev mX12_comeAll : aM := (yX12_comeAll, cX12_comeAll, 4, none)
set_option maxRecDepth 20000 in
theorem kX12_comeAll : cOK mX12_comeAll 1 := ⟨(tsG_of (mt5 195 rfl) rfl), (tsG_of (mt1 9 rfl) rfl), by decide +kernel, by decide⟩
abbrev mX12_takesWeek : aM := (yX12_takesWeek, cX12_takesWeek, 4, none)
set_option maxRecDepth 20000 in
theorem kX12_takesWeek : cOK mX12_takesWeek 2 := ⟨(tsG_of (mt5 191 rfl) rfl), (tsG_of (mt1 9 rfl) rfl), by decide +kernel, by decide⟩
abbrev mX12_isBehind : aM := (yX12_isBehind, cX12_isBehind, 4, (some .boolean))
set_option maxRecDepth 20000 in
theorem kX12_isBehind : cOK mX12_isBehind 2 := ⟨(tsG_of (mt5 227 rfl) rfl), (tsG_of (mt1 9 rfl) rfl), by decide +kernel, by decide⟩
abbrev mX12_fitsBy : aM := (yX12_fitsBy, cX12_fitsBy, 10, (some .boolean))
set_option maxRecDepth 20000 in
theorem kX12_fitsBy : cOK mX12_fitsBy 3 := ⟨(tsG_of (mt5 223 rfl) rfl), (tsG_of (mt1 9 rfl) rfl), by decide +kernel, by decide⟩
abbrev mX12_isPair : aM := (yX12_isPair, cX12_isPair, 4, (some .boolean))
set_option maxRecDepth 20000 in
theorem kX12_isPair : cOK mX12_isPair 3 := ⟨(tsG_of (mt5 187 rfl) rfl), (tsG_of (mt1 9 rfl) rfl), by decide +kernel, by decide⟩
abbrev mX12_fits : aM := (yX12_fits, cX12_fits, 6, (some .int))
set_option maxRecDepth 20000 in
theorem kX12_fits : cOK mX12_fits 5 := ⟨(tsG_of (mt5 183 rfl) rfl), (tsG_of (mt1 9 rfl) rfl), by decide +kernel, by decide⟩
abbrev mX12_lists : aM := (yX12_lists, cX12_lists, 5, none)
set_option maxRecDepth 20000 in
theorem kX12_lists : cOK mX12_lists 1 := ⟨(tsG_of (mt5 235 rfl) rfl), (tsG_of (mt1 9 rfl) rfl), by decide +kernel, by decide⟩
abbrev mX12_sorts : aM := (yX12_sorts, cX12_sorts, 3, none)
set_option maxRecDepth 20000 in
theorem kX12_sorts : cOK mX12_sorts 0 := ⟨(tsG_of (mt6 17 rfl) rfl), (tsG_of (mt1 9 rfl) rfl), by decide +kernel, by decide⟩
abbrev mX12_isLess : aM := (yX12_isLess, cX12_isLess, 2, (some .boolean))
set_option maxRecDepth 20000 in
theorem kX12_isLess : cOK mX12_isLess 0 := ⟨(tsG_of (mt6 21 rfl) rfl), (tsG_of (mt1 9 rfl) rfl), by decide +kernel, by decide⟩
abbrev mX12_isBest : aM := (yX12_isBest, cX12_isBest, 2, none)
set_option maxRecDepth 20000 in
theorem kX12_isBest : cOK mX12_isBest 0 := ⟨(tsG_of (mt6 25 rfl) rfl), (tsG_of (mt1 9 rfl) rfl), by decide +kernel, by decide⟩
abbrev mX12_priceOf : aM := (yX12_priceOf, cX12_priceOf, 7, (some .int))
set_option maxRecDepth 20000 in
theorem kX12_priceOf : cOK mX12_priceOf 5 := ⟨(tsG_of (mt5 239 rfl) rfl), (tsG_of (mt1 9 rfl) rfl), by decide +kernel, by decide⟩
abbrev mX12_goesFor : aM := (yX12_goesFor, cX12_goesFor, 10, (some .boolean))
set_option maxRecDepth 20000 in
theorem kX12_goesFor : cOK mX12_goesFor 2 := ⟨(tsG_of (mt6 7 rfl) rfl), (tsG_of (mt1 9 rfl) rfl), by decide +kernel, by decide⟩
abbrev mX12_bits : aM := (yX12_bits, cX12_bits, 3, (some .int))
set_option maxRecDepth 20000 in
theorem kX12_bits : cOK mX12_bits 1 := ⟨(tsG_of (mt6 13 rfl) rfl), (tsG_of (mt1 9 rfl) rfl), by decide +kernel, by decide⟩
abbrev mX12_isAhead : aM := (yX12_isAhead, cX12_isAhead, 3, (some .boolean))
set_option maxRecDepth 20000 in
theorem kX12_isAhead : cOK mX12_isAhead 2 := ⟨(tsG_of (mt6 10 rfl) rfl), (tsG_of (mt1 9 rfl) rfl), by decide +kernel, by decide⟩
abbrev mX12_leastStuck : aM := (yX12_leastStuck, cX12_leastStuck, 5, (some .int))
set_option maxRecDepth 20000 in
theorem kX12_leastStuck : cOK mX12_leastStuck 1 := ⟨(tsG_of (mt6 3 rfl) rfl), (tsG_of (mt1 9 rfl) rfl), by decide +kernel, by decide⟩
abbrev mX12_plan : aM := (yX12_plan, cX12_plan, 13, (some .int))
set_option maxRecDepth 20000 in
theorem kX12_plan : cOK mX12_plan 4 := ⟨(tsG_of (mt5 231 rfl) rfl), (tsG_of (mt1 9 rfl) rfl), by decide +kernel, by decide⟩
abbrev mX12_stuck : aM := (yX12_stuck, cX12_stuck, 4, (some .int))
set_option maxRecDepth 20000 in
theorem kX12_stuck : cOK mX12_stuck 1 := ⟨(tsG_of (mt6 29 rfl) rfl), (tsG_of (mt1 9 rfl) rfl), by decide +kernel, by decide⟩
abbrev mX12_weekSums : aM := (yX12_weekSums, cX12_weekSums, 3, none)
set_option maxRecDepth 20000 in
theorem kX12_weekSums : cOK mX12_weekSums 0 := ⟨(tsG_of (mt6 37 rfl) rfl), (tsG_of (mt1 9 rfl) rfl), by decide +kernel, by decide⟩
abbrev mX12_takesChoice : aM := (yX12_takesChoice, cX12_takesChoice, 5, (some .boolean))
set_option maxRecDepth 20000 in
theorem kX12_takesChoice : cOK mX12_takesChoice 1 := ⟨(tsG_of (mt6 41 rfl) rfl), (tsG_of (mt1 9 rfl) rfl), by decide +kernel, by decide⟩
abbrev mX12_move : aM := (yX12_move, cX12_move, 7, (some .int))
set_option maxRecDepth 20000 in
theorem kX12_move : cOK mX12_move 2 := ⟨(tsG_of (mt6 33 rfl) rfl), (tsG_of (mt1 9 rfl) rfl), by decide +kernel, by decide⟩
abbrev mX12_planned : aM := (yX12_planned, cX12_planned, 5, (some .int))
set_option maxRecDepth 20000 in
theorem kX12_planned : cOK mX12_planned 3 := ⟨(tsG_of (mt6 45 rfl) rfl), (tsG_of (mt1 9 rfl) rfl), by decide +kernel, by decide⟩
abbrev mX12_comes : aM := (yX12_comes, cX12_comes, 5, (some .int))
set_option maxRecDepth 20000 in
theorem kX12_comes : cOK mX12_comes 4 := ⟨(tsG_of (mt6 49 rfl) rfl), (tsG_of (mt1 9 rfl) rfl), by decide +kernel, by decide⟩
abbrev mX12_sum : aM := (yX12_sum, cX12_sum, 7, (some .int))
set_option maxRecDepth 20000 in
theorem kX12_sum : cOK mX12_sum 2 := ⟨(tsG_of (mt6 53 rfl) rfl), (tsG_of (mt1 9 rfl) rfl), by decide +kernel, by decide⟩
abbrev mX12_isShifted : aM := (yX12_isShifted, cX12_isShifted, 6, (some .boolean))
set_option maxRecDepth 20000 in
theorem kX12_isShifted : cOK mX12_isShifted 4 := ⟨(tsG_of (mt6 61 rfl) rfl), (tsG_of (mt1 9 rfl) rfl), by decide +kernel, by decide⟩
abbrev mX12_shifted : aM := (yX12_shifted, cX12_shifted, 8, (some .int))
set_option maxRecDepth 20000 in
theorem kX12_shifted : cOK mX12_shifted 2 := ⟨(tsG_of (mt6 57 rfl) rfl), (tsG_of (mt1 9 rfl) rfl), by decide +kernel, by decide⟩
abbrev mX12_count : aM := (yX12_count, cX12_count, 4, (some .int))
set_option maxRecDepth 20000 in
theorem kX12_count : cOK mX12_count 1 := ⟨(tsG_of (mt6 65 rfl) rfl), (tsG_of (mt1 9 rfl) rfl), by decide +kernel, by decide⟩
abbrev mJ9_abs_0f7a4 : aM := (yJ9_abs_0f7a4, cJ9_abs_0f7a4, 1, (some .int))
set_option maxRecDepth 20000 in
theorem kJ9_abs_0f7a4 : cOK mJ9_abs_0f7a4 1 := ⟨(tsG_of (mt3 215 rfl) rfl), (tsG_of (mt1 12 rfl) rfl), by decide +kernel, by decide⟩
abbrev mJ9_max_7cf53 : aM := (yJ9_max_7cf53, cJ9_max_7cf53, 2, (some .int))
set_option maxRecDepth 20000 in
theorem kJ9_max_7cf53 : cOK mJ9_max_7cf53 2 := ⟨(tsG_of (mt2 116 rfl) rfl), (tsG_of (mt1 12 rfl) rfl), by decide +kernel, by decide⟩
abbrev mJ9_min_7cf53 : aM := (yJ9_min_7cf53, cJ9_min_7cf53, 2, (some .int))
set_option maxRecDepth 20000 in
theorem kJ9_min_7cf53 : cOK mJ9_min_7cf53 2 := ⟨(tsG_of (mt3 48 rfl) rfl), (tsG_of (mt1 12 rfl) rfl), by decide +kernel, by decide⟩
set_option maxRecDepth 20000 in
theorem fX10_9 : fOK RX10 9 10 0 := ⟨RX10, TX10, 3, rfl, by decide, (tsG_of (mt1 39 rfl) rfl)⟩
set_option maxRecDepth 20000 in
theorem fX8_51 : fOK RX8 51 10 0 := ⟨RX10, TX10, 3, rfl, by decide, (tsG_of (mt1 40 rfl) rfl)⟩
set_option maxRecDepth 20000 in
theorem fX1_39 : fOK RX1 39 10 0 := ⟨RX10, TX10, 3, rfl, by decide, (tsG_of (mt1 41 rfl) rfl)⟩
set_option maxRecDepth 20000 in
theorem fX10_15 : fOK RX10 15 10 1 := ⟨RX10, TX10, 3, rfl, by decide, (tsG_of (mt1 42 rfl) rfl)⟩
set_option maxRecDepth 20000 in
theorem fX8_57 : fOK RX8 57 10 1 := ⟨RX10, TX10, 3, rfl, by decide, (tsG_of (mt1 43 rfl) rfl)⟩
set_option maxRecDepth 20000 in
theorem fX10_18 : fOK RX10 18 10 2 := ⟨RX10, TX10, 3, rfl, by decide, (tsG_of (mt1 44 rfl) rfl)⟩
set_option maxRecDepth 20000 in
theorem fX8_73 : fOK RX8 73 10 2 := ⟨RX10, TX10, 3, rfl, by decide, (tsG_of (mt1 45 rfl) rfl)⟩
set_option maxRecDepth 20000 in
theorem fX1_9 : fOK RX1 9 1 0 := ⟨RX1, TX1, 5, rfl, by decide, (tsG_of (mt1 60 rfl) rfl)⟩
set_option maxRecDepth 20000 in
theorem fX1_15 : fOK RX1 15 1 1 := ⟨RX1, TX1, 5, rfl, by decide, (tsG_of (mt1 61 rfl) rfl)⟩
set_option maxRecDepth 20000 in
theorem fX1_18 : fOK RX1 18 1 2 := ⟨RX1, TX1, 5, rfl, by decide, (tsG_of (mt1 62 rfl) rfl)⟩
set_option maxRecDepth 20000 in
theorem fX1_21 : fOK RX1 21 1 3 := ⟨RX1, TX1, 5, rfl, by decide, (tsG_of (mt1 63 rfl) rfl)⟩
set_option maxRecDepth 20000 in
theorem fX8_108 : fOK RX8 108 1 3 := ⟨RX1, TX1, 5, rfl, by decide, (tsG_of (mt1 64 rfl) rfl)⟩
set_option maxRecDepth 20000 in
theorem fX1_24 : fOK RX1 24 1 4 := ⟨RX1, TX1, 5, rfl, by decide, (tsG_of (mt1 65 rfl) rfl)⟩
set_option maxRecDepth 20000 in
theorem fX5_119 : fOK RX5 119 1 4 := ⟨RX1, TX1, 5, rfl, by decide, (tsG_of (mt1 66 rfl) rfl)⟩
set_option maxRecDepth 20000 in
theorem fX8_15 : fOK RX8 15 8 0 := ⟨RX8, TX8, 6, rfl, by decide, (tsG_of (mt1 84 rfl) rfl)⟩
set_option maxRecDepth 20000 in
theorem fX1_44 : fOK RX1 44 8 0 := ⟨RX8, TX8, 6, rfl, by decide, (tsG_of (mt1 85 rfl) rfl)⟩
set_option maxRecDepth 20000 in
theorem fX8_24 : fOK RX8 24 8 1 := ⟨RX8, TX8, 6, rfl, by decide, (tsG_of (mt1 86 rfl) rfl)⟩
set_option maxRecDepth 20000 in
theorem fX1_56 : fOK RX1 56 8 1 := ⟨RX8, TX8, 6, rfl, by decide, (tsG_of (mt1 87 rfl) rfl)⟩
set_option maxRecDepth 20000 in
theorem fX8_31 : fOK RX8 31 8 2 := ⟨RX8, TX8, 6, rfl, by decide, (tsG_of (mt1 88 rfl) rfl)⟩
set_option maxRecDepth 20000 in
theorem fX0_68 : fOK RX0 68 8 2 := ⟨RX8, TX8, 6, rfl, by decide, (tsG_of (mt1 89 rfl) rfl)⟩
set_option maxRecDepth 20000 in
theorem fX8_34 : fOK RX8 34 8 3 := ⟨RX8, TX8, 6, rfl, by decide, (tsG_of (mt1 90 rfl) rfl)⟩
set_option maxRecDepth 20000 in
theorem fX0_71 : fOK RX0 71 8 3 := ⟨RX8, TX8, 6, rfl, by decide, (tsG_of (mt1 91 rfl) rfl)⟩
set_option maxRecDepth 20000 in
theorem fX8_45 : fOK RX8 45 8 4 := ⟨RX8, TX8, 6, rfl, by decide, (tsG_of (mt1 92 rfl) rfl)⟩
set_option maxRecDepth 20000 in
theorem fX1_49 : fOK RX1 49 8 4 := ⟨RX8, TX8, 6, rfl, by decide, (tsG_of (mt1 93 rfl) rfl)⟩
set_option maxRecDepth 20000 in
theorem fX11_291 : fOK RX11 291 8 4 := ⟨RX8, TX8, 6, rfl, by decide, (tsG_of (mt1 94 rfl) rfl)⟩
set_option maxRecDepth 20000 in
theorem fX8_48 : fOK RX8 48 8 5 := ⟨RX8, TX8, 6, rfl, by decide, (tsG_of (mt1 95 rfl) rfl)⟩
set_option maxRecDepth 20000 in
theorem fX1_59 : fOK RX1 59 8 5 := ⟨RX8, TX8, 6, rfl, by decide, (tsG_of (mt1 96 rfl) rfl)⟩
set_option maxRecDepth 20000 in
theorem fX11_294 : fOK RX11 294 8 5 := ⟨RX8, TX8, 6, rfl, by decide, (tsG_of (mt1 97 rfl) rfl)⟩
set_option maxRecDepth 20000 in
theorem fX2_9 : fOK RX2 9 2 0 := ⟨RX2, TX2, 4, rfl, by decide, (tsG_of (mt1 123 rfl) rfl)⟩
set_option maxRecDepth 20000 in
theorem fX2_15 : fOK RX2 15 2 1 := ⟨RX2, TX2, 4, rfl, by decide, (tsG_of (mt1 124 rfl) rfl)⟩
set_option maxRecDepth 20000 in
theorem fX2_24 : fOK RX2 24 2 2 := ⟨RX2, TX2, 4, rfl, by decide, (tsG_of (mt1 125 rfl) rfl)⟩
set_option maxRecDepth 20000 in
theorem fX2_28 : fOK RX2 28 2 3 := ⟨RX2, TX2, 4, rfl, by decide, (tsG_of (mt1 126 rfl) rfl)⟩
set_option maxRecDepth 20000 in
theorem fX5_87 : fOK RX5 87 2 3 := ⟨RX2, TX2, 4, rfl, by decide, (tsG_of (mt1 127 rfl) rfl)⟩
set_option maxRecDepth 20000 in
theorem fX7_12 : fOK RX7 12 7 0 := ⟨RX7, TX7, 11, rfl, by decide, (tsG_of (mt1 139 rfl) rfl)⟩
set_option maxRecDepth 20000 in
theorem fX11_252 : fOK RX11 252 7 0 := ⟨RX7, TX7, 11, rfl, by decide, (tsG_of (mt1 140 rfl) rfl)⟩
set_option maxRecDepth 20000 in
theorem fX7_21 : fOK RX7 21 7 1 := ⟨RX7, TX7, 11, rfl, by decide, (tsG_of (mt1 141 rfl) rfl)⟩
set_option maxRecDepth 20000 in
theorem fX7_25 : fOK RX7 25 7 2 := ⟨RX7, TX7, 11, rfl, by decide, (tsG_of (mt1 142 rfl) rfl)⟩
set_option maxRecDepth 20000 in
theorem fX11_249 : fOK RX11 249 7 2 := ⟨RX7, TX7, 11, rfl, by decide, (tsG_of (mt1 143 rfl) rfl)⟩
set_option maxRecDepth 20000 in
theorem fX7_29 : fOK RX7 29 7 3 := ⟨RX7, TX7, 11, rfl, by decide, (tsG_of (mt1 144 rfl) rfl)⟩
set_option maxRecDepth 20000 in
theorem fX7_32 : fOK RX7 32 7 4 := ⟨RX7, TX7, 11, rfl, by decide, (tsG_of (mt1 145 rfl) rfl)⟩
set_option maxRecDepth 20000 in
theorem fX7_35 : fOK RX7 35 7 5 := ⟨RX7, TX7, 11, rfl, by decide, (tsG_of (mt1 146 rfl) rfl)⟩
set_option maxRecDepth 20000 in
theorem fX7_38 : fOK RX7 38 7 6 := ⟨RX7, TX7, 11, rfl, by decide, (tsG_of (mt1 147 rfl) rfl)⟩
set_option maxRecDepth 20000 in
theorem fX7_41 : fOK RX7 41 7 7 := ⟨RX7, TX7, 11, rfl, by decide, (tsG_of (mt1 148 rfl) rfl)⟩
set_option maxRecDepth 20000 in
theorem fX7_44 : fOK RX7 44 7 8 := ⟨RX7, TX7, 11, rfl, by decide, (tsG_of (mt1 149 rfl) rfl)⟩
set_option maxRecDepth 20000 in
theorem fX7_53 : fOK RX7 53 7 9 := ⟨RX7, TX7, 11, rfl, by decide, (tsG_of (mt1 150 rfl) rfl)⟩
set_option maxRecDepth 20000 in
theorem fX7_57 : fOK RX7 57 7 10 := ⟨RX7, TX7, 11, rfl, by decide, (tsG_of (mt1 151 rfl) rfl)⟩
set_option maxRecDepth 20000 in
theorem fX5_12 : fOK RX5 12 5 0 := ⟨RX5, TX5, 11, rfl, by decide, (tsG_of (mt1 190 rfl) rfl)⟩
set_option maxRecDepth 20000 in
theorem fX5_21 : fOK RX5 21 5 1 := ⟨RX5, TX5, 11, rfl, by decide, (tsG_of (mt1 191 rfl) rfl)⟩
set_option maxRecDepth 20000 in
theorem fX5_27 : fOK RX5 27 5 2 := ⟨RX5, TX5, 11, rfl, by decide, (tsG_of (mt1 192 rfl) rfl)⟩
set_option maxRecDepth 20000 in
theorem fX5_33 : fOK RX5 33 5 3 := ⟨RX5, TX5, 11, rfl, by decide, (tsG_of (mt1 193 rfl) rfl)⟩
set_option maxRecDepth 20000 in
theorem fX5_39 : fOK RX5 39 5 4 := ⟨RX5, TX5, 11, rfl, by decide, (tsG_of (mt1 194 rfl) rfl)⟩
set_option maxRecDepth 20000 in
theorem fX5_43 : fOK RX5 43 5 5 := ⟨RX5, TX5, 11, rfl, by decide, (tsG_of (mt1 195 rfl) rfl)⟩
set_option maxRecDepth 20000 in
theorem fX5_47 : fOK RX5 47 5 6 := ⟨RX5, TX5, 11, rfl, by decide, (tsG_of (mt1 196 rfl) rfl)⟩
set_option maxRecDepth 20000 in
theorem fX5_50 : fOK RX5 50 5 7 := ⟨RX5, TX5, 11, rfl, by decide, (tsG_of (mt1 197 rfl) rfl)⟩
set_option maxRecDepth 20000 in
theorem fX5_53 : fOK RX5 53 5 8 := ⟨RX5, TX5, 11, rfl, by decide, (tsG_of (mt1 198 rfl) rfl)⟩
set_option maxRecDepth 20000 in
theorem fX5_67 : fOK RX5 67 5 9 := ⟨RX5, TX5, 11, rfl, by decide, (tsG_of (mt1 199 rfl) rfl)⟩
set_option maxRecDepth 20000 in
theorem fX5_63 : fOK RX5 63 5 10 := ⟨RX5, TX5, 11, rfl, by decide, (tsG_of (mt1 200 rfl) rfl)⟩
set_option maxRecDepth 20000 in
theorem fX0_12 : fOK RX0 12 0 0 := ⟨RX0, TX0, 4, rfl, by decide, (tsG_of (mt1 232 rfl) rfl)⟩
set_option maxRecDepth 20000 in
theorem fX0_18 : fOK RX0 18 0 1 := ⟨RX0, TX0, 4, rfl, by decide, (tsG_of (mt1 233 rfl) rfl)⟩
set_option maxRecDepth 20000 in
theorem fX0_22 : fOK RX0 22 0 2 := ⟨RX0, TX0, 4, rfl, by decide, (tsG_of (mt1 234 rfl) rfl)⟩
set_option maxRecDepth 20000 in
theorem fX0_57 : fOK RX0 57 0 3 := ⟨RX0, TX0, 4, rfl, by decide, (tsG_of (mt1 235 rfl) rfl)⟩
set_option maxRecDepth 20000 in
theorem fX11_11 : fOK RX11 11 11 0 := ⟨RX11, TX11, 14, rfl, by decide, (tsG_of (mt2 5 rfl) rfl)⟩
set_option maxRecDepth 20000 in
theorem fX11_17 : fOK RX11 17 11 1 := ⟨RX11, TX11, 14, rfl, by decide, (tsG_of (mt2 6 rfl) rfl)⟩
set_option maxRecDepth 20000 in
theorem fX11_23 : fOK RX11 23 11 2 := ⟨RX11, TX11, 14, rfl, by decide, (tsG_of (mt2 7 rfl) rfl)⟩
set_option maxRecDepth 20000 in
theorem fX11_29 : fOK RX11 29 11 3 := ⟨RX11, TX11, 14, rfl, by decide, (tsG_of (mt2 8 rfl) rfl)⟩
set_option maxRecDepth 20000 in
theorem fX11_37 : fOK RX11 37 11 4 := ⟨RX11, TX11, 14, rfl, by decide, (tsG_of (mt2 9 rfl) rfl)⟩
set_option maxRecDepth 20000 in
theorem fX11_44 : fOK RX11 44 11 5 := ⟨RX11, TX11, 14, rfl, by decide, (tsG_of (mt2 10 rfl) rfl)⟩
set_option maxRecDepth 20000 in
theorem fX11_51 : fOK RX11 51 11 6 := ⟨RX11, TX11, 14, rfl, by decide, (tsG_of (mt2 11 rfl) rfl)⟩
set_option maxRecDepth 20000 in
theorem fX11_58 : fOK RX11 58 11 7 := ⟨RX11, TX11, 14, rfl, by decide, (tsG_of (mt2 12 rfl) rfl)⟩
set_option maxRecDepth 20000 in
theorem fX11_65 : fOK RX11 65 11 8 := ⟨RX11, TX11, 14, rfl, by decide, (tsG_of (mt2 13 rfl) rfl)⟩
set_option maxRecDepth 20000 in
theorem fX11_69 : fOK RX11 69 11 9 := ⟨RX11, TX11, 14, rfl, by decide, (tsG_of (mt2 14 rfl) rfl)⟩
set_option maxRecDepth 20000 in
theorem fX11_84 : fOK RX11 84 11 10 := ⟨RX11, TX11, 14, rfl, by decide, (tsG_of (mt2 15 rfl) rfl)⟩
set_option maxRecDepth 20000 in
theorem fX11_131 : fOK RX11 131 11 11 := ⟨RX11, TX11, 14, rfl, by decide, (tsG_of (mt2 16 rfl) rfl)⟩
set_option maxRecDepth 20000 in
theorem fX11_114 : fOK RX11 114 11 12 := ⟨RX11, TX11, 14, rfl, by decide, (tsG_of (mt2 17 rfl) rfl)⟩
set_option maxRecDepth 20000 in
theorem fX11_226 : fOK RX11 226 11 13 := ⟨RX11, TX11, 14, rfl, by decide, (tsG_of (mt2 18 rfl) rfl)⟩
set_option maxRecDepth 20000 in
theorem fX4_9 : fOK RX4 9 4 0 := ⟨RX4, TX4, 3, rfl, by decide, (tsG_of (mt2 60 rfl) rfl)⟩
set_option maxRecDepth 20000 in
theorem fX4_15 : fOK RX4 15 4 1 := ⟨RX4, TX4, 3, rfl, by decide, (tsG_of (mt2 61 rfl) rfl)⟩
set_option maxRecDepth 20000 in
theorem fX11_143 : fOK RX11 143 4 1 := ⟨RX4, TX4, 3, rfl, by decide, (tsG_of (mt2 62 rfl) rfl)⟩
set_option maxRecDepth 20000 in
theorem fX4_33 : fOK RX4 33 4 2 := ⟨RX4, TX4, 3, rfl, by decide, (tsG_of (mt2 63 rfl) rfl)⟩
set_option maxRecDepth 20000 in
theorem fX11_150 : fOK RX11 150 4 2 := ⟨RX4, TX4, 3, rfl, by decide, (tsG_of (mt2 64 rfl) rfl)⟩
set_option maxRecDepth 20000 in
theorem fX6_9 : fOK RX6 9 6 0 := ⟨RX6, TX6, 5, rfl, by decide, (tsG_of (mt2 85 rfl) rfl)⟩
set_option maxRecDepth 20000 in
theorem fX11_308 : fOK RX11 308 6 0 := ⟨RX6, TX6, 5, rfl, by decide, (tsG_of (mt2 86 rfl) rfl)⟩
set_option maxRecDepth 20000 in
theorem fX6_15 : fOK RX6 15 6 1 := ⟨RX6, TX6, 5, rfl, by decide, (tsG_of (mt2 87 rfl) rfl)⟩
set_option maxRecDepth 20000 in
theorem fX6_19 : fOK RX6 19 6 2 := ⟨RX6, TX6, 5, rfl, by decide, (tsG_of (mt2 88 rfl) rfl)⟩
set_option maxRecDepth 20000 in
theorem fX11_106 : fOK RX11 106 6 2 := ⟨RX6, TX6, 5, rfl, by decide, (tsG_of (mt2 89 rfl) rfl)⟩
set_option maxRecDepth 20000 in
theorem fX6_23 : fOK RX6 23 6 3 := ⟨RX6, TX6, 5, rfl, by decide, (tsG_of (mt2 90 rfl) rfl)⟩
set_option maxRecDepth 20000 in
theorem fX11_103 : fOK RX11 103 6 3 := ⟨RX6, TX6, 5, rfl, by decide, (tsG_of (mt2 91 rfl) rfl)⟩
set_option maxRecDepth 20000 in
theorem fX6_41 : fOK RX6 41 6 4 := ⟨RX6, TX6, 5, rfl, by decide, (tsG_of (mt2 92 rfl) rfl)⟩
set_option maxRecDepth 20000 in
theorem fX11_153 : fOK RX11 153 6 4 := ⟨RX6, TX6, 5, rfl, by decide, (tsG_of (mt2 93 rfl) rfl)⟩
set_option maxRecDepth 20000 in
theorem fX9_9 : fOK RX9 9 9 0 := ⟨RX9, TX9, 9, rfl, by decide, (tsG_of (mt2 141 rfl) rfl)⟩
set_option maxRecDepth 20000 in
theorem fX1_34 : fOK RX1 34 9 0 := ⟨RX9, TX9, 9, rfl, by decide, (tsG_of (mt2 142 rfl) rfl)⟩
set_option maxRecDepth 20000 in
theorem fX8_111 : fOK RX8 111 9 0 := ⟨RX9, TX9, 9, rfl, by decide, (tsG_of (mt2 143 rfl) rfl)⟩
set_option maxRecDepth 20000 in
theorem fX11_207 : fOK RX11 207 9 0 := ⟨RX9, TX9, 9, rfl, by decide, (tsG_of (mt2 144 rfl) rfl)⟩
set_option maxRecDepth 20000 in
theorem fX9_15 : fOK RX9 15 9 1 := ⟨RX9, TX9, 9, rfl, by decide, (tsG_of (mt2 145 rfl) rfl)⟩
set_option maxRecDepth 20000 in
theorem fX10_35 : fOK RX10 35 9 1 := ⟨RX9, TX9, 9, rfl, by decide, (tsG_of (mt2 146 rfl) rfl)⟩
set_option maxRecDepth 20000 in
theorem fX8_60 : fOK RX8 60 9 1 := ⟨RX9, TX9, 9, rfl, by decide, (tsG_of (mt2 147 rfl) rfl)⟩
set_option maxRecDepth 20000 in
theorem fX1_62 : fOK RX1 62 9 1 := ⟨RX9, TX9, 9, rfl, by decide, (tsG_of (mt2 148 rfl) rfl)⟩
set_option maxRecDepth 20000 in
theorem fX9_18 : fOK RX9 18 9 2 := ⟨RX9, TX9, 9, rfl, by decide, (tsG_of (mt2 149 rfl) rfl)⟩
set_option maxRecDepth 20000 in
theorem fX8_104 : fOK RX8 104 9 2 := ⟨RX9, TX9, 9, rfl, by decide, (tsG_of (mt2 150 rfl) rfl)⟩
set_option maxRecDepth 20000 in
theorem fX9_22 : fOK RX9 22 9 3 := ⟨RX9, TX9, 9, rfl, by decide, (tsG_of (mt2 151 rfl) rfl)⟩
set_option maxRecDepth 20000 in
theorem fX0_65 : fOK RX0 65 9 3 := ⟨RX9, TX9, 9, rfl, by decide, (tsG_of (mt2 152 rfl) rfl)⟩
set_option maxRecDepth 20000 in
theorem fX9_25 : fOK RX9 25 9 4 := ⟨RX9, TX9, 9, rfl, by decide, (tsG_of (mt2 153 rfl) rfl)⟩
set_option maxRecDepth 20000 in
theorem fX11_123 : fOK RX11 123 9 4 := ⟨RX9, TX9, 9, rfl, by decide, (tsG_of (mt2 154 rfl) rfl)⟩
set_option maxRecDepth 20000 in
theorem fX9_29 : fOK RX9 29 9 5 := ⟨RX9, TX9, 9, rfl, by decide, (tsG_of (mt2 155 rfl) rfl)⟩
set_option maxRecDepth 20000 in
theorem fX0_51 : fOK RX0 51 9 5 := ⟨RX9, TX9, 9, rfl, by decide, (tsG_of (mt2 156 rfl) rfl)⟩
set_option maxRecDepth 20000 in
theorem fX8_97 : fOK RX8 97 9 5 := ⟨RX9, TX9, 9, rfl, by decide, (tsG_of (mt2 157 rfl) rfl)⟩
set_option maxRecDepth 20000 in
theorem fX9_32 : fOK RX9 32 9 6 := ⟨RX9, TX9, 9, rfl, by decide, (tsG_of (mt2 158 rfl) rfl)⟩
set_option maxRecDepth 20000 in
theorem fX5_91 : fOK RX5 91 9 6 := ⟨RX9, TX9, 9, rfl, by decide, (tsG_of (mt2 159 rfl) rfl)⟩
set_option maxRecDepth 20000 in
theorem fX11_246 : fOK RX11 246 9 6 := ⟨RX9, TX9, 9, rfl, by decide, (tsG_of (mt2 160 rfl) rfl)⟩
set_option maxRecDepth 20000 in
theorem fX10_21 : fOK RX10 21 9 7 := ⟨RX9, TX9, 9, rfl, by decide, (tsG_of (mt2 161 rfl) rfl)⟩
set_option maxRecDepth 20000 in
theorem fX11_120 : fOK RX11 120 9 7 := ⟨RX9, TX9, 9, rfl, by decide, (tsG_of (mt2 162 rfl) rfl)⟩
set_option maxRecDepth 20000 in
theorem fX9_58 : fOK RX9 58 9 7 := ⟨RX9, TX9, 9, rfl, by decide, (tsG_of (mt2 163 rfl) rfl)⟩
set_option maxRecDepth 20000 in
theorem fX11_159 : fOK RX11 159 9 8 := ⟨RX9, TX9, 9, rfl, by decide, (tsG_of (mt2 164 rfl) rfl)⟩
set_option maxRecDepth 20000 in
theorem fX9_75 : fOK RX9 75 9 8 := ⟨RX9, TX9, 9, rfl, by decide, (tsG_of (mt2 165 rfl) rfl)⟩
set_option maxRecDepth 20000 in
theorem fX3_7 : fOK RX3 7 3 0 := ⟨RX3, TX3, 5, rfl, by decide, (tsG_of (mt2 218 rfl) rfl)⟩
set_option maxRecDepth 20000 in
theorem fX4_19 : fOK RX4 19 3 0 := ⟨RX3, TX3, 5, rfl, by decide, (tsG_of (mt2 219 rfl) rfl)⟩
set_option maxRecDepth 20000 in
theorem fX6_45 : fOK RX6 45 3 0 := ⟨RX3, TX3, 5, rfl, by decide, (tsG_of (mt2 220 rfl) rfl)⟩
set_option maxRecDepth 20000 in
theorem fX9_79 : fOK RX9 79 3 0 := ⟨RX3, TX3, 5, rfl, by decide, (tsG_of (mt2 221 rfl) rfl)⟩
set_option maxRecDepth 20000 in
theorem fX11_197 : fOK RX11 197 3 0 := ⟨RX3, TX3, 5, rfl, by decide, (tsG_of (mt2 222 rfl) rfl)⟩
set_option maxRecDepth 20000 in
theorem fX3_13 : fOK RX3 13 3 1 := ⟨RX3, TX3, 5, rfl, by decide, (tsG_of (mt2 223 rfl) rfl)⟩
set_option maxRecDepth 20000 in
theorem fX4_24 : fOK RX4 24 3 1 := ⟨RX3, TX3, 5, rfl, by decide, (tsG_of (mt2 224 rfl) rfl)⟩
set_option maxRecDepth 20000 in
theorem fX6_50 : fOK RX6 50 3 1 := ⟨RX3, TX3, 5, rfl, by decide, (tsG_of (mt2 225 rfl) rfl)⟩
set_option maxRecDepth 20000 in
theorem fX9_82 : fOK RX9 82 3 1 := ⟨RX3, TX3, 5, rfl, by decide, (tsG_of (mt2 226 rfl) rfl)⟩
set_option maxRecDepth 20000 in
theorem fX3_16 : fOK RX3 16 3 2 := ⟨RX3, TX3, 5, rfl, by decide, (tsG_of (mt2 227 rfl) rfl)⟩
set_option maxRecDepth 20000 in
theorem fX4_27 : fOK RX4 27 3 2 := ⟨RX3, TX3, 5, rfl, by decide, (tsG_of (mt2 228 rfl) rfl)⟩
set_option maxRecDepth 20000 in
theorem fX6_53 : fOK RX6 53 3 2 := ⟨RX3, TX3, 5, rfl, by decide, (tsG_of (mt2 229 rfl) rfl)⟩
set_option maxRecDepth 20000 in
theorem fX9_85 : fOK RX9 85 3 2 := ⟨RX3, TX3, 5, rfl, by decide, (tsG_of (mt2 230 rfl) rfl)⟩
set_option maxRecDepth 20000 in
theorem fX3_19 : fOK RX3 19 3 3 := ⟨RX3, TX3, 5, rfl, by decide, (tsG_of (mt2 231 rfl) rfl)⟩
set_option maxRecDepth 20000 in
theorem fX11_193 : fOK RX11 193 3 3 := ⟨RX3, TX3, 5, rfl, by decide, (tsG_of (mt2 232 rfl) rfl)⟩
set_option maxRecDepth 20000 in
theorem fX3_23 : fOK RX3 23 3 4 := ⟨RX3, TX3, 5, rfl, by decide, (tsG_of (mt2 233 rfl) rfl)⟩
set_option maxRecDepth 20000 in
theorem fX4_30 : fOK RX4 30 3 4 := ⟨RX3, TX3, 5, rfl, by decide, (tsG_of (mt2 234 rfl) rfl)⟩
set_option maxRecDepth 20000 in
theorem fX6_56 : fOK RX6 56 3 4 := ⟨RX3, TX3, 5, rfl, by decide, (tsG_of (mt2 235 rfl) rfl)⟩
set_option maxRecDepth 20000 in
theorem fX9_88 : fOK RX9 88 3 4 := ⟨RX3, TX3, 5, rfl, by decide, (tsG_of (mt2 236 rfl) rfl)⟩
set_option maxRecDepth 20000 in
theorem fX12_120 : fOK RX12 120 12 1 := ⟨RX12, TX12, 43, rfl, by decide, (tsG_of (mt4 172 rfl) rfl)⟩
set_option maxRecDepth 20000 in
theorem fX12_13 : fOK RX12 13 12 2 := ⟨RX12, TX12, 43, rfl, by decide, (tsG_of (mt4 173 rfl) rfl)⟩
set_option maxRecDepth 20000 in
theorem fX12_123 : fOK RX12 123 12 3 := ⟨RX12, TX12, 43, rfl, by decide, (tsG_of (mt4 174 rfl) rfl)⟩
set_option maxRecDepth 20000 in
theorem fX12_17 : fOK RX12 17 12 4 := ⟨RX12, TX12, 43, rfl, by decide, (tsG_of (mt4 175 rfl) rfl)⟩
set_option maxRecDepth 20000 in
theorem fX12_20 : fOK RX12 20 12 5 := ⟨RX12, TX12, 43, rfl, by decide, (tsG_of (mt4 176 rfl) rfl)⟩
set_option maxRecDepth 20000 in
theorem fX12_23 : fOK RX12 23 12 6 := ⟨RX12, TX12, 43, rfl, by decide, (tsG_of (mt4 177 rfl) rfl)⟩
set_option maxRecDepth 20000 in
theorem fX12_26 : fOK RX12 26 12 7 := ⟨RX12, TX12, 43, rfl, by decide, (tsG_of (mt4 178 rfl) rfl)⟩
set_option maxRecDepth 20000 in
theorem fX12_129 : fOK RX12 129 12 8 := ⟨RX12, TX12, 43, rfl, by decide, (tsG_of (mt4 179 rfl) rfl)⟩
set_option maxRecDepth 20000 in
theorem fX12_29 : fOK RX12 29 12 9 := ⟨RX12, TX12, 43, rfl, by decide, (tsG_of (mt4 180 rfl) rfl)⟩
set_option maxRecDepth 20000 in
theorem fX12_32 : fOK RX12 32 12 10 := ⟨RX12, TX12, 43, rfl, by decide, (tsG_of (mt4 181 rfl) rfl)⟩
set_option maxRecDepth 20000 in
theorem fX12_35 : fOK RX12 35 12 11 := ⟨RX12, TX12, 43, rfl, by decide, (tsG_of (mt4 182 rfl) rfl)⟩
set_option maxRecDepth 20000 in
theorem fX12_38 : fOK RX12 38 12 12 := ⟨RX12, TX12, 43, rfl, by decide, (tsG_of (mt4 183 rfl) rfl)⟩
set_option maxRecDepth 20000 in
theorem fX12_41 : fOK RX12 41 12 13 := ⟨RX12, TX12, 43, rfl, by decide, (tsG_of (mt4 184 rfl) rfl)⟩
set_option maxRecDepth 20000 in
theorem fX12_126 : fOK RX12 126 12 14 := ⟨RX12, TX12, 43, rfl, by decide, (tsG_of (mt4 185 rfl) rfl)⟩
set_option maxRecDepth 20000 in
theorem fX12_45 : fOK RX12 45 12 15 := ⟨RX12, TX12, 43, rfl, by decide, (tsG_of (mt4 186 rfl) rfl)⟩
set_option maxRecDepth 20000 in
theorem fX12_48 : fOK RX12 48 12 16 := ⟨RX12, TX12, 43, rfl, by decide, (tsG_of (mt4 187 rfl) rfl)⟩
set_option maxRecDepth 20000 in
theorem fX12_51 : fOK RX12 51 12 17 := ⟨RX12, TX12, 43, rfl, by decide, (tsG_of (mt4 188 rfl) rfl)⟩
set_option maxRecDepth 20000 in
theorem fX12_54 : fOK RX12 54 12 18 := ⟨RX12, TX12, 43, rfl, by decide, (tsG_of (mt4 189 rfl) rfl)⟩
set_option maxRecDepth 20000 in
theorem fX12_57 : fOK RX12 57 12 19 := ⟨RX12, TX12, 43, rfl, by decide, (tsG_of (mt4 190 rfl) rfl)⟩
set_option maxRecDepth 20000 in
theorem fX12_60 : fOK RX12 60 12 20 := ⟨RX12, TX12, 43, rfl, by decide, (tsG_of (mt4 191 rfl) rfl)⟩
set_option maxRecDepth 20000 in
theorem fX12_63 : fOK RX12 63 12 21 := ⟨RX12, TX12, 43, rfl, by decide, (tsG_of (mt4 192 rfl) rfl)⟩
set_option maxRecDepth 20000 in
theorem fX12_181 : fOK RX12 181 12 22 := ⟨RX12, TX12, 43, rfl, by decide, (tsG_of (mt4 193 rfl) rfl)⟩
set_option maxRecDepth 20000 in
theorem fX12_187 : fOK RX12 187 12 23 := ⟨RX12, TX12, 43, rfl, by decide, (tsG_of (mt4 194 rfl) rfl)⟩
set_option maxRecDepth 20000 in
theorem fX12_66 : fOK RX12 66 12 24 := ⟨RX12, TX12, 43, rfl, by decide, (tsG_of (mt4 195 rfl) rfl)⟩
set_option maxRecDepth 20000 in
theorem fX12_69 : fOK RX12 69 12 25 := ⟨RX12, TX12, 43, rfl, by decide, (tsG_of (mt4 196 rfl) rfl)⟩
set_option maxRecDepth 20000 in
theorem fX12_72 : fOK RX12 72 12 26 := ⟨RX12, TX12, 43, rfl, by decide, (tsG_of (mt4 197 rfl) rfl)⟩
set_option maxRecDepth 20000 in
theorem fX12_75 : fOK RX12 75 12 27 := ⟨RX12, TX12, 43, rfl, by decide, (tsG_of (mt4 198 rfl) rfl)⟩
set_option maxRecDepth 20000 in
theorem fX12_78 : fOK RX12 78 12 28 := ⟨RX12, TX12, 43, rfl, by decide, (tsG_of (mt4 199 rfl) rfl)⟩
set_option maxRecDepth 20000 in
theorem fX12_81 : fOK RX12 81 12 29 := ⟨RX12, TX12, 43, rfl, by decide, (tsG_of (mt4 200 rfl) rfl)⟩
set_option maxRecDepth 20000 in
theorem fX12_84 : fOK RX12 84 12 30 := ⟨RX12, TX12, 43, rfl, by decide, (tsG_of (mt4 201 rfl) rfl)⟩
set_option maxRecDepth 20000 in
theorem fX12_87 : fOK RX12 87 12 31 := ⟨RX12, TX12, 43, rfl, by decide, (tsG_of (mt4 202 rfl) rfl)⟩
set_option maxRecDepth 20000 in
theorem fX12_90 : fOK RX12 90 12 32 := ⟨RX12, TX12, 43, rfl, by decide, (tsG_of (mt4 203 rfl) rfl)⟩
set_option maxRecDepth 20000 in
theorem fX12_93 : fOK RX12 93 12 33 := ⟨RX12, TX12, 43, rfl, by decide, (tsG_of (mt4 204 rfl) rfl)⟩
set_option maxRecDepth 20000 in
theorem fX12_96 : fOK RX12 96 12 34 := ⟨RX12, TX12, 43, rfl, by decide, (tsG_of (mt4 205 rfl) rfl)⟩
set_option maxRecDepth 20000 in
theorem fX12_99 : fOK RX12 99 12 35 := ⟨RX12, TX12, 43, rfl, by decide, (tsG_of (mt4 206 rfl) rfl)⟩
set_option maxRecDepth 20000 in
theorem fX12_102 : fOK RX12 102 12 36 := ⟨RX12, TX12, 43, rfl, by decide, (tsG_of (mt4 207 rfl) rfl)⟩
set_option maxRecDepth 20000 in
theorem fX12_105 : fOK RX12 105 12 37 := ⟨RX12, TX12, 43, rfl, by decide, (tsG_of (mt4 208 rfl) rfl)⟩
set_option maxRecDepth 20000 in
theorem fX12_227 : fOK RX12 227 12 38 := ⟨RX12, TX12, 43, rfl, by decide, (tsG_of (mt4 209 rfl) rfl)⟩
set_option maxRecDepth 20000 in
theorem fX12_108 : fOK RX12 108 12 39 := ⟨RX12, TX12, 43, rfl, by decide, (tsG_of (mt4 210 rfl) rfl)⟩
set_option maxRecDepth 20000 in
theorem fX12_111 : fOK RX12 111 12 40 := ⟨RX12, TX12, 43, rfl, by decide, (tsG_of (mt4 211 rfl) rfl)⟩
set_option maxRecDepth 20000 in
theorem fX12_114 : fOK RX12 114 12 41 := ⟨RX12, TX12, 43, rfl, by decide, (tsG_of (mt4 212 rfl) rfl)⟩
set_option maxRecDepth 20000 in
theorem fX12_117 : fOK RX12 117 12 42 := ⟨RX12, TX12, 43, rfl, by decide, (tsG_of (mt4 213 rfl) rfl)⟩
set_option maxRecDepth 20000 in
theorem uX0_0 : fWr mX0_init 0 0 := ⟨RX0, TX0, 4, rfl, Or.inr ⟨rfl, rfl, rfl⟩⟩
set_option maxRecDepth 20000 in
theorem uX0_1 : fWr mX0_init 0 1 := ⟨RX0, TX0, 4, rfl, Or.inr ⟨rfl, rfl, rfl⟩⟩
set_option maxRecDepth 20000 in
theorem uX0_2 : fWr mX0_init 0 2 := ⟨RX0, TX0, 4, rfl, Or.inr ⟨rfl, rfl, rfl⟩⟩
set_option maxRecDepth 20000 in
theorem uX0_3 (M : aM) : fWr M 0 3 := ⟨RX0, TX0, 4, rfl, Or.inl rfl⟩
set_option maxRecDepth 20000 in
theorem uX1_0 : fWr mX1_init 1 0 := ⟨RX1, TX1, 5, rfl, Or.inr ⟨rfl, rfl, rfl⟩⟩
set_option maxRecDepth 20000 in
theorem uX1_1 : fWr mX1_init 1 1 := ⟨RX1, TX1, 5, rfl, Or.inr ⟨rfl, rfl, rfl⟩⟩
set_option maxRecDepth 20000 in
theorem uX1_2 : fWr mX1_init 1 2 := ⟨RX1, TX1, 5, rfl, Or.inr ⟨rfl, rfl, rfl⟩⟩
set_option maxRecDepth 20000 in
theorem uX1_3 : fWr mX1_init 1 3 := ⟨RX1, TX1, 5, rfl, Or.inr ⟨rfl, rfl, rfl⟩⟩
set_option maxRecDepth 20000 in
theorem uX1_4 (M : aM) : fWr M 1 4 := ⟨RX1, TX1, 5, rfl, Or.inl rfl⟩
set_option maxRecDepth 20000 in
theorem uX2_0 : fWr mX2_init 2 0 := ⟨RX2, TX2, 4, rfl, Or.inr ⟨rfl, rfl, rfl⟩⟩
set_option maxRecDepth 20000 in
theorem uX2_1 : fWr mX2_init 2 1 := ⟨RX2, TX2, 4, rfl, Or.inr ⟨rfl, rfl, rfl⟩⟩
set_option maxRecDepth 20000 in
theorem uX2_2 (M : aM) : fWr M 2 2 := ⟨RX2, TX2, 4, rfl, Or.inl rfl⟩
set_option maxRecDepth 20000 in
theorem uX2_3 (M : aM) : fWr M 2 3 := ⟨RX2, TX2, 4, rfl, Or.inl rfl⟩
set_option maxRecDepth 20000 in
theorem uX3_0 : fWr mX3_init 3 0 := ⟨RX3, TX3, 5, rfl, Or.inr ⟨rfl, rfl, rfl⟩⟩
set_option maxRecDepth 20000 in
theorem uX3_1 : fWr mX3_init 3 1 := ⟨RX3, TX3, 5, rfl, Or.inr ⟨rfl, rfl, rfl⟩⟩
set_option maxRecDepth 20000 in
theorem uX3_2 : fWr mX3_init 3 2 := ⟨RX3, TX3, 5, rfl, Or.inr ⟨rfl, rfl, rfl⟩⟩
set_option maxRecDepth 20000 in
theorem uX3_3 : fWr mX3_init 3 3 := ⟨RX3, TX3, 5, rfl, Or.inr ⟨rfl, rfl, rfl⟩⟩
set_option maxRecDepth 20000 in
theorem uX3_4 : fWr mX3_init 3 4 := ⟨RX3, TX3, 5, rfl, Or.inr ⟨rfl, rfl, rfl⟩⟩
set_option maxRecDepth 20000 in
theorem uX4_0 : fWr mX4_init 4 0 := ⟨RX4, TX4, 3, rfl, Or.inr ⟨rfl, rfl, rfl⟩⟩
set_option maxRecDepth 20000 in
theorem uX4_1 (M : aM) : fWr M 4 1 := ⟨RX4, TX4, 3, rfl, Or.inl rfl⟩
set_option maxRecDepth 20000 in
theorem uX4_2 (M : aM) : fWr M 4 2 := ⟨RX4, TX4, 3, rfl, Or.inl rfl⟩
set_option maxRecDepth 20000 in
theorem uX5_0 : fWr mX5_init 5 0 := ⟨RX5, TX5, 11, rfl, Or.inr ⟨rfl, rfl, rfl⟩⟩
set_option maxRecDepth 20000 in
theorem uX5_1 : fWr mX5_init 5 1 := ⟨RX5, TX5, 11, rfl, Or.inr ⟨rfl, rfl, rfl⟩⟩
set_option maxRecDepth 20000 in
theorem uX5_2 : fWr mX5_init 5 2 := ⟨RX5, TX5, 11, rfl, Or.inr ⟨rfl, rfl, rfl⟩⟩
set_option maxRecDepth 20000 in
theorem uX5_3 : fWr mX5_init 5 3 := ⟨RX5, TX5, 11, rfl, Or.inr ⟨rfl, rfl, rfl⟩⟩
set_option maxRecDepth 20000 in
theorem uX5_4 : fWr mX5_init 5 4 := ⟨RX5, TX5, 11, rfl, Or.inr ⟨rfl, rfl, rfl⟩⟩
set_option maxRecDepth 20000 in
theorem uX5_5 : fWr mX5_init 5 5 := ⟨RX5, TX5, 11, rfl, Or.inr ⟨rfl, rfl, rfl⟩⟩
set_option maxRecDepth 20000 in
theorem uX5_6 : fWr mX5_init 5 6 := ⟨RX5, TX5, 11, rfl, Or.inr ⟨rfl, rfl, rfl⟩⟩
set_option maxRecDepth 20000 in
theorem uX5_7 : fWr mX5_init 5 7 := ⟨RX5, TX5, 11, rfl, Or.inr ⟨rfl, rfl, rfl⟩⟩
set_option maxRecDepth 20000 in
theorem uX5_8 : fWr mX5_init 5 8 := ⟨RX5, TX5, 11, rfl, Or.inr ⟨rfl, rfl, rfl⟩⟩
set_option maxRecDepth 20000 in
theorem uX5_9 (M : aM) : fWr M 5 9 := ⟨RX5, TX5, 11, rfl, Or.inl rfl⟩
set_option maxRecDepth 20000 in
theorem uX5_10 (M : aM) : fWr M 5 10 := ⟨RX5, TX5, 11, rfl, Or.inl rfl⟩
set_option maxRecDepth 20000 in
theorem uX6_0 : fWr mX6_init 6 0 := ⟨RX6, TX6, 5, rfl, Or.inr ⟨rfl, rfl, rfl⟩⟩
set_option maxRecDepth 20000 in
theorem uX6_1 : fWr mX6_init 6 1 := ⟨RX6, TX6, 5, rfl, Or.inr ⟨rfl, rfl, rfl⟩⟩
set_option maxRecDepth 20000 in
theorem uX6_2 : fWr mX6_init 6 2 := ⟨RX6, TX6, 5, rfl, Or.inr ⟨rfl, rfl, rfl⟩⟩
set_option maxRecDepth 20000 in
theorem uX6_3 (M : aM) : fWr M 6 3 := ⟨RX6, TX6, 5, rfl, Or.inl rfl⟩
set_option maxRecDepth 20000 in
theorem uX6_4 (M : aM) : fWr M 6 4 := ⟨RX6, TX6, 5, rfl, Or.inl rfl⟩
set_option maxRecDepth 20000 in
theorem uX7_0 : fWr mX7_init 7 0 := ⟨RX7, TX7, 11, rfl, Or.inr ⟨rfl, rfl, rfl⟩⟩
set_option maxRecDepth 20000 in
theorem uX7_1 : fWr mX7_init 7 1 := ⟨RX7, TX7, 11, rfl, Or.inr ⟨rfl, rfl, rfl⟩⟩
set_option maxRecDepth 20000 in
theorem uX7_2 : fWr mX7_init 7 2 := ⟨RX7, TX7, 11, rfl, Or.inr ⟨rfl, rfl, rfl⟩⟩
set_option maxRecDepth 20000 in
theorem uX7_3 : fWr mX7_init 7 3 := ⟨RX7, TX7, 11, rfl, Or.inr ⟨rfl, rfl, rfl⟩⟩
set_option maxRecDepth 20000 in
theorem uX7_4 : fWr mX7_init 7 4 := ⟨RX7, TX7, 11, rfl, Or.inr ⟨rfl, rfl, rfl⟩⟩
set_option maxRecDepth 20000 in
theorem uX7_5 : fWr mX7_init 7 5 := ⟨RX7, TX7, 11, rfl, Or.inr ⟨rfl, rfl, rfl⟩⟩
set_option maxRecDepth 20000 in
theorem uX7_6 : fWr mX7_init 7 6 := ⟨RX7, TX7, 11, rfl, Or.inr ⟨rfl, rfl, rfl⟩⟩
set_option maxRecDepth 20000 in
theorem uX7_7 : fWr mX7_init 7 7 := ⟨RX7, TX7, 11, rfl, Or.inr ⟨rfl, rfl, rfl⟩⟩
set_option maxRecDepth 20000 in
theorem uX7_8 : fWr mX7_init 7 8 := ⟨RX7, TX7, 11, rfl, Or.inr ⟨rfl, rfl, rfl⟩⟩
set_option maxRecDepth 20000 in
theorem uX7_9 (M : aM) : fWr M 7 9 := ⟨RX7, TX7, 11, rfl, Or.inl rfl⟩
set_option maxRecDepth 20000 in
theorem uX7_10 (M : aM) : fWr M 7 10 := ⟨RX7, TX7, 11, rfl, Or.inl rfl⟩
set_option maxRecDepth 20000 in
theorem uX8_0 (M : aM) : fWr M 8 0 := ⟨RX8, TX8, 6, rfl, Or.inl rfl⟩
set_option maxRecDepth 20000 in
theorem uX8_1 (M : aM) : fWr M 8 1 := ⟨RX8, TX8, 6, rfl, Or.inl rfl⟩
set_option maxRecDepth 20000 in
theorem uX8_2 (M : aM) : fWr M 8 2 := ⟨RX8, TX8, 6, rfl, Or.inl rfl⟩
set_option maxRecDepth 20000 in
theorem uX8_3 (M : aM) : fWr M 8 3 := ⟨RX8, TX8, 6, rfl, Or.inl rfl⟩
set_option maxRecDepth 20000 in
theorem uX8_4 (M : aM) : fWr M 8 4 := ⟨RX8, TX8, 6, rfl, Or.inl rfl⟩
set_option maxRecDepth 20000 in
theorem uX8_5 (M : aM) : fWr M 8 5 := ⟨RX8, TX8, 6, rfl, Or.inl rfl⟩
set_option maxRecDepth 20000 in
theorem uX9_0 : fWr mX9_init 9 0 := ⟨RX9, TX9, 9, rfl, Or.inr ⟨rfl, rfl, rfl⟩⟩
set_option maxRecDepth 20000 in
theorem uX9_1 : fWr mX9_init 9 1 := ⟨RX9, TX9, 9, rfl, Or.inr ⟨rfl, rfl, rfl⟩⟩
set_option maxRecDepth 20000 in
theorem uX9_2 : fWr mX9_init 9 2 := ⟨RX9, TX9, 9, rfl, Or.inr ⟨rfl, rfl, rfl⟩⟩
set_option maxRecDepth 20000 in
theorem uX9_3 : fWr mX9_init 9 3 := ⟨RX9, TX9, 9, rfl, Or.inr ⟨rfl, rfl, rfl⟩⟩
set_option maxRecDepth 20000 in
theorem uX9_4 : fWr mX9_init 9 4 := ⟨RX9, TX9, 9, rfl, Or.inr ⟨rfl, rfl, rfl⟩⟩
set_option maxRecDepth 20000 in
theorem uX9_5 : fWr mX9_init 9 5 := ⟨RX9, TX9, 9, rfl, Or.inr ⟨rfl, rfl, rfl⟩⟩
set_option maxRecDepth 20000 in
theorem uX9_6 : fWr mX9_init 9 6 := ⟨RX9, TX9, 9, rfl, Or.inr ⟨rfl, rfl, rfl⟩⟩
set_option maxRecDepth 20000 in
theorem uX9_7 (M : aM) : fWr M 9 7 := ⟨RX9, TX9, 9, rfl, Or.inl rfl⟩
set_option maxRecDepth 20000 in
theorem uX9_8 (M : aM) : fWr M 9 8 := ⟨RX9, TX9, 9, rfl, Or.inl rfl⟩
set_option maxRecDepth 20000 in
theorem uX10_0 : fWr mX10_init 10 0 := ⟨RX10, TX10, 3, rfl, Or.inr ⟨rfl, rfl, rfl⟩⟩
set_option maxRecDepth 20000 in
theorem uX10_1 : fWr mX10_init 10 1 := ⟨RX10, TX10, 3, rfl, Or.inr ⟨rfl, rfl, rfl⟩⟩
set_option maxRecDepth 20000 in
theorem uX10_2 : fWr mX10_init 10 2 := ⟨RX10, TX10, 3, rfl, Or.inr ⟨rfl, rfl, rfl⟩⟩
set_option maxRecDepth 20000 in
theorem uX11_0 : fWr mX11_init 11 0 := ⟨RX11, TX11, 14, rfl, Or.inr ⟨rfl, rfl, rfl⟩⟩
set_option maxRecDepth 20000 in
theorem uX11_1 : fWr mX11_init 11 1 := ⟨RX11, TX11, 14, rfl, Or.inr ⟨rfl, rfl, rfl⟩⟩
set_option maxRecDepth 20000 in
theorem uX11_2 : fWr mX11_init 11 2 := ⟨RX11, TX11, 14, rfl, Or.inr ⟨rfl, rfl, rfl⟩⟩
set_option maxRecDepth 20000 in
theorem uX11_3 : fWr mX11_init 11 3 := ⟨RX11, TX11, 14, rfl, Or.inr ⟨rfl, rfl, rfl⟩⟩
set_option maxRecDepth 20000 in
theorem uX11_4 : fWr mX11_init 11 4 := ⟨RX11, TX11, 14, rfl, Or.inr ⟨rfl, rfl, rfl⟩⟩
set_option maxRecDepth 20000 in
theorem uX11_5 : fWr mX11_init 11 5 := ⟨RX11, TX11, 14, rfl, Or.inr ⟨rfl, rfl, rfl⟩⟩
set_option maxRecDepth 20000 in
theorem uX11_6 : fWr mX11_init 11 6 := ⟨RX11, TX11, 14, rfl, Or.inr ⟨rfl, rfl, rfl⟩⟩
set_option maxRecDepth 20000 in
theorem uX11_7 : fWr mX11_init 11 7 := ⟨RX11, TX11, 14, rfl, Or.inr ⟨rfl, rfl, rfl⟩⟩
set_option maxRecDepth 20000 in
theorem uX11_8 : fWr mX11_init 11 8 := ⟨RX11, TX11, 14, rfl, Or.inr ⟨rfl, rfl, rfl⟩⟩
set_option maxRecDepth 20000 in
theorem uX11_9 (M : aM) : fWr M 11 9 := ⟨RX11, TX11, 14, rfl, Or.inl rfl⟩
set_option maxRecDepth 20000 in
theorem uX11_10 (M : aM) : fWr M 11 10 := ⟨RX11, TX11, 14, rfl, Or.inl rfl⟩
set_option maxRecDepth 20000 in
theorem uX11_11 (M : aM) : fWr M 11 11 := ⟨RX11, TX11, 14, rfl, Or.inl rfl⟩
set_option maxRecDepth 20000 in
theorem uX11_12 (M : aM) : fWr M 11 12 := ⟨RX11, TX11, 14, rfl, Or.inl rfl⟩
set_option maxRecDepth 20000 in
theorem uX11_13 (M : aM) : fWr M 11 13 := ⟨RX11, TX11, 14, rfl, Or.inl rfl⟩
set_option maxRecDepth 20000 in
theorem uX12_0 (M : aM) : fWr M 12 0 := ⟨RX12, TX12, 43, rfl, Or.inl rfl⟩
set_option maxRecDepth 20000 in
theorem uX12_1 (M : aM) : fWr M 12 1 := ⟨RX12, TX12, 43, rfl, Or.inl rfl⟩
set_option maxRecDepth 20000 in
theorem uX12_2 : fWr mX12_init 12 2 := ⟨RX12, TX12, 43, rfl, Or.inr ⟨rfl, rfl, rfl⟩⟩
set_option maxRecDepth 20000 in
theorem uX12_3 (M : aM) : fWr M 12 3 := ⟨RX12, TX12, 43, rfl, Or.inl rfl⟩
set_option maxRecDepth 20000 in
theorem uX12_4 : fWr mX12_init 12 4 := ⟨RX12, TX12, 43, rfl, Or.inr ⟨rfl, rfl, rfl⟩⟩
set_option maxRecDepth 20000 in
theorem uX12_5 : fWr mX12_init 12 5 := ⟨RX12, TX12, 43, rfl, Or.inr ⟨rfl, rfl, rfl⟩⟩
set_option maxRecDepth 20000 in
theorem uX12_6 : fWr mX12_init 12 6 := ⟨RX12, TX12, 43, rfl, Or.inr ⟨rfl, rfl, rfl⟩⟩
set_option maxRecDepth 20000 in
theorem uX12_7 : fWr mX12_init 12 7 := ⟨RX12, TX12, 43, rfl, Or.inr ⟨rfl, rfl, rfl⟩⟩
set_option maxRecDepth 20000 in
theorem uX12_8 (M : aM) : fWr M 12 8 := ⟨RX12, TX12, 43, rfl, Or.inl rfl⟩
set_option maxRecDepth 20000 in
theorem uX12_9 : fWr mX12_init 12 9 := ⟨RX12, TX12, 43, rfl, Or.inr ⟨rfl, rfl, rfl⟩⟩
set_option maxRecDepth 20000 in
theorem uX12_10 : fWr mX12_init 12 10 := ⟨RX12, TX12, 43, rfl, Or.inr ⟨rfl, rfl, rfl⟩⟩
set_option maxRecDepth 20000 in
theorem uX12_11 : fWr mX12_init 12 11 := ⟨RX12, TX12, 43, rfl, Or.inr ⟨rfl, rfl, rfl⟩⟩
set_option maxRecDepth 20000 in
theorem uX12_12 : fWr mX12_init 12 12 := ⟨RX12, TX12, 43, rfl, Or.inr ⟨rfl, rfl, rfl⟩⟩
set_option maxRecDepth 20000 in
theorem uX12_13 : fWr mX12_init 12 13 := ⟨RX12, TX12, 43, rfl, Or.inr ⟨rfl, rfl, rfl⟩⟩
set_option maxRecDepth 20000 in
theorem uX12_14 (M : aM) : fWr M 12 14 := ⟨RX12, TX12, 43, rfl, Or.inl rfl⟩
set_option maxRecDepth 20000 in
theorem uX12_15 : fWr mX12_init 12 15 := ⟨RX12, TX12, 43, rfl, Or.inr ⟨rfl, rfl, rfl⟩⟩
set_option maxRecDepth 20000 in
theorem uX12_16 : fWr mX12_init 12 16 := ⟨RX12, TX12, 43, rfl, Or.inr ⟨rfl, rfl, rfl⟩⟩
set_option maxRecDepth 20000 in
theorem uX12_17 : fWr mX12_init 12 17 := ⟨RX12, TX12, 43, rfl, Or.inr ⟨rfl, rfl, rfl⟩⟩
set_option maxRecDepth 20000 in
theorem uX12_18 : fWr mX12_init 12 18 := ⟨RX12, TX12, 43, rfl, Or.inr ⟨rfl, rfl, rfl⟩⟩
set_option maxRecDepth 20000 in
theorem uX12_19 : fWr mX12_init 12 19 := ⟨RX12, TX12, 43, rfl, Or.inr ⟨rfl, rfl, rfl⟩⟩
set_option maxRecDepth 20000 in
theorem uX12_20 : fWr mX12_init 12 20 := ⟨RX12, TX12, 43, rfl, Or.inr ⟨rfl, rfl, rfl⟩⟩
set_option maxRecDepth 20000 in
theorem uX12_21 : fWr mX12_init 12 21 := ⟨RX12, TX12, 43, rfl, Or.inr ⟨rfl, rfl, rfl⟩⟩
set_option maxRecDepth 20000 in
theorem uX12_22 (M : aM) : fWr M 12 22 := ⟨RX12, TX12, 43, rfl, Or.inl rfl⟩
set_option maxRecDepth 20000 in
theorem uX12_23 (M : aM) : fWr M 12 23 := ⟨RX12, TX12, 43, rfl, Or.inl rfl⟩
set_option maxRecDepth 20000 in
theorem uX12_24 : fWr mX12_init 12 24 := ⟨RX12, TX12, 43, rfl, Or.inr ⟨rfl, rfl, rfl⟩⟩
set_option maxRecDepth 20000 in
theorem uX12_25 : fWr mX12_init 12 25 := ⟨RX12, TX12, 43, rfl, Or.inr ⟨rfl, rfl, rfl⟩⟩
set_option maxRecDepth 20000 in
theorem uX12_26 : fWr mX12_init 12 26 := ⟨RX12, TX12, 43, rfl, Or.inr ⟨rfl, rfl, rfl⟩⟩
set_option maxRecDepth 20000 in
theorem uX12_27 : fWr mX12_init 12 27 := ⟨RX12, TX12, 43, rfl, Or.inr ⟨rfl, rfl, rfl⟩⟩
set_option maxRecDepth 20000 in
theorem uX12_28 : fWr mX12_init 12 28 := ⟨RX12, TX12, 43, rfl, Or.inr ⟨rfl, rfl, rfl⟩⟩
set_option maxRecDepth 20000 in
theorem uX12_29 : fWr mX12_init 12 29 := ⟨RX12, TX12, 43, rfl, Or.inr ⟨rfl, rfl, rfl⟩⟩
set_option maxRecDepth 20000 in
theorem uX12_30 : fWr mX12_init 12 30 := ⟨RX12, TX12, 43, rfl, Or.inr ⟨rfl, rfl, rfl⟩⟩
set_option maxRecDepth 20000 in
theorem uX12_31 : fWr mX12_init 12 31 := ⟨RX12, TX12, 43, rfl, Or.inr ⟨rfl, rfl, rfl⟩⟩
set_option maxRecDepth 20000 in
theorem uX12_32 : fWr mX12_init 12 32 := ⟨RX12, TX12, 43, rfl, Or.inr ⟨rfl, rfl, rfl⟩⟩
set_option maxRecDepth 20000 in
theorem uX12_33 : fWr mX12_init 12 33 := ⟨RX12, TX12, 43, rfl, Or.inr ⟨rfl, rfl, rfl⟩⟩
set_option maxRecDepth 20000 in
theorem uX12_34 : fWr mX12_init 12 34 := ⟨RX12, TX12, 43, rfl, Or.inr ⟨rfl, rfl, rfl⟩⟩
set_option maxRecDepth 20000 in
theorem uX12_35 : fWr mX12_init 12 35 := ⟨RX12, TX12, 43, rfl, Or.inr ⟨rfl, rfl, rfl⟩⟩
set_option maxRecDepth 20000 in
theorem uX12_36 : fWr mX12_init 12 36 := ⟨RX12, TX12, 43, rfl, Or.inr ⟨rfl, rfl, rfl⟩⟩
set_option maxRecDepth 20000 in
theorem uX12_37 : fWr mX12_init 12 37 := ⟨RX12, TX12, 43, rfl, Or.inr ⟨rfl, rfl, rfl⟩⟩
set_option maxRecDepth 20000 in
theorem uX12_38 (M : aM) : fWr M 12 38 := ⟨RX12, TX12, 43, rfl, Or.inl rfl⟩
set_option maxRecDepth 20000 in
theorem uX12_39 : fWr mX12_init 12 39 := ⟨RX12, TX12, 43, rfl, Or.inr ⟨rfl, rfl, rfl⟩⟩
set_option maxRecDepth 20000 in
theorem uX12_40 : fWr mX12_init 12 40 := ⟨RX12, TX12, 43, rfl, Or.inr ⟨rfl, rfl, rfl⟩⟩
set_option maxRecDepth 20000 in
theorem uX12_41 : fWr mX12_init 12 41 := ⟨RX12, TX12, 43, rfl, Or.inr ⟨rfl, rfl, rfl⟩⟩
set_option maxRecDepth 20000 in
theorem uX12_42 : fWr mX12_init 12 42 := ⟨RX12, TX12, 43, rfl, Or.inr ⟨rfl, rfl, rfl⟩⟩
set_option maxRecDepth 20000 in
theorem lL_9 : Cond.methodLink RL 9 yX11_init ∈ tsG ∧ Cond.instanceMethod yX11_init ∈ tsG := ⟨(tsG_of (mt1 20 rfl) rfl), (tsG_of (mt1 21 rfl) rfl)⟩
set_option maxRecDepth 20000 in
theorem lX11_1 : Cond.methodLink RX11 1 objectInit ∈ tsG := (tsG_of (mt1 23 rfl) rfl)
set_option maxRecDepth 20000 in
theorem lX11_33 : Cond.methodLinkNest RX11 33 yX10_init "ClockCall" ∈ lw_tbl ∧ Cond.instanceMethod yX10_init ∈ tsG := ⟨(mt1 35 rfl), (tsG_of (mt1 36 rfl) rfl)⟩
set_option maxRecDepth 20000 in
theorem lX10_3 : Cond.methodLink RX10 3 objectInit ∈ tsG := (tsG_of (mt1 38 rfl) rfl)
set_option maxRecDepth 20000 in
theorem lX11_36 : Cond.methodLinkNest RX11 36 yX1_init "ClockCall" ∈ lw_tbl ∧ Cond.instanceMethod yX1_init ∈ tsG := ⟨(mt1 56 rfl), (tsG_of (mt1 57 rfl) rfl)⟩
set_option maxRecDepth 20000 in
theorem lX1_3 : Cond.methodLink RX1 3 objectInit ∈ tsG := (tsG_of (mt1 59 rfl) rfl)
set_option maxRecDepth 20000 in
theorem lX11_43 : Cond.methodLinkNest RX11 43 yX8_init "ClockCall" ∈ lw_tbl ∧ Cond.instanceMethod yX8_init ∈ tsG := ⟨(mt1 80 rfl), (tsG_of (mt1 81 rfl) rfl)⟩
set_option maxRecDepth 20000 in
theorem lX8_3 : Cond.methodLink RX8 3 objectInit ∈ tsG := (tsG_of (mt1 83 rfl) rfl)
set_option maxRecDepth 20000 in
theorem lX11_50 : Cond.methodLinkNest RX11 50 yX7_init "ClockCall" ∈ lw_tbl ∧ Cond.instanceMethod yX7_init ∈ tsG := ⟨(mt1 113 rfl), (tsG_of (mt1 114 rfl) rfl)⟩
set_option maxRecDepth 20000 in
theorem lX7_3 : Cond.methodLink RX7 3 objectInit ∈ tsG := (tsG_of (mt1 116 rfl) rfl)
set_option maxRecDepth 20000 in
theorem lX7_11 : Cond.methodLinkNest RX7 11 yX2_init "ClockCall" ∈ lw_tbl ∧ Cond.instanceMethod yX2_init ∈ tsG := ⟨(mt1 119 rfl), (tsG_of (mt1 120 rfl) rfl)⟩
set_option maxRecDepth 20000 in
theorem lX2_3 : Cond.methodLink RX2 3 objectInit ∈ tsG := (tsG_of (mt1 122 rfl) rfl)
set_option maxRecDepth 20000 in
theorem lX7_20 : Cond.methodLinkNest RX7 20 yX8_init "ClockCall" ∈ lw_tbl ∧ Cond.instanceMethod yX8_init ∈ tsG := ⟨(mt1 138 rfl), (tsG_of (mt1 81 rfl) rfl)⟩
set_option maxRecDepth 20000 in
theorem lX11_57 : Cond.methodLink RX11 57 yX5_init ∈ tsG ∧ Cond.instanceMethod yX5_init ∈ tsG := ⟨(tsG_of (mt1 177 rfl) rfl), (tsG_of (mt1 178 rfl) rfl)⟩
set_option maxRecDepth 20000 in
theorem lX5_3 : Cond.methodLink RX5 3 objectInit ∈ tsG := (tsG_of (mt1 180 rfl) rfl)
set_option maxRecDepth 20000 in
theorem lX5_11 : Cond.methodLinkNest RX5 11 yX2_init "ClockCall" ∈ lw_tbl ∧ Cond.instanceMethod yX2_init ∈ tsG := ⟨(mt1 182 rfl), (tsG_of (mt1 120 rfl) rfl)⟩
set_option maxRecDepth 20000 in
theorem lX5_20 : Cond.methodLinkNest RX5 20 yX1_init "ClockCall" ∈ lw_tbl ∧ Cond.instanceMethod yX1_init ∈ tsG := ⟨(mt1 184 rfl), (tsG_of (mt1 57 rfl) rfl)⟩
set_option maxRecDepth 20000 in
theorem lX5_56 : Cond.methodLinkNest RX5 56 yX8_init "ClockCall" ∈ lw_tbl ∧ Cond.instanceMethod yX8_init ∈ tsG := ⟨(mt1 189 rfl), (tsG_of (mt1 81 rfl) rfl)⟩
set_option maxRecDepth 20000 in
theorem lX11_64 : Cond.methodLinkNest RX11 64 yX0_init "ClockCall" ∈ lw_tbl ∧ Cond.instanceMethod yX0_init ∈ tsG := ⟨(mt1 226 rfl), (tsG_of (mt1 227 rfl) rfl)⟩
set_option maxRecDepth 20000 in
theorem lX0_3 : Cond.methodLink RX0 3 objectInit ∈ tsG := (tsG_of (mt1 229 rfl) rfl)
set_option maxRecDepth 20000 in
theorem lX0_11 : Cond.methodLinkNest RX0 11 yX8_init "ClockCall" ∈ lw_tbl ∧ Cond.instanceMethod yX8_init ∈ tsG := ⟨(mt1 231 rfl), (tsG_of (mt1 81 rfl) rfl)⟩
set_option maxRecDepth 20000 in
theorem lL_13 : Cond.methodLink RL 13 yX11_land ∈ tsG ∧ Cond.instanceMethod yX11_land ∈ tsG ∧ Cond.selects RX11 yX11_land yX11_land ∈ tsG := ⟨(tsG_of (mt2 48 rfl) rfl), (tsG_of (mt2 49 rfl) rfl), (tsG_of (mt2 50 rfl) rfl)⟩
set_option maxRecDepth 20000 in
theorem lX11_73 : Cond.methodLink RX11 73 yX11_isOffset ∈ tsG ∧ Cond.static yX11_isOffset ∈ tsG := ⟨(tsG_of (mt2 52 rfl) rfl), (tsG_of (mt2 53 rfl) rfl)⟩
set_option maxRecDepth 20000 in
theorem lX11_77 : Cond.methodLink RX11 77 yX4_init ∈ tsG ∧ Cond.instanceMethod yX4_init ∈ tsG := ⟨(tsG_of (mt2 56 rfl) rfl), (tsG_of (mt2 57 rfl) rfl)⟩
set_option maxRecDepth 20000 in
theorem lX4_3 : Cond.methodLink RX4 3 objectInit ∈ tsG := (tsG_of (mt2 59 rfl) rfl)
set_option maxRecDepth 20000 in
theorem lL_18 : Cond.methodLink RL 18 yX11_person ∈ tsG ∧ Cond.instanceMethod yX11_person ∈ tsG ∧ Cond.selects RX11 yX11_person yX11_person ∈ tsG := ⟨(tsG_of (mt2 72 rfl) rfl), (tsG_of (mt2 73 rfl) rfl), (tsG_of (mt2 74 rfl) rfl)⟩
set_option maxRecDepth 20000 in
theorem lX11_80 : Cond.methodLink RX11 80 yX11_landAt ∈ tsG ∧ Cond.instanceMethod yX11_landAt ∈ tsG ∧ Cond.selects RX11 yX11_landAt yX11_landAt ∈ tsG := ⟨(tsG_of (mt2 76 rfl) rfl), (tsG_of (mt2 78 rfl) rfl), (mp 0 rfl rfl)⟩
set_option maxRecDepth 20000 in
theorem lX11_87 : Cond.methodLink RX11 87 yX6_init ∈ tsG ∧ Cond.instanceMethod yX6_init ∈ tsG := ⟨(tsG_of (mt2 81 rfl) rfl), (tsG_of (mt2 82 rfl) rfl)⟩
set_option maxRecDepth 20000 in
theorem lX6_3 : Cond.methodLink RX6 3 objectInit ∈ tsG := (tsG_of (mt2 84 rfl) rfl)
set_option maxRecDepth 20000 in
theorem lL_23 : Cond.methodLink RL 23 yX11_row ∈ tsG ∧ Cond.instanceMethod yX11_row ∈ tsG ∧ Cond.selects RX11 yX11_row yX11_row ∈ tsG := ⟨(tsG_of (mt2 106 rfl) rfl), (tsG_of (mt2 107 rfl) rfl), (tsG_of (mt2 108 rfl) rfl)⟩
set_option maxRecDepth 20000 in
theorem lX11_90 : Cond.methodLink RX11 90 yX11_personAt ∈ tsG ∧ Cond.instanceMethod yX11_personAt ∈ tsG ∧ Cond.selects RX11 yX11_personAt yX11_personAt ∈ tsG := ⟨(tsG_of (mt2 110 rfl) rfl), (tsG_of (mt2 112 rfl) rfl), (mp 1 rfl rfl)⟩
set_option maxRecDepth 20000 in
theorem lX11_94 : Cond.methodLink RX11 94 yJ9_max_7cf53 ∈ tsG ∧ Cond.static yJ9_max_7cf53 ∈ tsG := ⟨(tsG_of (mt2 114 rfl) rfl), (tsG_of (mt2 115 rfl) rfl)⟩
set_option maxRecDepth 20000 in
theorem lX11_100 : Cond.methodLink RX11 100 yX6_clearCells ∈ tsG ∧ Cond.instanceMethod yX6_clearCells ∈ tsG ∧ Cond.selects RX6 yX6_clearCells yX6_clearCells ∈ tsG := ⟨(tsG_of (mt2 117 rfl) rfl), (tsG_of (mt2 118 rfl) rfl), (tsG_of (mt2 119 rfl) rfl)⟩
set_option maxRecDepth 20000 in
theorem lX6_26 : Cond.methodLink RX6 26 yJ7_fill_031fb ∈ tsG ∧ Cond.static yJ7_fill_031fb ∈ tsG := ⟨(tsG_of (mt2 121 rfl) rfl), (tsG_of (mt2 122 rfl) rfl)⟩
set_option maxRecDepth 20000 in
theorem lL_28 : Cond.methodLink RL 28 yX11_cell ∈ tsG ∧ Cond.instanceMethod yX11_cell ∈ tsG ∧ Cond.selects RX11 yX11_cell yX11_cell ∈ tsG := ⟨(tsG_of (mt2 124 rfl) rfl), (tsG_of (mt2 125 rfl) rfl), (tsG_of (mt2 126 rfl) rfl)⟩
set_option maxRecDepth 20000 in
theorem lL_51 : Cond.methodLink RL 51 yX11_series ∈ tsG ∧ Cond.instanceMethod yX11_series ∈ tsG ∧ Cond.selects RX11 yX11_series yX11_series ∈ tsG := ⟨(tsG_of (mt2 128 rfl) rfl), (tsG_of (mt2 129 rfl) rfl), (tsG_of (mt2 130 rfl) rfl)⟩
set_option maxRecDepth 20000 in
theorem lX11_110 : Cond.methodLink RX11 110 yX11_seriesAt ∈ tsG ∧ Cond.instanceMethod yX11_seriesAt ∈ tsG ∧ Cond.selects RX11 yX11_seriesAt yX11_seriesAt ∈ tsG := ⟨(tsG_of (mt2 132 rfl) rfl), (tsG_of (mt2 134 rfl) rfl), (mp 2 rfl rfl)⟩
set_option maxRecDepth 20000 in
theorem lX11_117 : Cond.methodLink RX11 117 yX9_init ∈ tsG ∧ Cond.instanceMethod yX9_init ∈ tsG := ⟨(tsG_of (mt2 137 rfl) rfl), (tsG_of (mt2 138 rfl) rfl)⟩
set_option maxRecDepth 20000 in
theorem lX9_3 : Cond.methodLink RX9 3 objectInit ∈ tsG := (tsG_of (mt2 140 rfl) rfl)
set_option maxRecDepth 20000 in
theorem lL_55 : Cond.methodLink RL 55 yX11_option ∈ tsG ∧ Cond.instanceMethod yX11_option ∈ tsG ∧ Cond.selects RX11 yX11_option yX11_option ∈ tsG := ⟨(tsG_of (mt2 185 rfl) rfl), (tsG_of (mt2 186 rfl) rfl), (tsG_of (mt2 187 rfl) rfl)⟩
set_option maxRecDepth 20000 in
theorem lL_59 : Cond.methodLink RL 59 yX11_role ∈ tsG ∧ Cond.instanceMethod yX11_role ∈ tsG ∧ Cond.selects RX11 yX11_role yX11_role ∈ tsG := ⟨(tsG_of (mt2 189 rfl) rfl), (tsG_of (mt2 190 rfl) rfl), (tsG_of (mt2 191 rfl) rfl)⟩
set_option maxRecDepth 20000 in
theorem lX11_127 : Cond.methodLink RX11 127 yX9_giveRole ∈ tsG ∧ Cond.instanceMethod yX9_giveRole ∈ tsG ∧ Cond.selects RX9 yX9_giveRole yX9_giveRole ∈ tsG := ⟨(tsG_of (mt2 193 rfl) rfl), (tsG_of (mt2 194 rfl) rfl), (tsG_of (mt2 195 rfl) rfl)⟩
set_option maxRecDepth 20000 in
theorem lL_117 : Cond.methodLink RL 117 yX11_count ∈ tsG ∧ Cond.instanceMethod yX11_count ∈ tsG ∧ Cond.selects RX11 yX11_count yX11_count ∈ tsG := ⟨(tsG_of (mt2 197 rfl) rfl), (tsG_of (mt2 198 rfl) rfl), (tsG_of (mt2 199 rfl) rfl)⟩
set_option maxRecDepth 20000 in
theorem lX11_134 : Cond.methodLink RX11 134 yX11_meetingCount ∈ tsG ∧ Cond.instanceMethod yX11_meetingCount ∈ tsG ∧ Cond.selects RX11 yX11_meetingCount yX11_meetingCount ∈ tsG := ⟨(tsG_of (mt2 201 rfl) rfl), (tsG_of (mt2 203 rfl) rfl), (mp 3 rfl rfl)⟩
set_option maxRecDepth 20000 in
theorem lL_33 : Cond.methodLink RL 33 yX11_change ∈ tsG ∧ Cond.instanceMethod yX11_change ∈ tsG ∧ Cond.selects RX11 yX11_change yX11_change ∈ tsG := ⟨(tsG_of (mt2 205 rfl) rfl), (tsG_of (mt2 206 rfl) rfl), (tsG_of (mt2 207 rfl) rfl)⟩
set_option maxRecDepth 20000 in
theorem lX11_138 : Cond.methodLink RX11 138 yX11_isSlot ∈ tsG ∧ Cond.static yX11_isSlot ∈ tsG := ⟨(tsG_of (mt2 209 rfl) rfl), (tsG_of (mt2 210 rfl) rfl)⟩
set_option maxRecDepth 20000 in
theorem lX11_147 : Cond.methodLink RX11 147 yX3_init ∈ tsG ∧ Cond.instanceMethod yX3_init ∈ tsG := ⟨(tsG_of (mt2 214 rfl) rfl), (tsG_of (mt2 215 rfl) rfl)⟩
set_option maxRecDepth 20000 in
theorem lX3_1 : Cond.methodLink RX3 1 objectInit ∈ tsG := (tsG_of (mt2 217 rfl) rfl)
set_option maxRecDepth 20000 in
theorem lL_38 : Cond.methodLink RL 38 yX11_feast ∈ tsG ∧ Cond.instanceMethod yX11_feast ∈ tsG ∧ Cond.selects RX11 yX11_feast yX11_feast ∈ tsG := ⟨(tsG_of (mt3 8 rfl) rfl), (tsG_of (mt3 9 rfl) rfl), (tsG_of (mt3 10 rfl) rfl)⟩
set_option maxRecDepth 20000 in
theorem lL_42 : Cond.methodLink RL 42 yX11_busy ∈ tsG ∧ Cond.instanceMethod yX11_busy ∈ tsG ∧ Cond.selects RX11 yX11_busy yX11_busy ∈ tsG := ⟨(tsG_of (mt3 12 rfl) rfl), (tsG_of (mt3 13 rfl) rfl), (tsG_of (mt3 14 rfl) rfl)⟩
set_option maxRecDepth 20000 in
theorem lL_47 : Cond.methodLink RL 47 yX11_cant ∈ tsG ∧ Cond.instanceMethod yX11_cant ∈ tsG ∧ Cond.selects RX11 yX11_cant yX11_cant ∈ tsG := ⟨(tsG_of (mt3 16 rfl) rfl), (tsG_of (mt3 17 rfl) rfl), (tsG_of (mt3 18 rfl) rfl)⟩
set_option maxRecDepth 20000 in
theorem lX11_156 : Cond.methodLink RX11 156 yX11_isWeek ∈ tsG ∧ Cond.static yX11_isWeek ∈ tsG := ⟨(tsG_of (mt3 20 rfl) rfl), (tsG_of (mt3 21 rfl) rfl)⟩
set_option maxRecDepth 20000 in
theorem lL_63 : Cond.methodLink RL 63 yX11_local ∈ tsG ∧ Cond.instanceMethod yX11_local ∈ tsG ∧ Cond.selects RX11 yX11_local yX11_local ∈ tsG := ⟨(tsG_of (mt3 23 rfl) rfl), (tsG_of (mt3 24 rfl) rfl), (tsG_of (mt3 25 rfl) rfl)⟩
set_option maxRecDepth 20000 in
theorem lX11_162 : Cond.methodLink RX11 162 yX11_isKnown ∈ tsG ∧ Cond.instanceMethod yX11_isKnown ∈ tsG ∧ Cond.selects RX11 yX11_isKnown yX11_isKnown ∈ tsG := ⟨(tsG_of (mt3 27 rfl) rfl), (tsG_of (mt3 29 rfl) rfl), (mp 4 rfl rfl)⟩
set_option maxRecDepth 20000 in
theorem lX11_166 : Cond.methodLink RX11 166 yX4_offsetAt ∈ tsG ∧ Cond.instanceMethod yX4_offsetAt ∈ tsG ∧ Cond.selects RX4 yX4_offsetAt yX4_offsetAt ∈ tsG := ⟨(tsG_of (mt3 32 rfl) rfl), (tsG_of (mt3 33 rfl) rfl), (tsG_of (mt3 34 rfl) rfl)⟩
set_option maxRecDepth 20000 in
theorem lX11_169 : Cond.methodLink RX11 169 yJ9_floorDiv_7cf53 ∈ tsG ∧ Cond.static yJ9_floorDiv_7cf53 ∈ tsG := ⟨(tsG_of (mt3 36 rfl) rfl), (tsG_of (mt3 37 rfl) rfl)⟩
set_option maxRecDepth 20000 in
theorem lX11_172 : Cond.methodLink RX11 172 yJ9_floorMod_7cf53 ∈ tsG ∧ Cond.static yJ9_floorMod_7cf53 ∈ tsG := ⟨(tsG_of (mt3 39 rfl) rfl), (tsG_of (mt3 40 rfl) rfl)⟩
set_option maxRecDepth 20000 in
theorem lL_68 : Cond.methodLink RL 68 yX11_when ∈ tsG ∧ Cond.instanceMethod yX11_when ∈ tsG ∧ Cond.selects RX11 yX11_when yX11_when ∈ tsG := ⟨(tsG_of (mt3 42 rfl) rfl), (tsG_of (mt3 43 rfl) rfl), (tsG_of (mt3 44 rfl) rfl)⟩
set_option maxRecDepth 20000 in
theorem lX11_175 : Cond.methodLink RX11 175 yJ9_min_7cf53 ∈ tsG ∧ Cond.static yJ9_min_7cf53 ∈ tsG := ⟨(tsG_of (mt3 46 rfl) rfl), (tsG_of (mt3 47 rfl) rfl)⟩
set_option maxRecDepth 20000 in
theorem lL_73 : Cond.methodLink RL 73 yX11_can ∈ tsG ∧ Cond.instanceMethod yX11_can ∈ tsG ∧ Cond.selects RX11 yX11_can yX11_can ∈ tsG := ⟨(tsG_of (mt3 49 rfl) rfl), (tsG_of (mt3 50 rfl) rfl), (tsG_of (mt3 51 rfl) rfl)⟩
set_option maxRecDepth 20000 in
theorem lX11_178 : Cond.methodLink RX11 178 yX11_isStretch ∈ tsG ∧ Cond.static yX11_isStretch ∈ tsG := ⟨(tsG_of (mt3 53 rfl) rfl), (tsG_of (mt3 54 rfl) rfl)⟩
set_option maxRecDepth 20000 in
theorem lX11_182 : Cond.methodLink RX11 182 yX6_hindrance ∈ tsG ∧ Cond.instanceMethod yX6_hindrance ∈ tsG ∧ Cond.selects RX6 yX6_hindrance yX6_hindrance ∈ tsG := ⟨(tsG_of (mt3 56 rfl) rfl), (tsG_of (mt3 57 rfl) rfl), (tsG_of (mt3 58 rfl) rfl)⟩
set_option maxRecDepth 20000 in
theorem lX6_59 : Cond.methodLink RX6 59 yX6_hindranceAt ∈ tsG ∧ Cond.instanceMethod yX6_hindranceAt ∈ tsG ∧ Cond.selects RX6 yX6_hindranceAt yX6_hindranceAt ∈ tsG := ⟨(tsG_of (mt3 60 rfl) rfl), (tsG_of (mt3 61 rfl) rfl), (tsG_of (mt3 62 rfl) rfl)⟩
set_option maxRecDepth 20000 in
theorem lX6_62 : Cond.methodLink RX6 62 yX4_offsetAt ∈ tsG ∧ Cond.instanceMethod yX4_offsetAt ∈ tsG ∧ Cond.selects RX4 yX4_offsetAt yX4_offsetAt ∈ tsG := ⟨(tsG_of (mt3 64 rfl) rfl), (tsG_of (mt3 33 rfl) rfl), (tsG_of (mt3 34 rfl) rfl)⟩
set_option maxRecDepth 20000 in
theorem lX6_67 : Cond.methodLink RX6 67 yJ9_floorDiv_7cf53 ∈ tsG ∧ Cond.static yJ9_floorDiv_7cf53 ∈ tsG := ⟨(tsG_of (mt3 65 rfl) rfl), (tsG_of (mt3 37 rfl) rfl)⟩
set_option maxRecDepth 20000 in
theorem lX6_70 : Cond.methodLink RX6 70 yX6_cellAt ∈ tsG ∧ Cond.instanceMethod yX6_cellAt ∈ tsG ∧ Cond.selects RX6 yX6_cellAt yX6_cellAt ∈ tsG := ⟨(tsG_of (mt3 66 rfl) rfl), (tsG_of (mt3 67 rfl) rfl), (tsG_of (mt3 68 rfl) rfl)⟩
set_option maxRecDepth 20000 in
theorem lX6_32 : Cond.methodLink RX6 32 yJ9_floorMod_7cf53 ∈ tsG ∧ Cond.static yJ9_floorMod_7cf53 ∈ tsG := ⟨(tsG_of (mt3 70 rfl) rfl), (tsG_of (mt3 40 rfl) rfl)⟩
set_option maxRecDepth 20000 in
theorem lX6_38 : Cond.methodLink RX6 38 yJ9_min_7cf53 ∈ tsG ∧ Cond.static yJ9_min_7cf53 ∈ tsG := ⟨(tsG_of (mt3 71 rfl) rfl), (tsG_of (mt3 47 rfl) rfl)⟩
set_option maxRecDepth 20000 in
theorem lX6_74 : Cond.methodLinkNest RX6 74 yX11_isIn "ClockCall" ∈ lw_tbl ∧ Cond.static yX11_isIn ∈ tsG := ⟨(mt3 72 rfl), (tsG_of (mt3 73 rfl) rfl)⟩
set_option maxRecDepth 20000 in
theorem lX6_78 : Cond.methodLink RX6 78 yX4_celebrates ∈ tsG ∧ Cond.instanceMethod yX4_celebrates ∈ tsG ∧ Cond.selects RX4 yX4_celebrates yX4_celebrates ∈ tsG := ⟨(tsG_of (mt3 75 rfl) rfl), (tsG_of (mt3 76 rfl) rfl), (tsG_of (mt3 77 rfl) rfl)⟩
set_option maxRecDepth 20000 in
theorem lX6_81 : Cond.methodLink RX6 81 yX6_spanAt ∈ tsG ∧ Cond.instanceMethod yX6_spanAt ∈ tsG ∧ Cond.selects RX6 yX6_spanAt yX6_spanAt ∈ tsG := ⟨(tsG_of (mt3 79 rfl) rfl), (tsG_of (mt3 80 rfl) rfl), (tsG_of (mt3 81 rfl) rfl)⟩
set_option maxRecDepth 20000 in
theorem lL_77 : Cond.methodLink RL 77 yX11_cost ∈ tsG ∧ Cond.instanceMethod yX11_cost ∈ tsG ∧ Cond.selects RX11 yX11_cost yX11_cost ∈ tsG := ⟨(tsG_of (mt3 83 rfl) rfl), (tsG_of (mt3 84 rfl) rfl), (tsG_of (mt3 85 rfl) rfl)⟩
set_option maxRecDepth 20000 in
theorem lX11_186 : Cond.methodLink RX11 186 yX6_price ∈ tsG ∧ Cond.instanceMethod yX6_price ∈ tsG ∧ Cond.selects RX6 yX6_price yX6_price ∈ tsG := ⟨(tsG_of (mt3 87 rfl) rfl), (tsG_of (mt3 88 rfl) rfl), (tsG_of (mt3 89 rfl) rfl)⟩
set_option maxRecDepth 20000 in
theorem lX6_85 : Cond.methodLink RX6 85 yJ9_max_7cf53 ∈ tsG ∧ Cond.static yJ9_max_7cf53 ∈ tsG := ⟨(tsG_of (mt3 91 rfl) rfl), (tsG_of (mt2 115 rfl) rfl)⟩
set_option maxRecDepth 20000 in
theorem lL_81 : Cond.methodLink RL 81 yX11_span ∈ tsG ∧ Cond.instanceMethod yX11_span ∈ tsG ∧ Cond.selects RX11 yX11_span yX11_span ∈ tsG := ⟨(tsG_of (mt3 92 rfl) rfl), (tsG_of (mt3 93 rfl) rfl), (tsG_of (mt3 94 rfl) rfl)⟩
set_option maxRecDepth 20000 in
theorem lX11_189 : Cond.methodLink RX11 189 yX6_spanAt ∈ tsG ∧ Cond.instanceMethod yX6_spanAt ∈ tsG ∧ Cond.selects RX6 yX6_spanAt yX6_spanAt ∈ tsG := ⟨(tsG_of (mt3 96 rfl) rfl), (tsG_of (mt3 80 rfl) rfl), (tsG_of (mt3 81 rfl) rfl)⟩
set_option maxRecDepth 20000 in
theorem lL_85 : Cond.methodLink RL 85 yX11_fits ∈ tsG ∧ Cond.instanceMethod yX11_fits ∈ tsG ∧ Cond.selects RX11 yX11_fits yX11_fits ∈ tsG := ⟨(tsG_of (mt3 97 rfl) rfl), (tsG_of (mt3 98 rfl) rfl), (tsG_of (mt3 99 rfl) rfl)⟩
set_option maxRecDepth 20000 in
theorem lX11_200 : Cond.methodLink RX11 200 yX9_choiceOf ∈ tsG ∧ Cond.instanceMethod yX9_choiceOf ∈ tsG ∧ Cond.selects RX9 yX9_choiceOf yX9_choiceOf ∈ tsG := ⟨(tsG_of (mt3 101 rfl) rfl), (tsG_of (mt3 102 rfl) rfl), (tsG_of (mt3 103 rfl) rfl)⟩
set_option maxRecDepth 20000 in
theorem lX9_61 : Cond.methodLink RX9 61 yX9_choices ∈ tsG ∧ Cond.instanceMethod yX9_choices ∈ tsG ∧ Cond.selects RX9 yX9_choices yX9_choices ∈ tsG := ⟨(tsG_of (mt3 105 rfl) rfl), (tsG_of (mt3 106 rfl) rfl), (tsG_of (mt3 107 rfl) rfl)⟩
set_option maxRecDepth 20000 in
theorem lX9_35 : Cond.methodLink RX9 35 yX9_isSplit ∈ tsG ∧ Cond.instanceMethod yX9_isSplit ∈ tsG ∧ Cond.selects RX9 yX9_isSplit yX9_isSplit ∈ tsG := ⟨(tsG_of (mt3 109 rfl) rfl), (tsG_of (mt3 110 rfl) rfl), (tsG_of (mt3 111 rfl) rfl)⟩
set_option maxRecDepth 20000 in
theorem lX9_65 : Cond.methodLink RX9 65 yX9_has ∈ tsG ∧ Cond.instanceMethod yX9_has ∈ tsG ∧ Cond.selects RX9 yX9_has yX9_has ∈ tsG := ⟨(tsG_of (mt3 113 rfl) rfl), (tsG_of (mt3 114 rfl) rfl), (tsG_of (mt3 115 rfl) rfl)⟩
set_option maxRecDepth 20000 in
theorem lX9_45 : Cond.methodLink RX9 45 yX9_firstOf ∈ tsG ∧ Cond.instanceMethod yX9_firstOf ∈ tsG ∧ Cond.selects RX9 yX9_firstOf yX9_firstOf ∈ tsG := ⟨(tsG_of (mt3 117 rfl) rfl), (tsG_of (mt3 118 rfl) rfl), (tsG_of (mt3 119 rfl) rfl)⟩
set_option maxRecDepth 20000 in
theorem lX9_49 : Cond.methodLink RX9 49 yX9_secondOf ∈ tsG ∧ Cond.instanceMethod yX9_secondOf ∈ tsG ∧ Cond.selects RX9 yX9_secondOf yX9_secondOf ∈ tsG := ⟨(tsG_of (mt3 123 rfl) rfl), (tsG_of (mt3 124 rfl) rfl), (tsG_of (mt3 125 rfl) rfl)⟩
set_option maxRecDepth 20000 in
theorem lX9_52 : Cond.methodLink RX9 52 yJ9_max_7cf53 ∈ tsG ∧ Cond.static yJ9_max_7cf53 ∈ tsG := ⟨(tsG_of (mt3 129 rfl) rfl), (tsG_of (mt2 115 rfl) rfl)⟩
set_option maxRecDepth 20000 in
theorem lX11_203 : Cond.methodLink RX11 203 yX11_seatLesser ∈ tsG ∧ Cond.instanceMethod yX11_seatLesser ∈ tsG ∧ Cond.selects RX11 yX11_seatLesser yX11_seatLesser ∈ tsG := ⟨(tsG_of (mt3 130 rfl) rfl), (tsG_of (mt3 132 rfl) rfl), (mp 5 rfl rfl)⟩
set_option maxRecDepth 20000 in
theorem lX11_284 : Cond.methodLink RX11 284 yX1_clear ∈ tsG ∧ Cond.instanceMethod yX1_clear ∈ tsG ∧ Cond.selects RX1 yX1_clear yX1_clear ∈ tsG := ⟨(tsG_of (mt3 134 rfl) rfl), (tsG_of (mt3 135 rfl) rfl), (tsG_of (mt3 136 rfl) rfl)⟩
set_option maxRecDepth 20000 in
theorem lX1_28 : Cond.methodLink RX1 28 yJ7_fill_53178 ∈ tsG ∧ Cond.static yJ7_fill_53178 ∈ tsG := ⟨(tsG_of (mt3 138 rfl) rfl), (tsG_of (mt3 139 rfl) rfl)⟩
set_option maxRecDepth 20000 in
theorem lX11_212 : Cond.methodLink RX11 212 yX9_everyone ∈ tsG ∧ Cond.instanceMethod yX9_everyone ∈ tsG ∧ Cond.selects RX9 yX9_everyone yX9_everyone ∈ tsG := ⟨(tsG_of (mt3 141 rfl) rfl), (tsG_of (mt3 142 rfl) rfl), (tsG_of (mt3 143 rfl) rfl)⟩
set_option maxRecDepth 20000 in
theorem lX9_69 : Cond.methodLink RX9 69 yX9_withRole ∈ tsG ∧ Cond.instanceMethod yX9_withRole ∈ tsG ∧ Cond.selects RX9 yX9_withRole yX9_withRole ∈ tsG := ⟨(tsG_of (mt3 145 rfl) rfl), (tsG_of (mt3 146 rfl) rfl), (tsG_of (mt3 147 rfl) rfl)⟩
set_option maxRecDepth 20000 in
theorem lX9_72 : Cond.methodLink RX9 72 yX9_chairAlone ∈ tsG ∧ Cond.instanceMethod yX9_chairAlone ∈ tsG ∧ Cond.selects RX9 yX9_chairAlone yX9_chairAlone ∈ tsG := ⟨(tsG_of (mt3 149 rfl) rfl), (tsG_of (mt3 150 rfl) rfl), (tsG_of (mt3 151 rfl) rfl)⟩
set_option maxRecDepth 20000 in
theorem lX11_287 : Cond.methodLink RX11 287 yX11_seat ∈ tsG ∧ Cond.instanceMethod yX11_seat ∈ tsG ∧ Cond.selects RX11 yX11_seat yX11_seat ∈ tsG := ⟨(tsG_of (mt3 153 rfl) rfl), (tsG_of (mt3 155 rfl) rfl), (mp 6 rfl rfl)⟩
set_option maxRecDepth 20000 in
theorem lX11_208 : Cond.methodLink RX11 208 yX9_optionsOf ∈ tsG ∧ Cond.instanceMethod yX9_optionsOf ∈ tsG ∧ Cond.selects RX9 yX9_optionsOf yX9_optionsOf ∈ tsG := ⟨(tsG_of (mt3 157 rfl) rfl), (tsG_of (mt3 158 rfl) rfl), (tsG_of (mt3 159 rfl) rfl)⟩
set_option maxRecDepth 20000 in
theorem lX11_215 : Cond.methodLink RX11 215 yX10_fill ∈ tsG ∧ Cond.instanceMethod yX10_fill ∈ tsG ∧ Cond.selects RX10 yX10_fill yX10_fill ∈ tsG := ⟨(tsG_of (mt3 161 rfl) rfl), (tsG_of (mt3 162 rfl) rfl), (tsG_of (mt3 163 rfl) rfl)⟩
set_option maxRecDepth 20000 in
theorem lX10_27 : Cond.methodLinkNest RX10 27 yX11_isIn "ClockCall" ∈ lw_tbl ∧ Cond.static yX11_isIn ∈ tsG := ⟨(mt3 165 rfl), (tsG_of (mt3 73 rfl) rfl)⟩
set_option maxRecDepth 20000 in
theorem lX10_31 : Cond.methodLink RX10 31 yX9_startOf ∈ tsG ∧ Cond.instanceMethod yX9_startOf ∈ tsG ∧ Cond.selects RX9 yX9_startOf yX9_startOf ∈ tsG := ⟨(tsG_of (mt3 166 rfl) rfl), (tsG_of (mt3 167 rfl) rfl), (tsG_of (mt3 168 rfl) rfl)⟩
set_option maxRecDepth 20000 in
theorem lX10_38 : Cond.methodLink RX10 38 yX9_hasCant ∈ tsG ∧ Cond.instanceMethod yX9_hasCant ∈ tsG ∧ Cond.selects RX9 yX9_hasCant yX9_hasCant ∈ tsG := ⟨(tsG_of (mt3 170 rfl) rfl), (tsG_of (mt3 171 rfl) rfl), (tsG_of (mt3 172 rfl) rfl)⟩
set_option maxRecDepth 20000 in
theorem lX10_42 : Cond.methodLink RX10 42 yX6_hindrance ∈ tsG ∧ Cond.instanceMethod yX6_hindrance ∈ tsG ∧ Cond.selects RX6 yX6_hindrance yX6_hindrance ∈ tsG := ⟨(tsG_of (mt3 174 rfl) rfl), (tsG_of (mt3 57 rfl) rfl), (tsG_of (mt3 58 rfl) rfl)⟩
set_option maxRecDepth 20000 in
theorem lX10_48 : Cond.methodLink RX10 48 yX6_price ∈ tsG ∧ Cond.instanceMethod yX6_price ∈ tsG ∧ Cond.selects RX6 yX6_price yX6_price ∈ tsG := ⟨(tsG_of (mt3 175 rfl) rfl), (tsG_of (mt3 88 rfl) rfl), (tsG_of (mt3 89 rfl) rfl)⟩
set_option maxRecDepth 20000 in
theorem lX11_312 : Cond.methodLink RX11 312 yX8_seat ∈ tsG ∧ Cond.instanceMethod yX8_seat ∈ tsG ∧ Cond.selects RX8 yX8_seat yX8_seat ∈ tsG := ⟨(tsG_of (mt3 176 rfl) rfl), (tsG_of (mt3 177 rfl) rfl), (tsG_of (mt3 178 rfl) rfl)⟩
set_option maxRecDepth 20000 in
theorem lX8_9 : Cond.methodLink RX8 9 yX9_firstOf ∈ tsG ∧ Cond.instanceMethod yX9_firstOf ∈ tsG ∧ Cond.selects RX9 yX9_firstOf yX9_firstOf ∈ tsG := ⟨(tsG_of (mt3 180 rfl) rfl), (tsG_of (mt3 118 rfl) rfl), (tsG_of (mt3 119 rfl) rfl)⟩
set_option maxRecDepth 20000 in
theorem lX8_21 : Cond.methodLink RX8 21 yX9_secondOf ∈ tsG ∧ Cond.instanceMethod yX9_secondOf ∈ tsG ∧ Cond.selects RX9 yX9_secondOf yX9_secondOf ∈ tsG := ⟨(tsG_of (mt3 181 rfl) rfl), (tsG_of (mt3 124 rfl) rfl), (tsG_of (mt3 125 rfl) rfl)⟩
set_option maxRecDepth 20000 in
theorem lX8_27 : Cond.methodLink RX8 27 yX8_freeAt ∈ tsG ∧ Cond.static yX8_freeAt ∈ tsG := ⟨(tsG_of (mt3 182 rfl) rfl), (tsG_of (mt3 183 rfl) rfl)⟩
set_option maxRecDepth 20000 in
theorem lX8_63 : Cond.methodLink RX8 63 yX1_engaged ∈ tsG ∧ Cond.instanceMethod yX1_engaged ∈ tsG ∧ Cond.selects RX1 yX1_engaged yX1_engaged ∈ tsG := ⟨(tsG_of (mt3 185 rfl) rfl), (tsG_of (mt3 186 rfl) rfl), (tsG_of (mt3 187 rfl) rfl)⟩
set_option maxRecDepth 20000 in
theorem lX8_37 : Cond.methodLink RX8 37 yX9_chairAlone ∈ tsG ∧ Cond.instanceMethod yX9_chairAlone ∈ tsG ∧ Cond.selects RX9 yX9_chairAlone yX9_chairAlone ∈ tsG := ⟨(tsG_of (mt3 189 rfl) rfl), (tsG_of (mt3 150 rfl) rfl), (tsG_of (mt3 151 rfl) rfl)⟩
set_option maxRecDepth 20000 in
theorem lX8_41 : Cond.methodLink RX8 41 yX8_preferSecond ∈ tsG ∧ Cond.instanceMethod yX8_preferSecond ∈ tsG ∧ Cond.selects RX8 yX8_preferSecond yX8_preferSecond ∈ tsG := ⟨(tsG_of (mt3 190 rfl) rfl), (tsG_of (mt3 192 rfl) rfl), (mp 7 rfl rfl)⟩
set_option maxRecDepth 20000 in
theorem lX8_69 : Cond.methodLinkNest RX8 69 yX11_isIn "ClockCall" ∈ lw_tbl ∧ Cond.static yX11_isIn ∈ tsG := ⟨(mt3 194 rfl), (tsG_of (mt3 73 rfl) rfl)⟩
set_option maxRecDepth 20000 in
theorem lX11_315 : Cond.methodLink RX11 315 yX1_put ∈ tsG ∧ Cond.instanceMethod yX1_put ∈ tsG ∧ Cond.selects RX1 yX1_put yX1_put ∈ tsG := ⟨(tsG_of (mt3 195 rfl) rfl), (tsG_of (mt3 196 rfl) rfl), (tsG_of (mt3 197 rfl) rfl)⟩
set_option maxRecDepth 20000 in
theorem lX1_52 : Cond.methodLink RX1 52 yX1_add ∈ tsG ∧ Cond.instanceMethod yX1_add ∈ tsG ∧ Cond.selects RX1 yX1_add yX1_add ∈ tsG := ⟨(tsG_of (mt3 199 rfl) rfl), (tsG_of (mt3 201 rfl) rfl), (mp 8 rfl rfl)⟩
set_option maxRecDepth 20000 in
theorem lX1_65 : Cond.methodLink RX1 65 yJ9_max_7cf53 ∈ tsG ∧ Cond.static yJ9_max_7cf53 ∈ tsG := ⟨(tsG_of (mt3 203 rfl) rfl), (tsG_of (mt2 115 rfl) rfl)⟩
set_option maxRecDepth 20000 in
theorem lX11_219 : Cond.methodLink RX11 219 yX8_suits ∈ tsG ∧ Cond.instanceMethod yX8_suits ∈ tsG ∧ Cond.selects RX8 yX8_suits yX8_suits ∈ tsG := ⟨(tsG_of (mt3 204 rfl) rfl), (tsG_of (mt3 205 rfl) rfl), (tsG_of (mt3 206 rfl) rfl)⟩
set_option maxRecDepth 20000 in
theorem lX8_89 : Cond.methodLink RX8 89 yX8_stands ∈ tsG ∧ Cond.static yX8_stands ∈ tsG := ⟨(tsG_of (mt3 208 rfl) rfl), (tsG_of (mt3 209 rfl) rfl)⟩
set_option maxRecDepth 20000 in
theorem lX8_76 : Cond.methodLink RX8 76 yX9_has ∈ tsG ∧ Cond.instanceMethod yX9_has ∈ tsG ∧ Cond.selects RX9 yX9_has yX9_has ∈ tsG := ⟨(tsG_of (mt3 211 rfl) rfl), (tsG_of (mt3 114 rfl) rfl), (tsG_of (mt3 115 rfl) rfl)⟩
set_option maxRecDepth 20000 in
theorem lX8_80 : Cond.methodLink RX8 80 yX9_isSplit ∈ tsG ∧ Cond.instanceMethod yX9_isSplit ∈ tsG ∧ Cond.selects RX9 yX9_isSplit yX9_isSplit ∈ tsG := ⟨(tsG_of (mt3 212 rfl) rfl), (tsG_of (mt3 110 rfl) rfl), (tsG_of (mt3 111 rfl) rfl)⟩
set_option maxRecDepth 20000 in
theorem lX8_84 : Cond.methodLink RX8 84 yJ9_abs_0f7a4 ∈ tsG ∧ Cond.static yJ9_abs_0f7a4 ∈ tsG := ⟨(tsG_of (mt3 213 rfl) rfl), (tsG_of (mt3 214 rfl) rfl)⟩
set_option maxRecDepth 20000 in
theorem lX8_93 : Cond.methodLink RX8 93 yX8_seat ∈ tsG ∧ Cond.instanceMethod yX8_seat ∈ tsG ∧ Cond.selects RX8 yX8_seat yX8_seat ∈ tsG := ⟨(tsG_of (mt3 216 rfl) rfl), (tsG_of (mt3 177 rfl) rfl), (tsG_of (mt3 178 rfl) rfl)⟩
set_option maxRecDepth 20000 in
theorem lX8_100 : Cond.methodLink RX8 100 yX8_isBehindChain ∈ tsG ∧ Cond.instanceMethod yX8_isBehindChain ∈ tsG ∧ Cond.selects RX8 yX8_isBehindChain yX8_isBehindChain ∈ tsG := ⟨(tsG_of (mt3 217 rfl) rfl), (tsG_of (mt3 219 rfl) rfl), (mp 9 rfl rfl)⟩
set_option maxRecDepth 20000 in
theorem lL_89 : Cond.methodLink RL 89 yX11_plan ∈ tsG ∧ Cond.instanceMethod yX11_plan ∈ tsG ∧ Cond.selects RX11 yX11_plan yX11_plan ∈ tsG := ⟨(tsG_of (mt3 221 rfl) rfl), (tsG_of (mt3 222 rfl) rfl), (tsG_of (mt3 223 rfl) rfl)⟩
set_option maxRecDepth 20000 in
theorem lX11_223 : Cond.methodLink RX11 223 yX9_mostWeeks ∈ tsG ∧ Cond.instanceMethod yX9_mostWeeks ∈ tsG ∧ Cond.selects RX9 yX9_mostWeeks yX9_mostWeeks ∈ tsG := ⟨(tsG_of (mt3 225 rfl) rfl), (tsG_of (mt3 226 rfl) rfl), (tsG_of (mt3 227 rfl) rfl)⟩
set_option maxRecDepth 20000 in
theorem lX11_229 : Cond.methodLink RX11 229 yX7_begin ∈ tsG ∧ Cond.instanceMethod yX7_begin ∈ tsG ∧ Cond.selects RX7 yX7_begin yX7_begin ∈ tsG := ⟨(tsG_of (mt3 229 rfl) rfl), (tsG_of (mt3 230 rfl) rfl), (tsG_of (mt3 231 rfl) rfl)⟩
set_option maxRecDepth 20000 in
theorem lX7_47 : Cond.methodLink RX7 47 yJ9_min_7cf53 ∈ tsG ∧ Cond.static yJ9_min_7cf53 ∈ tsG := ⟨(tsG_of (mt3 233 rfl) rfl), (tsG_of (mt3 47 rfl) rfl)⟩
set_option maxRecDepth 20000 in
theorem lX7_60 : Cond.methodLink RX7 60 yX2_begin ∈ tsG ∧ Cond.instanceMethod yX2_begin ∈ tsG ∧ Cond.selects RX2 yX2_begin yX2_begin ∈ tsG := ⟨(tsG_of (mt3 234 rfl) rfl), (tsG_of (mt3 235 rfl) rfl), (tsG_of (mt3 236 rfl) rfl)⟩
set_option maxRecDepth 20000 in
theorem lX2_18 : Cond.methodLink RX2 18 yJ9_min_7cf53 ∈ tsG ∧ Cond.static yJ9_min_7cf53 ∈ tsG := ⟨(tsG_of (mt3 238 rfl) rfl), (tsG_of (mt3 47 rfl) rfl)⟩
set_option maxRecDepth 20000 in
theorem lX7_64 : Cond.methodLink RX7 64 yJ7_fill_53178 ∈ tsG ∧ Cond.static yJ7_fill_53178 ∈ tsG := ⟨(tsG_of (mt3 239 rfl) rfl), (tsG_of (mt3 139 rfl) rfl)⟩
set_option maxRecDepth 20000 in
theorem lX11_232 : Cond.methodLink RX11 232 yX9_allOptions ∈ tsG ∧ Cond.instanceMethod yX9_allOptions ∈ tsG ∧ Cond.selects RX9 yX9_allOptions yX9_allOptions ∈ tsG := ⟨(tsG_of (mt4 0 rfl) rfl), (tsG_of (mt4 1 rfl) rfl), (tsG_of (mt4 2 rfl) rfl)⟩
set_option maxRecDepth 20000 in
theorem lX11_235 : Cond.methodLink RX11 235 yX7_rate ∈ tsG ∧ Cond.instanceMethod yX7_rate ∈ tsG ∧ Cond.selects RX7 yX7_rate yX7_rate ∈ tsG := ⟨(tsG_of (mt4 4 rfl) rfl), (tsG_of (mt4 5 rfl) rfl), (tsG_of (mt4 6 rfl) rfl)⟩
set_option maxRecDepth 20000 in
theorem lX7_70 : Cond.methodLink RX7 70 yX9_choices ∈ tsG ∧ Cond.instanceMethod yX9_choices ∈ tsG ∧ Cond.selects RX9 yX9_choices yX9_choices ∈ tsG := ⟨(tsG_of (mt4 8 rfl) rfl), (tsG_of (mt3 106 rfl) rfl), (tsG_of (mt3 107 rfl) rfl)⟩
set_option maxRecDepth 20000 in
theorem lX7_76 : Cond.methodLink RX7 76 yX8_suits ∈ tsG ∧ Cond.instanceMethod yX8_suits ∈ tsG ∧ Cond.selects RX8 yX8_suits yX8_suits ∈ tsG := ⟨(tsG_of (mt4 9 rfl) rfl), (tsG_of (mt3 205 rfl) rfl), (tsG_of (mt3 206 rfl) rfl)⟩
set_option maxRecDepth 20000 in
theorem lX7_80 : Cond.methodLink RX7 80 yX7_priceAt ∈ tsG ∧ Cond.static yX7_priceAt ∈ tsG := ⟨(tsG_of (mt4 10 rfl) rfl), (tsG_of (mt4 11 rfl) rfl)⟩
set_option maxRecDepth 20000 in
theorem lX7_83 : Cond.methodLink RX7 83 yX8_priceFor ∈ tsG ∧ Cond.instanceMethod yX8_priceFor ∈ tsG ∧ Cond.selects RX8 yX8_priceFor yX8_priceFor ∈ tsG := ⟨(tsG_of (mt4 13 rfl) rfl), (tsG_of (mt4 14 rfl) rfl), (tsG_of (mt4 15 rfl) rfl)⟩
set_option maxRecDepth 20000 in
theorem lX11_239 : Cond.methodLink RX11 239 yX0_find ∈ tsG ∧ Cond.instanceMethod yX0_find ∈ tsG ∧ Cond.selects RX0 yX0_find yX0_find ∈ tsG := ⟨(tsG_of (mt4 17 rfl) rfl), (tsG_of (mt4 18 rfl) rfl), (tsG_of (mt4 19 rfl) rfl)⟩
set_option maxRecDepth 20000 in
theorem lX0_25 : Cond.methodLink RX0 25 yX0_listSuspects ∈ tsG ∧ Cond.instanceMethod yX0_listSuspects ∈ tsG ∧ Cond.selects RX0 yX0_listSuspects yX0_listSuspects ∈ tsG := ⟨(tsG_of (mt4 21 rfl) rfl), (tsG_of (mt4 23 rfl) rfl), (mp 10 rfl rfl)⟩
set_option maxRecDepth 20000 in
theorem lX0_54 : Cond.methodLink RX0 54 yX9_chairAlone ∈ tsG ∧ Cond.instanceMethod yX9_chairAlone ∈ tsG ∧ Cond.selects RX9 yX9_chairAlone yX9_chairAlone ∈ tsG := ⟨(tsG_of (mt4 25 rfl) rfl), (tsG_of (mt3 150 rfl) rfl), (tsG_of (mt3 151 rfl) rfl)⟩
set_option maxRecDepth 20000 in
theorem lX0_61 : Cond.methodLinkNest RX0 61 yX11_isIn "ClockCall" ∈ lw_tbl ∧ Cond.static yX11_isIn ∈ tsG := ⟨(mt4 26 rfl), (tsG_of (mt3 73 rfl) rfl)⟩
set_option maxRecDepth 20000 in
theorem lX0_29 : Cond.methodLink RX0 29 yX9_choices ∈ tsG ∧ Cond.instanceMethod yX9_choices ∈ tsG ∧ Cond.selects RX9 yX9_choices yX9_choices ∈ tsG := ⟨(tsG_of (mt4 27 rfl) rfl), (tsG_of (mt3 106 rfl) rfl), (tsG_of (mt3 107 rfl) rfl)⟩
set_option maxRecDepth 20000 in
theorem lX0_35 : Cond.methodLink RX0 35 yX8_stands ∈ tsG ∧ Cond.static yX8_stands ∈ tsG := ⟨(tsG_of (mt4 28 rfl) rfl), (tsG_of (mt3 209 rfl) rfl)⟩
set_option maxRecDepth 20000 in
theorem lX0_39 : Cond.methodLink RX0 39 yX8_seat ∈ tsG ∧ Cond.instanceMethod yX8_seat ∈ tsG ∧ Cond.selects RX8 yX8_seat yX8_seat ∈ tsG := ⟨(tsG_of (mt4 29 rfl) rfl), (tsG_of (mt3 177 rfl) rfl), (tsG_of (mt3 178 rfl) rfl)⟩
set_option maxRecDepth 20000 in
theorem lX0_43 : Cond.methodLink RX0 43 yX0_noteHindered ∈ tsG ∧ Cond.instanceMethod yX0_noteHindered ∈ tsG ∧ Cond.selects RX0 yX0_noteHindered yX0_noteHindered ∈ tsG := ⟨(tsG_of (mt4 30 rfl) rfl), (tsG_of (mt4 32 rfl) rfl), (mp 11 rfl rfl)⟩
set_option maxRecDepth 20000 in
theorem lX0_47 : Cond.methodLink RX0 47 yX0_leastSet ∈ tsG ∧ Cond.instanceMethod yX0_leastSet ∈ tsG ∧ Cond.selects RX0 yX0_leastSet yX0_leastSet ∈ tsG := ⟨(tsG_of (mt4 34 rfl) rfl), (tsG_of (mt4 36 rfl) rfl), (mp 12 rfl rfl)⟩
set_option maxRecDepth 20000 in
theorem lX0_74 : Cond.methodLink RX0 74 yX0_hinderedBy ∈ tsG ∧ Cond.instanceMethod yX0_hinderedBy ∈ tsG ∧ Cond.selects RX0 yX0_hinderedBy yX0_hinderedBy ∈ tsG := ⟨(tsG_of (mt4 38 rfl) rfl), (tsG_of (mt4 40 rfl) rfl), (mp 13 rfl rfl)⟩
set_option maxRecDepth 20000 in
theorem lX0_77 : Cond.methodLink RX0 77 yJ6_bitCount_0f7a4 ∈ tsG ∧ Cond.static yJ6_bitCount_0f7a4 ∈ tsG := ⟨(tsG_of (mt4 42 rfl) rfl), (tsG_of (mt4 43 rfl) rfl)⟩
set_option maxRecDepth 20000 in
theorem lX0_82 : Cond.methodLink RX0 82 yX0_personsOf ∈ tsG ∧ Cond.instanceMethod yX0_personsOf ∈ tsG ∧ Cond.selects RX0 yX0_personsOf yX0_personsOf ∈ tsG := ⟨(tsG_of (mt4 48 rfl) rfl), (tsG_of (mt4 50 rfl) rfl), (mp 14 rfl rfl)⟩
set_option maxRecDepth 20000 in
theorem lX11_243 : Cond.methodLink RX11 243 yX7_findBest ∈ tsG ∧ Cond.instanceMethod yX7_findBest ∈ tsG ∧ Cond.selects RX7 yX7_findBest yX7_findBest ∈ tsG := ⟨(tsG_of (mt4 52 rfl) rfl), (tsG_of (mt4 53 rfl) rfl), (tsG_of (mt4 54 rfl) rfl)⟩
set_option maxRecDepth 20000 in
theorem lX7_87 : Cond.methodLink RX7 87 yX7_leastAt ∈ tsG ∧ Cond.instanceMethod yX7_leastAt ∈ tsG ∧ Cond.selects RX7 yX7_leastAt yX7_leastAt ∈ tsG := ⟨(tsG_of (mt4 56 rfl) rfl), (tsG_of (mt4 58 rfl) rfl), (mp 15 rfl rfl)⟩
set_option maxRecDepth 20000 in
theorem lX7_93 : Cond.methodLinkNest RX7 93 yX11_isIn "ClockCall" ∈ lw_tbl ∧ Cond.static yX11_isIn ∈ tsG := ⟨(mt4 60 rfl), (tsG_of (mt3 73 rfl) rfl)⟩
set_option maxRecDepth 20000 in
theorem lX7_90 : Cond.methodLink RX7 90 yX7_search ∈ tsG ∧ Cond.instanceMethod yX7_search ∈ tsG ∧ Cond.selects RX7 yX7_search yX7_search ∈ tsG := ⟨(tsG_of (mt4 61 rfl) rfl), (tsG_of (mt4 63 rfl) rfl), (mp 16 rfl rfl)⟩
set_option maxRecDepth 20000 in
theorem lX7_97 : Cond.methodLink RX7 97 yX2_isBetter ∈ tsG ∧ Cond.instanceMethod yX2_isBetter ∈ tsG ∧ Cond.selects RX2 yX2_isBetter yX2_isBetter ∈ tsG := ⟨(tsG_of (mt4 65 rfl) rfl), (tsG_of (mt4 66 rfl) rfl), (tsG_of (mt4 67 rfl) rfl)⟩
set_option maxRecDepth 20000 in
theorem lX2_32 : Cond.methodLink RX2 32 arraycopyName ∈ tsG ∧ Cond.native arraycopyName ∈ tsG ∧ Cond.static arraycopyName ∈ tsG ∧ Cond.initialized "java/lang/System" ∈ tsG := ⟨(tsG_of (mt4 69 rfl) rfl), (tsG_of (mt4 71 rfl) rfl), (tsG_of (mt4 70 rfl) rfl), (tsG_of (mt1 17 rfl) rfl)⟩
set_option maxRecDepth 20000 in
theorem lX2_38 : Cond.methodLink RX2 38 yX2_bringGreatest ∈ tsG ∧ Cond.instanceMethod yX2_bringGreatest ∈ tsG ∧ Cond.selects RX2 yX2_bringGreatest yX2_bringGreatest ∈ tsG := ⟨(tsG_of (mt4 72 rfl) rfl), (tsG_of (mt4 74 rfl) rfl), (mp 17 rfl rfl)⟩
set_option maxRecDepth 20000 in
theorem lX7_101 : Cond.methodLink RX7 101 yX2_keep ∈ tsG ∧ Cond.instanceMethod yX2_keep ∈ tsG ∧ Cond.selects RX2 yX2_keep yX2_keep ∈ tsG := ⟨(tsG_of (mt4 76 rfl) rfl), (tsG_of (mt4 77 rfl) rfl), (tsG_of (mt4 78 rfl) rfl)⟩
set_option maxRecDepth 20000 in
theorem lX7_105 : Cond.methodLink RX7 105 arraycopyName ∈ tsG ∧ Cond.native arraycopyName ∈ tsG ∧ Cond.static arraycopyName ∈ tsG ∧ Cond.initialized "java/lang/System" ∈ tsG := ⟨(tsG_of (mt4 80 rfl) rfl), (tsG_of (mt4 71 rfl) rfl), (tsG_of (mt4 70 rfl) rfl), (tsG_of (mt1 17 rfl) rfl)⟩
set_option maxRecDepth 20000 in
theorem lX7_111 : Cond.methodLink RX7 111 yX7_searchBehind ∈ tsG ∧ Cond.instanceMethod yX7_searchBehind ∈ tsG ∧ Cond.selects RX7 yX7_searchBehind yX7_searchBehind ∈ tsG := ⟨(tsG_of (mt4 81 rfl) rfl), (tsG_of (mt4 83 rfl) rfl), (mp 18 rfl rfl)⟩
set_option maxRecDepth 20000 in
theorem lX7_115 : Cond.methodLink RX7 115 yX7_charge ∈ tsG ∧ Cond.instanceMethod yX7_charge ∈ tsG ∧ Cond.selects RX7 yX7_charge yX7_charge ∈ tsG := ⟨(tsG_of (mt4 85 rfl) rfl), (tsG_of (mt4 87 rfl) rfl), (mp 19 rfl rfl)⟩
set_option maxRecDepth 20000 in
theorem lX11_256 : Cond.methodLink RX11 256 yX2_greatest ∈ tsG ∧ Cond.instanceMethod yX2_greatest ∈ tsG ∧ Cond.selects RX2 yX2_greatest yX2_greatest ∈ tsG := ⟨(tsG_of (mt4 89 rfl) rfl), (tsG_of (mt4 90 rfl) rfl), (tsG_of (mt4 91 rfl) rfl)⟩
set_option maxRecDepth 20000 in
theorem lL_93 : Cond.methodLink RL 93 yX11_stuck ∈ tsG ∧ Cond.instanceMethod yX11_stuck ∈ tsG ∧ Cond.selects RX11 yX11_stuck yX11_stuck ∈ tsG := ⟨(tsG_of (mt4 93 rfl) rfl), (tsG_of (mt4 94 rfl) rfl), (tsG_of (mt4 95 rfl) rfl)⟩
set_option maxRecDepth 20000 in
theorem lX11_261 : Cond.methodLink RX11 261 yX11_isIn ∈ tsG ∧ Cond.static yX11_isIn ∈ tsG := ⟨(tsG_of (mt4 97 rfl) rfl), (tsG_of (mt3 73 rfl) rfl)⟩
set_option maxRecDepth 20000 in
theorem lL_97 : Cond.methodLink RL 97 yX11_move ∈ tsG ∧ Cond.instanceMethod yX11_move ∈ tsG ∧ Cond.selects RX11 yX11_move yX11_move ∈ tsG := ⟨(tsG_of (mt4 98 rfl) rfl), (tsG_of (mt4 99 rfl) rfl), (tsG_of (mt4 100 rfl) rfl)⟩
set_option maxRecDepth 20000 in
theorem lX11_264 : Cond.methodLink RX11 264 yX5_begin ∈ tsG ∧ Cond.instanceMethod yX5_begin ∈ tsG ∧ Cond.selects RX5 yX5_begin yX5_begin ∈ tsG := ⟨(tsG_of (mt4 102 rfl) rfl), (tsG_of (mt4 103 rfl) rfl), (tsG_of (mt4 104 rfl) rfl)⟩
set_option maxRecDepth 20000 in
theorem lX5_57 : Cond.methodLink RX5 57 yJ9_min_7cf53 ∈ tsG ∧ Cond.static yJ9_min_7cf53 ∈ tsG := ⟨(tsG_of (mt4 106 rfl) rfl), (tsG_of (mt3 47 rfl) rfl)⟩
set_option maxRecDepth 20000 in
theorem lX5_70 : Cond.methodLink RX5 70 yX1_clear ∈ tsG ∧ Cond.instanceMethod yX1_clear ∈ tsG ∧ Cond.selects RX1 yX1_clear yX1_clear ∈ tsG := ⟨(tsG_of (mt4 107 rfl) rfl), (tsG_of (mt3 135 rfl) rfl), (tsG_of (mt3 136 rfl) rfl)⟩
set_option maxRecDepth 20000 in
theorem lX5_73 : Cond.methodLink RX5 73 yX2_begin ∈ tsG ∧ Cond.instanceMethod yX2_begin ∈ tsG ∧ Cond.selects RX2 yX2_begin yX2_begin ∈ tsG := ⟨(tsG_of (mt4 108 rfl) rfl), (tsG_of (mt3 235 rfl) rfl), (tsG_of (mt3 236 rfl) rfl)⟩
set_option maxRecDepth 20000 in
theorem lX5_77 : Cond.methodLink RX5 77 yJ7_fill_53178 ∈ tsG ∧ Cond.static yJ7_fill_53178 ∈ tsG := ⟨(tsG_of (mt4 109 rfl) rfl), (tsG_of (mt3 139 rfl) rfl)⟩
set_option maxRecDepth 20000 in
theorem lX11_266 : Cond.methodLink RX11 266 yX5_add ∈ tsG ∧ Cond.instanceMethod yX5_add ∈ tsG ∧ Cond.selects RX5 yX5_add yX5_add ∈ tsG := ⟨(tsG_of (mt4 110 rfl) rfl), (tsG_of (mt4 111 rfl) rfl), (tsG_of (mt4 112 rfl) rfl)⟩
set_option maxRecDepth 20000 in
theorem lX11_270 : Cond.methodLink RX11 270 yX5_findBest ∈ tsG ∧ Cond.instanceMethod yX5_findBest ∈ tsG ∧ Cond.selects RX5 yX5_findBest yX5_findBest ∈ tsG := ⟨(tsG_of (mt4 114 rfl) rfl), (tsG_of (mt4 115 rfl) rfl), (tsG_of (mt4 116 rfl) rfl)⟩
set_option maxRecDepth 20000 in
theorem lX5_83 : Cond.methodLink RX5 83 yX5_search ∈ tsG ∧ Cond.instanceMethod yX5_search ∈ tsG ∧ Cond.selects RX5 yX5_search yX5_search ∈ tsG := ⟨(tsG_of (mt4 118 rfl) rfl), (tsG_of (mt4 120 rfl) rfl), (mp 20 rfl rfl)⟩
set_option maxRecDepth 20000 in
theorem lX5_94 : Cond.methodLink RX5 94 yX2_isBetter ∈ tsG ∧ Cond.instanceMethod yX2_isBetter ∈ tsG ∧ Cond.selects RX2 yX2_isBetter yX2_isBetter ∈ tsG := ⟨(tsG_of (mt4 122 rfl) rfl), (tsG_of (mt4 66 rfl) rfl), (tsG_of (mt4 67 rfl) rfl)⟩
set_option maxRecDepth 20000 in
theorem lX5_98 : Cond.methodLink RX5 98 yX2_keep ∈ tsG ∧ Cond.instanceMethod yX2_keep ∈ tsG ∧ Cond.selects RX2 yX2_keep yX2_keep ∈ tsG := ⟨(tsG_of (mt4 123 rfl) rfl), (tsG_of (mt4 77 rfl) rfl), (tsG_of (mt4 78 rfl) rfl)⟩
set_option maxRecDepth 20000 in
theorem lX5_102 : Cond.methodLink RX5 102 arraycopyName ∈ tsG ∧ Cond.native arraycopyName ∈ tsG ∧ Cond.static arraycopyName ∈ tsG ∧ Cond.initialized "java/lang/System" ∈ tsG := ⟨(tsG_of (mt4 124 rfl) rfl), (tsG_of (mt4 71 rfl) rfl), (tsG_of (mt4 70 rfl) rfl), (tsG_of (mt1 17 rfl) rfl)⟩
set_option maxRecDepth 20000 in
theorem lX5_108 : Cond.methodLink RX5 108 yX9_choices ∈ tsG ∧ Cond.instanceMethod yX9_choices ∈ tsG ∧ Cond.selects RX9 yX9_choices yX9_choices ∈ tsG := ⟨(tsG_of (mt4 125 rfl) rfl), (tsG_of (mt3 106 rfl) rfl), (tsG_of (mt3 107 rfl) rfl)⟩
set_option maxRecDepth 20000 in
theorem lX5_112 : Cond.methodLink RX5 112 yX8_suits ∈ tsG ∧ Cond.instanceMethod yX8_suits ∈ tsG ∧ Cond.selects RX8 yX8_suits yX8_suits ∈ tsG := ⟨(tsG_of (mt4 126 rfl) rfl), (tsG_of (mt3 205 rfl) rfl), (tsG_of (mt3 206 rfl) rfl)⟩
set_option maxRecDepth 20000 in
theorem lX5_116 : Cond.methodLink RX5 116 yX5_searchBehind ∈ tsG ∧ Cond.instanceMethod yX5_searchBehind ∈ tsG ∧ Cond.selects RX5 yX5_searchBehind yX5_searchBehind ∈ tsG := ⟨(tsG_of (mt4 127 rfl) rfl), (tsG_of (mt4 129 rfl) rfl), (mp 21 rfl rfl)⟩
set_option maxRecDepth 20000 in
theorem lX5_120 : Cond.methodLink RX5 120 yX1_put ∈ tsG ∧ Cond.instanceMethod yX1_put ∈ tsG ∧ Cond.selects RX1 yX1_put yX1_put ∈ tsG := ⟨(tsG_of (mt4 131 rfl) rfl), (tsG_of (mt3 196 rfl) rfl), (tsG_of (mt3 197 rfl) rfl)⟩
set_option maxRecDepth 20000 in
theorem lX5_124 : Cond.methodLink RX5 124 yX5_charge ∈ tsG ∧ Cond.instanceMethod yX5_charge ∈ tsG ∧ Cond.selects RX5 yX5_charge yX5_charge ∈ tsG := ⟨(tsG_of (mt4 132 rfl) rfl), (tsG_of (mt4 134 rfl) rfl), (mp 22 rfl rfl)⟩
set_option maxRecDepth 20000 in
theorem lX5_127 : Cond.methodLink RX5 127 yX8_priceFor ∈ tsG ∧ Cond.instanceMethod yX8_priceFor ∈ tsG ∧ Cond.selects RX8 yX8_priceFor yX8_priceFor ∈ tsG := ⟨(tsG_of (mt4 136 rfl) rfl), (tsG_of (mt4 14 rfl) rfl), (tsG_of (mt4 15 rfl) rfl)⟩
set_option maxRecDepth 20000 in
theorem lX11_272 : Cond.methodLink RX11 272 yX5_settle ∈ tsG ∧ Cond.instanceMethod yX5_settle ∈ tsG ∧ Cond.selects RX5 yX5_settle yX5_settle ∈ tsG := ⟨(tsG_of (mt4 137 rfl) rfl), (tsG_of (mt4 138 rfl) rfl), (tsG_of (mt4 139 rfl) rfl)⟩
set_option maxRecDepth 20000 in
theorem lL_101 : Cond.methodLink RL 101 yX11_planned ∈ tsG ∧ Cond.instanceMethod yX11_planned ∈ tsG ∧ Cond.selects RX11 yX11_planned yX11_planned ∈ tsG := ⟨(tsG_of (mt4 141 rfl) rfl), (tsG_of (mt4 142 rfl) rfl), (tsG_of (mt4 143 rfl) rfl)⟩
set_option maxRecDepth 20000 in
theorem lX11_275 : Cond.methodLink RX11 275 yX9_firstOf ∈ tsG ∧ Cond.instanceMethod yX9_firstOf ∈ tsG ∧ Cond.selects RX9 yX9_firstOf yX9_firstOf ∈ tsG := ⟨(tsG_of (mt4 145 rfl) rfl), (tsG_of (mt3 118 rfl) rfl), (tsG_of (mt3 119 rfl) rfl)⟩
set_option maxRecDepth 20000 in
theorem lX11_278 : Cond.methodLink RX11 278 yX9_secondOf ∈ tsG ∧ Cond.instanceMethod yX9_secondOf ∈ tsG ∧ Cond.selects RX9 yX9_secondOf yX9_secondOf ∈ tsG := ⟨(tsG_of (mt4 146 rfl) rfl), (tsG_of (mt3 124 rfl) rfl), (tsG_of (mt3 125 rfl) rfl)⟩
set_option maxRecDepth 20000 in
theorem lX11_281 : Cond.methodLink RX11 281 yX9_startOf ∈ tsG ∧ Cond.instanceMethod yX9_startOf ∈ tsG ∧ Cond.selects RX9 yX9_startOf yX9_startOf ∈ tsG := ⟨(tsG_of (mt4 147 rfl) rfl), (tsG_of (mt3 167 rfl) rfl), (tsG_of (mt3 168 rfl) rfl)⟩
set_option maxRecDepth 20000 in
theorem lL_105 : Cond.methodLink RL 105 yX11_comes ∈ tsG ∧ Cond.instanceMethod yX11_comes ∈ tsG ∧ Cond.selects RX11 yX11_comes yX11_comes ∈ tsG := ⟨(tsG_of (mt4 148 rfl) rfl), (tsG_of (mt4 149 rfl) rfl), (tsG_of (mt4 150 rfl) rfl)⟩
set_option maxRecDepth 20000 in
theorem lL_109 : Cond.methodLink RL 109 yX11_sum ∈ tsG ∧ Cond.instanceMethod yX11_sum ∈ tsG ∧ Cond.selects RX11 yX11_sum yX11_sum ∈ tsG := ⟨(tsG_of (mt4 152 rfl) rfl), (tsG_of (mt4 153 rfl) rfl), (tsG_of (mt4 154 rfl) rfl)⟩
set_option maxRecDepth 20000 in
theorem lX11_297 : Cond.methodLink RX11 297 yX8_priceFor ∈ tsG ∧ Cond.instanceMethod yX8_priceFor ∈ tsG ∧ Cond.selects RX8 yX8_priceFor yX8_priceFor ∈ tsG := ⟨(tsG_of (mt4 156 rfl) rfl), (tsG_of (mt4 14 rfl) rfl), (tsG_of (mt4 15 rfl) rfl)⟩
set_option maxRecDepth 20000 in
theorem lL_113 : Cond.methodLink RL 113 yX11_shifted ∈ tsG ∧ Cond.instanceMethod yX11_shifted ∈ tsG ∧ Cond.selects RX11 yX11_shifted yX11_shifted ∈ tsG := ⟨(tsG_of (mt4 157 rfl) rfl), (tsG_of (mt4 158 rfl) rfl), (tsG_of (mt4 159 rfl) rfl)⟩
set_option maxRecDepth 20000 in
theorem lX11_301 : Cond.methodLink RX11 301 yX11_isShifted ∈ tsG ∧ Cond.instanceMethod yX11_isShifted ∈ tsG ∧ Cond.selects RX11 yX11_isShifted yX11_isShifted ∈ tsG := ⟨(tsG_of (mt4 161 rfl) rfl), (tsG_of (mt4 163 rfl) rfl), (mp 23 rfl rfl)⟩
set_option maxRecDepth 20000 in
theorem lX11_305 : Cond.methodLink RX11 305 yX9_withRole ∈ tsG ∧ Cond.instanceMethod yX9_withRole ∈ tsG ∧ Cond.selects RX9 yX9_withRole yX9_withRole ∈ tsG := ⟨(tsG_of (mt4 165 rfl) rfl), (tsG_of (mt3 146 rfl) rfl), (tsG_of (mt3 147 rfl) rfl)⟩
set_option maxRecDepth 20000 in
theorem lL_12 : Cond.methodLink RL 12 yX12_init ∈ tsG ∧ Cond.instanceMethod yX12_init ∈ tsG := ⟨(tsG_of (mt4 168 rfl) rfl), (tsG_of (mt4 169 rfl) rfl)⟩
set_option maxRecDepth 20000 in
theorem lX12_7 : Cond.methodLink RX12 7 objectInit ∈ tsG := (tsG_of (mt4 171 rfl) rfl)
set_option maxRecDepth 20000 in
theorem lL_17 : Cond.methodLink RL 17 yX12_land ∈ tsG ∧ Cond.instanceMethod yX12_land ∈ tsG ∧ Cond.selects RX12 yX12_land yX12_land ∈ tsG := ⟨(tsG_of (mt5 62 rfl) rfl), (tsG_of (mt5 63 rfl) rfl), (tsG_of (mt5 64 rfl) rfl)⟩
set_option maxRecDepth 20000 in
theorem lX12_132 : Cond.methodLink RX12 132 yX12_isOffset ∈ tsG ∧ Cond.static yX12_isOffset ∈ tsG := ⟨(tsG_of (mt5 66 rfl) rfl), (tsG_of (mt5 67 rfl) rfl)⟩
set_option maxRecDepth 20000 in
theorem lL_22 : Cond.methodLink RL 22 yX12_person ∈ tsG ∧ Cond.instanceMethod yX12_person ∈ tsG ∧ Cond.selects RX12 yX12_person yX12_person ∈ tsG := ⟨(tsG_of (mt5 69 rfl) rfl), (tsG_of (mt5 70 rfl) rfl), (tsG_of (mt5 71 rfl) rfl)⟩
set_option maxRecDepth 20000 in
theorem lX12_136 : Cond.methodLink RX12 136 yX12_isLand ∈ tsG ∧ Cond.instanceMethod yX12_isLand ∈ tsG ∧ Cond.selects RX12 yX12_isLand yX12_isLand ∈ tsG := ⟨(tsG_of (mt5 73 rfl) rfl), (tsG_of (mt5 75 rfl) rfl), (mp 24 rfl rfl)⟩
set_option maxRecDepth 20000 in
theorem lL_27 : Cond.methodLink RL 27 yX12_row ∈ tsG ∧ Cond.instanceMethod yX12_row ∈ tsG ∧ Cond.selects RX12 yX12_row yX12_row ∈ tsG := ⟨(tsG_of (mt5 77 rfl) rfl), (tsG_of (mt5 78 rfl) rfl), (tsG_of (mt5 79 rfl) rfl)⟩
set_option maxRecDepth 20000 in
theorem lX12_139 : Cond.methodLink RX12 139 yX12_isPerson ∈ tsG ∧ Cond.instanceMethod yX12_isPerson ∈ tsG ∧ Cond.selects RX12 yX12_isPerson yX12_isPerson ∈ tsG := ⟨(tsG_of (mt5 81 rfl) rfl), (tsG_of (mt5 83 rfl) rfl), (mp 25 rfl rfl)⟩
set_option maxRecDepth 20000 in
theorem lL_32 : Cond.methodLink RL 32 yX12_cell ∈ tsG ∧ Cond.instanceMethod yX12_cell ∈ tsG ∧ Cond.selects RX12 yX12_cell yX12_cell ∈ tsG := ⟨(tsG_of (mt5 85 rfl) rfl), (tsG_of (mt5 86 rfl) rfl), (tsG_of (mt5 87 rfl) rfl)⟩
set_option maxRecDepth 20000 in
theorem lL_37 : Cond.methodLink RL 37 yX12_change ∈ tsG ∧ Cond.instanceMethod yX12_change ∈ tsG ∧ Cond.selects RX12 yX12_change yX12_change ∈ tsG := ⟨(tsG_of (mt5 89 rfl) rfl), (tsG_of (mt5 90 rfl) rfl), (tsG_of (mt5 91 rfl) rfl)⟩
set_option maxRecDepth 20000 in
theorem lX12_142 : Cond.methodLink RX12 142 yX12_fact ∈ tsG ∧ Cond.instanceMethod yX12_fact ∈ tsG ∧ Cond.selects RX12 yX12_fact yX12_fact ∈ tsG := ⟨(tsG_of (mt5 93 rfl) rfl), (tsG_of (mt5 95 rfl) rfl), (mp 26 rfl rfl)⟩
set_option maxRecDepth 20000 in
theorem lL_41 : Cond.methodLink RL 41 yX12_feast ∈ tsG ∧ Cond.instanceMethod yX12_feast ∈ tsG ∧ Cond.selects RX12 yX12_feast yX12_feast ∈ tsG := ⟨(tsG_of (mt5 97 rfl) rfl), (tsG_of (mt5 98 rfl) rfl), (tsG_of (mt5 99 rfl) rfl)⟩
set_option maxRecDepth 20000 in
theorem lL_46 : Cond.methodLink RL 46 yX12_busy ∈ tsG ∧ Cond.instanceMethod yX12_busy ∈ tsG ∧ Cond.selects RX12 yX12_busy yX12_busy ∈ tsG := ⟨(tsG_of (mt5 101 rfl) rfl), (tsG_of (mt5 102 rfl) rfl), (tsG_of (mt5 103 rfl) rfl)⟩
set_option maxRecDepth 20000 in
theorem lL_50 : Cond.methodLink RL 50 yX12_cant ∈ tsG ∧ Cond.instanceMethod yX12_cant ∈ tsG ∧ Cond.selects RX12 yX12_cant yX12_cant ∈ tsG := ⟨(tsG_of (mt5 105 rfl) rfl), (tsG_of (mt5 106 rfl) rfl), (tsG_of (mt5 107 rfl) rfl)⟩
set_option maxRecDepth 20000 in
theorem lX12_146 : Cond.methodLink RX12 146 yX12_isSeries ∈ tsG ∧ Cond.instanceMethod yX12_isSeries ∈ tsG ∧ Cond.selects RX12 yX12_isSeries yX12_isSeries ∈ tsG := ⟨(tsG_of (mt5 109 rfl) rfl), (tsG_of (mt5 111 rfl) rfl), (mp 27 rfl rfl)⟩
set_option maxRecDepth 20000 in
theorem lX12_149 : Cond.methodLink RX12 149 yX12_isWeek ∈ tsG ∧ Cond.static yX12_isWeek ∈ tsG := ⟨(tsG_of (mt5 113 rfl) rfl), (tsG_of (mt5 114 rfl) rfl)⟩
set_option maxRecDepth 20000 in
theorem lL_67 : Cond.methodLink RL 67 yX12_local ∈ tsG ∧ Cond.instanceMethod yX12_local ∈ tsG ∧ Cond.selects RX12 yX12_local yX12_local ∈ tsG := ⟨(tsG_of (mt5 116 rfl) rfl), (tsG_of (mt5 117 rfl) rfl), (tsG_of (mt5 118 rfl) rfl)⟩
set_option maxRecDepth 20000 in
theorem lX12_152 : Cond.methodLink RX12 152 yX12_isKnown ∈ tsG ∧ Cond.instanceMethod yX12_isKnown ∈ tsG ∧ Cond.selects RX12 yX12_isKnown yX12_isKnown ∈ tsG := ⟨(tsG_of (mt5 120 rfl) rfl), (tsG_of (mt5 122 rfl) rfl), (mp 28 rfl rfl)⟩
set_option maxRecDepth 20000 in
theorem lX12_156 : Cond.methodLink RX12 156 yX12_offsetAt ∈ tsG ∧ Cond.instanceMethod yX12_offsetAt ∈ tsG ∧ Cond.selects RX12 yX12_offsetAt yX12_offsetAt ∈ tsG := ⟨(tsG_of (mt5 125 rfl) rfl), (tsG_of (mt5 127 rfl) rfl), (mp 29 rfl rfl)⟩
set_option maxRecDepth 20000 in
theorem lX12_160 : Cond.methodLink RX12 160 yX12_down ∈ tsG ∧ Cond.static yX12_down ∈ tsG := ⟨(tsG_of (mt5 129 rfl) rfl), (tsG_of (mt5 130 rfl) rfl)⟩
set_option maxRecDepth 20000 in
theorem lL_72 : Cond.methodLink RL 72 yX12_when ∈ tsG ∧ Cond.instanceMethod yX12_when ∈ tsG ∧ Cond.selects RX12 yX12_when yX12_when ∈ tsG := ⟨(tsG_of (mt5 132 rfl) rfl), (tsG_of (mt5 133 rfl) rfl), (tsG_of (mt5 134 rfl) rfl)⟩
set_option maxRecDepth 20000 in
theorem lL_76 : Cond.methodLink RL 76 yX12_can ∈ tsG ∧ Cond.instanceMethod yX12_can ∈ tsG ∧ Cond.selects RX12 yX12_can yX12_can ∈ tsG := ⟨(tsG_of (mt5 136 rfl) rfl), (tsG_of (mt5 137 rfl) rfl), (tsG_of (mt5 138 rfl) rfl)⟩
set_option maxRecDepth 20000 in
theorem lX12_170 : Cond.methodLink RX12 170 yX12_isSpan ∈ tsG ∧ Cond.instanceMethod yX12_isSpan ∈ tsG ∧ Cond.selects RX12 yX12_isSpan yX12_isSpan ∈ tsG := ⟨(tsG_of (mt5 140 rfl) rfl), (tsG_of (mt5 142 rfl) rfl), (mp 30 rfl rfl)⟩
set_option maxRecDepth 20000 in
theorem lX12_174 : Cond.methodLink RX12 174 yX12_reasons ∈ tsG ∧ Cond.instanceMethod yX12_reasons ∈ tsG ∧ Cond.selects RX12 yX12_reasons yX12_reasons ∈ tsG := ⟨(tsG_of (mt5 144 rfl) rfl), (tsG_of (mt5 146 rfl) rfl), (mp 31 rfl rfl)⟩
set_option maxRecDepth 20000 in
theorem lX12_167 : Cond.methodLink RX12 167 yX12_reason ∈ tsG ∧ Cond.instanceMethod yX12_reason ∈ tsG ∧ Cond.selects RX12 yX12_reason yX12_reason ∈ tsG := ⟨(tsG_of (mt5 148 rfl) rfl), (tsG_of (mt5 150 rfl) rfl), (mp 32 rfl rfl)⟩
set_option maxRecDepth 20000 in
theorem lX12_164 : Cond.methodLink RX12 164 yX12_costAt ∈ tsG ∧ Cond.instanceMethod yX12_costAt ∈ tsG ∧ Cond.selects RX12 yX12_costAt yX12_costAt ∈ tsG := ⟨(tsG_of (mt5 152 rfl) rfl), (tsG_of (mt5 154 rfl) rfl), (mp 33 rfl rfl)⟩
set_option maxRecDepth 20000 in
theorem lL_80 : Cond.methodLink RL 80 yX12_cost ∈ tsG ∧ Cond.instanceMethod yX12_cost ∈ tsG ∧ Cond.selects RX12 yX12_cost yX12_cost ∈ tsG := ⟨(tsG_of (mt5 156 rfl) rfl), (tsG_of (mt5 157 rfl) rfl), (tsG_of (mt5 158 rfl) rfl)⟩
set_option maxRecDepth 20000 in
theorem lX12_178 : Cond.methodLink RX12 178 yX12_costs ∈ tsG ∧ Cond.instanceMethod yX12_costs ∈ tsG ∧ Cond.selects RX12 yX12_costs yX12_costs ∈ tsG := ⟨(tsG_of (mt5 160 rfl) rfl), (tsG_of (mt5 162 rfl) rfl), (mp 34 rfl rfl)⟩
set_option maxRecDepth 20000 in
theorem lL_84 : Cond.methodLink RL 84 yX12_span ∈ tsG ∧ Cond.instanceMethod yX12_span ∈ tsG ∧ Cond.selects RX12 yX12_span yX12_span ∈ tsG := ⟨(tsG_of (mt5 164 rfl) rfl), (tsG_of (mt5 165 rfl) rfl), (tsG_of (mt5 166 rfl) rfl)⟩
set_option maxRecDepth 20000 in
theorem lL_54 : Cond.methodLink RL 54 yX12_series ∈ tsG ∧ Cond.instanceMethod yX12_series ∈ tsG ∧ Cond.selects RX12 yX12_series yX12_series ∈ tsG := ⟨(tsG_of (mt5 168 rfl) rfl), (tsG_of (mt5 169 rfl) rfl), (tsG_of (mt5 170 rfl) rfl)⟩
set_option maxRecDepth 20000 in
theorem lL_58 : Cond.methodLink RL 58 yX12_option ∈ tsG ∧ Cond.instanceMethod yX12_option ∈ tsG ∧ Cond.selects RX12 yX12_option yX12_option ∈ tsG := ⟨(tsG_of (mt5 172 rfl) rfl), (tsG_of (mt5 173 rfl) rfl), (tsG_of (mt5 174 rfl) rfl)⟩
set_option maxRecDepth 20000 in
theorem lL_62 : Cond.methodLink RL 62 yX12_role ∈ tsG ∧ Cond.instanceMethod yX12_role ∈ tsG ∧ Cond.selects RX12 yX12_role yX12_role ∈ tsG := ⟨(tsG_of (mt5 176 rfl) rfl), (tsG_of (mt5 177 rfl) rfl), (tsG_of (mt5 178 rfl) rfl)⟩
set_option maxRecDepth 20000 in
theorem lL_88 : Cond.methodLink RL 88 yX12_fits ∈ tsG ∧ Cond.instanceMethod yX12_fits ∈ tsG ∧ Cond.selects RX12 yX12_fits yX12_fits ∈ tsG := ⟨(tsG_of (mt5 180 rfl) rfl), (tsG_of (mt5 181 rfl) rfl), (tsG_of (mt5 182 rfl) rfl)⟩
set_option maxRecDepth 20000 in
theorem lX12_211 : Cond.methodLink RX12 211 yX12_isPair ∈ tsG ∧ Cond.instanceMethod yX12_isPair ∈ tsG ∧ Cond.selects RX12 yX12_isPair yX12_isPair ∈ tsG := ⟨(tsG_of (mt5 184 rfl) rfl), (tsG_of (mt5 186 rfl) rfl), (mp 35 rfl rfl)⟩
set_option maxRecDepth 20000 in
theorem lX12_214 : Cond.methodLink RX12 214 yX12_takesWeek ∈ tsG ∧ Cond.instanceMethod yX12_takesWeek ∈ tsG ∧ Cond.selects RX12 yX12_takesWeek yX12_takesWeek ∈ tsG := ⟨(tsG_of (mt5 188 rfl) rfl), (tsG_of (mt5 190 rfl) rfl), (mp 36 rfl rfl)⟩
set_option maxRecDepth 20000 in
theorem lX12_218 : Cond.methodLink RX12 218 yX12_comeAll ∈ tsG ∧ Cond.instanceMethod yX12_comeAll ∈ tsG ∧ Cond.selects RX12 yX12_comeAll yX12_comeAll ∈ tsG := ⟨(tsG_of (mt5 192 rfl) rfl), (tsG_of (mt5 194 rfl) rfl), (mp 37 rfl rfl)⟩
set_option maxRecDepth 20000 in
theorem lX12_201 : Cond.methodLink RX12 201 yX12_asksFree ∈ tsG ∧ Cond.instanceMethod yX12_asksFree ∈ tsG ∧ Cond.selects RX12 yX12_asksFree yX12_asksFree ∈ tsG := ⟨(tsG_of (mt5 196 rfl) rfl), (tsG_of (mt5 198 rfl) rfl), (mp 38 rfl rfl)⟩
set_option maxRecDepth 20000 in
theorem lX12_193 : Cond.methodLink RX12 193 yX12_isIn ∈ tsG ∧ Cond.instanceMethod yX12_isIn ∈ tsG ∧ Cond.selects RX12 yX12_isIn yX12_isIn ∈ tsG := ⟨(tsG_of (mt5 200 rfl) rfl), (tsG_of (mt5 202 rfl) rfl), (mp 39 rfl rfl)⟩
set_option maxRecDepth 20000 in
theorem lX12_184 : Cond.methodLink RX12 184 yX12_slotOf ∈ tsG ∧ Cond.instanceMethod yX12_slotOf ∈ tsG ∧ Cond.selects RX12 yX12_slotOf yX12_slotOf ∈ tsG := ⟨(tsG_of (mt5 204 rfl) rfl), (tsG_of (mt5 206 rfl) rfl), (mp 40 rfl rfl)⟩
set_option maxRecDepth 20000 in
theorem lX12_197 : Cond.methodLink RX12 197 yX12_isFree ∈ tsG ∧ Cond.instanceMethod yX12_isFree ∈ tsG ∧ Cond.selects RX12 yX12_isFree yX12_isFree ∈ tsG := ⟨(tsG_of (mt5 208 rfl) rfl), (tsG_of (mt5 210 rfl) rfl), (mp 41 rfl rfl)⟩
set_option maxRecDepth 20000 in
theorem lX12_190 : Cond.methodLink RX12 190 yX12_meet ∈ tsG ∧ Cond.instanceMethod yX12_meet ∈ tsG ∧ Cond.selects RX12 yX12_meet yX12_meet ∈ tsG := ⟨(tsG_of (mt5 212 rfl) rfl), (tsG_of (mt5 214 rfl) rfl), (mp 42 rfl rfl)⟩
set_option maxRecDepth 20000 in
theorem lX12_205 : Cond.methodLink RX12 205 yX12_comesTo ∈ tsG ∧ Cond.instanceMethod yX12_comesTo ∈ tsG ∧ Cond.selects RX12 yX12_comesTo yX12_comesTo ∈ tsG := ⟨(tsG_of (mt5 216 rfl) rfl), (tsG_of (mt5 218 rfl) rfl), (mp 43 rfl rfl)⟩
set_option maxRecDepth 20000 in
theorem lX12_221 : Cond.methodLink RX12 221 yX12_fitsBy ∈ tsG ∧ Cond.instanceMethod yX12_fitsBy ∈ tsG ∧ Cond.selects RX12 yX12_fitsBy yX12_fitsBy ∈ tsG := ⟨(tsG_of (mt5 220 rfl) rfl), (tsG_of (mt5 222 rfl) rfl), (mp 44 rfl rfl)⟩
set_option maxRecDepth 20000 in
theorem lX12_208 : Cond.methodLink RX12 208 yX12_isBehind ∈ tsG ∧ Cond.instanceMethod yX12_isBehind ∈ tsG ∧ Cond.selects RX12 yX12_isBehind yX12_isBehind ∈ tsG := ⟨(tsG_of (mt5 224 rfl) rfl), (tsG_of (mt5 226 rfl) rfl), (mp 45 rfl rfl)⟩
set_option maxRecDepth 20000 in
theorem lL_92 : Cond.methodLink RL 92 yX12_plan ∈ tsG ∧ Cond.instanceMethod yX12_plan ∈ tsG ∧ Cond.selects RX12 yX12_plan yX12_plan ∈ tsG := ⟨(tsG_of (mt5 228 rfl) rfl), (tsG_of (mt5 229 rfl) rfl), (tsG_of (mt5 230 rfl) rfl)⟩
set_option maxRecDepth 20000 in
theorem lX12_224 : Cond.methodLink RX12 224 yX12_lists ∈ tsG ∧ Cond.instanceMethod yX12_lists ∈ tsG ∧ Cond.selects RX12 yX12_lists yX12_lists ∈ tsG := ⟨(tsG_of (mt5 232 rfl) rfl), (tsG_of (mt5 234 rfl) rfl), (mp 46 rfl rfl)⟩
set_option maxRecDepth 20000 in
theorem lX12_230 : Cond.methodLink RX12 230 yX12_priceOf ∈ tsG ∧ Cond.instanceMethod yX12_priceOf ∈ tsG ∧ Cond.selects RX12 yX12_priceOf yX12_priceOf ∈ tsG := ⟨(tsG_of (mt5 236 rfl) rfl), (tsG_of (mt5 238 rfl) rfl), (mp 47 rfl rfl)⟩
set_option maxRecDepth 20000 in
theorem lX12_234 : Cond.methodLink RX12 234 yX12_leastStuck ∈ tsG ∧ Cond.instanceMethod yX12_leastStuck ∈ tsG ∧ Cond.selects RX12 yX12_leastStuck yX12_leastStuck ∈ tsG := ⟨(tsG_of (mt6 0 rfl) rfl), (tsG_of (mt6 2 rfl) rfl), (mp 48 rfl rfl)⟩
set_option maxRecDepth 20000 in
theorem lX12_248 : Cond.methodLink RX12 248 yX12_goesFor ∈ tsG ∧ Cond.instanceMethod yX12_goesFor ∈ tsG ∧ Cond.selects RX12 yX12_goesFor yX12_goesFor ∈ tsG := ⟨(tsG_of (mt6 4 rfl) rfl), (tsG_of (mt6 6 rfl) rfl), (mp 49 rfl rfl)⟩
set_option maxRecDepth 20000 in
theorem lX12_251 : Cond.methodLink RX12 251 yX12_isAhead ∈ tsG ∧ Cond.static yX12_isAhead ∈ tsG := ⟨(tsG_of (mt6 8 rfl) rfl), (tsG_of (mt6 9 rfl) rfl)⟩
set_option maxRecDepth 20000 in
theorem lX12_254 : Cond.methodLink RX12 254 yX12_bits ∈ tsG ∧ Cond.static yX12_bits ∈ tsG := ⟨(tsG_of (mt6 11 rfl) rfl), (tsG_of (mt6 12 rfl) rfl)⟩
set_option maxRecDepth 20000 in
theorem lX12_238 : Cond.methodLink RX12 238 yX12_sorts ∈ tsG ∧ Cond.instanceMethod yX12_sorts ∈ tsG ∧ Cond.selects RX12 yX12_sorts yX12_sorts ∈ tsG := ⟨(tsG_of (mt6 14 rfl) rfl), (tsG_of (mt6 16 rfl) rfl), (mp 50 rfl rfl)⟩
set_option maxRecDepth 20000 in
theorem lX12_241 : Cond.methodLink RX12 241 yX12_isLess ∈ tsG ∧ Cond.instanceMethod yX12_isLess ∈ tsG ∧ Cond.selects RX12 yX12_isLess yX12_isLess ∈ tsG := ⟨(tsG_of (mt6 18 rfl) rfl), (tsG_of (mt6 20 rfl) rfl), (mp 51 rfl rfl)⟩
set_option maxRecDepth 20000 in
theorem lX12_245 : Cond.methodLink RX12 245 yX12_isBest ∈ tsG ∧ Cond.instanceMethod yX12_isBest ∈ tsG ∧ Cond.selects RX12 yX12_isBest yX12_isBest ∈ tsG := ⟨(tsG_of (mt6 22 rfl) rfl), (tsG_of (mt6 24 rfl) rfl), (mp 52 rfl rfl)⟩
set_option maxRecDepth 20000 in
theorem lL_96 : Cond.methodLink RL 96 yX12_stuck ∈ tsG ∧ Cond.instanceMethod yX12_stuck ∈ tsG ∧ Cond.selects RX12 yX12_stuck yX12_stuck ∈ tsG := ⟨(tsG_of (mt6 26 rfl) rfl), (tsG_of (mt6 27 rfl) rfl), (tsG_of (mt6 28 rfl) rfl)⟩
set_option maxRecDepth 20000 in
theorem lL_100 : Cond.methodLink RL 100 yX12_move ∈ tsG ∧ Cond.instanceMethod yX12_move ∈ tsG ∧ Cond.selects RX12 yX12_move yX12_move ∈ tsG := ⟨(tsG_of (mt6 30 rfl) rfl), (tsG_of (mt6 31 rfl) rfl), (tsG_of (mt6 32 rfl) rfl)⟩
set_option maxRecDepth 20000 in
theorem lX12_257 : Cond.methodLink RX12 257 yX12_weekSums ∈ tsG ∧ Cond.instanceMethod yX12_weekSums ∈ tsG ∧ Cond.selects RX12 yX12_weekSums yX12_weekSums ∈ tsG := ⟨(tsG_of (mt6 34 rfl) rfl), (tsG_of (mt6 36 rfl) rfl), (mp 53 rfl rfl)⟩
set_option maxRecDepth 20000 in
theorem lX12_260 : Cond.methodLink RX12 260 yX12_takesChoice ∈ tsG ∧ Cond.instanceMethod yX12_takesChoice ∈ tsG ∧ Cond.selects RX12 yX12_takesChoice yX12_takesChoice ∈ tsG := ⟨(tsG_of (mt6 38 rfl) rfl), (tsG_of (mt6 40 rfl) rfl), (mp 54 rfl rfl)⟩
set_option maxRecDepth 20000 in
theorem lL_104 : Cond.methodLink RL 104 yX12_planned ∈ tsG ∧ Cond.instanceMethod yX12_planned ∈ tsG ∧ Cond.selects RX12 yX12_planned yX12_planned ∈ tsG := ⟨(tsG_of (mt6 42 rfl) rfl), (tsG_of (mt6 43 rfl) rfl), (tsG_of (mt6 44 rfl) rfl)⟩
set_option maxRecDepth 20000 in
theorem lL_108 : Cond.methodLink RL 108 yX12_comes ∈ tsG ∧ Cond.instanceMethod yX12_comes ∈ tsG ∧ Cond.selects RX12 yX12_comes yX12_comes ∈ tsG := ⟨(tsG_of (mt6 46 rfl) rfl), (tsG_of (mt6 47 rfl) rfl), (tsG_of (mt6 48 rfl) rfl)⟩
set_option maxRecDepth 20000 in
theorem lL_112 : Cond.methodLink RL 112 yX12_sum ∈ tsG ∧ Cond.instanceMethod yX12_sum ∈ tsG ∧ Cond.selects RX12 yX12_sum yX12_sum ∈ tsG := ⟨(tsG_of (mt6 50 rfl) rfl), (tsG_of (mt6 51 rfl) rfl), (tsG_of (mt6 52 rfl) rfl)⟩
set_option maxRecDepth 20000 in
theorem lL_116 : Cond.methodLink RL 116 yX12_shifted ∈ tsG ∧ Cond.instanceMethod yX12_shifted ∈ tsG ∧ Cond.selects RX12 yX12_shifted yX12_shifted ∈ tsG := ⟨(tsG_of (mt6 54 rfl) rfl), (tsG_of (mt6 55 rfl) rfl), (tsG_of (mt6 56 rfl) rfl)⟩
set_option maxRecDepth 20000 in
theorem lX12_263 : Cond.methodLink RX12 263 yX12_isShifted ∈ tsG ∧ Cond.instanceMethod yX12_isShifted ∈ tsG ∧ Cond.selects RX12 yX12_isShifted yX12_isShifted ∈ tsG := ⟨(tsG_of (mt6 58 rfl) rfl), (tsG_of (mt6 60 rfl) rfl), (mp 55 rfl rfl)⟩
set_option maxRecDepth 20000 in
theorem lL_120 : Cond.methodLink RL 120 yX12_count ∈ tsG ∧ Cond.instanceMethod yX12_count ∈ tsG ∧ Cond.selects RX12 yX12_count yX12_count ∈ tsG := ⟨(tsG_of (mt6 62 rfl) rfl), (tsG_of (mt6 63 rfl) rfl), (tsG_of (mt6 64 rfl) rfl)⟩
set_option maxRecDepth 20000 in
theorem jX11 : Cond.initialized RX11 ∈ tsG := (tsG_of (mt1 1 rfl) rfl)
set_option maxRecDepth 20000 in
theorem jX10 : Cond.initialized RX10 ∈ tsG := (tsG_of (mt1 2 rfl) rfl)
set_option maxRecDepth 20000 in
theorem jX1 : Cond.initialized RX1 ∈ tsG := (tsG_of (mt1 3 rfl) rfl)
set_option maxRecDepth 20000 in
theorem jX8 : Cond.initialized RX8 ∈ tsG := (tsG_of (mt1 4 rfl) rfl)
set_option maxRecDepth 20000 in
theorem jX7 : Cond.initialized RX7 ∈ tsG := (tsG_of (mt1 5 rfl) rfl)
set_option maxRecDepth 20000 in
theorem jX2 : Cond.initialized RX2 ∈ tsG := (tsG_of (mt1 6 rfl) rfl)
set_option maxRecDepth 20000 in
theorem jX5 : Cond.initialized RX5 ∈ tsG := (tsG_of (mt1 7 rfl) rfl)
set_option maxRecDepth 20000 in
theorem jX0 : Cond.initialized RX0 ∈ tsG := (tsG_of (mt1 8 rfl) rfl)
set_option maxRecDepth 20000 in
theorem jX12 : Cond.initialized RX12 ∈ tsG := (tsG_of (mt1 9 rfl) rfl)
set_option maxRecDepth 20000 in
theorem jX4 : Cond.initialized RX4 ∈ tsG := (tsG_of (mt1 10 rfl) rfl)
set_option maxRecDepth 20000 in
theorem jX6 : Cond.initialized RX6 ∈ tsG := (tsG_of (mt1 11 rfl) rfl)
set_option maxRecDepth 20000 in
theorem jX3 : Cond.initialized RX3 ∈ tsG := (tsG_of (mt1 14 rfl) rfl)
set_option maxRecDepth 20000 in
theorem jX9 : Cond.initialized RX9 ∈ tsG := (tsG_of (mt1 15 rfl) rfl)
set_option maxRecDepth 20000 in
theorem nL_7 : Cond.classLink RL 7 RX11 ∈ tsG := (tsG_of (mt1 18 rfl) rfl)
set_option maxRecDepth 20000 in
theorem iX11 : Cond.instantiable RX11 14 ∈ tsG := (tsG_of (mt1 19 rfl) rfl)
set_option maxRecDepth 20000 in
theorem nX11_9 : Cond.classLink RX11 9 RX4 ∈ tsG := (tsG_of (mt1 26 rfl) rfl)
set_option maxRecDepth 20000 in
theorem nX11_15 : Cond.classLink RX11 15 RX6 ∈ tsG := (tsG_of (mt1 28 rfl) rfl)
set_option maxRecDepth 20000 in
theorem nX11_21 : Cond.classLink RX11 21 RX9 ∈ tsG := (tsG_of (mt1 30 rfl) rfl)
set_option maxRecDepth 20000 in
theorem nX11_27 : Cond.classLink RX11 27 RX10 ∈ tsG := (tsG_of (mt1 32 rfl) rfl)
set_option maxRecDepth 20000 in
theorem iX10 : Cond.instantiable RX10 3 ∈ tsG := (tsG_of (mt1 34 rfl) rfl)
set_option maxRecDepth 20000 in
theorem nX11_34 : Cond.classLink RX11 34 RX1 ∈ tsG := (tsG_of (mt1 54 rfl) rfl)
set_option maxRecDepth 20000 in
theorem iX1 : Cond.instantiable RX1 5 ∈ tsG := (tsG_of (mt1 55 rfl) rfl)
set_option maxRecDepth 20000 in
theorem nX11_41 : Cond.classLink RX11 41 RX8 ∈ tsG := (tsG_of (mt1 78 rfl) rfl)
set_option maxRecDepth 20000 in
theorem iX8 : Cond.instantiable RX8 6 ∈ tsG := (tsG_of (mt1 79 rfl) rfl)
set_option maxRecDepth 20000 in
theorem nX11_48 : Cond.classLink RX11 48 RX7 ∈ tsG := (tsG_of (mt1 111 rfl) rfl)
set_option maxRecDepth 20000 in
theorem iX7 : Cond.instantiable RX7 11 ∈ tsG := (tsG_of (mt1 112 rfl) rfl)
set_option maxRecDepth 20000 in
theorem nX7_9 : Cond.classLink RX7 9 RX2 ∈ tsG := (tsG_of (mt1 117 rfl) rfl)
set_option maxRecDepth 20000 in
theorem iX2 : Cond.instantiable RX2 4 ∈ tsG := (tsG_of (mt1 118 rfl) rfl)
set_option maxRecDepth 20000 in
theorem nX7_18 : Cond.classLink RX7 18 RX8 ∈ tsG := (tsG_of (mt1 137 rfl) rfl)
set_option maxRecDepth 20000 in
theorem nX11_55 : Cond.classLink RX11 55 RX5 ∈ tsG := (tsG_of (mt1 175 rfl) rfl)
set_option maxRecDepth 20000 in
theorem iX5 : Cond.instantiable RX5 11 ∈ tsG := (tsG_of (mt1 176 rfl) rfl)
set_option maxRecDepth 20000 in
theorem nX5_9 : Cond.classLink RX5 9 RX2 ∈ tsG := (tsG_of (mt1 181 rfl) rfl)
set_option maxRecDepth 20000 in
theorem nX5_18 : Cond.classLink RX5 18 RX1 ∈ tsG := (tsG_of (mt1 183 rfl) rfl)
set_option maxRecDepth 20000 in
theorem nX5_25 : Cond.classLink RX5 25 RX9 ∈ tsG := (tsG_of (mt1 185 rfl) rfl)
set_option maxRecDepth 20000 in
theorem nX5_31 : Cond.classLink RX5 31 RX10 ∈ tsG := (tsG_of (mt1 186 rfl) rfl)
set_option maxRecDepth 20000 in
theorem nX5_37 : Cond.classLink RX5 37 RX8 ∈ tsG := (tsG_of (mt1 187 rfl) rfl)
set_option maxRecDepth 20000 in
theorem nX11_62 : Cond.classLink RX11 62 RX0 ∈ tsG := (tsG_of (mt1 224 rfl) rfl)
set_option maxRecDepth 20000 in
theorem iX0 : Cond.instantiable RX0 4 ∈ tsG := (tsG_of (mt1 225 rfl) rfl)
set_option maxRecDepth 20000 in
theorem nX0_9 : Cond.classLink RX0 9 RX8 ∈ tsG := (tsG_of (mt1 230 rfl) rfl)
set_option maxRecDepth 20000 in
theorem iX4 : Cond.instantiable RX4 3 ∈ tsG := (tsG_of (mt2 55 rfl) rfl)
set_option maxRecDepth 20000 in
theorem iX6 : Cond.instantiable RX6 5 ∈ tsG := (tsG_of (mt2 80 rfl) rfl)
set_option maxRecDepth 20000 in
theorem iX9 : Cond.instantiable RX9 9 ∈ tsG := (tsG_of (mt2 136 rfl) rfl)
set_option maxRecDepth 20000 in
theorem nX11_141 : Cond.classLink RX11 141 RX3 ∈ tsG := (tsG_of (mt2 212 rfl) rfl)
set_option maxRecDepth 20000 in
theorem iX3 : Cond.instantiable RX3 5 ∈ tsG := (tsG_of (mt2 213 rfl) rfl)
set_option maxRecDepth 20000 in
theorem tX11_165 : Cond.constant RX11 165 (-1000000) ∈ tsG := (tsG_of (mt3 31 rfl) rfl)
set_option maxRecDepth 20000 in
theorem tJ6_265 : Cond.constant RJ6 265 (nI 1431655765) ∈ tsG := (tsG_of (mt4 45 rfl) rfl)
set_option maxRecDepth 20000 in
theorem tJ6_266 : Cond.constant RJ6 266 (nI 858993459) ∈ tsG := (tsG_of (mt4 46 rfl) rfl)
set_option maxRecDepth 20000 in
theorem tJ6_267 : Cond.constant RJ6 267 (nI 252645135) ∈ tsG := (tsG_of (mt4 47 rfl) rfl)
set_option maxRecDepth 20000 in
theorem nL_10 : Cond.classLink RL 10 RX12 ∈ tsG := (tsG_of (mt4 166 rfl) rfl)
set_option maxRecDepth 20000 in
theorem iX12 : Cond.instantiable RX12 43 ∈ tsG := (tsG_of (mt4 167 rfl) rfl)
set_option maxRecDepth 20000 in
theorem tX12_155 : Cond.constant RX12 155 (-1000000) ∈ tsG := (tsG_of (mt5 124 rfl) rfl)
set_option maxRecDepth 20000 in
theorem w_arr1 : Cond.arrayClass (kty 1) ∈ tsG := (tsG_of (mt1 53 rfl) rfl)
set_option maxRecDepth 20000 in
theorem w_arr2 : Cond.arrayClass (kty 2) ∈ tsG := (tsG_of (mt5 61 rfl) rfl)
set_option maxRecDepth 20000 in
theorem w_arr3 : Cond.arrayClass (kty 3) ∈ tsG := (tsG_of (mt2 105 rfl) rfl)
set_option maxRecDepth 20000 in
theorem w_arr12 : Cond.arrayOver (.object RX4) ∈ lw_tbl := (mt1 27 rfl)
set_option maxRecDepth 20000 in
theorem w_arr14 : Cond.arrayOver (.object RX6) ∈ lw_tbl := (mt1 29 rfl)
set_option maxRecDepth 20000 in
theorem w_arr16 : Cond.arrayOver (.object RX8) ∈ lw_tbl := (mt1 188 rfl)
set_option maxRecDepth 20000 in
theorem w_arr17 : Cond.arrayOver (.object RX9) ∈ lw_tbl := (mt1 31 rfl)
set_option maxRecDepth 20000 in
theorem w_arr18 : Cond.arrayOver (.object RX10) ∈ lw_tbl := (mt1 33 rfl)
set_option maxRecDepth 20000 in
theorem l_obj2 : Cond.instanceMethod objectInit ∈ tsG := (tsG_of (mt1 24 rfl) rfl)
set_option maxRecDepth 20000 in
theorem l_obj3 : Cond.code objectInit ⟨#[0xb1]⟩ 1 none ∈ tsG := (tsG_of (mt1 25 rfl) rfl)
