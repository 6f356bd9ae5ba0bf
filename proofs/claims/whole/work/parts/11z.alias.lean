/-! 11z: names of the methods' numbers and codes (written by gen_alias.py) -/
abbrev nX0_keep : Nat := 0
abbrev tX0_keep : Nat → Option pt_O := tt_0
theorem sX0_keep {d : Nat} {as : List pt_V} {m : pt_M} {Q : pt_Q} (h : Go (Sp d) tt_0 Q 0 (pt_ini 2 as) [] m) (hl : Nat.ble (pt_exp as).length 2 = true := by rfl) : Sp (d + 1) nX0_keep as m Q := Sp_of rfl rfl hl h
abbrev nX0_undoLatest : Nat := 1
abbrev tX0_undoLatest : Nat → Option pt_O := tt_1
theorem sX0_undoLatest {d : Nat} {as : List pt_V} {m : pt_M} {Q : pt_Q} (h : Go (Sp d) tt_1 Q 0 (pt_ini 2 as) [] m) (hl : Nat.ble (pt_exp as).length 2 = true := by rfl) : Sp (d + 1) nX0_undoLatest as m Q := Sp_of rfl rfl hl h
abbrev nX0_forgetAll : Nat := 2
abbrev tX0_forgetAll : Nat → Option pt_O := tt_2
theorem sX0_forgetAll {d : Nat} {as : List pt_V} {m : pt_M} {Q : pt_Q} (h : Go (Sp d) tt_2 Q 0 (pt_ini 1 as) [] m) (hl : Nat.ble (pt_exp as).length 1 = true := by rfl) : Sp (d + 1) nX0_forgetAll as m Q := Sp_of rfl rfl hl h
abbrev nX1_answer : Nat := 3
abbrev tX1_answer : Nat → Option pt_O := tt_3
theorem sX1_answer {d : Nat} {as : List pt_V} {m : pt_M} {Q : pt_Q} (h : Go (Sp d) tt_3 Q 0 (pt_ini 4 as) [] m) (hl : Nat.ble (pt_exp as).length 4 = true := by rfl) : Sp (d + 1) nX1_answer as m Q := Sp_of rfl rfl hl h
abbrev nX1_askAnew : Nat := 4
abbrev tX1_askAnew : Nat → Option pt_O := tt_4
theorem sX1_askAnew {d : Nat} {as : List pt_V} {m : pt_M} {Q : pt_Q} (h : Go (Sp d) tt_4 Q 0 (pt_ini 5 as) [] m) (hl : Nat.ble (pt_exp as).length 5 = true := by rfl) : Sp (d + 1) nX1_askAnew as m Q := Sp_of rfl rfl hl h
abbrev nX1_bodyFor : Nat := 5
abbrev tX1_bodyFor : Nat → Option pt_O := tt_5
theorem sX1_bodyFor {d : Nat} {as : List pt_V} {m : pt_M} {Q : pt_Q} (h : Go (Sp d) tt_5 Q 0 (pt_ini 6 as) [] m) (hl : Nat.ble (pt_exp as).length 6 = true := by rfl) : Sp (d + 1) nX1_bodyFor as m Q := Sp_of rfl rfl hl h
abbrev nX1_gives : Nat := 6
abbrev tX1_gives : Nat → Option pt_O := tt_6
theorem sX1_gives {d : Nat} {as : List pt_V} {m : pt_M} {Q : pt_Q} (h : Go (Sp d) tt_6 Q 0 (pt_ini 6 as) [] m) (hl : Nat.ble (pt_exp as).length 6 = true := by rfl) : Sp (d + 1) nX1_gives as m Q := Sp_of rfl rfl hl h
abbrev nX1_leave : Nat := 7
abbrev tX1_leave : Nat → Option pt_O := tt_7
theorem sX1_leave {d : Nat} {as : List pt_V} {m : pt_M} {Q : pt_Q} (h : Go (Sp d) tt_7 Q 0 (pt_ini 2 as) [] m) (hl : Nat.ble (pt_exp as).length 2 = true := by rfl) : Sp (d + 1) nX1_leave as m Q := Sp_of rfl rfl hl h
abbrev nX2_take : Nat := 8
abbrev tX2_take : Nat → Option pt_O := tt_8
theorem sX2_take {d : Nat} {as : List pt_V} {m : pt_M} {Q : pt_Q} (h : Go (Sp d) tt_8 Q 0 (pt_ini 3 as) [] m) (hl : Nat.ble (pt_exp as).length 3 = true := by rfl) : Sp (d + 1) nX2_take as m Q := Sp_of rfl rfl hl h
abbrev nX2_leave : Nat := 9
abbrev tX2_leave : Nat → Option pt_O := tt_9
theorem sX2_leave {d : Nat} {as : List pt_V} {m : pt_M} {Q : pt_Q} (h : Go (Sp d) tt_9 Q 0 (pt_ini 3 as) [] m) (hl : Nat.ble (pt_exp as).length 3 = true := by rfl) : Sp (d + 1) nX2_leave as m Q := Sp_of rfl rfl hl h
abbrev nX2_forgetAll : Nat := 10
abbrev tX2_forgetAll : Nat → Option pt_O := tt_10
theorem sX2_forgetAll {d : Nat} {as : List pt_V} {m : pt_M} {Q : pt_Q} (h : Go (Sp d) tt_10 Q 0 (pt_ini 1 as) [] m) (hl : Nat.ble (pt_exp as).length 1 = true := by rfl) : Sp (d + 1) nX2_forgetAll as m Q := Sp_of rfl rfl hl h
abbrev nX2_feels : Nat := 11
abbrev tX2_feels : Nat → Option pt_O := tt_11
theorem sX2_feels {d : Nat} {as : List pt_V} {m : pt_M} {Q : pt_Q} (h : Go (Sp d) tt_11 Q 0 (pt_ini 4 as) [] m) (hl : Nat.ble (pt_exp as).length 4 = true := by rfl) : Sp (d + 1) nX2_feels as m Q := Sp_of rfl rfl hl h
abbrev nX2_tasteOn : Nat := 12
abbrev tX2_tasteOn : Nat → Option pt_O := tt_12
theorem sX2_tasteOn {d : Nat} {as : List pt_V} {m : pt_M} {Q : pt_Q} (h : Go (Sp d) tt_12 Q 0 (pt_ini 7 as) [] m) (hl : Nat.ble (pt_exp as).length 7 = true := by rfl) : Sp (d + 1) nX2_tasteOn as m Q := Sp_of rfl rfl hl h
abbrev nX2_readOn : Nat := 13
abbrev tX2_readOn : Nat → Option pt_O := tt_13
theorem sX2_readOn {d : Nat} {as : List pt_V} {m : pt_M} {Q : pt_Q} (h : Go (Sp d) tt_13 Q 0 (pt_ini 3 as) [] m) (hl : Nat.ble (pt_exp as).length 3 = true := by rfl) : Sp (d + 1) nX2_readOn as m Q := Sp_of rfl rfl hl h
abbrev nX2_swapped : Nat := 14
abbrev tX2_swapped : Nat → Option pt_O := tt_14
theorem sX2_swapped {d : Nat} {as : List pt_V} {m : pt_M} {Q : pt_Q} (h : Go (Sp d) tt_14 Q 0 (pt_ini 2 as) [] m) (hl : Nat.ble (pt_exp as).length 2 = true := by rfl) : Sp (d + 1) nX2_swapped as m Q := Sp_of rfl rfl hl h
abbrev nX2_getsUsedTo : Nat := 15
abbrev tX2_getsUsedTo : Nat → Option pt_O := tt_15
theorem sX2_getsUsedTo {d : Nat} {as : List pt_V} {m : pt_M} {Q : pt_Q} (h : Go (Sp d) tt_15 Q 0 (pt_ini 3 as) [] m) (hl : Nat.ble (pt_exp as).length 3 = true := by rfl) : Sp (d + 1) nX2_getsUsedTo as m Q := Sp_of rfl rfl hl h
abbrev nX2_leastSpice : Nat := 16
abbrev tX2_leastSpice : Nat → Option pt_O := tt_16
theorem sX2_leastSpice {d : Nat} {as : List pt_V} {m : pt_M} {Q : pt_Q} (h : Go (Sp d) tt_16 Q 0 (pt_ini 7 as) [] m) (hl : Nat.ble (pt_exp as).length 7 = true := by rfl) : Sp (d + 1) nX2_leastSpice as m Q := Sp_of rfl rfl hl h
abbrev nX3_begin : Nat := 17
abbrev tX3_begin : Nat → Option pt_O := tt_17
theorem sX3_begin {d : Nat} {as : List pt_V} {m : pt_M} {Q : pt_Q} (h : Go (Sp d) tt_17 Q 0 (pt_ini 3 as) [] m) (hl : Nat.ble (pt_exp as).length 3 = true := by rfl) : Sp (d + 1) nX3_begin as m Q := Sp_of rfl rfl hl h
abbrev nX3_hasPlaces : Nat := 18
abbrev tX3_hasPlaces : Nat → Option pt_O := tt_18
theorem sX3_hasPlaces {d : Nat} {as : List pt_V} {m : pt_M} {Q : pt_Q} (h : Go (Sp d) tt_18 Q 0 (pt_ini 3 as) [] m) (hl : Nat.ble (pt_exp as).length 3 = true := by rfl) : Sp (d + 1) nX3_hasPlaces as m Q := Sp_of rfl rfl hl h
abbrev nX3_inLane : Nat := 19
abbrev tX3_inLane : Nat → Option pt_O := tt_19
theorem sX3_inLane {d : Nat} {as : List pt_V} {m : pt_M} {Q : pt_Q} (h : Go (Sp d) tt_19 Q 0 (pt_ini 2 as) [] m) (hl : Nat.ble (pt_exp as).length 2 = true := by rfl) : Sp (d + 1) nX3_inLane as m Q := Sp_of rfl rfl hl h
abbrev nX4_clear : Nat := 20
abbrev tX4_clear : Nat → Option pt_O := tt_20
theorem sX4_clear {d : Nat} {as : List pt_V} {m : pt_M} {Q : pt_Q} (h : Go (Sp d) tt_20 Q 0 (pt_ini 1 as) [] m) (hl : Nat.ble (pt_exp as).length 1 = true := by rfl) : Sp (d + 1) nX4_clear as m Q := Sp_of rfl rfl hl h
abbrev nX4_become : Nat := 21
abbrev tX4_become : Nat → Option pt_O := tt_21
theorem sX4_become {d : Nat} {as : List pt_V} {m : pt_M} {Q : pt_Q} (h : Go (Sp d) tt_21 Q 0 (pt_ini 2 as) [] m) (hl : Nat.ble (pt_exp as).length 2 = true := by rfl) : Sp (d + 1) nX4_become as m Q := Sp_of rfl rfl hl h
abbrev nX4_hasWall : Nat := 22
abbrev tX4_hasWall : Nat → Option pt_O := tt_22
theorem sX4_hasWall {d : Nat} {as : List pt_V} {m : pt_M} {Q : pt_Q} (h : Go (Sp d) tt_22 Q 0 (pt_ini 2 as) [] m) (hl : Nat.ble (pt_exp as).length 2 = true := by rfl) : Sp (d + 1) nX4_hasWall as m Q := Sp_of rfl rfl hl h
abbrev nX4_hasReader : Nat := 23
abbrev tX4_hasReader : Nat → Option pt_O := tt_23
theorem sX4_hasReader {d : Nat} {as : List pt_V} {m : pt_M} {Q : pt_Q} (h : Go (Sp d) tt_23 Q 0 (pt_ini 2 as) [] m) (hl : Nat.ble (pt_exp as).length 2 = true := by rfl) : Sp (d + 1) nX4_hasReader as m Q := Sp_of rfl rfl hl h
abbrev nX4_hasFlavour : Nat := 24
abbrev tX4_hasFlavour : Nat → Option pt_O := tt_24
theorem sX4_hasFlavour {d : Nat} {as : List pt_V} {m : pt_M} {Q : pt_Q} (h : Go (Sp d) tt_24 Q 0 (pt_ini 3 as) [] m) (hl : Nat.ble (pt_exp as).length 3 = true := by rfl) : Sp (d + 1) nX4_hasFlavour as m Q := Sp_of rfl rfl hl h
abbrev nX4_strength : Nat := 25
abbrev tX4_strength : Nat → Option pt_O := tt_25
theorem sX4_strength {d : Nat} {as : List pt_V} {m : pt_M} {Q : pt_Q} (h : Go (Sp d) tt_25 Q 0 (pt_ini 3 as) [] m) (hl : Nat.ble (pt_exp as).length 3 = true := by rfl) : Sp (d + 1) nX4_strength as m Q := Sp_of rfl rfl hl h
abbrev nX4_strengthInAll : Nat := 26
abbrev tX4_strengthInAll : Nat → Option pt_O := tt_26
theorem sX4_strengthInAll {d : Nat} {as : List pt_V} {m : pt_M} {Q : pt_Q} (h : Go (Sp d) tt_26 Q 0 (pt_ini 3 as) [] m) (hl : Nat.ble (pt_exp as).length 3 = true := by rfl) : Sp (d + 1) nX4_strengthInAll as m Q := Sp_of rfl rfl hl h
abbrev nX4_usedInAll : Nat := 27
abbrev tX4_usedInAll : Nat → Option pt_O := tt_27
theorem sX4_usedInAll {d : Nat} {as : List pt_V} {m : pt_M} {Q : pt_Q} (h : Go (Sp d) tt_27 Q 0 (pt_ini 4 as) [] m) (hl : Nat.ble (pt_exp as).length 4 = true := by rfl) : Sp (d + 1) nX4_usedInAll as m Q := Sp_of rfl rfl hl h
abbrev nX4_fadeByDay : Nat := 28
abbrev tX4_fadeByDay : Nat → Option pt_O := tt_28
theorem sX4_fadeByDay {d : Nat} {as : List pt_V} {m : pt_M} {Q : pt_Q} (h : Go (Sp d) tt_28 Q 0 (pt_ini 5 as) [] m) (hl : Nat.ble (pt_exp as).length 5 = true := by rfl) : Sp (d + 1) nX4_fadeByDay as m Q := Sp_of rfl rfl hl h
abbrev nX5_add : Nat := 29
abbrev tX5_add : Nat → Option pt_O := tt_29
theorem sX5_add {d : Nat} {as : List pt_V} {m : pt_M} {Q : pt_Q} (h : Go (Sp d) tt_29 Q 0 (pt_ini 2 as) [] m) (hl : Nat.ble (pt_exp as).length 2 = true := by rfl) : Sp (d + 1) nX5_add as m Q := Sp_of rfl rfl hl h
abbrev nX5_isStreet : Nat := 30
abbrev tX5_isStreet : Nat → Option pt_O := tt_30
theorem sX5_isStreet {d : Nat} {as : List pt_V} {m : pt_M} {Q : pt_Q} (h : Go (Sp d) tt_30 Q 0 (pt_ini 2 as) [] m) (hl : Nat.ble (pt_exp as).length 2 = true := by rfl) : Sp (d + 1) nX5_isStreet as m Q := Sp_of rfl rfl hl h
abbrev nX5_tellWall : Nat := 31
abbrev tX5_tellWall : Nat → Option pt_O := tt_31
theorem sX5_tellWall {d : Nat} {as : List pt_V} {m : pt_M} {Q : pt_Q} (h : Go (Sp d) tt_31 Q 0 (pt_ini 1 as) [] m) (hl : Nat.ble (pt_exp as).length 1 = true := by rfl) : Sp (d + 1) nX5_tellWall as m Q := Sp_of rfl rfl hl h
abbrev nX5_tellReader : Nat := 32
abbrev tX5_tellReader : Nat → Option pt_O := tt_32
theorem sX5_tellReader {d : Nat} {as : List pt_V} {m : pt_M} {Q : pt_Q} (h : Go (Sp d) tt_32 Q 0 (pt_ini 3 as) [] m) (hl : Nat.ble (pt_exp as).length 3 = true := by rfl) : Sp (d + 1) nX5_tellReader as m Q := Sp_of rfl rfl hl h
abbrev nX5_tellNumbers : Nat := 33
abbrev tX5_tellNumbers : Nat → Option pt_O := tt_33
theorem sX5_tellNumbers {d : Nat} {as : List pt_V} {m : pt_M} {Q : pt_Q} (h : Go (Sp d) tt_33 Q 0 (pt_ini 5 as) [] m) (hl : Nat.ble (pt_exp as).length 5 = true := by rfl) : Sp (d + 1) nX5_tellNumbers as m Q := Sp_of rfl rfl hl h
abbrev nX5_tellSign : Nat := 34
abbrev tX5_tellSign : Nat → Option pt_O := tt_34
theorem sX5_tellSign {d : Nat} {as : List pt_V} {m : pt_M} {Q : pt_Q} (h : Go (Sp d) tt_34 Q 0 (pt_ini 1 as) [] m) (hl : Nat.ble (pt_exp as).length 1 = true := by rfl) : Sp (d + 1) nX5_tellSign as m Q := Sp_of rfl rfl hl h
abbrev nX5_kindOfSort : Nat := 35
abbrev tX5_kindOfSort : Nat → Option pt_O := tt_35
theorem sX5_kindOfSort {d : Nat} {as : List pt_V} {m : pt_M} {Q : pt_Q} (h : Go (Sp d) tt_35 Q 0 (pt_ini 1 as) [] m) (hl : Nat.ble (pt_exp as).length 1 = true := by rfl) : Sp (d + 1) nX5_kindOfSort as m Q := Sp_of rfl rfl hl h
abbrev nX5_at : Nat := 36
abbrev tX5_at : Nat → Option pt_O := tt_36
theorem sX5_at {d : Nat} {as : List pt_V} {m : pt_M} {Q : pt_Q} (h : Go (Sp d) tt_36 Q 0 (pt_ini 2 as) [] m) (hl : Nat.ble (pt_exp as).length 2 = true := by rfl) : Sp (d + 1) nX5_at as m Q := Sp_of rfl rfl hl h
abbrev nX5_faulty : Nat := 37
abbrev tX5_faulty : Nat → Option pt_O := tt_37
theorem sX5_faulty {d : Nat} {as : List pt_V} {m : pt_M} {Q : pt_Q} (h : Go (Sp d) tt_37 Q 0 (pt_ini 2 as) [] m) (hl : Nat.ble (pt_exp as).length 2 = true := by rfl) : Sp (d + 1) nX5_faulty as m Q := Sp_of rfl rfl hl h
abbrev nX5_isWord : Nat := 38
abbrev tX5_isWord : Nat → Option pt_O := tt_38
theorem sX5_isWord {d : Nat} {as : List pt_V} {m : pt_M} {Q : pt_Q} (h : Go (Sp d) tt_38 Q 0 (pt_ini 3 as) [] m) (hl : Nat.ble (pt_exp as).length 3 = true := by rfl) : Sp (d + 1) nX5_isWord as m Q := Sp_of rfl rfl hl h
abbrev nX5_toNextToken : Nat := 39
abbrev tX5_toNextToken : Nat → Option pt_O := tt_39
theorem sX5_toNextToken {d : Nat} {as : List pt_V} {m : pt_M} {Q : pt_Q} (h : Go (Sp d) tt_39 Q 0 (pt_ini 2 as) [] m) (hl : Nat.ble (pt_exp as).length 2 = true := by rfl) : Sp (d + 1) nX5_toNextToken as m Q := Sp_of rfl rfl hl h
abbrev nX5_toEndOfNumber : Nat := 40
abbrev tX5_toEndOfNumber : Nat → Option pt_O := tt_40
theorem sX5_toEndOfNumber {d : Nat} {as : List pt_V} {m : pt_M} {Q : pt_Q} (h : Go (Sp d) tt_40 Q 0 (pt_ini 1 as) [] m) (hl : Nat.ble (pt_exp as).length 1 = true := by rfl) : Sp (d + 1) nX5_toEndOfNumber as m Q := Sp_of rfl rfl hl h
abbrev nX5_isBlank : Nat := 41
abbrev tX5_isBlank : Nat → Option pt_O := tt_41
theorem sX5_isBlank {d : Nat} {as : List pt_V} {m : pt_M} {Q : pt_Q} (h : Go (Sp d) tt_41 Q 0 (pt_ini 1 as) [] m) (hl : Nat.ble (pt_exp as).length 1 = true := by rfl) : Sp (d + 1) nX5_isBlank as m Q := Sp_of rfl rfl hl h
abbrev nX5_isLetter : Nat := 42
abbrev tX5_isLetter : Nat → Option pt_O := tt_42
theorem sX5_isLetter {d : Nat} {as : List pt_V} {m : pt_M} {Q : pt_Q} (h : Go (Sp d) tt_42 Q 0 (pt_ini 1 as) [] m) (hl : Nat.ble (pt_exp as).length 1 = true := by rfl) : Sp (d + 1) nX5_isLetter as m Q := Sp_of rfl rfl hl h
abbrev nX5_isFigure : Nat := 43
abbrev tX5_isFigure : Nat → Option pt_O := tt_43
theorem sX5_isFigure {d : Nat} {as : List pt_V} {m : pt_M} {Q : pt_Q} (h : Go (Sp d) tt_43 Q 0 (pt_ini 1 as) [] m) (hl : Nat.ble (pt_exp as).length 1 = true := by rfl) : Sp (d + 1) nX5_isFigure as m Q := Sp_of rfl rfl hl h
abbrev nX6_row : Nat := 44
abbrev tX6_row : Nat → Option pt_O := tt_44
theorem sX6_row {d : Nat} {as : List pt_V} {m : pt_M} {Q : pt_Q} (h : Go (Sp d) tt_44 Q 0 (pt_ini 4 as) [] m) (hl : Nat.ble (pt_exp as).length 4 = true := by rfl) : Sp (d + 1) nX6_row as m Q := Sp_of rfl rfl hl h
abbrev nX6_set : Nat := 45
abbrev tX6_set : Nat → Option pt_O := tt_45
theorem sX6_set {d : Nat} {as : List pt_V} {m : pt_M} {Q : pt_Q} (h : Go (Sp d) tt_45 Q 0 (pt_ini 5 as) [] m) (hl : Nat.ble (pt_exp as).length 5 = true := by rfl) : Sp (d + 1) nX6_set as m Q := Sp_of rfl rfl hl h
abbrev nX6_copy : Nat := 46
abbrev tX6_copy : Nat → Option pt_O := tt_46
theorem sX6_copy {d : Nat} {as : List pt_V} {m : pt_M} {Q : pt_Q} (h : Go (Sp d) tt_46 Q 0 (pt_ini 8 as) [] m) (hl : Nat.ble (pt_exp as).length 8 = true := by rfl) : Sp (d + 1) nX6_copy as m Q := Sp_of rfl rfl hl h
abbrev nX6_drop : Nat := 47
abbrev tX6_drop : Nat → Option pt_O := tt_47
theorem sX6_drop {d : Nat} {as : List pt_V} {m : pt_M} {Q : pt_Q} (h : Go (Sp d) tt_47 Q 0 (pt_ini 3 as) [] m) (hl : Nat.ble (pt_exp as).length 3 = true := by rfl) : Sp (d + 1) nX6_drop as m Q := Sp_of rfl rfl hl h
abbrev nX6_isRow : Nat := 48
abbrev tX6_isRow : Nat → Option pt_O := tt_48
theorem sX6_isRow {d : Nat} {as : List pt_V} {m : pt_M} {Q : pt_Q} (h : Go (Sp d) tt_48 Q 0 (pt_ini 1 as) [] m) (hl : Nat.ble (pt_exp as).length 1 = true := by rfl) : Sp (d + 1) nX6_isRow as m Q := Sp_of rfl rfl hl h
abbrev nX6_finding : Nat := 49
abbrev tX6_finding : Nat → Option pt_O := tt_49
theorem sX6_finding {d : Nat} {as : List pt_V} {m : pt_M} {Q : pt_Q} (h : Go (Sp d) tt_49 Q 0 (pt_ini 2 as) [] m) (hl : Nat.ble (pt_exp as).length 2 = true := by rfl) : Sp (d + 1) nX6_finding as m Q := Sp_of rfl rfl hl h
abbrev nX6_noFinding : Nat := 50
abbrev tX6_noFinding : Nat → Option pt_O := tt_50
theorem sX6_noFinding {d : Nat} {as : List pt_V} {m : pt_M} {Q : pt_Q} (h : Go (Sp d) tt_50 Q 0 (pt_ini 2 as) [] m) (hl : Nat.ble (pt_exp as).length 2 = true := by rfl) : Sp (d + 1) nX6_noFinding as m Q := Sp_of rfl rfl hl h
abbrev nX6_feed : Nat := 51
abbrev tX6_feed : Nat → Option pt_O := tt_51
theorem sX6_feed {d : Nat} {as : List pt_V} {m : pt_M} {Q : pt_Q} (h : Go (Sp d) tt_51 Q 0 (pt_ini 5 as) [] m) (hl : Nat.ble (pt_exp as).length 5 = true := by rfl) : Sp (d + 1) nX6_feed as m Q := Sp_of rfl rfl hl h
abbrev nX6_street : Nat := 52
abbrev tX6_street : Nat → Option pt_O := tt_52
theorem sX6_street {d : Nat} {as : List pt_V} {m : pt_M} {Q : pt_Q} (h : Go (Sp d) tt_52 Q 0 (pt_ini 2 as) [] m) (hl : Nat.ble (pt_exp as).length 2 = true := by rfl) : Sp (d + 1) nX6_street as m Q := Sp_of rfl rfl hl h
abbrev nX6_fault : Nat := 53
abbrev tX6_fault : Nat → Option pt_O := tt_53
theorem sX6_fault {d : Nat} {as : List pt_V} {m : pt_M} {Q : pt_Q} (h : Go (Sp d) tt_53 Q 0 (pt_ini 1 as) [] m) (hl : Nat.ble (pt_exp as).length 1 = true := by rfl) : Sp (d + 1) nX6_fault as m Q := Sp_of rfl rfl hl h
abbrev nX6_paint : Nat := 54
abbrev tX6_paint : Nat → Option pt_O := tt_54
theorem sX6_paint {d : Nat} {as : List pt_V} {m : pt_M} {Q : pt_Q} (h : Go (Sp d) tt_54 Q 0 (pt_ini 5 as) [] m) (hl : Nat.ble (pt_exp as).length 5 = true := by rfl) : Sp (d + 1) nX6_paint as m Q := Sp_of rfl rfl hl h
abbrev nX6_day : Nat := 55
abbrev tX6_day : Nat → Option pt_O := tt_55
theorem sX6_day {d : Nat} {as : List pt_V} {m : pt_M} {Q : pt_Q} (h : Go (Sp d) tt_55 Q 0 (pt_ini 2 as) [] m) (hl : Nat.ble (pt_exp as).length 2 = true := by rfl) : Sp (d + 1) nX6_day as m Q := Sp_of rfl rfl hl h
abbrev nX6_walk : Nat := 56
abbrev tX6_walk : Nat → Option pt_O := tt_56
theorem sX6_walk {d : Nat} {as : List pt_V} {m : pt_M} {Q : pt_Q} (h : Go (Sp d) tt_56 Q 0 (pt_ini 6 as) [] m) (hl : Nat.ble (pt_exp as).length 6 = true := by rfl) : Sp (d + 1) nX6_walk as m Q := Sp_of rfl rfl hl h
abbrev nX6_rest : Nat := 57
abbrev tX6_rest : Nat → Option pt_O := tt_57
theorem sX6_rest {d : Nat} {as : List pt_V} {m : pt_M} {Q : pt_Q} (h : Go (Sp d) tt_57 Q 0 (pt_ini 3 as) [] m) (hl : Nat.ble (pt_exp as).length 3 = true := by rfl) : Sp (d + 1) nX6_rest as m Q := Sp_of rfl rfl hl h
abbrev nX6_undo : Nat := 58
abbrev tX6_undo : Nat → Option pt_O := tt_58
theorem sX6_undo {d : Nat} {as : List pt_V} {m : pt_M} {Q : pt_Q} (h : Go (Sp d) tt_58 Q 0 (pt_ini 1 as) [] m) (hl : Nat.ble (pt_exp as).length 1 = true := by rfl) : Sp (d + 1) nX6_undo as m Q := Sp_of rfl rfl hl h
abbrev nX6_wall : Nat := 59
abbrev tX6_wall : Nat → Option pt_O := tt_59
theorem sX6_wall {d : Nat} {as : List pt_V} {m : pt_M} {Q : pt_Q} (h : Go (Sp d) tt_59 Q 0 (pt_ini 3 as) [] m) (hl : Nat.ble (pt_exp as).length 3 = true := by rfl) : Sp (d + 1) nX6_wall as m Q := Sp_of rfl rfl hl h
abbrev nX6_reader : Nat := 60
abbrev tX6_reader : Nat → Option pt_O := tt_60
theorem sX6_reader {d : Nat} {as : List pt_V} {m : pt_M} {Q : pt_Q} (h : Go (Sp d) tt_60 Q 0 (pt_ini 3 as) [] m) (hl : Nat.ble (pt_exp as).length 3 = true := by rfl) : Sp (d + 1) nX6_reader as m Q := Sp_of rfl rfl hl h
abbrev nX6_felt : Nat := 61
abbrev tX6_felt : Nat → Option pt_O := tt_61
theorem sX6_felt {d : Nat} {as : List pt_V} {m : pt_M} {Q : pt_Q} (h : Go (Sp d) tt_61 Q 0 (pt_ini 4 as) [] m) (hl : Nat.ble (pt_exp as).length 4 = true := by rfl) : Sp (d + 1) nX6_felt as m Q := Sp_of rfl rfl hl h
abbrev nX6_isFlavour : Nat := 62
abbrev tX6_isFlavour : Nat → Option pt_O := tt_62
theorem sX6_isFlavour {d : Nat} {as : List pt_V} {m : pt_M} {Q : pt_Q} (h : Go (Sp d) tt_62 Q 0 (pt_ini 1 as) [] m) (hl : Nat.ble (pt_exp as).length 1 = true := by rfl) : Sp (d + 1) nX6_isFlavour as m Q := Sp_of rfl rfl hl h
abbrev nX6_canWalk : Nat := 63
abbrev tX6_canWalk : Nat → Option pt_O := tt_63
theorem sX6_canWalk {d : Nat} {as : List pt_V} {m : pt_M} {Q : pt_Q} (h : Go (Sp d) tt_63 Q 0 (pt_ini 4 as) [] m) (hl : Nat.ble (pt_exp as).length 4 = true := by rfl) : Sp (d + 1) nX6_canWalk as m Q := Sp_of rfl rfl hl h
abbrev nX6_wallsOnWay : Nat := 64
abbrev tX6_wallsOnWay : Nat → Option pt_O := tt_64
theorem sX6_wallsOnWay {d : Nat} {as : List pt_V} {m : pt_M} {Q : pt_Q} (h : Go (Sp d) tt_64 Q 0 (pt_ini 2 as) [] m) (hl : Nat.ble (pt_exp as).length 2 = true := by rfl) : Sp (d + 1) nX6_wallsOnWay as m Q := Sp_of rfl rfl hl h
abbrev nX6_wallOnWay : Nat := 65
abbrev tX6_wallOnWay : Nat → Option pt_O := tt_65
theorem sX6_wallOnWay {d : Nat} {as : List pt_V} {m : pt_M} {Q : pt_Q} (h : Go (Sp d) tt_65 Q 0 (pt_ini 3 as) [] m) (hl : Nat.ble (pt_exp as).length 3 = true := by rfl) : Sp (d + 1) nX6_wallOnWay as m Q := Sp_of rfl rfl hl h
abbrev nX6_read : Nat := 66
abbrev tX6_read : Nat → Option pt_O := tt_66
theorem sX6_read {d : Nat} {as : List pt_V} {m : pt_M} {Q : pt_Q} (h : Go (Sp d) tt_66 Q 0 (pt_ini 7 as) [] m) (hl : Nat.ble (pt_exp as).length 7 = true := by rfl) : Sp (d + 1) nX6_read as m Q := Sp_of rfl rfl hl h
abbrev nX6_wrong : Nat := 67
abbrev tX6_wrong : Nat → Option pt_O := tt_67
theorem sX6_wrong {d : Nat} {as : List pt_V} {m : pt_M} {Q : pt_Q} (h : Go (Sp d) tt_67 Q 0 (pt_ini 8 as) [] m) (hl : Nat.ble (pt_exp as).length 8 = true := by rfl) : Sp (d + 1) nX6_wrong as m Q := Sp_of rfl rfl hl h
abbrev nX6_often : Nat := 68
abbrev tX6_often : Nat → Option pt_O := tt_68
theorem sX6_often {d : Nat} {as : List pt_V} {m : pt_M} {Q : pt_Q} (h : Go (Sp d) tt_68 Q 0 (pt_ini 6 as) [] m) (hl : Nat.ble (pt_exp as).length 6 = true := by rfl) : Sp (d + 1) nX6_often as m Q := Sp_of rfl rfl hl h
abbrev nX6_spice : Nat := 69
abbrev tX6_spice : Nat → Option pt_O := tt_69
theorem sX6_spice {d : Nat} {as : List pt_V} {m : pt_M} {Q : pt_Q} (h : Go (Sp d) tt_69 Q 0 (pt_ini 9 as) [] m) (hl : Nat.ble (pt_exp as).length 9 = true := by rfl) : Sp (d + 1) nX6_spice as m Q := Sp_of rfl rfl hl h
abbrev nX6_both : Nat := 70
abbrev tX6_both : Nat → Option pt_O := tt_70
theorem sX6_both {d : Nat} {as : List pt_V} {m : pt_M} {Q : pt_Q} (h : Go (Sp d) tt_70 Q 0 (pt_ini 9 as) [] m) (hl : Nat.ble (pt_exp as).length 9 = true := by rfl) : Sp (d + 1) nX6_both as m Q := Sp_of rfl rfl hl h
abbrev nX6_order : Nat := 71
abbrev tX6_order : Nat → Option pt_O := tt_71
theorem sX6_order {d : Nat} {as : List pt_V} {m : pt_M} {Q : pt_Q} (h : Go (Sp d) tt_71 Q 0 (pt_ini 8 as) [] m) (hl : Nat.ble (pt_exp as).length 8 = true := by rfl) : Sp (d + 1) nX6_order as m Q := Sp_of rfl rfl hl h
abbrev nX6_written : Nat := 72
abbrev tX6_written : Nat → Option pt_O := tt_72
theorem sX6_written {d : Nat} {as : List pt_V} {m : pt_M} {Q : pt_Q} (h : Go (Sp d) tt_72 Q 0 (pt_ini 7 as) [] m) (hl : Nat.ble (pt_exp as).length 7 = true := by rfl) : Sp (d + 1) nX6_written as m Q := Sp_of rfl rfl hl h
abbrev nX6_forged : Nat := 73
abbrev tX6_forged : Nat → Option pt_O := tt_73
theorem sX6_forged {d : Nat} {as : List pt_V} {m : pt_M} {Q : pt_Q} (h : Go (Sp d) tt_73 Q 0 (pt_ini 8 as) [] m) (hl : Nat.ble (pt_exp as).length 8 = true := by rfl) : Sp (d + 1) nX6_forged as m Q := Sp_of rfl rfl hl h
abbrev nX6_image : Nat := 74
abbrev tX6_image : Nat → Option pt_O := tt_74
theorem sX6_image {d : Nat} {as : List pt_V} {m : pt_M} {Q : pt_Q} (h : Go (Sp d) tt_74 Q 0 (pt_ini 2 as) [] m) (hl : Nat.ble (pt_exp as).length 2 = true := by rfl) : Sp (d + 1) nX6_image as m Q := Sp_of rfl rfl hl h
abbrev nX6_restore : Nat := 75
abbrev tX6_restore : Nat → Option pt_O := tt_75
theorem sX6_restore {d : Nat} {as : List pt_V} {m : pt_M} {Q : pt_Q} (h : Go (Sp d) tt_75 Q 0 (pt_ini 2 as) [] m) (hl : Nat.ble (pt_exp as).length 2 = true := by rfl) : Sp (d + 1) nX6_restore as m Q := Sp_of rfl rfl hl h
abbrev nX6_hearMessage : Nat := 76
abbrev tX6_hearMessage : Nat → Option pt_O := tt_76
theorem sX6_hearMessage {d : Nat} {as : List pt_V} {m : pt_M} {Q : pt_Q} (h : Go (Sp d) tt_76 Q 0 (pt_ini 9 as) [] m) (hl : Nat.ble (pt_exp as).length 9 = true := by rfl) : Sp (d + 1) nX6_hearMessage as m Q := Sp_of rfl rfl hl h
abbrev nX6_readsOtherwise : Nat := 77
abbrev tX6_readsOtherwise : Nat → Option pt_O := tt_77
theorem sX6_readsOtherwise {d : Nat} {as : List pt_V} {m : pt_M} {Q : pt_Q} (h : Go (Sp d) tt_77 Q 0 (pt_ini 6 as) [] m) (hl : Nat.ble (pt_exp as).length 6 = true := by rfl) : Sp (d + 1) nX6_readsOtherwise as m Q := Sp_of rfl rfl hl h
abbrev nX6_findSpice : Nat := 78
abbrev tX6_findSpice : Nat → Option pt_O := tt_78
theorem sX6_findSpice {d : Nat} {as : List pt_V} {m : pt_M} {Q : pt_Q} (h : Go (Sp d) tt_78 Q 0 (pt_ini 8 as) [] m) (hl : Nat.ble (pt_exp as).length 8 = true := by rfl) : Sp (d + 1) nX6_findSpice as m Q := Sp_of rfl rfl hl h
abbrev nX6_firstFelt : Nat := 79
abbrev tX6_firstFelt : Nat → Option pt_O := tt_79
theorem sX6_firstFelt {d : Nat} {as : List pt_V} {m : pt_M} {Q : pt_Q} (h : Go (Sp d) tt_79 Q 0 (pt_ini 4 as) [] m) (hl : Nat.ble (pt_exp as).length 4 = true := by rfl) : Sp (d + 1) nX6_firstFelt as m Q := Sp_of rfl rfl hl h
abbrev nX6_fadesByDay : Nat := 80
abbrev tX6_fadesByDay : Nat → Option pt_O := tt_80
theorem sX6_fadesByDay {d : Nat} {as : List pt_V} {m : pt_M} {Q : pt_Q} (h : Go (Sp d) tt_80 Q 0 (pt_ini 1 as) [] m) (hl : Nat.ble (pt_exp as).length 1 = true := by rfl) : Sp (d + 1) nX6_fadesByDay as m Q := Sp_of rfl rfl hl h
abbrev nX6_kind : Nat := 81
abbrev tX6_kind : Nat → Option pt_O := tt_81
theorem sX6_kind {d : Nat} {as : List pt_V} {m : pt_M} {Q : pt_Q} (h : Go (Sp d) tt_81 Q 0 (pt_ini 2 as) [] m) (hl : Nat.ble (pt_exp as).length 2 = true := by rfl) : Sp (d + 1) nX6_kind as m Q := Sp_of rfl rfl hl h
abbrev nX6_as : Nat := 82
abbrev tX6_as : Nat → Option pt_O := tt_82
theorem sX6_as {d : Nat} {as : List pt_V} {m : pt_M} {Q : pt_Q} (h : Go (Sp d) tt_82 Q 0 (pt_ini 3 as) [] m) (hl : Nat.ble (pt_exp as).length 3 = true := by rfl) : Sp (d + 1) nX6_as as m Q := Sp_of rfl rfl hl h
abbrev nX6_ask : Nat := 83
abbrev tX6_ask : Nat → Option pt_O := tt_83
theorem sX6_ask {d : Nat} {as : List pt_V} {m : pt_M} {Q : pt_Q} (h : Go (Sp d) tt_83 Q 0 (pt_ini 3 as) [] m) (hl : Nat.ble (pt_exp as).length 3 = true := by rfl) : Sp (d + 1) nX6_ask as m Q := Sp_of rfl rfl hl h
abbrev nX6_trace : Nat := 84
abbrev tX6_trace : Nat → Option pt_O := tt_84
theorem sX6_trace {d : Nat} {as : List pt_V} {m : pt_M} {Q : pt_Q} (h : Go (Sp d) tt_84 Q 0 (pt_ini 2 as) [] m) (hl : Nat.ble (pt_exp as).length 2 = true := by rfl) : Sp (d + 1) nX6_trace as m Q := Sp_of rfl rfl hl h
abbrev nX6_count : Nat := 85
abbrev tX6_count : Nat → Option pt_O := tt_85
theorem sX6_count {d : Nat} {as : List pt_V} {m : pt_M} {Q : pt_Q} (h : Go (Sp d) tt_85 Q 0 (pt_ini 2 as) [] m) (hl : Nat.ble (pt_exp as).length 2 = true := by rfl) : Sp (d + 1) nX6_count as m Q := Sp_of rfl rfl hl h
abbrev nX6_status : Nat := 86
abbrev tX6_status : Nat → Option pt_O := tt_86
theorem sX6_status {d : Nat} {as : List pt_V} {m : pt_M} {Q : pt_Q} (h : Go (Sp d) tt_86 Q 0 (pt_ini 1 as) [] m) (hl : Nat.ble (pt_exp as).length 1 = true := by rfl) : Sp (d + 1) nX6_status as m Q := Sp_of rfl rfl hl h
abbrev nX6_isOfKind : Nat := 87
abbrev tX6_isOfKind : Nat → Option pt_O := tt_87
theorem sX6_isOfKind {d : Nat} {as : List pt_V} {m : pt_M} {Q : pt_Q} (h : Go (Sp d) tt_87 Q 0 (pt_ini 4 as) [] m) (hl : Nat.ble (pt_exp as).length 4 = true := by rfl) : Sp (d + 1) nX6_isOfKind as m Q := Sp_of rfl rfl hl h
abbrev nX6_rowsThere : Nat := 88
abbrev tX6_rowsThere : Nat → Option pt_O := tt_88
theorem sX6_rowsThere {d : Nat} {as : List pt_V} {m : pt_M} {Q : pt_Q} (h : Go (Sp d) tt_88 Q 0 (pt_ini 3 as) [] m) (hl : Nat.ble (pt_exp as).length 3 = true := by rfl) : Sp (d + 1) nX6_rowsThere as m Q := Sp_of rfl rfl hl h
abbrev nX7_in : Nat := 89
abbrev tX7_in : Nat → Option pt_O := tt_89
theorem sX7_in {d : Nat} {as : List pt_V} {m : pt_M} {Q : pt_Q} (h : Go (Sp d) tt_89 Q 0 (pt_ini 6 as) [] m) (hl : Nat.ble (pt_exp as).length 6 = true := by rfl) : Sp (d + 1) nX7_in as m Q := Sp_of rfl rfl hl h
abbrev nX7_finding : Nat := 90
abbrev tX7_finding : Nat → Option pt_O := tt_90
theorem sX7_finding {d : Nat} {as : List pt_V} {m : pt_M} {Q : pt_Q} (h : Go (Sp d) tt_90 Q 0 (pt_ini 2 as) [] m) (hl : Nat.ble (pt_exp as).length 2 = true := by rfl) : Sp (d + 1) nX7_finding as m Q := Sp_of rfl rfl hl h
abbrev nX7_isRow : Nat := 91
abbrev tX7_isRow : Nat → Option pt_O := tt_91
theorem sX7_isRow {d : Nat} {as : List pt_V} {m : pt_M} {Q : pt_Q} (h : Go (Sp d) tt_91 Q 0 (pt_ini 1 as) [] m) (hl : Nat.ble (pt_exp as).length 1 = true := by rfl) : Sp (d + 1) nX7_isRow as m Q := Sp_of rfl rfl hl h
abbrev nX7_row : Nat := 92
abbrev tX7_row : Nat → Option pt_O := tt_92
theorem sX7_row {d : Nat} {as : List pt_V} {m : pt_M} {Q : pt_Q} (h : Go (Sp d) tt_92 Q 0 (pt_ini 5 as) [] m) (hl : Nat.ble (pt_exp as).length 5 = true := by rfl) : Sp (d + 1) nX7_row as m Q := Sp_of rfl rfl hl h
abbrev nX7_set : Nat := 93
abbrev tX7_set : Nat → Option pt_O := tt_93
theorem sX7_set {d : Nat} {as : List pt_V} {m : pt_M} {Q : pt_Q} (h : Go (Sp d) tt_93 Q 0 (pt_ini 4 as) [] m) (hl : Nat.ble (pt_exp as).length 4 = true := by rfl) : Sp (d + 1) nX7_set as m Q := Sp_of rfl rfl hl h
abbrev nX7_copy : Nat := 94
abbrev tX7_copy : Nat → Option pt_O := tt_94
theorem sX7_copy {d : Nat} {as : List pt_V} {m : pt_M} {Q : pt_Q} (h : Go (Sp d) tt_94 Q 0 (pt_ini 9 as) [] m) (hl : Nat.ble (pt_exp as).length 9 = true := by rfl) : Sp (d + 1) nX7_copy as m Q := Sp_of rfl rfl hl h
abbrev nX7_drop : Nat := 95
abbrev tX7_drop : Nat → Option pt_O := tt_95
theorem sX7_drop {d : Nat} {as : List pt_V} {m : pt_M} {Q : pt_Q} (h : Go (Sp d) tt_95 Q 0 (pt_ini 2 as) [] m) (hl : Nat.ble (pt_exp as).length 2 = true := by rfl) : Sp (d + 1) nX7_drop as m Q := Sp_of rfl rfl hl h
abbrev nX7_feed : Nat := 96
abbrev tX7_feed : Nat → Option pt_O := tt_96
theorem sX7_feed {d : Nat} {as : List pt_V} {m : pt_M} {Q : pt_Q} (h : Go (Sp d) tt_96 Q 0 (pt_ini 5 as) [] m) (hl : Nat.ble (pt_exp as).length 5 = true := by rfl) : Sp (d + 1) nX7_feed as m Q := Sp_of rfl rfl hl h
abbrev nX7_byteAt : Nat := 97
abbrev tX7_byteAt : Nat → Option pt_O := tt_97
theorem sX7_byteAt {d : Nat} {as : List pt_V} {m : pt_M} {Q : pt_Q} (h : Go (Sp d) tt_97 Q 0 (pt_ini 2 as) [] m) (hl : Nat.ble (pt_exp as).length 2 = true := by rfl) : Sp (d + 1) nX7_byteAt as m Q := Sp_of rfl rfl hl h
abbrev nX7_isLetter : Nat := 98
abbrev tX7_isLetter : Nat → Option pt_O := tt_98
theorem sX7_isLetter {d : Nat} {as : List pt_V} {m : pt_M} {Q : pt_Q} (h : Go (Sp d) tt_98 Q 0 (pt_ini 1 as) [] m) (hl : Nat.ble (pt_exp as).length 1 = true := by rfl) : Sp (d + 1) nX7_isLetter as m Q := Sp_of rfl rfl hl h
abbrev nX7_isFigure : Nat := 99
abbrev tX7_isFigure : Nat → Option pt_O := tt_99
theorem sX7_isFigure {d : Nat} {as : List pt_V} {m : pt_M} {Q : pt_Q} (h : Go (Sp d) tt_99 Q 0 (pt_ini 1 as) [] m) (hl : Nat.ble (pt_exp as).length 1 = true := by rfl) : Sp (d + 1) nX7_isFigure as m Q := Sp_of rfl rfl hl h
abbrev nX7_next : Nat := 100
abbrev tX7_next : Nat → Option pt_O := tt_100
theorem sX7_next {d : Nat} {as : List pt_V} {m : pt_M} {Q : pt_Q} (h : Go (Sp d) tt_100 Q 0 (pt_ini 2 as) [] m) (hl : Nat.ble (pt_exp as).length 2 = true := by rfl) : Sp (d + 1) nX7_next as m Q := Sp_of rfl rfl hl h
abbrev nX7_begin : Nat := 101
abbrev tX7_begin : Nat → Option pt_O := tt_101
theorem sX7_begin {d : Nat} {as : List pt_V} {m : pt_M} {Q : pt_Q} (h : Go (Sp d) tt_101 Q 0 (pt_ini 1 as) [] m) (hl : Nat.ble (pt_exp as).length 1 = true := by rfl) : Sp (d + 1) nX7_begin as m Q := Sp_of rfl rfl hl h
abbrev nX7_bad : Nat := 102
abbrev tX7_bad : Nat → Option pt_O := tt_102
theorem sX7_bad {d : Nat} {as : List pt_V} {m : pt_M} {Q : pt_Q} (h : Go (Sp d) tt_102 Q 0 (pt_ini 2 as) [] m) (hl : Nat.ble (pt_exp as).length 2 = true := by rfl) : Sp (d + 1) nX7_bad as m Q := Sp_of rfl rfl hl h
abbrev nX7_must : Nat := 103
abbrev tX7_must : Nat → Option pt_O := tt_103
theorem sX7_must {d : Nat} {as : List pt_V} {m : pt_M} {Q : pt_Q} (h : Go (Sp d) tt_103 Q 0 (pt_ini 2 as) [] m) (hl : Nat.ble (pt_exp as).length 2 = true := by rfl) : Sp (d + 1) nX7_must as m Q := Sp_of rfl rfl hl h
abbrev nX7_name : Nat := 104
abbrev tX7_name : Nat → Option pt_O := tt_104
theorem sX7_name {d : Nat} {as : List pt_V} {m : pt_M} {Q : pt_Q} (h : Go (Sp d) tt_104 Q 0 (pt_ini 4 as) [] m) (hl : Nat.ble (pt_exp as).length 4 = true := by rfl) : Sp (d + 1) nX7_name as m Q := Sp_of rfl rfl hl h
abbrev nX7_figures : Nat := 105
abbrev tX7_figures : Nat → Option pt_O := tt_105
theorem sX7_figures {d : Nat} {as : List pt_V} {m : pt_M} {Q : pt_Q} (h : Go (Sp d) tt_105 Q 0 (pt_ini 3 as) [] m) (hl : Nat.ble (pt_exp as).length 3 = true := by rfl) : Sp (d + 1) nX7_figures as m Q := Sp_of rfl rfl hl h
abbrev nX7_number : Nat := 106
abbrev tX7_number : Nat → Option pt_O := tt_106
theorem sX7_number {d : Nat} {as : List pt_V} {m : pt_M} {Q : pt_Q} (h : Go (Sp d) tt_106 Q 0 (pt_ini 4 as) [] m) (hl : Nat.ble (pt_exp as).length 4 = true := by rfl) : Sp (d + 1) nX7_number as m Q := Sp_of rfl rfl hl h
abbrev nX7_kindBy : Nat := 107
abbrev tX7_kindBy : Nat → Option pt_O := tt_107
theorem sX7_kindBy {d : Nat} {as : List pt_V} {m : pt_M} {Q : pt_Q} (h : Go (Sp d) tt_107 Q 0 (pt_ini 2 as) [] m) (hl : Nat.ble (pt_exp as).length 2 = true := by rfl) : Sp (d + 1) nX7_kindBy as m Q := Sp_of rfl rfl hl h
abbrev nX7_mustEnd : Nat := 108
abbrev tX7_mustEnd : Nat → Option pt_O := tt_108
theorem sX7_mustEnd {d : Nat} {as : List pt_V} {m : pt_M} {Q : pt_Q} (h : Go (Sp d) tt_108 Q 0 (pt_ini 1 as) [] m) (hl : Nat.ble (pt_exp as).length 1 = true := by rfl) : Sp (d + 1) nX7_mustEnd as m Q := Sp_of rfl rfl hl h
abbrev nX7_begins : Nat := 109
abbrev tX7_begins : Nat → Option pt_O := tt_109
theorem sX7_begins {d : Nat} {as : List pt_V} {m : pt_M} {Q : pt_Q} (h : Go (Sp d) tt_109 Q 0 (pt_ini 3 as) [] m) (hl : Nat.ble (pt_exp as).length 3 = true := by rfl) : Sp (d + 1) nX7_begins as m Q := Sp_of rfl rfl hl h
abbrev nX7_readWall : Nat := 110
abbrev tX7_readWall : Nat → Option pt_O := tt_110
theorem sX7_readWall {d : Nat} {as : List pt_V} {m : pt_M} {Q : pt_Q} (h : Go (Sp d) tt_110 Q 0 (pt_ini 3 as) [] m) (hl : Nat.ble (pt_exp as).length 3 = true := by rfl) : Sp (d + 1) nX7_readWall as m Q := Sp_of rfl rfl hl h
abbrev nX7_readReader : Nat := 111
abbrev tX7_readReader : Nat → Option pt_O := tt_111
theorem sX7_readReader {d : Nat} {as : List pt_V} {m : pt_M} {Q : pt_Q} (h : Go (Sp d) tt_111 Q 0 (pt_ini 4 as) [] m) (hl : Nat.ble (pt_exp as).length 4 = true := by rfl) : Sp (d + 1) nX7_readReader as m Q := Sp_of rfl rfl hl h
abbrev nX7_street : Nat := 112
abbrev tX7_street : Nat → Option pt_O := tt_112
theorem sX7_street {d : Nat} {as : List pt_V} {m : pt_M} {Q : pt_Q} (h : Go (Sp d) tt_112 Q 0 (pt_ini 2 as) [] m) (hl : Nat.ble (pt_exp as).length 2 = true := by rfl) : Sp (d + 1) nX7_street as m Q := Sp_of rfl rfl hl h
abbrev nX7_fault : Nat := 113
abbrev tX7_fault : Nat → Option pt_O := tt_113
theorem sX7_fault {d : Nat} {as : List pt_V} {m : pt_M} {Q : pt_Q} (h : Go (Sp d) tt_113 Q 0 (pt_ini 1 as) [] m) (hl : Nat.ble (pt_exp as).length 1 = true := by rfl) : Sp (d + 1) nX7_fault as m Q := Sp_of rfl rfl hl h
abbrev nX7_isThere : Nat := 114
abbrev tX7_isThere : Nat → Option pt_O := tt_114
theorem sX7_isThere {d : Nat} {as : List pt_V} {m : pt_M} {Q : pt_Q} (h : Go (Sp d) tt_114 Q 0 (pt_ini 1 as) [] m) (hl : Nat.ble (pt_exp as).length 1 = true := by rfl) : Sp (d + 1) nX7_isThere as m Q := Sp_of rfl rfl hl h
abbrev nX7_isWall : Nat := 115
abbrev tX7_isWall : Nat → Option pt_O := tt_115
theorem sX7_isWall {d : Nat} {as : List pt_V} {m : pt_M} {Q : pt_Q} (h : Go (Sp d) tt_115 Q 0 (pt_ini 2 as) [] m) (hl : Nat.ble (pt_exp as).length 2 = true := by rfl) : Sp (d + 1) nX7_isWall as m Q := Sp_of rfl rfl hl h
abbrev nX7_isReader : Nat := 116
abbrev tX7_isReader : Nat → Option pt_O := tt_116
theorem sX7_isReader {d : Nat} {as : List pt_V} {m : pt_M} {Q : pt_Q} (h : Go (Sp d) tt_116 Q 0 (pt_ini 2 as) [] m) (hl : Nat.ble (pt_exp as).length 2 = true := by rfl) : Sp (d + 1) nX7_isReader as m Q := Sp_of rfl rfl hl h
abbrev nX7_isFlavour : Nat := 117
abbrev tX7_isFlavour : Nat → Option pt_O := tt_117
theorem sX7_isFlavour {d : Nat} {as : List pt_V} {m : pt_M} {Q : pt_Q} (h : Go (Sp d) tt_117 Q 0 (pt_ini 1 as) [] m) (hl : Nat.ble (pt_exp as).length 1 = true := by rfl) : Sp (d + 1) nX7_isFlavour as m Q := Sp_of rfl rfl hl h
abbrev nX7_isWalk : Nat := 118
abbrev tX7_isWalk : Nat → Option pt_O := tt_118
theorem sX7_isWalk {d : Nat} {as : List pt_V} {m : pt_M} {Q : pt_Q} (h : Go (Sp d) tt_118 Q 0 (pt_ini 4 as) [] m) (hl : Nat.ble (pt_exp as).length 4 = true := by rfl) : Sp (d + 1) nX7_isWalk as m Q := Sp_of rfl rfl hl h
abbrev nX7_of : Nat := 119
abbrev tX7_of : Nat → Option pt_O := tt_119
theorem sX7_of {d : Nat} {as : List pt_V} {m : pt_M} {Q : pt_Q} (h : Go (Sp d) tt_119 Q 0 (pt_ini 3 as) [] m) (hl : Nat.ble (pt_exp as).length 3 = true := by rfl) : Sp (d + 1) nX7_of as m Q := Sp_of rfl rfl hl h
abbrev nX7_strong : Nat := 120
abbrev tX7_strong : Nat → Option pt_O := tt_120
theorem sX7_strong {d : Nat} {as : List pt_V} {m : pt_M} {Q : pt_Q} (h : Go (Sp d) tt_120 Q 0 (pt_ini 3 as) [] m) (hl : Nat.ble (pt_exp as).length 3 = true := by rfl) : Sp (d + 1) nX7_strong as m Q := Sp_of rfl rfl hl h
abbrev nX7_layPalm : Nat := 121
abbrev tX7_layPalm : Nat → Option pt_O := tt_121
theorem sX7_layPalm {d : Nat} {as : List pt_V} {m : pt_M} {Q : pt_Q} (h : Go (Sp d) tt_121 Q 0 (pt_ini 3 as) [] m) (hl : Nat.ble (pt_exp as).length 3 = true := by rfl) : Sp (d + 1) nX7_layPalm as m Q := Sp_of rfl rfl hl h
abbrev nX7_feels : Nat := 122
abbrev tX7_feels : Nat → Option pt_O := tt_122
theorem sX7_feels {d : Nat} {as : List pt_V} {m : pt_M} {Q : pt_Q} (h : Go (Sp d) tt_122 Q 0 (pt_ini 4 as) [] m) (hl : Nat.ble (pt_exp as).length 4 = true := by rfl) : Sp (d + 1) nX7_feels as m Q := Sp_of rfl rfl hl h
abbrev nX7_tastes : Nat := 123
abbrev tX7_tastes : Nat → Option pt_O := tt_123
theorem sX7_tastes {d : Nat} {as : List pt_V} {m : pt_M} {Q : pt_Q} (h : Go (Sp d) tt_123 Q 0 (pt_ini 8 as) [] m) (hl : Nat.ble (pt_exp as).length 8 = true := by rfl) : Sp (d + 1) nX7_tastes as m Q := Sp_of rfl rfl hl h
abbrev nX7_reads : Nat := 124
abbrev tX7_reads : Nat → Option pt_O := tt_124
theorem sX7_reads {d : Nat} {as : List pt_V} {m : pt_M} {Q : pt_Q} (h : Go (Sp d) tt_124 Q 0 (pt_ini 2 as) [] m) (hl : Nat.ble (pt_exp as).length 2 = true := by rfl) : Sp (d + 1) nX7_reads as m Q := Sp_of rfl rfl hl h
abbrev nX7_getsUsed : Nat := 125
abbrev tX7_getsUsed : Nat → Option pt_O := tt_125
theorem sX7_getsUsed {d : Nat} {as : List pt_V} {m : pt_M} {Q : pt_Q} (h : Go (Sp d) tt_125 Q 0 (pt_ini 4 as) [] m) (hl : Nat.ble (pt_exp as).length 4 = true := by rfl) : Sp (d + 1) nX7_getsUsed as m Q := Sp_of rfl rfl hl h
abbrev nX7_wallsOf : Nat := 126
abbrev tX7_wallsOf : Nat → Option pt_O := tt_126
theorem sX7_wallsOf {d : Nat} {as : List pt_V} {m : pt_M} {Q : pt_Q} (h : Go (Sp d) tt_126 Q 0 (pt_ini 2 as) [] m) (hl : Nat.ble (pt_exp as).length 2 = true := by rfl) : Sp (d + 1) nX7_wallsOf as m Q := Sp_of rfl rfl hl h
abbrev nX7_wallAt : Nat := 127
abbrev tX7_wallAt : Nat → Option pt_O := tt_127
theorem sX7_wallAt {d : Nat} {as : List pt_V} {m : pt_M} {Q : pt_Q} (h : Go (Sp d) tt_127 Q 0 (pt_ini 3 as) [] m) (hl : Nat.ble (pt_exp as).length 3 = true := by rfl) : Sp (d + 1) nX7_wallAt as m Q := Sp_of rfl rfl hl h
abbrev nX7_keep : Nat := 128
abbrev tX7_keep : Nat → Option pt_O := tt_128
theorem sX7_keep {d : Nat} {as : List pt_V} {m : pt_M} {Q : pt_Q} (h : Go (Sp d) tt_128 Q 0 (pt_ini 2 as) [] m) (hl : Nat.ble (pt_exp as).length 2 = true := by rfl) : Sp (d + 1) nX7_keep as m Q := Sp_of rfl rfl hl h
abbrev nX7_paint : Nat := 129
abbrev tX7_paint : Nat → Option pt_O := tt_129
theorem sX7_paint {d : Nat} {as : List pt_V} {m : pt_M} {Q : pt_Q} (h : Go (Sp d) tt_129 Q 0 (pt_ini 5 as) [] m) (hl : Nat.ble (pt_exp as).length 5 = true := by rfl) : Sp (d + 1) nX7_paint as m Q := Sp_of rfl rfl hl h
abbrev nX7_day : Nat := 130
abbrev tX7_day : Nat → Option pt_O := tt_130
theorem sX7_day {d : Nat} {as : List pt_V} {m : pt_M} {Q : pt_Q} (h : Go (Sp d) tt_130 Q 0 (pt_ini 7 as) [] m) (hl : Nat.ble (pt_exp as).length 7 = true := by rfl) : Sp (d + 1) nX7_day as m Q := Sp_of rfl rfl hl h
abbrev nX7_walk : Nat := 131
abbrev tX7_walk : Nat → Option pt_O := tt_131
theorem sX7_walk {d : Nat} {as : List pt_V} {m : pt_M} {Q : pt_Q} (h : Go (Sp d) tt_131 Q 0 (pt_ini 7 as) [] m) (hl : Nat.ble (pt_exp as).length 7 = true := by rfl) : Sp (d + 1) nX7_walk as m Q := Sp_of rfl rfl hl h
abbrev nX7_usedOf : Nat := 132
abbrev tX7_usedOf : Nat → Option pt_O := tt_132
theorem sX7_usedOf {d : Nat} {as : List pt_V} {m : pt_M} {Q : pt_Q} (h : Go (Sp d) tt_132 Q 0 (pt_ini 4 as) [] m) (hl : Nat.ble (pt_exp as).length 4 = true := by rfl) : Sp (d + 1) nX7_usedOf as m Q := Sp_of rfl rfl hl h
abbrev nX7_rest : Nat := 133
abbrev tX7_rest : Nat → Option pt_O := tt_133
theorem sX7_rest {d : Nat} {as : List pt_V} {m : pt_M} {Q : pt_Q} (h : Go (Sp d) tt_133 Q 0 (pt_ini 4 as) [] m) (hl : Nat.ble (pt_exp as).length 4 = true := by rfl) : Sp (d + 1) nX7_rest as m Q := Sp_of rfl rfl hl h
abbrev nX7_undo : Nat := 134
abbrev tX7_undo : Nat → Option pt_O := tt_134
theorem sX7_undo {d : Nat} {as : List pt_V} {m : pt_M} {Q : pt_Q} (h : Go (Sp d) tt_134 Q 0 (pt_ini 2 as) [] m) (hl : Nat.ble (pt_exp as).length 2 = true := by rfl) : Sp (d + 1) nX7_undo as m Q := Sp_of rfl rfl hl h
abbrev nX7_wall : Nat := 135
abbrev tX7_wall : Nat → Option pt_O := tt_135
theorem sX7_wall {d : Nat} {as : List pt_V} {m : pt_M} {Q : pt_Q} (h : Go (Sp d) tt_135 Q 0 (pt_ini 3 as) [] m) (hl : Nat.ble (pt_exp as).length 3 = true := by rfl) : Sp (d + 1) nX7_wall as m Q := Sp_of rfl rfl hl h
abbrev nX7_reader : Nat := 136
abbrev tX7_reader : Nat → Option pt_O := tt_136
theorem sX7_reader {d : Nat} {as : List pt_V} {m : pt_M} {Q : pt_Q} (h : Go (Sp d) tt_136 Q 0 (pt_ini 3 as) [] m) (hl : Nat.ble (pt_exp as).length 3 = true := by rfl) : Sp (d + 1) nX7_reader as m Q := Sp_of rfl rfl hl h
abbrev nX7_felt : Nat := 137
abbrev tX7_felt : Nat → Option pt_O := tt_137
theorem sX7_felt {d : Nat} {as : List pt_V} {m : pt_M} {Q : pt_Q} (h : Go (Sp d) tt_137 Q 0 (pt_ini 4 as) [] m) (hl : Nat.ble (pt_exp as).length 4 = true := by rfl) : Sp (d + 1) nX7_felt as m Q := Sp_of rfl rfl hl h
abbrev nX7_read : Nat := 138
abbrev tX7_read : Nat → Option pt_O := tt_138
theorem sX7_read {d : Nat} {as : List pt_V} {m : pt_M} {Q : pt_Q} (h : Go (Sp d) tt_138 Q 0 (pt_ini 7 as) [] m) (hl : Nat.ble (pt_exp as).length 7 = true := by rfl) : Sp (d + 1) nX7_read as m Q := Sp_of rfl rfl hl h
abbrev nX7_barred : Nat := 139
abbrev tX7_barred : Nat → Option pt_O := tt_139
theorem sX7_barred {d : Nat} {as : List pt_V} {m : pt_M} {Q : pt_Q} (h : Go (Sp d) tt_139 Q 0 (pt_ini 5 as) [] m) (hl : Nat.ble (pt_exp as).length 5 = true := by rfl) : Sp (d + 1) nX7_barred as m Q := Sp_of rfl rfl hl h
abbrev nX7_wrong : Nat := 140
abbrev tX7_wrong : Nat → Option pt_O := tt_140
theorem sX7_wrong {d : Nat} {as : List pt_V} {m : pt_M} {Q : pt_Q} (h : Go (Sp d) tt_140 Q 0 (pt_ini 8 as) [] m) (hl : Nat.ble (pt_exp as).length 8 = true := by rfl) : Sp (d + 1) nX7_wrong as m Q := Sp_of rfl rfl hl h
abbrev nX7_often : Nat := 141
abbrev tX7_often : Nat → Option pt_O := tt_141
theorem sX7_often {d : Nat} {as : List pt_V} {m : pt_M} {Q : pt_Q} (h : Go (Sp d) tt_141 Q 0 (pt_ini 8 as) [] m) (hl : Nat.ble (pt_exp as).length 8 = true := by rfl) : Sp (d + 1) nX7_often as m Q := Sp_of rfl rfl hl h
abbrev nX7_laySpice : Nat := 142
abbrev tX7_laySpice : Nat → Option pt_O := tt_142
theorem sX7_laySpice {d : Nat} {as : List pt_V} {m : pt_M} {Q : pt_Q} (h : Go (Sp d) tt_142 Q 0 (pt_ini 10 as) [] m) (hl : Nat.ble (pt_exp as).length 10 = true := by rfl) : Sp (d + 1) nX7_laySpice as m Q := Sp_of rfl rfl hl h
abbrev nX7_spice : Nat := 143
abbrev tX7_spice : Nat → Option pt_O := tt_143
theorem sX7_spice {d : Nat} {as : List pt_V} {m : pt_M} {Q : pt_Q} (h : Go (Sp d) tt_143 Q 0 (pt_ini 10 as) [] m) (hl : Nat.ble (pt_exp as).length 10 = true := by rfl) : Sp (d + 1) nX7_spice as m Q := Sp_of rfl rfl hl h
abbrev nX7_both : Nat := 144
abbrev tX7_both : Nat → Option pt_O := tt_144
theorem sX7_both {d : Nat} {as : List pt_V} {m : pt_M} {Q : pt_Q} (h : Go (Sp d) tt_144 Q 0 (pt_ini 10 as) [] m) (hl : Nat.ble (pt_exp as).length 10 = true := by rfl) : Sp (d + 1) nX7_both as m Q := Sp_of rfl rfl hl h
abbrev nX7_goes : Nat := 145
abbrev tX7_goes : Nat → Option pt_O := tt_145
theorem sX7_goes {d : Nat} {as : List pt_V} {m : pt_M} {Q : pt_Q} (h : Go (Sp d) tt_145 Q 0 (pt_ini 8 as) [] m) (hl : Nat.ble (pt_exp as).length 8 = true := by rfl) : Sp (d + 1) nX7_goes as m Q := Sp_of rfl rfl hl h
abbrev nX7_isOrder : Nat := 146
abbrev tX7_isOrder : Nat → Option pt_O := tt_146
theorem sX7_isOrder {d : Nat} {as : List pt_V} {m : pt_M} {Q : pt_Q} (h : Go (Sp d) tt_146 Q 0 (pt_ini 4 as) [] m) (hl : Nat.ble (pt_exp as).length 4 = true := by rfl) : Sp (d + 1) nX7_isOrder as m Q := Sp_of rfl rfl hl h
abbrev nX7_order : Nat := 147
abbrev tX7_order : Nat → Option pt_O := tt_147
theorem sX7_order {d : Nat} {as : List pt_V} {m : pt_M} {Q : pt_Q} (h : Go (Sp d) tt_147 Q 0 (pt_ini 7 as) [] m) (hl : Nat.ble (pt_exp as).length 7 = true := by rfl) : Sp (d + 1) nX7_order as m Q := Sp_of rfl rfl hl h
abbrev nX7_written : Nat := 148
abbrev tX7_written : Nat → Option pt_O := tt_148
theorem sX7_written {d : Nat} {as : List pt_V} {m : pt_M} {Q : pt_Q} (h : Go (Sp d) tt_148 Q 0 (pt_ini 7 as) [] m) (hl : Nat.ble (pt_exp as).length 7 = true := by rfl) : Sp (d + 1) nX7_written as m Q := Sp_of rfl rfl hl h
abbrev nX7_forged : Nat := 149
abbrev tX7_forged : Nat → Option pt_O := tt_149
theorem sX7_forged {d : Nat} {as : List pt_V} {m : pt_M} {Q : pt_Q} (h : Go (Sp d) tt_149 Q 0 (pt_ini 6 as) [] m) (hl : Nat.ble (pt_exp as).length 6 = true := by rfl) : Sp (d + 1) nX7_forged as m Q := Sp_of rfl rfl hl h
abbrev nX7_image : Nat := 150
abbrev tX7_image : Nat → Option pt_O := tt_150
theorem sX7_image {d : Nat} {as : List pt_V} {m : pt_M} {Q : pt_Q} (h : Go (Sp d) tt_150 Q 0 (pt_ini 3 as) [] m) (hl : Nat.ble (pt_exp as).length 3 = true := by rfl) : Sp (d + 1) nX7_image as m Q := Sp_of rfl rfl hl h
abbrev nX7_restore : Nat := 151
abbrev tX7_restore : Nat → Option pt_O := tt_151
theorem sX7_restore {d : Nat} {as : List pt_V} {m : pt_M} {Q : pt_Q} (h : Go (Sp d) tt_151 Q 0 (pt_ini 3 as) [] m) (hl : Nat.ble (pt_exp as).length 3 = true := by rfl) : Sp (d + 1) nX7_restore as m Q := Sp_of rfl rfl hl h
abbrev nX7_isOf : Nat := 152
abbrev tX7_isOf : Nat → Option pt_O := tt_152
theorem sX7_isOf {d : Nat} {as : List pt_V} {m : pt_M} {Q : pt_Q} (h : Go (Sp d) tt_152 Q 0 (pt_ini 2 as) [] m) (hl : Nat.ble (pt_exp as).length 2 = true := by rfl) : Sp (d + 1) nX7_isOf as m Q := Sp_of rfl rfl hl h
abbrev nX7_kind : Nat := 153
abbrev tX7_kind : Nat → Option pt_O := tt_153
theorem sX7_kind {d : Nat} {as : List pt_V} {m : pt_M} {Q : pt_Q} (h : Go (Sp d) tt_153 Q 0 (pt_ini 2 as) [] m) (hl : Nat.ble (pt_exp as).length 2 = true := by rfl) : Sp (d + 1) nX7_kind as m Q := Sp_of rfl rfl hl h
abbrev nX7_as : Nat := 154
abbrev tX7_as : Nat → Option pt_O := tt_154
theorem sX7_as {d : Nat} {as : List pt_V} {m : pt_M} {Q : pt_Q} (h : Go (Sp d) tt_154 Q 0 (pt_ini 3 as) [] m) (hl : Nat.ble (pt_exp as).length 3 = true := by rfl) : Sp (d + 1) nX7_as as m Q := Sp_of rfl rfl hl h
abbrev nX7_began : Nat := 155
abbrev tX7_began : Nat → Option pt_O := tt_155
theorem sX7_began {d : Nat} {as : List pt_V} {m : pt_M} {Q : pt_Q} (h : Go (Sp d) tt_155 Q 0 (pt_ini 2 as) [] m) (hl : Nat.ble (pt_exp as).length 2 = true := by rfl) : Sp (d + 1) nX7_began as m Q := Sp_of rfl rfl hl h
abbrev nX7_plainSize : Nat := 156
abbrev tX7_plainSize : Nat → Option pt_O := tt_156
theorem sX7_plainSize {d : Nat} {as : List pt_V} {m : pt_M} {Q : pt_Q} (h : Go (Sp d) tt_156 Q 0 (pt_ini 2 as) [] m) (hl : Nat.ble (pt_exp as).length 2 = true := by rfl) : Sp (d + 1) nX7_plainSize as m Q := Sp_of rfl rfl hl h
abbrev nX7_waxSize : Nat := 157
abbrev tX7_waxSize : Nat → Option pt_O := tt_157
theorem sX7_waxSize {d : Nat} {as : List pt_V} {m : pt_M} {Q : pt_Q} (h : Go (Sp d) tt_157 Q 0 (pt_ini 3 as) [] m) (hl : Nat.ble (pt_exp as).length 3 = true := by rfl) : Sp (d + 1) nX7_waxSize as m Q := Sp_of rfl rfl hl h
abbrev nX7_markOf : Nat := 158
abbrev tX7_markOf : Nat → Option pt_O := tt_158
theorem sX7_markOf {d : Nat} {as : List pt_V} {m : pt_M} {Q : pt_Q} (h : Go (Sp d) tt_158 Q 0 (pt_ini 4 as) [] m) (hl : Nat.ble (pt_exp as).length 4 = true := by rfl) : Sp (d + 1) nX7_markOf as m Q := Sp_of rfl rfl hl h
abbrev nX7_sizeOf : Nat := 159
abbrev tX7_sizeOf : Nat → Option pt_O := tt_159
theorem sX7_sizeOf {d : Nat} {as : List pt_V} {m : pt_M} {Q : pt_Q} (h : Go (Sp d) tt_159 Q 0 (pt_ini 4 as) [] m) (hl : Nat.ble (pt_exp as).length 4 = true := by rfl) : Sp (d + 1) nX7_sizeOf as m Q := Sp_of rfl rfl hl h
abbrev nX7_ask : Nat := 160
abbrev tX7_ask : Nat → Option pt_O := tt_160
theorem sX7_ask {d : Nat} {as : List pt_V} {m : pt_M} {Q : pt_Q} (h : Go (Sp d) tt_160 Q 0 (pt_ini 3 as) [] m) (hl : Nat.ble (pt_exp as).length 3 = true := by rfl) : Sp (d + 1) nX7_ask as m Q := Sp_of rfl rfl hl h
abbrev nX7_trace : Nat := 161
abbrev tX7_trace : Nat → Option pt_O := tt_161
theorem sX7_trace {d : Nat} {as : List pt_V} {m : pt_M} {Q : pt_Q} (h : Go (Sp d) tt_161 Q 0 (pt_ini 2 as) [] m) (hl : Nat.ble (pt_exp as).length 2 = true := by rfl) : Sp (d + 1) nX7_trace as m Q := Sp_of rfl rfl hl h
abbrev nX7_count : Nat := 162
abbrev tX7_count : Nat → Option pt_O := tt_162
theorem sX7_count {d : Nat} {as : List pt_V} {m : pt_M} {Q : pt_Q} (h : Go (Sp d) tt_162 Q 0 (pt_ini 4 as) [] m) (hl : Nat.ble (pt_exp as).length 4 = true := by rfl) : Sp (d + 1) nX7_count as m Q := Sp_of rfl rfl hl h
abbrev nX7_status : Nat := 163
abbrev tX7_status : Nat → Option pt_O := tt_163
theorem sX7_status {d : Nat} {as : List pt_V} {m : pt_M} {Q : pt_Q} (h : Go (Sp d) tt_163 Q 0 (pt_ini 1 as) [] m) (hl : Nat.ble (pt_exp as).length 1 = true := by rfl) : Sp (d + 1) nX7_status as m Q := Sp_of rfl rfl hl h
abbrev nJ0_length : Nat := 164
abbrev tJ0_length : Nat → Option pt_O := tt_164
theorem sJ0_length {d : Nat} {as : List pt_V} {m : pt_M} {Q : pt_Q} (h : Go (Sp d) tt_164 Q 0 (pt_ini 1 as) [] m) (hl : Nat.ble (pt_exp as).length 1 = true := by rfl) : Sp (d + 1) nJ0_length as m Q := Sp_of rfl rfl hl h
abbrev nJ0_charAt : Nat := 165
abbrev tJ0_charAt : Nat → Option pt_O := tt_165
theorem sJ0_charAt {d : Nat} {as : List pt_V} {m : pt_M} {Q : pt_Q} (h : Go (Sp d) tt_165 Q 0 (pt_ini 2 as) [] m) (hl : Nat.ble (pt_exp as).length 2 = true := by rfl) : Sp (d + 1) nJ0_charAt as m Q := Sp_of rfl rfl hl h
abbrev nJ0_coder : Nat := 166
abbrev tJ0_coder : Nat → Option pt_O := tt_166
theorem sJ0_coder {d : Nat} {as : List pt_V} {m : pt_M} {Q : pt_Q} (h : Go (Sp d) tt_166 Q 0 (pt_ini 1 as) [] m) (hl : Nat.ble (pt_exp as).length 1 = true := by rfl) : Sp (d + 1) nJ0_coder as m Q := Sp_of rfl rfl hl h
abbrev nJ0_isLatin1 : Nat := 167
abbrev tJ0_isLatin1 : Nat → Option pt_O := tt_167
theorem sJ0_isLatin1 {d : Nat} {as : List pt_V} {m : pt_M} {Q : pt_Q} (h : Go (Sp d) tt_167 Q 0 (pt_ini 1 as) [] m) (hl : Nat.ble (pt_exp as).length 1 = true := by rfl) : Sp (d + 1) nJ0_isLatin1 as m Q := Sp_of rfl rfl hl h
abbrev nJ0_checkIndex : Nat := 168
abbrev tJ0_checkIndex : Nat → Option pt_O := tt_168
theorem sJ0_checkIndex {d : Nat} {as : List pt_V} {m : pt_M} {Q : pt_Q} (h : Go (Sp d) tt_168 Q 0 (pt_ini 2 as) [] m) (hl : Nat.ble (pt_exp as).length 2 = true := by rfl) : Sp (d + 1) nJ0_checkIndex as m Q := Sp_of rfl rfl hl h
abbrev nJ1_charAt : Nat := 169
abbrev tJ1_charAt : Nat → Option pt_O := tt_169
theorem sJ1_charAt {d : Nat} {as : List pt_V} {m : pt_M} {Q : pt_Q} (h : Go (Sp d) tt_169 Q 0 (pt_ini 2 as) [] m) (hl : Nat.ble (pt_exp as).length 2 = true := by rfl) : Sp (d + 1) nJ1_charAt as m Q := Sp_of rfl rfl hl h
abbrev nJ7_fill : Nat := 170
abbrev tJ7_fill : Nat → Option pt_O := tt_170
theorem sJ7_fill {d : Nat} {as : List pt_V} {m : pt_M} {Q : pt_Q} (h : Go (Sp d) tt_170 Q 0 (pt_ini 4 as) [] m) (hl : Nat.ble (pt_exp as).length 4 = true := by rfl) : Sp (d + 1) nJ7_fill as m Q := Sp_of rfl rfl hl h
abbrev nJ3_checkIndex : Nat := 171
abbrev tJ3_checkIndex : Nat → Option pt_O := tt_171
theorem sJ3_checkIndex {d : Nat} {as : List pt_V} {m : pt_M} {Q : pt_Q} (h : Go (Sp d) tt_171 Q 0 (pt_ini 3 as) [] m) (hl : Nat.ble (pt_exp as).length 3 = true := by rfl) : Sp (d + 1) nJ3_checkIndex as m Q := Sp_of rfl rfl hl h
