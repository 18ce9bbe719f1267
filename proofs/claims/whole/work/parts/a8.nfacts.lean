theorem oi_in : Cond.instanceMethod Lib.objectInit ∈ gt_tbl := tb_at 97 (by decide +kernel) (by decide +kernel)
theorem oi_code : Cond.code Lib.objectInit ⟨#[0xb1]⟩ 1 none ∈ gt_tbl := tb_at 98 (by decide +kernel) (by decide +kernel)
theorem ac_int : Cond.arrayClass .int ∈ gt_tbl := tb_at 163 (by decide +kernel) (by decide +kernel)
theorem ac_long : Cond.arrayClass .long ∈ gt_tbl := tb_at 162 (by decide +kernel) (by decide +kernel)
theorem ac_boolean : Cond.arrayClass .boolean ∈ gt_tbl := tb_at 1093 (by decide +kernel) (by decide +kernel)
abbrev zX8_init : zM := (yX8_init, cX8_init, 1, none, 5, 123)
set_option maxRecDepth 100000 in
theorem wiX8 : Cond.code yX8_init cX8_init 1 (none) ∈ gt_tbl := tb_at 95 (by rfl) (by decide +kernel)
theorem niX8 : Cond.initialized "MineDesk" ∈ gt_tbl := tb_at 78 (by decide +kernel) (by decide +kernel)
theorem kiX8 : zNi zX8_init 0 := ⟨⟨by decide +kernel, by decide +kernel, by decide +kernel, wiX8, niX8⟩, by decide +kernel, tb_at 94 (by decide +kernel) (by decide +kernel), rfl, rfl⟩
abbrev zX9_init : zM := (yX9_init, cX9_init, 1, none, 2, 55)
set_option maxRecDepth 100000 in
theorem wiX9 : Cond.code yX9_init cX9_init 1 (none) ∈ gt_tbl := tb_at 968 (by rfl) (by decide +kernel)
theorem niX9 : Cond.initialized "MineDeskModel" ∈ gt_tbl := tb_at 87 (by decide +kernel) (by decide +kernel)
theorem kiX9 : zNi zX9_init 0 := ⟨⟨by decide +kernel, by decide +kernel, by decide +kernel, wiX9, niX9⟩, by decide +kernel, tb_at 967 (by decide +kernel) (by decide +kernel), rfl, rfl⟩
abbrev zX0_init : zM := (yX0_init, cX0_init, 1, none, 1, 20)
set_option maxRecDepth 100000 in
theorem wiX0 : Cond.code yX0_init cX0_init 1 (none) ∈ gt_tbl := tb_at 168 (by rfl) (by decide +kernel)
theorem niX0 : Cond.initialized "MineDesk$Bits" ∈ gt_tbl := tb_at 81 (by decide +kernel) (by decide +kernel)
theorem kiX0 : zNi zX0_init 0 := ⟨⟨by decide +kernel, by decide +kernel, by decide +kernel, wiX0, niX0⟩, by decide +kernel, tb_at 167 (by decide +kernel) (by decide +kernel), rfl, rfl⟩
abbrev zX1_init : zM := (yX1_init, cX1_init, 1, none, 2, 40)
set_option maxRecDepth 100000 in
theorem wiX1 : Cond.code yX1_init cX1_init 1 (none) ∈ gt_tbl := tb_at 103 (by rfl) (by decide +kernel)
theorem niX1 : Cond.initialized "MineDesk$Board" ∈ gt_tbl := tb_at 79 (by decide +kernel) (by decide +kernel)
theorem kiX1 : zNi zX1_init 0 := ⟨⟨by decide +kernel, by decide +kernel, by decide +kernel, wiX1, niX1⟩, by decide +kernel, tb_at 102 (by decide +kernel) (by decide +kernel), rfl, rfl⟩
abbrev zX2_init : zM := (yX2_init, cX2_init, 1, none, 1, 20)
set_option maxRecDepth 100000 in
theorem wiX2 : Cond.code yX2_init cX2_init 1 (none) ∈ gt_tbl := tb_at 109 (by rfl) (by decide +kernel)
theorem niX2 : Cond.initialized "MineDesk$Grid" ∈ gt_tbl := tb_at 80 (by decide +kernel) (by decide +kernel)
theorem kiX2 : zNi zX2_init 0 := ⟨⟨by decide +kernel, by decide +kernel, by decide +kernel, wiX2, niX2⟩, by decide +kernel, tb_at 108 (by decide +kernel) (by decide +kernel), rfl, rfl⟩
abbrev zX3_init : zM := (yX3_init, cX3_init, 2, none, 3, 60)
set_option maxRecDepth 100000 in
theorem wiX3 : Cond.code yX3_init cX3_init 2 (none) ∈ gt_tbl := tb_at 398 (by rfl) (by decide +kernel)
theorem niX3 : Cond.initialized "MineDesk$Maker" ∈ gt_tbl := tb_at 86 (by decide +kernel) (by decide +kernel)
theorem kiX3 : zNi zX3_init 1 := ⟨⟨by decide +kernel, by decide +kernel, by decide +kernel, wiX3, niX3⟩, by decide +kernel, tb_at 397 (by decide +kernel) (by decide +kernel), rfl, rfl⟩
abbrev zX4_init : zM := (yX4_init, cX4_init, 1, none, 1, 20)
set_option maxRecDepth 100000 in
theorem wiX4 : Cond.code yX4_init cX4_init 1 (none) ∈ gt_tbl := tb_at 245 (by rfl) (by decide +kernel)
theorem niX4 : Cond.initialized "MineDesk$Moves" ∈ gt_tbl := tb_at 82 (by decide +kernel) (by decide +kernel)
theorem kiX4 : zNi zX4_init 0 := ⟨⟨by decide +kernel, by decide +kernel, by decide +kernel, wiX4, niX4⟩, by decide +kernel, tb_at 244 (by decide +kernel) (by decide +kernel), rfl, rfl⟩
abbrev zX5_init : zM := (yX5_init, cX5_init, 1, none, 2, 40)
set_option maxRecDepth 100000 in
theorem wiX5 : Cond.code yX5_init cX5_init 1 (none) ∈ gt_tbl := tb_at 259 (by rfl) (by decide +kernel)
theorem niX5 : Cond.initialized "MineDesk$Placements" ∈ gt_tbl := tb_at 83 (by decide +kernel) (by decide +kernel)
theorem kiX5 : zNi zX5_init 0 := ⟨⟨by decide +kernel, by decide +kernel, by decide +kernel, wiX5, niX5⟩, by decide +kernel, tb_at 258 (by decide +kernel) (by decide +kernel), rfl, rfl⟩
abbrev zX6_init : zM := (yX6_init, cX6_init, 3, none, 2, 40)
set_option maxRecDepth 100000 in
theorem wiX6 : Cond.code yX6_init cX6_init 3 (none) ∈ gt_tbl := tb_at 346 (by rfl) (by decide +kernel)
theorem niX6 : Cond.initialized "MineDesk$Reasoner" ∈ gt_tbl := tb_at 85 (by decide +kernel) (by decide +kernel)
theorem kiX6 : zNi zX6_init 2 := ⟨⟨by decide +kernel, by decide +kernel, by decide +kernel, wiX6, niX6⟩, by decide +kernel, tb_at 345 (by decide +kernel) (by decide +kernel), rfl, rfl⟩
abbrev zX7_init : zM := (yX7_init, cX7_init, 1, none, 1, 20)
set_option maxRecDepth 100000 in
theorem wiX7 : Cond.code yX7_init cX7_init 1 (none) ∈ gt_tbl := tb_at 267 (by rfl) (by decide +kernel)
theorem niX7 : Cond.initialized "MineDesk$Search" ∈ gt_tbl := tb_at 84 (by decide +kernel) (by decide +kernel)
theorem kiX7 : zNi zX7_init 0 := ⟨⟨by decide +kernel, by decide +kernel, by decide +kernel, wiX7, niX7⟩, by decide +kernel, tb_at 266 (by decide +kernel) (by decide +kernel), rfl, rfl⟩
theorem ddX0_0 : decode (z_c zX0_init) 0 = .ok (.aload_n 0, 1) := by decide +kernel
theorem ddX0_1 : decode (z_c zX0_init) 1 = .ok (.invokespecial 1, 3) := by decide +kernel
theorem ddX0_4 : decode (z_c zX0_init) 4 = .ok (.return_, 1) := by decide +kernel
theorem ddX1_0 : decode (z_c zX1_init) 0 = .ok (.aload_n 0, 1) := by decide +kernel
theorem ddX1_1 : decode (z_c zX1_init) 1 = .ok (.invokespecial 3, 3) := by decide +kernel
theorem ddX1_4 : decode (z_c zX1_init) 4 = .ok (.aload_n 0, 1) := by decide +kernel
theorem ddX1_5 : decode (z_c zX1_init) 5 = .ok (.new 9, 3) := by decide +kernel
theorem ddX1_8 : decode (z_c zX1_init) 8 = .ok (.dup, 1) := by decide +kernel
theorem ddX1_9 : decode (z_c zX1_init) 9 = .ok (.invokespecial 11, 3) := by decide +kernel
theorem ddX1_12 : decode (z_c zX1_init) 12 = .ok (.putfield 12, 3) := by decide +kernel
theorem ddX1_15 : decode (z_c zX1_init) 15 = .ok (.aload_n 0, 1) := by decide +kernel
theorem ddX1_16 : decode (z_c zX1_init) 16 = .ok (.new 18, 3) := by decide +kernel
theorem ddX1_19 : decode (z_c zX1_init) 19 = .ok (.dup, 1) := by decide +kernel
theorem ddX1_20 : decode (z_c zX1_init) 20 = .ok (.invokespecial 20, 3) := by decide +kernel
theorem ddX1_23 : decode (z_c zX1_init) 23 = .ok (.putfield 21, 3) := by decide +kernel
theorem ddX1_26 : decode (z_c zX1_init) 26 = .ok (.aload_n 0, 1) := by decide +kernel
theorem ddX1_27 : decode (z_c zX1_init) 27 = .ok (.new 18, 3) := by decide +kernel
theorem ddX1_30 : decode (z_c zX1_init) 30 = .ok (.dup, 1) := by decide +kernel
theorem ddX1_31 : decode (z_c zX1_init) 31 = .ok (.invokespecial 20, 3) := by decide +kernel
theorem ddX1_34 : decode (z_c zX1_init) 34 = .ok (.putfield 25, 3) := by decide +kernel
theorem ddX1_37 : decode (z_c zX1_init) 37 = .ok (.aload_n 0, 1) := by decide +kernel
theorem ddX1_38 : decode (z_c zX1_init) 38 = .ok (.new 18, 3) := by decide +kernel
theorem ddX1_41 : decode (z_c zX1_init) 41 = .ok (.dup, 1) := by decide +kernel
theorem ddX1_42 : decode (z_c zX1_init) 42 = .ok (.invokespecial 20, 3) := by decide +kernel
theorem ddX1_45 : decode (z_c zX1_init) 45 = .ok (.putfield 28, 3) := by decide +kernel
theorem ddX1_48 : decode (z_c zX1_init) 48 = .ok (.aload_n 0, 1) := by decide +kernel
theorem ddX1_49 : decode (z_c zX1_init) 49 = .ok (.new 18, 3) := by decide +kernel
theorem ddX1_52 : decode (z_c zX1_init) 52 = .ok (.dup, 1) := by decide +kernel
theorem ddX1_53 : decode (z_c zX1_init) 53 = .ok (.invokespecial 20, 3) := by decide +kernel
theorem ddX1_56 : decode (z_c zX1_init) 56 = .ok (.putfield 31, 3) := by decide +kernel
theorem ddX1_59 : decode (z_c zX1_init) 59 = .ok (.aload_n 0, 1) := by decide +kernel
theorem ddX1_60 : decode (z_c zX1_init) 60 = .ok (.new 18, 3) := by decide +kernel
theorem ddX1_63 : decode (z_c zX1_init) 63 = .ok (.dup, 1) := by decide +kernel
theorem ddX1_64 : decode (z_c zX1_init) 64 = .ok (.invokespecial 20, 3) := by decide +kernel
theorem ddX1_67 : decode (z_c zX1_init) 67 = .ok (.putfield 34, 3) := by decide +kernel
theorem ddX1_70 : decode (z_c zX1_init) 70 = .ok (.aload_n 0, 1) := by decide +kernel
theorem ddX1_71 : decode (z_c zX1_init) 71 = .ok (.new 18, 3) := by decide +kernel
theorem ddX1_74 : decode (z_c zX1_init) 74 = .ok (.dup, 1) := by decide +kernel
theorem ddX1_75 : decode (z_c zX1_init) 75 = .ok (.invokespecial 20, 3) := by decide +kernel
theorem ddX1_78 : decode (z_c zX1_init) 78 = .ok (.putfield 37, 3) := by decide +kernel
theorem ddX1_81 : decode (z_c zX1_init) 81 = .ok (.aload_n 0, 1) := by decide +kernel
theorem ddX1_82 : decode (z_c zX1_init) 82 = .ok (.new 18, 3) := by decide +kernel
theorem ddX1_85 : decode (z_c zX1_init) 85 = .ok (.dup, 1) := by decide +kernel
theorem ddX1_86 : decode (z_c zX1_init) 86 = .ok (.invokespecial 20, 3) := by decide +kernel
theorem ddX1_89 : decode (z_c zX1_init) 89 = .ok (.putfield 40, 3) := by decide +kernel
theorem ddX1_92 : decode (z_c zX1_init) 92 = .ok (.aload_n 0, 1) := by decide +kernel
theorem ddX1_93 : decode (z_c zX1_init) 93 = .ok (.bipush 100, 2) := by decide +kernel
theorem ddX1_95 : decode (z_c zX1_init) 95 = .ok (.newarray .int, 2) := by decide +kernel
theorem ddX1_97 : decode (z_c zX1_init) 97 = .ok (.putfield 43, 3) := by decide +kernel
theorem ddX1_100 : decode (z_c zX1_init) 100 = .ok (.return_, 1) := by decide +kernel
theorem ddX2_0 : decode (z_c zX2_init) 0 = .ok (.aload_n 0, 1) := by decide +kernel
theorem ddX2_1 : decode (z_c zX2_init) 1 = .ok (.invokespecial 3, 3) := by decide +kernel
theorem ddX2_4 : decode (z_c zX2_init) 4 = .ok (.aload_n 0, 1) := by decide +kernel
theorem ddX2_5 : decode (z_c zX2_init) 5 = .ok (.bipush 100, 2) := by decide +kernel
theorem ddX2_7 : decode (z_c zX2_init) 7 = .ok (.newarray .long, 2) := by decide +kernel
theorem ddX2_9 : decode (z_c zX2_init) 9 = .ok (.putfield 9, 3) := by decide +kernel
theorem ddX2_12 : decode (z_c zX2_init) 12 = .ok (.aload_n 0, 1) := by decide +kernel
theorem ddX2_13 : decode (z_c zX2_init) 13 = .ok (.bipush 100, 2) := by decide +kernel
theorem ddX2_15 : decode (z_c zX2_init) 15 = .ok (.newarray .long, 2) := by decide +kernel
theorem ddX2_17 : decode (z_c zX2_init) 17 = .ok (.putfield 15, 3) := by decide +kernel
theorem ddX2_20 : decode (z_c zX2_init) 20 = .ok (.aload_n 0, 1) := by decide +kernel
theorem ddX2_21 : decode (z_c zX2_init) 21 = .ok (.sipush 800, 3) := by decide +kernel
theorem ddX2_24 : decode (z_c zX2_init) 24 = .ok (.newarray .int, 2) := by decide +kernel
theorem ddX2_26 : decode (z_c zX2_init) 26 = .ok (.putfield 18, 3) := by decide +kernel
theorem ddX2_29 : decode (z_c zX2_init) 29 = .ok (.aload_n 0, 1) := by decide +kernel
theorem ddX2_30 : decode (z_c zX2_init) 30 = .ok (.bipush 100, 2) := by decide +kernel
theorem ddX2_32 : decode (z_c zX2_init) 32 = .ok (.newarray .int, 2) := by decide +kernel
theorem ddX2_34 : decode (z_c zX2_init) 34 = .ok (.putfield 22, 3) := by decide +kernel
theorem ddX2_37 : decode (z_c zX2_init) 37 = .ok (.return_, 1) := by decide +kernel
theorem ddX3_0 : decode (z_c zX3_init) 0 = .ok (.aload_n 0, 1) := by decide +kernel
theorem ddX3_1 : decode (z_c zX3_init) 1 = .ok (.invokespecial 3, 3) := by decide +kernel
theorem ddX3_4 : decode (z_c zX3_init) 4 = .ok (.aload_n 0, 1) := by decide +kernel
theorem ddX3_5 : decode (z_c zX3_init) 5 = .ok (.new 9, 3) := by decide +kernel
theorem ddX3_8 : decode (z_c zX3_init) 8 = .ok (.dup, 1) := by decide +kernel
theorem ddX3_9 : decode (z_c zX3_init) 9 = .ok (.invokespecial 11, 3) := by decide +kernel
theorem ddX3_12 : decode (z_c zX3_init) 12 = .ok (.putfield 12, 3) := by decide +kernel
theorem ddX3_15 : decode (z_c zX3_init) 15 = .ok (.aload_n 0, 1) := by decide +kernel
theorem ddX3_16 : decode (z_c zX3_init) 16 = .ok (.new 18, 3) := by decide +kernel
theorem ddX3_19 : decode (z_c zX3_init) 19 = .ok (.dup, 1) := by decide +kernel
theorem ddX3_20 : decode (z_c zX3_init) 20 = .ok (.invokespecial 20, 3) := by decide +kernel
theorem ddX3_23 : decode (z_c zX3_init) 23 = .ok (.putfield 21, 3) := by decide +kernel
theorem ddX3_26 : decode (z_c zX3_init) 26 = .ok (.aload_n 0, 1) := by decide +kernel
theorem ddX3_27 : decode (z_c zX3_init) 27 = .ok (.aload_n 1, 1) := by decide +kernel
theorem ddX3_28 : decode (z_c zX3_init) 28 = .ok (.putfield 25, 3) := by decide +kernel
theorem ddX3_31 : decode (z_c zX3_init) 31 = .ok (.return_, 1) := by decide +kernel
theorem ddX4_0 : decode (z_c zX4_init) 0 = .ok (.aload_n 0, 1) := by decide +kernel
theorem ddX4_1 : decode (z_c zX4_init) 1 = .ok (.invokespecial 3, 3) := by decide +kernel
theorem ddX4_4 : decode (z_c zX4_init) 4 = .ok (.aload_n 0, 1) := by decide +kernel
theorem ddX4_5 : decode (z_c zX4_init) 5 = .ok (.sipush 1200, 3) := by decide +kernel
theorem ddX4_8 : decode (z_c zX4_init) 8 = .ok (.newarray .long, 2) := by decide +kernel
theorem ddX4_10 : decode (z_c zX4_init) 10 = .ok (.putfield 11, 3) := by decide +kernel
theorem ddX4_13 : decode (z_c zX4_init) 13 = .ok (.return_, 1) := by decide +kernel
theorem ddX5_0 : decode (z_c zX5_init) 0 = .ok (.aload_n 0, 1) := by decide +kernel
theorem ddX5_1 : decode (z_c zX5_init) 1 = .ok (.invokespecial 3, 3) := by decide +kernel
theorem ddX5_4 : decode (z_c zX5_init) 4 = .ok (.aload_n 0, 1) := by decide +kernel
theorem ddX5_5 : decode (z_c zX5_init) 5 = .ok (.new 9, 3) := by decide +kernel
theorem ddX5_8 : decode (z_c zX5_init) 8 = .ok (.dup, 1) := by decide +kernel
theorem ddX5_9 : decode (z_c zX5_init) 9 = .ok (.invokespecial 11, 3) := by decide +kernel
theorem ddX5_12 : decode (z_c zX5_init) 12 = .ok (.putfield 12, 3) := by decide +kernel
theorem ddX5_15 : decode (z_c zX5_init) 15 = .ok (.aload_n 0, 1) := by decide +kernel
theorem ddX5_16 : decode (z_c zX5_init) 16 = .ok (.new 9, 3) := by decide +kernel
theorem ddX5_19 : decode (z_c zX5_init) 19 = .ok (.dup, 1) := by decide +kernel
theorem ddX5_20 : decode (z_c zX5_init) 20 = .ok (.invokespecial 11, 3) := by decide +kernel
theorem ddX5_23 : decode (z_c zX5_init) 23 = .ok (.putfield 18, 3) := by decide +kernel
theorem ddX5_26 : decode (z_c zX5_init) 26 = .ok (.aload_n 0, 1) := by decide +kernel
theorem ddX5_27 : decode (z_c zX5_init) 27 = .ok (.new 21, 3) := by decide +kernel
theorem ddX5_30 : decode (z_c zX5_init) 30 = .ok (.dup, 1) := by decide +kernel
theorem ddX5_31 : decode (z_c zX5_init) 31 = .ok (.invokespecial 23, 3) := by decide +kernel
theorem ddX5_34 : decode (z_c zX5_init) 34 = .ok (.putfield 24, 3) := by decide +kernel
theorem ddX5_37 : decode (z_c zX5_init) 37 = .ok (.aload_n 0, 1) := by decide +kernel
theorem ddX5_38 : decode (z_c zX5_init) 38 = .ok (.new 9, 3) := by decide +kernel
theorem ddX5_41 : decode (z_c zX5_init) 41 = .ok (.dup, 1) := by decide +kernel
theorem ddX5_42 : decode (z_c zX5_init) 42 = .ok (.invokespecial 11, 3) := by decide +kernel
theorem ddX5_45 : decode (z_c zX5_init) 45 = .ok (.putfield 28, 3) := by decide +kernel
theorem ddX5_48 : decode (z_c zX5_init) 48 = .ok (.aload_n 0, 1) := by decide +kernel
theorem ddX5_49 : decode (z_c zX5_init) 49 = .ok (.new 9, 3) := by decide +kernel
theorem ddX5_52 : decode (z_c zX5_init) 52 = .ok (.dup, 1) := by decide +kernel
theorem ddX5_53 : decode (z_c zX5_init) 53 = .ok (.invokespecial 11, 3) := by decide +kernel
theorem ddX5_56 : decode (z_c zX5_init) 56 = .ok (.putfield 31, 3) := by decide +kernel
theorem ddX5_59 : decode (z_c zX5_init) 59 = .ok (.aload_n 0, 1) := by decide +kernel
theorem ddX5_60 : decode (z_c zX5_init) 60 = .ok (.new 9, 3) := by decide +kernel
theorem ddX5_63 : decode (z_c zX5_init) 63 = .ok (.dup, 1) := by decide +kernel
theorem ddX5_64 : decode (z_c zX5_init) 64 = .ok (.invokespecial 11, 3) := by decide +kernel
theorem ddX5_67 : decode (z_c zX5_init) 67 = .ok (.putfield 34, 3) := by decide +kernel
theorem ddX5_70 : decode (z_c zX5_init) 70 = .ok (.aload_n 0, 1) := by decide +kernel
theorem ddX5_71 : decode (z_c zX5_init) 71 = .ok (.bipush 100, 2) := by decide +kernel
theorem ddX5_73 : decode (z_c zX5_init) 73 = .ok (.newarray .int, 2) := by decide +kernel
theorem ddX5_75 : decode (z_c zX5_init) 75 = .ok (.putfield 37, 3) := by decide +kernel
theorem ddX5_78 : decode (z_c zX5_init) 78 = .ok (.aload_n 0, 1) := by decide +kernel
theorem ddX5_79 : decode (z_c zX5_init) 79 = .ok (.bipush 101, 2) := by decide +kernel
theorem ddX5_81 : decode (z_c zX5_init) 81 = .ok (.newarray .int, 2) := by decide +kernel
theorem ddX5_83 : decode (z_c zX5_init) 83 = .ok (.putfield 41, 3) := by decide +kernel
theorem ddX5_86 : decode (z_c zX5_init) 86 = .ok (.aload_n 0, 1) := by decide +kernel
theorem ddX5_87 : decode (z_c zX5_init) 87 = .ok (.bipush 100, 2) := by decide +kernel
theorem ddX5_89 : decode (z_c zX5_init) 89 = .ok (.newarray .int, 2) := by decide +kernel
theorem ddX5_91 : decode (z_c zX5_init) 91 = .ok (.putfield 44, 3) := by decide +kernel
theorem ddX5_94 : decode (z_c zX5_init) 94 = .ok (.aload_n 0, 1) := by decide +kernel
theorem ddX5_95 : decode (z_c zX5_init) 95 = .ok (.sipush 1300, 3) := by decide +kernel
theorem ddX5_98 : decode (z_c zX5_init) 98 = .ok (.newarray .int, 2) := by decide +kernel
theorem ddX5_100 : decode (z_c zX5_init) 100 = .ok (.putfield 47, 3) := by decide +kernel
theorem ddX5_103 : decode (z_c zX5_init) 103 = .ok (.aload_n 0, 1) := by decide +kernel
theorem ddX5_104 : decode (z_c zX5_init) 104 = .ok (.sipush 1300, 3) := by decide +kernel
theorem ddX5_107 : decode (z_c zX5_init) 107 = .ok (.newarray .int, 2) := by decide +kernel
theorem ddX5_109 : decode (z_c zX5_init) 109 = .ok (.putfield 50, 3) := by decide +kernel
theorem ddX5_112 : decode (z_c zX5_init) 112 = .ok (.aload_n 0, 1) := by decide +kernel
theorem ddX5_113 : decode (z_c zX5_init) 113 = .ok (.bipush 101, 2) := by decide +kernel
theorem ddX5_115 : decode (z_c zX5_init) 115 = .ok (.newarray .long, 2) := by decide +kernel
theorem ddX5_117 : decode (z_c zX5_init) 117 = .ok (.putfield 53, 3) := by decide +kernel
theorem ddX5_120 : decode (z_c zX5_init) 120 = .ok (.aload_n 0, 1) := by decide +kernel
theorem ddX5_121 : decode (z_c zX5_init) 121 = .ok (.bipush 101, 2) := by decide +kernel
theorem ddX5_123 : decode (z_c zX5_init) 123 = .ok (.newarray .long, 2) := by decide +kernel
theorem ddX5_125 : decode (z_c zX5_init) 125 = .ok (.putfield 57, 3) := by decide +kernel
theorem ddX5_128 : decode (z_c zX5_init) 128 = .ok (.aload_n 0, 1) := by decide +kernel
theorem ddX5_129 : decode (z_c zX5_init) 129 = .ok (.bipush 101, 2) := by decide +kernel
theorem ddX5_131 : decode (z_c zX5_init) 131 = .ok (.newarray .long, 2) := by decide +kernel
theorem ddX5_133 : decode (z_c zX5_init) 133 = .ok (.putfield 60, 3) := by decide +kernel
theorem ddX5_136 : decode (z_c zX5_init) 136 = .ok (.return_, 1) := by decide +kernel
theorem ddX6_0 : decode (z_c zX6_init) 0 = .ok (.aload_n 0, 1) := by decide +kernel
theorem ddX6_1 : decode (z_c zX6_init) 1 = .ok (.invokespecial 3, 3) := by decide +kernel
theorem ddX6_4 : decode (z_c zX6_init) 4 = .ok (.aload_n 0, 1) := by decide +kernel
theorem ddX6_5 : decode (z_c zX6_init) 5 = .ok (.new 9, 3) := by decide +kernel
theorem ddX6_8 : decode (z_c zX6_init) 8 = .ok (.dup, 1) := by decide +kernel
theorem ddX6_9 : decode (z_c zX6_init) 9 = .ok (.invokespecial 11, 3) := by decide +kernel
theorem ddX6_12 : decode (z_c zX6_init) 12 = .ok (.putfield 12, 3) := by decide +kernel
theorem ddX6_15 : decode (z_c zX6_init) 15 = .ok (.aload_n 0, 1) := by decide +kernel
theorem ddX6_16 : decode (z_c zX6_init) 16 = .ok (.new 9, 3) := by decide +kernel
theorem ddX6_19 : decode (z_c zX6_init) 19 = .ok (.dup, 1) := by decide +kernel
theorem ddX6_20 : decode (z_c zX6_init) 20 = .ok (.invokespecial 11, 3) := by decide +kernel
theorem ddX6_23 : decode (z_c zX6_init) 23 = .ok (.putfield 18, 3) := by decide +kernel
theorem ddX6_26 : decode (z_c zX6_init) 26 = .ok (.aload_n 0, 1) := by decide +kernel
theorem ddX6_27 : decode (z_c zX6_init) 27 = .ok (.bipush 100, 2) := by decide +kernel
theorem ddX6_29 : decode (z_c zX6_init) 29 = .ok (.newarray .long, 2) := by decide +kernel
theorem ddX6_31 : decode (z_c zX6_init) 31 = .ok (.putfield 21, 3) := by decide +kernel
theorem ddX6_34 : decode (z_c zX6_init) 34 = .ok (.aload_n 0, 1) := by decide +kernel
theorem ddX6_35 : decode (z_c zX6_init) 35 = .ok (.bipush 100, 2) := by decide +kernel
theorem ddX6_37 : decode (z_c zX6_init) 37 = .ok (.newarray .long, 2) := by decide +kernel
theorem ddX6_39 : decode (z_c zX6_init) 39 = .ok (.putfield 25, 3) := by decide +kernel
theorem ddX6_42 : decode (z_c zX6_init) 42 = .ok (.aload_n 0, 1) := by decide +kernel
theorem ddX6_43 : decode (z_c zX6_init) 43 = .ok (.new 9, 3) := by decide +kernel
theorem ddX6_46 : decode (z_c zX6_init) 46 = .ok (.dup, 1) := by decide +kernel
theorem ddX6_47 : decode (z_c zX6_init) 47 = .ok (.invokespecial 11, 3) := by decide +kernel
theorem ddX6_50 : decode (z_c zX6_init) 50 = .ok (.putfield 28, 3) := by decide +kernel
theorem ddX6_53 : decode (z_c zX6_init) 53 = .ok (.aload_n 0, 1) := by decide +kernel
theorem ddX6_54 : decode (z_c zX6_init) 54 = .ok (.new 9, 3) := by decide +kernel
theorem ddX6_57 : decode (z_c zX6_init) 57 = .ok (.dup, 1) := by decide +kernel
theorem ddX6_58 : decode (z_c zX6_init) 58 = .ok (.invokespecial 11, 3) := by decide +kernel
theorem ddX6_61 : decode (z_c zX6_init) 61 = .ok (.putfield 31, 3) := by decide +kernel
theorem ddX6_64 : decode (z_c zX6_init) 64 = .ok (.aload_n 0, 1) := by decide +kernel
theorem ddX6_65 : decode (z_c zX6_init) 65 = .ok (.aload_n 1, 1) := by decide +kernel
theorem ddX6_66 : decode (z_c zX6_init) 66 = .ok (.putfield 34, 3) := by decide +kernel
theorem ddX6_69 : decode (z_c zX6_init) 69 = .ok (.aload_n 0, 1) := by decide +kernel
theorem ddX6_70 : decode (z_c zX6_init) 70 = .ok (.aload_n 2, 1) := by decide +kernel
theorem ddX6_71 : decode (z_c zX6_init) 71 = .ok (.putfield 38, 3) := by decide +kernel
theorem ddX6_74 : decode (z_c zX6_init) 74 = .ok (.return_, 1) := by decide +kernel
theorem ddX7_0 : decode (z_c zX7_init) 0 = .ok (.aload_n 0, 1) := by decide +kernel
theorem ddX7_1 : decode (z_c zX7_init) 1 = .ok (.invokespecial 3, 3) := by decide +kernel
theorem ddX7_4 : decode (z_c zX7_init) 4 = .ok (.aload_n 0, 1) := by decide +kernel
theorem ddX7_5 : decode (z_c zX7_init) 5 = .ok (.bipush 14, 2) := by decide +kernel
theorem ddX7_7 : decode (z_c zX7_init) 7 = .ok (.newarray .int, 2) := by decide +kernel
theorem ddX7_9 : decode (z_c zX7_init) 9 = .ok (.putfield 9, 3) := by decide +kernel
theorem ddX7_12 : decode (z_c zX7_init) 12 = .ok (.aload_n 0, 1) := by decide +kernel
theorem ddX7_13 : decode (z_c zX7_init) 13 = .ok (.bipush 112, 2) := by decide +kernel
theorem ddX7_15 : decode (z_c zX7_init) 15 = .ok (.newarray .int, 2) := by decide +kernel
theorem ddX7_17 : decode (z_c zX7_init) 17 = .ok (.putfield 15, 3) := by decide +kernel
theorem ddX7_20 : decode (z_c zX7_init) 20 = .ok (.aload_n 0, 1) := by decide +kernel
theorem ddX7_21 : decode (z_c zX7_init) 21 = .ok (.bipush 14, 2) := by decide +kernel
theorem ddX7_23 : decode (z_c zX7_init) 23 = .ok (.newarray .int, 2) := by decide +kernel
theorem ddX7_25 : decode (z_c zX7_init) 25 = .ok (.putfield 18, 3) := by decide +kernel
theorem ddX7_28 : decode (z_c zX7_init) 28 = .ok (.aload_n 0, 1) := by decide +kernel
theorem ddX7_29 : decode (z_c zX7_init) 29 = .ok (.bipush 100, 2) := by decide +kernel
theorem ddX7_31 : decode (z_c zX7_init) 31 = .ok (.newarray .int, 2) := by decide +kernel
theorem ddX7_33 : decode (z_c zX7_init) 33 = .ok (.putfield 21, 3) := by decide +kernel
theorem ddX7_36 : decode (z_c zX7_init) 36 = .ok (.aload_n 0, 1) := by decide +kernel
theorem ddX7_37 : decode (z_c zX7_init) 37 = .ok (.bipush 100, 2) := by decide +kernel
theorem ddX7_39 : decode (z_c zX7_init) 39 = .ok (.newarray .int, 2) := by decide +kernel
theorem ddX7_41 : decode (z_c zX7_init) 41 = .ok (.putfield 24, 3) := by decide +kernel
theorem ddX7_44 : decode (z_c zX7_init) 44 = .ok (.aload_n 0, 1) := by decide +kernel
theorem ddX7_45 : decode (z_c zX7_init) 45 = .ok (.bipush 15, 2) := by decide +kernel
theorem ddX7_47 : decode (z_c zX7_init) 47 = .ok (.newarray .int, 2) := by decide +kernel
theorem ddX7_49 : decode (z_c zX7_init) 49 = .ok (.putfield 27, 3) := by decide +kernel
theorem ddX7_52 : decode (z_c zX7_init) 52 = .ok (.aload_n 0, 1) := by decide +kernel
theorem ddX7_53 : decode (z_c zX7_init) 53 = .ok (.sipush 210, 3) := by decide +kernel
theorem ddX7_56 : decode (z_c zX7_init) 56 = .ok (.newarray .int, 2) := by decide +kernel
theorem ddX7_58 : decode (z_c zX7_init) 58 = .ok (.putfield 30, 3) := by decide +kernel
theorem ddX7_61 : decode (z_c zX7_init) 61 = .ok (.return_, 1) := by decide +kernel
theorem ddX8_0 : decode (z_c zX8_init) 0 = .ok (.aload_n 0, 1) := by decide +kernel
theorem ddX8_1 : decode (z_c zX8_init) 1 = .ok (.invokespecial 3, 3) := by decide +kernel
theorem ddX8_4 : decode (z_c zX8_init) 4 = .ok (.aload_n 0, 1) := by decide +kernel
theorem ddX8_5 : decode (z_c zX8_init) 5 = .ok (.new 9, 3) := by decide +kernel
theorem ddX8_8 : decode (z_c zX8_init) 8 = .ok (.dup, 1) := by decide +kernel
theorem ddX8_9 : decode (z_c zX8_init) 9 = .ok (.invokespecial 11, 3) := by decide +kernel
theorem ddX8_12 : decode (z_c zX8_init) 12 = .ok (.putfield 12, 3) := by decide +kernel
theorem ddX8_15 : decode (z_c zX8_init) 15 = .ok (.aload_n 0, 1) := by decide +kernel
theorem ddX8_16 : decode (z_c zX8_init) 16 = .ok (.new 16, 3) := by decide +kernel
theorem ddX8_19 : decode (z_c zX8_init) 19 = .ok (.dup, 1) := by decide +kernel
theorem ddX8_20 : decode (z_c zX8_init) 20 = .ok (.invokespecial 18, 3) := by decide +kernel
theorem ddX8_23 : decode (z_c zX8_init) 23 = .ok (.putfield 19, 3) := by decide +kernel
theorem ddX8_26 : decode (z_c zX8_init) 26 = .ok (.aload_n 0, 1) := by decide +kernel
theorem ddX8_27 : decode (z_c zX8_init) 27 = .ok (.new 23, 3) := by decide +kernel
theorem ddX8_30 : decode (z_c zX8_init) 30 = .ok (.dup, 1) := by decide +kernel
theorem ddX8_31 : decode (z_c zX8_init) 31 = .ok (.invokespecial 25, 3) := by decide +kernel
theorem ddX8_34 : decode (z_c zX8_init) 34 = .ok (.putfield 26, 3) := by decide +kernel
theorem ddX8_37 : decode (z_c zX8_init) 37 = .ok (.aload_n 0, 1) := by decide +kernel
theorem ddX8_38 : decode (z_c zX8_init) 38 = .ok (.new 30, 3) := by decide +kernel
theorem ddX8_41 : decode (z_c zX8_init) 41 = .ok (.dup, 1) := by decide +kernel
theorem ddX8_42 : decode (z_c zX8_init) 42 = .ok (.aload_n 0, 1) := by decide +kernel
theorem ddX8_43 : decode (z_c zX8_init) 43 = .ok (.getfield 12, 3) := by decide +kernel
theorem ddX8_46 : decode (z_c zX8_init) 46 = .ok (.aload_n 0, 1) := by decide +kernel
theorem ddX8_47 : decode (z_c zX8_init) 47 = .ok (.getfield 26, 3) := by decide +kernel
theorem ddX8_50 : decode (z_c zX8_init) 50 = .ok (.invokespecial 32, 3) := by decide +kernel
theorem ddX8_53 : decode (z_c zX8_init) 53 = .ok (.putfield 35, 3) := by decide +kernel
theorem ddX8_56 : decode (z_c zX8_init) 56 = .ok (.aload_n 0, 1) := by decide +kernel
theorem ddX8_57 : decode (z_c zX8_init) 57 = .ok (.new 39, 3) := by decide +kernel
theorem ddX8_60 : decode (z_c zX8_init) 60 = .ok (.dup, 1) := by decide +kernel
theorem ddX8_61 : decode (z_c zX8_init) 61 = .ok (.aload_n 0, 1) := by decide +kernel
theorem ddX8_62 : decode (z_c zX8_init) 62 = .ok (.getfield 35, 3) := by decide +kernel
theorem ddX8_65 : decode (z_c zX8_init) 65 = .ok (.invokespecial 41, 3) := by decide +kernel
theorem ddX8_68 : decode (z_c zX8_init) 68 = .ok (.putfield 44, 3) := by decide +kernel
theorem ddX8_71 : decode (z_c zX8_init) 71 = .ok (.aload_n 0, 1) := by decide +kernel
theorem ddX8_72 : decode (z_c zX8_init) 72 = .ok (.new 48, 3) := by decide +kernel
theorem ddX8_75 : decode (z_c zX8_init) 75 = .ok (.dup, 1) := by decide +kernel
theorem ddX8_76 : decode (z_c zX8_init) 76 = .ok (.invokespecial 50, 3) := by decide +kernel
theorem ddX8_79 : decode (z_c zX8_init) 79 = .ok (.putfield 51, 3) := by decide +kernel
theorem ddX8_82 : decode (z_c zX8_init) 82 = .ok (.aload_n 0, 1) := by decide +kernel
theorem ddX8_83 : decode (z_c zX8_init) 83 = .ok (.new 48, 3) := by decide +kernel
theorem ddX8_86 : decode (z_c zX8_init) 86 = .ok (.dup, 1) := by decide +kernel
theorem ddX8_87 : decode (z_c zX8_init) 87 = .ok (.invokespecial 50, 3) := by decide +kernel
theorem ddX8_90 : decode (z_c zX8_init) 90 = .ok (.putfield 55, 3) := by decide +kernel
theorem ddX8_93 : decode (z_c zX8_init) 93 = .ok (.aload_n 0, 1) := by decide +kernel
theorem ddX8_94 : decode (z_c zX8_init) 94 = .ok (.getfield 12, 3) := by decide +kernel
theorem ddX8_97 : decode (z_c zX8_init) 97 = .ok (.iconst 1, 1) := by decide +kernel
theorem ddX8_98 : decode (z_c zX8_init) 98 = .ok (.iconst 1, 1) := by decide +kernel
theorem ddX8_99 : decode (z_c zX8_init) 99 = .ok (.iconst 0, 1) := by decide +kernel
theorem ddX8_100 : decode (z_c zX8_init) 100 = .ok (.invokevirtual 58, 3) := by decide +kernel
theorem ddX8_103 : decode (z_c zX8_init) 103 = .ok (.return_, 1) := by decide +kernel
theorem ddX9_0 : decode (z_c zX9_init) 0 = .ok (.aload_n 0, 1) := by decide +kernel
theorem ddX9_1 : decode (z_c zX9_init) 1 = .ok (.invokespecial 1, 3) := by decide +kernel
theorem ddX9_4 : decode (z_c zX9_init) 4 = .ok (.aload_n 0, 1) := by decide +kernel
theorem ddX9_5 : decode (z_c zX9_init) 5 = .ok (.iconst 1, 1) := by decide +kernel
theorem ddX9_6 : decode (z_c zX9_init) 6 = .ok (.putfield 7, 3) := by decide +kernel
theorem ddX9_9 : decode (z_c zX9_init) 9 = .ok (.aload_n 0, 1) := by decide +kernel
theorem ddX9_10 : decode (z_c zX9_init) 10 = .ok (.iconst 1, 1) := by decide +kernel
theorem ddX9_11 : decode (z_c zX9_init) 11 = .ok (.putfield 13, 3) := by decide +kernel
theorem ddX9_14 : decode (z_c zX9_init) 14 = .ok (.aload_n 0, 1) := by decide +kernel
theorem ddX9_15 : decode (z_c zX9_init) 15 = .ok (.iconst 1, 1) := by decide +kernel
theorem ddX9_16 : decode (z_c zX9_init) 16 = .ok (.putfield 16, 3) := by decide +kernel
theorem ddX9_19 : decode (z_c zX9_init) 19 = .ok (.aload_n 0, 1) := by decide +kernel
theorem ddX9_20 : decode (z_c zX9_init) 20 = .ok (.sipush 10000, 3) := by decide +kernel
theorem ddX9_23 : decode (z_c zX9_init) 23 = .ok (.newarray .boolean, 2) := by decide +kernel
theorem ddX9_25 : decode (z_c zX9_init) 25 = .ok (.putfield 19, 3) := by decide +kernel
theorem ddX9_28 : decode (z_c zX9_init) 28 = .ok (.aload_n 0, 1) := by decide +kernel
theorem ddX9_29 : decode (z_c zX9_init) 29 = .ok (.bipush 100, 2) := by decide +kernel
theorem ddX9_31 : decode (z_c zX9_init) 31 = .ok (.newarray .boolean, 2) := by decide +kernel
theorem ddX9_33 : decode (z_c zX9_init) 33 = .ok (.putfield 23, 3) := by decide +kernel
theorem ddX9_36 : decode (z_c zX9_init) 36 = .ok (.aload_n 0, 1) := by decide +kernel
theorem ddX9_37 : decode (z_c zX9_init) 37 = .ok (.bipush 100, 2) := by decide +kernel
theorem ddX9_39 : decode (z_c zX9_init) 39 = .ok (.newarray .int, 2) := by decide +kernel
theorem ddX9_41 : decode (z_c zX9_init) 41 = .ok (.putfield 26, 3) := by decide +kernel
theorem ddX9_44 : decode (z_c zX9_init) 44 = .ok (.aload_n 0, 1) := by decide +kernel
theorem ddX9_45 : decode (z_c zX9_init) 45 = .ok (.bipush 100, 2) := by decide +kernel
theorem ddX9_47 : decode (z_c zX9_init) 47 = .ok (.newarray .boolean, 2) := by decide +kernel
theorem ddX9_49 : decode (z_c zX9_init) 49 = .ok (.putfield 30, 3) := by decide +kernel
theorem ddX9_52 : decode (z_c zX9_init) 52 = .ok (.aload_n 0, 1) := by decide +kernel
theorem ddX9_53 : decode (z_c zX9_init) 53 = .ok (.sipush 20000, 3) := by decide +kernel
theorem ddX9_56 : decode (z_c zX9_init) 56 = .ok (.newarray .int, 2) := by decide +kernel
theorem ddX9_58 : decode (z_c zX9_init) 58 = .ok (.putfield 33, 3) := by decide +kernel
theorem ddX9_61 : decode (z_c zX9_init) 61 = .ok (.aload_n 0, 1) := by decide +kernel
theorem ddX9_62 : decode (z_c zX9_init) 62 = .ok (.bipush 100, 2) := by decide +kernel
theorem ddX9_64 : decode (z_c zX9_init) 64 = .ok (.newarray .boolean, 2) := by decide +kernel
theorem ddX9_66 : decode (z_c zX9_init) 66 = .ok (.putfield 36, 3) := by decide +kernel
theorem ddX9_69 : decode (z_c zX9_init) 69 = .ok (.aload_n 0, 1) := by decide +kernel
theorem ddX9_70 : decode (z_c zX9_init) 70 = .ok (.bipush 100, 2) := by decide +kernel
theorem ddX9_72 : decode (z_c zX9_init) 72 = .ok (.newarray .int, 2) := by decide +kernel
theorem ddX9_74 : decode (z_c zX9_init) 74 = .ok (.putfield 39, 3) := by decide +kernel
theorem ddX9_77 : decode (z_c zX9_init) 77 = .ok (.aload_n 0, 1) := by decide +kernel
theorem ddX9_78 : decode (z_c zX9_init) 78 = .ok (.bipush 100, 2) := by decide +kernel
theorem ddX9_80 : decode (z_c zX9_init) 80 = .ok (.newarray .boolean, 2) := by decide +kernel
theorem ddX9_82 : decode (z_c zX9_init) 82 = .ok (.putfield 42, 3) := by decide +kernel
theorem ddX9_85 : decode (z_c zX9_init) 85 = .ok (.aload_n 0, 1) := by decide +kernel
theorem ddX9_86 : decode (z_c zX9_init) 86 = .ok (.iconst (-1), 1) := by decide +kernel
theorem ddX9_87 : decode (z_c zX9_init) 87 = .ok (.putfield 45, 3) := by decide +kernel
theorem ddX9_90 : decode (z_c zX9_init) 90 = .ok (.aload_n 0, 1) := by decide +kernel
theorem ddX9_91 : decode (z_c zX9_init) 91 = .ok (.bipush 101, 2) := by decide +kernel
theorem ddX9_93 : decode (z_c zX9_init) 93 = .ok (.newarray .boolean, 2) := by decide +kernel
theorem ddX9_95 : decode (z_c zX9_init) 95 = .ok (.putfield 48, 3) := by decide +kernel
theorem ddX9_98 : decode (z_c zX9_init) 98 = .ok (.aload_n 0, 1) := by decide +kernel
theorem ddX9_99 : decode (z_c zX9_init) 99 = .ok (.bipush 101, 2) := by decide +kernel
theorem ddX9_101 : decode (z_c zX9_init) 101 = .ok (.newarray .boolean, 2) := by decide +kernel
theorem ddX9_103 : decode (z_c zX9_init) 103 = .ok (.putfield 51, 3) := by decide +kernel
theorem ddX9_106 : decode (z_c zX9_init) 106 = .ok (.aload_n 0, 1) := by decide +kernel
theorem ddX9_107 : decode (z_c zX9_init) 107 = .ok (.bipush 100, 2) := by decide +kernel
theorem ddX9_109 : decode (z_c zX9_init) 109 = .ok (.newarray .int, 2) := by decide +kernel
theorem ddX9_111 : decode (z_c zX9_init) 111 = .ok (.putfield 54, 3) := by decide +kernel
theorem ddX9_114 : decode (z_c zX9_init) 114 = .ok (.aload_n 0, 1) := by decide +kernel
theorem ddX9_115 : decode (z_c zX9_init) 115 = .ok (.sipush 10100, 3) := by decide +kernel
theorem ddX9_118 : decode (z_c zX9_init) 118 = .ok (.newarray .boolean, 2) := by decide +kernel
theorem ddX9_120 : decode (z_c zX9_init) 120 = .ok (.putfield 57, 3) := by decide +kernel
theorem ddX9_123 : decode (z_c zX9_init) 123 = .ok (.aload_n 0, 1) := by decide +kernel
theorem ddX9_124 : decode (z_c zX9_init) 124 = .ok (.bipush 100, 2) := by decide +kernel
theorem ddX9_126 : decode (z_c zX9_init) 126 = .ok (.newarray .int, 2) := by decide +kernel
theorem ddX9_128 : decode (z_c zX9_init) 128 = .ok (.putfield 60, 3) := by decide +kernel
theorem ddX9_131 : decode (z_c zX9_init) 131 = .ok (.aload_n 0, 1) := by decide +kernel
theorem ddX9_132 : decode (z_c zX9_init) 132 = .ok (.bipush 101, 2) := by decide +kernel
theorem ddX9_134 : decode (z_c zX9_init) 134 = .ok (.newarray .boolean, 2) := by decide +kernel
theorem ddX9_136 : decode (z_c zX9_init) 136 = .ok (.putfield 63, 3) := by decide +kernel
theorem ddX9_139 : decode (z_c zX9_init) 139 = .ok (.aload_n 0, 1) := by decide +kernel
theorem ddX9_140 : decode (z_c zX9_init) 140 = .ok (.bipush 100, 2) := by decide +kernel
theorem ddX9_142 : decode (z_c zX9_init) 142 = .ok (.newarray .int, 2) := by decide +kernel
theorem ddX9_144 : decode (z_c zX9_init) 144 = .ok (.putfield 66, 3) := by decide +kernel
theorem ddX9_147 : decode (z_c zX9_init) 147 = .ok (.aload_n 0, 1) := by decide +kernel
theorem ddX9_148 : decode (z_c zX9_init) 148 = .ok (.bipush 100, 2) := by decide +kernel
theorem ddX9_150 : decode (z_c zX9_init) 150 = .ok (.newarray .int, 2) := by decide +kernel
theorem ddX9_152 : decode (z_c zX9_init) 152 = .ok (.putfield 69, 3) := by decide +kernel
theorem ddX9_155 : decode (z_c zX9_init) 155 = .ok (.aload_n 0, 1) := by decide +kernel
theorem ddX9_156 : decode (z_c zX9_init) 156 = .ok (.bipush 100, 2) := by decide +kernel
theorem ddX9_158 : decode (z_c zX9_init) 158 = .ok (.newarray .int, 2) := by decide +kernel
theorem ddX9_160 : decode (z_c zX9_init) 160 = .ok (.putfield 72, 3) := by decide +kernel
theorem ddX9_163 : decode (z_c zX9_init) 163 = .ok (.aload_n 0, 1) := by decide +kernel
theorem ddX9_164 : decode (z_c zX9_init) 164 = .ok (.sipush 1300, 3) := by decide +kernel
theorem ddX9_167 : decode (z_c zX9_init) 167 = .ok (.newarray .long, 2) := by decide +kernel
theorem ddX9_169 : decode (z_c zX9_init) 169 = .ok (.putfield 75, 3) := by decide +kernel
theorem ddX9_172 : decode (z_c zX9_init) 172 = .ok (.aload_n 0, 1) := by decide +kernel
theorem ddX9_173 : decode (z_c zX9_init) 173 = .ok (.sipush 1300, 3) := by decide +kernel
theorem ddX9_176 : decode (z_c zX9_init) 176 = .ok (.newarray .long, 2) := by decide +kernel
theorem ddX9_178 : decode (z_c zX9_init) 178 = .ok (.putfield 79, 3) := by decide +kernel
theorem ddX9_181 : decode (z_c zX9_init) 181 = .ok (.aload_n 0, 1) := by decide +kernel
theorem ddX9_182 : decode (z_c zX9_init) 182 = .ok (.sipush 201, 3) := by decide +kernel
theorem ddX9_185 : decode (z_c zX9_init) 185 = .ok (.newarray .long, 2) := by decide +kernel
theorem ddX9_187 : decode (z_c zX9_init) 187 = .ok (.putfield 82, 3) := by decide +kernel
theorem ddX9_190 : decode (z_c zX9_init) 190 = .ok (.aload_n 0, 1) := by decide +kernel
theorem ddX9_191 : decode (z_c zX9_init) 191 = .ok (.sipush 201, 3) := by decide +kernel
theorem ddX9_194 : decode (z_c zX9_init) 194 = .ok (.newarray .long, 2) := by decide +kernel
theorem ddX9_196 : decode (z_c zX9_init) 196 = .ok (.putfield 85, 3) := by decide +kernel
theorem ddX9_199 : decode (z_c zX9_init) 199 = .ok (.aload_n 0, 1) := by decide +kernel
theorem ddX9_200 : decode (z_c zX9_init) 200 = .ok (.bipush 101, 2) := by decide +kernel
theorem ddX9_202 : decode (z_c zX9_init) 202 = .ok (.newarray .long, 2) := by decide +kernel
theorem ddX9_204 : decode (z_c zX9_init) 204 = .ok (.putfield 88, 3) := by decide +kernel
theorem ddX9_207 : decode (z_c zX9_init) 207 = .ok (.aload_n 0, 1) := by decide +kernel
theorem ddX9_208 : decode (z_c zX9_init) 208 = .ok (.bipush 100, 2) := by decide +kernel
theorem ddX9_210 : decode (z_c zX9_init) 210 = .ok (.newarray .int, 2) := by decide +kernel
theorem ddX9_212 : decode (z_c zX9_init) 212 = .ok (.putfield 91, 3) := by decide +kernel
theorem ddX9_215 : decode (z_c zX9_init) 215 = .ok (.aload_n 0, 1) := by decide +kernel
theorem ddX9_216 : decode (z_c zX9_init) 216 = .ok (.bipush 100, 2) := by decide +kernel
theorem ddX9_218 : decode (z_c zX9_init) 218 = .ok (.newarray .int, 2) := by decide +kernel
theorem ddX9_220 : decode (z_c zX9_init) 220 = .ok (.putfield 94, 3) := by decide +kernel
theorem ddX9_223 : decode (z_c zX9_init) 223 = .ok (.aload_n 0, 1) := by decide +kernel
theorem ddX9_224 : decode (z_c zX9_init) 224 = .ok (.bipush 100, 2) := by decide +kernel
theorem ddX9_226 : decode (z_c zX9_init) 226 = .ok (.newarray .int, 2) := by decide +kernel
theorem ddX9_228 : decode (z_c zX9_init) 228 = .ok (.putfield 97, 3) := by decide +kernel
theorem ddX9_231 : decode (z_c zX9_init) 231 = .ok (.aload_n 0, 1) := by decide +kernel
theorem ddX9_232 : decode (z_c zX9_init) 232 = .ok (.iconst 1, 1) := by decide +kernel
theorem ddX9_233 : decode (z_c zX9_init) 233 = .ok (.iconst 1, 1) := by decide +kernel
theorem ddX9_234 : decode (z_c zX9_init) 234 = .ok (.iconst 0, 1) := by decide +kernel
theorem ddX9_235 : decode (z_c zX9_init) 235 = .ok (.invokevirtual 100, 3) := by decide +kernel
theorem ddX9_238 : decode (z_c zX9_init) 238 = .ok (.return_, 1) := by decide +kernel
theorem nlX8_3 : Cond.methodLink "MineDesk" 3 Lib.objectInit ∈ gt_tbl := tb_at 96 (by decide +kernel) (by decide +kernel)
theorem nnX8_9 : nNew "MineDesk" 9 1 [.null, .null, .null, .null, .null, .null, .null, .null, .null] := ⟨_, _, _, tyX1, rfl, inX1, tyX1_ok, tb_at 99 (by decide +kernel) (by decide +kernel), tb_at 100 (by decide +kernel) (by decide +kernel), niX1, by decide +kernel, rfl, by decide +kernel⟩
theorem nlX1_3 : Cond.methodLink "MineDesk$Board" 3 Lib.objectInit ∈ gt_tbl := tb_at 104 (by decide +kernel) (by decide +kernel)
theorem nnX1_9 : nNew "MineDesk$Board" 9 2 [.null, .null, .null, .null, .int 0, .int 0, .int 0, .int 0] := ⟨_, _, _, tyX2, rfl, inX2, tyX2_ok, tb_at 105 (by decide +kernel) (by decide +kernel), tb_at 106 (by decide +kernel) (by decide +kernel), niX2, by decide +kernel, rfl, by decide +kernel⟩
theorem nlX2_3 : Cond.methodLink "MineDesk$Grid" 3 Lib.objectInit ∈ gt_tbl := tb_at 110 (by decide +kernel) (by decide +kernel)
theorem npX2_9 : fPutN "MineDesk$Grid" 9 2 0 (.array .long) := ⟨_, _, _, tyX2, rfl, by decide, inX2, tb_at 111 (by decide +kernel) (by decide +kernel), tyX2_ok, nmX2, rfl, rfl, by decide +kernel⟩
theorem npX2_15 : fPutN "MineDesk$Grid" 15 2 1 (.array .long) := ⟨_, _, _, tyX2, rfl, by decide, inX2, tb_at 115 (by decide +kernel) (by decide +kernel), tyX2_ok, nmX2, rfl, rfl, by decide +kernel⟩
theorem npX2_18 : fPutN "MineDesk$Grid" 18 2 2 (.array .int) := ⟨_, _, _, tyX2, rfl, by decide, inX2, tb_at 119 (by decide +kernel) (by decide +kernel), tyX2_ok, nmX2, rfl, rfl, by decide +kernel⟩
theorem npX2_22 : fPutN "MineDesk$Grid" 22 2 3 (.array .int) := ⟨_, _, _, tyX2, rfl, by decide, inX2, tb_at 126 (by decide +kernel) (by decide +kernel), tyX2_ok, nmX2, rfl, rfl, by decide +kernel⟩
theorem npX1_12 : fPutN "MineDesk$Board" 12 1 0 (.object "MineDesk$Grid") := ⟨_, _, _, tyX1, rfl, by decide, inX1, tb_at 187 (by decide +kernel) (by decide +kernel), tyX1_ok, nmX1, rfl, rfl, by decide +kernel⟩
theorem nnX1_18 : nNew "MineDesk$Board" 18 0 [.long 0, .long 0] := ⟨_, _, _, tyX0, rfl, inX0, tyX0_ok, tb_at 164 (by decide +kernel) (by decide +kernel), tb_at 165 (by decide +kernel) (by decide +kernel), niX0, by decide +kernel, rfl, by decide +kernel⟩
theorem nlX0_1 : Cond.methodLink "MineDesk$Bits" 1 Lib.objectInit ∈ gt_tbl := tb_at 169 (by decide +kernel) (by decide +kernel)
theorem npX1_21 : fPutN "MineDesk$Board" 21 1 1 (.object "MineDesk$Bits") := ⟨_, _, _, tyX1, rfl, by decide, inX1, tb_at 193 (by decide +kernel) (by decide +kernel), tyX1_ok, nmX1, rfl, rfl, by decide +kernel⟩
theorem npX1_25 : fPutN "MineDesk$Board" 25 1 2 (.object "MineDesk$Bits") := ⟨_, _, _, tyX1, rfl, by decide, inX1, tb_at 196 (by decide +kernel) (by decide +kernel), tyX1_ok, nmX1, rfl, rfl, by decide +kernel⟩
theorem npX1_28 : fPutN "MineDesk$Board" 28 1 3 (.object "MineDesk$Bits") := ⟨_, _, _, tyX1, rfl, by decide, inX1, tb_at 199 (by decide +kernel) (by decide +kernel), tyX1_ok, nmX1, rfl, rfl, by decide +kernel⟩
theorem npX1_31 : fPutN "MineDesk$Board" 31 1 4 (.object "MineDesk$Bits") := ⟨_, _, _, tyX1, rfl, by decide, inX1, tb_at 205 (by decide +kernel) (by decide +kernel), tyX1_ok, nmX1, rfl, rfl, by decide +kernel⟩
theorem npX1_34 : fPutN "MineDesk$Board" 34 1 5 (.object "MineDesk$Bits") := ⟨_, _, _, tyX1, rfl, by decide, inX1, tb_at 211 (by decide +kernel) (by decide +kernel), tyX1_ok, nmX1, rfl, rfl, by decide +kernel⟩
theorem npX1_37 : fPutN "MineDesk$Board" 37 1 6 (.object "MineDesk$Bits") := ⟨_, _, _, tyX1, rfl, by decide, inX1, tb_at 216 (by decide +kernel) (by decide +kernel), tyX1_ok, nmX1, rfl, rfl, by decide +kernel⟩
theorem npX1_40 : fPutN "MineDesk$Board" 40 1 7 (.object "MineDesk$Bits") := ⟨_, _, _, tyX1, rfl, by decide, inX1, tb_at 220 (by decide +kernel) (by decide +kernel), tyX1_ok, nmX1, rfl, rfl, by decide +kernel⟩
theorem npX1_43 : fPutN "MineDesk$Board" 43 1 8 (.array .int) := ⟨_, _, _, tyX1, rfl, by decide, inX1, tb_at 221 (by decide +kernel) (by decide +kernel), tyX1_ok, nmX1, rfl, rfl, by decide +kernel⟩
theorem npX8_12 : fPutN "MineDesk" 12 8 0 (.object "MineDesk$Board") := ⟨_, _, _, tyX8, rfl, by decide, inX8, tb_at 468 (by decide +kernel) (by decide +kernel), tyX8_ok, nmX8, rfl, rfl, by decide +kernel⟩
theorem nnX8_16 : nNew "MineDesk" 16 4 [.null, .int 0] := ⟨_, _, _, tyX4, rfl, inX4, tyX4_ok, tb_at 241 (by decide +kernel) (by decide +kernel), tb_at 242 (by decide +kernel) (by decide +kernel), niX4, by decide +kernel, rfl, by decide +kernel⟩
theorem nlX4_3 : Cond.methodLink "MineDesk$Moves" 3 Lib.objectInit ∈ gt_tbl := tb_at 246 (by decide +kernel) (by decide +kernel)
theorem npX4_11 : fPutN "MineDesk$Moves" 11 4 0 (.array .long) := ⟨_, _, _, tyX4, rfl, by decide, inX4, tb_at 247 (by decide +kernel) (by decide +kernel), tyX4_ok, nmX4, rfl, rfl, by decide +kernel⟩
theorem npX8_19 : fPutN "MineDesk" 19 8 1 (.object "MineDesk$Moves") := ⟨_, _, _, tyX8, rfl, by decide, inX8, tb_at 469 (by decide +kernel) (by decide +kernel), tyX8_ok, nmX8, rfl, rfl, by decide +kernel⟩
theorem nnX8_23 : nNew "MineDesk" 23 5 [.null, .null, .null, .null, .null, .null, .null, .null, .null, .null, .null, .null, .null, .null, .int 0] := ⟨_, _, _, tyX5, rfl, inX5, tyX5_ok, tb_at 255 (by decide +kernel) (by decide +kernel), tb_at 256 (by decide +kernel) (by decide +kernel), niX5, by decide +kernel, rfl, by decide +kernel⟩
theorem nlX5_3 : Cond.methodLink "MineDesk$Placements" 3 Lib.objectInit ∈ gt_tbl := tb_at 260 (by decide +kernel) (by decide +kernel)
theorem nnX5_9 : nNew "MineDesk$Placements" 9 0 [.long 0, .long 0] := ⟨_, _, _, tyX0, rfl, inX0, tyX0_ok, tb_at 261 (by decide +kernel) (by decide +kernel), tb_at 165 (by decide +kernel) (by decide +kernel), niX0, by decide +kernel, rfl, by decide +kernel⟩
theorem npX5_12 : fPutN "MineDesk$Placements" 12 5 0 (.object "MineDesk$Bits") := ⟨_, _, _, tyX5, rfl, by decide, inX5, tb_at 294 (by decide +kernel) (by decide +kernel), tyX5_ok, nmX5, rfl, rfl, by decide +kernel⟩
theorem npX5_18 : fPutN "MineDesk$Placements" 18 5 1 (.object "MineDesk$Bits") := ⟨_, _, _, tyX5, rfl, by decide, inX5, tb_at 296 (by decide +kernel) (by decide +kernel), tyX5_ok, nmX5, rfl, rfl, by decide +kernel⟩
theorem nnX5_21 : nNew "MineDesk$Placements" 21 7 [.null, .null, .null, .null, .null, .null, .null, .int 0] := ⟨_, _, _, tyX7, rfl, inX7, tyX7_ok, tb_at 263 (by decide +kernel) (by decide +kernel), tb_at 264 (by decide +kernel) (by decide +kernel), niX7, by decide +kernel, rfl, by decide +kernel⟩
theorem nlX7_3 : Cond.methodLink "MineDesk$Search" 3 Lib.objectInit ∈ gt_tbl := tb_at 268 (by decide +kernel) (by decide +kernel)
theorem npX7_9 : fPutN "MineDesk$Search" 9 7 0 (.array .int) := ⟨_, _, _, tyX7, rfl, by decide, inX7, tb_at 269 (by decide +kernel) (by decide +kernel), tyX7_ok, nmX7, rfl, rfl, by decide +kernel⟩
theorem npX7_15 : fPutN "MineDesk$Search" 15 7 1 (.array .int) := ⟨_, _, _, tyX7, rfl, by decide, inX7, tb_at 270 (by decide +kernel) (by decide +kernel), tyX7_ok, nmX7, rfl, rfl, by decide +kernel⟩
theorem npX7_18 : fPutN "MineDesk$Search" 18 7 2 (.array .int) := ⟨_, _, _, tyX7, rfl, by decide, inX7, tb_at 271 (by decide +kernel) (by decide +kernel), tyX7_ok, nmX7, rfl, rfl, by decide +kernel⟩
theorem npX7_21 : fPutN "MineDesk$Search" 21 7 3 (.array .int) := ⟨_, _, _, tyX7, rfl, by decide, inX7, tb_at 272 (by decide +kernel) (by decide +kernel), tyX7_ok, nmX7, rfl, rfl, by decide +kernel⟩
theorem npX7_24 : fPutN "MineDesk$Search" 24 7 4 (.array .int) := ⟨_, _, _, tyX7, rfl, by decide, inX7, tb_at 273 (by decide +kernel) (by decide +kernel), tyX7_ok, nmX7, rfl, rfl, by decide +kernel⟩
theorem npX7_27 : fPutN "MineDesk$Search" 27 7 5 (.array .int) := ⟨_, _, _, tyX7, rfl, by decide, inX7, tb_at 274 (by decide +kernel) (by decide +kernel), tyX7_ok, nmX7, rfl, rfl, by decide +kernel⟩
theorem npX7_30 : fPutN "MineDesk$Search" 30 7 6 (.array .int) := ⟨_, _, _, tyX7, rfl, by decide, inX7, tb_at 275 (by decide +kernel) (by decide +kernel), tyX7_ok, nmX7, rfl, rfl, by decide +kernel⟩
theorem npX5_24 : fPutN "MineDesk$Placements" 24 5 2 (.object "MineDesk$Search") := ⟨_, _, _, tyX5, rfl, by decide, inX5, tb_at 298 (by decide +kernel) (by decide +kernel), tyX5_ok, nmX5, rfl, rfl, by decide +kernel⟩
theorem npX5_28 : fPutN "MineDesk$Placements" 28 5 3 (.object "MineDesk$Bits") := ⟨_, _, _, tyX5, rfl, by decide, inX5, tb_at 299 (by decide +kernel) (by decide +kernel), tyX5_ok, nmX5, rfl, rfl, by decide +kernel⟩
theorem npX5_31 : fPutN "MineDesk$Placements" 31 5 4 (.object "MineDesk$Bits") := ⟨_, _, _, tyX5, rfl, by decide, inX5, tb_at 300 (by decide +kernel) (by decide +kernel), tyX5_ok, nmX5, rfl, rfl, by decide +kernel⟩
theorem npX5_34 : fPutN "MineDesk$Placements" 34 5 5 (.object "MineDesk$Bits") := ⟨_, _, _, tyX5, rfl, by decide, inX5, tb_at 301 (by decide +kernel) (by decide +kernel), tyX5_ok, nmX5, rfl, rfl, by decide +kernel⟩
theorem npX5_37 : fPutN "MineDesk$Placements" 37 5 6 (.array .int) := ⟨_, _, _, tyX5, rfl, by decide, inX5, tb_at 302 (by decide +kernel) (by decide +kernel), tyX5_ok, nmX5, rfl, rfl, by decide +kernel⟩
theorem npX5_41 : fPutN "MineDesk$Placements" 41 5 7 (.array .int) := ⟨_, _, _, tyX5, rfl, by decide, inX5, tb_at 303 (by decide +kernel) (by decide +kernel), tyX5_ok, nmX5, rfl, rfl, by decide +kernel⟩
theorem npX5_44 : fPutN "MineDesk$Placements" 44 5 8 (.array .int) := ⟨_, _, _, tyX5, rfl, by decide, inX5, tb_at 304 (by decide +kernel) (by decide +kernel), tyX5_ok, nmX5, rfl, rfl, by decide +kernel⟩
theorem npX5_47 : fPutN "MineDesk$Placements" 47 5 9 (.array .int) := ⟨_, _, _, tyX5, rfl, by decide, inX5, tb_at 305 (by decide +kernel) (by decide +kernel), tyX5_ok, nmX5, rfl, rfl, by decide +kernel⟩
theorem npX5_50 : fPutN "MineDesk$Placements" 50 5 10 (.array .int) := ⟨_, _, _, tyX5, rfl, by decide, inX5, tb_at 306 (by decide +kernel) (by decide +kernel), tyX5_ok, nmX5, rfl, rfl, by decide +kernel⟩
theorem npX5_53 : fPutN "MineDesk$Placements" 53 5 11 (.array .long) := ⟨_, _, _, tyX5, rfl, by decide, inX5, tb_at 307 (by decide +kernel) (by decide +kernel), tyX5_ok, nmX5, rfl, rfl, by decide +kernel⟩
theorem npX5_57 : fPutN "MineDesk$Placements" 57 5 12 (.array .long) := ⟨_, _, _, tyX5, rfl, by decide, inX5, tb_at 308 (by decide +kernel) (by decide +kernel), tyX5_ok, nmX5, rfl, rfl, by decide +kernel⟩
theorem npX5_60 : fPutN "MineDesk$Placements" 60 5 13 (.array .long) := ⟨_, _, _, tyX5, rfl, by decide, inX5, tb_at 309 (by decide +kernel) (by decide +kernel), tyX5_ok, nmX5, rfl, rfl, by decide +kernel⟩
theorem npX8_26 : fPutN "MineDesk" 26 8 2 (.object "MineDesk$Placements") := ⟨_, _, _, tyX8, rfl, by decide, inX8, tb_at 470 (by decide +kernel) (by decide +kernel), tyX8_ok, nmX8, rfl, rfl, by decide +kernel⟩
theorem nnX8_30 : nNew "MineDesk" 30 6 [.null, .null, .int 0, .int 0, .null, .null, .null, .null, .null, .null, .int 0, .int 0, .int 0] := ⟨_, _, _, tyX6, rfl, inX6, tyX6_ok, tb_at 342 (by decide +kernel) (by decide +kernel), tb_at 343 (by decide +kernel) (by decide +kernel), niX6, by decide +kernel, rfl, by decide +kernel⟩
theorem ngX8_12 : fOK "MineDesk" 12 8 0 := ⟨_, _, _, rfl, by decide, inX8, tb_at 468 (by decide +kernel) (by decide +kernel)⟩
theorem ngX8_26 : fOK "MineDesk" 26 8 2 := ⟨_, _, _, rfl, by decide, inX8, tb_at 470 (by decide +kernel) (by decide +kernel)⟩
theorem nlX8_32 : Cond.methodLink "MineDesk" 32 yX6_init ∈ gt_tbl := tb_at 344 (by decide +kernel) (by decide +kernel)
theorem nlX6_3 : Cond.methodLink "MineDesk$Reasoner" 3 Lib.objectInit ∈ gt_tbl := tb_at 347 (by decide +kernel) (by decide +kernel)
theorem nnX6_9 : nNew "MineDesk$Reasoner" 9 0 [.long 0, .long 0] := ⟨_, _, _, tyX0, rfl, inX0, tyX0_ok, tb_at 348 (by decide +kernel) (by decide +kernel), tb_at 165 (by decide +kernel) (by decide +kernel), niX0, by decide +kernel, rfl, by decide +kernel⟩
theorem npX6_12 : fPutN "MineDesk$Reasoner" 12 6 0 (.object "MineDesk$Bits") := ⟨_, _, _, tyX6, rfl, by decide, inX6, tb_at 350 (by decide +kernel) (by decide +kernel), tyX6_ok, nmX6, rfl, rfl, by decide +kernel⟩
theorem npX6_18 : fPutN "MineDesk$Reasoner" 18 6 1 (.object "MineDesk$Bits") := ⟨_, _, _, tyX6, rfl, by decide, inX6, tb_at 351 (by decide +kernel) (by decide +kernel), tyX6_ok, nmX6, rfl, rfl, by decide +kernel⟩
theorem npX6_21 : fPutN "MineDesk$Reasoner" 21 6 5 (.array .long) := ⟨_, _, _, tyX6, rfl, by decide, inX6, tb_at 359 (by decide +kernel) (by decide +kernel), tyX6_ok, nmX6, rfl, rfl, by decide +kernel⟩
theorem npX6_25 : fPutN "MineDesk$Reasoner" 25 6 6 (.array .long) := ⟨_, _, _, tyX6, rfl, by decide, inX6, tb_at 360 (by decide +kernel) (by decide +kernel), tyX6_ok, nmX6, rfl, rfl, by decide +kernel⟩
theorem npX6_28 : fPutN "MineDesk$Reasoner" 28 6 7 (.object "MineDesk$Bits") := ⟨_, _, _, tyX6, rfl, by decide, inX6, tb_at 361 (by decide +kernel) (by decide +kernel), tyX6_ok, nmX6, rfl, rfl, by decide +kernel⟩
theorem npX6_31 : fPutN "MineDesk$Reasoner" 31 6 8 (.object "MineDesk$Bits") := ⟨_, _, _, tyX6, rfl, by decide, inX6, tb_at 362 (by decide +kernel) (by decide +kernel), tyX6_ok, nmX6, rfl, rfl, by decide +kernel⟩
theorem npX6_34 : fPut "MineDesk$Reasoner" 34 6 9 (.object "MineDesk$Board") := ⟨_, _, _, tyX6, rfl, by decide, inX6, tb_at 363 (by decide +kernel) (by decide +kernel), tyX6_ok, nmX6, rfl, by decide +kernel⟩
theorem npX6_38 : fPutN "MineDesk$Reasoner" 38 6 4 (.object "MineDesk$Placements") := ⟨_, _, _, tyX6, rfl, by decide, inX6, tb_at 358 (by decide +kernel) (by decide +kernel), tyX6_ok, nmX6, rfl, rfl, by decide +kernel⟩
theorem npX8_35 : fPutN "MineDesk" 35 8 3 (.object "MineDesk$Reasoner") := ⟨_, _, _, tyX8, rfl, by decide, inX8, tb_at 471 (by decide +kernel) (by decide +kernel), tyX8_ok, nmX8, rfl, rfl, by decide +kernel⟩
theorem nnX8_39 : nNew "MineDesk" 39 3 [.null, .null, .int 0, .null, .int 0] := ⟨_, _, _, tyX3, rfl, inX3, tyX3_ok, tb_at 394 (by decide +kernel) (by decide +kernel), tb_at 395 (by decide +kernel) (by decide +kernel), niX3, by decide +kernel, rfl, by decide +kernel⟩
theorem ngX8_35 : fOK "MineDesk" 35 8 3 := ⟨_, _, _, rfl, by decide, inX8, tb_at 471 (by decide +kernel) (by decide +kernel)⟩
theorem nlX8_41 : Cond.methodLink "MineDesk" 41 yX3_init ∈ gt_tbl := tb_at 396 (by decide +kernel) (by decide +kernel)
theorem nlX3_3 : Cond.methodLink "MineDesk$Maker" 3 Lib.objectInit ∈ gt_tbl := tb_at 399 (by decide +kernel) (by decide +kernel)
theorem nnX3_9 : nNew "MineDesk$Maker" 9 1 [.null, .null, .null, .null, .null, .null, .null, .null, .null] := ⟨_, _, _, tyX1, rfl, inX1, tyX1_ok, tb_at 400 (by decide +kernel) (by decide +kernel), tb_at 100 (by decide +kernel) (by decide +kernel), niX1, by decide +kernel, rfl, by decide +kernel⟩
theorem npX3_12 : fPutN "MineDesk$Maker" 12 3 0 (.object "MineDesk$Board") := ⟨_, _, _, tyX3, rfl, by decide, inX3, tb_at 404 (by decide +kernel) (by decide +kernel), tyX3_ok, nmX3, rfl, rfl, by decide +kernel⟩
theorem nnX3_18 : nNew "MineDesk$Maker" 18 0 [.long 0, .long 0] := ⟨_, _, _, tyX0, rfl, inX0, tyX0_ok, tb_at 402 (by decide +kernel) (by decide +kernel), tb_at 165 (by decide +kernel) (by decide +kernel), niX0, by decide +kernel, rfl, by decide +kernel⟩
theorem npX3_21 : fPutN "MineDesk$Maker" 21 3 1 (.object "MineDesk$Bits") := ⟨_, _, _, tyX3, rfl, by decide, inX3, tb_at 406 (by decide +kernel) (by decide +kernel), tyX3_ok, nmX3, rfl, rfl, by decide +kernel⟩
theorem npX3_25 : fPutN "MineDesk$Maker" 25 3 3 (.object "MineDesk$Reasoner") := ⟨_, _, _, tyX3, rfl, by decide, inX3, tb_at 410 (by decide +kernel) (by decide +kernel), tyX3_ok, nmX3, rfl, rfl, by decide +kernel⟩
theorem npX8_44 : fPutN "MineDesk" 44 8 4 (.object "MineDesk$Maker") := ⟨_, _, _, tyX8, rfl, by decide, inX8, tb_at 472 (by decide +kernel) (by decide +kernel), tyX8_ok, nmX8, rfl, rfl, by decide +kernel⟩
theorem nnX8_48 : nNew "MineDesk" 48 0 [.long 0, .long 0] := ⟨_, _, _, tyX0, rfl, inX0, tyX0_ok, tb_at 423 (by decide +kernel) (by decide +kernel), tb_at 165 (by decide +kernel) (by decide +kernel), niX0, by decide +kernel, rfl, by decide +kernel⟩
theorem npX8_51 : fPutN "MineDesk" 51 8 5 (.object "MineDesk$Bits") := ⟨_, _, _, tyX8, rfl, by decide, inX8, tb_at 473 (by decide +kernel) (by decide +kernel), tyX8_ok, nmX8, rfl, rfl, by decide +kernel⟩
theorem npX8_55 : fPutN "MineDesk" 55 8 6 (.object "MineDesk$Bits") := ⟨_, _, _, tyX8, rfl, by decide, inX8, tb_at 474 (by decide +kernel) (by decide +kernel), tyX8_ok, nmX8, rfl, rfl, by decide +kernel⟩
theorem nlX8_58 : Cond.methodLink "MineDesk" 58 yX1_start ∈ gt_tbl := tb_at 425 (by decide +kernel) (by decide +kernel)
theorem nlX9_1 : Cond.methodLink "MineDeskModel" 1 Lib.objectInit ∈ gt_tbl := tb_at 969 (by decide +kernel) (by decide +kernel)
theorem npX9_7 : fPut "MineDeskModel" 7 9 0 .int := ⟨_, _, _, tyX9, rfl, by decide, inX9, tb_at 978 (by decide +kernel) (by decide +kernel), tyX9_ok, nmX9, rfl, by decide +kernel⟩
theorem npX9_13 : fPut "MineDeskModel" 13 9 1 .int := ⟨_, _, _, tyX9, rfl, by decide, inX9, tb_at 979 (by decide +kernel) (by decide +kernel), tyX9_ok, nmX9, rfl, by decide +kernel⟩
theorem npX9_16 : fPut "MineDeskModel" 16 9 3 .int := ⟨_, _, _, tyX9, rfl, by decide, inX9, tb_at 981 (by decide +kernel) (by decide +kernel), tyX9_ok, nmX9, rfl, by decide +kernel⟩
theorem npX9_19 : fPutN "MineDeskModel" 19 9 4 (.array .boolean) := ⟨_, _, _, tyX9, rfl, by decide, inX9, tb_at 982 (by decide +kernel) (by decide +kernel), tyX9_ok, nmX9, rfl, rfl, by decide +kernel⟩
theorem npX9_23 : fPutN "MineDeskModel" 23 9 5 (.array .boolean) := ⟨_, _, _, tyX9, rfl, by decide, inX9, tb_at 983 (by decide +kernel) (by decide +kernel), tyX9_ok, nmX9, rfl, rfl, by decide +kernel⟩
theorem npX9_26 : fPutN "MineDeskModel" 26 9 6 (.array .int) := ⟨_, _, _, tyX9, rfl, by decide, inX9, tb_at 984 (by decide +kernel) (by decide +kernel), tyX9_ok, nmX9, rfl, rfl, by decide +kernel⟩
theorem npX9_30 : fPutN "MineDeskModel" 30 9 7 (.array .boolean) := ⟨_, _, _, tyX9, rfl, by decide, inX9, tb_at 985 (by decide +kernel) (by decide +kernel), tyX9_ok, nmX9, rfl, rfl, by decide +kernel⟩
theorem npX9_33 : fPutN "MineDeskModel" 33 9 9 (.array .int) := ⟨_, _, _, tyX9, rfl, by decide, inX9, tb_at 987 (by decide +kernel) (by decide +kernel), tyX9_ok, nmX9, rfl, rfl, by decide +kernel⟩
theorem npX9_36 : fPutN "MineDeskModel" 36 9 11 (.array .boolean) := ⟨_, _, _, tyX9, rfl, by decide, inX9, tb_at 989 (by decide +kernel) (by decide +kernel), tyX9_ok, nmX9, rfl, rfl, by decide +kernel⟩
theorem npX9_39 : fPutN "MineDeskModel" 39 9 12 (.array .int) := ⟨_, _, _, tyX9, rfl, by decide, inX9, tb_at 990 (by decide +kernel) (by decide +kernel), tyX9_ok, nmX9, rfl, rfl, by decide +kernel⟩
theorem npX9_42 : fPutN "MineDeskModel" 42 9 13 (.array .boolean) := ⟨_, _, _, tyX9, rfl, by decide, inX9, tb_at 991 (by decide +kernel) (by decide +kernel), tyX9_ok, nmX9, rfl, rfl, by decide +kernel⟩
theorem npX9_45 : fPut "MineDeskModel" 45 9 14 .int := ⟨_, _, _, tyX9, rfl, by decide, inX9, tb_at 992 (by decide +kernel) (by decide +kernel), tyX9_ok, nmX9, rfl, by decide +kernel⟩
theorem npX9_48 : fPutN "MineDeskModel" 48 9 17 (.array .boolean) := ⟨_, _, _, tyX9, rfl, by decide, inX9, tb_at 995 (by decide +kernel) (by decide +kernel), tyX9_ok, nmX9, rfl, rfl, by decide +kernel⟩
theorem npX9_51 : fPutN "MineDeskModel" 51 9 18 (.array .boolean) := ⟨_, _, _, tyX9, rfl, by decide, inX9, tb_at 996 (by decide +kernel) (by decide +kernel), tyX9_ok, nmX9, rfl, rfl, by decide +kernel⟩
theorem npX9_54 : fPutN "MineDeskModel" 54 9 19 (.array .int) := ⟨_, _, _, tyX9, rfl, by decide, inX9, tb_at 997 (by decide +kernel) (by decide +kernel), tyX9_ok, nmX9, rfl, rfl, by decide +kernel⟩
theorem npX9_57 : fPutN "MineDeskModel" 57 9 20 (.array .boolean) := ⟨_, _, _, tyX9, rfl, by decide, inX9, tb_at 998 (by decide +kernel) (by decide +kernel), tyX9_ok, nmX9, rfl, rfl, by decide +kernel⟩
theorem npX9_60 : fPutN "MineDeskModel" 60 9 21 (.array .int) := ⟨_, _, _, tyX9, rfl, by decide, inX9, tb_at 999 (by decide +kernel) (by decide +kernel), tyX9_ok, nmX9, rfl, rfl, by decide +kernel⟩
theorem npX9_63 : fPutN "MineDeskModel" 63 9 22 (.array .boolean) := ⟨_, _, _, tyX9, rfl, by decide, inX9, tb_at 1000 (by decide +kernel) (by decide +kernel), tyX9_ok, nmX9, rfl, rfl, by decide +kernel⟩
theorem npX9_66 : fPutN "MineDeskModel" 66 9 25 (.array .int) := ⟨_, _, _, tyX9, rfl, by decide, inX9, tb_at 1003 (by decide +kernel) (by decide +kernel), tyX9_ok, nmX9, rfl, rfl, by decide +kernel⟩
theorem npX9_69 : fPutN "MineDeskModel" 69 9 28 (.array .int) := ⟨_, _, _, tyX9, rfl, by decide, inX9, tb_at 1006 (by decide +kernel) (by decide +kernel), tyX9_ok, nmX9, rfl, rfl, by decide +kernel⟩
theorem npX9_72 : fPutN "MineDeskModel" 72 9 29 (.array .int) := ⟨_, _, _, tyX9, rfl, by decide, inX9, tb_at 1007 (by decide +kernel) (by decide +kernel), tyX9_ok, nmX9, rfl, rfl, by decide +kernel⟩
theorem npX9_75 : fPutN "MineDeskModel" 75 9 30 (.array .long) := ⟨_, _, _, tyX9, rfl, by decide, inX9, tb_at 1008 (by decide +kernel) (by decide +kernel), tyX9_ok, nmX9, rfl, rfl, by decide +kernel⟩
theorem npX9_79 : fPutN "MineDeskModel" 79 9 31 (.array .long) := ⟨_, _, _, tyX9, rfl, by decide, inX9, tb_at 1009 (by decide +kernel) (by decide +kernel), tyX9_ok, nmX9, rfl, rfl, by decide +kernel⟩
theorem npX9_82 : fPutN "MineDeskModel" 82 9 32 (.array .long) := ⟨_, _, _, tyX9, rfl, by decide, inX9, tb_at 1010 (by decide +kernel) (by decide +kernel), tyX9_ok, nmX9, rfl, rfl, by decide +kernel⟩
theorem npX9_85 : fPutN "MineDeskModel" 85 9 33 (.array .long) := ⟨_, _, _, tyX9, rfl, by decide, inX9, tb_at 1011 (by decide +kernel) (by decide +kernel), tyX9_ok, nmX9, rfl, rfl, by decide +kernel⟩
theorem npX9_88 : fPutN "MineDeskModel" 88 9 34 (.array .long) := ⟨_, _, _, tyX9, rfl, by decide, inX9, tb_at 1012 (by decide +kernel) (by decide +kernel), tyX9_ok, nmX9, rfl, rfl, by decide +kernel⟩
theorem npX9_91 : fPutN "MineDeskModel" 91 9 35 (.array .int) := ⟨_, _, _, tyX9, rfl, by decide, inX9, tb_at 1013 (by decide +kernel) (by decide +kernel), tyX9_ok, nmX9, rfl, rfl, by decide +kernel⟩
theorem npX9_94 : fPutN "MineDeskModel" 94 9 36 (.array .int) := ⟨_, _, _, tyX9, rfl, by decide, inX9, tb_at 1014 (by decide +kernel) (by decide +kernel), tyX9_ok, nmX9, rfl, rfl, by decide +kernel⟩
theorem npX9_97 : fPutN "MineDeskModel" 97 9 37 (.array .int) := ⟨_, _, _, tyX9, rfl, by decide, inX9, tb_at 1015 (by decide +kernel) (by decide +kernel), tyX9_ok, nmX9, rfl, rfl, by decide +kernel⟩
theorem nlX9_100 : Cond.methodLink "MineDeskModel" 100 yX9_layOut ∈ gt_tbl := tb_at 970 (by decide +kernel) (by decide +kernel)
