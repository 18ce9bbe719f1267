def shM : Nat → tg_S := fun k => match k with
  | 0 => .inr (9, [(0, 0), (0, 0), (0, 0), (0, 0), (2, 1), (2, 2), (2, 3), (2, 4), (0, 0), (2, 5), (0, 0), (2, 6), (2, 7), (2, 8), (0, 0), (0, 0), (0, 0), (2, 9), (2, 10), (2, 11), (2, 12), (2, 13), (2, 14), (0, 0), (0, 0), (2, 15), (0, 0), (0, 0), (2, 16), (2, 17), (2, 18), (2, 19), (2, 20), (2, 21), (2, 22), (2, 23), (2, 24), (2, 25)])
  | 1 => .inl (1, 10000)
  | 2 => .inl (1, 100)
  | 3 => .inl (0, 100)
  | 4 => .inl (1, 100)
  | 5 => .inl (0, 20000)
  | 6 => .inl (1, 100)
  | 7 => .inl (0, 100)
  | 8 => .inl (1, 100)
  | 9 => .inl (1, 101)
  | 10 => .inl (1, 101)
  | 11 => .inl (0, 100)
  | 12 => .inl (1, 10100)
  | 13 => .inl (0, 100)
  | 14 => .inl (1, 101)
  | 15 => .inl (0, 100)
  | 16 => .inl (0, 100)
  | 17 => .inl (0, 100)
  | 18 => .inl (2, 1300)
  | 19 => .inl (2, 1300)
  | 20 => .inl (2, 201)
  | 21 => .inl (2, 201)
  | 22 => .inl (2, 101)
  | 23 => .inl (0, 100)
  | 24 => .inl (0, 100)
  | 25 => .inl (0, 100)
  | _ => .inl (9, 0)
def pgM : tg_G := (shM, 26)
def shX : Nat → tg_S := fun k => match k with
  | 0 => .inr (8, [(2, 1), (2, 15), (2, 17), (2, 39), (2, 46), (2, 62), (2, 63), (0, 0)])
  | 1 => .inr (1, [(2, 2), (2, 7), (2, 8), (2, 9), (2, 10), (2, 11), (2, 12), (2, 13), (2, 14)])
  | 2 => .inr (2, [(2, 3), (2, 4), (2, 5), (2, 6), (0, 0), (0, 0), (0, 0), (0, 0)])
  | 3 => .inl (2, 100)
  | 4 => .inl (2, 100)
  | 5 => .inl (0, 800)
  | 6 => .inl (0, 100)
  | 7 => .inr (0, [(1, 0), (1, 0)])
  | 8 => .inr (0, [(1, 0), (1, 0)])
  | 9 => .inr (0, [(1, 0), (1, 0)])
  | 10 => .inr (0, [(1, 0), (1, 0)])
  | 11 => .inr (0, [(1, 0), (1, 0)])
  | 12 => .inr (0, [(1, 0), (1, 0)])
  | 13 => .inr (0, [(1, 0), (1, 0)])
  | 14 => .inl (0, 100)
  | 15 => .inr (4, [(2, 16), (0, 0)])
  | 16 => .inl (2, 1200)
  | 17 => .inr (5, [(2, 18), (2, 19), (2, 20), (2, 28), (2, 29), (2, 30), (2, 31), (2, 32), (2, 33), (2, 34), (2, 35), (2, 36), (2, 37), (2, 38), (0, 0)])
  | 18 => .inr (0, [(1, 0), (1, 0)])
  | 19 => .inr (0, [(1, 0), (1, 0)])
  | 20 => .inr (7, [(2, 21), (2, 22), (2, 23), (2, 24), (2, 25), (2, 26), (2, 27), (0, 0)])
  | 21 => .inl (0, 14)
  | 22 => .inl (0, 112)
  | 23 => .inl (0, 14)
  | 24 => .inl (0, 100)
  | 25 => .inl (0, 100)
  | 26 => .inl (0, 15)
  | 27 => .inl (0, 210)
  | 28 => .inr (0, [(1, 0), (1, 0)])
  | 29 => .inr (0, [(1, 0), (1, 0)])
  | 30 => .inr (0, [(1, 0), (1, 0)])
  | 31 => .inl (0, 100)
  | 32 => .inl (0, 101)
  | 33 => .inl (0, 100)
  | 34 => .inl (0, 1300)
  | 35 => .inl (0, 1300)
  | 36 => .inl (2, 101)
  | 37 => .inl (2, 101)
  | 38 => .inl (2, 101)
  | 39 => .inr (6, [(2, 40), (2, 41), (0, 0), (0, 0), (2, 17), (2, 42), (2, 43), (2, 44), (2, 45), (3, 0), (0, 0), (0, 0), (0, 0)])
  | 40 => .inr (0, [(1, 0), (1, 0)])
  | 41 => .inr (0, [(1, 0), (1, 0)])
  | 42 => .inl (2, 100)
  | 43 => .inl (2, 100)
  | 44 => .inr (0, [(1, 0), (1, 0)])
  | 45 => .inr (0, [(1, 0), (1, 0)])
  | 46 => .inr (3, [(2, 47), (2, 61), (0, 0), (2, 39), (0, 0)])
  | 47 => .inr (1, [(2, 48), (2, 53), (2, 54), (2, 55), (2, 56), (2, 57), (2, 58), (2, 59), (2, 60)])
  | 48 => .inr (2, [(2, 49), (2, 50), (2, 51), (2, 52), (0, 0), (0, 0), (0, 0), (0, 0)])
  | 49 => .inl (2, 100)
  | 50 => .inl (2, 100)
  | 51 => .inl (0, 800)
  | 52 => .inl (0, 100)
  | 53 => .inr (0, [(1, 0), (1, 0)])
  | 54 => .inr (0, [(1, 0), (1, 0)])
  | 55 => .inr (0, [(1, 0), (1, 0)])
  | 56 => .inr (0, [(1, 0), (1, 0)])
  | 57 => .inr (0, [(1, 0), (1, 0)])
  | 58 => .inr (0, [(1, 0), (1, 0)])
  | 59 => .inr (0, [(1, 0), (1, 0)])
  | 60 => .inl (0, 100)
  | 61 => .inr (0, [(1, 0), (1, 0)])
  | 62 => .inr (0, [(1, 0), (1, 0)])
  | 63 => .inr (0, [(1, 0), (1, 0)])
  | _ => .inl (9, 0)
def pgX : tg_G := (shX, 64)
abbrev zX8_blank : zM := (yX8_blank, cX8_blank, 4, some .int, 5, 123)
set_option maxRecDepth 100000 in
theorem wX8_blank : Cond.code yX8_blank cX8_blank 4 (some .int) ∈ gt_tbl := tb_at 496 (by rfl) (by decide +kernel)
theorem iX8 : Cond.initialized "MineDesk" ∈ gt_tbl := tb_at 78 (by decide +kernel) (by decide +kernel)
theorem kX8_blank : zV zX8_blank 3 8 := ⟨⟨by decide +kernel, by decide +kernel, by decide +kernel, wX8_blank, iX8⟩, by decide +kernel, tb_at 494 (by decide +kernel) (by decide +kernel), tb_at 495 (by decide +kernel) (by decide +kernel), _, rfl, rfl⟩
abbrev zX8_edit : zM := (yX8_edit, cX8_edit, 3, some .int, 2, 43)
set_option maxRecDepth 100000 in
theorem wX8_edit : Cond.code yX8_edit cX8_edit 3 (some .int) ∈ gt_tbl := tb_at 512 (by rfl) (by decide +kernel)
theorem kX8_edit : zV zX8_edit 2 8 := ⟨⟨by decide +kernel, by decide +kernel, by decide +kernel, wX8_edit, iX8⟩, by decide +kernel, tb_at 510 (by decide +kernel) (by decide +kernel), tb_at 511 (by decide +kernel) (by decide +kernel), _, rfl, rfl⟩
abbrev zX8_make : zM := (yX8_make, cX8_make, 7, some .int, 7, 174)
set_option maxRecDepth 100000 in
theorem wX8_make : Cond.code yX8_make cX8_make 7 (some .int) ∈ gt_tbl := tb_at 544 (by rfl) (by decide +kernel)
theorem kX8_make : zV zX8_make 6 8 := ⟨⟨by decide +kernel, by decide +kernel, by decide +kernel, wX8_make, iX8⟩, by decide +kernel, tb_at 542 (by decide +kernel) (by decide +kernel), tb_at 543 (by decide +kernel) (by decide +kernel), _, rfl, rfl⟩
abbrev zX8_mended : zM := (yX8_mended, cX8_mended, 1, some .int, 0, 0)
set_option maxRecDepth 100000 in
theorem wX8_mended : Cond.code yX8_mended cX8_mended 1 (some .int) ∈ gt_tbl := tb_at 796 (by rfl) (by decide +kernel)
theorem kX8_mended : zV zX8_mended 0 8 := ⟨⟨by decide +kernel, by decide +kernel, by decide +kernel, wX8_mended, iX8⟩, by decide +kernel, tb_at 794 (by decide +kernel) (by decide +kernel), tb_at 795 (by decide +kernel) (by decide +kernel), _, rfl, rfl⟩
abbrev zX8_count : zM := (yX8_count, cX8_count, 2, some .int, 2, 41)
set_option maxRecDepth 100000 in
theorem wX8_count : Cond.code yX8_count cX8_count 2 (some .int) ∈ gt_tbl := tb_at 800 (by rfl) (by decide +kernel)
theorem kX8_count : zV zX8_count 1 8 := ⟨⟨by decide +kernel, by decide +kernel, by decide +kernel, wX8_count, iX8⟩, by decide +kernel, tb_at 798 (by decide +kernel) (by decide +kernel), tb_at 799 (by decide +kernel) (by decide +kernel), _, rfl, rfl⟩
abbrev zX8_neighbour : zM := (yX8_neighbour, cX8_neighbour, 3, some .int, 1, 21)
set_option maxRecDepth 100000 in
theorem wX8_neighbour : Cond.code yX8_neighbour cX8_neighbour 3 (some .int) ∈ gt_tbl := tb_at 804 (by rfl) (by decide +kernel)
theorem kX8_neighbour : zV zX8_neighbour 2 8 := ⟨⟨by decide +kernel, by decide +kernel, by decide +kernel, wX8_neighbour, iX8⟩, by decide +kernel, tb_at 802 (by decide +kernel) (by decide +kernel), tb_at 803 (by decide +kernel) (by decide +kernel), _, rfl, rfl⟩
abbrev zX8_mined : zM := (yX8_mined, cX8_mined, 2, some .boolean, 1, 21)
set_option maxRecDepth 100000 in
theorem wX8_mined : Cond.code yX8_mined cX8_mined 2 (some .boolean) ∈ gt_tbl := tb_at 808 (by rfl) (by decide +kernel)
theorem kX8_mined : zV zX8_mined 1 8 := ⟨⟨by decide +kernel, by decide +kernel, by decide +kernel, wX8_mined, iX8⟩, by decide +kernel, tb_at 806 (by decide +kernel) (by decide +kernel), tb_at 807 (by decide +kernel) (by decide +kernel), _, rfl, rfl⟩
abbrev zX8_open : zM := (yX8_open, cX8_open, 2, some .int, 4, 91)
set_option maxRecDepth 100000 in
theorem wX8_open : Cond.code yX8_open cX8_open 2 (some .int) ∈ gt_tbl := tb_at 812 (by rfl) (by decide +kernel)
theorem kX8_open : zV zX8_open 1 8 := ⟨⟨by decide +kernel, by decide +kernel, by decide +kernel, wX8_open, iX8⟩, by decide +kernel, tb_at 810 (by decide +kernel) (by decide +kernel), tb_at 811 (by decide +kernel) (by decide +kernel), _, rfl, rfl⟩
abbrev zX8_flag : zM := (yX8_flag, cX8_flag, 2, some .int, 2, 43)
set_option maxRecDepth 100000 in
theorem wX8_flag : Cond.code yX8_flag cX8_flag 2 (some .int) ∈ gt_tbl := tb_at 822 (by rfl) (by decide +kernel)
theorem kX8_flag : zV zX8_flag 1 8 := ⟨⟨by decide +kernel, by decide +kernel, by decide +kernel, wX8_flag, iX8⟩, by decide +kernel, tb_at 820 (by decide +kernel) (by decide +kernel), tb_at 821 (by decide +kernel) (by decide +kernel), _, rfl, rfl⟩
abbrev zX8_chord : zM := (yX8_chord, cX8_chord, 3, some .int, 5, 114)
set_option maxRecDepth 100000 in
theorem wX8_chord : Cond.code yX8_chord cX8_chord 3 (some .int) ∈ gt_tbl := tb_at 826 (by rfl) (by decide +kernel)
theorem kX8_chord : zV zX8_chord 1 8 := ⟨⟨by decide +kernel, by decide +kernel, by decide +kernel, wX8_chord, iX8⟩, by decide +kernel, tb_at 824 (by decide +kernel) (by decide +kernel), tb_at 825 (by decide +kernel) (by decide +kernel), _, rfl, rfl⟩
abbrev zX8_undo : zM := (yX8_undo, cX8_undo, 1, some .int, 2, 43)
set_option maxRecDepth 100000 in
theorem wX8_undo : Cond.code yX8_undo cX8_undo 1 (some .int) ∈ gt_tbl := tb_at 839 (by rfl) (by decide +kernel)
theorem kX8_undo : zV zX8_undo 0 8 := ⟨⟨by decide +kernel, by decide +kernel, by decide +kernel, wX8_undo, iX8⟩, by decide +kernel, tb_at 837 (by decide +kernel) (by decide +kernel), tb_at 838 (by decide +kernel) (by decide +kernel), _, rfl, rfl⟩
abbrev zX8_shown : zM := (yX8_shown, cX8_shown, 2, some .int, 3, 64)
set_option maxRecDepth 100000 in
theorem wX8_shown : Cond.code yX8_shown cX8_shown 2 (some .int) ∈ gt_tbl := tb_at 849 (by rfl) (by decide +kernel)
theorem kX8_shown : zV zX8_shown 1 8 := ⟨⟨by decide +kernel, by decide +kernel, by decide +kernel, wX8_shown, iX8⟩, by decide +kernel, tb_at 847 (by decide +kernel) (by decide +kernel), tb_at 848 (by decide +kernel) (by decide +kernel), _, rfl, rfl⟩
abbrev zX8_solved : zM := (yX8_solved, cX8_solved, 1, some .boolean, 1, 20)
set_option maxRecDepth 100000 in
theorem wX8_solved : Cond.code yX8_solved cX8_solved 1 (some .boolean) ∈ gt_tbl := tb_at 853 (by rfl) (by decide +kernel)
theorem kX8_solved : zV zX8_solved 0 8 := ⟨⟨by decide +kernel, by decide +kernel, by decide +kernel, wX8_solved, iX8⟩, by decide +kernel, tb_at 851 (by decide +kernel) (by decide +kernel), tb_at 852 (by decide +kernel) (by decide +kernel), _, rfl, rfl⟩
abbrev zX8_clicks : zM := (yX8_clicks, cX8_clicks, 1, some .int, 4, 92)
set_option maxRecDepth 100000 in
theorem wX8_clicks : Cond.code yX8_clicks cX8_clicks 1 (some .int) ∈ gt_tbl := tb_at 858 (by rfl) (by decide +kernel)
theorem kX8_clicks : zV zX8_clicks 0 8 := ⟨⟨by decide +kernel, by decide +kernel, by decide +kernel, wX8_clicks, iX8⟩, by decide +kernel, tb_at 856 (by decide +kernel) (by decide +kernel), tb_at 857 (by decide +kernel) (by decide +kernel), _, rfl, rfl⟩
abbrev zX8_hint : zM := (yX8_hint, cX8_hint, 4, some .int, 5, 129)
set_option maxRecDepth 100000 in
theorem wX8_hint : Cond.code yX8_hint cX8_hint 4 (some .int) ∈ gt_tbl := tb_at 875 (by rfl) (by decide +kernel)
theorem kX8_hint : zV zX8_hint 1 8 := ⟨⟨by decide +kernel, by decide +kernel, by decide +kernel, wX8_hint, iX8⟩, by decide +kernel, tb_at 873 (by decide +kernel) (by decide +kernel), tb_at 874 (by decide +kernel) (by decide +kernel), _, rfl, rfl⟩
abbrev zX8_kind : zM := (yX8_kind, cX8_kind, 1, some .int, 0, 0)
set_option maxRecDepth 100000 in
theorem wX8_kind : Cond.code yX8_kind cX8_kind 1 (some .int) ∈ gt_tbl := tb_at 883 (by rfl) (by decide +kernel)
theorem kX8_kind : zV zX8_kind 0 8 := ⟨⟨by decide +kernel, by decide +kernel, by decide +kernel, wX8_kind, iX8⟩, by decide +kernel, tb_at 881 (by decide +kernel) (by decide +kernel), tb_at 882 (by decide +kernel) (by decide +kernel), _, rfl, rfl⟩
abbrev zX8_reason : zM := (yX8_reason, cX8_reason, 2, some .int, 2, 45)
set_option maxRecDepth 100000 in
theorem wX8_reason : Cond.code yX8_reason cX8_reason 2 (some .int) ∈ gt_tbl := tb_at 887 (by rfl) (by decide +kernel)
theorem kX8_reason : zV zX8_reason 1 8 := ⟨⟨by decide +kernel, by decide +kernel, by decide +kernel, wX8_reason, iX8⟩, by decide +kernel, tb_at 885 (by decide +kernel) (by decide +kernel), tb_at 886 (by decide +kernel) (by decide +kernel), _, rfl, rfl⟩
abbrev zX8_total : zM := (yX8_total, cX8_total, 1, some .boolean, 1, 21)
set_option maxRecDepth 100000 in
theorem wX8_total : Cond.code yX8_total cX8_total 1 (some .boolean) ∈ gt_tbl := tb_at 892 (by rfl) (by decide +kernel)
theorem kX8_total : zV zX8_total 0 8 := ⟨⟨by decide +kernel, by decide +kernel, by decide +kernel, wX8_total, iX8⟩, by decide +kernel, tb_at 890 (by decide +kernel) (by decide +kernel), tb_at 891 (by decide +kernel) (by decide +kernel), _, rfl, rfl⟩
abbrev zX8_take : zM := (yX8_take, cX8_take, 1, some .int, 2, 41)
set_option maxRecDepth 100000 in
theorem wX8_take : Cond.code yX8_take cX8_take 1 (some .int) ∈ gt_tbl := tb_at 896 (by rfl) (by decide +kernel)
theorem kX8_take : zV zX8_take 0 8 := ⟨⟨by decide +kernel, by decide +kernel, by decide +kernel, wX8_take, iX8⟩, by decide +kernel, tb_at 894 (by decide +kernel) (by decide +kernel), tb_at 895 (by decide +kernel) (by decide +kernel), _, rfl, rfl⟩
abbrev zX8_tell : zM := (yX8_tell, cX8_tell, 3, some .int, 3, 65)
set_option maxRecDepth 100000 in
theorem wX8_tell : Cond.code yX8_tell cX8_tell 3 (some .int) ∈ gt_tbl := tb_at 900 (by rfl) (by decide +kernel)
theorem kX8_tell : zV zX8_tell 2 8 := ⟨⟨by decide +kernel, by decide +kernel, by decide +kernel, wX8_tell, iX8⟩, by decide +kernel, tb_at 898 (by decide +kernel) (by decide +kernel), tb_at 899 (by decide +kernel) (by decide +kernel), _, rfl, rfl⟩
abbrev zX8_name : zM := (yX8_name, cX8_name, 2, some .int, 3, 65)
set_option maxRecDepth 100000 in
theorem wX8_name : Cond.code yX8_name cX8_name 2 (some .int) ∈ gt_tbl := tb_at 908 (by rfl) (by decide +kernel)
theorem kX8_name : zV zX8_name 1 8 := ⟨⟨by decide +kernel, by decide +kernel, by decide +kernel, wX8_name, iX8⟩, by decide +kernel, tb_at 906 (by decide +kernel) (by decide +kernel), tb_at 907 (by decide +kernel) (by decide +kernel), _, rfl, rfl⟩
abbrev zX8_check : zM := (yX8_check, cX8_check, 3, some .int, 4, 99)
set_option maxRecDepth 100000 in
theorem wX8_check : Cond.code yX8_check cX8_check 3 (some .int) ∈ gt_tbl := tb_at 912 (by rfl) (by decide +kernel)
theorem kX8_check : zV zX8_check 2 8 := ⟨⟨by decide +kernel, by decide +kernel, by decide +kernel, wX8_check, iX8⟩, by decide +kernel, tb_at 910 (by decide +kernel) (by decide +kernel), tb_at 911 (by decide +kernel) (by decide +kernel), _, rfl, rfl⟩
abbrev zX8_ways : zM := (yX8_ways, cX8_ways, 1, some .int, 4, 105)
set_option maxRecDepth 100000 in
theorem wX8_ways : Cond.code yX8_ways cX8_ways 1 (some .int) ∈ gt_tbl := tb_at 933 (by rfl) (by decide +kernel)
theorem kX8_ways : zV zX8_ways 0 8 := ⟨⟨by decide +kernel, by decide +kernel, by decide +kernel, wX8_ways, iX8⟩, by decide +kernel, tb_at 931 (by decide +kernel) (by decide +kernel), tb_at 932 (by decide +kernel) (by decide +kernel), _, rfl, rfl⟩
abbrev zX8_with : zM := (yX8_with, cX8_with, 2, some .int, 4, 105)
set_option maxRecDepth 100000 in
theorem wX8_with : Cond.code yX8_with cX8_with 2 (some .int) ∈ gt_tbl := tb_at 959 (by rfl) (by decide +kernel)
theorem kX8_with : zV zX8_with 1 8 := ⟨⟨by decide +kernel, by decide +kernel, by decide +kernel, wX8_with, iX8⟩, by decide +kernel, tb_at 957 (by decide +kernel) (by decide +kernel), tb_at 958 (by decide +kernel) (by decide +kernel), _, rfl, rfl⟩
abbrev zX8_putTold : zM := (yX8_putTold, cX8_putTold, 3, some .int, 2, 43)
set_option maxRecDepth 100000 in
theorem wX8_putTold : Cond.code yX8_putTold cX8_putTold 3 (some .int) ∈ gt_tbl := tb_at 904 (by rfl) (by decide +kernel)
theorem kX8_putTold : zV zX8_putTold 2 8 := ⟨⟨by decide +kernel, by decide +kernel, by decide +kernel, wX8_putTold, iX8⟩, by decide +kernel, tb_at 903 (by decide +kernel) (by decide +kernel), tb_at 27 (by decide +kernel) (by decide +kernel), _, rfl, rfl⟩
abbrev zX8_forget : zM := (yX8_forget, cX8_forget, 1, none, 2, 40)
set_option maxRecDepth 100000 in
theorem wX8_forget : Cond.code yX8_forget cX8_forget 1 (none) ∈ gt_tbl := tb_at 503 (by rfl) (by decide +kernel)
theorem kX8_forget : zV zX8_forget 0 8 := ⟨⟨by decide +kernel, by decide +kernel, by decide +kernel, wX8_forget, iX8⟩, by decide +kernel, tb_at 502 (by decide +kernel) (by decide +kernel), tb_at 4 (by decide +kernel) (by decide +kernel), _, rfl, rfl⟩
abbrev zX8_forgetHint : zM := (yX8_forgetHint, cX8_forgetHint, 1, none, 1, 20)
set_option maxRecDepth 100000 in
theorem wX8_forgetHint : Cond.code yX8_forgetHint cX8_forgetHint 1 (none) ∈ gt_tbl := tb_at 508 (by rfl) (by decide +kernel)
theorem kX8_forgetHint : zV zX8_forgetHint 0 8 := ⟨⟨by decide +kernel, by decide +kernel, by decide +kernel, wX8_forgetHint, iX8⟩, by decide +kernel, tb_at 507 (by decide +kernel) (by decide +kernel), tb_at 5 (by decide +kernel) (by decide +kernel), _, rfl, rfl⟩
abbrev zX9_join : zM := (yX9_join, cX9_join, 7, none, 0, 0)
set_option maxRecDepth 100000 in
theorem wX9_join : Cond.code yX9_join cX9_join 7 (none) ∈ gt_tbl := tb_at 977 (by rfl) (by decide +kernel)
theorem iX9 : Cond.initialized "MineDeskModel" ∈ gt_tbl := tb_at 87 (by decide +kernel) (by decide +kernel)
theorem kX9_join : zV zX9_join 3 9 := ⟨⟨by decide +kernel, by decide +kernel, by decide +kernel, wX9_join, iX9⟩, by decide +kernel, tb_at 976 (by decide +kernel) (by decide +kernel), tb_at 33 (by decide +kernel) (by decide +kernel), _, rfl, rfl⟩
abbrev zX9_layOut : zM := (yX9_layOut, cX9_layOut, 10, none, 1, 26)
set_option maxRecDepth 100000 in
theorem wX9_layOut : Cond.code yX9_layOut cX9_layOut 10 (none) ∈ gt_tbl := tb_at 973 (by rfl) (by decide +kernel)
theorem kX9_layOut : zV zX9_layOut 3 9 := ⟨⟨by decide +kernel, by decide +kernel, by decide +kernel, wX9_layOut, iX9⟩, by decide +kernel, tb_at 972 (by decide +kernel) (by decide +kernel), tb_at 32 (by decide +kernel) (by decide +kernel), _, rfl, rfl⟩
abbrev zX9_isNear : zM := (yX9_isNear, cX9_isNear, 3, some .boolean, 0, 0)
set_option maxRecDepth 100000 in
theorem wX9_isNear : Cond.code yX9_isNear cX9_isNear 3 (some .boolean) ∈ gt_tbl := tb_at 1136 (by rfl) (by decide +kernel)
theorem kX9_isNear : zV zX9_isNear 2 9 := ⟨⟨by decide +kernel, by decide +kernel, by decide +kernel, wX9_isNear, iX9⟩, by decide +kernel, tb_at 1135 (by decide +kernel) (by decide +kernel), tb_at 40 (by decide +kernel) (by decide +kernel), _, rfl, rfl⟩
abbrev zX9_isCell : zM := (yX9_isCell, cX9_isCell, 2, some .boolean, 0, 0)
set_option maxRecDepth 100000 in
theorem wX9_isCell : Cond.code yX9_isCell cX9_isCell 2 (some .boolean) ∈ gt_tbl := tb_at 1116 (by rfl) (by decide +kernel)
theorem kX9_isCell : zV zX9_isCell 1 9 := ⟨⟨by decide +kernel, by decide +kernel, by decide +kernel, wX9_isCell, iX9⟩, by decide +kernel, tb_at 1115 (by decide +kernel) (by decide +kernel), tb_at 36 (by decide +kernel) (by decide +kernel), _, rfl, rfl⟩
abbrev zX9_isBoard : zM := (yX9_isBoard, cX9_isBoard, 3, some .boolean, 0, 0)
set_option maxRecDepth 100000 in
theorem wX9_isBoard : Cond.code yX9_isBoard cX9_isBoard 3 (some .boolean) ∈ gt_tbl := tb_at 1100 (by rfl) (by decide +kernel)
theorem kX9_isBoard : zS zX9_isBoard 3 := ⟨⟨by decide +kernel, by decide +kernel, by decide +kernel, wX9_isBoard, iX9⟩, by decide +kernel, tb_at 1099 (by decide +kernel) (by decide +kernel)⟩
abbrev zX9_hideAll : zM := (yX9_hideAll, cX9_hideAll, 2, none, 0, 0)
set_option maxRecDepth 100000 in
theorem wX9_hideAll : Cond.code yX9_hideAll cX9_hideAll 2 (none) ∈ gt_tbl := tb_at 1104 (by rfl) (by decide +kernel)
theorem kX9_hideAll : zV zX9_hideAll 0 9 := ⟨⟨by decide +kernel, by decide +kernel, by decide +kernel, wX9_hideAll, iX9⟩, by decide +kernel, tb_at 1103 (by decide +kernel) (by decide +kernel), tb_at 34 (by decide +kernel) (by decide +kernel), _, rfl, rfl⟩
abbrev zX9_forget : zM := (yX9_forget, cX9_forget, 2, none, 0, 0)
set_option maxRecDepth 100000 in
theorem wX9_forget : Cond.code yX9_forget cX9_forget 2 (none) ∈ gt_tbl := tb_at 1108 (by rfl) (by decide +kernel)
theorem kX9_forget : zV zX9_forget 0 9 := ⟨⟨by decide +kernel, by decide +kernel, by decide +kernel, wX9_forget, iX9⟩, by decide +kernel, tb_at 1107 (by decide +kernel) (by decide +kernel), tb_at 35 (by decide +kernel) (by decide +kernel), _, rfl, rfl⟩
abbrev zX9_blank : zM := (yX9_blank, cX9_blank, 5, some .int, 2, 55)
set_option maxRecDepth 100000 in
theorem wX9_blank : Cond.code yX9_blank cX9_blank 5 (some .int) ∈ gt_tbl := tb_at 1097 (by rfl) (by decide +kernel)
theorem kX9_blank : zV zX9_blank 3 9 := ⟨⟨by decide +kernel, by decide +kernel, by decide +kernel, wX9_blank, iX9⟩, by decide +kernel, tb_at 1095 (by decide +kernel) (by decide +kernel), tb_at 1096 (by decide +kernel) (by decide +kernel), _, rfl, rfl⟩
abbrev zX9_mines : zM := (yX9_mines, cX9_mines, 3, some .int, 0, 0)
set_option maxRecDepth 100000 in
theorem wX9_mines : Cond.code yX9_mines cX9_mines 3 (some .int) ∈ gt_tbl := tb_at 1124 (by rfl) (by decide +kernel)
theorem kX9_mines : zV zX9_mines 0 9 := ⟨⟨by decide +kernel, by decide +kernel, by decide +kernel, wX9_mines, iX9⟩, by decide +kernel, tb_at 1123 (by decide +kernel) (by decide +kernel), tb_at 38 (by decide +kernel) (by decide +kernel), _, rfl, rfl⟩
abbrev zX9_inState : zM := (yX9_inState, cX9_inState, 4, some .int, 0, 0)
set_option maxRecDepth 100000 in
theorem wX9_inState : Cond.code yX9_inState cX9_inState 4 (some .int) ∈ gt_tbl := tb_at 1120 (by rfl) (by decide +kernel)
theorem kX9_inState : zV zX9_inState 1 9 := ⟨⟨by decide +kernel, by decide +kernel, by decide +kernel, wX9_inState, iX9⟩, by decide +kernel, tb_at 1119 (by decide +kernel) (by decide +kernel), tb_at 37 (by decide +kernel) (by decide +kernel), _, rfl, rfl⟩
abbrev zX9_edit : zM := (yX9_edit, cX9_edit, 3, some .int, 1, 23)
set_option maxRecDepth 100000 in
theorem wX9_edit : Cond.code yX9_edit cX9_edit 3 (some .int) ∈ gt_tbl := tb_at 1112 (by rfl) (by decide +kernel)
theorem kX9_edit : zV zX9_edit 2 9 := ⟨⟨by decide +kernel, by decide +kernel, by decide +kernel, wX9_edit, iX9⟩, by decide +kernel, tb_at 1110 (by decide +kernel) (by decide +kernel), tb_at 1111 (by decide +kernel) (by decide +kernel), _, rfl, rfl⟩
abbrev zX9_numberOf : zM := (yX9_numberOf, cX9_numberOf, 4, some .int, 1, 22)
set_option maxRecDepth 100000 in
theorem wX9_numberOf : Cond.code yX9_numberOf cX9_numberOf 4 (some .int) ∈ gt_tbl := tb_at 1159 (by rfl) (by decide +kernel)
theorem kX9_numberOf : zV zX9_numberOf 1 9 := ⟨⟨by decide +kernel, by decide +kernel, by decide +kernel, wX9_numberOf, iX9⟩, by decide +kernel, tb_at 1158 (by decide +kernel) (by decide +kernel), tb_at 45 (by decide +kernel) (by decide +kernel), _, rfl, rfl⟩
abbrev zX9_nearState : zM := (yX9_nearState, cX9_nearState, 5, some .int, 1, 22)
set_option maxRecDepth 100000 in
theorem wX9_nearState : Cond.code yX9_nearState cX9_nearState 5 (some .int) ∈ gt_tbl := tb_at 1195 (by rfl) (by decide +kernel)
theorem kX9_nearState : zV zX9_nearState 2 9 := ⟨⟨by decide +kernel, by decide +kernel, by decide +kernel, wX9_nearState, iX9⟩, by decide +kernel, tb_at 1194 (by decide +kernel) (by decide +kernel), tb_at 54 (by decide +kernel) (by decide +kernel), _, rfl, rfl⟩
abbrev zX9_isSolved : zM := (yX9_isSolved, cX9_isSolved, 3, some .boolean, 0, 0)
set_option maxRecDepth 100000 in
theorem wX9_isSolved : Cond.code yX9_isSolved cX9_isSolved 3 (some .boolean) ∈ gt_tbl := tb_at 1163 (by rfl) (by decide +kernel)
theorem kX9_isSolved : zV zX9_isSolved 0 9 := ⟨⟨by decide +kernel, by decide +kernel, by decide +kernel, wX9_isSolved, iX9⟩, by decide +kernel, tb_at 1162 (by decide +kernel) (by decide +kernel), tb_at 46 (by decide +kernel) (by decide +kernel), _, rfl, rfl⟩
abbrev zX9_uncover : zM := (yX9_uncover, cX9_uncover, 5, none, 2, 45)
set_option maxRecDepth 100000 in
theorem wX9_uncover : Cond.code yX9_uncover cX9_uncover 5 (none) ∈ gt_tbl := tb_at 1155 (by rfl) (by decide +kernel)
theorem kX9_uncover : zV zX9_uncover 1 9 := ⟨⟨by decide +kernel, by decide +kernel, by decide +kernel, wX9_uncover, iX9⟩, by decide +kernel, tb_at 1154 (by decide +kernel) (by decide +kernel), tb_at 44 (by decide +kernel) (by decide +kernel), _, rfl, rfl⟩
abbrev zX9_keepBoard : zM := (yX9_keepBoard, cX9_keepBoard, 2, none, 0, 0)
set_option maxRecDepth 100000 in
theorem wX9_keepBoard : Cond.code yX9_keepBoard cX9_keepBoard 2 (none) ∈ gt_tbl := tb_at 1140 (by rfl) (by decide +kernel)
theorem kX9_keepBoard : zV zX9_keepBoard 0 9 := ⟨⟨by decide +kernel, by decide +kernel, by decide +kernel, wX9_keepBoard, iX9⟩, by decide +kernel, tb_at 1139 (by decide +kernel) (by decide +kernel), tb_at 41 (by decide +kernel) (by decide +kernel), _, rfl, rfl⟩
abbrev zX9_bringBack : zM := (yX9_bringBack, cX9_bringBack, 2, none, 0, 0)
set_option maxRecDepth 100000 in
theorem wX9_bringBack : Cond.code yX9_bringBack cX9_bringBack 2 (none) ∈ gt_tbl := tb_at 1256 (by rfl) (by decide +kernel)
theorem kX9_bringBack : zV zX9_bringBack 0 9 := ⟨⟨by decide +kernel, by decide +kernel, by decide +kernel, wX9_bringBack, iX9⟩, by decide +kernel, tb_at 1255 (by decide +kernel) (by decide +kernel), tb_at 69 (by decide +kernel) (by decide +kernel), _, rfl, rfl⟩
abbrev zX9_canBeMined : zM := (yX9_canBeMined, cX9_canBeMined, 3, some .boolean, 1, 22)
set_option maxRecDepth 100000 in
theorem wX9_canBeMined : Cond.code yX9_canBeMined cX9_canBeMined 3 (some .boolean) ∈ gt_tbl := tb_at 1132 (by rfl) (by decide +kernel)
theorem kX9_canBeMined : zV zX9_canBeMined 2 9 := ⟨⟨by decide +kernel, by decide +kernel, by decide +kernel, wX9_canBeMined, iX9⟩, by decide +kernel, tb_at 1131 (by decide +kernel) (by decide +kernel), tb_at 39 (by decide +kernel) (by decide +kernel), _, rfl, rfl⟩
abbrev zX9_drawMines : zM := (yX9_drawMines, cX9_drawMines, 10, none, 2, 44)
set_option maxRecDepth 100000 in
theorem wX9_drawMines : Cond.code yX9_drawMines cX9_drawMines 10 (none) ∈ gt_tbl := tb_at 1144 (by rfl) (by decide +kernel)
theorem kX9_drawMines : zV zX9_drawMines 3 9 := ⟨⟨by decide +kernel, by decide +kernel, by decide +kernel, wX9_drawMines, iX9⟩, by decide +kernel, tb_at 1143 (by decide +kernel) (by decide +kernel), tb_at 42 (by decide +kernel) (by decide +kernel), _, rfl, rfl⟩
abbrev zX9_plays : zM := (yX9_plays, cX9_plays, 4, some .boolean, 8, 183)
set_option maxRecDepth 100000 in
theorem wX9_plays : Cond.code yX9_plays cX9_plays 4 (some .boolean) ∈ gt_tbl := tb_at 1151 (by rfl) (by decide +kernel)
theorem kX9_plays : zV zX9_plays 2 9 := ⟨⟨by decide +kernel, by decide +kernel, by decide +kernel, wX9_plays, iX9⟩, by decide +kernel, tb_at 1150 (by decide +kernel) (by decide +kernel), tb_at 43 (by decide +kernel) (by decide +kernel), _, rfl, rfl⟩
abbrev zX9_mends : zM := (yX9_mends, cX9_mends, 5, some .boolean, 2, 46)
set_option maxRecDepth 100000 in
theorem wX9_mends : Cond.code yX9_mends cX9_mends 5 (some .boolean) ∈ gt_tbl := tb_at 1252 (by rfl) (by decide +kernel)
theorem kX9_mends : zV zX9_mends 0 9 := ⟨⟨by decide +kernel, by decide +kernel, by decide +kernel, wX9_mends, iX9⟩, by decide +kernel, tb_at 1251 (by decide +kernel) (by decide +kernel), tb_at 68 (by decide +kernel) (by decide +kernel), _, rfl, rfl⟩
abbrev zX9_make : zM := (yX9_make, cX9_make, 14, some .int, 9, 206)
set_option maxRecDepth 100000 in
theorem wX9_make : Cond.code yX9_make cX9_make 14 (some .int) ∈ gt_tbl := tb_at 1128 (by rfl) (by decide +kernel)
theorem kX9_make : zV zX9_make 6 9 := ⟨⟨by decide +kernel, by decide +kernel, by decide +kernel, wX9_make, iX9⟩, by decide +kernel, tb_at 1126 (by decide +kernel) (by decide +kernel), tb_at 1127 (by decide +kernel) (by decide +kernel), _, rfl, rfl⟩
abbrev zX9_mended : zM := (yX9_mended, cX9_mended, 1, some .int, 0, 0)
set_option maxRecDepth 100000 in
theorem wX9_mended : Cond.code yX9_mended cX9_mended 1 (some .int) ∈ gt_tbl := tb_at 1260 (by rfl) (by decide +kernel)
theorem kX9_mended : zV zX9_mended 0 9 := ⟨⟨by decide +kernel, by decide +kernel, by decide +kernel, wX9_mended, iX9⟩, by decide +kernel, tb_at 1258 (by decide +kernel) (by decide +kernel), tb_at 1259 (by decide +kernel) (by decide +kernel), _, rfl, rfl⟩
abbrev zX9_count : zM := (yX9_count, cX9_count, 4, some .int, 1, 23)
set_option maxRecDepth 100000 in
theorem wX9_count : Cond.code yX9_count cX9_count 4 (some .int) ∈ gt_tbl := tb_at 1264 (by rfl) (by decide +kernel)
theorem kX9_count : zV zX9_count 1 9 := ⟨⟨by decide +kernel, by decide +kernel, by decide +kernel, wX9_count, iX9⟩, by decide +kernel, tb_at 1262 (by decide +kernel) (by decide +kernel), tb_at 1263 (by decide +kernel) (by decide +kernel), _, rfl, rfl⟩
abbrev zX9_neighbour : zM := (yX9_neighbour, cX9_neighbour, 6, some .int, 1, 22)
set_option maxRecDepth 100000 in
theorem wX9_neighbour : Cond.code yX9_neighbour cX9_neighbour 6 (some .int) ∈ gt_tbl := tb_at 1268 (by rfl) (by decide +kernel)
theorem kX9_neighbour : zV zX9_neighbour 2 9 := ⟨⟨by decide +kernel, by decide +kernel, by decide +kernel, wX9_neighbour, iX9⟩, by decide +kernel, tb_at 1266 (by decide +kernel) (by decide +kernel), tb_at 1267 (by decide +kernel) (by decide +kernel), _, rfl, rfl⟩
abbrev zX9_mined : zM := (yX9_mined, cX9_mined, 2, some .boolean, 1, 21)
set_option maxRecDepth 100000 in
theorem wX9_mined : Cond.code yX9_mined cX9_mined 2 (some .boolean) ∈ gt_tbl := tb_at 1272 (by rfl) (by decide +kernel)
theorem kX9_mined : zV zX9_mined 1 9 := ⟨⟨by decide +kernel, by decide +kernel, by decide +kernel, wX9_mined, iX9⟩, by decide +kernel, tb_at 1270 (by decide +kernel) (by decide +kernel), tb_at 1271 (by decide +kernel) (by decide +kernel), _, rfl, rfl⟩
abbrev zX9_move : zM := (yX9_move, cX9_move, 2, none, 0, 0)
set_option maxRecDepth 100000 in
theorem wX9_move : Cond.code yX9_move cX9_move 2 (none) ∈ gt_tbl := tb_at 1280 (by rfl) (by decide +kernel)
theorem kX9_move : zV zX9_move 0 9 := ⟨⟨by decide +kernel, by decide +kernel, by decide +kernel, wX9_move, iX9⟩, by decide +kernel, tb_at 1279 (by decide +kernel) (by decide +kernel), tb_at 70 (by decide +kernel) (by decide +kernel), _, rfl, rfl⟩
abbrev zX9_open : zM := (yX9_open, cX9_open, 2, some .int, 3, 69)
set_option maxRecDepth 100000 in
theorem wX9_open : Cond.code yX9_open cX9_open 2 (some .int) ∈ gt_tbl := tb_at 1276 (by rfl) (by decide +kernel)
theorem kX9_open : zV zX9_open 1 9 := ⟨⟨by decide +kernel, by decide +kernel, by decide +kernel, wX9_open, iX9⟩, by decide +kernel, tb_at 1274 (by decide +kernel) (by decide +kernel), tb_at 1275 (by decide +kernel) (by decide +kernel), _, rfl, rfl⟩
abbrev zX9_flag : zM := (yX9_flag, cX9_flag, 2, some .int, 1, 21)
set_option maxRecDepth 100000 in
theorem wX9_flag : Cond.code yX9_flag cX9_flag 2 (some .int) ∈ gt_tbl := tb_at 1284 (by rfl) (by decide +kernel)
theorem kX9_flag : zV zX9_flag 1 9 := ⟨⟨by decide +kernel, by decide +kernel, by decide +kernel, wX9_flag, iX9⟩, by decide +kernel, tb_at 1282 (by decide +kernel) (by decide +kernel), tb_at 1283 (by decide +kernel) (by decide +kernel), _, rfl, rfl⟩
abbrev zX9_flagsNear : zM := (yX9_flagsNear, cX9_flagsNear, 4, some .int, 1, 22)
set_option maxRecDepth 100000 in
theorem wX9_flagsNear : Cond.code yX9_flagsNear cX9_flagsNear 4 (some .int) ∈ gt_tbl := tb_at 1292 (by rfl) (by decide +kernel)
theorem kX9_flagsNear : zV zX9_flagsNear 1 9 := ⟨⟨by decide +kernel, by decide +kernel, by decide +kernel, wX9_flagsNear, iX9⟩, by decide +kernel, tb_at 1291 (by decide +kernel) (by decide +kernel), tb_at 71 (by decide +kernel) (by decide +kernel), _, rfl, rfl⟩
abbrev zX9_chord : zM := (yX9_chord, cX9_chord, 5, some .int, 3, 69)
set_option maxRecDepth 100000 in
theorem wX9_chord : Cond.code yX9_chord cX9_chord 5 (some .int) ∈ gt_tbl := tb_at 1288 (by rfl) (by decide +kernel)
theorem kX9_chord : zV zX9_chord 1 9 := ⟨⟨by decide +kernel, by decide +kernel, by decide +kernel, wX9_chord, iX9⟩, by decide +kernel, tb_at 1286 (by decide +kernel) (by decide +kernel), tb_at 1287 (by decide +kernel) (by decide +kernel), _, rfl, rfl⟩
abbrev zX9_undo : zM := (yX9_undo, cX9_undo, 2, some .int, 0, 0)
set_option maxRecDepth 100000 in
theorem wX9_undo : Cond.code yX9_undo cX9_undo 2 (some .int) ∈ gt_tbl := tb_at 1296 (by rfl) (by decide +kernel)
theorem kX9_undo : zV zX9_undo 0 9 := ⟨⟨by decide +kernel, by decide +kernel, by decide +kernel, wX9_undo, iX9⟩, by decide +kernel, tb_at 1294 (by decide +kernel) (by decide +kernel), tb_at 1295 (by decide +kernel) (by decide +kernel), _, rfl, rfl⟩
abbrev zX9_shown : zM := (yX9_shown, cX9_shown, 2, some .int, 2, 45)
set_option maxRecDepth 100000 in
theorem wX9_shown : Cond.code yX9_shown cX9_shown 2 (some .int) ∈ gt_tbl := tb_at 1300 (by rfl) (by decide +kernel)
theorem kX9_shown : zV zX9_shown 1 9 := ⟨⟨by decide +kernel, by decide +kernel, by decide +kernel, wX9_shown, iX9⟩, by decide +kernel, tb_at 1298 (by decide +kernel) (by decide +kernel), tb_at 1299 (by decide +kernel) (by decide +kernel), _, rfl, rfl⟩
abbrev zX9_solved : zM := (yX9_solved, cX9_solved, 1, some .boolean, 1, 22)
set_option maxRecDepth 100000 in
theorem wX9_solved : Cond.code yX9_solved cX9_solved 1 (some .boolean) ∈ gt_tbl := tb_at 1304 (by rfl) (by decide +kernel)
theorem kX9_solved : zV zX9_solved 0 9 := ⟨⟨by decide +kernel, by decide +kernel, by decide +kernel, wX9_solved, iX9⟩, by decide +kernel, tb_at 1302 (by decide +kernel) (by decide +kernel), tb_at 1303 (by decide +kernel) (by decide +kernel), _, rfl, rfl⟩
abbrev zX9_isBare : zM := (yX9_isBare, cX9_isBare, 2, some .boolean, 2, 45)
set_option maxRecDepth 100000 in
theorem wX9_isBare : Cond.code yX9_isBare cX9_isBare 2 (some .boolean) ∈ gt_tbl := tb_at 1312 (by rfl) (by decide +kernel)
theorem kX9_isBare : zV zX9_isBare 1 9 := ⟨⟨by decide +kernel, by decide +kernel, by decide +kernel, wX9_isBare, iX9⟩, by decide +kernel, tb_at 1311 (by decide +kernel) (by decide +kernel), tb_at 72 (by decide +kernel) (by decide +kernel), _, rfl, rfl⟩
abbrev zX9_clicks : zM := (yX9_clicks, cX9_clicks, 5, some .int, 3, 66)
set_option maxRecDepth 100000 in
theorem wX9_clicks : Cond.code yX9_clicks cX9_clicks 5 (some .int) ∈ gt_tbl := tb_at 1308 (by rfl) (by decide +kernel)
theorem kX9_clicks : zV zX9_clicks 0 9 := ⟨⟨by decide +kernel, by decide +kernel, by decide +kernel, wX9_clicks, iX9⟩, by decide +kernel, tb_at 1306 (by decide +kernel) (by decide +kernel), tb_at 1307 (by decide +kernel) (by decide +kernel), _, rfl, rfl⟩
abbrev zX9_isUnsure : zM := (yX9_isUnsure, cX9_isUnsure, 3, some .boolean, 1, 22)
set_option maxRecDepth 100000 in
theorem wX9_isUnsure : Cond.code yX9_isUnsure cX9_isUnsure 3 (some .boolean) ∈ gt_tbl := tb_at 1187 (by rfl) (by decide +kernel)
theorem kX9_isUnsure : zV zX9_isUnsure 2 9 := ⟨⟨by decide +kernel, by decide +kernel, by decide +kernel, wX9_isUnsure, iX9⟩, by decide +kernel, tb_at 1186 (by decide +kernel) (by decide +kernel), tb_at 52 (by decide +kernel) (by decide +kernel), _, rfl, rfl⟩
abbrev zX9_unsure : zM := (yX9_unsure, cX9_unsure, 4, some .int, 2, 44)
set_option maxRecDepth 100000 in
theorem wX9_unsure : Cond.code yX9_unsure cX9_unsure 4 (some .int) ∈ gt_tbl := tb_at 1183 (by rfl) (by decide +kernel)
theorem kX9_unsure : zV zX9_unsure 1 9 := ⟨⟨by decide +kernel, by decide +kernel, by decide +kernel, wX9_unsure, iX9⟩, by decide +kernel, tb_at 1182 (by decide +kernel) (by decide +kernel), tb_at 51 (by decide +kernel) (by decide +kernel), _, rfl, rfl⟩
abbrev zX9_due : zM := (yX9_due, cX9_due, 4, some .int, 2, 46)
set_option maxRecDepth 100000 in
theorem wX9_due : Cond.code yX9_due cX9_due 4 (some .int) ∈ gt_tbl := tb_at 1191 (by rfl) (by decide +kernel)
theorem kX9_due : zV zX9_due 1 9 := ⟨⟨by decide +kernel, by decide +kernel, by decide +kernel, wX9_due, iX9⟩, by decide +kernel, tb_at 1190 (by decide +kernel) (by decide +kernel), tb_at 53 (by decide +kernel) (by decide +kernel), _, rfl, rfl⟩
abbrev zX9_clearGiven : zM := (yX9_clearGiven, cX9_clearGiven, 2, none, 0, 0)
set_option maxRecDepth 100000 in
theorem wX9_clearGiven : Cond.code yX9_clearGiven cX9_clearGiven 2 (none) ∈ gt_tbl := tb_at 1175 (by rfl) (by decide +kernel)
theorem kX9_clearGiven : zV zX9_clearGiven 0 9 := ⟨⟨by decide +kernel, by decide +kernel, by decide +kernel, wX9_clearGiven, iX9⟩, by decide +kernel, tb_at 1174 (by decide +kernel) (by decide +kernel), tb_at 49 (by decide +kernel) (by decide +kernel), _, rfl, rfl⟩
abbrev zX9_becauseOf : zM := (yX9_becauseOf, cX9_becauseOf, 4, none, 1, 22)
set_option maxRecDepth 100000 in
theorem wX9_becauseOf : Cond.code yX9_becauseOf cX9_becauseOf 4 (none) ∈ gt_tbl := tb_at 1199 (by rfl) (by decide +kernel)
theorem kX9_becauseOf : zV zX9_becauseOf 1 9 := ⟨⟨by decide +kernel, by decide +kernel, by decide +kernel, wX9_becauseOf, iX9⟩, by decide +kernel, tb_at 1198 (by decide +kernel) (by decide +kernel), tb_at 55 (by decide +kernel) (by decide +kernel), _, rfl, rfl⟩
abbrev zX9_ruleOne : zM := (yX9_ruleOne, cX9_ruleOne, 5, some .boolean, 3, 69)
set_option maxRecDepth 100000 in
theorem wX9_ruleOne : Cond.code yX9_ruleOne cX9_ruleOne 5 (some .boolean) ∈ gt_tbl := tb_at 1179 (by rfl) (by decide +kernel)
theorem kX9_ruleOne : zV zX9_ruleOne 0 9 := ⟨⟨by decide +kernel, by decide +kernel, by decide +kernel, wX9_ruleOne, iX9⟩, by decide +kernel, tb_at 1178 (by decide +kernel) (by decide +kernel), tb_at 50 (by decide +kernel) (by decide +kernel), _, rfl, rfl⟩
abbrev zX9_isWithin : zM := (yX9_isWithin, cX9_isWithin, 5, some .boolean, 2, 44)
set_option maxRecDepth 100000 in
theorem wX9_isWithin : Cond.code yX9_isWithin cX9_isWithin 5 (some .boolean) ∈ gt_tbl := tb_at 1207 (by rfl) (by decide +kernel)
theorem kX9_isWithin : zV zX9_isWithin 2 9 := ⟨⟨by decide +kernel, by decide +kernel, by decide +kernel, wX9_isWithin, iX9⟩, by decide +kernel, tb_at 1206 (by decide +kernel) (by decide +kernel), tb_at 57 (by decide +kernel) (by decide +kernel), _, rfl, rfl⟩
abbrev zX9_ruleTwo : zM := (yX9_ruleTwo, cX9_ruleTwo, 7, some .boolean, 3, 69)
set_option maxRecDepth 100000 in
theorem wX9_ruleTwo : Cond.code yX9_ruleTwo cX9_ruleTwo 7 (some .boolean) ∈ gt_tbl := tb_at 1203 (by rfl) (by decide +kernel)
theorem kX9_ruleTwo : zV zX9_ruleTwo 0 9 := ⟨⟨by decide +kernel, by decide +kernel, by decide +kernel, wX9_ruleTwo, iX9⟩, by decide +kernel, tb_at 1202 (by decide +kernel) (by decide +kernel), tb_at 56 (by decide +kernel) (by decide +kernel), _, rfl, rfl⟩
abbrev zX9_ruleThree : zM := (yX9_ruleThree, cX9_ruleThree, 4, some .boolean, 5, 116)
set_option maxRecDepth 100000 in
theorem wX9_ruleThree : Cond.code yX9_ruleThree cX9_ruleThree 4 (some .boolean) ∈ gt_tbl := tb_at 1211 (by rfl) (by decide +kernel)
theorem kX9_ruleThree : zV zX9_ruleThree 0 9 := ⟨⟨by decide +kernel, by decide +kernel, by decide +kernel, wX9_ruleThree, iX9⟩, by decide +kernel, tb_at 1210 (by decide +kernel) (by decide +kernel), tb_at 58 (by decide +kernel) (by decide +kernel), _, rfl, rfl⟩
abbrev zX9_rule : zM := (yX9_rule, cX9_rule, 2, some .int, 6, 139)
set_option maxRecDepth 100000 in
theorem wX9_rule : Cond.code yX9_rule cX9_rule 2 (some .int) ∈ gt_tbl := tb_at 1171 (by rfl) (by decide +kernel)
theorem kX9_rule : zV zX9_rule 1 9 := ⟨⟨by decide +kernel, by decide +kernel, by decide +kernel, wX9_rule, iX9⟩, by decide +kernel, tb_at 1170 (by decide +kernel) (by decide +kernel), tb_at 48 (by decide +kernel) (by decide +kernel), _, rfl, rfl⟩
abbrev zX9_find : zM := (yX9_find, cX9_find, 4, none, 7, 160)
set_option maxRecDepth 100000 in
theorem wX9_find : Cond.code yX9_find cX9_find 4 (none) ∈ gt_tbl := tb_at 1167 (by rfl) (by decide +kernel)
theorem kX9_find : zV zX9_find 1 9 := ⟨⟨by decide +kernel, by decide +kernel, by decide +kernel, wX9_find, iX9⟩, by decide +kernel, tb_at 1166 (by decide +kernel) (by decide +kernel), tb_at 47 (by decide +kernel) (by decide +kernel), _, rfl, rfl⟩
abbrev zX9_hint : zM := (yX9_hint, cX9_hint, 3, some .int, 8, 183)
set_option maxRecDepth 100000 in
theorem wX9_hint : Cond.code yX9_hint cX9_hint 3 (some .int) ∈ gt_tbl := tb_at 1316 (by rfl) (by decide +kernel)
theorem kX9_hint : zV zX9_hint 1 9 := ⟨⟨by decide +kernel, by decide +kernel, by decide +kernel, wX9_hint, iX9⟩, by decide +kernel, tb_at 1314 (by decide +kernel) (by decide +kernel), tb_at 1315 (by decide +kernel) (by decide +kernel), _, rfl, rfl⟩
abbrev zX9_kind : zM := (yX9_kind, cX9_kind, 1, some .int, 0, 0)
set_option maxRecDepth 100000 in
theorem wX9_kind : Cond.code yX9_kind cX9_kind 1 (some .int) ∈ gt_tbl := tb_at 1320 (by rfl) (by decide +kernel)
theorem kX9_kind : zV zX9_kind 0 9 := ⟨⟨by decide +kernel, by decide +kernel, by decide +kernel, wX9_kind, iX9⟩, by decide +kernel, tb_at 1318 (by decide +kernel) (by decide +kernel), tb_at 1319 (by decide +kernel) (by decide +kernel), _, rfl, rfl⟩
abbrev zX9_reason : zM := (yX9_reason, cX9_reason, 5, some .int, 0, 0)
set_option maxRecDepth 100000 in
theorem wX9_reason : Cond.code yX9_reason cX9_reason 5 (some .int) ∈ gt_tbl := tb_at 1324 (by rfl) (by decide +kernel)
theorem kX9_reason : zV zX9_reason 1 9 := ⟨⟨by decide +kernel, by decide +kernel, by decide +kernel, wX9_reason, iX9⟩, by decide +kernel, tb_at 1322 (by decide +kernel) (by decide +kernel), tb_at 1323 (by decide +kernel) (by decide +kernel), _, rfl, rfl⟩
abbrev zX9_total : zM := (yX9_total, cX9_total, 1, some .boolean, 0, 0)
set_option maxRecDepth 100000 in
theorem wX9_total : Cond.code yX9_total cX9_total 1 (some .boolean) ∈ gt_tbl := tb_at 1328 (by rfl) (by decide +kernel)
theorem kX9_total : zV zX9_total 0 9 := ⟨⟨by decide +kernel, by decide +kernel, by decide +kernel, wX9_total, iX9⟩, by decide +kernel, tb_at 1326 (by decide +kernel) (by decide +kernel), tb_at 1327 (by decide +kernel) (by decide +kernel), _, rfl, rfl⟩
abbrev zX9_take : zM := (yX9_take, cX9_take, 3, some .int, 0, 0)
set_option maxRecDepth 100000 in
theorem wX9_take : Cond.code yX9_take cX9_take 3 (some .int) ∈ gt_tbl := tb_at 1332 (by rfl) (by decide +kernel)
theorem kX9_take : zV zX9_take 0 9 := ⟨⟨by decide +kernel, by decide +kernel, by decide +kernel, wX9_take, iX9⟩, by decide +kernel, tb_at 1330 (by decide +kernel) (by decide +kernel), tb_at 1331 (by decide +kernel) (by decide +kernel), _, rfl, rfl⟩
abbrev zX9_change : zM := (yX9_change, cX9_change, 4, some .int, 0, 0)
set_option maxRecDepth 100000 in
theorem wX9_change : Cond.code yX9_change cX9_change 4 (some .int) ∈ gt_tbl := tb_at 1340 (by rfl) (by decide +kernel)
theorem kX9_change : zV zX9_change 2 9 := ⟨⟨by decide +kernel, by decide +kernel, by decide +kernel, wX9_change, iX9⟩, by decide +kernel, tb_at 1339 (by decide +kernel) (by decide +kernel), tb_at 73 (by decide +kernel) (by decide +kernel), _, rfl, rfl⟩
abbrev zX9_tell : zM := (yX9_tell, cX9_tell, 3, some .int, 1, 23)
set_option maxRecDepth 100000 in
theorem wX9_tell : Cond.code yX9_tell cX9_tell 3 (some .int) ∈ gt_tbl := tb_at 1336 (by rfl) (by decide +kernel)
theorem kX9_tell : zV zX9_tell 2 9 := ⟨⟨by decide +kernel, by decide +kernel, by decide +kernel, wX9_tell, iX9⟩, by decide +kernel, tb_at 1334 (by decide +kernel) (by decide +kernel), tb_at 1335 (by decide +kernel) (by decide +kernel), _, rfl, rfl⟩
abbrev zX9_name : zM := (yX9_name, cX9_name, 2, some .int, 1, 23)
set_option maxRecDepth 100000 in
theorem wX9_name : Cond.code yX9_name cX9_name 2 (some .int) ∈ gt_tbl := tb_at 1344 (by rfl) (by decide +kernel)
theorem kX9_name : zV zX9_name 1 9 := ⟨⟨by decide +kernel, by decide +kernel, by decide +kernel, wX9_name, iX9⟩, by decide +kernel, tb_at 1342 (by decide +kernel) (by decide +kernel), tb_at 1343 (by decide +kernel) (by decide +kernel), _, rfl, rfl⟩
abbrev zX9_bits : zM := (yX9_bits, cX9_bits, 3, some .int, 0, 0)
set_option maxRecDepth 100000 in
theorem wX9_bits : Cond.code yX9_bits cX9_bits 3 (some .int) ∈ gt_tbl := tb_at 1355 (by rfl) (by decide +kernel)
theorem kX9_bits : zS zX9_bits 1 := ⟨⟨by decide +kernel, by decide +kernel, by decide +kernel, wX9_bits, iX9⟩, by decide +kernel, tb_at 1354 (by decide +kernel) (by decide +kernel)⟩
abbrev zX9_spokenOf : zM := (yX9_spokenOf, cX9_spokenOf, 6, some .int, 1, 22)
set_option maxRecDepth 100000 in
theorem wX9_spokenOf : Cond.code yX9_spokenOf cX9_spokenOf 6 (some .int) ∈ gt_tbl := tb_at 1352 (by rfl) (by decide +kernel)
theorem kX9_spokenOf : zV zX9_spokenOf 1 9 := ⟨⟨by decide +kernel, by decide +kernel, by decide +kernel, wX9_spokenOf, iX9⟩, by decide +kernel, tb_at 1351 (by decide +kernel) (by decide +kernel), tb_at 74 (by decide +kernel) (by decide +kernel), _, rfl, rfl⟩
abbrev zX9_check : zM := (yX9_check, cX9_check, 10, some .int, 2, 47)
set_option maxRecDepth 100000 in
theorem wX9_check : Cond.code yX9_check cX9_check 10 (some .int) ∈ gt_tbl := tb_at 1348 (by rfl) (by decide +kernel)
theorem kX9_check : zV zX9_check 2 9 := ⟨⟨by decide +kernel, by decide +kernel, by decide +kernel, wX9_check, iX9⟩, by decide +kernel, tb_at 1346 (by decide +kernel) (by decide +kernel), tb_at 1347 (by decide +kernel) (by decide +kernel), _, rfl, rfl⟩
abbrev zX9_findParts : zM := (yX9_findParts, cX9_findParts, 6, some .boolean, 2, 46)
set_option maxRecDepth 100000 in
theorem wX9_findParts : Cond.code yX9_findParts cX9_findParts 6 (some .boolean) ∈ gt_tbl := tb_at 1215 (by rfl) (by decide +kernel)
theorem kX9_findParts : zV zX9_findParts 0 9 := ⟨⟨by decide +kernel, by decide +kernel, by decide +kernel, wX9_findParts, iX9⟩, by decide +kernel, tb_at 1214 (by decide +kernel) (by decide +kernel), tb_at 59 (by decide +kernel) (by decide +kernel), _, rfl, rfl⟩
abbrev zX9_fits : zM := (yX9_fits, cX9_fits, 6, some .boolean, 2, 46)
set_option maxRecDepth 100000 in
theorem wX9_fits : Cond.code yX9_fits cX9_fits 6 (some .boolean) ∈ gt_tbl := tb_at 1227 (by rfl) (by decide +kernel)
theorem kX9_fits : zV zX9_fits 1 9 := ⟨⟨by decide +kernel, by decide +kernel, by decide +kernel, wX9_fits, iX9⟩, by decide +kernel, tb_at 1226 (by decide +kernel) (by decide +kernel), tb_at 62 (by decide +kernel) (by decide +kernel), _, rfl, rfl⟩
abbrev zX9_countOne : zM := (yX9_countOne, cX9_countOne, 5, none, 0, 0)
set_option maxRecDepth 100000 in
theorem wX9_countOne : Cond.code yX9_countOne cX9_countOne 5 (none) ∈ gt_tbl := tb_at 1231 (by rfl) (by decide +kernel)
theorem kX9_countOne : zV zX9_countOne 2 9 := ⟨⟨by decide +kernel, by decide +kernel, by decide +kernel, wX9_countOne, iX9⟩, by decide +kernel, tb_at 1230 (by decide +kernel) (by decide +kernel), tb_at 63 (by decide +kernel) (by decide +kernel), _, rfl, rfl⟩
abbrev zX9_tryPart : zM := (yX9_tryPart, cX9_tryPart, 5, none, 3, 71)
set_option maxRecDepth 100000 in
theorem wX9_tryPart : Cond.code yX9_tryPart cX9_tryPart 5 (none) ∈ gt_tbl := tb_at 1223 (by rfl) (by decide +kernel)
theorem kX9_tryPart : zV zX9_tryPart 1 9 := ⟨⟨by decide +kernel, by decide +kernel, by decide +kernel, wX9_tryPart, iX9⟩, by decide +kernel, tb_at 1222 (by decide +kernel) (by decide +kernel), tb_at 61 (by decide +kernel) (by decide +kernel), _, rfl, rfl⟩
abbrev zX9_findWays : zM := (yX9_findWays, cX9_findWays, 2, none, 4, 95)
set_option maxRecDepth 100000 in
theorem wX9_findWays : Cond.code yX9_findWays cX9_findWays 2 (none) ∈ gt_tbl := tb_at 1219 (by rfl) (by decide +kernel)
theorem kX9_findWays : zV zX9_findWays 0 9 := ⟨⟨by decide +kernel, by decide +kernel, by decide +kernel, wX9_findWays, iX9⟩, by decide +kernel, tb_at 1218 (by decide +kernel) (by decide +kernel), tb_at 60 (by decide +kernel) (by decide +kernel), _, rfl, rfl⟩
abbrev zX9_sumParts : zM := (yX9_sumParts, cX9_sumParts, 4, none, 1, 29)
set_option maxRecDepth 100000 in
theorem wX9_sumParts : Cond.code yX9_sumParts cX9_sumParts 4 (none) ∈ gt_tbl := tb_at 1239 (by rfl) (by decide +kernel)
theorem kX9_sumParts : zV zX9_sumParts 2 9 := ⟨⟨by decide +kernel, by decide +kernel, by decide +kernel, wX9_sumParts, iX9⟩, by decide +kernel, tb_at 1238 (by decide +kernel) (by decide +kernel), tb_at 65 (by decide +kernel) (by decide +kernel), _, rfl, rfl⟩
abbrev zX9_addPart : zM := (yX9_addPart, cX9_addPart, 10, none, 0, 0)
set_option maxRecDepth 100000 in
theorem wX9_addPart : Cond.code yX9_addPart cX9_addPart 10 (none) ∈ gt_tbl := tb_at 1243 (by rfl) (by decide +kernel)
theorem kX9_addPart : zV zX9_addPart 3 9 := ⟨⟨by decide +kernel, by decide +kernel, by decide +kernel, wX9_addPart, iX9⟩, by decide +kernel, tb_at 1242 (by decide +kernel) (by decide +kernel), tb_at 66 (by decide +kernel) (by decide +kernel), _, rfl, rfl⟩
abbrev zX9_mineLeft : zM := (yX9_mineLeft, cX9_mineLeft, 1, some .int, 1, 23)
set_option maxRecDepth 100000 in
theorem wX9_mineLeft : Cond.code yX9_mineLeft cX9_mineLeft 1 (some .int) ∈ gt_tbl := tb_at 1248 (by rfl) (by decide +kernel)
theorem kX9_mineLeft : zV zX9_mineLeft 0 9 := ⟨⟨by decide +kernel, by decide +kernel, by decide +kernel, wX9_mineLeft, iX9⟩, by decide +kernel, tb_at 1247 (by decide +kernel) (by decide +kernel), tb_at 67 (by decide +kernel) (by decide +kernel), _, rfl, rfl⟩
abbrev zX9_canBe : zM := (yX9_canBe, cX9_canBe, 11, some .boolean, 2, 52)
set_option maxRecDepth 100000 in
theorem wX9_canBe : Cond.code yX9_canBe cX9_canBe 11 (some .boolean) ∈ gt_tbl := tb_at 1235 (by rfl) (by decide +kernel)
theorem kX9_canBe : zV zX9_canBe 2 9 := ⟨⟨by decide +kernel, by decide +kernel, by decide +kernel, wX9_canBe, iX9⟩, by decide +kernel, tb_at 1234 (by decide +kernel) (by decide +kernel), tb_at 64 (by decide +kernel) (by decide +kernel), _, rfl, rfl⟩
abbrev zX9_findChoices : zM := (yX9_findChoices, cX9_findChoices, 4, none, 0, 0)
set_option maxRecDepth 100000 in
theorem wX9_findChoices : Cond.code yX9_findChoices cX9_findChoices 4 (none) ∈ gt_tbl := tb_at 1367 (by rfl) (by decide +kernel)
theorem kX9_findChoices : zV zX9_findChoices 1 9 := ⟨⟨by decide +kernel, by decide +kernel, by decide +kernel, wX9_findChoices, iX9⟩, by decide +kernel, tb_at 1366 (by decide +kernel) (by decide +kernel), tb_at 76 (by decide +kernel) (by decide +kernel), _, rfl, rfl⟩
abbrev zX9_together : zM := (yX9_together, cX9_together, 7, some .int, 1, 23)
set_option maxRecDepth 100000 in
theorem wX9_together : Cond.code yX9_together cX9_together 7 (some .int) ∈ gt_tbl := tb_at 1363 (by rfl) (by decide +kernel)
theorem kX9_together : zV zX9_together 2 9 := ⟨⟨by decide +kernel, by decide +kernel, by decide +kernel, wX9_together, iX9⟩, by decide +kernel, tb_at 1362 (by decide +kernel) (by decide +kernel), tb_at 75 (by decide +kernel) (by decide +kernel), _, rfl, rfl⟩
abbrev zX9_ways : zM := (yX9_ways, cX9_ways, 1, some .int, 5, 116)
set_option maxRecDepth 100000 in
theorem wX9_ways : Cond.code yX9_ways cX9_ways 1 (some .int) ∈ gt_tbl := tb_at 1359 (by rfl) (by decide +kernel)
theorem kX9_ways : zV zX9_ways 0 9 := ⟨⟨by decide +kernel, by decide +kernel, by decide +kernel, wX9_ways, iX9⟩, by decide +kernel, tb_at 1357 (by decide +kernel) (by decide +kernel), tb_at 1358 (by decide +kernel) (by decide +kernel), _, rfl, rfl⟩
abbrev zX9_with : zM := (yX9_with, cX9_with, 3, some .int, 5, 116)
set_option maxRecDepth 100000 in
theorem wX9_with : Cond.code yX9_with cX9_with 3 (some .int) ∈ gt_tbl := tb_at 1371 (by rfl) (by decide +kernel)
theorem kX9_with : zV zX9_with 1 9 := ⟨⟨by decide +kernel, by decide +kernel, by decide +kernel, wX9_with, iX9⟩, by decide +kernel, tb_at 1369 (by decide +kernel) (by decide +kernel), tb_at 1370 (by decide +kernel) (by decide +kernel), _, rfl, rfl⟩
abbrev zX0_clear : zM := (yX0_clear, cX0_clear, 1, none, 0, 0)
set_option maxRecDepth 100000 in
theorem wX0_clear : Cond.code yX0_clear cX0_clear 1 (none) ∈ gt_tbl := tb_at 455 (by rfl) (by decide +kernel)
theorem iX0 : Cond.initialized "MineDesk$Bits" ∈ gt_tbl := tb_at 81 (by decide +kernel) (by decide +kernel)
theorem kX0_clear : zV zX0_clear 0 0 := ⟨⟨by decide +kernel, by decide +kernel, by decide +kernel, wX0_clear, iX0⟩, by decide +kernel, tb_at 453 (by decide +kernel) (by decide +kernel), tb_at 454 (by decide +kernel) (by decide +kernel), _, rfl, rfl⟩
abbrev zX0_copy : zM := (yX0_copy, cX0_copy, 2, none, 0, 0)
set_option maxRecDepth 100000 in
theorem wX0_copy : Cond.code yX0_copy cX0_copy 2 (none) ∈ gt_tbl := tb_at 467 (by rfl) (by decide +kernel)
theorem kX0_copy : zV zX0_copy 1 0 := ⟨⟨by decide +kernel, by decide +kernel, by decide +kernel, wX0_copy, iX0⟩, by decide +kernel, tb_at 465 (by decide +kernel) (by decide +kernel), tb_at 466 (by decide +kernel) (by decide +kernel), _, rfl, rfl⟩
abbrev zX0_has : zM := (yX0_has, cX0_has, 2, some .boolean, 0, 0)
set_option maxRecDepth 100000 in
theorem wX0_has : Cond.code yX0_has cX0_has 2 (some .boolean) ∈ gt_tbl := tb_at 530 (by rfl) (by decide +kernel)
theorem kX0_has : zV zX0_has 1 0 := ⟨⟨by decide +kernel, by decide +kernel, by decide +kernel, wX0_has, iX0⟩, by decide +kernel, tb_at 528 (by decide +kernel) (by decide +kernel), tb_at 529 (by decide +kernel) (by decide +kernel), _, rfl, rfl⟩
abbrev zX0_add : zM := (yX0_add, cX0_add, 2, none, 0, 0)
set_option maxRecDepth 100000 in
theorem wX0_add : Cond.code yX0_add cX0_add 2 (none) ∈ gt_tbl := tb_at 459 (by rfl) (by decide +kernel)
theorem kX0_add : zV zX0_add 1 0 := ⟨⟨by decide +kernel, by decide +kernel, by decide +kernel, wX0_add, iX0⟩, by decide +kernel, tb_at 457 (by decide +kernel) (by decide +kernel), tb_at 458 (by decide +kernel) (by decide +kernel), _, rfl, rfl⟩
abbrev zX0_drop : zM := (yX0_drop, cX0_drop, 2, none, 0, 0)
set_option maxRecDepth 100000 in
theorem wX0_drop : Cond.code yX0_drop cX0_drop 2 (none) ∈ gt_tbl := tb_at 539 (by rfl) (by decide +kernel)
theorem kX0_drop : zV zX0_drop 1 0 := ⟨⟨by decide +kernel, by decide +kernel, by decide +kernel, wX0_drop, iX0⟩, by decide +kernel, tb_at 537 (by decide +kernel) (by decide +kernel), tb_at 538 (by decide +kernel) (by decide +kernel), _, rfl, rfl⟩
abbrev zX0_put : zM := (yX0_put, cX0_put, 3, none, 1, 21)
set_option maxRecDepth 100000 in
theorem wX0_put : Cond.code yX0_put cX0_put 3 (none) ∈ gt_tbl := tb_at 534 (by rfl) (by decide +kernel)
theorem kX0_put : zV zX0_put 2 0 := ⟨⟨by decide +kernel, by decide +kernel, by decide +kernel, wX0_put, iX0⟩, by decide +kernel, tb_at 532 (by decide +kernel) (by decide +kernel), tb_at 533 (by decide +kernel) (by decide +kernel), _, rfl, rfl⟩
abbrev zX0_join : zM := (yX0_join, cX0_join, 2, none, 0, 0)
set_option maxRecDepth 100000 in
theorem wX0_join : Cond.code yX0_join cX0_join 2 (none) ∈ gt_tbl := tb_at 756 (by rfl) (by decide +kernel)
theorem kX0_join : zV zX0_join 1 0 := ⟨⟨by decide +kernel, by decide +kernel, by decide +kernel, wX0_join, iX0⟩, by decide +kernel, tb_at 754 (by decide +kernel) (by decide +kernel), tb_at 755 (by decide +kernel) (by decide +kernel), _, rfl, rfl⟩
abbrev zX0_meet : zM := (yX0_meet, cX0_meet, 2, none, 0, 0)
set_option maxRecDepth 100000 in
theorem wX0_meet : Cond.code yX0_meet cX0_meet 2 (none) ∈ gt_tbl := tb_at 765 (by rfl) (by decide +kernel)
theorem kX0_meet : zV zX0_meet 1 0 := ⟨⟨by decide +kernel, by decide +kernel, by decide +kernel, wX0_meet, iX0⟩, by decide +kernel, tb_at 763 (by decide +kernel) (by decide +kernel), tb_at 764 (by decide +kernel) (by decide +kernel), _, rfl, rfl⟩
abbrev zX0_leave : zM := (yX0_leave, cX0_leave, 2, none, 0, 0)
set_option maxRecDepth 100000 in
theorem wX0_leave : Cond.code yX0_leave cX0_leave 2 (none) ∈ gt_tbl := tb_at 752 (by rfl) (by decide +kernel)
theorem kX0_leave : zV zX0_leave 1 0 := ⟨⟨by decide +kernel, by decide +kernel, by decide +kernel, wX0_leave, iX0⟩, by decide +kernel, tb_at 750 (by decide +kernel) (by decide +kernel), tb_at 751 (by decide +kernel) (by decide +kernel), _, rfl, rfl⟩
abbrev zX0_joinMoved : zM := (yX0_joinMoved, cX0_joinMoved, 3, none, 0, 0)
set_option maxRecDepth 100000 in
theorem wX0_joinMoved : Cond.code yX0_joinMoved cX0_joinMoved 3 (none) ∈ gt_tbl := tb_at 731 (by rfl) (by decide +kernel)
theorem kX0_joinMoved : zV zX0_joinMoved 2 0 := ⟨⟨by decide +kernel, by decide +kernel, by decide +kernel, wX0_joinMoved, iX0⟩, by decide +kernel, tb_at 729 (by decide +kernel) (by decide +kernel), tb_at 730 (by decide +kernel) (by decide +kernel), _, rfl, rfl⟩
abbrev zX0_size : zM := (yX0_size, cX0_size, 1, some .int, 1, 21)
set_option maxRecDepth 100000 in
theorem wX0_size : Cond.code yX0_size cX0_size 1 (some .int) ∈ gt_tbl := tb_at 520 (by rfl) (by decide +kernel)
theorem kX0_size : zV zX0_size 0 0 := ⟨⟨by decide +kernel, by decide +kernel, by decide +kernel, wX0_size, iX0⟩, by decide +kernel, tb_at 518 (by decide +kernel) (by decide +kernel), tb_at 519 (by decide +kernel) (by decide +kernel), _, rfl, rfl⟩
abbrev zX0_least : zM := (yX0_least, cX0_least, 1, some .int, 2, 42)
set_option maxRecDepth 100000 in
theorem wX0_least : Cond.code yX0_least cX0_least 1 (some .int) ∈ gt_tbl := tb_at 769 (by rfl) (by decide +kernel)
theorem kX0_least : zV zX0_least 0 0 := ⟨⟨by decide +kernel, by decide +kernel, by decide +kernel, wX0_least, iX0⟩, by decide +kernel, tb_at 767 (by decide +kernel) (by decide +kernel), tb_at 768 (by decide +kernel) (by decide +kernel), _, rfl, rfl⟩
abbrev zX0_nth : zM := (yX0_nth, cX0_nth, 5, some .int, 1, 21)
set_option maxRecDepth 100000 in
theorem wX0_nth : Cond.code yX0_nth cX0_nth 5 (some .int) ∈ gt_tbl := tb_at 562 (by rfl) (by decide +kernel)
theorem kX0_nth : zV zX0_nth 2 0 := ⟨⟨by decide +kernel, by decide +kernel, by decide +kernel, wX0_nth, iX0⟩, by decide +kernel, tb_at 560 (by decide +kernel) (by decide +kernel), tb_at 561 (by decide +kernel) (by decide +kernel), _, rfl, rfl⟩
abbrev zX0_lowest : zM := (yX0_lowest, cX0_lowest, 2, some .int, 1, 21)
set_option maxRecDepth 100000 in
theorem wX0_lowest : Cond.code yX0_lowest cX0_lowest 2 (some .int) ∈ gt_tbl := tb_at 638 (by rfl) (by decide +kernel)
theorem kX0_lowest : zS zX0_lowest 1 := ⟨⟨by decide +kernel, by decide +kernel, by decide +kernel, wX0_lowest, iX0⟩, by decide +kernel, tb_at 637 (by decide +kernel) (by decide +kernel)⟩
abbrev zX1_start : zM := (yX1_start, cX1_start, 5, none, 4, 99)
set_option maxRecDepth 100000 in
theorem wX1_start : Cond.code yX1_start cX1_start 5 (none) ∈ gt_tbl := tb_at 428 (by rfl) (by decide +kernel)
theorem iX1 : Cond.initialized "MineDesk$Board" ∈ gt_tbl := tb_at 79 (by decide +kernel) (by decide +kernel)
theorem kX1_start : zV zX1_start 3 1 := ⟨⟨by decide +kernel, by decide +kernel, by decide +kernel, wX1_start, iX1⟩, by decide +kernel, tb_at 426 (by decide +kernel) (by decide +kernel), tb_at 427 (by decide +kernel) (by decide +kernel), _, rfl, rfl⟩
abbrev zX1_hideAll : zM := (yX1_hideAll, cX1_hideAll, 1, none, 1, 21)
set_option maxRecDepth 100000 in
theorem wX1_hideAll : Cond.code yX1_hideAll cX1_hideAll 1 (none) ∈ gt_tbl := tb_at 463 (by rfl) (by decide +kernel)
theorem kX1_hideAll : zV zX1_hideAll 0 1 := ⟨⟨by decide +kernel, by decide +kernel, by decide +kernel, wX1_hideAll, iX1⟩, by decide +kernel, tb_at 461 (by decide +kernel) (by decide +kernel), tb_at 462 (by decide +kernel) (by decide +kernel), _, rfl, rfl⟩
abbrev zX1_number : zM := (yX1_number, cX1_number, 2, some .int, 2, 43)
set_option maxRecDepth 100000 in
theorem wX1_number : Cond.code yX1_number cX1_number 2 (some .int) ∈ gt_tbl := tb_at 587 (by rfl) (by decide +kernel)
theorem kX1_number : zV zX1_number 1 1 := ⟨⟨by decide +kernel, by decide +kernel, by decide +kernel, wX1_number, iX1⟩, by decide +kernel, tb_at 585 (by decide +kernel) (by decide +kernel), tb_at 586 (by decide +kernel) (by decide +kernel), _, rfl, rfl⟩
abbrev zX1_due : zM := (yX1_due, cX1_due, 7, some .int, 1, 21)
set_option maxRecDepth 100000 in
theorem wX1_due : Cond.code yX1_due cX1_due 7 (some .int) ∈ gt_tbl := tb_at 619 (by rfl) (by decide +kernel)
theorem kX1_due : zV zX1_due 2 1 := ⟨⟨by decide +kernel, by decide +kernel, by decide +kernel, wX1_due, iX1⟩, by decide +kernel, tb_at 617 (by decide +kernel) (by decide +kernel), tb_at 618 (by decide +kernel) (by decide +kernel), _, rfl, rfl⟩
abbrev zX1_minesLeft : zM := (yX1_minesLeft, cX1_minesLeft, 1, some .int, 2, 41)
set_option maxRecDepth 100000 in
theorem wX1_minesLeft : Cond.code yX1_minesLeft cX1_minesLeft 1 (some .int) ∈ gt_tbl := tb_at 721 (by rfl) (by decide +kernel)
theorem kX1_minesLeft : zV zX1_minesLeft 0 1 := ⟨⟨by decide +kernel, by decide +kernel, by decide +kernel, wX1_minesLeft, iX1⟩, by decide +kernel, tb_at 719 (by decide +kernel) (by decide +kernel), tb_at 720 (by decide +kernel) (by decide +kernel), _, rfl, rfl⟩
abbrev zX1_marked : zM := (yX1_marked, cX1_marked, 2, some .int, 2, 43)
set_option maxRecDepth 100000 in
theorem wX1_marked : Cond.code yX1_marked cX1_marked 2 (some .int) ∈ gt_tbl := tb_at 830 (by rfl) (by decide +kernel)
theorem kX1_marked : zV zX1_marked 1 1 := ⟨⟨by decide +kernel, by decide +kernel, by decide +kernel, wX1_marked, iX1⟩, by decide +kernel, tb_at 828 (by decide +kernel) (by decide +kernel), tb_at 829 (by decide +kernel) (by decide +kernel), _, rfl, rfl⟩
abbrev zX1_cleared : zM := (yX1_cleared, cX1_cleared, 1, some .boolean, 0, 0)
set_option maxRecDepth 100000 in
theorem wX1_cleared : Cond.code yX1_cleared cX1_cleared 1 (some .boolean) ∈ gt_tbl := tb_at 605 (by rfl) (by decide +kernel)
theorem kX1_cleared : zV zX1_cleared 0 1 := ⟨⟨by decide +kernel, by decide +kernel, by decide +kernel, wX1_cleared, iX1⟩, by decide +kernel, tb_at 603 (by decide +kernel) (by decide +kernel), tb_at 604 (by decide +kernel) (by decide +kernel), _, rfl, rfl⟩
abbrev zX1_uncover : zM := (yX1_uncover, cX1_uncover, 5, none, 3, 67)
set_option maxRecDepth 100000 in
theorem wX1_uncover : Cond.code yX1_uncover cX1_uncover 5 (none) ∈ gt_tbl := tb_at 577 (by rfl) (by decide +kernel)
theorem kX1_uncover : zV zX1_uncover 1 1 := ⟨⟨by decide +kernel, by decide +kernel, by decide +kernel, wX1_uncover, iX1⟩, by decide +kernel, tb_at 575 (by decide +kernel) (by decide +kernel), tb_at 576 (by decide +kernel) (by decide +kernel), _, rfl, rfl⟩
abbrev zX1_showAround : zM := (yX1_showAround, cX1_showAround, 6, some .int, 2, 42)
set_option maxRecDepth 100000 in
theorem wX1_showAround : Cond.code yX1_showAround cX1_showAround 6 (some .int) ∈ gt_tbl := tb_at 596 (by rfl) (by decide +kernel)
theorem kX1_showAround : zV zX1_showAround 2 1 := ⟨⟨by decide +kernel, by decide +kernel, by decide +kernel, wX1_showAround, iX1⟩, by decide +kernel, tb_at 595 (by decide +kernel) (by decide +kernel), tb_at 8 (by decide +kernel) (by decide +kernel), _, rfl, rfl⟩
abbrev zX1_show : zM := (yX1_show, cX1_show, 2, none, 1, 21)
set_option maxRecDepth 100000 in
theorem wX1_show : Cond.code yX1_show cX1_show 2 (none) ∈ gt_tbl := tb_at 583 (by rfl) (by decide +kernel)
theorem kX1_show : zV zX1_show 1 1 := ⟨⟨by decide +kernel, by decide +kernel, by decide +kernel, wX1_show, iX1⟩, by decide +kernel, tb_at 582 (by decide +kernel) (by decide +kernel), tb_at 7 (by decide +kernel) (by decide +kernel), _, rfl, rfl⟩
abbrev zX1_uncoverAround : zM := (yX1_uncoverAround, cX1_uncoverAround, 4, none, 4, 91)
set_option maxRecDepth 100000 in
theorem wX1_uncoverAround : Cond.code yX1_uncoverAround cX1_uncoverAround 4 (none) ∈ gt_tbl := tb_at 834 (by rfl) (by decide +kernel)
theorem kX1_uncoverAround : zV zX1_uncoverAround 1 1 := ⟨⟨by decide +kernel, by decide +kernel, by decide +kernel, wX1_uncoverAround, iX1⟩, by decide +kernel, tb_at 832 (by decide +kernel) (by decide +kernel), tb_at 833 (by decide +kernel) (by decide +kernel), _, rfl, rfl⟩
abbrev zX1_leastOpenings : zM := (yX1_leastOpenings, cX1_leastOpenings, 4, some .int, 3, 69)
set_option maxRecDepth 100000 in
theorem wX1_leastOpenings : Cond.code yX1_leastOpenings cX1_leastOpenings 4 (some .int) ∈ gt_tbl := tb_at 862 (by rfl) (by decide +kernel)
theorem kX1_leastOpenings : zV zX1_leastOpenings 0 1 := ⟨⟨by decide +kernel, by decide +kernel, by decide +kernel, wX1_leastOpenings, iX1⟩, by decide +kernel, tb_at 860 (by decide +kernel) (by decide +kernel), tb_at 861 (by decide +kernel) (by decide +kernel), _, rfl, rfl⟩
abbrev zX1_isQuiet : zM := (yX1_isQuiet, cX1_isQuiet, 2, some .boolean, 1, 22)
set_option maxRecDepth 100000 in
theorem wX1_isQuiet : Cond.code yX1_isQuiet cX1_isQuiet 2 (some .boolean) ∈ gt_tbl := tb_at 866 (by rfl) (by decide +kernel)
theorem kX1_isQuiet : zV zX1_isQuiet 1 1 := ⟨⟨by decide +kernel, by decide +kernel, by decide +kernel, wX1_isQuiet, iX1⟩, by decide +kernel, tb_at 865 (by decide +kernel) (by decide +kernel), tb_at 25 (by decide +kernel) (by decide +kernel), _, rfl, rfl⟩
abbrev zX1_heapUp : zM := (yX1_heapUp, cX1_heapUp, 7, none, 2, 43)
set_option maxRecDepth 100000 in
theorem wX1_heapUp : Cond.code yX1_heapUp cX1_heapUp 7 (none) ∈ gt_tbl := tb_at 871 (by rfl) (by decide +kernel)
theorem kX1_heapUp : zV zX1_heapUp 1 1 := ⟨⟨by decide +kernel, by decide +kernel, by decide +kernel, wX1_heapUp, iX1⟩, by decide +kernel, tb_at 870 (by decide +kernel) (by decide +kernel), tb_at 26 (by decide +kernel) (by decide +kernel), _, rfl, rfl⟩
abbrev zX2_fits : zM := (yX2_fits, cX2_fits, 4, some .boolean, 0, 0)
set_option maxRecDepth 100000 in
theorem wX2_fits : Cond.code yX2_fits cX2_fits 4 (some .boolean) ∈ gt_tbl := tb_at 499 (by rfl) (by decide +kernel)
theorem iX2 : Cond.initialized "MineDesk$Grid" ∈ gt_tbl := tb_at 80 (by decide +kernel) (by decide +kernel)
theorem kX2_fits : zS zX2_fits 3 := ⟨⟨by decide +kernel, by decide +kernel, by decide +kernel, wX2_fits, iX2⟩, by decide +kernel, tb_at 498 (by decide +kernel) (by decide +kernel)⟩
abbrev zX2_holds : zM := (yX2_holds, cX2_holds, 2, some .boolean, 0, 0)
set_option maxRecDepth 100000 in
theorem wX2_holds : Cond.code yX2_holds cX2_holds 2 (some .boolean) ∈ gt_tbl := tb_at 516 (by rfl) (by decide +kernel)
theorem kX2_holds : zV zX2_holds 1 2 := ⟨⟨by decide +kernel, by decide +kernel, by decide +kernel, wX2_holds, iX2⟩, by decide +kernel, tb_at 514 (by decide +kernel) (by decide +kernel), tb_at 515 (by decide +kernel) (by decide +kernel), _, rfl, rfl⟩
abbrev zX2_lay : zM := (yX2_lay, cX2_lay, 6, none, 3, 74)
set_option maxRecDepth 100000 in
theorem wX2_lay : Cond.code yX2_lay cX2_lay 6 (none) ∈ gt_tbl := tb_at 432 (by rfl) (by decide +kernel)
theorem kX2_lay : zV zX2_lay 3 2 := ⟨⟨by decide +kernel, by decide +kernel, by decide +kernel, wX2_lay, iX2⟩, by decide +kernel, tb_at 430 (by decide +kernel) (by decide +kernel), tb_at 431 (by decide +kernel) (by decide +kernel), _, rfl, rfl⟩
abbrev zX2_layCell : zM := (yX2_layCell, cX2_layCell, 8, none, 2, 47)
set_option maxRecDepth 100000 in
theorem wX2_layCell : Cond.code yX2_layCell cX2_layCell 8 (none) ∈ gt_tbl := tb_at 436 (by rfl) (by decide +kernel)
theorem kX2_layCell : zV zX2_layCell 2 2 := ⟨⟨by decide +kernel, by decide +kernel, by decide +kernel, wX2_layCell, iX2⟩, by decide +kernel, tb_at 435 (by decide +kernel) (by decide +kernel), tb_at 0 (by decide +kernel) (by decide +kernel), _, rfl, rfl⟩
abbrev zX2_at : zM := (yX2_at, cX2_at, 7, some .int, 1, 21)
set_option maxRecDepth 100000 in
theorem wX2_at : Cond.code yX2_at cX2_at 7 (some .int) ∈ gt_tbl := tb_at 440 (by rfl) (by decide +kernel)
theorem kX2_at : zV zX2_at 2 2 := ⟨⟨by decide +kernel, by decide +kernel, by decide +kernel, wX2_at, iX2⟩, by decide +kernel, tb_at 439 (by decide +kernel) (by decide +kernel), tb_at 1 (by decide +kernel) (by decide +kernel), _, rfl, rfl⟩
abbrev zX2_wrap : zM := (yX2_wrap, cX2_wrap, 2, some .int, 0, 0)
set_option maxRecDepth 100000 in
theorem wX2_wrap : Cond.code yX2_wrap cX2_wrap 2 (some .int) ∈ gt_tbl := tb_at 443 (by rfl) (by decide +kernel)
theorem kX2_wrap : zS zX2_wrap 2 := ⟨⟨by decide +kernel, by decide +kernel, by decide +kernel, wX2_wrap, iX2⟩, by decide +kernel, tb_at 442 (by decide +kernel) (by decide +kernel)⟩
abbrev zX2_link : zM := (yX2_link, cX2_link, 5, none, 1, 22)
set_option maxRecDepth 100000 in
theorem wX2_link : Cond.code yX2_link cX2_link 5 (none) ∈ gt_tbl := tb_at 447 (by rfl) (by decide +kernel)
theorem kX2_link : zV zX2_link 2 2 := ⟨⟨by decide +kernel, by decide +kernel, by decide +kernel, wX2_link, iX2⟩, by decide +kernel, tb_at 446 (by decide +kernel) (by decide +kernel), tb_at 2 (by decide +kernel) (by decide +kernel), _, rfl, rfl⟩
abbrev zX2_linked : zM := (yX2_linked, cX2_linked, 3, some .boolean, 0, 0)
set_option maxRecDepth 100000 in
theorem wX2_linked : Cond.code yX2_linked cX2_linked 3 (some .boolean) ∈ gt_tbl := tb_at 451 (by rfl) (by decide +kernel)
theorem kX2_linked : zV zX2_linked 2 2 := ⟨⟨by decide +kernel, by decide +kernel, by decide +kernel, wX2_linked, iX2⟩, by decide +kernel, tb_at 450 (by decide +kernel) (by decide +kernel), tb_at 3 (by decide +kernel) (by decide +kernel), _, rfl, rfl⟩
abbrev zX2_touches : zM := (yX2_touches, cX2_touches, 3, some .boolean, 0, 0)
set_option maxRecDepth 100000 in
theorem wX2_touches : Cond.code yX2_touches cX2_touches 3 (some .boolean) ∈ gt_tbl := tb_at 654 (by rfl) (by decide +kernel)
theorem kX2_touches : zV zX2_touches 2 2 := ⟨⟨by decide +kernel, by decide +kernel, by decide +kernel, wX2_touches, iX2⟩, by decide +kernel, tb_at 652 (by decide +kernel) (by decide +kernel), tb_at 653 (by decide +kernel) (by decide +kernel), _, rfl, rfl⟩
abbrev zX2_countNear : zM := (yX2_countNear, cX2_countNear, 3, some .int, 1, 21)
set_option maxRecDepth 100000 in
theorem wX2_countNear : Cond.code yX2_countNear cX2_countNear 3 (some .int) ∈ gt_tbl := tb_at 591 (by rfl) (by decide +kernel)
theorem kX2_countNear : zV zX2_countNear 2 2 := ⟨⟨by decide +kernel, by decide +kernel, by decide +kernel, wX2_countNear, iX2⟩, by decide +kernel, tb_at 589 (by decide +kernel) (by decide +kernel), tb_at 590 (by decide +kernel) (by decide +kernel), _, rfl, rfl⟩
abbrev zX3_prepare : zM := (yX3_prepare, cX3_prepare, 5, none, 5, 123)
set_option maxRecDepth 100000 in
theorem wX3_prepare : Cond.code yX3_prepare cX3_prepare 5 (none) ∈ gt_tbl := tb_at 548 (by rfl) (by decide +kernel)
theorem iX3 : Cond.initialized "MineDesk$Maker" ∈ gt_tbl := tb_at 86 (by decide +kernel) (by decide +kernel)
theorem kX3_prepare : zV zX3_prepare 3 3 := ⟨⟨by decide +kernel, by decide +kernel, by decide +kernel, wX3_prepare, iX3⟩, by decide +kernel, tb_at 546 (by decide +kernel) (by decide +kernel), tb_at 547 (by decide +kernel) (by decide +kernel), _, rfl, rfl⟩
abbrev zX3_draw : zM := (yX3_draw, cX3_draw, 7, none, 2, 45)
set_option maxRecDepth 100000 in
theorem wX3_draw : Cond.code yX3_draw cX3_draw 7 (none) ∈ gt_tbl := tb_at 555 (by rfl) (by decide +kernel)
theorem kX3_draw : zV zX3_draw 2 3 := ⟨⟨by decide +kernel, by decide +kernel, by decide +kernel, wX3_draw, iX3⟩, by decide +kernel, tb_at 553 (by decide +kernel) (by decide +kernel), tb_at 554 (by decide +kernel) (by decide +kernel), _, rfl, rfl⟩
abbrev zX3_mendToClear : zM := (yX3_mendToClear, cX3_mendToClear, 3, some .boolean, 6, 152)
set_option maxRecDepth 100000 in
theorem wX3_mendToClear : Cond.code yX3_mendToClear cX3_mendToClear 3 (some .boolean) ∈ gt_tbl := tb_at 568 (by rfl) (by decide +kernel)
theorem kX3_mendToClear : zV zX3_mendToClear 1 3 := ⟨⟨by decide +kernel, by decide +kernel, by decide +kernel, wX3_mendToClear, iX3⟩, by decide +kernel, tb_at 566 (by decide +kernel) (by decide +kernel), tb_at 567 (by decide +kernel) (by decide +kernel), _, rfl, rfl⟩
abbrev zX3_play : zM := (yX3_play, cX3_play, 4, some .boolean, 5, 129)
set_option maxRecDepth 100000 in
theorem wX3_play : Cond.code yX3_play cX3_play 4 (some .boolean) ∈ gt_tbl := tb_at 572 (by rfl) (by decide +kernel)
theorem kX3_play : zV zX3_play 1 3 := ⟨⟨by decide +kernel, by decide +kernel, by decide +kernel, wX3_play, iX3⟩, by decide +kernel, tb_at 571 (by decide +kernel) (by decide +kernel), tb_at 6 (by decide +kernel) (by decide +kernel), _, rfl, rfl⟩
abbrev zX3_mend : zM := (yX3_mend, cX3_mend, 6, some .boolean, 1, 22)
set_option maxRecDepth 100000 in
theorem wX3_mend : Cond.code yX3_mend cX3_mend 6 (some .boolean) ∈ gt_tbl := tb_at 789 (by rfl) (by decide +kernel)
theorem kX3_mend : zV zX3_mend 0 3 := ⟨⟨by decide +kernel, by decide +kernel, by decide +kernel, wX3_mend, iX3⟩, by decide +kernel, tb_at 788 (by decide +kernel) (by decide +kernel), tb_at 24 (by decide +kernel) (by decide +kernel), _, rfl, rfl⟩
abbrev zX4_keep : zM := (yX4_keep, cX4_keep, 3, none, 0, 0)
set_option maxRecDepth 100000 in
theorem wX4_keep : Cond.code yX4_keep cX4_keep 3 (none) ∈ gt_tbl := tb_at 816 (by rfl) (by decide +kernel)
theorem iX4 : Cond.initialized "MineDesk$Moves" ∈ gt_tbl := tb_at 82 (by decide +kernel) (by decide +kernel)
theorem kX4_keep : zV zX4_keep 1 4 := ⟨⟨by decide +kernel, by decide +kernel, by decide +kernel, wX4_keep, iX4⟩, by decide +kernel, tb_at 814 (by decide +kernel) (by decide +kernel), tb_at 815 (by decide +kernel) (by decide +kernel), _, rfl, rfl⟩
abbrev zX4_takeBack : zM := (yX4_takeBack, cX4_takeBack, 3, some .boolean, 1, 21)
set_option maxRecDepth 100000 in
theorem wX4_takeBack : Cond.code yX4_takeBack cX4_takeBack 3 (some .boolean) ∈ gt_tbl := tb_at 843 (by rfl) (by decide +kernel)
theorem kX4_takeBack : zV zX4_takeBack 1 4 := ⟨⟨by decide +kernel, by decide +kernel, by decide +kernel, wX4_takeBack, iX4⟩, by decide +kernel, tb_at 841 (by decide +kernel) (by decide +kernel), tb_at 842 (by decide +kernel) (by decide +kernel), _, rfl, rfl⟩
abbrev zX5_gather : zM := (yX5_gather, cX5_gather, 6, some .boolean, 3, 80)
set_option maxRecDepth 100000 in
theorem wX5_gather : Cond.code yX5_gather cX5_gather 6 (some .boolean) ∈ gt_tbl := tb_at 648 (by rfl) (by decide +kernel)
theorem iX5 : Cond.initialized "MineDesk$Placements" ∈ gt_tbl := tb_at 83 (by decide +kernel) (by decide +kernel)
theorem kX5_gather : zV zX5_gather 1 5 := ⟨⟨by decide +kernel, by decide +kernel, by decide +kernel, wX5_gather, iX5⟩, by decide +kernel, tb_at 646 (by decide +kernel) (by decide +kernel), tb_at 647 (by decide +kernel) (by decide +kernel), _, rfl, rfl⟩
abbrev zX5_spread : zM := (yX5_spread, cX5_spread, 9, some .int, 2, 52)
set_option maxRecDepth 100000 in
theorem wX5_spread : Cond.code yX5_spread cX5_spread 9 (some .int) ∈ gt_tbl := tb_at 658 (by rfl) (by decide +kernel)
theorem kX5_spread : zV zX5_spread 3 5 := ⟨⟨by decide +kernel, by decide +kernel, by decide +kernel, wX5_spread, iX5⟩, by decide +kernel, tb_at 657 (by decide +kernel) (by decide +kernel), tb_at 14 (by decide +kernel) (by decide +kernel), _, rfl, rfl⟩
abbrev zX5_listAround : zM := (yX5_listAround, cX5_listAround, 12, some .int, 1, 21)
set_option maxRecDepth 100000 in
theorem wX5_listAround : Cond.code yX5_listAround cX5_listAround 12 (some .int) ∈ gt_tbl := tb_at 663 (by rfl) (by decide +kernel)
theorem kX5_listAround : zV zX5_listAround 3 5 := ⟨⟨by decide +kernel, by decide +kernel, by decide +kernel, wX5_listAround, iX5⟩, by decide +kernel, tb_at 662 (by decide +kernel) (by decide +kernel), tb_at 15 (by decide +kernel) (by decide +kernel), _, rfl, rfl⟩
abbrev zX5_study : zM := (yX5_study, cX5_study, 4, none, 3, 75)
set_option maxRecDepth 100000 in
theorem wX5_study : Cond.code yX5_study cX5_study 4 (none) ∈ gt_tbl := tb_at 668 (by rfl) (by decide +kernel)
theorem kX5_study : zV zX5_study 1 5 := ⟨⟨by decide +kernel, by decide +kernel, by decide +kernel, wX5_study, iX5⟩, by decide +kernel, tb_at 666 (by decide +kernel) (by decide +kernel), tb_at 667 (by decide +kernel) (by decide +kernel), _, rfl, rfl⟩
abbrev zX5_keepCounts : zM := (yX5_keepCounts, cX5_keepCounts, 5, none, 1, 23)
set_option maxRecDepth 100000 in
theorem wX5_keepCounts : Cond.code yX5_keepCounts cX5_keepCounts 5 (none) ∈ gt_tbl := tb_at 705 (by rfl) (by decide +kernel)
theorem kX5_keepCounts : zV zX5_keepCounts 1 5 := ⟨⟨by decide +kernel, by decide +kernel, by decide +kernel, wX5_keepCounts, iX5⟩, by decide +kernel, tb_at 704 (by decide +kernel) (by decide +kernel), tb_at 18 (by decide +kernel) (by decide +kernel), _, rfl, rfl⟩
abbrev zX5_force : zM := (yX5_force, cX5_force, 5, none, 3, 71)
set_option maxRecDepth 100000 in
theorem wX5_force : Cond.code yX5_force cX5_force 5 (none) ∈ gt_tbl := tb_at 717 (by rfl) (by decide +kernel)
theorem kX5_force : zV zX5_force 1 5 := ⟨⟨by decide +kernel, by decide +kernel, by decide +kernel, wX5_force, iX5⟩, by decide +kernel, tb_at 715 (by decide +kernel) (by decide +kernel), tb_at 716 (by decide +kernel) (by decide +kernel), _, rfl, rfl⟩
abbrev zX5_forcePart : zM := (yX5_forcePart, cX5_forcePart, 8, none, 2, 44)
set_option maxRecDepth 100000 in
theorem wX5_forcePart : Cond.code yX5_forcePart cX5_forcePart 8 (none) ∈ gt_tbl := tb_at 736 (by rfl) (by decide +kernel)
theorem kX5_forcePart : zV zX5_forcePart 3 5 := ⟨⟨by decide +kernel, by decide +kernel, by decide +kernel, wX5_forcePart, iX5⟩, by decide +kernel, tb_at 735 (by decide +kernel) (by decide +kernel), tb_at 20 (by decide +kernel) (by decide +kernel), _, rfl, rfl⟩
abbrev zX5_forceLoose : zM := (yX5_forceLoose, cX5_forceLoose, 5, none, 2, 44)
set_option maxRecDepth 100000 in
theorem wX5_forceLoose : Cond.code yX5_forceLoose cX5_forceLoose 5 (none) ∈ gt_tbl := tb_at 748 (by rfl) (by decide +kernel)
theorem kX5_forceLoose : zV zX5_forceLoose 3 5 := ⟨⟨by decide +kernel, by decide +kernel, by decide +kernel, wX5_forceLoose, iX5⟩, by decide +kernel, tb_at 747 (by decide +kernel) (by decide +kernel), tb_at 22 (by decide +kernel) (by decide +kernel), _, rfl, rfl⟩
abbrev zX5_sumWithout : zM := (yX5_sumWithout, cX5_sumWithout, 4, none, 1, 22)
set_option maxRecDepth 100000 in
theorem wX5_sumWithout : Cond.code yX5_sumWithout cX5_sumWithout 4 (none) ∈ gt_tbl := tb_at 727 (by rfl) (by decide +kernel)
theorem kX5_sumWithout : zV zX5_sumWithout 1 5 := ⟨⟨by decide +kernel, by decide +kernel, by decide +kernel, wX5_sumWithout, iX5⟩, by decide +kernel, tb_at 726 (by decide +kernel) (by decide +kernel), tb_at 19 (by decide +kernel) (by decide +kernel), _, rfl, rfl⟩
abbrev zX5_reaches : zM := (yX5_reaches, cX5_reaches, 4, some .boolean, 1, 21)
set_option maxRecDepth 100000 in
theorem wX5_reaches : Cond.code yX5_reaches cX5_reaches 4 (some .boolean) ∈ gt_tbl := tb_at 740 (by rfl) (by decide +kernel)
theorem kX5_reaches : zV zX5_reaches 2 5 := ⟨⟨by decide +kernel, by decide +kernel, by decide +kernel, wX5_reaches, iX5⟩, by decide +kernel, tb_at 739 (by decide +kernel) (by decide +kernel), tb_at 21 (by decide +kernel) (by decide +kernel), _, rfl, rfl⟩
abbrev zX5_countAll : zM := (yX5_countAll, cX5_countAll, 2, some .int, 3, 61)
set_option maxRecDepth 100000 in
theorem wX5_countAll : Cond.code yX5_countAll cX5_countAll 2 (some .int) ∈ gt_tbl := tb_at 939 (by rfl) (by decide +kernel)
theorem kX5_countAll : zV zX5_countAll 1 5 := ⟨⟨by decide +kernel, by decide +kernel, by decide +kernel, wX5_countAll, iX5⟩, by decide +kernel, tb_at 937 (by decide +kernel) (by decide +kernel), tb_at 938 (by decide +kernel) (by decide +kernel), _, rfl, rfl⟩
abbrev zX5_countHolding : zM := (yX5_countHolding, cX5_countHolding, 9, some .int, 3, 61)
set_option maxRecDepth 100000 in
theorem wX5_countHolding : Cond.code yX5_countHolding cX5_countHolding 9 (some .int) ∈ gt_tbl := tb_at 963 (by rfl) (by decide +kernel)
theorem kX5_countHolding : zV zX5_countHolding 2 5 := ⟨⟨by decide +kernel, by decide +kernel, by decide +kernel, wX5_countHolding, iX5⟩, by decide +kernel, tb_at 961 (by decide +kernel) (by decide +kernel), tb_at 962 (by decide +kernel) (by decide +kernel), _, rfl, rfl⟩
abbrev zX5_countWithout : zM := (yX5_countWithout, cX5_countWithout, 7, none, 1, 21)
set_option maxRecDepth 100000 in
theorem wX5_countWithout : Cond.code yX5_countWithout cX5_countWithout 7 (none) ∈ gt_tbl := tb_at 943 (by rfl) (by decide +kernel)
theorem kX5_countWithout : zV zX5_countWithout 1 5 := ⟨⟨by decide +kernel, by decide +kernel, by decide +kernel, wX5_countWithout, iX5⟩, by decide +kernel, tb_at 942 (by decide +kernel) (by decide +kernel), tb_at 29 (by decide +kernel) (by decide +kernel), _, rfl, rfl⟩
abbrev zX5_chooseFrom : zM := (yX5_chooseFrom, cX5_chooseFrom, 4, none, 1, 21)
set_option maxRecDepth 100000 in
theorem wX5_chooseFrom : Cond.code yX5_chooseFrom cX5_chooseFrom 4 (none) ∈ gt_tbl := tb_at 951 (by rfl) (by decide +kernel)
theorem kX5_chooseFrom : zV zX5_chooseFrom 1 5 := ⟨⟨by decide +kernel, by decide +kernel, by decide +kernel, wX5_chooseFrom, iX5⟩, by decide +kernel, tb_at 950 (by decide +kernel) (by decide +kernel), tb_at 30 (by decide +kernel) (by decide +kernel), _, rfl, rfl⟩
abbrev zX5_startRow : zM := (yX5_startRow, cX5_startRow, 2, none, 0, 0)
set_option maxRecDepth 100000 in
theorem wX5_startRow : Cond.code yX5_startRow cX5_startRow 2 (none) ∈ gt_tbl := tb_at 946 (by rfl) (by decide +kernel)
theorem kX5_startRow : zS zX5_startRow 1 := ⟨⟨by decide +kernel, by decide +kernel, by decide +kernel, wX5_startRow, iX5⟩, by decide +kernel, tb_at 945 (by decide +kernel) (by decide +kernel)⟩
abbrev zX5_fill : zM := (yX5_fill, cX5_fill, 5, some .long, 0, 0)
set_option maxRecDepth 100000 in
theorem wX5_fill : Cond.code yX5_fill cX5_fill 5 (some .long) ∈ gt_tbl := tb_at 955 (by rfl) (by decide +kernel)
theorem kX5_fill : zV zX5_fill 1 5 := ⟨⟨by decide +kernel, by decide +kernel, by decide +kernel, wX5_fill, iX5⟩, by decide +kernel, tb_at 954 (by decide +kernel) (by decide +kernel), tb_at 31 (by decide +kernel) (by decide +kernel), _, rfl, rfl⟩
abbrev zX5_studyTold : zM := (yX5_studyTold, cX5_studyTold, 5, some .boolean, 3, 75)
set_option maxRecDepth 100000 in
theorem wX5_studyTold : Cond.code yX5_studyTold cX5_studyTold 5 (some .boolean) ∈ gt_tbl := tb_at 916 (by rfl) (by decide +kernel)
theorem kX5_studyTold : zV zX5_studyTold 3 5 := ⟨⟨by decide +kernel, by decide +kernel, by decide +kernel, wX5_studyTold, iX5⟩, by decide +kernel, tb_at 914 (by decide +kernel) (by decide +kernel), tb_at 915 (by decide +kernel) (by decide +kernel), _, rfl, rfl⟩
abbrev zX5_pushAround : zM := (yX5_pushAround, cX5_pushAround, 5, some .boolean, 1, 21)
set_option maxRecDepth 100000 in
theorem wX5_pushAround : Cond.code yX5_pushAround cX5_pushAround 5 (some .boolean) ∈ gt_tbl := tb_at 920 (by rfl) (by decide +kernel)
theorem kX5_pushAround : zV zX5_pushAround 2 5 := ⟨⟨by decide +kernel, by decide +kernel, by decide +kernel, wX5_pushAround, iX5⟩, by decide +kernel, tb_at 919 (by decide +kernel) (by decide +kernel), tb_at 28 (by decide +kernel) (by decide +kernel), _, rfl, rfl⟩
abbrev zX5_fitsOpposite : zM := (yX5_fitsOpposite, cX5_fitsOpposite, 10, some .boolean, 3, 61)
set_option maxRecDepth 100000 in
theorem wX5_fitsOpposite : Cond.code yX5_fitsOpposite cX5_fitsOpposite 10 (some .boolean) ∈ gt_tbl := tb_at 925 (by rfl) (by decide +kernel)
theorem kX5_fitsOpposite : zV zX5_fitsOpposite 3 5 := ⟨⟨by decide +kernel, by decide +kernel, by decide +kernel, wX5_fitsOpposite, iX5⟩, by decide +kernel, tb_at 923 (by decide +kernel) (by decide +kernel), tb_at 924 (by decide +kernel) (by decide +kernel), _, rfl, rfl⟩
abbrev zX6_begin : zM := (yX6_begin, cX6_begin, 2, none, 1, 21)
set_option maxRecDepth 100000 in
theorem wX6_begin : Cond.code yX6_begin cX6_begin 2 (none) ∈ gt_tbl := tb_at 600 (by rfl) (by decide +kernel)
theorem iX6 : Cond.initialized "MineDesk$Reasoner" ∈ gt_tbl := tb_at 85 (by decide +kernel) (by decide +kernel)
theorem kX6_begin : zV zX6_begin 1 6 := ⟨⟨by decide +kernel, by decide +kernel, by decide +kernel, wX6_begin, iX6⟩, by decide +kernel, tb_at 598 (by decide +kernel) (by decide +kernel), tb_at 599 (by decide +kernel) (by decide +kernel), _, rfl, rfl⟩
abbrev zX6_goOn : zM := (yX6_goOn, cX6_goOn, 1, none, 2, 42)
set_option maxRecDepth 100000 in
theorem wX6_goOn : Cond.code yX6_goOn cX6_goOn 1 (none) ∈ gt_tbl := tb_at 784 (by rfl) (by decide +kernel)
theorem kX6_goOn : zV zX6_goOn 0 6 := ⟨⟨by decide +kernel, by decide +kernel, by decide +kernel, wX6_goOn, iX6⟩, by decide +kernel, tb_at 782 (by decide +kernel) (by decide +kernel), tb_at 783 (by decide +kernel) (by decide +kernel), _, rfl, rfl⟩
abbrev zX6_find : zM := (yX6_find, cX6_find, 4, some .boolean, 4, 106)
set_option maxRecDepth 100000 in
theorem wX6_find : Cond.code yX6_find cX6_find 4 (some .boolean) ∈ gt_tbl := tb_at 610 (by rfl) (by decide +kernel)
theorem kX6_find : zV zX6_find 1 6 := ⟨⟨by decide +kernel, by decide +kernel, by decide +kernel, wX6_find, iX6⟩, by decide +kernel, tb_at 608 (by decide +kernel) (by decide +kernel), tb_at 609 (by decide +kernel) (by decide +kernel), _, rfl, rfl⟩
abbrev zX6_firstNews : zM := (yX6_firstNews, cX6_firstNews, 3, some .int, 1, 21)
set_option maxRecDepth 100000 in
theorem wX6_firstNews : Cond.code yX6_firstNews cX6_firstNews 3 (some .int) ∈ gt_tbl := tb_at 780 (by rfl) (by decide +kernel)
theorem kX6_firstNews : zV zX6_firstNews 0 6 := ⟨⟨by decide +kernel, by decide +kernel, by decide +kernel, wX6_firstNews, iX6⟩, by decide +kernel, tb_at 778 (by decide +kernel) (by decide +kernel), tb_at 779 (by decide +kernel) (by decide +kernel), _, rfl, rfl⟩
abbrev zX6_accept : zM := (yX6_accept, cX6_accept, 2, none, 1, 21)
set_option maxRecDepth 100000 in
theorem wX6_accept : Cond.code yX6_accept cX6_accept 2 (none) ∈ gt_tbl := tb_at 775 (by rfl) (by decide +kernel)
theorem kX6_accept : zV zX6_accept 0 6 := ⟨⟨by decide +kernel, by decide +kernel, by decide +kernel, wX6_accept, iX6⟩, by decide +kernel, tb_at 773 (by decide +kernel) (by decide +kernel), tb_at 774 (by decide +kernel) (by decide +kernel), _, rfl, rfl⟩
abbrev zX6_giveByOne : zM := (yX6_giveByOne, cX6_giveByOne, 6, some .boolean, 2, 47)
set_option maxRecDepth 100000 in
theorem wX6_giveByOne : Cond.code yX6_giveByOne cX6_giveByOne 6 (some .boolean) ∈ gt_tbl := tb_at 615 (by rfl) (by decide +kernel)
theorem kX6_giveByOne : zV zX6_giveByOne 1 6 := ⟨⟨by decide +kernel, by decide +kernel, by decide +kernel, wX6_giveByOne, iX6⟩, by decide +kernel, tb_at 614 (by decide +kernel) (by decide +kernel), tb_at 9 (by decide +kernel) (by decide +kernel), _, rfl, rfl⟩
abbrev zX6_giveByTwo : zM := (yX6_giveByTwo, cX6_giveByTwo, 12, some .boolean, 3, 75)
set_option maxRecDepth 100000 in
theorem wX6_giveByTwo : Cond.code yX6_giveByTwo cX6_giveByTwo 12 (some .boolean) ∈ gt_tbl := tb_at 635 (by rfl) (by decide +kernel)
theorem kX6_giveByTwo : zV zX6_giveByTwo 1 6 := ⟨⟨by decide +kernel, by decide +kernel, by decide +kernel, wX6_giveByTwo, iX6⟩, by decide +kernel, tb_at 634 (by decide +kernel) (by decide +kernel), tb_at 12 (by decide +kernel) (by decide +kernel), _, rfl, rfl⟩
abbrev zX6_giveByPair : zM := (yX6_giveByPair, cX6_giveByPair, 9, some .boolean, 2, 47)
set_option maxRecDepth 100000 in
theorem wX6_giveByPair : Cond.code yX6_giveByPair cX6_giveByPair 9 (some .boolean) ∈ gt_tbl := tb_at 644 (by rfl) (by decide +kernel)
theorem kX6_giveByPair : zV zX6_giveByPair 2 6 := ⟨⟨by decide +kernel, by decide +kernel, by decide +kernel, wX6_giveByPair, iX6⟩, by decide +kernel, tb_at 643 (by decide +kernel) (by decide +kernel), tb_at 13 (by decide +kernel) (by decide +kernel), _, rfl, rfl⟩
abbrev zX6_giveByAll : zM := (yX6_giveByAll, cX6_giveByAll, 3, some .boolean, 3, 62)
set_option maxRecDepth 100000 in
theorem wX6_giveByAll : Cond.code yX6_giveByAll cX6_giveByAll 3 (some .boolean) ∈ gt_tbl := tb_at 760 (by rfl) (by decide +kernel)
theorem kX6_giveByAll : zV zX6_giveByAll 0 6 := ⟨⟨by decide +kernel, by decide +kernel, by decide +kernel, wX6_giveByAll, iX6⟩, by decide +kernel, tb_at 759 (by decide +kernel) (by decide +kernel), tb_at 23 (by decide +kernel) (by decide +kernel), _, rfl, rfl⟩
abbrev zX6_give : zM := (yX6_give, cX6_give, 6, some .boolean, 1, 21)
set_option maxRecDepth 100000 in
theorem wX6_give : Cond.code yX6_give cX6_give 6 (some .boolean) ∈ gt_tbl := tb_at 624 (by rfl) (by decide +kernel)
theorem kX6_give : zV zX6_give 3 6 := ⟨⟨by decide +kernel, by decide +kernel, by decide +kernel, wX6_give, iX6⟩, by decide +kernel, tb_at 623 (by decide +kernel) (by decide +kernel), tb_at 10 (by decide +kernel) (by decide +kernel), _, rfl, rfl⟩
abbrev zX6_blame : zM := (yX6_blame, cX6_blame, 4, none, 1, 21)
set_option maxRecDepth 100000 in
theorem wX6_blame : Cond.code yX6_blame cX6_blame 4 (none) ∈ gt_tbl := tb_at 630 (by rfl) (by decide +kernel)
theorem kX6_blame : zV zX6_blame 1 6 := ⟨⟨by decide +kernel, by decide +kernel, by decide +kernel, wX6_blame, iX6⟩, by decide +kernel, tb_at 629 (by decide +kernel) (by decide +kernel), tb_at 11 (by decide +kernel) (by decide +kernel), _, rfl, rfl⟩
abbrev zX7_clear : zM := (yX7_clear, cX7_clear, 1, none, 0, 0)
set_option maxRecDepth 100000 in
theorem wX7_clear : Cond.code yX7_clear cX7_clear 1 (none) ∈ gt_tbl := tb_at 672 (by rfl) (by decide +kernel)
theorem iX7 : Cond.initialized "MineDesk$Search" ∈ gt_tbl := tb_at 84 (by decide +kernel) (by decide +kernel)
theorem kX7_clear : zV zX7_clear 0 7 := ⟨⟨by decide +kernel, by decide +kernel, by decide +kernel, wX7_clear, iX7⟩, by decide +kernel, tb_at 670 (by decide +kernel) (by decide +kernel), tb_at 671 (by decide +kernel) (by decide +kernel), _, rfl, rfl⟩
abbrev zX7_push : zM := (yX7_push, cX7_push, 2, some .boolean, 0, 0)
set_option maxRecDepth 100000 in
theorem wX7_push : Cond.code yX7_push cX7_push 2 (some .boolean) ∈ gt_tbl := tb_at 676 (by rfl) (by decide +kernel)
theorem kX7_push : zV zX7_push 1 7 := ⟨⟨by decide +kernel, by decide +kernel, by decide +kernel, wX7_push, iX7⟩, by decide +kernel, tb_at 674 (by decide +kernel) (by decide +kernel), tb_at 675 (by decide +kernel) (by decide +kernel), _, rfl, rfl⟩
abbrev zX7_size : zM := (yX7_size, cX7_size, 1, some .int, 0, 0)
set_option maxRecDepth 100000 in
theorem wX7_size : Cond.code yX7_size cX7_size 1 (some .int) ∈ gt_tbl := tb_at 929 (by rfl) (by decide +kernel)
theorem kX7_size : zV zX7_size 0 7 := ⟨⟨by decide +kernel, by decide +kernel, by decide +kernel, wX7_size, iX7⟩, by decide +kernel, tb_at 927 (by decide +kernel) (by decide +kernel), tb_at 928 (by decide +kernel) (by decide +kernel), _, rfl, rfl⟩
abbrev zX7_found : zM := (yX7_found, cX7_found, 2, some .int, 0, 0)
set_option maxRecDepth 100000 in
theorem wX7_found : Cond.code yX7_found cX7_found 2 (some .int) ∈ gt_tbl := tb_at 709 (by rfl) (by decide +kernel)
theorem kX7_found : zV zX7_found 1 7 := ⟨⟨by decide +kernel, by decide +kernel, by decide +kernel, wX7_found, iX7⟩, by decide +kernel, tb_at 707 (by decide +kernel) (by decide +kernel), tb_at 708 (by decide +kernel) (by decide +kernel), _, rfl, rfl⟩
abbrev zX7_foundHolding : zM := (yX7_foundHolding, cX7_foundHolding, 4, some .int, 0, 0)
set_option maxRecDepth 100000 in
theorem wX7_foundHolding : Cond.code yX7_foundHolding cX7_foundHolding 4 (some .int) ∈ gt_tbl := tb_at 713 (by rfl) (by decide +kernel)
theorem kX7_foundHolding : zV zX7_foundHolding 2 7 := ⟨⟨by decide +kernel, by decide +kernel, by decide +kernel, wX7_foundHolding, iX7⟩, by decide +kernel, tb_at 711 (by decide +kernel) (by decide +kernel), tb_at 712 (by decide +kernel) (by decide +kernel), _, rfl, rfl⟩
abbrev zX7_bind : zM := (yX7_bind, cX7_bind, 9, none, 2, 47)
set_option maxRecDepth 100000 in
theorem wX7_bind : Cond.code yX7_bind cX7_bind 9 (none) ∈ gt_tbl := tb_at 680 (by rfl) (by decide +kernel)
theorem kX7_bind : zV zX7_bind 2 7 := ⟨⟨by decide +kernel, by decide +kernel, by decide +kernel, wX7_bind, iX7⟩, by decide +kernel, tb_at 678 (by decide +kernel) (by decide +kernel), tb_at 679 (by decide +kernel) (by decide +kernel), _, rfl, rfl⟩
abbrev zX7_run : zM := (yX7_run, cX7_run, 5, none, 2, 47)
set_option maxRecDepth 100000 in
theorem wX7_run : Cond.code yX7_run cX7_run 5 (none) ∈ gt_tbl := tb_at 686 (by rfl) (by decide +kernel)
theorem kX7_run : zV zX7_run 0 7 := ⟨⟨by decide +kernel, by decide +kernel, by decide +kernel, wX7_run, iX7⟩, by decide +kernel, tb_at 684 (by decide +kernel) (by decide +kernel), tb_at 685 (by decide +kernel) (by decide +kernel), _, rfl, rfl⟩
abbrev zX7_fits : zM := (yX7_fits, cX7_fits, 8, some .boolean, 1, 20)
set_option maxRecDepth 100000 in
theorem wX7_fits : Cond.code yX7_fits cX7_fits 8 (some .boolean) ∈ gt_tbl := tb_at 691 (by rfl) (by decide +kernel)
theorem kX7_fits : zV zX7_fits 2 7 := ⟨⟨by decide +kernel, by decide +kernel, by decide +kernel, wX7_fits, iX7⟩, by decide +kernel, tb_at 690 (by decide +kernel) (by decide +kernel), tb_at 16 (by decide +kernel) (by decide +kernel), _, rfl, rfl⟩
abbrev zX7_note : zM := (yX7_note, cX7_note, 4, none, 1, 20)
set_option maxRecDepth 100000 in
theorem wX7_note : Cond.code yX7_note cX7_note 4 (none) ∈ gt_tbl := tb_at 701 (by rfl) (by decide +kernel)
theorem kX7_note : zV zX7_note 1 7 := ⟨⟨by decide +kernel, by decide +kernel, by decide +kernel, wX7_note, iX7⟩, by decide +kernel, tb_at 700 (by decide +kernel) (by decide +kernel), tb_at 17 (by decide +kernel) (by decide +kernel), _, rfl, rfl⟩
abbrev zJ13_bitCount_95d88 : zM := (yJ13_bitCount_95d88, cJ13_bitCount_95d88, 2, some .int, 0, 0)
set_option maxRecDepth 100000 in
theorem wJ13_bitCount_95d88 : Cond.code yJ13_bitCount_95d88 cJ13_bitCount_95d88 2 (some .int) ∈ gt_tbl := tb_at 523 (by rfl) (by decide +kernel)
theorem iJ13 : Cond.initialized "java/lang/Long" ∈ gt_tbl := tb_at 88 (by decide +kernel) (by decide +kernel)
theorem kJ13_bitCount_95d88 : zS zJ13_bitCount_95d88 1 := ⟨⟨by decide +kernel, by decide +kernel, by decide +kernel, wJ13_bitCount_95d88, iJ13⟩, by decide +kernel, tb_at 522 (by decide +kernel) (by decide +kernel)⟩
abbrev zJ6_bitCount_0f7a4 : zM := (yJ6_bitCount_0f7a4, cJ6_bitCount_0f7a4, 1, some .int, 0, 0)
set_option maxRecDepth 100000 in
theorem wJ6_bitCount_0f7a4 : Cond.code yJ6_bitCount_0f7a4 cJ6_bitCount_0f7a4 1 (some .int) ∈ gt_tbl := tb_at 694 (by rfl) (by decide +kernel)
theorem iJ6 : Cond.initialized "java/lang/Integer" ∈ gt_tbl := tb_at 89 (by decide +kernel) (by decide +kernel)
theorem kJ6_bitCount_0f7a4 : zS zJ6_bitCount_0f7a4 1 := ⟨⟨by decide +kernel, by decide +kernel, by decide +kernel, wJ6_bitCount_0f7a4, iJ6⟩, by decide +kernel, tb_at 693 (by decide +kernel) (by decide +kernel)⟩
abbrev zJ9_max_7cf53 : zM := (yJ9_max_7cf53, cJ9_max_7cf53, 2, some .int, 0, 0)
theorem fX0_7 : fOK "MineDesk$Bits" 7 0 0 := ⟨_, _, _, rfl, by decide, inX0, tb_at 170 (by decide +kernel) (by decide +kernel)⟩
theorem pX0_7 : fPut "MineDesk$Bits" 7 0 0 .long := ⟨_, _, _, tyX0, rfl, by decide, inX0, tb_at 170 (by decide +kernel) (by decide +kernel), tyX0_ok, nmX0, rfl, by decide +kernel⟩
theorem fX0_13 : fOK "MineDesk$Bits" 13 0 1 := ⟨_, _, _, rfl, by decide, inX0, tb_at 176 (by decide +kernel) (by decide +kernel)⟩
theorem pX0_13 : fPut "MineDesk$Bits" 13 0 1 .long := ⟨_, _, _, tyX0, rfl, by decide, inX0, tb_at 176 (by decide +kernel) (by decide +kernel), tyX0_ok, nmX0, rfl, by decide +kernel⟩
theorem fX1_12 : fOK "MineDesk$Board" 12 1 0 := ⟨_, _, _, rfl, by decide, inX1, tb_at 187 (by decide +kernel) (by decide +kernel)⟩
theorem fX1_21 : fOK "MineDesk$Board" 21 1 1 := ⟨_, _, _, rfl, by decide, inX1, tb_at 193 (by decide +kernel) (by decide +kernel)⟩
theorem fX1_25 : fOK "MineDesk$Board" 25 1 2 := ⟨_, _, _, rfl, by decide, inX1, tb_at 196 (by decide +kernel) (by decide +kernel)⟩
theorem fX1_28 : fOK "MineDesk$Board" 28 1 3 := ⟨_, _, _, rfl, by decide, inX1, tb_at 199 (by decide +kernel) (by decide +kernel)⟩
theorem fX1_31 : fOK "MineDesk$Board" 31 1 4 := ⟨_, _, _, rfl, by decide, inX1, tb_at 205 (by decide +kernel) (by decide +kernel)⟩
theorem fX1_34 : fOK "MineDesk$Board" 34 1 5 := ⟨_, _, _, rfl, by decide, inX1, tb_at 211 (by decide +kernel) (by decide +kernel)⟩
theorem fX1_37 : fOK "MineDesk$Board" 37 1 6 := ⟨_, _, _, rfl, by decide, inX1, tb_at 216 (by decide +kernel) (by decide +kernel)⟩
theorem fX1_40 : fOK "MineDesk$Board" 40 1 7 := ⟨_, _, _, rfl, by decide, inX1, tb_at 220 (by decide +kernel) (by decide +kernel)⟩
theorem fX1_43 : fOK "MineDesk$Board" 43 1 8 := ⟨_, _, _, rfl, by decide, inX1, tb_at 221 (by decide +kernel) (by decide +kernel)⟩
theorem fX1_54 : fOK "MineDesk$Board" 54 2 7 := ⟨_, _, _, rfl, by decide, inX2, tb_at 139 (by decide +kernel) (by decide +kernel)⟩
theorem fX1_73 : fOK "MineDesk$Board" 73 2 0 := ⟨_, _, _, rfl, by decide, inX2, tb_at 113 (by decide +kernel) (by decide +kernel)⟩
theorem fX1_77 : fOK "MineDesk$Board" 77 2 1 := ⟨_, _, _, rfl, by decide, inX2, tb_at 117 (by decide +kernel) (by decide +kernel)⟩
theorem fX1_80 : fOK "MineDesk$Board" 80 0 0 := ⟨_, _, _, rfl, by decide, inX0, tb_at 173 (by decide +kernel) (by decide +kernel)⟩
theorem fX1_90 : fOK "MineDesk$Board" 90 0 1 := ⟨_, _, _, rfl, by decide, inX0, tb_at 179 (by decide +kernel) (by decide +kernel)⟩
theorem fX1_117 : fOK "MineDesk$Board" 117 2 3 := ⟨_, _, _, rfl, by decide, inX2, tb_at 132 (by decide +kernel) (by decide +kernel)⟩
theorem fX1_120 : fOK "MineDesk$Board" 120 2 2 := ⟨_, _, _, rfl, by decide, inX2, tb_at 125 (by decide +kernel) (by decide +kernel)⟩
theorem fX2_9 : fOK "MineDesk$Grid" 9 2 0 := ⟨_, _, _, rfl, by decide, inX2, tb_at 111 (by decide +kernel) (by decide +kernel)⟩
theorem fX2_15 : fOK "MineDesk$Grid" 15 2 1 := ⟨_, _, _, rfl, by decide, inX2, tb_at 115 (by decide +kernel) (by decide +kernel)⟩
theorem fX2_18 : fOK "MineDesk$Grid" 18 2 2 := ⟨_, _, _, rfl, by decide, inX2, tb_at 119 (by decide +kernel) (by decide +kernel)⟩
theorem fX2_22 : fOK "MineDesk$Grid" 22 2 3 := ⟨_, _, _, rfl, by decide, inX2, tb_at 126 (by decide +kernel) (by decide +kernel)⟩
theorem fX2_25 : fOK "MineDesk$Grid" 25 2 7 := ⟨_, _, _, rfl, by decide, inX2, tb_at 142 (by decide +kernel) (by decide +kernel)⟩
theorem pX2_25 : fPut "MineDesk$Grid" 25 2 7 .int := ⟨_, _, _, tyX2, rfl, by decide, inX2, tb_at 142 (by decide +kernel) (by decide +kernel), tyX2_ok, nmX2, rfl, by decide +kernel⟩
theorem fX2_29 : fOK "MineDesk$Grid" 29 2 4 := ⟨_, _, _, rfl, by decide, inX2, tb_at 133 (by decide +kernel) (by decide +kernel)⟩
theorem pX2_29 : fPut "MineDesk$Grid" 29 2 4 .int := ⟨_, _, _, tyX2, rfl, by decide, inX2, tb_at 133 (by decide +kernel) (by decide +kernel), tyX2_ok, nmX2, rfl, by decide +kernel⟩
theorem fX2_32 : fOK "MineDesk$Grid" 32 2 5 := ⟨_, _, _, rfl, by decide, inX2, tb_at 135 (by decide +kernel) (by decide +kernel)⟩
theorem pX2_32 : fPut "MineDesk$Grid" 32 2 5 .int := ⟨_, _, _, tyX2, rfl, by decide, inX2, tb_at 135 (by decide +kernel) (by decide +kernel), tyX2_ok, nmX2, rfl, by decide +kernel⟩
theorem fX2_35 : fOK "MineDesk$Grid" 35 2 6 := ⟨_, _, _, rfl, by decide, inX2, tb_at 137 (by decide +kernel) (by decide +kernel)⟩
theorem pX2_35 : fPut "MineDesk$Grid" 35 2 6 .int := ⟨_, _, _, tyX2, rfl, by decide, inX2, tb_at 137 (by decide +kernel) (by decide +kernel), tyX2_ok, nmX2, rfl, by decide +kernel⟩
theorem fX2_56 : fOK "MineDesk$Grid" 56 0 0 := ⟨_, _, _, rfl, by decide, inX0, tb_at 175 (by decide +kernel) (by decide +kernel)⟩
theorem fX2_62 : fOK "MineDesk$Grid" 62 0 1 := ⟨_, _, _, rfl, by decide, inX0, tb_at 181 (by decide +kernel) (by decide +kernel)⟩
theorem fX3_12 : fOK "MineDesk$Maker" 12 3 0 := ⟨_, _, _, rfl, by decide, inX3, tb_at 404 (by decide +kernel) (by decide +kernel)⟩
theorem fX3_21 : fOK "MineDesk$Maker" 21 3 1 := ⟨_, _, _, rfl, by decide, inX3, tb_at 406 (by decide +kernel) (by decide +kernel)⟩
theorem fX3_25 : fOK "MineDesk$Maker" 25 3 3 := ⟨_, _, _, rfl, by decide, inX3, tb_at 410 (by decide +kernel) (by decide +kernel)⟩
theorem fX3_33 : fOK "MineDesk$Maker" 33 3 4 := ⟨_, _, _, rfl, by decide, inX3, tb_at 411 (by decide +kernel) (by decide +kernel)⟩
theorem pX3_33 : fPut "MineDesk$Maker" 33 3 4 .int := ⟨_, _, _, tyX3, rfl, by decide, inX3, tb_at 411 (by decide +kernel) (by decide +kernel), tyX3_ok, nmX3, rfl, by decide +kernel⟩
theorem fX3_37 : fOK "MineDesk$Maker" 37 1 1 := ⟨_, _, _, rfl, by decide, inX1, tb_at 194 (by decide +kernel) (by decide +kernel)⟩
theorem fX3_48 : fOK "MineDesk$Maker" 48 1 0 := ⟨_, _, _, rfl, by decide, inX1, tb_at 190 (by decide +kernel) (by decide +kernel)⟩
theorem fX3_52 : fOK "MineDesk$Maker" 52 2 3 := ⟨_, _, _, rfl, by decide, inX2, tb_at 127 (by decide +kernel) (by decide +kernel)⟩
theorem fX3_58 : fOK "MineDesk$Maker" 58 2 2 := ⟨_, _, _, rfl, by decide, inX2, tb_at 120 (by decide +kernel) (by decide +kernel)⟩
theorem fX3_67 : fOK "MineDesk$Maker" 67 2 7 := ⟨_, _, _, rfl, by decide, inX2, tb_at 143 (by decide +kernel) (by decide +kernel)⟩
theorem fX3_74 : fOK "MineDesk$Maker" 74 1 2 := ⟨_, _, _, rfl, by decide, inX1, tb_at 198 (by decide +kernel) (by decide +kernel)⟩
theorem fX3_80 : fOK "MineDesk$Maker" 80 3 2 := ⟨_, _, _, rfl, by decide, inX3, tb_at 408 (by decide +kernel) (by decide +kernel)⟩
theorem pX3_80 : fPut "MineDesk$Maker" 80 3 2 .int := ⟨_, _, _, tyX3, rfl, by decide, inX3, tb_at 408 (by decide +kernel) (by decide +kernel), tyX3_ok, nmX3, rfl, by decide +kernel⟩
theorem fX3_109 : fOK "MineDesk$Maker" 109 6 2 := ⟨_, _, _, rfl, by decide, inX6, tb_at 354 (by decide +kernel) (by decide +kernel)⟩
theorem fX3_122 : fOK "MineDesk$Maker" 122 1 3 := ⟨_, _, _, rfl, by decide, inX1, tb_at 204 (by decide +kernel) (by decide +kernel)⟩
theorem fX3_128 : fOK "MineDesk$Maker" 128 1 4 := ⟨_, _, _, rfl, by decide, inX1, tb_at 209 (by decide +kernel) (by decide +kernel)⟩
theorem fX4_11 : fOK "MineDesk$Moves" 11 4 0 := ⟨_, _, _, rfl, by decide, inX4, tb_at 247 (by decide +kernel) (by decide +kernel)⟩
theorem fX4_15 : fOK "MineDesk$Moves" 15 4 1 := ⟨_, _, _, rfl, by decide, inX4, tb_at 248 (by decide +kernel) (by decide +kernel)⟩
theorem pX4_15 : fPut "MineDesk$Moves" 15 4 1 .int := ⟨_, _, _, tyX4, rfl, by decide, inX4, tb_at 248 (by decide +kernel) (by decide +kernel), tyX4_ok, nmX4, rfl, by decide +kernel⟩
theorem fX4_19 : fOK "MineDesk$Moves" 19 1 4 := ⟨_, _, _, rfl, by decide, inX1, tb_at 206 (by decide +kernel) (by decide +kernel)⟩
theorem fX4_25 : fOK "MineDesk$Moves" 25 0 0 := ⟨_, _, _, rfl, by decide, inX0, tb_at 171 (by decide +kernel) (by decide +kernel)⟩
theorem pX4_25 : fPut "MineDesk$Moves" 25 0 0 .long := ⟨_, _, _, tyX0, rfl, by decide, inX0, tb_at 171 (by decide +kernel) (by decide +kernel), tyX0_ok, nmX0, rfl, by decide +kernel⟩
theorem fX4_31 : fOK "MineDesk$Moves" 31 0 1 := ⟨_, _, _, rfl, by decide, inX0, tb_at 177 (by decide +kernel) (by decide +kernel)⟩
theorem pX4_31 : fPut "MineDesk$Moves" 31 0 1 .long := ⟨_, _, _, tyX0, rfl, by decide, inX0, tb_at 177 (by decide +kernel) (by decide +kernel), tyX0_ok, nmX0, rfl, by decide +kernel⟩
theorem fX4_34 : fOK "MineDesk$Moves" 34 1 5 := ⟨_, _, _, rfl, by decide, inX1, tb_at 213 (by decide +kernel) (by decide +kernel)⟩
theorem fX4_37 : fOK "MineDesk$Moves" 37 1 6 := ⟨_, _, _, rfl, by decide, inX1, tb_at 217 (by decide +kernel) (by decide +kernel)⟩
theorem fX4_40 : fOK "MineDesk$Moves" 40 1 3 := ⟨_, _, _, rfl, by decide, inX1, tb_at 203 (by decide +kernel) (by decide +kernel)⟩
theorem fX4_43 : fOK "MineDesk$Moves" 43 1 1 := ⟨_, _, _, rfl, by decide, inX1, tb_at 195 (by decide +kernel) (by decide +kernel)⟩
theorem fX5_12 : fOK "MineDesk$Placements" 12 5 0 := ⟨_, _, _, rfl, by decide, inX5, tb_at 294 (by decide +kernel) (by decide +kernel)⟩
theorem fX5_18 : fOK "MineDesk$Placements" 18 5 1 := ⟨_, _, _, rfl, by decide, inX5, tb_at 296 (by decide +kernel) (by decide +kernel)⟩
theorem fX5_24 : fOK "MineDesk$Placements" 24 5 2 := ⟨_, _, _, rfl, by decide, inX5, tb_at 298 (by decide +kernel) (by decide +kernel)⟩
theorem fX5_28 : fOK "MineDesk$Placements" 28 5 3 := ⟨_, _, _, rfl, by decide, inX5, tb_at 299 (by decide +kernel) (by decide +kernel)⟩
theorem fX5_31 : fOK "MineDesk$Placements" 31 5 4 := ⟨_, _, _, rfl, by decide, inX5, tb_at 300 (by decide +kernel) (by decide +kernel)⟩
theorem fX5_34 : fOK "MineDesk$Placements" 34 5 5 := ⟨_, _, _, rfl, by decide, inX5, tb_at 301 (by decide +kernel) (by decide +kernel)⟩
theorem fX5_37 : fOK "MineDesk$Placements" 37 5 6 := ⟨_, _, _, rfl, by decide, inX5, tb_at 302 (by decide +kernel) (by decide +kernel)⟩
theorem fX5_41 : fOK "MineDesk$Placements" 41 5 7 := ⟨_, _, _, rfl, by decide, inX5, tb_at 303 (by decide +kernel) (by decide +kernel)⟩
theorem fX5_44 : fOK "MineDesk$Placements" 44 5 8 := ⟨_, _, _, rfl, by decide, inX5, tb_at 304 (by decide +kernel) (by decide +kernel)⟩
theorem fX5_47 : fOK "MineDesk$Placements" 47 5 9 := ⟨_, _, _, rfl, by decide, inX5, tb_at 305 (by decide +kernel) (by decide +kernel)⟩
theorem fX5_50 : fOK "MineDesk$Placements" 50 5 10 := ⟨_, _, _, rfl, by decide, inX5, tb_at 306 (by decide +kernel) (by decide +kernel)⟩
theorem fX5_53 : fOK "MineDesk$Placements" 53 5 11 := ⟨_, _, _, rfl, by decide, inX5, tb_at 307 (by decide +kernel) (by decide +kernel)⟩
theorem fX5_57 : fOK "MineDesk$Placements" 57 5 12 := ⟨_, _, _, rfl, by decide, inX5, tb_at 308 (by decide +kernel) (by decide +kernel)⟩
theorem fX5_60 : fOK "MineDesk$Placements" 60 5 13 := ⟨_, _, _, rfl, by decide, inX5, tb_at 309 (by decide +kernel) (by decide +kernel)⟩
theorem fX5_66 : fOK "MineDesk$Placements" 66 5 14 := ⟨_, _, _, rfl, by decide, inX5, tb_at 310 (by decide +kernel) (by decide +kernel)⟩
theorem pX5_66 : fPut "MineDesk$Placements" 66 5 14 .int := ⟨_, _, _, tyX5, rfl, by decide, inX5, tb_at 310 (by decide +kernel) (by decide +kernel), tyX5_ok, nmX5, rfl, by decide +kernel⟩
theorem fX5_70 : fOK "MineDesk$Placements" 70 1 0 := ⟨_, _, _, rfl, by decide, inX1, tb_at 188 (by decide +kernel) (by decide +kernel)⟩
theorem fX5_76 : fOK "MineDesk$Placements" 76 2 7 := ⟨_, _, _, rfl, by decide, inX2, tb_at 140 (by decide +kernel) (by decide +kernel)⟩
theorem fX5_81 : fOK "MineDesk$Placements" 81 1 3 := ⟨_, _, _, rfl, by decide, inX1, tb_at 201 (by decide +kernel) (by decide +kernel)⟩
theorem fX5_88 : fOK "MineDesk$Placements" 88 1 4 := ⟨_, _, _, rfl, by decide, inX1, tb_at 207 (by decide +kernel) (by decide +kernel)⟩
theorem fX5_103 : fOK "MineDesk$Placements" 103 2 3 := ⟨_, _, _, rfl, by decide, inX2, tb_at 128 (by decide +kernel) (by decide +kernel)⟩
theorem fX5_106 : fOK "MineDesk$Placements" 106 2 2 := ⟨_, _, _, rfl, by decide, inX2, tb_at 121 (by decide +kernel) (by decide +kernel)⟩
theorem fX5_112 : fOK "MineDesk$Placements" 112 2 0 := ⟨_, _, _, rfl, by decide, inX2, tb_at 112 (by decide +kernel) (by decide +kernel)⟩
theorem fX5_115 : fOK "MineDesk$Placements" 115 0 0 := ⟨_, _, _, rfl, by decide, inX0, tb_at 172 (by decide +kernel) (by decide +kernel)⟩
theorem fX5_121 : fOK "MineDesk$Placements" 121 2 1 := ⟨_, _, _, rfl, by decide, inX2, tb_at 116 (by decide +kernel) (by decide +kernel)⟩
theorem fX5_124 : fOK "MineDesk$Placements" 124 0 1 := ⟨_, _, _, rfl, by decide, inX0, tb_at 178 (by decide +kernel) (by decide +kernel)⟩
theorem fX6_12 : fOK "MineDesk$Reasoner" 12 6 0 := ⟨_, _, _, rfl, by decide, inX6, tb_at 350 (by decide +kernel) (by decide +kernel)⟩
theorem fX6_18 : fOK "MineDesk$Reasoner" 18 6 1 := ⟨_, _, _, rfl, by decide, inX6, tb_at 351 (by decide +kernel) (by decide +kernel)⟩
theorem fX6_21 : fOK "MineDesk$Reasoner" 21 6 5 := ⟨_, _, _, rfl, by decide, inX6, tb_at 359 (by decide +kernel) (by decide +kernel)⟩
theorem fX6_25 : fOK "MineDesk$Reasoner" 25 6 6 := ⟨_, _, _, rfl, by decide, inX6, tb_at 360 (by decide +kernel) (by decide +kernel)⟩
theorem fX6_28 : fOK "MineDesk$Reasoner" 28 6 7 := ⟨_, _, _, rfl, by decide, inX6, tb_at 361 (by decide +kernel) (by decide +kernel)⟩
theorem fX6_31 : fOK "MineDesk$Reasoner" 31 6 8 := ⟨_, _, _, rfl, by decide, inX6, tb_at 362 (by decide +kernel) (by decide +kernel)⟩
theorem fX6_34 : fOK "MineDesk$Reasoner" 34 6 9 := ⟨_, _, _, rfl, by decide, inX6, tb_at 363 (by decide +kernel) (by decide +kernel)⟩
theorem pX6_34 : fPut "MineDesk$Reasoner" 34 6 9 (.object "MineDesk$Board") := ⟨_, _, _, tyX6, rfl, by decide, inX6, tb_at 363 (by decide +kernel) (by decide +kernel), tyX6_ok, nmX6, rfl, by decide +kernel⟩
theorem fX6_38 : fOK "MineDesk$Reasoner" 38 6 4 := ⟨_, _, _, rfl, by decide, inX6, tb_at 358 (by decide +kernel) (by decide +kernel)⟩
theorem fX6_42 : fOK "MineDesk$Reasoner" 42 1 3 := ⟨_, _, _, rfl, by decide, inX1, tb_at 200 (by decide +kernel) (by decide +kernel)⟩
theorem fX6_51 : fOK "MineDesk$Reasoner" 51 1 5 := ⟨_, _, _, rfl, by decide, inX1, tb_at 212 (by decide +kernel) (by decide +kernel)⟩
theorem fX6_54 : fOK "MineDesk$Reasoner" 54 6 10 := ⟨_, _, _, rfl, by decide, inX6, tb_at 364 (by decide +kernel) (by decide +kernel)⟩
theorem pX6_54 : fPut "MineDesk$Reasoner" 54 6 10 .boolean := ⟨_, _, _, tyX6, rfl, by decide, inX6, tb_at 364 (by decide +kernel) (by decide +kernel), tyX6_ok, nmX6, rfl, by decide +kernel⟩
theorem fX6_58 : fOK "MineDesk$Reasoner" 58 6 11 := ⟨_, _, _, rfl, by decide, inX6, tb_at 365 (by decide +kernel) (by decide +kernel)⟩
theorem pX6_58 : fPut "MineDesk$Reasoner" 58 6 11 .boolean := ⟨_, _, _, tyX6, rfl, by decide, inX6, tb_at 365 (by decide +kernel) (by decide +kernel), tyX6_ok, nmX6, rfl, by decide +kernel⟩
theorem fX6_68 : fOK "MineDesk$Reasoner" 68 1 0 := ⟨_, _, _, rfl, by decide, inX1, tb_at 191 (by decide +kernel) (by decide +kernel)⟩
theorem fX6_72 : fOK "MineDesk$Reasoner" 72 2 7 := ⟨_, _, _, rfl, by decide, inX2, tb_at 144 (by decide +kernel) (by decide +kernel)⟩
theorem fX6_78 : fOK "MineDesk$Reasoner" 78 1 4 := ⟨_, _, _, rfl, by decide, inX1, tb_at 208 (by decide +kernel) (by decide +kernel)⟩
theorem fX6_97 : fOK "MineDesk$Reasoner" 97 6 12 := ⟨_, _, _, rfl, by decide, inX6, tb_at 366 (by decide +kernel) (by decide +kernel)⟩
theorem pX6_97 : fPut "MineDesk$Reasoner" 97 6 12 .boolean := ⟨_, _, _, tyX6, rfl, by decide, inX6, tb_at 366 (by decide +kernel) (by decide +kernel), tyX6_ok, nmX6, rfl, by decide +kernel⟩
theorem fX6_110 : fOK "MineDesk$Reasoner" 110 1 6 := ⟨_, _, _, rfl, by decide, inX1, tb_at 218 (by decide +kernel) (by decide +kernel)⟩
theorem fX6_113 : fOK "MineDesk$Reasoner" 113 6 2 := ⟨_, _, _, rfl, by decide, inX6, tb_at 353 (by decide +kernel) (by decide +kernel)⟩
theorem pX6_113 : fPut "MineDesk$Reasoner" 113 6 2 .boolean := ⟨_, _, _, tyX6, rfl, by decide, inX6, tb_at 353 (by decide +kernel) (by decide +kernel), tyX6_ok, nmX6, rfl, by decide +kernel⟩
theorem fX6_116 : fOK "MineDesk$Reasoner" 116 0 0 := ⟨_, _, _, rfl, by decide, inX0, tb_at 174 (by decide +kernel) (by decide +kernel)⟩
theorem pX6_116 : fPut "MineDesk$Reasoner" 116 0 0 .long := ⟨_, _, _, tyX0, rfl, by decide, inX0, tb_at 174 (by decide +kernel) (by decide +kernel), tyX0_ok, nmX0, rfl, by decide +kernel⟩
theorem fX6_120 : fOK "MineDesk$Reasoner" 120 0 1 := ⟨_, _, _, rfl, by decide, inX0, tb_at 180 (by decide +kernel) (by decide +kernel)⟩
theorem pX6_120 : fPut "MineDesk$Reasoner" 120 0 1 .long := ⟨_, _, _, tyX0, rfl, by decide, inX0, tb_at 180 (by decide +kernel) (by decide +kernel), tyX0_ok, nmX0, rfl, by decide +kernel⟩
theorem fX6_129 : fOK "MineDesk$Reasoner" 129 6 3 := ⟨_, _, _, rfl, by decide, inX6, tb_at 356 (by decide +kernel) (by decide +kernel)⟩
theorem pX6_129 : fPut "MineDesk$Reasoner" 129 6 3 .int := ⟨_, _, _, tyX6, rfl, by decide, inX6, tb_at 356 (by decide +kernel) (by decide +kernel), tyX6_ok, nmX6, rfl, by decide +kernel⟩
theorem fX6_132 : fOK "MineDesk$Reasoner" 132 2 0 := ⟨_, _, _, rfl, by decide, inX2, tb_at 114 (by decide +kernel) (by decide +kernel)⟩
theorem fX6_135 : fOK "MineDesk$Reasoner" 135 2 1 := ⟨_, _, _, rfl, by decide, inX2, tb_at 118 (by decide +kernel) (by decide +kernel)⟩
theorem fX6_160 : fOK "MineDesk$Reasoner" 160 2 3 := ⟨_, _, _, rfl, by decide, inX2, tb_at 131 (by decide +kernel) (by decide +kernel)⟩
theorem fX6_164 : fOK "MineDesk$Reasoner" 164 2 2 := ⟨_, _, _, rfl, by decide, inX2, tb_at 124 (by decide +kernel) (by decide +kernel)⟩
theorem fX6_173 : fOK "MineDesk$Reasoner" 173 5 0 := ⟨_, _, _, rfl, by decide, inX5, tb_at 295 (by decide +kernel) (by decide +kernel)⟩
theorem fX6_176 : fOK "MineDesk$Reasoner" 176 5 1 := ⟨_, _, _, rfl, by decide, inX5, tb_at 297 (by decide +kernel) (by decide +kernel)⟩
theorem fX7_9 : fOK "MineDesk$Search" 9 7 0 := ⟨_, _, _, rfl, by decide, inX7, tb_at 269 (by decide +kernel) (by decide +kernel)⟩
theorem fX7_15 : fOK "MineDesk$Search" 15 7 1 := ⟨_, _, _, rfl, by decide, inX7, tb_at 270 (by decide +kernel) (by decide +kernel)⟩
theorem fX7_18 : fOK "MineDesk$Search" 18 7 2 := ⟨_, _, _, rfl, by decide, inX7, tb_at 271 (by decide +kernel) (by decide +kernel)⟩
theorem fX7_21 : fOK "MineDesk$Search" 21 7 3 := ⟨_, _, _, rfl, by decide, inX7, tb_at 272 (by decide +kernel) (by decide +kernel)⟩
theorem fX7_24 : fOK "MineDesk$Search" 24 7 4 := ⟨_, _, _, rfl, by decide, inX7, tb_at 273 (by decide +kernel) (by decide +kernel)⟩
theorem fX7_27 : fOK "MineDesk$Search" 27 7 5 := ⟨_, _, _, rfl, by decide, inX7, tb_at 274 (by decide +kernel) (by decide +kernel)⟩
theorem fX7_30 : fOK "MineDesk$Search" 30 7 6 := ⟨_, _, _, rfl, by decide, inX7, tb_at 275 (by decide +kernel) (by decide +kernel)⟩
theorem fX7_33 : fOK "MineDesk$Search" 33 7 7 := ⟨_, _, _, rfl, by decide, inX7, tb_at 276 (by decide +kernel) (by decide +kernel)⟩
theorem pX7_33 : fPut "MineDesk$Search" 33 7 7 .int := ⟨_, _, _, tyX7, rfl, by decide, inX7, tb_at 276 (by decide +kernel) (by decide +kernel), tyX7_ok, nmX7, rfl, by decide +kernel⟩
theorem fX7_37 : fOK "MineDesk$Search" 37 1 0 := ⟨_, _, _, rfl, by decide, inX1, tb_at 192 (by decide +kernel) (by decide +kernel)⟩
theorem fX7_43 : fOK "MineDesk$Search" 43 2 3 := ⟨_, _, _, rfl, by decide, inX2, tb_at 130 (by decide +kernel) (by decide +kernel)⟩
theorem fX7_48 : fOK "MineDesk$Search" 48 2 2 := ⟨_, _, _, rfl, by decide, inX2, tb_at 123 (by decide +kernel) (by decide +kernel)⟩
theorem fX7_57 : fOK "MineDesk$Search" 57 1 5 := ⟨_, _, _, rfl, by decide, inX1, tb_at 215 (by decide +kernel) (by decide +kernel)⟩
theorem fX8_12 : fOK "MineDesk" 12 8 0 := ⟨_, _, _, rfl, by decide, inX8, tb_at 468 (by decide +kernel) (by decide +kernel)⟩
theorem fX8_19 : fOK "MineDesk" 19 8 1 := ⟨_, _, _, rfl, by decide, inX8, tb_at 469 (by decide +kernel) (by decide +kernel)⟩
theorem fX8_26 : fOK "MineDesk" 26 8 2 := ⟨_, _, _, rfl, by decide, inX8, tb_at 470 (by decide +kernel) (by decide +kernel)⟩
theorem fX8_35 : fOK "MineDesk" 35 8 3 := ⟨_, _, _, rfl, by decide, inX8, tb_at 471 (by decide +kernel) (by decide +kernel)⟩
theorem fX8_44 : fOK "MineDesk" 44 8 4 := ⟨_, _, _, rfl, by decide, inX8, tb_at 472 (by decide +kernel) (by decide +kernel)⟩
theorem fX8_51 : fOK "MineDesk" 51 8 5 := ⟨_, _, _, rfl, by decide, inX8, tb_at 473 (by decide +kernel) (by decide +kernel)⟩
theorem fX8_55 : fOK "MineDesk" 55 8 6 := ⟨_, _, _, rfl, by decide, inX8, tb_at 474 (by decide +kernel) (by decide +kernel)⟩
theorem fX8_71 : fOK "MineDesk" 71 1 0 := ⟨_, _, _, rfl, by decide, inX1, tb_at 189 (by decide +kernel) (by decide +kernel)⟩
theorem fX8_75 : fOK "MineDesk" 75 2 7 := ⟨_, _, _, rfl, by decide, inX2, tb_at 141 (by decide +kernel) (by decide +kernel)⟩
theorem fX8_83 : fOK "MineDesk" 83 1 3 := ⟨_, _, _, rfl, by decide, inX1, tb_at 202 (by decide +kernel) (by decide +kernel)⟩
theorem fX8_90 : fOK "MineDesk" 90 1 2 := ⟨_, _, _, rfl, by decide, inX1, tb_at 197 (by decide +kernel) (by decide +kernel)⟩
theorem fX8_103 : fOK "MineDesk" 103 3 1 := ⟨_, _, _, rfl, by decide, inX3, tb_at 407 (by decide +kernel) (by decide +kernel)⟩
theorem fX8_113 : fOK "MineDesk" 113 3 0 := ⟨_, _, _, rfl, by decide, inX3, tb_at 405 (by decide +kernel) (by decide +kernel)⟩
theorem fX8_118 : fOK "MineDesk" 118 3 2 := ⟨_, _, _, rfl, by decide, inX3, tb_at 409 (by decide +kernel) (by decide +kernel)⟩
theorem fX8_121 : fOK "MineDesk" 121 2 4 := ⟨_, _, _, rfl, by decide, inX2, tb_at 134 (by decide +kernel) (by decide +kernel)⟩
theorem fX8_124 : fOK "MineDesk" 124 2 5 := ⟨_, _, _, rfl, by decide, inX2, tb_at 136 (by decide +kernel) (by decide +kernel)⟩
theorem fX8_127 : fOK "MineDesk" 127 2 6 := ⟨_, _, _, rfl, by decide, inX2, tb_at 138 (by decide +kernel) (by decide +kernel)⟩
theorem fX8_130 : fOK "MineDesk" 130 1 4 := ⟨_, _, _, rfl, by decide, inX1, tb_at 210 (by decide +kernel) (by decide +kernel)⟩
theorem fX8_133 : fOK "MineDesk" 133 1 6 := ⟨_, _, _, rfl, by decide, inX1, tb_at 219 (by decide +kernel) (by decide +kernel)⟩
theorem fX8_136 : fOK "MineDesk" 136 1 5 := ⟨_, _, _, rfl, by decide, inX1, tb_at 214 (by decide +kernel) (by decide +kernel)⟩
theorem fX8_139 : fOK "MineDesk" 139 4 1 := ⟨_, _, _, rfl, by decide, inX4, tb_at 249 (by decide +kernel) (by decide +kernel)⟩
theorem pX8_139 : fPut "MineDesk" 139 4 1 .int := ⟨_, _, _, tyX4, rfl, by decide, inX4, tb_at 249 (by decide +kernel) (by decide +kernel), tyX4_ok, nmX4, rfl, by decide +kernel⟩
theorem fX8_141 : fOK "MineDesk" 141 2 3 := ⟨_, _, _, rfl, by decide, inX2, tb_at 129 (by decide +kernel) (by decide +kernel)⟩
theorem fX8_145 : fOK "MineDesk" 145 2 2 := ⟨_, _, _, rfl, by decide, inX2, tb_at 122 (by decide +kernel) (by decide +kernel)⟩
theorem fX8_189 : fOK "MineDesk" 189 6 3 := ⟨_, _, _, rfl, by decide, inX6, tb_at 357 (by decide +kernel) (by decide +kernel)⟩
theorem fX8_192 : fOK "MineDesk" 192 8 7 := ⟨_, _, _, rfl, by decide, inX8, tb_at 475 (by decide +kernel) (by decide +kernel)⟩
theorem pX8_192 : fPut "MineDesk" 192 8 7 .int := ⟨_, _, _, tyX8, rfl, by decide, inX8, tb_at 475 (by decide +kernel) (by decide +kernel), tyX8_ok, nmX8, rfl, by decide +kernel⟩
theorem fX8_195 : fOK "MineDesk" 195 6 1 := ⟨_, _, _, rfl, by decide, inX6, tb_at 352 (by decide +kernel) (by decide +kernel)⟩
theorem fX8_198 : fOK "MineDesk" 198 6 2 := ⟨_, _, _, rfl, by decide, inX6, tb_at 355 (by decide +kernel) (by decide +kernel)⟩
theorem fX9_7 : fOK "MineDeskModel" 7 9 0 := ⟨_, _, _, rfl, by decide, inX9, tb_at 978 (by decide +kernel) (by decide +kernel)⟩
theorem pX9_7 : fPut "MineDeskModel" 7 9 0 .int := ⟨_, _, _, tyX9, rfl, by decide, inX9, tb_at 978 (by decide +kernel) (by decide +kernel), tyX9_ok, nmX9, rfl, by decide +kernel⟩
theorem fX9_13 : fOK "MineDeskModel" 13 9 1 := ⟨_, _, _, rfl, by decide, inX9, tb_at 979 (by decide +kernel) (by decide +kernel)⟩
theorem pX9_13 : fPut "MineDeskModel" 13 9 1 .int := ⟨_, _, _, tyX9, rfl, by decide, inX9, tb_at 979 (by decide +kernel) (by decide +kernel), tyX9_ok, nmX9, rfl, by decide +kernel⟩
theorem fX9_16 : fOK "MineDeskModel" 16 9 3 := ⟨_, _, _, rfl, by decide, inX9, tb_at 981 (by decide +kernel) (by decide +kernel)⟩
theorem pX9_16 : fPut "MineDeskModel" 16 9 3 .int := ⟨_, _, _, tyX9, rfl, by decide, inX9, tb_at 981 (by decide +kernel) (by decide +kernel), tyX9_ok, nmX9, rfl, by decide +kernel⟩
theorem fX9_19 : fOK "MineDeskModel" 19 9 4 := ⟨_, _, _, rfl, by decide, inX9, tb_at 982 (by decide +kernel) (by decide +kernel)⟩
theorem fX9_23 : fOK "MineDeskModel" 23 9 5 := ⟨_, _, _, rfl, by decide, inX9, tb_at 983 (by decide +kernel) (by decide +kernel)⟩
theorem fX9_26 : fOK "MineDeskModel" 26 9 6 := ⟨_, _, _, rfl, by decide, inX9, tb_at 984 (by decide +kernel) (by decide +kernel)⟩
theorem fX9_30 : fOK "MineDeskModel" 30 9 7 := ⟨_, _, _, rfl, by decide, inX9, tb_at 985 (by decide +kernel) (by decide +kernel)⟩
theorem fX9_33 : fOK "MineDeskModel" 33 9 9 := ⟨_, _, _, rfl, by decide, inX9, tb_at 987 (by decide +kernel) (by decide +kernel)⟩
theorem fX9_36 : fOK "MineDeskModel" 36 9 11 := ⟨_, _, _, rfl, by decide, inX9, tb_at 989 (by decide +kernel) (by decide +kernel)⟩
theorem fX9_39 : fOK "MineDeskModel" 39 9 12 := ⟨_, _, _, rfl, by decide, inX9, tb_at 990 (by decide +kernel) (by decide +kernel)⟩
theorem fX9_42 : fOK "MineDeskModel" 42 9 13 := ⟨_, _, _, rfl, by decide, inX9, tb_at 991 (by decide +kernel) (by decide +kernel)⟩
theorem fX9_45 : fOK "MineDeskModel" 45 9 14 := ⟨_, _, _, rfl, by decide, inX9, tb_at 992 (by decide +kernel) (by decide +kernel)⟩
theorem pX9_45 : fPut "MineDeskModel" 45 9 14 .int := ⟨_, _, _, tyX9, rfl, by decide, inX9, tb_at 992 (by decide +kernel) (by decide +kernel), tyX9_ok, nmX9, rfl, by decide +kernel⟩
theorem fX9_48 : fOK "MineDeskModel" 48 9 17 := ⟨_, _, _, rfl, by decide, inX9, tb_at 995 (by decide +kernel) (by decide +kernel)⟩
theorem fX9_51 : fOK "MineDeskModel" 51 9 18 := ⟨_, _, _, rfl, by decide, inX9, tb_at 996 (by decide +kernel) (by decide +kernel)⟩
theorem fX9_54 : fOK "MineDeskModel" 54 9 19 := ⟨_, _, _, rfl, by decide, inX9, tb_at 997 (by decide +kernel) (by decide +kernel)⟩
theorem fX9_57 : fOK "MineDeskModel" 57 9 20 := ⟨_, _, _, rfl, by decide, inX9, tb_at 998 (by decide +kernel) (by decide +kernel)⟩
theorem fX9_60 : fOK "MineDeskModel" 60 9 21 := ⟨_, _, _, rfl, by decide, inX9, tb_at 999 (by decide +kernel) (by decide +kernel)⟩
theorem fX9_63 : fOK "MineDeskModel" 63 9 22 := ⟨_, _, _, rfl, by decide, inX9, tb_at 1000 (by decide +kernel) (by decide +kernel)⟩
theorem fX9_66 : fOK "MineDeskModel" 66 9 25 := ⟨_, _, _, rfl, by decide, inX9, tb_at 1003 (by decide +kernel) (by decide +kernel)⟩
theorem fX9_69 : fOK "MineDeskModel" 69 9 28 := ⟨_, _, _, rfl, by decide, inX9, tb_at 1006 (by decide +kernel) (by decide +kernel)⟩
theorem fX9_72 : fOK "MineDeskModel" 72 9 29 := ⟨_, _, _, rfl, by decide, inX9, tb_at 1007 (by decide +kernel) (by decide +kernel)⟩
theorem fX9_75 : fOK "MineDeskModel" 75 9 30 := ⟨_, _, _, rfl, by decide, inX9, tb_at 1008 (by decide +kernel) (by decide +kernel)⟩
theorem fX9_79 : fOK "MineDeskModel" 79 9 31 := ⟨_, _, _, rfl, by decide, inX9, tb_at 1009 (by decide +kernel) (by decide +kernel)⟩
theorem fX9_82 : fOK "MineDeskModel" 82 9 32 := ⟨_, _, _, rfl, by decide, inX9, tb_at 1010 (by decide +kernel) (by decide +kernel)⟩
theorem fX9_85 : fOK "MineDeskModel" 85 9 33 := ⟨_, _, _, rfl, by decide, inX9, tb_at 1011 (by decide +kernel) (by decide +kernel)⟩
theorem fX9_88 : fOK "MineDeskModel" 88 9 34 := ⟨_, _, _, rfl, by decide, inX9, tb_at 1012 (by decide +kernel) (by decide +kernel)⟩
theorem fX9_91 : fOK "MineDeskModel" 91 9 35 := ⟨_, _, _, rfl, by decide, inX9, tb_at 1013 (by decide +kernel) (by decide +kernel)⟩
theorem fX9_94 : fOK "MineDeskModel" 94 9 36 := ⟨_, _, _, rfl, by decide, inX9, tb_at 1014 (by decide +kernel) (by decide +kernel)⟩
theorem fX9_97 : fOK "MineDeskModel" 97 9 37 := ⟨_, _, _, rfl, by decide, inX9, tb_at 1015 (by decide +kernel) (by decide +kernel)⟩
theorem fX9_104 : fOK "MineDeskModel" 104 9 2 := ⟨_, _, _, rfl, by decide, inX9, tb_at 980 (by decide +kernel) (by decide +kernel)⟩
theorem pX9_104 : fPut "MineDeskModel" 104 9 2 .int := ⟨_, _, _, tyX9, rfl, by decide, inX9, tb_at 980 (by decide +kernel) (by decide +kernel), tyX9_ok, nmX9, rfl, by decide +kernel⟩
theorem fX9_110 : fOK "MineDeskModel" 110 9 10 := ⟨_, _, _, rfl, by decide, inX9, tb_at 988 (by decide +kernel) (by decide +kernel)⟩
theorem pX9_110 : fPut "MineDeskModel" 110 9 10 .int := ⟨_, _, _, tyX9, rfl, by decide, inX9, tb_at 988 (by decide +kernel) (by decide +kernel), tyX9_ok, nmX9, rfl, by decide +kernel⟩
theorem fX9_113 : fOK "MineDeskModel" 113 9 16 := ⟨_, _, _, rfl, by decide, inX9, tb_at 994 (by decide +kernel) (by decide +kernel)⟩
theorem pX9_113 : fPut "MineDeskModel" 113 9 16 .int := ⟨_, _, _, tyX9, rfl, by decide, inX9, tb_at 994 (by decide +kernel) (by decide +kernel), tyX9_ok, nmX9, rfl, by decide +kernel⟩
theorem fX9_162 : fOK "MineDeskModel" 162 9 23 := ⟨_, _, _, rfl, by decide, inX9, tb_at 1001 (by decide +kernel) (by decide +kernel)⟩
theorem pX9_162 : fPut "MineDeskModel" 162 9 23 .int := ⟨_, _, _, tyX9, rfl, by decide, inX9, tb_at 1001 (by decide +kernel) (by decide +kernel), tyX9_ok, nmX9, rfl, by decide +kernel⟩
theorem fX9_175 : fOK "MineDeskModel" 175 9 8 := ⟨_, _, _, rfl, by decide, inX9, tb_at 986 (by decide +kernel) (by decide +kernel)⟩
theorem pX9_175 : fPut "MineDeskModel" 175 9 8 .int := ⟨_, _, _, tyX9, rfl, by decide, inX9, tb_at 986 (by decide +kernel) (by decide +kernel), tyX9_ok, nmX9, rfl, by decide +kernel⟩
theorem fX9_234 : fOK "MineDeskModel" 234 9 24 := ⟨_, _, _, rfl, by decide, inX9, tb_at 1002 (by decide +kernel) (by decide +kernel)⟩
theorem pX9_234 : fPut "MineDeskModel" 234 9 24 .int := ⟨_, _, _, tyX9, rfl, by decide, inX9, tb_at 1002 (by decide +kernel) (by decide +kernel), tyX9_ok, nmX9, rfl, by decide +kernel⟩
theorem fX9_237 : fOK "MineDeskModel" 237 9 15 := ⟨_, _, _, rfl, by decide, inX9, tb_at 993 (by decide +kernel) (by decide +kernel)⟩
theorem pX9_237 : fPut "MineDeskModel" 237 9 15 .int := ⟨_, _, _, tyX9, rfl, by decide, inX9, tb_at 993 (by decide +kernel) (by decide +kernel), tyX9_ok, nmX9, rfl, by decide +kernel⟩
theorem fX9_250 : fOK "MineDeskModel" 250 9 26 := ⟨_, _, _, rfl, by decide, inX9, tb_at 1004 (by decide +kernel) (by decide +kernel)⟩
theorem pX9_250 : fPut "MineDeskModel" 250 9 26 .int := ⟨_, _, _, tyX9, rfl, by decide, inX9, tb_at 1004 (by decide +kernel) (by decide +kernel), tyX9_ok, nmX9, rfl, by decide +kernel⟩
theorem fX9_253 : fOK "MineDeskModel" 253 9 27 := ⟨_, _, _, rfl, by decide, inX9, tb_at 1005 (by decide +kernel) (by decide +kernel)⟩
theorem pX9_253 : fPut "MineDeskModel" 253 9 27 .int := ⟨_, _, _, tyX9, rfl, by decide, inX9, tb_at 1005 (by decide +kernel) (by decide +kernel), tyX9_ok, nmX9, rfl, by decide +kernel⟩
theorem mX0_18 : Cond.methodLink "MineDesk$Bits" 18 yX0_add ∈ gt_tbl := tb_at 535 (by decide +kernel) (by decide +kernel)
theorem mX0_22 : Cond.methodLink "MineDesk$Bits" 22 yX0_drop ∈ gt_tbl := tb_at 536 (by decide +kernel) (by decide +kernel)
theorem mX0_25 : Cond.methodLink "MineDesk$Bits" 25 yJ13_bitCount_95d88 ∈ gt_tbl := tb_at 521 (by decide +kernel) (by decide +kernel)
theorem mX0_31 : Cond.methodLink "MineDesk$Bits" 31 yX0_lowest ∈ gt_tbl := tb_at 770 (by decide +kernel) (by decide +kernel)
theorem mX0_34 : Cond.methodLink "MineDesk$Bits" 34 yX0_has ∈ gt_tbl := tb_at 563 (by decide +kernel) (by decide +kernel)
theorem mX1_47 : Cond.methodLink "MineDesk$Board" 47 yX2_lay ∈ gt_tbl := tb_at 429 (by decide +kernel) (by decide +kernel)
theorem mX1_51 : Cond.methodLink "MineDesk$Board" 51 yX0_clear ∈ gt_tbl := tb_at 452 (by decide +kernel) (by decide +kernel)
theorem mX1_58 : Cond.methodLink "MineDesk$Board" 58 yX0_add ∈ gt_tbl := tb_at 456 (by decide +kernel) (by decide +kernel)
theorem mX1_62 : Cond.methodLink "MineDesk$Board" 62 yX1_hideAll ∈ gt_tbl := tb_at 460 (by decide +kernel) (by decide +kernel)
theorem mX1_65 : Cond.methodLink "MineDesk$Board" 65 yX0_copy ∈ gt_tbl := tb_at 464 (by decide +kernel) (by decide +kernel)
theorem mX1_69 : Cond.methodLink "MineDesk$Board" 69 yX2_countNear ∈ gt_tbl := tb_at 588 (by decide +kernel) (by decide +kernel)
theorem mX1_84 : Cond.methodLink "MineDesk$Board" 84 yJ13_bitCount_95d88 ∈ gt_tbl := tb_at 620 (by decide +kernel) (by decide +kernel)
theorem mX1_93 : Cond.methodLink "MineDesk$Board" 93 yX0_size ∈ gt_tbl := tb_at 722 (by decide +kernel) (by decide +kernel)
theorem mX1_99 : Cond.methodLink "MineDesk$Board" 99 yX0_has ∈ gt_tbl := tb_at 578 (by decide +kernel) (by decide +kernel)
theorem mX1_103 : Cond.methodLink "MineDesk$Board" 103 yX0_drop ∈ gt_tbl := tb_at 579 (by decide +kernel) (by decide +kernel)
theorem mX1_106 : Cond.methodLink "MineDesk$Board" 106 yX1_show ∈ gt_tbl := tb_at 580 (by decide +kernel) (by decide +kernel)
theorem mX1_109 : Cond.methodLink "MineDesk$Board" 109 yX1_number ∈ gt_tbl := tb_at 584 (by decide +kernel) (by decide +kernel)
theorem mX1_113 : Cond.methodLink "MineDesk$Board" 113 yX1_showAround ∈ gt_tbl := tb_at 593 (by decide +kernel) (by decide +kernel)
theorem mX1_123 : Cond.methodLink "MineDesk$Board" 123 yX1_uncover ∈ gt_tbl := tb_at 835 (by decide +kernel) (by decide +kernel)
theorem mX1_126 : Cond.methodLink "MineDesk$Board" 126 yX1_isQuiet ∈ gt_tbl := tb_at 863 (by decide +kernel) (by decide +kernel)
theorem mX1_129 : Cond.methodLink "MineDesk$Board" 129 yX1_heapUp ∈ gt_tbl := tb_at 868 (by decide +kernel) (by decide +kernel)
theorem mX1_132 : Cond.methodLink "MineDesk$Board" 132 yX2_touches ∈ gt_tbl := tb_at 867 (by decide +kernel) (by decide +kernel)
theorem mX2_38 : Cond.methodLink "MineDesk$Grid" 38 yX2_layCell ∈ gt_tbl := tb_at 433 (by decide +kernel) (by decide +kernel)
theorem mX2_42 : Cond.methodLink "MineDesk$Grid" 42 yX2_at ∈ gt_tbl := tb_at 437 (by decide +kernel) (by decide +kernel)
theorem mX2_46 : Cond.methodLink "MineDesk$Grid" 46 yX2_link ∈ gt_tbl := tb_at 444 (by decide +kernel) (by decide +kernel)
theorem mX2_49 : Cond.methodLink "MineDesk$Grid" 49 yX2_wrap ∈ gt_tbl := tb_at 441 (by decide +kernel) (by decide +kernel)
theorem mX2_52 : Cond.methodLink "MineDesk$Grid" 52 yX2_linked ∈ gt_tbl := tb_at 448 (by decide +kernel) (by decide +kernel)
theorem mX2_65 : Cond.methodLink "MineDesk$Grid" 65 yJ13_bitCount_95d88 ∈ gt_tbl := tb_at 592 (by decide +kernel) (by decide +kernel)
theorem mX3_29 : Cond.methodLink "MineDesk$Maker" 29 yX1_start ∈ gt_tbl := tb_at 549 (by decide +kernel) (by decide +kernel)
theorem mX3_40 : Cond.methodLink "MineDesk$Maker" 40 yX0_copy ∈ gt_tbl := tb_at 550 (by decide +kernel) (by decide +kernel)
theorem mX3_44 : Cond.methodLink "MineDesk$Maker" 44 yX0_drop ∈ gt_tbl := tb_at 551 (by decide +kernel) (by decide +kernel)
theorem mX3_63 : Cond.methodLink "MineDesk$Maker" 63 yX0_size ∈ gt_tbl := tb_at 558 (by decide +kernel) (by decide +kernel)
theorem mX3_70 : Cond.methodLink "MineDesk$Maker" 70 yX0_nth ∈ gt_tbl := tb_at 559 (by decide +kernel) (by decide +kernel)
theorem mX3_77 : Cond.methodLink "MineDesk$Maker" 77 yX0_add ∈ gt_tbl := tb_at 564 (by decide +kernel) (by decide +kernel)
theorem mX3_83 : Cond.methodLink "MineDesk$Maker" 83 yX3_play ∈ gt_tbl := tb_at 569 (by decide +kernel) (by decide +kernel)
theorem mX3_87 : Cond.methodLink "MineDesk$Maker" 87 yX3_mend ∈ gt_tbl := tb_at 786 (by decide +kernel) (by decide +kernel)
theorem mX3_91 : Cond.methodLink "MineDesk$Maker" 91 yX1_hideAll ∈ gt_tbl := tb_at 573 (by decide +kernel) (by decide +kernel)
theorem mX3_94 : Cond.methodLink "MineDesk$Maker" 94 yX1_uncover ∈ gt_tbl := tb_at 574 (by decide +kernel) (by decide +kernel)
theorem mX3_97 : Cond.methodLink "MineDesk$Maker" 97 yX6_begin ∈ gt_tbl := tb_at 597 (by decide +kernel) (by decide +kernel)
theorem mX3_103 : Cond.methodLink "MineDesk$Maker" 103 yX1_cleared ∈ gt_tbl := tb_at 602 (by decide +kernel) (by decide +kernel)
theorem mX3_106 : Cond.methodLink "MineDesk$Maker" 106 yX6_find ∈ gt_tbl := tb_at 607 (by decide +kernel) (by decide +kernel)
theorem mX3_113 : Cond.methodLink "MineDesk$Maker" 113 yX6_accept ∈ gt_tbl := tb_at 772 (by decide +kernel) (by decide +kernel)
theorem mX3_116 : Cond.methodLink "MineDesk$Maker" 116 yX6_firstNews ∈ gt_tbl := tb_at 777 (by decide +kernel) (by decide +kernel)
theorem mX3_119 : Cond.methodLink "MineDesk$Maker" 119 yX6_goOn ∈ gt_tbl := tb_at 781 (by decide +kernel) (by decide +kernel)
theorem mX3_125 : Cond.methodLink "MineDesk$Maker" 125 yX0_has ∈ gt_tbl := tb_at 790 (by decide +kernel) (by decide +kernel)
theorem mX3_131 : Cond.methodLink "MineDesk$Maker" 131 yX2_touches ∈ gt_tbl := tb_at 791 (by decide +kernel) (by decide +kernel)
theorem mX4_46 : Cond.methodLink "MineDesk$Moves" 46 yX0_copy ∈ gt_tbl := tb_at 844 (by decide +kernel) (by decide +kernel)
theorem mX4_50 : Cond.methodLink "MineDesk$Moves" 50 yX0_leave ∈ gt_tbl := tb_at 845 (by decide +kernel) (by decide +kernel)
theorem mX5_63 : Cond.methodLink "MineDesk$Placements" 63 yX0_clear ∈ gt_tbl := tb_at 649 (by decide +kernel) (by decide +kernel)
theorem mX5_84 : Cond.methodLink "MineDesk$Placements" 84 yX0_has ∈ gt_tbl := tb_at 650 (by decide +kernel) (by decide +kernel)
theorem mX5_91 : Cond.methodLink "MineDesk$Placements" 91 yX2_touches ∈ gt_tbl := tb_at 651 (by decide +kernel) (by decide +kernel)
theorem mX5_95 : Cond.methodLink "MineDesk$Placements" 95 yX5_spread ∈ gt_tbl := tb_at 655 (by decide +kernel) (by decide +kernel)
theorem mX5_99 : Cond.methodLink "MineDesk$Placements" 99 yX0_add ∈ gt_tbl := tb_at 659 (by decide +kernel) (by decide +kernel)
theorem mX5_109 : Cond.methodLink "MineDesk$Placements" 109 yX5_listAround ∈ gt_tbl := tb_at 660 (by decide +kernel) (by decide +kernel)
theorem mX5_127 : Cond.methodLink "MineDesk$Placements" 127 yX7_clear ∈ gt_tbl := tb_at 669 (by decide +kernel) (by decide +kernel)
theorem mX5_128 : Cond.methodLink "MineDesk$Placements" 128 yX7_push ∈ gt_tbl := tb_at 673 (by decide +kernel) (by decide +kernel)
theorem mX5_131 : Cond.methodLink "MineDesk$Placements" 131 yX7_bind ∈ gt_tbl := tb_at 677 (by decide +kernel) (by decide +kernel)
theorem mX5_135 : Cond.methodLink "MineDesk$Placements" 135 yX7_run ∈ gt_tbl := tb_at 683 (by decide +kernel) (by decide +kernel)
theorem mX5_138 : Cond.methodLink "MineDesk$Placements" 138 yX5_keepCounts ∈ gt_tbl := tb_at 702 (by decide +kernel) (by decide +kernel)
theorem mX5_141 : Cond.methodLink "MineDesk$Placements" 141 yX7_found ∈ gt_tbl := tb_at 706 (by decide +kernel) (by decide +kernel)
theorem mX5_145 : Cond.methodLink "MineDesk$Placements" 145 yX7_foundHolding ∈ gt_tbl := tb_at 710 (by decide +kernel) (by decide +kernel)
theorem mX5_149 : Cond.methodLink "MineDesk$Placements" 149 yX1_minesLeft ∈ gt_tbl := tb_at 718 (by decide +kernel) (by decide +kernel)
theorem mX5_153 : Cond.methodLink "MineDesk$Placements" 153 yX0_size ∈ gt_tbl := tb_at 723 (by decide +kernel) (by decide +kernel)
theorem mX5_156 : Cond.methodLink "MineDesk$Placements" 156 yX5_sumWithout ∈ gt_tbl := tb_at 724 (by decide +kernel) (by decide +kernel)
theorem mX5_159 : Cond.methodLink "MineDesk$Placements" 159 yX5_forcePart ∈ gt_tbl := tb_at 733 (by decide +kernel) (by decide +kernel)
theorem mX5_163 : Cond.methodLink "MineDesk$Placements" 163 yX5_forceLoose ∈ gt_tbl := tb_at 745 (by decide +kernel) (by decide +kernel)
theorem mX5_167 : Cond.methodLink "MineDesk$Placements" 167 yX5_reaches ∈ gt_tbl := tb_at 737 (by decide +kernel) (by decide +kernel)
theorem mX5_171 : Cond.methodLink "MineDesk$Placements" 171 yX0_drop ∈ gt_tbl := tb_at 744 (by decide +kernel) (by decide +kernel)
theorem mX5_174 : Cond.methodLink "MineDesk$Placements" 174 yX0_copy ∈ gt_tbl := tb_at 732 (by decide +kernel) (by decide +kernel)
theorem mX5_178 : Cond.methodLink "MineDesk$Placements" 178 yX0_leave ∈ gt_tbl := tb_at 749 (by decide +kernel) (by decide +kernel)
theorem mX5_181 : Cond.methodLink "MineDesk$Placements" 181 yX0_join ∈ gt_tbl := tb_at 753 (by decide +kernel) (by decide +kernel)
theorem mX5_184 : Cond.methodLink "MineDesk$Placements" 184 yX0_joinMoved ∈ gt_tbl := tb_at 728 (by decide +kernel) (by decide +kernel)
theorem mX5_188 : Cond.methodLink "MineDesk$Placements" 188 yJ9_max_7cf53 ∈ gt_tbl := tb_at 741 (by decide +kernel) (by decide +kernel)
theorem mX5_193 : Cond.methodLink "MineDesk$Placements" 193 yX5_countWithout ∈ gt_tbl := tb_at 940 (by decide +kernel) (by decide +kernel)
theorem mX5_196 : Cond.methodLink "MineDesk$Placements" 196 yX5_chooseFrom ∈ gt_tbl := tb_at 948 (by decide +kernel) (by decide +kernel)
theorem mX5_199 : Cond.methodLink "MineDesk$Placements" 199 yX5_fill ∈ gt_tbl := tb_at 952 (by decide +kernel) (by decide +kernel)
theorem mX5_205 : Cond.methodLink "MineDesk$Placements" 205 yX5_startRow ∈ gt_tbl := tb_at 944 (by decide +kernel) (by decide +kernel)
theorem mX5_209 : Cond.methodLink "MineDesk$Placements" 209 yX5_pushAround ∈ gt_tbl := tb_at 917 (by decide +kernel) (by decide +kernel)
theorem mX5_213 : Cond.methodLink "MineDesk$Placements" 213 yX0_meet ∈ gt_tbl := tb_at 921 (by decide +kernel) (by decide +kernel)
theorem mX5_216 : Cond.methodLink "MineDesk$Placements" 216 yX7_size ∈ gt_tbl := tb_at 926 (by decide +kernel) (by decide +kernel)
theorem mX6_47 : Cond.methodLink "MineDesk$Reasoner" 47 yX0_copy ∈ gt_tbl := tb_at 601 (by decide +kernel) (by decide +kernel)
theorem mX6_61 : Cond.methodLink "MineDesk$Reasoner" 61 yX6_begin ∈ gt_tbl := tb_at 785 (by decide +kernel) (by decide +kernel)
theorem mX6_65 : Cond.methodLink "MineDesk$Reasoner" 65 yX0_meet ∈ gt_tbl := tb_at 762 (by decide +kernel) (by decide +kernel)
theorem mX6_81 : Cond.methodLink "MineDesk$Reasoner" 81 yX0_has ∈ gt_tbl := tb_at 611 (by decide +kernel) (by decide +kernel)
theorem mX6_85 : Cond.methodLink "MineDesk$Reasoner" 85 yX6_giveByOne ∈ gt_tbl := tb_at 612 (by decide +kernel) (by decide +kernel)
theorem mX6_88 : Cond.methodLink "MineDesk$Reasoner" 88 yX6_giveByTwo ∈ gt_tbl := tb_at 632 (by decide +kernel) (by decide +kernel)
theorem mX6_91 : Cond.methodLink "MineDesk$Reasoner" 91 yX5_gather ∈ gt_tbl := tb_at 645 (by decide +kernel) (by decide +kernel)
theorem mX6_100 : Cond.methodLink "MineDesk$Reasoner" 100 yX5_study ∈ gt_tbl := tb_at 665 (by decide +kernel) (by decide +kernel)
theorem mX6_103 : Cond.methodLink "MineDesk$Reasoner" 103 yX5_force ∈ gt_tbl := tb_at 714 (by decide +kernel) (by decide +kernel)
theorem mX6_106 : Cond.methodLink "MineDesk$Reasoner" 106 yX6_giveByAll ∈ gt_tbl := tb_at 757 (by decide +kernel) (by decide +kernel)
theorem mX6_123 : Cond.methodLink "MineDesk$Reasoner" 123 yX0_leave ∈ gt_tbl := tb_at 776 (by decide +kernel) (by decide +kernel)
theorem mX6_126 : Cond.methodLink "MineDesk$Reasoner" 126 yX0_join ∈ gt_tbl := tb_at 761 (by decide +kernel) (by decide +kernel)
theorem mX6_138 : Cond.methodLink "MineDesk$Reasoner" 138 yX1_due ∈ gt_tbl := tb_at 616 (by decide +kernel) (by decide +kernel)
theorem mX6_142 : Cond.methodLink "MineDesk$Reasoner" 142 yX6_give ∈ gt_tbl := tb_at 621 (by decide +kernel) (by decide +kernel)
theorem mX6_146 : Cond.methodLink "MineDesk$Reasoner" 146 yX0_clear ∈ gt_tbl := tb_at 626 (by decide +kernel) (by decide +kernel)
theorem mX6_149 : Cond.methodLink "MineDesk$Reasoner" 149 yX6_blame ∈ gt_tbl := tb_at 627 (by decide +kernel) (by decide +kernel)
theorem mX6_153 : Cond.methodLink "MineDesk$Reasoner" 153 yX0_lowest ∈ gt_tbl := tb_at 636 (by decide +kernel) (by decide +kernel)
theorem mX6_157 : Cond.methodLink "MineDesk$Reasoner" 157 yX2_holds ∈ gt_tbl := tb_at 639 (by decide +kernel) (by decide +kernel)
theorem mX6_169 : Cond.methodLink "MineDesk$Reasoner" 169 yX6_giveByPair ∈ gt_tbl := tb_at 641 (by decide +kernel) (by decide +kernel)
theorem mX6_179 : Cond.methodLink "MineDesk$Reasoner" 179 yX0_least ∈ gt_tbl := tb_at 766 (by decide +kernel) (by decide +kernel)
theorem mX6_183 : Cond.methodLink "MineDesk$Reasoner" 183 yX0_add ∈ gt_tbl := tb_at 631 (by decide +kernel) (by decide +kernel)
theorem mX6_186 : Cond.methodLink "MineDesk$Reasoner" 186 yX2_touches ∈ gt_tbl := tb_at 771 (by decide +kernel) (by decide +kernel)
theorem mX6_190 : Cond.methodLink "MineDesk$Reasoner" 190 yJ13_bitCount_95d88 ∈ gt_tbl := tb_at 625 (by decide +kernel) (by decide +kernel)
theorem mX7_51 : Cond.methodLink "MineDesk$Search" 51 yX0_has ∈ gt_tbl := tb_at 681 (by decide +kernel) (by decide +kernel)
theorem mX7_61 : Cond.methodLink "MineDesk$Search" 61 yX1_due ∈ gt_tbl := tb_at 682 (by decide +kernel) (by decide +kernel)
theorem mX7_66 : Cond.methodLink "MineDesk$Search" 66 yX7_fits ∈ gt_tbl := tb_at 688 (by decide +kernel) (by decide +kernel)
theorem mX7_70 : Cond.methodLink "MineDesk$Search" 70 yX7_note ∈ gt_tbl := tb_at 698 (by decide +kernel) (by decide +kernel)
theorem mX7_74 : Cond.methodLink "MineDesk$Search" 74 yJ6_bitCount_0f7a4 ∈ gt_tbl := tb_at 692 (by decide +kernel) (by decide +kernel)
theorem mX8_58 : Cond.methodLink "MineDesk" 58 yX1_start ∈ gt_tbl := tb_at 425 (by decide +kernel) (by decide +kernel)
theorem mX8_62 : Cond.methodLink "MineDesk" 62 yX2_fits ∈ gt_tbl := tb_at 497 (by decide +kernel) (by decide +kernel)
theorem mX8_68 : Cond.methodLink "MineDesk" 68 yX8_forget ∈ gt_tbl := tb_at 500 (by decide +kernel) (by decide +kernel)
theorem mX8_79 : Cond.methodLink "MineDesk" 79 yX2_holds ∈ gt_tbl := tb_at 513 (by decide +kernel) (by decide +kernel)
theorem mX8_86 : Cond.methodLink "MineDesk" 86 yX0_size ∈ gt_tbl := tb_at 517 (by decide +kernel) (by decide +kernel)
theorem mX8_93 : Cond.methodLink "MineDesk" 93 yX0_has ∈ gt_tbl := tb_at 527 (by decide +kernel) (by decide +kernel)
theorem mX8_96 : Cond.methodLink "MineDesk" 96 yX0_put ∈ gt_tbl := tb_at 531 (by decide +kernel) (by decide +kernel)
theorem mX8_100 : Cond.methodLink "MineDesk" 100 yX3_prepare ∈ gt_tbl := tb_at 545 (by decide +kernel) (by decide +kernel)
theorem mX8_106 : Cond.methodLink "MineDesk" 106 yX3_draw ∈ gt_tbl := tb_at 552 (by decide +kernel) (by decide +kernel)
theorem mX8_110 : Cond.methodLink "MineDesk" 110 yX3_mendToClear ∈ gt_tbl := tb_at 565 (by decide +kernel) (by decide +kernel)
theorem mX8_114 : Cond.methodLink "MineDesk" 114 yX0_copy ∈ gt_tbl := tb_at 792 (by decide +kernel) (by decide +kernel)
theorem mX8_148 : Cond.methodLink "MineDesk" 148 yX4_keep ∈ gt_tbl := tb_at 813 (by decide +kernel) (by decide +kernel)
theorem mX8_152 : Cond.methodLink "MineDesk" 152 yX1_uncover ∈ gt_tbl := tb_at 817 (by decide +kernel) (by decide +kernel)
theorem mX8_156 : Cond.methodLink "MineDesk" 156 yX1_number ∈ gt_tbl := tb_at 818 (by decide +kernel) (by decide +kernel)
theorem mX8_160 : Cond.methodLink "MineDesk" 160 yX1_marked ∈ gt_tbl := tb_at 827 (by decide +kernel) (by decide +kernel)
theorem mX8_163 : Cond.methodLink "MineDesk" 163 yX1_uncoverAround ∈ gt_tbl := tb_at 831 (by decide +kernel) (by decide +kernel)
theorem mX8_166 : Cond.methodLink "MineDesk" 166 yX4_takeBack ∈ gt_tbl := tb_at 840 (by decide +kernel) (by decide +kernel)
theorem mX8_170 : Cond.methodLink "MineDesk" 170 yX1_cleared ∈ gt_tbl := tb_at 854 (by decide +kernel) (by decide +kernel)
theorem mX8_174 : Cond.methodLink "MineDesk" 174 yX1_leastOpenings ∈ gt_tbl := tb_at 859 (by decide +kernel) (by decide +kernel)
theorem mX8_177 : Cond.methodLink "MineDesk" 177 yX8_forgetHint ∈ gt_tbl := tb_at 505 (by decide +kernel) (by decide +kernel)
theorem mX8_180 : Cond.methodLink "MineDesk" 180 yX6_begin ∈ gt_tbl := tb_at 876 (by decide +kernel) (by decide +kernel)
theorem mX8_183 : Cond.methodLink "MineDesk" 183 yX6_find ∈ gt_tbl := tb_at 877 (by decide +kernel) (by decide +kernel)
theorem mX8_186 : Cond.methodLink "MineDesk" 186 yX6_firstNews ∈ gt_tbl := tb_at 878 (by decide +kernel) (by decide +kernel)
theorem mX8_202 : Cond.methodLink "MineDesk" 202 yX6_accept ∈ gt_tbl := tb_at 879 (by decide +kernel) (by decide +kernel)
theorem mX8_205 : Cond.methodLink "MineDesk" 205 yX0_nth ∈ gt_tbl := tb_at 888 (by decide +kernel) (by decide +kernel)
theorem mX8_209 : Cond.methodLink "MineDesk" 209 yX8_putTold ∈ gt_tbl := tb_at 901 (by decide +kernel) (by decide +kernel)
theorem mX8_213 : Cond.methodLink "MineDesk" 213 yX5_studyTold ∈ gt_tbl := tb_at 913 (by decide +kernel) (by decide +kernel)
theorem mX8_217 : Cond.methodLink "MineDesk" 217 yX5_fitsOpposite ∈ gt_tbl := tb_at 922 (by decide +kernel) (by decide +kernel)
theorem mX8_221 : Cond.methodLink "MineDesk" 221 yX5_gather ∈ gt_tbl := tb_at 934 (by decide +kernel) (by decide +kernel)
theorem mX8_224 : Cond.methodLink "MineDesk" 224 yX5_study ∈ gt_tbl := tb_at 935 (by decide +kernel) (by decide +kernel)
theorem mX8_227 : Cond.methodLink "MineDesk" 227 yX5_countAll ∈ gt_tbl := tb_at 936 (by decide +kernel) (by decide +kernel)
theorem mX8_231 : Cond.methodLink "MineDesk" 231 yX5_countHolding ∈ gt_tbl := tb_at 960 (by decide +kernel) (by decide +kernel)
theorem mX8_235 : Cond.methodLink "MineDesk" 235 yX0_clear ∈ gt_tbl := tb_at 504 (by decide +kernel) (by decide +kernel)
theorem mX9_100 : Cond.methodLink "MineDeskModel" 100 yX9_layOut ∈ gt_tbl := tb_at 970 (by decide +kernel) (by decide +kernel)
theorem mX9_107 : Cond.methodLink "MineDeskModel" 107 yX9_join ∈ gt_tbl := tb_at 974 (by decide +kernel) (by decide +kernel)
theorem mX9_116 : Cond.methodLink "MineDeskModel" 116 yX9_isBoard ∈ gt_tbl := tb_at 1098 (by decide +kernel) (by decide +kernel)
theorem mX9_120 : Cond.methodLink "MineDeskModel" 120 yX9_hideAll ∈ gt_tbl := tb_at 1101 (by decide +kernel) (by decide +kernel)
theorem mX9_123 : Cond.methodLink "MineDeskModel" 123 yX9_forget ∈ gt_tbl := tb_at 1105 (by decide +kernel) (by decide +kernel)
theorem mX9_126 : Cond.methodLink "MineDeskModel" 126 yX9_isCell ∈ gt_tbl := tb_at 1113 (by decide +kernel) (by decide +kernel)
theorem mX9_130 : Cond.methodLink "MineDeskModel" 130 yX9_inState ∈ gt_tbl := tb_at 1117 (by decide +kernel) (by decide +kernel)
theorem mX9_134 : Cond.methodLink "MineDeskModel" 134 yX9_mines ∈ gt_tbl := tb_at 1121 (by decide +kernel) (by decide +kernel)
theorem mX9_138 : Cond.methodLink "MineDeskModel" 138 yX9_isNear ∈ gt_tbl := tb_at 1133 (by decide +kernel) (by decide +kernel)
theorem mX9_142 : Cond.methodLink "MineDeskModel" 142 yX9_numberOf ∈ gt_tbl := tb_at 1156 (by decide +kernel) (by decide +kernel)
theorem mX9_147 : Cond.methodLink "MineDeskModel" 147 yX9_canBeMined ∈ gt_tbl := tb_at 1129 (by decide +kernel) (by decide +kernel)
theorem mX9_151 : Cond.methodLink "MineDeskModel" 151 yX9_uncover ∈ gt_tbl := tb_at 1152 (by decide +kernel) (by decide +kernel)
theorem mX9_155 : Cond.methodLink "MineDeskModel" 155 yX9_isSolved ∈ gt_tbl := tb_at 1160 (by decide +kernel) (by decide +kernel)
theorem mX9_159 : Cond.methodLink "MineDeskModel" 159 yX9_find ∈ gt_tbl := tb_at 1164 (by decide +kernel) (by decide +kernel)
theorem mX9_165 : Cond.methodLink "MineDeskModel" 165 yX9_nearState ∈ gt_tbl := tb_at 1192 (by decide +kernel) (by decide +kernel)
theorem mX9_169 : Cond.methodLink "MineDeskModel" 169 yX9_keepBoard ∈ gt_tbl := tb_at 1137 (by decide +kernel) (by decide +kernel)
theorem mX9_172 : Cond.methodLink "MineDeskModel" 172 yX9_drawMines ∈ gt_tbl := tb_at 1141 (by decide +kernel) (by decide +kernel)
theorem mX9_178 : Cond.methodLink "MineDeskModel" 178 yX9_plays ∈ gt_tbl := tb_at 1148 (by decide +kernel) (by decide +kernel)
theorem mX9_181 : Cond.methodLink "MineDeskModel" 181 yX9_mends ∈ gt_tbl := tb_at 1249 (by decide +kernel) (by decide +kernel)
theorem mX9_183 : Cond.methodLink "MineDeskModel" 183 yX9_bringBack ∈ gt_tbl := tb_at 1253 (by decide +kernel) (by decide +kernel)
theorem mX9_186 : Cond.methodLink "MineDeskModel" 186 yX9_move ∈ gt_tbl := tb_at 1277 (by decide +kernel) (by decide +kernel)
theorem mX9_189 : Cond.methodLink "MineDeskModel" 189 yX9_flagsNear ∈ gt_tbl := tb_at 1289 (by decide +kernel) (by decide +kernel)
theorem mX9_192 : Cond.methodLink "MineDeskModel" 192 yX9_isBare ∈ gt_tbl := tb_at 1309 (by decide +kernel) (by decide +kernel)
theorem mX9_195 : Cond.methodLink "MineDeskModel" 195 yX9_isUnsure ∈ gt_tbl := tb_at 1184 (by decide +kernel) (by decide +kernel)
theorem mX9_198 : Cond.methodLink "MineDeskModel" 198 yX9_unsure ∈ gt_tbl := tb_at 1180 (by decide +kernel) (by decide +kernel)
theorem mX9_201 : Cond.methodLink "MineDeskModel" 201 yX9_due ∈ gt_tbl := tb_at 1188 (by decide +kernel) (by decide +kernel)
theorem mX9_204 : Cond.methodLink "MineDeskModel" 204 yX9_becauseOf ∈ gt_tbl := tb_at 1196 (by decide +kernel) (by decide +kernel)
theorem mX9_207 : Cond.methodLink "MineDeskModel" 207 yX9_isWithin ∈ gt_tbl := tb_at 1204 (by decide +kernel) (by decide +kernel)
theorem mX9_210 : Cond.methodLink "MineDeskModel" 210 yX9_findParts ∈ gt_tbl := tb_at 1212 (by decide +kernel) (by decide +kernel)
theorem mX9_213 : Cond.methodLink "MineDeskModel" 213 yX9_findWays ∈ gt_tbl := tb_at 1216 (by decide +kernel) (by decide +kernel)
theorem mX9_216 : Cond.methodLink "MineDeskModel" 216 yX9_canBe ∈ gt_tbl := tb_at 1232 (by decide +kernel) (by decide +kernel)
theorem mX9_219 : Cond.methodLink "MineDeskModel" 219 yX9_clearGiven ∈ gt_tbl := tb_at 1172 (by decide +kernel) (by decide +kernel)
theorem mX9_222 : Cond.methodLink "MineDeskModel" 222 yX9_ruleOne ∈ gt_tbl := tb_at 1176 (by decide +kernel) (by decide +kernel)
theorem mX9_225 : Cond.methodLink "MineDeskModel" 225 yX9_ruleTwo ∈ gt_tbl := tb_at 1200 (by decide +kernel) (by decide +kernel)
theorem mX9_228 : Cond.methodLink "MineDeskModel" 228 yX9_ruleThree ∈ gt_tbl := tb_at 1208 (by decide +kernel) (by decide +kernel)
theorem mX9_231 : Cond.methodLink "MineDeskModel" 231 yX9_rule ∈ gt_tbl := tb_at 1168 (by decide +kernel) (by decide +kernel)
theorem mX9_240 : Cond.methodLink "MineDeskModel" 240 yX9_change ∈ gt_tbl := tb_at 1337 (by decide +kernel) (by decide +kernel)
theorem mX9_244 : Cond.methodLink "MineDeskModel" 244 yX9_spokenOf ∈ gt_tbl := tb_at 1349 (by decide +kernel) (by decide +kernel)
theorem mX9_247 : Cond.methodLink "MineDeskModel" 247 yX9_bits ∈ gt_tbl := tb_at 1353 (by decide +kernel) (by decide +kernel)
theorem mX9_256 : Cond.methodLink "MineDeskModel" 256 yX9_fits ∈ gt_tbl := tb_at 1224 (by decide +kernel) (by decide +kernel)
theorem mX9_259 : Cond.methodLink "MineDeskModel" 259 yX9_countOne ∈ gt_tbl := tb_at 1228 (by decide +kernel) (by decide +kernel)
theorem mX9_263 : Cond.methodLink "MineDeskModel" 263 yX9_tryPart ∈ gt_tbl := tb_at 1220 (by decide +kernel) (by decide +kernel)
theorem mX9_266 : Cond.methodLink "MineDeskModel" 266 yX9_addPart ∈ gt_tbl := tb_at 1240 (by decide +kernel) (by decide +kernel)
theorem mX9_272 : Cond.methodLink "MineDeskModel" 272 yX9_sumParts ∈ gt_tbl := tb_at 1236 (by decide +kernel) (by decide +kernel)
theorem mX9_276 : Cond.methodLink "MineDeskModel" 276 yX9_mineLeft ∈ gt_tbl := tb_at 1245 (by decide +kernel) (by decide +kernel)
theorem mX9_279 : Cond.methodLink "MineDeskModel" 279 yX9_findChoices ∈ gt_tbl := tb_at 1364 (by decide +kernel) (by decide +kernel)
theorem mX9_282 : Cond.methodLink "MineDeskModel" 282 yX9_together ∈ gt_tbl := tb_at 1360 (by decide +kernel) (by decide +kernel)
theorem qX0_16 : Cond.constantLong "MineDesk$Bits" 16 (-1) ∈ gt_tbl := tb_at 540 (by decide +kernel) (by decide +kernel)
theorem qX1_97 : Cond.constantLong "MineDesk$Board" 97 (-1) ∈ gt_tbl := tb_at 606 (by decide +kernel) (by decide +kernel)
theorem qX3_61 : Cond.constant "MineDesk$Maker" 61 (2147483647) ∈ gt_tbl := tb_at 556 (by decide +kernel) (by decide +kernel)
theorem qX3_62 : Cond.constant "MineDesk$Maker" 62 (1103515245) ∈ gt_tbl := tb_at 557 (by decide +kernel) (by decide +kernel)
theorem qX5_119 : Cond.constantLong "MineDesk$Placements" 119 (-1) ∈ gt_tbl := tb_at 664 (by decide +kernel) (by decide +kernel)
theorem qX5_203 : Cond.constantLong "MineDesk$Placements" 203 (1000000007) ∈ gt_tbl := tb_at 947 (by decide +kernel) (by decide +kernel)
theorem qX6_167 : Cond.constantLong "MineDesk$Reasoner" 167 (-1) ∈ gt_tbl := tb_at 640 (by decide +kernel) (by decide +kernel)
theorem qX7_65 : Cond.constant "MineDesk$Search" 65 (100000) ∈ gt_tbl := tb_at 687 (by decide +kernel) (by decide +kernel)
theorem qX9_145 : Cond.constant "MineDeskModel" 145 (2147483647) ∈ gt_tbl := tb_at 1145 (by decide +kernel) (by decide +kernel)
theorem qX9_146 : Cond.constant "MineDeskModel" 146 (1103515245) ∈ gt_tbl := tb_at 1146 (by decide +kernel) (by decide +kernel)
theorem qX9_150 : Cond.constant "MineDeskModel" 150 (65536) ∈ gt_tbl := tb_at 1147 (by decide +kernel) (by decide +kernel)
theorem qX9_270 : Cond.constantLong "MineDeskModel" 270 (1000000007) ∈ gt_tbl := tb_at 1244 (by decide +kernel) (by decide +kernel)
set_option maxRecDepth 100000 in
theorem mx_code : Cond.code Lib.Math.max.name Lib.Math.max.code 2 (some .int) ∈ gt_tbl := tb_at 743 (by decide +kernel) (by decide +kernel)
theorem mx_ini : Cond.initialized "java/lang/Math" ∈ gt_tbl := tb_at 90 (by decide +kernel) (by decide +kernel)
theorem mx_st : Cond.static Lib.Math.max.name ∈ gt_tbl := tb_at 742 (by decide +kernel) (by decide +kernel)
