theorem rr_ldcw {G : tg_G} {Z : zM} {pc pc' : Nat} {lv : List (Nat × Value)} {st : List Value} {I : tg_I} {J : tg_J} {P : Option Value → tg_I → tg_J → Prop} {i : Nat} {v : Int32} (hd : decode (z_c Z) pc = .ok (.ldc_w i, 3)) (hw : Cond.constant (z_y Z).cls i v ∈ gt_tbl) (e : pc + 3 = pc') (hk : rr G Z pc' lv (.int v :: st) I J P) : rr G Z pc lv st I J P := by
  subst e
  intro p l e s m args below meth c D ad cA A Qc H locs ls C hD hA hl hP hS hr
  exact lv_ldcw C.1 C.2.1 C.2.2.2.2.1 (C.2.2.2.2.2.1 _ hw) hd (hk C hD hA hl hP hS hr)
theorem qJ6_265 : Cond.constant "java/lang/Integer" 265 (1431655765) ∈ gt_tbl := tb_at 695 (by decide +kernel) (by decide +kernel)
theorem qJ6_266 : Cond.constant "java/lang/Integer" 266 (858993459) ∈ gt_tbl := tb_at 696 (by decide +kernel) (by decide +kernel)
theorem qJ6_267 : Cond.constant "java/lang/Integer" 267 (252645135) ∈ gt_tbl := tb_at 697 (by decide +kernel) (by decide +kernel)
theorem qJ13_314 : Cond.constantLong "java/lang/Long" 314 (6148914691236517205) ∈ gt_tbl := tb_at 524 (by decide +kernel) (by decide +kernel)
theorem qJ13_316 : Cond.constantLong "java/lang/Long" 316 (3689348814741910323) ∈ gt_tbl := tb_at 525 (by decide +kernel) (by decide +kernel)
theorem qJ13_318 : Cond.constantLong "java/lang/Long" 318 (1085102592571150095) ∈ gt_tbl := tb_at 526 (by decide +kernel) (by decide +kernel)
theorem e_J6_bitCount_0f7a4 {I : tg_I} {J : tg_J} {P : Option Value → tg_I → tg_J → Prop} (v0 : Int32) (h :
  ∀ x1, x1 = (v0 - (((v0.toUInt32 >>> ((1 : Int32).toUInt32 &&& Int32.toUInt32 31)).toInt32) &&& (1431655765 : Int32))) →
  ∀ x2, x2 = ((x1 &&& (858993459 : Int32)) + (((x1.toUInt32 >>> ((2 : Int32).toUInt32 &&& Int32.toUInt32 31)).toInt32) &&& (858993459 : Int32))) →
  ∀ x3, x3 = ((x2 + ((x2.toUInt32 >>> ((4 : Int32).toUInt32 &&& Int32.toUInt32 31)).toInt32)) &&& (252645135 : Int32)) →
  ∀ x4, x4 = (x3 + ((x3.toUInt32 >>> ((8 : Int32).toUInt32 &&& Int32.toUInt32 31)).toInt32)) →
  ∀ x5, x5 = (x4 + ((x4.toUInt32 >>> ((16 : Int32).toUInt32 &&& Int32.toUInt32 31)).toInt32)) →
  P (some (.int (x5 &&& (63 : Int32)))) I J) : call pgX zJ6_bitCount_0f7a4 [.int v0] I J P := by
  refine call_of (by decide +kernel) (fun _ => Nat.le_of_ble_eq_true rfl) ?_
  show rr pgX zJ6_bitCount_0f7a4 0 [(0, .int v0)] [] I J P
  refine rr_iload_n dJ6_bitCount_0f7a4_0 rfl 0 rfl rfl ?_
  refine rr_iload_n dJ6_bitCount_0f7a4_1 rfl 0 rfl rfl ?_
  refine rr_iconst (v := (1 : Int32)) dJ6_bitCount_0f7a4_2 (by decide) rfl ?_
  refine rr_iushr dJ6_bitCount_0f7a4_3 rfl ?_
  refine rr_ldcw dJ6_bitCount_0f7a4_4 qJ6_265 rfl ?_
  refine rr_iand dJ6_bitCount_0f7a4_7 rfl ?_
  refine rr_isub dJ6_bitCount_0f7a4_8 rfl ?_
  refine rr_letTi (fun x1 hx1 => ?_)
  have h := h x1 hx1
  refine rr_istore_n (lv' := [(0, .int x1)]) dJ6_bitCount_0f7a4_9 rfl (by decide) rfl rfl ?_
  refine rr_iload_n dJ6_bitCount_0f7a4_10 rfl 0 rfl rfl ?_
  refine rr_ldcw dJ6_bitCount_0f7a4_11 qJ6_266 rfl ?_
  refine rr_iand dJ6_bitCount_0f7a4_14 rfl ?_
  refine rr_iload_n dJ6_bitCount_0f7a4_15 rfl 0 rfl rfl ?_
  refine rr_iconst (v := (2 : Int32)) dJ6_bitCount_0f7a4_16 (by decide) rfl ?_
  refine rr_iushr dJ6_bitCount_0f7a4_17 rfl ?_
  refine rr_ldcw dJ6_bitCount_0f7a4_18 qJ6_266 rfl ?_
  refine rr_iand dJ6_bitCount_0f7a4_21 rfl ?_
  refine rr_iadd dJ6_bitCount_0f7a4_22 rfl ?_
  refine rr_letTi (fun x2 hx2 => ?_)
  have h := h x2 hx2
  refine rr_istore_n (lv' := [(0, .int x2)]) dJ6_bitCount_0f7a4_23 rfl (by decide) rfl rfl ?_
  refine rr_iload_n dJ6_bitCount_0f7a4_24 rfl 0 rfl rfl ?_
  refine rr_iload_n dJ6_bitCount_0f7a4_25 rfl 0 rfl rfl ?_
  refine rr_iconst (v := (4 : Int32)) dJ6_bitCount_0f7a4_26 (by decide) rfl ?_
  refine rr_iushr dJ6_bitCount_0f7a4_27 rfl ?_
  refine rr_iadd dJ6_bitCount_0f7a4_28 rfl ?_
  refine rr_ldcw dJ6_bitCount_0f7a4_29 qJ6_267 rfl ?_
  refine rr_iand dJ6_bitCount_0f7a4_32 rfl ?_
  refine rr_letTi (fun x3 hx3 => ?_)
  have h := h x3 hx3
  refine rr_istore_n (lv' := [(0, .int x3)]) dJ6_bitCount_0f7a4_33 rfl (by decide) rfl rfl ?_
  refine rr_iload_n dJ6_bitCount_0f7a4_34 rfl 0 rfl rfl ?_
  refine rr_iload_n dJ6_bitCount_0f7a4_35 rfl 0 rfl rfl ?_
  refine rr_bipush (v := (8 : Int32)) dJ6_bitCount_0f7a4_36 (by decide) rfl ?_
  refine rr_iushr dJ6_bitCount_0f7a4_38 rfl ?_
  refine rr_iadd dJ6_bitCount_0f7a4_39 rfl ?_
  refine rr_letTi (fun x4 hx4 => ?_)
  have h := h x4 hx4
  refine rr_istore_n (lv' := [(0, .int x4)]) dJ6_bitCount_0f7a4_40 rfl (by decide) rfl rfl ?_
  refine rr_iload_n dJ6_bitCount_0f7a4_41 rfl 0 rfl rfl ?_
  refine rr_iload_n dJ6_bitCount_0f7a4_42 rfl 0 rfl rfl ?_
  refine rr_bipush (v := (16 : Int32)) dJ6_bitCount_0f7a4_43 (by decide) rfl ?_
  refine rr_iushr dJ6_bitCount_0f7a4_45 rfl ?_
  refine rr_iadd dJ6_bitCount_0f7a4_46 rfl ?_
  refine rr_letTi (fun x5 hx5 => ?_)
  have h := h x5 hx5
  refine rr_istore_n (lv' := [(0, .int x5)]) dJ6_bitCount_0f7a4_47 rfl (by decide) rfl rfl ?_
  refine rr_iload_n dJ6_bitCount_0f7a4_48 rfl 0 rfl rfl ?_
  refine rr_bipush (v := (63 : Int32)) dJ6_bitCount_0f7a4_49 (by decide) rfl ?_
  refine rr_iand dJ6_bitCount_0f7a4_51 rfl ?_
  exact rr_iret dJ6_bitCount_0f7a4_52 rfl h

theorem e_J13_bitCount_95d88 {I : tg_I} {J : tg_J} {P : Option Value → tg_I → tg_J → Prop} (v0 : Int64) (h :
  ∀ y1, y1 = (v0 - (((v0.toUInt64 >>> ((1 : Int32).toInt64.toUInt64 &&& Int64.toUInt64 63)).toInt64) &&& (6148914691236517205 : Int64))) →
  ∀ y2, y2 = ((y1 &&& (3689348814741910323 : Int64)) + (((y1.toUInt64 >>> ((2 : Int32).toInt64.toUInt64 &&& Int64.toUInt64 63)).toInt64) &&& (3689348814741910323 : Int64))) →
  ∀ y3, y3 = ((y2 + ((y2.toUInt64 >>> ((4 : Int32).toInt64.toUInt64 &&& Int64.toUInt64 63)).toInt64)) &&& (1085102592571150095 : Int64)) →
  ∀ y4, y4 = (y3 + ((y3.toUInt64 >>> ((8 : Int32).toInt64.toUInt64 &&& Int64.toUInt64 63)).toInt64)) →
  ∀ y5, y5 = (y4 + ((y4.toUInt64 >>> ((16 : Int32).toInt64.toUInt64 &&& Int64.toUInt64 63)).toInt64)) →
  ∀ y6, y6 = (y5 + ((y5.toUInt64 >>> ((32 : Int32).toInt64.toUInt64 &&& Int64.toUInt64 63)).toInt64)) →
  P (some (.int ((Int64.toInt32 y6) &&& (127 : Int32)))) I J) : call pgX zJ13_bitCount_95d88 [.long v0] I J P := by
  refine call_of (by decide +kernel) (fun _ => Nat.le_of_ble_eq_true rfl) ?_
  show rr pgX zJ13_bitCount_95d88 0 [(0, .long v0)] [] I J P
  refine rr_lload_n dJ13_bitCount_95d88_0 rfl 0 rfl rfl ?_
  refine rr_lload_n dJ13_bitCount_95d88_1 rfl 0 rfl rfl ?_
  refine rr_iconst (v := (1 : Int32)) dJ13_bitCount_95d88_2 (by decide) rfl ?_
  refine rr_lushr dJ13_bitCount_95d88_3 rfl ?_
  refine rr_ldc2 dJ13_bitCount_95d88_4 qJ13_314 rfl ?_
  refine rr_land dJ13_bitCount_95d88_7 rfl ?_
  refine rr_lsub dJ13_bitCount_95d88_8 rfl ?_
  refine rr_letTl (fun y1 hy1 => ?_)
  have h := h y1 hy1
  refine rr_lstore_n (lv' := [(0, .long y1)]) dJ13_bitCount_95d88_9 rfl (by decide) rfl rfl ?_
  refine rr_lload_n dJ13_bitCount_95d88_10 rfl 0 rfl rfl ?_
  refine rr_ldc2 dJ13_bitCount_95d88_11 qJ13_316 rfl ?_
  refine rr_land dJ13_bitCount_95d88_14 rfl ?_
  refine rr_lload_n dJ13_bitCount_95d88_15 rfl 0 rfl rfl ?_
  refine rr_iconst (v := (2 : Int32)) dJ13_bitCount_95d88_16 (by decide) rfl ?_
  refine rr_lushr dJ13_bitCount_95d88_17 rfl ?_
  refine rr_ldc2 dJ13_bitCount_95d88_18 qJ13_316 rfl ?_
  refine rr_land dJ13_bitCount_95d88_21 rfl ?_
  refine rr_ladd dJ13_bitCount_95d88_22 rfl ?_
  refine rr_letTl (fun y2 hy2 => ?_)
  have h := h y2 hy2
  refine rr_lstore_n (lv' := [(0, .long y2)]) dJ13_bitCount_95d88_23 rfl (by decide) rfl rfl ?_
  refine rr_lload_n dJ13_bitCount_95d88_24 rfl 0 rfl rfl ?_
  refine rr_lload_n dJ13_bitCount_95d88_25 rfl 0 rfl rfl ?_
  refine rr_iconst (v := (4 : Int32)) dJ13_bitCount_95d88_26 (by decide) rfl ?_
  refine rr_lushr dJ13_bitCount_95d88_27 rfl ?_
  refine rr_ladd dJ13_bitCount_95d88_28 rfl ?_
  refine rr_ldc2 dJ13_bitCount_95d88_29 qJ13_318 rfl ?_
  refine rr_land dJ13_bitCount_95d88_32 rfl ?_
  refine rr_letTl (fun y3 hy3 => ?_)
  have h := h y3 hy3
  refine rr_lstore_n (lv' := [(0, .long y3)]) dJ13_bitCount_95d88_33 rfl (by decide) rfl rfl ?_
  refine rr_lload_n dJ13_bitCount_95d88_34 rfl 0 rfl rfl ?_
  refine rr_lload_n dJ13_bitCount_95d88_35 rfl 0 rfl rfl ?_
  refine rr_bipush (v := (8 : Int32)) dJ13_bitCount_95d88_36 (by decide) rfl ?_
  refine rr_lushr dJ13_bitCount_95d88_38 rfl ?_
  refine rr_ladd dJ13_bitCount_95d88_39 rfl ?_
  refine rr_letTl (fun y4 hy4 => ?_)
  have h := h y4 hy4
  refine rr_lstore_n (lv' := [(0, .long y4)]) dJ13_bitCount_95d88_40 rfl (by decide) rfl rfl ?_
  refine rr_lload_n dJ13_bitCount_95d88_41 rfl 0 rfl rfl ?_
  refine rr_lload_n dJ13_bitCount_95d88_42 rfl 0 rfl rfl ?_
  refine rr_bipush (v := (16 : Int32)) dJ13_bitCount_95d88_43 (by decide) rfl ?_
  refine rr_lushr dJ13_bitCount_95d88_45 rfl ?_
  refine rr_ladd dJ13_bitCount_95d88_46 rfl ?_
  refine rr_letTl (fun y5 hy5 => ?_)
  have h := h y5 hy5
  refine rr_lstore_n (lv' := [(0, .long y5)]) dJ13_bitCount_95d88_47 rfl (by decide) rfl rfl ?_
  refine rr_lload_n dJ13_bitCount_95d88_48 rfl 0 rfl rfl ?_
  refine rr_lload_n dJ13_bitCount_95d88_49 rfl 0 rfl rfl ?_
  refine rr_bipush (v := (32 : Int32)) dJ13_bitCount_95d88_50 (by decide) rfl ?_
  refine rr_lushr dJ13_bitCount_95d88_52 rfl ?_
  refine rr_ladd dJ13_bitCount_95d88_53 rfl ?_
  refine rr_letTl (fun y6 hy6 => ?_)
  have h := h y6 hy6
  refine rr_lstore_n (lv' := [(0, .long y6)]) dJ13_bitCount_95d88_54 rfl (by decide) rfl rfl ?_
  refine rr_lload_n dJ13_bitCount_95d88_55 rfl 0 rfl rfl ?_
  refine rr_l2i dJ13_bitCount_95d88_56 rfl ?_
  refine rr_bipush (v := (127 : Int32)) dJ13_bitCount_95d88_57 (by decide) rfl ?_
  refine rr_iand dJ13_bitCount_95d88_59 rfl ?_
  exact rr_iret dJ13_bitCount_95d88_60 rfl h

