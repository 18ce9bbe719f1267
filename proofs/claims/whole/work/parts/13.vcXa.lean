theorem e_X0_clear {I : tg_I} {J : tg_J} {P : Option Value → tg_I → tg_J → Prop} (k0 : Nat) (hk0 : isBits k0) (h :
  ∀ J1, J1 = u2 J k0 0 (0 : Int64) →
  ∀ J2, J2 = u2 J1 k0 1 (0 : Int64) →
  P none I J2) : call pgX zX0_clear [.ref k0] I J P := by
  refine call_of (by decide +kernel) (fun _ => Nat.le_of_ble_eq_true rfl) ?_
  show rr pgX zX0_clear 0 [(0, .ref k0)] [] I J P
  refine rr_aload_n dX0_clear_0 rfl 0 rfl rfl ?_
  refine rr_lconst (v := (0 : Int64)) dX0_clear_1 (by decide) rfl ?_
  refine rr_putJ dX0_clear_2 pX0_7 hk0.1 hk0.2 rfl rfl ?_
  refine rr_letJ (fun J1 hJ1 => ?_)
  have h := h J1 hJ1
  refine rr_aload_n dX0_clear_5 rfl 0 rfl rfl ?_
  refine rr_lconst (v := (0 : Int64)) dX0_clear_6 (by decide) rfl ?_
  refine rr_putJ dX0_clear_7 pX0_13 hk0.1 hk0.2 rfl rfl ?_
  refine rr_letJ (fun J2 hJ2 => ?_)
  have h := h J2 hJ2
  exact rr_vret dX0_clear_10 rfl h

theorem e_X0_copy {I : tg_I} {J : tg_J} {P : Option Value → tg_I → tg_J → Prop} (k0 : Nat) (k1 : Nat) (hk0 : isBits k0) (hk1 : isBits k1) (h :
  ∀ J1, J1 = u2 J k0 0 (J k1 0) →
  ∀ J2, J2 = u2 J1 k0 1 (J1 k1 1) →
  P none I J2) : call pgX zX0_copy [.ref k0, .ref k1] I J P := by
  refine call_of (by decide +kernel) (fun _ => Nat.le_of_ble_eq_true rfl) ?_
  show rr pgX zX0_copy 0 [(0, .ref k0), (1, .ref k1)] [] I J P
  refine rr_aload_n dX0_copy_0 rfl 0 rfl rfl ?_
  refine rr_aload_n dX0_copy_1 rfl 1 rfl rfl ?_
  refine rr_getJ dX0_copy_2 fX0_7 hk1.1 hk1.2 rfl rfl ?_
  refine rr_putJ dX0_copy_5 pX0_7 hk0.1 hk0.2 rfl rfl ?_
  refine rr_letJ (fun J1 hJ1 => ?_)
  have h := h J1 hJ1
  refine rr_aload_n dX0_copy_8 rfl 0 rfl rfl ?_
  refine rr_aload_n dX0_copy_9 rfl 1 rfl rfl ?_
  refine rr_getJ dX0_copy_10 fX0_13 hk1.1 hk1.2 rfl rfl ?_
  refine rr_putJ dX0_copy_13 pX0_13 hk0.1 hk0.2 rfl rfl ?_
  refine rr_letJ (fun J2 hJ2 => ?_)
  have h := h J2 hJ2
  exact rr_vret dX0_copy_16 rfl h

theorem e_X0_has {I : tg_I} {J : tg_J} {P : Option Value → tg_I → tg_J → Prop} (k0 : Nat) (v1 : Int32) (hk0 : isBits k0) (h :
  ((64 : Int32) ≤ v1 →
   ((lg_cmp ((((J k0 1).toUInt64 >>> (v1.toInt64.toUInt64 &&& Int64.toUInt64 63)).toInt64) &&& (1 : Int64)) (0 : Int64)) = 0 →
     P (some (.int (0 : Int32))) I J) ∧
    (¬ (lg_cmp ((((J k0 1).toUInt64 >>> (v1.toInt64.toUInt64 &&& Int64.toUInt64 63)).toInt64) &&& (1 : Int64)) (0 : Int64)) = 0 →
     P (some (.int (1 : Int32))) I J)) ∧
  (¬ (64 : Int32) ≤ v1 →
   ((lg_cmp ((((J k0 0).toUInt64 >>> (v1.toInt64.toUInt64 &&& Int64.toUInt64 63)).toInt64) &&& (1 : Int64)) (0 : Int64)) = 0 →
     P (some (.int (0 : Int32))) I J) ∧
    (¬ (lg_cmp ((((J k0 0).toUInt64 >>> (v1.toInt64.toUInt64 &&& Int64.toUInt64 63)).toInt64) &&& (1 : Int64)) (0 : Int64)) = 0 →
     P (some (.int (1 : Int32))) I J))) : call pgX zX0_has [.ref k0, .int v1] I J P := by
  refine call_of (by decide +kernel) (fun _ => Nat.le_of_ble_eq_true rfl) ?_
  show rr pgX zX0_has 0 [(0, .ref k0), (1, .int v1)] [] I J P
  refine rr_iload_n dX0_has_0 rfl 1 rfl rfl ?_
  refine rr_bipush (v := (64 : Int32)) dX0_has_1 (by decide) rfl ?_
  refine rr_icmp_ge (tgt := 13) dX0_has_3 (by decide) rfl ⟨fun hc => ?_, fun hc => ?_⟩
  · have h := h.1 hc
    refine rr_aload_n dX0_has_13 rfl 0 rfl rfl ?_
    refine rr_getJ dX0_has_14 fX0_13 hk0.1 hk0.2 rfl rfl ?_
    refine rr_iload_n dX0_has_17 rfl 1 rfl rfl ?_
    refine rr_lushr dX0_has_18 rfl ?_
    refine rr_lconst (v := (1 : Int64)) dX0_has_19 (by decide) rfl ?_
    refine rr_land dX0_has_20 rfl ?_
    refine rr_lconst (v := (0 : Int64)) dX0_has_21 (by decide) rfl ?_
    refine rr_lcmp dX0_has_22 rfl ?_
    refine rr_if_eq (tgt := 30) dX0_has_23 (by decide) rfl ⟨fun hc => ?_, fun hc => ?_⟩
    · have h := h.1 hc
      refine rr_iconst (v := (0 : Int32)) dX0_has_30 (by decide) rfl ?_
      exact rr_zret dX0_has_31 rfl rfl h
    · have h := h.2 hc
      refine rr_iconst (v := (1 : Int32)) dX0_has_26 (by decide) rfl ?_
      refine rr_goto (tgt := 31) dX0_has_27 (by decide) ?_
      exact rr_zret dX0_has_31 rfl rfl h
  · have h := h.2 hc
    refine rr_aload_n dX0_has_6 rfl 0 rfl rfl ?_
    refine rr_getJ dX0_has_7 fX0_7 hk0.1 hk0.2 rfl rfl ?_
    refine rr_goto (tgt := 17) dX0_has_10 (by decide) ?_
    refine rr_iload_n dX0_has_17 rfl 1 rfl rfl ?_
    refine rr_lushr dX0_has_18 rfl ?_
    refine rr_lconst (v := (1 : Int64)) dX0_has_19 (by decide) rfl ?_
    refine rr_land dX0_has_20 rfl ?_
    refine rr_lconst (v := (0 : Int64)) dX0_has_21 (by decide) rfl ?_
    refine rr_lcmp dX0_has_22 rfl ?_
    refine rr_if_eq (tgt := 30) dX0_has_23 (by decide) rfl ⟨fun hc => ?_, fun hc => ?_⟩
    · have h := h.1 hc
      refine rr_iconst (v := (0 : Int32)) dX0_has_30 (by decide) rfl ?_
      exact rr_zret dX0_has_31 rfl rfl h
    · have h := h.2 hc
      refine rr_iconst (v := (1 : Int32)) dX0_has_26 (by decide) rfl ?_
      refine rr_goto (tgt := 31) dX0_has_27 (by decide) ?_
      exact rr_zret dX0_has_31 rfl rfl h

theorem e_X0_add {I : tg_I} {J : tg_J} {P : Option Value → tg_I → tg_J → Prop} (k0 : Nat) (v1 : Int32) (hk0 : isBits k0) (h :
  ((64 : Int32) ≤ v1 →
   ∀ J1, J1 = u2 J k0 1 ((J k0 1) ||| ((1 : Int64) <<< (v1.toInt64 &&& 63))) →
    P none I J1) ∧
  (¬ (64 : Int32) ≤ v1 →
   ∀ J2, J2 = u2 J k0 0 ((J k0 0) ||| ((1 : Int64) <<< (v1.toInt64 &&& 63))) →
    P none I J2)) : call pgX zX0_add [.ref k0, .int v1] I J P := by
  refine call_of (by decide +kernel) (fun _ => Nat.le_of_ble_eq_true rfl) ?_
  show rr pgX zX0_add 0 [(0, .ref k0), (1, .int v1)] [] I J P
  refine rr_iload_n dX0_add_0 rfl 1 rfl rfl ?_
  refine rr_bipush (v := (64 : Int32)) dX0_add_1 (by decide) rfl ?_
  refine rr_icmp_ge (tgt := 21) dX0_add_3 (by decide) rfl ⟨fun hc => ?_, fun hc => ?_⟩
  · have h := h.1 hc
    refine rr_aload_n dX0_add_21 rfl 0 rfl rfl ?_
    refine rr_dup dX0_add_22 rfl rfl ?_
    refine rr_getJ dX0_add_23 fX0_13 hk0.1 hk0.2 rfl rfl ?_
    refine rr_lconst (v := (1 : Int64)) dX0_add_26 (by decide) rfl ?_
    refine rr_iload_n dX0_add_27 rfl 1 rfl rfl ?_
    refine rr_lshl dX0_add_28 rfl ?_
    refine rr_lor dX0_add_29 rfl ?_
    refine rr_putJ dX0_add_30 pX0_13 hk0.1 hk0.2 rfl rfl ?_
    refine rr_letJ (fun J1 hJ1 => ?_)
    have h := h J1 hJ1
    exact rr_vret dX0_add_33 rfl h
  · have h := h.2 hc
    refine rr_aload_n dX0_add_6 rfl 0 rfl rfl ?_
    refine rr_dup dX0_add_7 rfl rfl ?_
    refine rr_getJ dX0_add_8 fX0_7 hk0.1 hk0.2 rfl rfl ?_
    refine rr_lconst (v := (1 : Int64)) dX0_add_11 (by decide) rfl ?_
    refine rr_iload_n dX0_add_12 rfl 1 rfl rfl ?_
    refine rr_lshl dX0_add_13 rfl ?_
    refine rr_lor dX0_add_14 rfl ?_
    refine rr_putJ dX0_add_15 pX0_7 hk0.1 hk0.2 rfl rfl ?_
    refine rr_letJ (fun J2 hJ2 => ?_)
    have h := h J2 hJ2
    refine rr_goto (tgt := 33) dX0_add_18 (by decide) ?_
    exact rr_vret dX0_add_33 rfl h

theorem e_X0_drop {I : tg_I} {J : tg_J} {P : Option Value → tg_I → tg_J → Prop} (k0 : Nat) (v1 : Int32) (hk0 : isBits k0) (h :
  ((64 : Int32) ≤ v1 →
   ∀ J1, J1 = u2 J k0 1 ((J k0 1) &&& (((1 : Int64) <<< (v1.toInt64 &&& 63)) ^^^ (-1 : Int64))) →
    P none I J1) ∧
  (¬ (64 : Int32) ≤ v1 →
   ∀ J2, J2 = u2 J k0 0 ((J k0 0) &&& (((1 : Int64) <<< (v1.toInt64 &&& 63)) ^^^ (-1 : Int64))) →
    P none I J2)) : call pgX zX0_drop [.ref k0, .int v1] I J P := by
  refine call_of (by decide +kernel) (fun _ => Nat.le_of_ble_eq_true rfl) ?_
  show rr pgX zX0_drop 0 [(0, .ref k0), (1, .int v1)] [] I J P
  refine rr_iload_n dX0_drop_0 rfl 1 rfl rfl ?_
  refine rr_bipush (v := (64 : Int32)) dX0_drop_1 (by decide) rfl ?_
  refine rr_icmp_ge (tgt := 25) dX0_drop_3 (by decide) rfl ⟨fun hc => ?_, fun hc => ?_⟩
  · have h := h.1 hc
    refine rr_aload_n dX0_drop_25 rfl 0 rfl rfl ?_
    refine rr_dup dX0_drop_26 rfl rfl ?_
    refine rr_getJ dX0_drop_27 fX0_13 hk0.1 hk0.2 rfl rfl ?_
    refine rr_lconst (v := (1 : Int64)) dX0_drop_30 (by decide) rfl ?_
    refine rr_iload_n dX0_drop_31 rfl 1 rfl rfl ?_
    refine rr_lshl dX0_drop_32 rfl ?_
    refine rr_ldc2 dX0_drop_33 qX0_16 rfl ?_
    refine rr_lxor dX0_drop_36 rfl ?_
    refine rr_land dX0_drop_37 rfl ?_
    refine rr_putJ dX0_drop_38 pX0_13 hk0.1 hk0.2 rfl rfl ?_
    refine rr_letJ (fun J1 hJ1 => ?_)
    have h := h J1 hJ1
    exact rr_vret dX0_drop_41 rfl h
  · have h := h.2 hc
    refine rr_aload_n dX0_drop_6 rfl 0 rfl rfl ?_
    refine rr_dup dX0_drop_7 rfl rfl ?_
    refine rr_getJ dX0_drop_8 fX0_7 hk0.1 hk0.2 rfl rfl ?_
    refine rr_lconst (v := (1 : Int64)) dX0_drop_11 (by decide) rfl ?_
    refine rr_iload_n dX0_drop_12 rfl 1 rfl rfl ?_
    refine rr_lshl dX0_drop_13 rfl ?_
    refine rr_ldc2 dX0_drop_14 qX0_16 rfl ?_
    refine rr_lxor dX0_drop_17 rfl ?_
    refine rr_land dX0_drop_18 rfl ?_
    refine rr_putJ dX0_drop_19 pX0_7 hk0.1 hk0.2 rfl rfl ?_
    refine rr_letJ (fun J2 hJ2 => ?_)
    have h := h J2 hJ2
    refine rr_goto (tgt := 41) dX0_drop_22 (by decide) ?_
    exact rr_vret dX0_drop_41 rfl h

theorem e_X0_put {I : tg_I} {J : tg_J} {P : Option Value → tg_I → tg_J → Prop} (k0 : Nat) (v1 : Int32) (v2 : Int32) (hk0 : isBits k0) (h :
  (v2 = 0 →
   call pgX zX0_drop [.ref k0, .int v1] I J (fun vr I1 J1 => vr = none ∧
    (P none I1 J1))) ∧
  (¬ v2 = 0 →
   call pgX zX0_add [.ref k0, .int v1] I J (fun vr I2 J2 => vr = none ∧
    (P none I2 J2)))) : call pgX zX0_put [.ref k0, .int v1, .int v2] I J P := by
  refine call_of (by decide +kernel) (fun _ => Nat.le_of_ble_eq_true rfl) ?_
  show rr pgX zX0_put 0 [(0, .ref k0), (1, .int v1), (2, .int v2)] [] I J P
  refine rr_iload_n dX0_put_0 rfl 2 rfl rfl ?_
  refine rr_if_eq (tgt := 12) dX0_put_1 (by decide) rfl ⟨fun hc => ?_, fun hc => ?_⟩
  · have h := h.1 hc
    refine rr_aload_n dX0_put_12 rfl 0 rfl rfl ?_
    refine rr_iload_n dX0_put_13 rfl 1 rfl rfl ?_
    refine rr_V [.int v1] [] dX0_put_14 kX0_drop mX0_22 ⟨by decide, by decide⟩ hk0.1 hk0.2 rfl rfl (Nat.le_of_ble_eq_true rfl) rfl (h.mono fun vr I1 J1 h => ?_)
    obtain ⟨rfl, h⟩ := h
    show rr pgX zX0_put 17 _ [] _ _ _
    exact rr_vret dX0_put_17 rfl h
  · have h := h.2 hc
    refine rr_aload_n dX0_put_4 rfl 0 rfl rfl ?_
    refine rr_iload_n dX0_put_5 rfl 1 rfl rfl ?_
    refine rr_V [.int v1] [] dX0_put_6 kX0_add mX0_18 ⟨by decide, by decide⟩ hk0.1 hk0.2 rfl rfl (Nat.le_of_ble_eq_true rfl) rfl (h.mono fun vr I2 J2 h => ?_)
    obtain ⟨rfl, h⟩ := h
    show rr pgX zX0_put 9 _ [] _ _ _
    refine rr_goto (tgt := 17) dX0_put_9 (by decide) ?_
    exact rr_vret dX0_put_17 rfl h

theorem e_X0_join {I : tg_I} {J : tg_J} {P : Option Value → tg_I → tg_J → Prop} (k0 : Nat) (k1 : Nat) (hk0 : isBits k0) (hk1 : isBits k1) (h :
  ∀ J1, J1 = u2 J k0 0 ((J k0 0) ||| (J k1 0)) →
  ∀ J2, J2 = u2 J1 k0 1 ((J1 k0 1) ||| (J1 k1 1)) →
  P none I J2) : call pgX zX0_join [.ref k0, .ref k1] I J P := by
  refine call_of (by decide +kernel) (fun _ => Nat.le_of_ble_eq_true rfl) ?_
  show rr pgX zX0_join 0 [(0, .ref k0), (1, .ref k1)] [] I J P
  refine rr_aload_n dX0_join_0 rfl 0 rfl rfl ?_
  refine rr_dup dX0_join_1 rfl rfl ?_
  refine rr_getJ dX0_join_2 fX0_7 hk0.1 hk0.2 rfl rfl ?_
  refine rr_aload_n dX0_join_5 rfl 1 rfl rfl ?_
  refine rr_getJ dX0_join_6 fX0_7 hk1.1 hk1.2 rfl rfl ?_
  refine rr_lor dX0_join_9 rfl ?_
  refine rr_putJ dX0_join_10 pX0_7 hk0.1 hk0.2 rfl rfl ?_
  refine rr_letJ (fun J1 hJ1 => ?_)
  have h := h J1 hJ1
  refine rr_aload_n dX0_join_13 rfl 0 rfl rfl ?_
  refine rr_dup dX0_join_14 rfl rfl ?_
  refine rr_getJ dX0_join_15 fX0_13 hk0.1 hk0.2 rfl rfl ?_
  refine rr_aload_n dX0_join_18 rfl 1 rfl rfl ?_
  refine rr_getJ dX0_join_19 fX0_13 hk1.1 hk1.2 rfl rfl ?_
  refine rr_lor dX0_join_22 rfl ?_
  refine rr_putJ dX0_join_23 pX0_13 hk0.1 hk0.2 rfl rfl ?_
  refine rr_letJ (fun J2 hJ2 => ?_)
  have h := h J2 hJ2
  exact rr_vret dX0_join_26 rfl h

theorem e_X0_meet {I : tg_I} {J : tg_J} {P : Option Value → tg_I → tg_J → Prop} (k0 : Nat) (k1 : Nat) (hk0 : isBits k0) (hk1 : isBits k1) (h :
  ∀ J1, J1 = u2 J k0 0 ((J k0 0) &&& (J k1 0)) →
  ∀ J2, J2 = u2 J1 k0 1 ((J1 k0 1) &&& (J1 k1 1)) →
  P none I J2) : call pgX zX0_meet [.ref k0, .ref k1] I J P := by
  refine call_of (by decide +kernel) (fun _ => Nat.le_of_ble_eq_true rfl) ?_
  show rr pgX zX0_meet 0 [(0, .ref k0), (1, .ref k1)] [] I J P
  refine rr_aload_n dX0_meet_0 rfl 0 rfl rfl ?_
  refine rr_dup dX0_meet_1 rfl rfl ?_
  refine rr_getJ dX0_meet_2 fX0_7 hk0.1 hk0.2 rfl rfl ?_
  refine rr_aload_n dX0_meet_5 rfl 1 rfl rfl ?_
  refine rr_getJ dX0_meet_6 fX0_7 hk1.1 hk1.2 rfl rfl ?_
  refine rr_land dX0_meet_9 rfl ?_
  refine rr_putJ dX0_meet_10 pX0_7 hk0.1 hk0.2 rfl rfl ?_
  refine rr_letJ (fun J1 hJ1 => ?_)
  have h := h J1 hJ1
  refine rr_aload_n dX0_meet_13 rfl 0 rfl rfl ?_
  refine rr_dup dX0_meet_14 rfl rfl ?_
  refine rr_getJ dX0_meet_15 fX0_13 hk0.1 hk0.2 rfl rfl ?_
  refine rr_aload_n dX0_meet_18 rfl 1 rfl rfl ?_
  refine rr_getJ dX0_meet_19 fX0_13 hk1.1 hk1.2 rfl rfl ?_
  refine rr_land dX0_meet_22 rfl ?_
  refine rr_putJ dX0_meet_23 pX0_13 hk0.1 hk0.2 rfl rfl ?_
  refine rr_letJ (fun J2 hJ2 => ?_)
  have h := h J2 hJ2
  exact rr_vret dX0_meet_26 rfl h

theorem e_X0_leave {I : tg_I} {J : tg_J} {P : Option Value → tg_I → tg_J → Prop} (k0 : Nat) (k1 : Nat) (hk0 : isBits k0) (hk1 : isBits k1) (h :
  ∀ J1, J1 = u2 J k0 0 ((J k0 0) &&& ((J k1 0) ^^^ (-1 : Int64))) →
  ∀ J2, J2 = u2 J1 k0 1 ((J1 k0 1) &&& ((J1 k1 1) ^^^ (-1 : Int64))) →
  P none I J2) : call pgX zX0_leave [.ref k0, .ref k1] I J P := by
  refine call_of (by decide +kernel) (fun _ => Nat.le_of_ble_eq_true rfl) ?_
  show rr pgX zX0_leave 0 [(0, .ref k0), (1, .ref k1)] [] I J P
  refine rr_aload_n dX0_leave_0 rfl 0 rfl rfl ?_
  refine rr_aload_n dX0_leave_1 rfl 0 rfl rfl ?_
  refine rr_getJ dX0_leave_2 fX0_7 hk0.1 hk0.2 rfl rfl ?_
  refine rr_aload_n dX0_leave_5 rfl 1 rfl rfl ?_
  refine rr_getJ dX0_leave_6 fX0_7 hk1.1 hk1.2 rfl rfl ?_
  refine rr_ldc2 dX0_leave_9 qX0_16 rfl ?_
  refine rr_lxor dX0_leave_12 rfl ?_
  refine rr_land dX0_leave_13 rfl ?_
  refine rr_putJ dX0_leave_14 pX0_7 hk0.1 hk0.2 rfl rfl ?_
  refine rr_letJ (fun J1 hJ1 => ?_)
  have h := h J1 hJ1
  refine rr_aload_n dX0_leave_17 rfl 0 rfl rfl ?_
  refine rr_aload_n dX0_leave_18 rfl 0 rfl rfl ?_
  refine rr_getJ dX0_leave_19 fX0_13 hk0.1 hk0.2 rfl rfl ?_
  refine rr_aload_n dX0_leave_22 rfl 1 rfl rfl ?_
  refine rr_getJ dX0_leave_23 fX0_13 hk1.1 hk1.2 rfl rfl ?_
  refine rr_ldc2 dX0_leave_26 qX0_16 rfl ?_
  refine rr_lxor dX0_leave_29 rfl ?_
  refine rr_land dX0_leave_30 rfl ?_
  refine rr_putJ dX0_leave_31 pX0_13 hk0.1 hk0.2 rfl rfl ?_
  refine rr_letJ (fun J2 hJ2 => ?_)
  have h := h J2 hJ2
  exact rr_vret dX0_leave_34 rfl h

theorem e_X0_joinMoved {I : tg_I} {J : tg_J} {P : Option Value → tg_I → tg_J → Prop} (k0 : Nat) (k1 : Nat) (v2 : Int32) (hk0 : isBits k0) (hk1 : isBits k1) (h :
  ∀ J1, J1 = u2 J k0 0 ((J k0 0) ||| ((J k1 0) <<< (v2.toInt64 &&& 63))) →
  ∀ J2, J2 = u2 J1 k0 1 ((J1 k0 1) ||| ((J1 k1 1) <<< (v2.toInt64 &&& 63))) →
  (v2 ≤ 0 →
   P none I J2) ∧
  (¬ v2 ≤ 0 →
   ∀ J3, J3 = u2 J2 k0 1 ((J2 k0 1) ||| (((J2 k1 0).toUInt64 >>> (((64 : Int32) - v2).toInt64.toUInt64 &&& Int64.toUInt64 63)).toInt64)) →
    P none I J3)) : call pgX zX0_joinMoved [.ref k0, .ref k1, .int v2] I J P := by
  refine call_of (by decide +kernel) (fun _ => Nat.le_of_ble_eq_true rfl) ?_
  show rr pgX zX0_joinMoved 0 [(0, .ref k0), (1, .ref k1), (2, .int v2)] [] I J P
  refine rr_aload_n dX0_joinMoved_0 rfl 0 rfl rfl ?_
  refine rr_dup dX0_joinMoved_1 rfl rfl ?_
  refine rr_getJ dX0_joinMoved_2 fX0_7 hk0.1 hk0.2 rfl rfl ?_
  refine rr_aload_n dX0_joinMoved_5 rfl 1 rfl rfl ?_
  refine rr_getJ dX0_joinMoved_6 fX0_7 hk1.1 hk1.2 rfl rfl ?_
  refine rr_iload_n dX0_joinMoved_9 rfl 2 rfl rfl ?_
  refine rr_lshl dX0_joinMoved_10 rfl ?_
  refine rr_lor dX0_joinMoved_11 rfl ?_
  refine rr_putJ dX0_joinMoved_12 pX0_7 hk0.1 hk0.2 rfl rfl ?_
  refine rr_letJ (fun J1 hJ1 => ?_)
  have h := h J1 hJ1
  refine rr_aload_n dX0_joinMoved_15 rfl 0 rfl rfl ?_
  refine rr_dup dX0_joinMoved_16 rfl rfl ?_
  refine rr_getJ dX0_joinMoved_17 fX0_13 hk0.1 hk0.2 rfl rfl ?_
  refine rr_aload_n dX0_joinMoved_20 rfl 1 rfl rfl ?_
  refine rr_getJ dX0_joinMoved_21 fX0_13 hk1.1 hk1.2 rfl rfl ?_
  refine rr_iload_n dX0_joinMoved_24 rfl 2 rfl rfl ?_
  refine rr_lshl dX0_joinMoved_25 rfl ?_
  refine rr_lor dX0_joinMoved_26 rfl ?_
  refine rr_putJ dX0_joinMoved_27 pX0_13 hk0.1 hk0.2 rfl rfl ?_
  refine rr_letJ (fun J2 hJ2 => ?_)
  have h := h J2 hJ2
  refine rr_iload_n dX0_joinMoved_30 rfl 2 rfl rfl ?_
  refine rr_if_le (tgt := 52) dX0_joinMoved_31 (by decide) rfl ⟨fun hc => ?_, fun hc => ?_⟩
  · have h := h.1 hc
    exact rr_vret dX0_joinMoved_52 rfl h
  · have h := h.2 hc
    refine rr_aload_n dX0_joinMoved_34 rfl 0 rfl rfl ?_
    refine rr_dup dX0_joinMoved_35 rfl rfl ?_
    refine rr_getJ dX0_joinMoved_36 fX0_13 hk0.1 hk0.2 rfl rfl ?_
    refine rr_aload_n dX0_joinMoved_39 rfl 1 rfl rfl ?_
    refine rr_getJ dX0_joinMoved_40 fX0_7 hk1.1 hk1.2 rfl rfl ?_
    refine rr_bipush (v := (64 : Int32)) dX0_joinMoved_43 (by decide) rfl ?_
    refine rr_iload_n dX0_joinMoved_45 rfl 2 rfl rfl ?_
    refine rr_isub dX0_joinMoved_46 rfl ?_
    refine rr_lushr dX0_joinMoved_47 rfl ?_
    refine rr_lor dX0_joinMoved_48 rfl ?_
    refine rr_putJ dX0_joinMoved_49 pX0_13 hk0.1 hk0.2 rfl rfl ?_
    refine rr_letJ (fun J3 hJ3 => ?_)
    have h := h J3 hJ3
    exact rr_vret dX0_joinMoved_52 rfl h

theorem e_X0_size {I : tg_I} {J : tg_J} {P : Option Value → tg_I → tg_J → Prop} (k0 : Nat) (hk0 : isBits k0) (h :
  call pgX zJ13_bitCount_95d88 [.long (J k0 0)] I J (fun vr I1 J1 => ∃ r1 : Int32, vr = some (.int r1) ∧
  (call pgX zJ13_bitCount_95d88 [.long (J1 k0 1)] I1 J1 (fun vr I2 J2 => ∃ r2 : Int32, vr = some (.int r2) ∧
  (P (some (.int (r1 + r2))) I2 J2))))) : call pgX zX0_size [.ref k0] I J P := by
  refine call_of (by decide +kernel) (fun _ => Nat.le_of_ble_eq_true rfl) ?_
  show rr pgX zX0_size 0 [(0, .ref k0)] [] I J P
  refine rr_aload_n dX0_size_0 rfl 0 rfl rfl ?_
  refine rr_getJ dX0_size_1 fX0_7 hk0.1 hk0.2 rfl rfl ?_
  refine rr_S [.long (J k0 0)] [] dX0_size_4 kJ13_bitCount_95d88 mX0_25 ⟨by decide, by decide⟩ rfl rfl (Nat.le_of_ble_eq_true rfl) rfl (h.mono fun vr I1 J1 h => ?_)
  obtain ⟨r1, rfl, h⟩ := h
  show rr pgX zX0_size 7 _ [.int r1] _ _ _
  refine rr_aload_n dX0_size_7 rfl 0 rfl rfl ?_
  refine rr_getJ dX0_size_8 fX0_13 hk0.1 hk0.2 rfl rfl ?_
  refine rr_S [.long (J1 k0 1)] [.int r1] dX0_size_11 kJ13_bitCount_95d88 mX0_25 ⟨by decide, by decide⟩ rfl rfl (Nat.le_of_ble_eq_true rfl) rfl (h.mono fun vr I2 J2 h => ?_)
  obtain ⟨r2, rfl, h⟩ := h
  show rr pgX zX0_size 14 _ [.int r2, .int r1] _ _ _
  refine rr_iadd dX0_size_14 rfl ?_
  exact rr_iret dX0_size_15 rfl h

theorem e_X0_least {I : tg_I} {J : tg_J} {P : Option Value → tg_I → tg_J → Prop} (k0 : Nat) (hk0 : isBits k0) (h :
  ((lg_cmp (J k0 0) (0 : Int64)) = 0 →
   call pgX zX0_lowest [.long (J k0 1)] I J (fun vr I1 J1 => ∃ r1 : Int32, vr = some (.int r1) ∧
    (P (some (.int ((64 : Int32) + r1))) I1 J1))) ∧
  (¬ (lg_cmp (J k0 0) (0 : Int64)) = 0 →
   call pgX zX0_lowest [.long (J k0 0)] I J (fun vr I2 J2 => ∃ r2 : Int32, vr = some (.int r2) ∧
    (P (some (.int r2)) I2 J2)))) : call pgX zX0_least [.ref k0] I J P := by
  refine call_of (by decide +kernel) (fun _ => Nat.le_of_ble_eq_true rfl) ?_
  show rr pgX zX0_least 0 [(0, .ref k0)] [] I J P
  refine rr_aload_n dX0_least_0 rfl 0 rfl rfl ?_
  refine rr_getJ dX0_least_1 fX0_7 hk0.1 hk0.2 rfl rfl ?_
  refine rr_lconst (v := (0 : Int64)) dX0_least_4 (by decide) rfl ?_
  refine rr_lcmp dX0_least_5 rfl ?_
  refine rr_if_eq (tgt := 19) dX0_least_6 (by decide) rfl ⟨fun hc => ?_, fun hc => ?_⟩
  · have h := h.1 hc
    refine rr_bipush (v := (64 : Int32)) dX0_least_19 (by decide) rfl ?_
    refine rr_aload_n dX0_least_21 rfl 0 rfl rfl ?_
    refine rr_getJ dX0_least_22 fX0_13 hk0.1 hk0.2 rfl rfl ?_
    refine rr_S [.long (J k0 1)] [.int (64 : Int32)] dX0_least_25 kX0_lowest mX0_31 ⟨by decide, by decide⟩ rfl rfl (Nat.le_of_ble_eq_true rfl) rfl (h.mono fun vr I1 J1 h => ?_)
    obtain ⟨r1, rfl, h⟩ := h
    show rr pgX zX0_least 28 _ [.int r1, .int (64 : Int32)] _ _ _
    refine rr_iadd dX0_least_28 rfl ?_
    exact rr_iret dX0_least_29 rfl h
  · have h := h.2 hc
    refine rr_aload_n dX0_least_9 rfl 0 rfl rfl ?_
    refine rr_getJ dX0_least_10 fX0_7 hk0.1 hk0.2 rfl rfl ?_
    refine rr_S [.long (J k0 0)] [] dX0_least_13 kX0_lowest mX0_31 ⟨by decide, by decide⟩ rfl rfl (Nat.le_of_ble_eq_true rfl) rfl (h.mono fun vr I2 J2 h => ?_)
    obtain ⟨r2, rfl, h⟩ := h
    show rr pgX zX0_least 16 _ [.int r2] _ _ _
    refine rr_goto (tgt := 29) dX0_least_16 (by decide) ?_
    exact rr_iret dX0_least_29 rfl h

def l_X0_nth_5 (I : tg_I) (J : tg_J) (P : Option Value → tg_I → tg_J → Prop) (k0 : Nat) (v1 : Int32) (v2 : Int32) (v3 : Int32) (v4 : Int32) : Prop := rr pgX zX0_nth 5 [(0, .ref k0), (1, .int v1), (2, .int v2), (3, .int v3), (4, .int v4)] [] I J P
theorem e_X0_nth {I : tg_I} {J : tg_J} {P : Option Value → tg_I → tg_J → Prop} (k0 : Nat) (v1 : Int32) (v2 : Int32) (hk0 : isBits k0) (h :
  l_X0_nth_5 I J P k0 v1 v2 ((0 : Int32)) ((0 : Int32))) : call pgX zX0_nth [.ref k0, .int v1, .int v2] I J P := by
  refine call_of (by decide +kernel) (fun _ => Nat.le_of_ble_eq_true rfl) ?_
  show rr pgX zX0_nth 0 [(0, .ref k0), (1, .int v1), (2, .int v2)] [] I J P
  refine rr_iconst (v := (0 : Int32)) dX0_nth_0 (by decide) rfl ?_
  refine rr_istore_n (lv' := [(3, .int (0 : Int32)), (0, .ref k0), (1, .int v1), (2, .int v2)]) dX0_nth_1 rfl (by decide) rfl rfl ?_
  refine rr_iconst (v := (0 : Int32)) dX0_nth_2 (by decide) rfl ?_
  refine rr_istore (lv' := [(4, .int (0 : Int32)), (3, .int (0 : Int32)), (0, .ref k0), (1, .int v1), (2, .int v2)]) dX0_nth_3 (by decide) rfl rfl ?_
  exact rr.sub [2, 3, 4, 1, 0] rfl h
theorem s_X0_nth_5 {I : tg_I} {J : tg_J} {P : Option Value → tg_I → tg_J → Prop} (k0 : Nat) (v1 : Int32) (v2 : Int32) (v3 : Int32) (v4 : Int32) (hk0 : isBits k0) (h :
  (v2 ≤ v4 →
   P (some (.int (-1 : Int32))) I J) ∧
  (¬ v2 ≤ v4 →
   call pgX zX0_has [.ref k0, .int v4] I J (fun vr I1 J1 => ∃ r1 : Int32, vr = some (.int r1) ∧
    ((r1 = 0 →
     l_X0_nth_5 I1 J1 P k0 v1 v2 v3 ((v4 + (1 : Int32)))) ∧
    (¬ r1 = 0 →
     (¬ v3 = v1 →
       l_X0_nth_5 I1 J1 P k0 v1 v2 ((v3 + (1 : Int32))) ((v4 + (1 : Int32)))) ∧
      (v3 = v1 →
       P (some (.int v4)) I1 J1)))))) : l_X0_nth_5 I J P k0 v1 v2 v3 v4 := by
  show rr pgX zX0_nth 5 [(0, .ref k0), (1, .int v1), (2, .int v2), (3, .int v3), (4, .int v4)] [] I J P
  refine rr_iload dX0_nth_5 4 rfl rfl ?_
  refine rr_iload_n dX0_nth_7 rfl 2 rfl rfl ?_
  refine rr_icmp_ge (tgt := 37) dX0_nth_8 (by decide) rfl ⟨fun hc => ?_, fun hc => ?_⟩
  · have h := h.1 hc
    refine rr_iconst (v := (-1 : Int32)) dX0_nth_37 (by decide) rfl ?_
    exact rr_iret dX0_nth_38 rfl h
  · have h := h.2 hc
    refine rr_aload_n dX0_nth_11 rfl 0 rfl rfl ?_
    refine rr_iload dX0_nth_12 4 rfl rfl ?_
    refine rr_V [.int v4] [] dX0_nth_14 kX0_has mX0_34 ⟨by decide, by decide⟩ hk0.1 hk0.2 rfl rfl (Nat.le_of_ble_eq_true rfl) rfl (h.mono fun vr I1 J1 h => ?_)
    obtain ⟨r1, rfl, h⟩ := h
    show rr pgX zX0_nth 17 _ [.int r1] _ _ _
    refine rr_if_eq (tgt := 31) dX0_nth_17 (by decide) rfl ⟨fun hc => ?_, fun hc => ?_⟩
    · have h := h.1 hc
      refine rr_iinc (k := 4) (v := (v4 + (1 : Int32))) (lv' := [(4, .int (v4 + (1 : Int32))), (0, .ref k0), (1, .int v1), (2, .int v2), (3, .int v3)]) dX0_nth_31 rfl rfl (by decide) rfl rfl ?_
      refine rr_goto (tgt := 5) dX0_nth_34 (by decide) ?_
      exact rr.sub [1, 2, 3, 4, 0] rfl h
    · have h := h.2 hc
      refine rr_iload_n dX0_nth_20 rfl 3 rfl rfl ?_
      refine rr_iload_n dX0_nth_21 rfl 1 rfl rfl ?_
      refine rr_icmp_ne (tgt := 28) dX0_nth_22 (by decide) rfl ⟨fun hc => ?_, fun hc => ?_⟩
      · have h := h.1 hc
        refine rr_iinc (k := 3) (v := (v3 + (1 : Int32))) (lv' := [(3, .int (v3 + (1 : Int32))), (0, .ref k0), (1, .int v1), (2, .int v2), (4, .int v4)]) dX0_nth_28 rfl rfl (by decide) rfl rfl ?_
        refine rr_iinc (k := 4) (v := (v4 + (1 : Int32))) (lv' := [(4, .int (v4 + (1 : Int32))), (3, .int (v3 + (1 : Int32))), (0, .ref k0), (1, .int v1), (2, .int v2)]) dX0_nth_31 rfl rfl (by decide) rfl rfl ?_
        refine rr_goto (tgt := 5) dX0_nth_34 (by decide) ?_
        exact rr.sub [2, 3, 4, 1, 0] rfl h
      · have h := h.2 hc
        refine rr_iload dX0_nth_25 4 rfl rfl ?_
        exact rr_iret dX0_nth_27 rfl h

theorem e_X0_lowest {I : tg_I} {J : tg_J} {P : Option Value → tg_I → tg_J → Prop} (v0 : Int64) (h :
  call pgX zJ13_bitCount_95d88 [.long ((v0 &&& (-v0)) - (1 : Int64))] I J (fun vr I1 J1 => ∃ r1 : Int32, vr = some (.int r1) ∧
  (P (some (.int r1)) I1 J1))) : call pgX zX0_lowest [.long v0] I J P := by
  refine call_of (by decide +kernel) (fun _ => Nat.le_of_ble_eq_true rfl) ?_
  show rr pgX zX0_lowest 0 [(0, .long v0)] [] I J P
  refine rr_lload_n dX0_lowest_0 rfl 0 rfl rfl ?_
  refine rr_lload_n dX0_lowest_1 rfl 0 rfl rfl ?_
  refine rr_lneg dX0_lowest_2 rfl ?_
  refine rr_land dX0_lowest_3 rfl ?_
  refine rr_lconst (v := (1 : Int64)) dX0_lowest_4 (by decide) rfl ?_
  refine rr_lsub dX0_lowest_5 rfl ?_
  refine rr_S [.long ((v0 &&& (-v0)) - (1 : Int64))] [] dX0_lowest_6 kJ13_bitCount_95d88 mX0_25 ⟨by decide, by decide⟩ rfl rfl (Nat.le_of_ble_eq_true rfl) rfl (h.mono fun vr I1 J1 h => ?_)
  obtain ⟨r1, rfl, h⟩ := h
  show rr pgX zX0_lowest 9 _ [.int r1] _ _ _
  exact rr_iret dX0_lowest_9 rfl h

theorem e_X2_fits {I : tg_I} {J : tg_J} {P : Option Value → tg_I → tg_J → Prop} (v0 : Int32) (v1 : Int32) (v2 : Int32) (h :
  (v0 < (1 : Int32) →
   P (some (.int (0 : Int32))) I J) ∧
  (¬ v0 < (1 : Int32) →
   ((10 : Int32) < v0 →
     P (some (.int (0 : Int32))) I J) ∧
    (¬ (10 : Int32) < v0 →
     (v1 < (1 : Int32) →
       P (some (.int (0 : Int32))) I J) ∧
      (¬ v1 < (1 : Int32) →
       ((10 : Int32) < v1 →
         P (some (.int (0 : Int32))) I J) ∧
        (¬ (10 : Int32) < v1 →
         (v2 < 0 →
           P (some (.int (0 : Int32))) I J) ∧
          (¬ v2 < 0 →
           ((3 : Int32) < v2 →
             P (some (.int (0 : Int32))) I J) ∧
            (¬ (3 : Int32) < v2 →
             (¬ v2 = (3 : Int32) →
               P (some (.int (1 : Int32))) I J) ∧
              (v2 = (3 : Int32) →
               (¬ (v1 &&& (1 : Int32)) = 0 →
                 P (some (.int (0 : Int32))) I J) ∧
                ((v1 &&& (1 : Int32)) = 0 →
                 P (some (.int (1 : Int32))) I J))))))))) : call pgX zX2_fits [.int v0, .int v1, .int v2] I J P := by
  refine call_of (by decide +kernel) (fun _ => Nat.le_of_ble_eq_true rfl) ?_
  show rr pgX zX2_fits 0 [(0, .int v0), (1, .int v1), (2, .int v2)] [] I J P
  refine rr_iload_n dX2_fits_0 rfl 0 rfl rfl ?_
  refine rr_iconst (v := (1 : Int32)) dX2_fits_1 (by decide) rfl ?_
  refine rr_icmp_lt (tgt := 26) dX2_fits_2 (by decide) rfl ⟨fun hc => ?_, fun hc => ?_⟩
  · have h := h.1 hc
    refine rr_iconst (v := (0 : Int32)) dX2_fits_26 (by decide) rfl ?_
    refine rr_istore_n (lv' := [(3, .int (0 : Int32)), (0, .int v0), (1, .int v1), (2, .int v2)]) dX2_fits_27 rfl (by decide) rfl rfl ?_
    refine rr_iload_n dX2_fits_28 rfl 0 rfl rfl ?_
    refine rr_if_eq (tgt := 56) dX2_fits_29 (by decide) rfl ⟨fun _ => ?_, fun hc => absurd hc (by decide)⟩
    refine rr_iconst (v := (0 : Int32)) dX2_fits_56 (by decide) rfl ?_
    exact rr_zret dX2_fits_57 rfl rfl h
  · have h := h.2 hc
    refine rr_iload_n dX2_fits_5 rfl 0 rfl rfl ?_
    refine rr_bipush (v := (10 : Int32)) dX2_fits_6 (by decide) rfl ?_
    refine rr_icmp_gt (tgt := 26) dX2_fits_8 (by decide) rfl ⟨fun hc => ?_, fun hc => ?_⟩
    · have h := h.1 hc
      refine rr_iconst (v := (0 : Int32)) dX2_fits_26 (by decide) rfl ?_
      refine rr_istore_n (lv' := [(3, .int (0 : Int32)), (0, .int v0), (1, .int v1), (2, .int v2)]) dX2_fits_27 rfl (by decide) rfl rfl ?_
      refine rr_iload_n dX2_fits_28 rfl 0 rfl rfl ?_
      refine rr_if_eq (tgt := 56) dX2_fits_29 (by decide) rfl ⟨fun _ => ?_, fun hc => absurd hc (by decide)⟩
      refine rr_iconst (v := (0 : Int32)) dX2_fits_56 (by decide) rfl ?_
      exact rr_zret dX2_fits_57 rfl rfl h
    · have h := h.2 hc
      refine rr_iload_n dX2_fits_11 rfl 1 rfl rfl ?_
      refine rr_iconst (v := (1 : Int32)) dX2_fits_12 (by decide) rfl ?_
      refine rr_icmp_lt (tgt := 26) dX2_fits_13 (by decide) rfl ⟨fun hc => ?_, fun hc => ?_⟩
      · have h := h.1 hc
        refine rr_iconst (v := (0 : Int32)) dX2_fits_26 (by decide) rfl ?_
        refine rr_istore_n (lv' := [(3, .int (0 : Int32)), (0, .int v0), (1, .int v1), (2, .int v2)]) dX2_fits_27 rfl (by decide) rfl rfl ?_
        refine rr_iload_n dX2_fits_28 rfl 0 rfl rfl ?_
        refine rr_if_eq (tgt := 56) dX2_fits_29 (by decide) rfl ⟨fun _ => ?_, fun hc => absurd hc (by decide)⟩
        refine rr_iconst (v := (0 : Int32)) dX2_fits_56 (by decide) rfl ?_
        exact rr_zret dX2_fits_57 rfl rfl h
      · have h := h.2 hc
        refine rr_iload_n dX2_fits_16 rfl 1 rfl rfl ?_
        refine rr_bipush (v := (10 : Int32)) dX2_fits_17 (by decide) rfl ?_
        refine rr_icmp_gt (tgt := 26) dX2_fits_19 (by decide) rfl ⟨fun hc => ?_, fun hc => ?_⟩
        · have h := h.1 hc
          refine rr_iconst (v := (0 : Int32)) dX2_fits_26 (by decide) rfl ?_
          refine rr_istore_n (lv' := [(3, .int (0 : Int32)), (0, .int v0), (1, .int v1), (2, .int v2)]) dX2_fits_27 rfl (by decide) rfl rfl ?_
          refine rr_iload_n dX2_fits_28 rfl 0 rfl rfl ?_
          refine rr_if_eq (tgt := 56) dX2_fits_29 (by decide) rfl ⟨fun _ => ?_, fun hc => absurd hc (by decide)⟩
          refine rr_iconst (v := (0 : Int32)) dX2_fits_56 (by decide) rfl ?_
          exact rr_zret dX2_fits_57 rfl rfl h
        · have h := h.2 hc
          refine rr_iconst (v := (1 : Int32)) dX2_fits_22 (by decide) rfl ?_
          refine rr_goto (tgt := 27) dX2_fits_23 (by decide) ?_
          refine rr_istore_n (lv' := [(3, .int (1 : Int32)), (0, .int v0), (1, .int v1), (2, .int v2)]) dX2_fits_27 rfl (by decide) rfl rfl ?_
          refine rr_iload_n dX2_fits_28 rfl 0 rfl rfl ?_
          refine rr_if_eq (tgt := 56) dX2_fits_29 (by decide) rfl ⟨fun hc => absurd hc (by decide), fun _ => ?_⟩
          refine rr_iload_n dX2_fits_32 rfl 3 rfl rfl ?_
          refine rr_if_lt (tgt := 56) dX2_fits_33 (by decide) rfl ⟨fun hc => ?_, fun hc => ?_⟩
          · have h := h.1 hc
            refine rr_iconst (v := (0 : Int32)) dX2_fits_56 (by decide) rfl ?_
            exact rr_zret dX2_fits_57 rfl rfl h
          · have h := h.2 hc
            refine rr_iload_n dX2_fits_36 rfl 3 rfl rfl ?_
            refine rr_iconst (v := (3 : Int32)) dX2_fits_37 (by decide) rfl ?_
            refine rr_icmp_gt (tgt := 56) dX2_fits_38 (by decide) rfl ⟨fun hc => ?_, fun hc => ?_⟩
            · have h := h.1 hc
              refine rr_iconst (v := (0 : Int32)) dX2_fits_56 (by decide) rfl ?_
              exact rr_zret dX2_fits_57 rfl rfl h
            · have h := h.2 hc
              refine rr_iload_n dX2_fits_41 rfl 3 rfl rfl ?_
              refine rr_iconst (v := (3 : Int32)) dX2_fits_42 (by decide) rfl ?_
              refine rr_icmp_ne (tgt := 52) dX2_fits_43 (by decide) rfl ⟨fun hc => ?_, fun hc => ?_⟩
              · have h := h.1 hc
                refine rr_iconst (v := (1 : Int32)) dX2_fits_52 (by decide) rfl ?_
                refine rr_goto (tgt := 57) dX2_fits_53 (by decide) ?_
                exact rr_zret dX2_fits_57 rfl rfl h
              · have h := h.2 hc
                refine rr_iload_n dX2_fits_46 rfl 2 rfl rfl ?_
                refine rr_iconst (v := (1 : Int32)) dX2_fits_47 (by decide) rfl ?_
                refine rr_iand dX2_fits_48 rfl ?_
                refine rr_if_ne (tgt := 56) dX2_fits_49 (by decide) rfl ⟨fun hc => ?_, fun hc => ?_⟩
                · have h := h.1 hc
                  refine rr_iconst (v := (0 : Int32)) dX2_fits_56 (by decide) rfl ?_
                  exact rr_zret dX2_fits_57 rfl rfl h
                · have h := h.2 hc
                  refine rr_iconst (v := (1 : Int32)) dX2_fits_52 (by decide) rfl ?_
                  refine rr_goto (tgt := 57) dX2_fits_53 (by decide) ?_
                  exact rr_zret dX2_fits_57 rfl rfl h

theorem e_X2_holds {I : tg_I} {J : tg_J} {P : Option Value → tg_I → tg_J → Prop} (b0 : Nat) (v1 : Int32) (hb0 : isBd b0) (h :
  (v1 < 0 →
   P (some (.int (0 : Int32))) I J) ∧
  (¬ v1 < 0 →
   ((I (b0 + 1) 7) ≤ v1 →
     P (some (.int (0 : Int32))) I J) ∧
    (¬ (I (b0 + 1) 7) ≤ v1 →
     P (some (.int (1 : Int32))) I J))) : call pgX zX2_holds [.ref (b0 + 1), .int v1] I J P := by
  refine call_of (by decide +kernel) (fun _ => Nat.le_of_ble_eq_true rfl) ?_
  show rr pgX zX2_holds 0 [(0, .ref (b0 + 1)), (1, .int v1)] [] I J P
  refine rr_iload_n dX2_holds_0 rfl 1 rfl rfl ?_
  refine rr_if_lt (tgt := 16) dX2_holds_1 (by decide) rfl ⟨fun hc => ?_, fun hc => ?_⟩
  · have h := h.1 hc
    refine rr_iconst (v := (0 : Int32)) dX2_holds_16 (by decide) rfl ?_
    exact rr_zret dX2_holds_17 rfl rfl h
  · have h := h.2 hc
    refine rr_iload_n dX2_holds_4 rfl 1 rfl rfl ?_
    refine rr_aload_n dX2_holds_5 rfl 0 rfl rfl ?_
    refine rr_getI dX2_holds_6 fX2_25 (bd_lt hb0 (by decide)) (bd_1 hb0) rfl rfl ?_
    refine rr_icmp_ge (tgt := 16) dX2_holds_9 (by decide) rfl ⟨fun hc => ?_, fun hc => ?_⟩
    · have h := h.1 hc
      refine rr_iconst (v := (0 : Int32)) dX2_holds_16 (by decide) rfl ?_
      exact rr_zret dX2_holds_17 rfl rfl h
    · have h := h.2 hc
      refine rr_iconst (v := (1 : Int32)) dX2_holds_12 (by decide) rfl ?_
      refine rr_goto (tgt := 17) dX2_holds_13 (by decide) ?_
      exact rr_zret dX2_holds_17 rfl rfl h

def l_X2_lay_25 (I : tg_I) (J : tg_J) (P : Option Value → tg_I → tg_J → Prop) (b0 : Nat) (v4 : Int32) : Prop := rr pgX zX2_lay 25 [(0, .ref (b0 + 1)), (4, .int v4)] [] I J P
def l_X2_lay_37 (I : tg_I) (J : tg_J) (P : Option Value → tg_I → tg_J → Prop) (b0 : Nat) (v4 : Int32) (v5 : Int32) : Prop := rr pgX zX2_lay 37 [(0, .ref (b0 + 1)), (4, .int v4), (5, .int v5)] [] I J P
theorem e_X2_lay {I : tg_I} {J : tg_J} {P : Option Value → tg_I → tg_J → Prop} (b0 : Nat) (v1 : Int32) (v2 : Int32) (v3 : Int32) (hb0 : isBd b0) (h :
  ∀ I1, I1 = u2 I (b0 + 1) 4 v1 →
  ∀ I2, I2 = u2 I1 (b0 + 1) 5 v2 →
  ∀ I3, I3 = u2 I2 (b0 + 1) 6 v3 →
  ∀ I4, I4 = u2 I3 (b0 + 1) 7 (v1 * v2) →
  l_X2_lay_25 I4 J P b0 ((0 : Int32))) : call pgX zX2_lay [.ref (b0 + 1), .int v1, .int v2, .int v3] I J P := by
  refine call_of (by decide +kernel) (fun _ => Nat.le_of_ble_eq_true rfl) ?_
  show rr pgX zX2_lay 0 [(0, .ref (b0 + 1)), (1, .int v1), (2, .int v2), (3, .int v3)] [] I J P
  refine rr_aload_n dX2_lay_0 rfl 0 rfl rfl ?_
  refine rr_iload_n dX2_lay_1 rfl 1 rfl rfl ?_
  refine rr_putI dX2_lay_2 pX2_29 (bd_lt hb0 (by decide)) (bd_1 hb0) rfl rfl ?_
  refine rr_letI (fun I1 hI1 => ?_)
  have h := h I1 hI1
  refine rr_aload_n dX2_lay_5 rfl 0 rfl rfl ?_
  refine rr_iload_n dX2_lay_6 rfl 2 rfl rfl ?_
  refine rr_putI dX2_lay_7 pX2_32 (bd_lt hb0 (by decide)) (bd_1 hb0) rfl rfl ?_
  refine rr_letI (fun I2 hI2 => ?_)
  have h := h I2 hI2
  refine rr_aload_n dX2_lay_10 rfl 0 rfl rfl ?_
  refine rr_iload_n dX2_lay_11 rfl 3 rfl rfl ?_
  refine rr_putI dX2_lay_12 pX2_35 (bd_lt hb0 (by decide)) (bd_1 hb0) rfl rfl ?_
  refine rr_letI (fun I3 hI3 => ?_)
  have h := h I3 hI3
  refine rr_aload_n dX2_lay_15 rfl 0 rfl rfl ?_
  refine rr_iload_n dX2_lay_16 rfl 1 rfl rfl ?_
  refine rr_iload_n dX2_lay_17 rfl 2 rfl rfl ?_
  refine rr_imul dX2_lay_18 rfl ?_
  refine rr_putI dX2_lay_19 pX2_25 (bd_lt hb0 (by decide)) (bd_1 hb0) rfl rfl ?_
  refine rr_letI (fun I4 hI4 => ?_)
  have h := h I4 hI4
  refine rr_iconst (v := (0 : Int32)) dX2_lay_22 (by decide) rfl ?_
  refine rr_istore (lv' := [(4, .int (0 : Int32)), (0, .ref (b0 + 1)), (1, .int v1), (2, .int v2), (3, .int v3)]) dX2_lay_23 (by decide) rfl rfl ?_
  exact rr.sub [1, 0] rfl h
theorem s_X2_lay_25 {I : tg_I} {J : tg_J} {P : Option Value → tg_I → tg_J → Prop} (b0 : Nat) (v4 : Int32) (hb0 : isBd b0) (h :
  ((I (b0 + 1) 5) ≤ v4 →
   P none I J) ∧
  (¬ (I (b0 + 1) 5) ≤ v4 →
   l_X2_lay_37 I J P b0 v4 ((0 : Int32)))) : l_X2_lay_25 I J P b0 v4 := by
  show rr pgX zX2_lay 25 [(0, .ref (b0 + 1)), (4, .int v4)] [] I J P
  refine rr_iload dX2_lay_25 1 rfl rfl ?_
  refine rr_aload_n dX2_lay_27 rfl 0 rfl rfl ?_
  refine rr_getI dX2_lay_28 fX2_32 (bd_lt hb0 (by decide)) (bd_1 hb0) rfl rfl ?_
  refine rr_icmp_ge (tgt := 66) dX2_lay_31 (by decide) rfl ⟨fun hc => ?_, fun hc => ?_⟩
  · have h := h.1 hc
    exact rr_vret dX2_lay_66 rfl h
  · have h := h.2 hc
    refine rr_iconst (v := (0 : Int32)) dX2_lay_34 (by decide) rfl ?_
    refine rr_istore (lv' := [(5, .int (0 : Int32)), (0, .ref (b0 + 1)), (4, .int v4)]) dX2_lay_35 (by decide) rfl rfl ?_
    exact rr.sub [1, 2, 0] rfl h
theorem s_X2_lay_37 {I : tg_I} {J : tg_J} {P : Option Value → tg_I → tg_J → Prop} (b0 : Nat) (v4 : Int32) (v5 : Int32) (hb0 : isBd b0) (h :
  ((I (b0 + 1) 4) ≤ v5 →
   l_X2_lay_25 I J P b0 ((v4 + (1 : Int32)))) ∧
  (¬ (I (b0 + 1) 4) ≤ v5 →
   call pgX zX2_layCell [.ref (b0 + 1), .int v4, .int v5] I J (fun vr I1 J1 => vr = none ∧
    (l_X2_lay_37 I1 J1 P b0 v4 ((v5 + (1 : Int32))))))) : l_X2_lay_37 I J P b0 v4 v5 := by
  show rr pgX zX2_lay 37 [(0, .ref (b0 + 1)), (4, .int v4), (5, .int v5)] [] I J P
  refine rr_iload dX2_lay_37 2 rfl rfl ?_
  refine rr_aload_n dX2_lay_39 rfl 0 rfl rfl ?_
  refine rr_getI dX2_lay_40 fX2_29 (bd_lt hb0 (by decide)) (bd_1 hb0) rfl rfl ?_
  refine rr_icmp_ge (tgt := 60) dX2_lay_43 (by decide) rfl ⟨fun hc => ?_, fun hc => ?_⟩
  · have h := h.1 hc
    refine rr_iinc (k := 1) (v := (v4 + (1 : Int32))) (lv' := [(4, .int (v4 + (1 : Int32))), (0, .ref (b0 + 1)), (5, .int v5)]) dX2_lay_60 rfl rfl (by decide) rfl rfl ?_
    refine rr_goto (tgt := 25) dX2_lay_63 (by decide) ?_
    exact rr.sub [1, 0] rfl h
  · have h := h.2 hc
    refine rr_aload_n dX2_lay_46 rfl 0 rfl rfl ?_
    refine rr_iload dX2_lay_47 1 rfl rfl ?_
    refine rr_iload dX2_lay_49 2 rfl rfl ?_
    refine rr_V [.int v4, .int v5] [] dX2_lay_51 kX2_layCell mX2_38 ⟨by decide, by decide⟩ (bd_lt hb0 (by decide)) (bd_1 hb0) rfl rfl (Nat.le_of_ble_eq_true rfl) rfl (h.mono fun vr I1 J1 h => ?_)
    obtain ⟨rfl, h⟩ := h
    show rr pgX zX2_lay 54 _ [] _ _ _
    refine rr_iinc (k := 2) (v := (v5 + (1 : Int32))) (lv' := [(5, .int (v5 + (1 : Int32))), (0, .ref (b0 + 1)), (4, .int v4)]) dX2_lay_54 rfl rfl (by decide) rfl rfl ?_
    refine rr_goto (tgt := 37) dX2_lay_57 (by decide) ?_
    exact rr.sub [1, 2, 0] rfl h

def l_X2_layCell_86 (I : tg_I) (J : tg_J) (P : Option Value → tg_I → tg_J → Prop) (b0 : Nat) (v1 : Int32) (v2 : Int32) (v3 : Int32) (v6 : Int32) (v7 : Int32) : Prop := rr pgX zX2_layCell 86 [(0, .ref (b0 + 1)), (1, .int v1), (2, .int v2), (3, .int v3), (6, .int v6), (7, .int v7)] [] I J P
theorem e_X2_layCell {I : tg_I} {J : tg_J} {P : Option Value → tg_I → tg_J → Prop} (b0 : Nat) (v1 : Int32) (v2 : Int32) (hb0 : isBd b0) (h :
  ∀ x1, x1 = ((v1 * (I (b0 + 1) 4)) + v2) →
  vp_in x1 100 ∧ ∀ J1, J1 = u2 J (b0 + 2) (Int32.toNatClampNeg x1) (0 : Int64) →
  vp_in x1 100 ∧ ∀ J2, J2 = u2 J1 (b0 + 3) (Int32.toNatClampNeg x1) (0 : Int64) →
  vp_in x1 100 ∧ ∀ I1, I1 = u2 I (b0 + 5) (Int32.toNatClampNeg x1) (0 : Int32) →
  ((I1 (b0 + 1) 6) < (2 : Int32) →
   l_X2_layCell_86 I1 J2 P b0 v1 v2 x1 ((v2 + (1 : Int32))) ((v2 - (1 : Int32)))) ∧
  (¬ (I1 (b0 + 1) 6) < (2 : Int32) →
   ∀ x2, x2 = ((v2 - (1 : Int32)) + (v1 &&& (1 : Int32))) →
    l_X2_layCell_86 I1 J2 P b0 v1 v2 x1 ((x2 + (1 : Int32))) x2)) : call pgX zX2_layCell [.ref (b0 + 1), .int v1, .int v2] I J P := by
  refine call_of (by decide +kernel) (fun _ => Nat.le_of_ble_eq_true rfl) ?_
  show rr pgX zX2_layCell 0 [(0, .ref (b0 + 1)), (1, .int v1), (2, .int v2)] [] I J P
  refine rr_iload_n dX2_layCell_0 rfl 1 rfl rfl ?_
  refine rr_aload_n dX2_layCell_1 rfl 0 rfl rfl ?_
  refine rr_getI dX2_layCell_2 fX2_29 (bd_lt hb0 (by decide)) (bd_1 hb0) rfl rfl ?_
  refine rr_imul dX2_layCell_5 rfl ?_
  refine rr_iload_n dX2_layCell_6 rfl 2 rfl rfl ?_
  refine rr_iadd dX2_layCell_7 rfl ?_
  refine rr_letTi (fun x1 hx1 => ?_)
  have h := h x1 hx1
  refine rr_istore_n (lv' := [(3, .int x1), (0, .ref (b0 + 1)), (1, .int v1), (2, .int v2)]) dX2_layCell_8 rfl (by decide) rfl rfl ?_
  refine rr_aload_n dX2_layCell_9 rfl 1 rfl rfl ?_
  refine rr_getR dX2_layCell_10 fX2_9 (bd_lt hb0 (by decide)) (bd_1 hb0) rfl rfl ?_
  refine rr_iload_n dX2_layCell_13 rfl 0 rfl rfl ?_
  refine rr_lconst (v := (0 : Int64)) dX2_layCell_14 (by decide) rfl ?_
  refine rr_last dX2_layCell_15 (bd_lt hb0 (by decide)) (bd_2 hb0) rfl ⟨h.1, ?_⟩
  refine rr_letJ (fun J1 hJ1 => ?_)
  have h := h.2 J1 hJ1
  refine rr_aload_n dX2_layCell_16 rfl 1 rfl rfl ?_
  refine rr_getR dX2_layCell_17 fX2_15 (bd_lt hb0 (by decide)) (bd_1 hb0) rfl rfl ?_
  refine rr_iload_n dX2_layCell_20 rfl 0 rfl rfl ?_
  refine rr_lconst (v := (0 : Int64)) dX2_layCell_21 (by decide) rfl ?_
  refine rr_last dX2_layCell_22 (bd_lt hb0 (by decide)) (bd_3 hb0) rfl ⟨h.1, ?_⟩
  refine rr_letJ (fun J2 hJ2 => ?_)
  have h := h.2 J2 hJ2
  refine rr_aload_n dX2_layCell_23 rfl 1 rfl rfl ?_
  refine rr_getR dX2_layCell_24 fX2_22 (bd_lt hb0 (by decide)) (bd_1 hb0) rfl rfl ?_
  refine rr_iload_n dX2_layCell_27 rfl 0 rfl rfl ?_
  refine rr_iconst (v := (0 : Int32)) dX2_layCell_28 (by decide) rfl ?_
  refine rr_iast dX2_layCell_29 (bd_lt hb0 (by decide)) (bd_5 hb0) rfl ⟨h.1, ?_⟩
  refine rr_letI (fun I1 hI1 => ?_)
  have h := h.2 I1 hI1
  refine rr_aload_n dX2_layCell_30 rfl 1 rfl rfl ?_
  refine rr_getI dX2_layCell_31 fX2_35 (bd_lt hb0 (by decide)) (bd_1 hb0) rfl rfl ?_
  refine rr_iconst (v := (2 : Int32)) dX2_layCell_34 (by decide) rfl ?_
  refine rr_icmp_lt (tgt := 42) dX2_layCell_35 (by decide) rfl ⟨fun hc => ?_, fun hc => ?_⟩
  · have h := h.1 hc
    refine rr_iconst (v := (0 : Int32)) dX2_layCell_42 (by decide) rfl ?_
    refine rr_istore (lv' := [(4, .int (0 : Int32)), (3, .int x1), (0, .ref (b0 + 1)), (1, .int v1), (2, .int v2)]) dX2_layCell_43 (by decide) rfl rfl ?_
    refine rr_iload dX2_layCell_45 0 rfl rfl ?_
    refine rr_if_eq (tgt := 60) dX2_layCell_47 (by decide) rfl ⟨fun _ => ?_, fun hc => absurd hc (by decide)⟩
    refine rr_iload_n dX2_layCell_60 rfl 4 rfl rfl ?_
    refine rr_iconst (v := (1 : Int32)) dX2_layCell_61 (by decide) rfl ?_
    refine rr_isub dX2_layCell_62 rfl ?_
    refine rr_istore (lv' := [(5, .int (v2 - (1 : Int32))), (4, .int (0 : Int32)), (3, .int x1), (0, .ref (b0 + 1)), (1, .int v1), (2, .int v2)]) dX2_layCell_63 (by decide) rfl rfl ?_
    refine rr_iload dX2_layCell_65 1 rfl rfl ?_
    refine rr_if_eq (tgt := 77) dX2_layCell_67 (by decide) rfl ⟨fun _ => ?_, fun hc => absurd hc (by decide)⟩
    refine rr_iload_n dX2_layCell_77 rfl 5 rfl rfl ?_
    refine rr_iconst (v := (1 : Int32)) dX2_layCell_78 (by decide) rfl ?_
    refine rr_iadd dX2_layCell_79 rfl ?_
    refine rr_istore (lv' := [(6, .int (v2 + (1 : Int32))), (5, .int (v2 - (1 : Int32))), (4, .int (0 : Int32)), (3, .int x1), (0, .ref (b0 + 1)), (1, .int v1), (2, .int v2)]) dX2_layCell_80 (by decide) rfl rfl ?_
    refine rr_iload dX2_layCell_82 1 rfl rfl ?_
    refine rr_istore (lv' := [(7, .int (v2 - (1 : Int32))), (6, .int (v2 + (1 : Int32))), (5, .int (v2 - (1 : Int32))), (4, .int (0 : Int32)), (3, .int x1), (0, .ref (b0 + 1)), (1, .int v1), (2, .int v2)]) dX2_layCell_84 (by decide) rfl rfl ?_
    exact rr.sub [5, 6, 7, 4, 1, 0] rfl h
  · have h := h.2 hc
    refine rr_iconst (v := (1 : Int32)) dX2_layCell_38 (by decide) rfl ?_
    refine rr_goto (tgt := 43) dX2_layCell_39 (by decide) ?_
    refine rr_istore (lv' := [(4, .int (1 : Int32)), (3, .int x1), (0, .ref (b0 + 1)), (1, .int v1), (2, .int v2)]) dX2_layCell_43 (by decide) rfl rfl ?_
    refine rr_iload dX2_layCell_45 0 rfl rfl ?_
    refine rr_if_eq (tgt := 60) dX2_layCell_47 (by decide) rfl ⟨fun hc => absurd hc (by decide), fun _ => ?_⟩
    refine rr_iload_n dX2_layCell_50 rfl 4 rfl rfl ?_
    refine rr_iconst (v := (1 : Int32)) dX2_layCell_51 (by decide) rfl ?_
    refine rr_isub dX2_layCell_52 rfl ?_
    refine rr_iload_n dX2_layCell_53 rfl 3 rfl rfl ?_
    refine rr_iconst (v := (1 : Int32)) dX2_layCell_54 (by decide) rfl ?_
    refine rr_iand dX2_layCell_55 rfl ?_
    refine rr_iadd dX2_layCell_56 rfl ?_
    refine rr_goto (tgt := 63) dX2_layCell_57 (by decide) ?_
    refine rr_letTi (fun x2 hx2 => ?_)
    have h := h x2 hx2
    refine rr_istore (lv' := [(5, .int x2), (4, .int (1 : Int32)), (3, .int x1), (0, .ref (b0 + 1)), (1, .int v1), (2, .int v2)]) dX2_layCell_63 (by decide) rfl rfl ?_
    refine rr_iload dX2_layCell_65 1 rfl rfl ?_
    refine rr_if_eq (tgt := 77) dX2_layCell_67 (by decide) rfl ⟨fun hc => absurd hc (by decide), fun _ => ?_⟩
    refine rr_iload dX2_layCell_70 0 rfl rfl ?_
    refine rr_iconst (v := (1 : Int32)) dX2_layCell_72 (by decide) rfl ?_
    refine rr_iadd dX2_layCell_73 rfl ?_
    refine rr_goto (tgt := 80) dX2_layCell_74 (by decide) ?_
    refine rr_istore (lv' := [(6, .int (x2 + (1 : Int32))), (5, .int x2), (4, .int (1 : Int32)), (3, .int x1), (0, .ref (b0 + 1)), (1, .int v1), (2, .int v2)]) dX2_layCell_80 (by decide) rfl rfl ?_
    refine rr_iload dX2_layCell_82 1 rfl rfl ?_
    refine rr_istore (lv' := [(7, .int x2), (6, .int (x2 + (1 : Int32))), (5, .int x2), (4, .int (1 : Int32)), (3, .int x1), (0, .ref (b0 + 1)), (1, .int v1), (2, .int v2)]) dX2_layCell_84 (by decide) rfl rfl ?_
    exact rr.sub [5, 6, 7, 4, 1, 0] rfl h
theorem s_X2_layCell_86 {I : tg_I} {J : tg_J} {P : Option Value → tg_I → tg_J → Prop} (b0 : Nat) (v1 : Int32) (v2 : Int32) (v3 : Int32) (v6 : Int32) (v7 : Int32) (hb0 : isBd b0) (h :
  (v6 < v7 →
   call pgX zX2_at [.ref (b0 + 1), .int v1, .int (v2 - (1 : Int32))] I J (fun vr I1 J1 => ∃ r1 : Int32, vr = some (.int r1) ∧
    (call pgX zX2_link [.ref (b0 + 1), .int v3, .int r1] I1 J1 (fun vr I2 J2 => vr = none ∧
    (call pgX zX2_at [.ref (b0 + 1), .int v1, .int (v2 + (1 : Int32))] I2 J2 (fun vr I3 J3 => ∃ r2 : Int32, vr = some (.int r2) ∧
    (call pgX zX2_link [.ref (b0 + 1), .int v3, .int r2] I3 J3 (fun vr I4 J4 => vr = none ∧
    (P none I4 J4))))))))) ∧
  (¬ v6 < v7 →
   call pgX zX2_at [.ref (b0 + 1), .int (v1 - (1 : Int32)), .int v7] I J (fun vr I5 J5 => ∃ r3 : Int32, vr = some (.int r3) ∧
    (call pgX zX2_link [.ref (b0 + 1), .int v3, .int r3] I5 J5 (fun vr I6 J6 => vr = none ∧
    (call pgX zX2_at [.ref (b0 + 1), .int (v1 + (1 : Int32)), .int v7] I6 J6 (fun vr I7 J7 => ∃ r4 : Int32, vr = some (.int r4) ∧
    (call pgX zX2_link [.ref (b0 + 1), .int v3, .int r4] I7 J7 (fun vr I8 J8 => vr = none ∧
    (l_X2_layCell_86 I8 J8 P b0 v1 v2 v3 v6 ((v7 + (1 : Int32))))))))))))) : l_X2_layCell_86 I J P b0 v1 v2 v3 v6 v7 := by
  show rr pgX zX2_layCell 86 [(0, .ref (b0 + 1)), (1, .int v1), (2, .int v2), (3, .int v3), (6, .int v6), (7, .int v7)] [] I J P
  refine rr_iload dX2_layCell_86 5 rfl rfl ?_
  refine rr_iload dX2_layCell_88 4 rfl rfl ?_
  refine rr_icmp_gt (tgt := 127) dX2_layCell_90 (by decide) rfl ⟨fun hc => ?_, fun hc => ?_⟩
  · have h := h.1 hc
    refine rr_aload_n dX2_layCell_127 rfl 0 rfl rfl ?_
    refine rr_iload_n dX2_layCell_128 rfl 3 rfl rfl ?_
    refine rr_aload_n dX2_layCell_129 rfl 0 rfl rfl ?_
    refine rr_iload_n dX2_layCell_130 rfl 1 rfl rfl ?_
    refine rr_iload_n dX2_layCell_131 rfl 2 rfl rfl ?_
    refine rr_iconst (v := (1 : Int32)) dX2_layCell_132 (by decide) rfl ?_
    refine rr_isub dX2_layCell_133 rfl ?_
    refine rr_V [.int v1, .int (v2 - (1 : Int32))] [.int v3, .ref (b0 + 1)] dX2_layCell_134 kX2_at mX2_42 ⟨by decide, by decide⟩ (bd_lt hb0 (by decide)) (bd_1 hb0) rfl rfl (Nat.le_of_ble_eq_true rfl) rfl (h.mono fun vr I1 J1 h => ?_)
    obtain ⟨r1, rfl, h⟩ := h
    show rr pgX zX2_layCell 137 _ [.int r1, .int v3, .ref (b0 + 1)] _ _ _
    refine rr_V [.int v3, .int r1] [] dX2_layCell_137 kX2_link mX2_46 ⟨by decide, by decide⟩ (bd_lt hb0 (by decide)) (bd_1 hb0) rfl rfl (Nat.le_of_ble_eq_true rfl) rfl (h.mono fun vr I2 J2 h => ?_)
    obtain ⟨rfl, h⟩ := h
    show rr pgX zX2_layCell 140 _ [] _ _ _
    refine rr_aload_n dX2_layCell_140 rfl 0 rfl rfl ?_
    refine rr_iload_n dX2_layCell_141 rfl 3 rfl rfl ?_
    refine rr_aload_n dX2_layCell_142 rfl 0 rfl rfl ?_
    refine rr_iload_n dX2_layCell_143 rfl 1 rfl rfl ?_
    refine rr_iload_n dX2_layCell_144 rfl 2 rfl rfl ?_
    refine rr_iconst (v := (1 : Int32)) dX2_layCell_145 (by decide) rfl ?_
    refine rr_iadd dX2_layCell_146 rfl ?_
    refine rr_V [.int v1, .int (v2 + (1 : Int32))] [.int v3, .ref (b0 + 1)] dX2_layCell_147 kX2_at mX2_42 ⟨by decide, by decide⟩ (bd_lt hb0 (by decide)) (bd_1 hb0) rfl rfl (Nat.le_of_ble_eq_true rfl) rfl (h.mono fun vr I3 J3 h => ?_)
    obtain ⟨r2, rfl, h⟩ := h
    show rr pgX zX2_layCell 150 _ [.int r2, .int v3, .ref (b0 + 1)] _ _ _
    refine rr_V [.int v3, .int r2] [] dX2_layCell_150 kX2_link mX2_46 ⟨by decide, by decide⟩ (bd_lt hb0 (by decide)) (bd_1 hb0) rfl rfl (Nat.le_of_ble_eq_true rfl) rfl (h.mono fun vr I4 J4 h => ?_)
    obtain ⟨rfl, h⟩ := h
    show rr pgX zX2_layCell 153 _ [] _ _ _
    exact rr_vret dX2_layCell_153 rfl h
  · have h := h.2 hc
    refine rr_aload_n dX2_layCell_93 rfl 0 rfl rfl ?_
    refine rr_iload_n dX2_layCell_94 rfl 3 rfl rfl ?_
    refine rr_aload_n dX2_layCell_95 rfl 0 rfl rfl ?_
    refine rr_iload_n dX2_layCell_96 rfl 1 rfl rfl ?_
    refine rr_iconst (v := (1 : Int32)) dX2_layCell_97 (by decide) rfl ?_
    refine rr_isub dX2_layCell_98 rfl ?_
    refine rr_iload dX2_layCell_99 5 rfl rfl ?_
    refine rr_V [.int (v1 - (1 : Int32)), .int v7] [.int v3, .ref (b0 + 1)] dX2_layCell_101 kX2_at mX2_42 ⟨by decide, by decide⟩ (bd_lt hb0 (by decide)) (bd_1 hb0) rfl rfl (Nat.le_of_ble_eq_true rfl) rfl (h.mono fun vr I5 J5 h => ?_)
    obtain ⟨r3, rfl, h⟩ := h
    show rr pgX zX2_layCell 104 _ [.int r3, .int v3, .ref (b0 + 1)] _ _ _
    refine rr_V [.int v3, .int r3] [] dX2_layCell_104 kX2_link mX2_46 ⟨by decide, by decide⟩ (bd_lt hb0 (by decide)) (bd_1 hb0) rfl rfl (Nat.le_of_ble_eq_true rfl) rfl (h.mono fun vr I6 J6 h => ?_)
    obtain ⟨rfl, h⟩ := h
    show rr pgX zX2_layCell 107 _ [] _ _ _
    refine rr_aload_n dX2_layCell_107 rfl 0 rfl rfl ?_
    refine rr_iload_n dX2_layCell_108 rfl 3 rfl rfl ?_
    refine rr_aload_n dX2_layCell_109 rfl 0 rfl rfl ?_
    refine rr_iload_n dX2_layCell_110 rfl 1 rfl rfl ?_
    refine rr_iconst (v := (1 : Int32)) dX2_layCell_111 (by decide) rfl ?_
    refine rr_iadd dX2_layCell_112 rfl ?_
    refine rr_iload dX2_layCell_113 5 rfl rfl ?_
    refine rr_V [.int (v1 + (1 : Int32)), .int v7] [.int v3, .ref (b0 + 1)] dX2_layCell_115 kX2_at mX2_42 ⟨by decide, by decide⟩ (bd_lt hb0 (by decide)) (bd_1 hb0) rfl rfl (Nat.le_of_ble_eq_true rfl) rfl (h.mono fun vr I7 J7 h => ?_)
    obtain ⟨r4, rfl, h⟩ := h
    show rr pgX zX2_layCell 118 _ [.int r4, .int v3, .ref (b0 + 1)] _ _ _
    refine rr_V [.int v3, .int r4] [] dX2_layCell_118 kX2_link mX2_46 ⟨by decide, by decide⟩ (bd_lt hb0 (by decide)) (bd_1 hb0) rfl rfl (Nat.le_of_ble_eq_true rfl) rfl (h.mono fun vr I8 J8 h => ?_)
    obtain ⟨rfl, h⟩ := h
    show rr pgX zX2_layCell 121 _ [] _ _ _
    refine rr_iinc (k := 5) (v := (v7 + (1 : Int32))) (lv' := [(7, .int (v7 + (1 : Int32))), (0, .ref (b0 + 1)), (1, .int v1), (2, .int v2), (3, .int v3), (6, .int v6)]) dX2_layCell_121 rfl rfl (by decide) rfl rfl ?_
    refine rr_goto (tgt := 86) dX2_layCell_124 (by decide) ?_
    exact rr.sub [1, 2, 3, 4, 5, 0] rfl h

theorem e_X2_at {I : tg_I} {J : tg_J} {P : Option Value → tg_I → tg_J → Prop} (b0 : Nat) (v1 : Int32) (v2 : Int32) (hb0 : isBd b0) (h :
  (¬ ((I (b0 + 1) 6) &&& (1 : Int32)) = (1 : Int32) →
   (v1 < 0 →
     P (some (.int (-1 : Int32))) I J) ∧
    (¬ v1 < 0 →
     ((I (b0 + 1) 5) ≤ v1 →
       P (some (.int (-1 : Int32))) I J) ∧
      (¬ (I (b0 + 1) 5) ≤ v1 →
       (v2 < 0 →
         P (some (.int (-1 : Int32))) I J) ∧
        (¬ v2 < 0 →
         ((I (b0 + 1) 4) ≤ v2 →
           P (some (.int (-1 : Int32))) I J) ∧
          (¬ (I (b0 + 1) 4) ≤ v2 →
           P (some (.int ((v1 * (I (b0 + 1) 4)) + v2))) I J))))) ∧
  (((I (b0 + 1) 6) &&& (1 : Int32)) = (1 : Int32) →
   call pgX zX2_wrap [.int v1, .int (I (b0 + 1) 5)] I J (fun vr I1 J1 => ∃ r1 : Int32, vr = some (.int r1) ∧
    (call pgX zX2_wrap [.int v2, .int (I1 (b0 + 1) 4)] I1 J1 (fun vr I2 J2 => ∃ r2 : Int32, vr = some (.int r2) ∧
    ((r1 < 0 →
     P (some (.int (-1 : Int32))) I2 J2) ∧
    (¬ r1 < 0 →
     ((I2 (b0 + 1) 5) ≤ r1 →
       P (some (.int (-1 : Int32))) I2 J2) ∧
      (¬ (I2 (b0 + 1) 5) ≤ r1 →
       (r2 < 0 →
         P (some (.int (-1 : Int32))) I2 J2) ∧
        (¬ r2 < 0 →
         ((I2 (b0 + 1) 4) ≤ r2 →
           P (some (.int (-1 : Int32))) I2 J2) ∧
          (¬ (I2 (b0 + 1) 4) ≤ r2 →
           P (some (.int ((r1 * (I2 (b0 + 1) 4)) + r2))) I2 J2)))))))))) : call pgX zX2_at [.ref (b0 + 1), .int v1, .int v2] I J P := by
  refine call_of (by decide +kernel) (fun _ => Nat.le_of_ble_eq_true rfl) ?_
  show rr pgX zX2_at 0 [(0, .ref (b0 + 1)), (1, .int v1), (2, .int v2)] [] I J P
  refine rr_aload_n dX2_at_0 rfl 0 rfl rfl ?_
  refine rr_getI dX2_at_1 fX2_35 (bd_lt hb0 (by decide)) (bd_1 hb0) rfl rfl ?_
  refine rr_iconst (v := (1 : Int32)) dX2_at_4 (by decide) rfl ?_
  refine rr_iand dX2_at_5 rfl ?_
  refine rr_iconst (v := (1 : Int32)) dX2_at_6 (by decide) rfl ?_
  refine rr_icmp_ne (tgt := 14) dX2_at_7 (by decide) rfl ⟨fun hc => ?_, fun hc => ?_⟩
  · have h := h.1 hc
    refine rr_iconst (v := (0 : Int32)) dX2_at_14 (by decide) rfl ?_
    refine rr_istore_n (lv' := [(3, .int (0 : Int32)), (0, .ref (b0 + 1)), (1, .int v1), (2, .int v2)]) dX2_at_15 rfl (by decide) rfl rfl ?_
    refine rr_iload_n dX2_at_16 rfl 0 rfl rfl ?_
    refine rr_if_eq (tgt := 31) dX2_at_17 (by decide) rfl ⟨fun _ => ?_, fun hc => absurd hc (by decide)⟩
    refine rr_iload_n dX2_at_31 rfl 2 rfl rfl ?_
    refine rr_istore (lv' := [(4, .int v1), (3, .int (0 : Int32)), (0, .ref (b0 + 1)), (1, .int v1), (2, .int v2)]) dX2_at_32 (by decide) rfl rfl ?_
    refine rr_iload_n dX2_at_34 rfl 1 rfl rfl ?_
    refine rr_if_eq (tgt := 49) dX2_at_35 (by decide) rfl ⟨fun _ => ?_, fun hc => absurd hc (by decide)⟩
    refine rr_iload_n dX2_at_49 rfl 4 rfl rfl ?_
    refine rr_istore (lv' := [(5, .int v2), (4, .int v1), (3, .int (0 : Int32)), (0, .ref (b0 + 1)), (1, .int v1), (2, .int v2)]) dX2_at_50 (by decide) rfl rfl ?_
    refine rr_iload dX2_at_52 1 rfl rfl ?_
    refine rr_if_lt (tgt := 84) dX2_at_54 (by decide) rfl ⟨fun hc => ?_, fun hc => ?_⟩
    · have h := h.1 hc
      refine rr_iconst (v := (0 : Int32)) dX2_at_84 (by decide) rfl ?_
      refine rr_istore (lv' := [(6, .int (0 : Int32)), (5, .int v2), (4, .int v1), (3, .int (0 : Int32)), (0, .ref (b0 + 1)), (1, .int v1), (2, .int v2)]) dX2_at_85 (by decide) rfl rfl ?_
      refine rr_iload dX2_at_87 0 rfl rfl ?_
      refine rr_if_eq (tgt := 105) dX2_at_89 (by decide) rfl ⟨fun _ => ?_, fun hc => absurd hc (by decide)⟩
      refine rr_iconst (v := (-1 : Int32)) dX2_at_105 (by decide) rfl ?_
      exact rr_iret dX2_at_106 rfl h
    · have h := h.2 hc
      refine rr_iload dX2_at_57 1 rfl rfl ?_
      refine rr_aload_n dX2_at_59 rfl 3 rfl rfl ?_
      refine rr_getI dX2_at_60 fX2_32 (bd_lt hb0 (by decide)) (bd_1 hb0) rfl rfl ?_
      refine rr_icmp_ge (tgt := 84) dX2_at_63 (by decide) rfl ⟨fun hc => ?_, fun hc => ?_⟩
      · have h := h.1 hc
        refine rr_iconst (v := (0 : Int32)) dX2_at_84 (by decide) rfl ?_
        refine rr_istore (lv' := [(6, .int (0 : Int32)), (5, .int v2), (4, .int v1), (3, .int (0 : Int32)), (0, .ref (b0 + 1)), (1, .int v1), (2, .int v2)]) dX2_at_85 (by decide) rfl rfl ?_
        refine rr_iload dX2_at_87 0 rfl rfl ?_
        refine rr_if_eq (tgt := 105) dX2_at_89 (by decide) rfl ⟨fun _ => ?_, fun hc => absurd hc (by decide)⟩
        refine rr_iconst (v := (-1 : Int32)) dX2_at_105 (by decide) rfl ?_
        exact rr_iret dX2_at_106 rfl h
      · have h := h.2 hc
        refine rr_iload dX2_at_66 0 rfl rfl ?_
        refine rr_if_lt (tgt := 84) dX2_at_68 (by decide) rfl ⟨fun hc => ?_, fun hc => ?_⟩
        · have h := h.1 hc
          refine rr_iconst (v := (0 : Int32)) dX2_at_84 (by decide) rfl ?_
          refine rr_istore (lv' := [(6, .int (0 : Int32)), (5, .int v2), (4, .int v1), (3, .int (0 : Int32)), (0, .ref (b0 + 1)), (1, .int v1), (2, .int v2)]) dX2_at_85 (by decide) rfl rfl ?_
          refine rr_iload dX2_at_87 0 rfl rfl ?_
          refine rr_if_eq (tgt := 105) dX2_at_89 (by decide) rfl ⟨fun _ => ?_, fun hc => absurd hc (by decide)⟩
          refine rr_iconst (v := (-1 : Int32)) dX2_at_105 (by decide) rfl ?_
          exact rr_iret dX2_at_106 rfl h
        · have h := h.2 hc
          refine rr_iload dX2_at_71 0 rfl rfl ?_
          refine rr_aload_n dX2_at_73 rfl 3 rfl rfl ?_
          refine rr_getI dX2_at_74 fX2_29 (bd_lt hb0 (by decide)) (bd_1 hb0) rfl rfl ?_
          refine rr_icmp_ge (tgt := 84) dX2_at_77 (by decide) rfl ⟨fun hc => ?_, fun hc => ?_⟩
          · have h := h.1 hc
            refine rr_iconst (v := (0 : Int32)) dX2_at_84 (by decide) rfl ?_
            refine rr_istore (lv' := [(6, .int (0 : Int32)), (5, .int v2), (4, .int v1), (3, .int (0 : Int32)), (0, .ref (b0 + 1)), (1, .int v1), (2, .int v2)]) dX2_at_85 (by decide) rfl rfl ?_
            refine rr_iload dX2_at_87 0 rfl rfl ?_
            refine rr_if_eq (tgt := 105) dX2_at_89 (by decide) rfl ⟨fun _ => ?_, fun hc => absurd hc (by decide)⟩
            refine rr_iconst (v := (-1 : Int32)) dX2_at_105 (by decide) rfl ?_
            exact rr_iret dX2_at_106 rfl h
          · have h := h.2 hc
            refine rr_iconst (v := (1 : Int32)) dX2_at_80 (by decide) rfl ?_
            refine rr_goto (tgt := 85) dX2_at_81 (by decide) ?_
            refine rr_istore (lv' := [(6, .int (1 : Int32)), (5, .int v2), (4, .int v1), (3, .int (0 : Int32)), (0, .ref (b0 + 1)), (1, .int v1), (2, .int v2)]) dX2_at_85 (by decide) rfl rfl ?_
            refine rr_iload dX2_at_87 0 rfl rfl ?_
            refine rr_if_eq (tgt := 105) dX2_at_89 (by decide) rfl ⟨fun hc => absurd hc (by decide), fun _ => ?_⟩
            refine rr_iload dX2_at_92 2 rfl rfl ?_
            refine rr_aload_n dX2_at_94 rfl 4 rfl rfl ?_
            refine rr_getI dX2_at_95 fX2_29 (bd_lt hb0 (by decide)) (bd_1 hb0) rfl rfl ?_
            refine rr_imul dX2_at_98 rfl ?_
            refine rr_iload dX2_at_99 1 rfl rfl ?_
            refine rr_iadd dX2_at_101 rfl ?_
            refine rr_goto (tgt := 106) dX2_at_102 (by decide) ?_
            exact rr_iret dX2_at_106 rfl h
  · have h := h.2 hc
    refine rr_iconst (v := (1 : Int32)) dX2_at_10 (by decide) rfl ?_
    refine rr_goto (tgt := 15) dX2_at_11 (by decide) ?_
    refine rr_istore_n (lv' := [(3, .int (1 : Int32)), (0, .ref (b0 + 1)), (1, .int v1), (2, .int v2)]) dX2_at_15 rfl (by decide) rfl rfl ?_
    refine rr_iload_n dX2_at_16 rfl 0 rfl rfl ?_
    refine rr_if_eq (tgt := 31) dX2_at_17 (by decide) rfl ⟨fun hc => absurd hc (by decide), fun _ => ?_⟩
    refine rr_iload_n dX2_at_20 rfl 2 rfl rfl ?_
    refine rr_aload_n dX2_at_21 rfl 1 rfl rfl ?_
    refine rr_getI dX2_at_22 fX2_32 (bd_lt hb0 (by decide)) (bd_1 hb0) rfl rfl ?_
    refine rr_S [.int v1, .int (I (b0 + 1) 5)] [] dX2_at_25 kX2_wrap mX2_49 ⟨by decide, by decide⟩ rfl rfl (Nat.le_of_ble_eq_true rfl) rfl (h.mono fun vr I1 J1 h => ?_)
    obtain ⟨r1, rfl, h⟩ := h
    show rr pgX zX2_at 28 _ [.int r1] _ _ _
    refine rr_goto (tgt := 32) dX2_at_28 (by decide) ?_
    refine rr_istore (lv' := [(4, .int r1), (3, .int (1 : Int32)), (0, .ref (b0 + 1)), (1, .int v1), (2, .int v2)]) dX2_at_32 (by decide) rfl rfl ?_
    refine rr_iload_n dX2_at_34 rfl 1 rfl rfl ?_
    refine rr_if_eq (tgt := 49) dX2_at_35 (by decide) rfl ⟨fun hc => absurd hc (by decide), fun _ => ?_⟩
    refine rr_iload_n dX2_at_38 rfl 4 rfl rfl ?_
    refine rr_aload_n dX2_at_39 rfl 2 rfl rfl ?_
    refine rr_getI dX2_at_40 fX2_29 (bd_lt hb0 (by decide)) (bd_1 hb0) rfl rfl ?_
    refine rr_S [.int v2, .int (I1 (b0 + 1) 4)] [] dX2_at_43 kX2_wrap mX2_49 ⟨by decide, by decide⟩ rfl rfl (Nat.le_of_ble_eq_true rfl) rfl (h.mono fun vr I2 J2 h => ?_)
    obtain ⟨r2, rfl, h⟩ := h
    show rr pgX zX2_at 46 _ [.int r2] _ _ _
    refine rr_goto (tgt := 50) dX2_at_46 (by decide) ?_
    refine rr_istore (lv' := [(5, .int r2), (4, .int r1), (3, .int (1 : Int32)), (0, .ref (b0 + 1)), (1, .int v1), (2, .int v2)]) dX2_at_50 (by decide) rfl rfl ?_
    refine rr_iload dX2_at_52 1 rfl rfl ?_
    refine rr_if_lt (tgt := 84) dX2_at_54 (by decide) rfl ⟨fun hc => ?_, fun hc => ?_⟩
    · have h := h.1 hc
      refine rr_iconst (v := (0 : Int32)) dX2_at_84 (by decide) rfl ?_
      refine rr_istore (lv' := [(6, .int (0 : Int32)), (5, .int r2), (4, .int r1), (3, .int (1 : Int32)), (0, .ref (b0 + 1)), (1, .int v1), (2, .int v2)]) dX2_at_85 (by decide) rfl rfl ?_
      refine rr_iload dX2_at_87 0 rfl rfl ?_
      refine rr_if_eq (tgt := 105) dX2_at_89 (by decide) rfl ⟨fun _ => ?_, fun hc => absurd hc (by decide)⟩
      refine rr_iconst (v := (-1 : Int32)) dX2_at_105 (by decide) rfl ?_
      exact rr_iret dX2_at_106 rfl h
    · have h := h.2 hc
      refine rr_iload dX2_at_57 1 rfl rfl ?_
      refine rr_aload_n dX2_at_59 rfl 3 rfl rfl ?_
      refine rr_getI dX2_at_60 fX2_32 (bd_lt hb0 (by decide)) (bd_1 hb0) rfl rfl ?_
      refine rr_icmp_ge (tgt := 84) dX2_at_63 (by decide) rfl ⟨fun hc => ?_, fun hc => ?_⟩
      · have h := h.1 hc
        refine rr_iconst (v := (0 : Int32)) dX2_at_84 (by decide) rfl ?_
        refine rr_istore (lv' := [(6, .int (0 : Int32)), (5, .int r2), (4, .int r1), (3, .int (1 : Int32)), (0, .ref (b0 + 1)), (1, .int v1), (2, .int v2)]) dX2_at_85 (by decide) rfl rfl ?_
        refine rr_iload dX2_at_87 0 rfl rfl ?_
        refine rr_if_eq (tgt := 105) dX2_at_89 (by decide) rfl ⟨fun _ => ?_, fun hc => absurd hc (by decide)⟩
        refine rr_iconst (v := (-1 : Int32)) dX2_at_105 (by decide) rfl ?_
        exact rr_iret dX2_at_106 rfl h
      · have h := h.2 hc
        refine rr_iload dX2_at_66 0 rfl rfl ?_
        refine rr_if_lt (tgt := 84) dX2_at_68 (by decide) rfl ⟨fun hc => ?_, fun hc => ?_⟩
        · have h := h.1 hc
          refine rr_iconst (v := (0 : Int32)) dX2_at_84 (by decide) rfl ?_
          refine rr_istore (lv' := [(6, .int (0 : Int32)), (5, .int r2), (4, .int r1), (3, .int (1 : Int32)), (0, .ref (b0 + 1)), (1, .int v1), (2, .int v2)]) dX2_at_85 (by decide) rfl rfl ?_
          refine rr_iload dX2_at_87 0 rfl rfl ?_
          refine rr_if_eq (tgt := 105) dX2_at_89 (by decide) rfl ⟨fun _ => ?_, fun hc => absurd hc (by decide)⟩
          refine rr_iconst (v := (-1 : Int32)) dX2_at_105 (by decide) rfl ?_
          exact rr_iret dX2_at_106 rfl h
        · have h := h.2 hc
          refine rr_iload dX2_at_71 0 rfl rfl ?_
          refine rr_aload_n dX2_at_73 rfl 3 rfl rfl ?_
          refine rr_getI dX2_at_74 fX2_29 (bd_lt hb0 (by decide)) (bd_1 hb0) rfl rfl ?_
          refine rr_icmp_ge (tgt := 84) dX2_at_77 (by decide) rfl ⟨fun hc => ?_, fun hc => ?_⟩
          · have h := h.1 hc
            refine rr_iconst (v := (0 : Int32)) dX2_at_84 (by decide) rfl ?_
            refine rr_istore (lv' := [(6, .int (0 : Int32)), (5, .int r2), (4, .int r1), (3, .int (1 : Int32)), (0, .ref (b0 + 1)), (1, .int v1), (2, .int v2)]) dX2_at_85 (by decide) rfl rfl ?_
            refine rr_iload dX2_at_87 0 rfl rfl ?_
            refine rr_if_eq (tgt := 105) dX2_at_89 (by decide) rfl ⟨fun _ => ?_, fun hc => absurd hc (by decide)⟩
            refine rr_iconst (v := (-1 : Int32)) dX2_at_105 (by decide) rfl ?_
            exact rr_iret dX2_at_106 rfl h
          · have h := h.2 hc
            refine rr_iconst (v := (1 : Int32)) dX2_at_80 (by decide) rfl ?_
            refine rr_goto (tgt := 85) dX2_at_81 (by decide) ?_
            refine rr_istore (lv' := [(6, .int (1 : Int32)), (5, .int r2), (4, .int r1), (3, .int (1 : Int32)), (0, .ref (b0 + 1)), (1, .int v1), (2, .int v2)]) dX2_at_85 (by decide) rfl rfl ?_
            refine rr_iload dX2_at_87 0 rfl rfl ?_
            refine rr_if_eq (tgt := 105) dX2_at_89 (by decide) rfl ⟨fun hc => absurd hc (by decide), fun _ => ?_⟩
            refine rr_iload dX2_at_92 2 rfl rfl ?_
            refine rr_aload_n dX2_at_94 rfl 4 rfl rfl ?_
            refine rr_getI dX2_at_95 fX2_29 (bd_lt hb0 (by decide)) (bd_1 hb0) rfl rfl ?_
            refine rr_imul dX2_at_98 rfl ?_
            refine rr_iload dX2_at_99 1 rfl rfl ?_
            refine rr_iadd dX2_at_101 rfl ?_
            refine rr_goto (tgt := 106) dX2_at_102 (by decide) ?_
            exact rr_iret dX2_at_106 rfl h

theorem e_X2_wrap {I : tg_I} {J : tg_J} {P : Option Value → tg_I → tg_J → Prop} (v0 : Int32) (v1 : Int32) (h :
  (0 ≤ v0 →
   (v0 < v1 →
     P (some (.int v0)) I J) ∧
    (¬ v0 < v1 →
     P (some (.int (v0 - v1))) I J)) ∧
  (¬ 0 ≤ v0 →
   P (some (.int (v0 + v1))) I J)) : call pgX zX2_wrap [.int v0, .int v1] I J P := by
  refine call_of (by decide +kernel) (fun _ => Nat.le_of_ble_eq_true rfl) ?_
  show rr pgX zX2_wrap 0 [(0, .int v0), (1, .int v1)] [] I J P
  refine rr_iload_n dX2_wrap_0 rfl 0 rfl rfl ?_
  refine rr_if_ge (tgt := 8) dX2_wrap_1 (by decide) rfl ⟨fun hc => ?_, fun hc => ?_⟩
  · have h := h.1 hc
    refine rr_iload_n dX2_wrap_8 rfl 0 rfl rfl ?_
    refine rr_iload_n dX2_wrap_9 rfl 1 rfl rfl ?_
    refine rr_icmp_lt (tgt := 19) dX2_wrap_10 (by decide) rfl ⟨fun hc => ?_, fun hc => ?_⟩
    · have h := h.1 hc
      refine rr_iload_n dX2_wrap_19 rfl 0 rfl rfl ?_
      exact rr_iret dX2_wrap_20 rfl h
    · have h := h.2 hc
      refine rr_iload_n dX2_wrap_13 rfl 0 rfl rfl ?_
      refine rr_iload_n dX2_wrap_14 rfl 1 rfl rfl ?_
      refine rr_isub dX2_wrap_15 rfl ?_
      refine rr_goto (tgt := 20) dX2_wrap_16 (by decide) ?_
      exact rr_iret dX2_wrap_20 rfl h
  · have h := h.2 hc
    refine rr_iload_n dX2_wrap_4 rfl 0 rfl rfl ?_
    refine rr_iload_n dX2_wrap_5 rfl 1 rfl rfl ?_
    refine rr_iadd dX2_wrap_6 rfl ?_
    exact rr_iret dX2_wrap_7 rfl h

def l_X2_link_45 (I : tg_I) (J : tg_J) (P : Option Value → tg_I → tg_J → Prop) (b0 : Nat) (v1 : Int32) (v2 : Int32) (v3 : Int32) (v4 : Int32) : Prop := rr pgX zX2_link 45 [(0, .ref (b0 + 1)), (1, .int v1), (2, .int v2), (3, .int v3), (4, .int v4)] [] I J P
theorem e_X2_link {I : tg_I} {J : tg_J} {P : Option Value → tg_I → tg_J → Prop} (b0 : Nat) (v1 : Int32) (v2 : Int32) (hb0 : isBd b0) (h :
  (v2 < 0 →
   P none I J) ∧
  (¬ v2 < 0 →
   (v2 = v1 →
     P none I J) ∧
    (¬ v2 = v1 →
     vp_in v1 100 ∧
      (((8 : Int32) ≤ (I (b0 + 5) (Int32.toNatClampNeg v1)) →
       P none I J) ∧
      (¬ (8 : Int32) ≤ (I (b0 + 5) (Int32.toNatClampNeg v1)) →
       call pgX zX2_linked [.ref (b0 + 1), .int v1, .int v2] I J (fun vr I1 J1 => ∃ r1 : Int32, vr = some (.int r1) ∧
        ((r1 = 0 →
         vp_in v1 100 ∧
          (∀ x1, x1 = ((v1 * (8 : Int32)) + (I1 (b0 + 5) (Int32.toNatClampNeg v1))) →
          l_X2_link_45 I1 J1 P b0 v1 v2 ((v1 * (8 : Int32))) x1)) ∧
        (¬ r1 = 0 →
         P none I1 J1)))))))) : call pgX zX2_link [.ref (b0 + 1), .int v1, .int v2] I J P := by
  refine call_of (by decide +kernel) (fun _ => Nat.le_of_ble_eq_true rfl) ?_
  show rr pgX zX2_link 0 [(0, .ref (b0 + 1)), (1, .int v1), (2, .int v2)] [] I J P
  refine rr_iload_n dX2_link_0 rfl 2 rfl rfl ?_
  refine rr_if_lt (tgt := 29) dX2_link_1 (by decide) rfl ⟨fun hc => ?_, fun hc => ?_⟩
  · have h := h.1 hc
    exact rr_vret dX2_link_29 rfl h
  · have h := h.2 hc
    refine rr_iload_n dX2_link_4 rfl 2 rfl rfl ?_
    refine rr_iload_n dX2_link_5 rfl 1 rfl rfl ?_
    refine rr_icmp_eq (tgt := 29) dX2_link_6 (by decide) rfl ⟨fun hc => ?_, fun hc => ?_⟩
    · have h := h.1 hc
      exact rr_vret dX2_link_29 rfl h
    · have h := h.2 hc
      refine rr_aload_n dX2_link_9 rfl 0 rfl rfl ?_
      refine rr_getR dX2_link_10 fX2_22 (bd_lt hb0 (by decide)) (bd_1 hb0) rfl rfl ?_
      refine rr_iload_n dX2_link_13 rfl 1 rfl rfl ?_
      refine rr_iald dX2_link_14 (bd_lt hb0 (by decide)) (bd_5 hb0) rfl ⟨h.1, ?_⟩
      have h := h.2
      refine rr_bipush (v := (8 : Int32)) dX2_link_15 (by decide) rfl ?_
      refine rr_icmp_ge (tgt := 29) dX2_link_17 (by decide) rfl ⟨fun hc => ?_, fun hc => ?_⟩
      · have h := h.1 hc
        exact rr_vret dX2_link_29 rfl h
      · have h := h.2 hc
        refine rr_aload_n dX2_link_20 rfl 0 rfl rfl ?_
        refine rr_iload_n dX2_link_21 rfl 1 rfl rfl ?_
        refine rr_iload_n dX2_link_22 rfl 2 rfl rfl ?_
        refine rr_V [.int v1, .int v2] [] dX2_link_23 kX2_linked mX2_52 ⟨by decide, by decide⟩ (bd_lt hb0 (by decide)) (bd_1 hb0) rfl rfl (Nat.le_of_ble_eq_true rfl) rfl (h.mono fun vr I1 J1 h => ?_)
        obtain ⟨r1, rfl, h⟩ := h
        show rr pgX zX2_link 26 _ [.int r1] _ _ _
        refine rr_if_eq (tgt := 30) dX2_link_26 (by decide) rfl ⟨fun hc => ?_, fun hc => ?_⟩
        · have h := h.1 hc
          refine rr_iload_n dX2_link_30 rfl 1 rfl rfl ?_
          refine rr_bipush (v := (8 : Int32)) dX2_link_31 (by decide) rfl ?_
          refine rr_imul dX2_link_33 rfl ?_
          refine rr_istore_n (lv' := [(3, .int (v1 * (8 : Int32))), (0, .ref (b0 + 1)), (1, .int v1), (2, .int v2)]) dX2_link_34 rfl (by decide) rfl rfl ?_
          refine rr_iload_n dX2_link_35 rfl 0 rfl rfl ?_
          refine rr_aload_n dX2_link_36 rfl 1 rfl rfl ?_
          refine rr_getR dX2_link_37 fX2_22 (bd_lt hb0 (by decide)) (bd_1 hb0) rfl rfl ?_
          refine rr_iload_n dX2_link_40 rfl 2 rfl rfl ?_
          refine rr_iald dX2_link_41 (bd_lt hb0 (by decide)) (bd_5 hb0) rfl ⟨h.1, ?_⟩
          have h := h.2
          refine rr_iadd dX2_link_42 rfl ?_
          refine rr_letTi (fun x1 hx1 => ?_)
          have h := h x1 hx1
          refine rr_istore (lv' := [(4, .int x1), (3, .int (v1 * (8 : Int32))), (0, .ref (b0 + 1)), (1, .int v1), (2, .int v2)]) dX2_link_43 (by decide) rfl rfl ?_
          exact rr.sub [2, 3, 4, 1, 0] rfl h
        · have h := h.2 hc
          exact rr_vret dX2_link_29 rfl h
theorem s_X2_link_45 {I : tg_I} {J : tg_J} {P : Option Value → tg_I → tg_J → Prop} (b0 : Nat) (v1 : Int32) (v2 : Int32) (v3 : Int32) (v4 : Int32) (hb0 : isBd b0) (h :
  (v4 ≤ v3 →
   vp_in v4 800 ∧ ∀ I1, I1 = u2 I (b0 + 4) (Int32.toNatClampNeg v4) v2 →
    vp_in v1 100 ∧
    (vp_in v1 100 ∧ ∀ I2, I2 = u2 I1 (b0 + 5) (Int32.toNatClampNeg v1) ((I1 (b0 + 5) (Int32.toNatClampNeg v1)) + (1 : Int32)) →
    ((64 : Int32) ≤ v2 →
     vp_in v1 100 ∧
      (vp_in v1 100 ∧ ∀ J1, J1 = u2 J (b0 + 3) (Int32.toNatClampNeg v1) ((J (b0 + 3) (Int32.toNatClampNeg v1)) ||| ((1 : Int64) <<< (v2.toInt64 &&& 63))) →
      P none I2 J1)) ∧
    (¬ (64 : Int32) ≤ v2 →
     vp_in v1 100 ∧
      (vp_in v1 100 ∧ ∀ J2, J2 = u2 J (b0 + 2) (Int32.toNatClampNeg v1) ((J (b0 + 2) (Int32.toNatClampNeg v1)) ||| ((1 : Int64) <<< (v2.toInt64 &&& 63))) →
      P none I2 J2)))) ∧
  (¬ v4 ≤ v3 →
   vp_in (v4 - (1 : Int32)) 800 ∧
    (((I (b0 + 4) (Int32.toNatClampNeg (v4 - (1 : Int32)))) ≤ v2 →
     vp_in v4 800 ∧ ∀ I3, I3 = u2 I (b0 + 4) (Int32.toNatClampNeg v4) v2 →
      vp_in v1 100 ∧
      (vp_in v1 100 ∧ ∀ I4, I4 = u2 I3 (b0 + 5) (Int32.toNatClampNeg v1) ((I3 (b0 + 5) (Int32.toNatClampNeg v1)) + (1 : Int32)) →
      ((64 : Int32) ≤ v2 →
       vp_in v1 100 ∧
        (vp_in v1 100 ∧ ∀ J3, J3 = u2 J (b0 + 3) (Int32.toNatClampNeg v1) ((J (b0 + 3) (Int32.toNatClampNeg v1)) ||| ((1 : Int64) <<< (v2.toInt64 &&& 63))) →
        P none I4 J3)) ∧
      (¬ (64 : Int32) ≤ v2 →
       vp_in v1 100 ∧
        (vp_in v1 100 ∧ ∀ J4, J4 = u2 J (b0 + 2) (Int32.toNatClampNeg v1) ((J (b0 + 2) (Int32.toNatClampNeg v1)) ||| ((1 : Int64) <<< (v2.toInt64 &&& 63))) →
        P none I4 J4)))) ∧
    (¬ (I (b0 + 4) (Int32.toNatClampNeg (v4 - (1 : Int32)))) ≤ v2 →
     vp_in (v4 - (1 : Int32)) 800 ∧
      (vp_in v4 800 ∧ ∀ I5, I5 = u2 I (b0 + 4) (Int32.toNatClampNeg v4) (I (b0 + 4) (Int32.toNatClampNeg (v4 - (1 : Int32)))) →
      l_X2_link_45 I5 J P b0 v1 v2 v3 ((v4 + (-1 : Int32)))))))) : l_X2_link_45 I J P b0 v1 v2 v3 v4 := by
  show rr pgX zX2_link 45 [(0, .ref (b0 + 1)), (1, .int v1), (2, .int v2), (3, .int v3), (4, .int v4)] [] I J P
  refine rr_iload dX2_link_45 4 rfl rfl ?_
  refine rr_iload_n dX2_link_47 rfl 3 rfl rfl ?_
  refine rr_icmp_le (tgt := 86) dX2_link_48 (by decide) rfl ⟨fun hc => ?_, fun hc => ?_⟩
  · have h := h.1 hc
    refine rr_aload_n dX2_link_86 rfl 0 rfl rfl ?_
    refine rr_getR dX2_link_87 fX2_18 (bd_lt hb0 (by decide)) (bd_1 hb0) rfl rfl ?_
    refine rr_iload dX2_link_90 4 rfl rfl ?_
    refine rr_iload_n dX2_link_92 rfl 2 rfl rfl ?_
    refine rr_iast dX2_link_93 (bd_lt hb0 (by decide)) (bd_4 hb0) rfl ⟨h.1, ?_⟩
    refine rr_letI (fun I1 hI1 => ?_)
    have h := h.2 I1 hI1
    refine rr_aload_n dX2_link_94 rfl 0 rfl rfl ?_
    refine rr_getR dX2_link_95 fX2_22 (bd_lt hb0 (by decide)) (bd_1 hb0) rfl rfl ?_
    refine rr_iload_n dX2_link_98 rfl 1 rfl rfl ?_
    refine rr_dup2_11 dX2_link_99 rfl rfl rfl ?_
    refine rr_iald dX2_link_100 (bd_lt hb0 (by decide)) (bd_5 hb0) rfl ⟨h.1, ?_⟩
    have h := h.2
    refine rr_iconst (v := (1 : Int32)) dX2_link_101 (by decide) rfl ?_
    refine rr_iadd dX2_link_102 rfl ?_
    refine rr_iast dX2_link_103 (bd_lt hb0 (by decide)) (bd_5 hb0) rfl ⟨h.1, ?_⟩
    refine rr_letI (fun I2 hI2 => ?_)
    have h := h.2 I2 hI2
    refine rr_iload_n dX2_link_104 rfl 2 rfl rfl ?_
    refine rr_bipush (v := (64 : Int32)) dX2_link_105 (by decide) rfl ?_
    refine rr_icmp_ge (tgt := 125) dX2_link_107 (by decide) rfl ⟨fun hc => ?_, fun hc => ?_⟩
    · have h := h.1 hc
      refine rr_aload_n dX2_link_125 rfl 0 rfl rfl ?_
      refine rr_getR dX2_link_126 fX2_15 (bd_lt hb0 (by decide)) (bd_1 hb0) rfl rfl ?_
      refine rr_iload_n dX2_link_129 rfl 1 rfl rfl ?_
      refine rr_dup2_11 dX2_link_130 rfl rfl rfl ?_
      refine rr_lald dX2_link_131 (bd_lt hb0 (by decide)) (bd_3 hb0) rfl ⟨h.1, ?_⟩
      have h := h.2
      refine rr_lconst (v := (1 : Int64)) dX2_link_132 (by decide) rfl ?_
      refine rr_iload_n dX2_link_133 rfl 2 rfl rfl ?_
      refine rr_lshl dX2_link_134 rfl ?_
      refine rr_lor dX2_link_135 rfl ?_
      refine rr_last dX2_link_136 (bd_lt hb0 (by decide)) (bd_3 hb0) rfl ⟨h.1, ?_⟩
      refine rr_letJ (fun J1 hJ1 => ?_)
      have h := h.2 J1 hJ1
      exact rr_vret dX2_link_137 rfl h
    · have h := h.2 hc
      refine rr_aload_n dX2_link_110 rfl 0 rfl rfl ?_
      refine rr_getR dX2_link_111 fX2_9 (bd_lt hb0 (by decide)) (bd_1 hb0) rfl rfl ?_
      refine rr_iload_n dX2_link_114 rfl 1 rfl rfl ?_
      refine rr_dup2_11 dX2_link_115 rfl rfl rfl ?_
      refine rr_lald dX2_link_116 (bd_lt hb0 (by decide)) (bd_2 hb0) rfl ⟨h.1, ?_⟩
      have h := h.2
      refine rr_lconst (v := (1 : Int64)) dX2_link_117 (by decide) rfl ?_
      refine rr_iload_n dX2_link_118 rfl 2 rfl rfl ?_
      refine rr_lshl dX2_link_119 rfl ?_
      refine rr_lor dX2_link_120 rfl ?_
      refine rr_last dX2_link_121 (bd_lt hb0 (by decide)) (bd_2 hb0) rfl ⟨h.1, ?_⟩
      refine rr_letJ (fun J2 hJ2 => ?_)
      have h := h.2 J2 hJ2
      refine rr_goto (tgt := 137) dX2_link_122 (by decide) ?_
      exact rr_vret dX2_link_137 rfl h
  · have h := h.2 hc
    refine rr_aload_n dX2_link_51 rfl 0 rfl rfl ?_
    refine rr_getR dX2_link_52 fX2_18 (bd_lt hb0 (by decide)) (bd_1 hb0) rfl rfl ?_
    refine rr_iload dX2_link_55 4 rfl rfl ?_
    refine rr_iconst (v := (1 : Int32)) dX2_link_57 (by decide) rfl ?_
    refine rr_isub dX2_link_58 rfl ?_
    refine rr_iald dX2_link_59 (bd_lt hb0 (by decide)) (bd_4 hb0) rfl ⟨h.1, ?_⟩
    have h := h.2
    refine rr_iload_n dX2_link_60 rfl 2 rfl rfl ?_
    refine rr_icmp_le (tgt := 86) dX2_link_61 (by decide) rfl ⟨fun hc => ?_, fun hc => ?_⟩
    · have h := h.1 hc
      refine rr_aload_n dX2_link_86 rfl 0 rfl rfl ?_
      refine rr_getR dX2_link_87 fX2_18 (bd_lt hb0 (by decide)) (bd_1 hb0) rfl rfl ?_
      refine rr_iload dX2_link_90 4 rfl rfl ?_
      refine rr_iload_n dX2_link_92 rfl 2 rfl rfl ?_
      refine rr_iast dX2_link_93 (bd_lt hb0 (by decide)) (bd_4 hb0) rfl ⟨h.1, ?_⟩
      refine rr_letI (fun I3 hI3 => ?_)
      have h := h.2 I3 hI3
      refine rr_aload_n dX2_link_94 rfl 0 rfl rfl ?_
      refine rr_getR dX2_link_95 fX2_22 (bd_lt hb0 (by decide)) (bd_1 hb0) rfl rfl ?_
      refine rr_iload_n dX2_link_98 rfl 1 rfl rfl ?_
      refine rr_dup2_11 dX2_link_99 rfl rfl rfl ?_
      refine rr_iald dX2_link_100 (bd_lt hb0 (by decide)) (bd_5 hb0) rfl ⟨h.1, ?_⟩
      have h := h.2
      refine rr_iconst (v := (1 : Int32)) dX2_link_101 (by decide) rfl ?_
      refine rr_iadd dX2_link_102 rfl ?_
      refine rr_iast dX2_link_103 (bd_lt hb0 (by decide)) (bd_5 hb0) rfl ⟨h.1, ?_⟩
      refine rr_letI (fun I4 hI4 => ?_)
      have h := h.2 I4 hI4
      refine rr_iload_n dX2_link_104 rfl 2 rfl rfl ?_
      refine rr_bipush (v := (64 : Int32)) dX2_link_105 (by decide) rfl ?_
      refine rr_icmp_ge (tgt := 125) dX2_link_107 (by decide) rfl ⟨fun hc => ?_, fun hc => ?_⟩
      · have h := h.1 hc
        refine rr_aload_n dX2_link_125 rfl 0 rfl rfl ?_
        refine rr_getR dX2_link_126 fX2_15 (bd_lt hb0 (by decide)) (bd_1 hb0) rfl rfl ?_
        refine rr_iload_n dX2_link_129 rfl 1 rfl rfl ?_
        refine rr_dup2_11 dX2_link_130 rfl rfl rfl ?_
        refine rr_lald dX2_link_131 (bd_lt hb0 (by decide)) (bd_3 hb0) rfl ⟨h.1, ?_⟩
        have h := h.2
        refine rr_lconst (v := (1 : Int64)) dX2_link_132 (by decide) rfl ?_
        refine rr_iload_n dX2_link_133 rfl 2 rfl rfl ?_
        refine rr_lshl dX2_link_134 rfl ?_
        refine rr_lor dX2_link_135 rfl ?_
        refine rr_last dX2_link_136 (bd_lt hb0 (by decide)) (bd_3 hb0) rfl ⟨h.1, ?_⟩
        refine rr_letJ (fun J3 hJ3 => ?_)
        have h := h.2 J3 hJ3
        exact rr_vret dX2_link_137 rfl h
      · have h := h.2 hc
        refine rr_aload_n dX2_link_110 rfl 0 rfl rfl ?_
        refine rr_getR dX2_link_111 fX2_9 (bd_lt hb0 (by decide)) (bd_1 hb0) rfl rfl ?_
        refine rr_iload_n dX2_link_114 rfl 1 rfl rfl ?_
        refine rr_dup2_11 dX2_link_115 rfl rfl rfl ?_
        refine rr_lald dX2_link_116 (bd_lt hb0 (by decide)) (bd_2 hb0) rfl ⟨h.1, ?_⟩
        have h := h.2
        refine rr_lconst (v := (1 : Int64)) dX2_link_117 (by decide) rfl ?_
        refine rr_iload_n dX2_link_118 rfl 2 rfl rfl ?_
        refine rr_lshl dX2_link_119 rfl ?_
        refine rr_lor dX2_link_120 rfl ?_
        refine rr_last dX2_link_121 (bd_lt hb0 (by decide)) (bd_2 hb0) rfl ⟨h.1, ?_⟩
        refine rr_letJ (fun J4 hJ4 => ?_)
        have h := h.2 J4 hJ4
        refine rr_goto (tgt := 137) dX2_link_122 (by decide) ?_
        exact rr_vret dX2_link_137 rfl h
    · have h := h.2 hc
      refine rr_aload_n dX2_link_64 rfl 0 rfl rfl ?_
      refine rr_getR dX2_link_65 fX2_18 (bd_lt hb0 (by decide)) (bd_1 hb0) rfl rfl ?_
      refine rr_iload dX2_link_68 4 rfl rfl ?_
      refine rr_aload_n dX2_link_70 rfl 0 rfl rfl ?_
      refine rr_getR dX2_link_71 fX2_18 (bd_lt hb0 (by decide)) (bd_1 hb0) rfl rfl ?_
      refine rr_iload dX2_link_74 4 rfl rfl ?_
      refine rr_iconst (v := (1 : Int32)) dX2_link_76 (by decide) rfl ?_
      refine rr_isub dX2_link_77 rfl ?_
      refine rr_iald dX2_link_78 (bd_lt hb0 (by decide)) (bd_4 hb0) rfl ⟨h.1, ?_⟩
      have h := h.2
      refine rr_iast dX2_link_79 (bd_lt hb0 (by decide)) (bd_4 hb0) rfl ⟨h.1, ?_⟩
      refine rr_letI (fun I5 hI5 => ?_)
      have h := h.2 I5 hI5
      refine rr_iinc (k := 4) (v := (v4 + (-1 : Int32))) (lv' := [(4, .int (v4 + (-1 : Int32))), (0, .ref (b0 + 1)), (1, .int v1), (2, .int v2), (3, .int v3)]) dX2_link_80 rfl rfl (by decide) rfl rfl ?_
      refine rr_goto (tgt := 45) dX2_link_83 (by decide) ?_
      exact rr.sub [1, 2, 3, 4, 0] rfl h

theorem e_X2_linked {I : tg_I} {J : tg_J} {P : Option Value → tg_I → tg_J → Prop} (b0 : Nat) (v1 : Int32) (v2 : Int32) (hb0 : isBd b0) (h :
  ((64 : Int32) ≤ v2 →
   vp_in v1 100 ∧
    (((lg_cmp ((((J (b0 + 3) (Int32.toNatClampNeg v1)).toUInt64 >>> (v2.toInt64.toUInt64 &&& Int64.toUInt64 63)).toInt64) &&& (1 : Int64)) (0 : Int64)) = 0 →
     P (some (.int (0 : Int32))) I J) ∧
    (¬ (lg_cmp ((((J (b0 + 3) (Int32.toNatClampNeg v1)).toUInt64 >>> (v2.toInt64.toUInt64 &&& Int64.toUInt64 63)).toInt64) &&& (1 : Int64)) (0 : Int64)) = 0 →
     P (some (.int (1 : Int32))) I J))) ∧
  (¬ (64 : Int32) ≤ v2 →
   vp_in v1 100 ∧
    (((lg_cmp ((((J (b0 + 2) (Int32.toNatClampNeg v1)).toUInt64 >>> (v2.toInt64.toUInt64 &&& Int64.toUInt64 63)).toInt64) &&& (1 : Int64)) (0 : Int64)) = 0 →
     P (some (.int (0 : Int32))) I J) ∧
    (¬ (lg_cmp ((((J (b0 + 2) (Int32.toNatClampNeg v1)).toUInt64 >>> (v2.toInt64.toUInt64 &&& Int64.toUInt64 63)).toInt64) &&& (1 : Int64)) (0 : Int64)) = 0 →
     P (some (.int (1 : Int32))) I J)))) : call pgX zX2_linked [.ref (b0 + 1), .int v1, .int v2] I J P := by
  refine call_of (by decide +kernel) (fun _ => Nat.le_of_ble_eq_true rfl) ?_
  show rr pgX zX2_linked 0 [(0, .ref (b0 + 1)), (1, .int v1), (2, .int v2)] [] I J P
  refine rr_iload_n dX2_linked_0 rfl 2 rfl rfl ?_
  refine rr_bipush (v := (64 : Int32)) dX2_linked_1 (by decide) rfl ?_
  refine rr_icmp_ge (tgt := 15) dX2_linked_3 (by decide) rfl ⟨fun hc => ?_, fun hc => ?_⟩
  · have h := h.1 hc
    refine rr_aload_n dX2_linked_15 rfl 0 rfl rfl ?_
    refine rr_getR dX2_linked_16 fX2_15 (bd_lt hb0 (by decide)) (bd_1 hb0) rfl rfl ?_
    refine rr_iload_n dX2_linked_19 rfl 1 rfl rfl ?_
    refine rr_lald dX2_linked_20 (bd_lt hb0 (by decide)) (bd_3 hb0) rfl ⟨h.1, ?_⟩
    have h := h.2
    refine rr_iload_n dX2_linked_21 rfl 2 rfl rfl ?_
    refine rr_lushr dX2_linked_22 rfl ?_
    refine rr_lconst (v := (1 : Int64)) dX2_linked_23 (by decide) rfl ?_
    refine rr_land dX2_linked_24 rfl ?_
    refine rr_lconst (v := (0 : Int64)) dX2_linked_25 (by decide) rfl ?_
    refine rr_lcmp dX2_linked_26 rfl ?_
    refine rr_if_eq (tgt := 34) dX2_linked_27 (by decide) rfl ⟨fun hc => ?_, fun hc => ?_⟩
    · have h := h.1 hc
      refine rr_iconst (v := (0 : Int32)) dX2_linked_34 (by decide) rfl ?_
      exact rr_zret dX2_linked_35 rfl rfl h
    · have h := h.2 hc
      refine rr_iconst (v := (1 : Int32)) dX2_linked_30 (by decide) rfl ?_
      refine rr_goto (tgt := 35) dX2_linked_31 (by decide) ?_
      exact rr_zret dX2_linked_35 rfl rfl h
  · have h := h.2 hc
    refine rr_aload_n dX2_linked_6 rfl 0 rfl rfl ?_
    refine rr_getR dX2_linked_7 fX2_9 (bd_lt hb0 (by decide)) (bd_1 hb0) rfl rfl ?_
    refine rr_iload_n dX2_linked_10 rfl 1 rfl rfl ?_
    refine rr_lald dX2_linked_11 (bd_lt hb0 (by decide)) (bd_2 hb0) rfl ⟨h.1, ?_⟩
    have h := h.2
    refine rr_goto (tgt := 21) dX2_linked_12 (by decide) ?_
    refine rr_iload_n dX2_linked_21 rfl 2 rfl rfl ?_
    refine rr_lushr dX2_linked_22 rfl ?_
    refine rr_lconst (v := (1 : Int64)) dX2_linked_23 (by decide) rfl ?_
    refine rr_land dX2_linked_24 rfl ?_
    refine rr_lconst (v := (0 : Int64)) dX2_linked_25 (by decide) rfl ?_
    refine rr_lcmp dX2_linked_26 rfl ?_
    refine rr_if_eq (tgt := 34) dX2_linked_27 (by decide) rfl ⟨fun hc => ?_, fun hc => ?_⟩
    · have h := h.1 hc
      refine rr_iconst (v := (0 : Int32)) dX2_linked_34 (by decide) rfl ?_
      exact rr_zret dX2_linked_35 rfl rfl h
    · have h := h.2 hc
      refine rr_iconst (v := (1 : Int32)) dX2_linked_30 (by decide) rfl ?_
      refine rr_goto (tgt := 35) dX2_linked_31 (by decide) ?_
      exact rr_zret dX2_linked_35 rfl rfl h

theorem e_X2_touches {I : tg_I} {J : tg_J} {P : Option Value → tg_I → tg_J → Prop} (b0 : Nat) (v1 : Int32) (k2 : Nat) (hb0 : isBd b0) (hk2 : isBits k2) (h :
  vp_in v1 100 ∧
  (vp_in v1 100 ∧
  (((lg_cmp (((J (b0 + 2) (Int32.toNatClampNeg v1)) &&& (J k2 0)) ||| ((J (b0 + 3) (Int32.toNatClampNeg v1)) &&& (J k2 1))) (0 : Int64)) = 0 →
   P (some (.int (0 : Int32))) I J) ∧
  (¬ (lg_cmp (((J (b0 + 2) (Int32.toNatClampNeg v1)) &&& (J k2 0)) ||| ((J (b0 + 3) (Int32.toNatClampNeg v1)) &&& (J k2 1))) (0 : Int64)) = 0 →
   P (some (.int (1 : Int32))) I J)))) : call pgX zX2_touches [.ref (b0 + 1), .int v1, .ref k2] I J P := by
  refine call_of (by decide +kernel) (fun _ => Nat.le_of_ble_eq_true rfl) ?_
  show rr pgX zX2_touches 0 [(0, .ref (b0 + 1)), (1, .int v1), (2, .ref k2)] [] I J P
  refine rr_aload_n dX2_touches_0 rfl 0 rfl rfl ?_
  refine rr_getR dX2_touches_1 fX2_9 (bd_lt hb0 (by decide)) (bd_1 hb0) rfl rfl ?_
  refine rr_iload_n dX2_touches_4 rfl 1 rfl rfl ?_
  refine rr_lald dX2_touches_5 (bd_lt hb0 (by decide)) (bd_2 hb0) rfl ⟨h.1, ?_⟩
  have h := h.2
  refine rr_aload_n dX2_touches_6 rfl 2 rfl rfl ?_
  refine rr_getJ dX2_touches_7 fX2_56 hk2.1 hk2.2 rfl rfl ?_
  refine rr_land dX2_touches_10 rfl ?_
  refine rr_aload_n dX2_touches_11 rfl 0 rfl rfl ?_
  refine rr_getR dX2_touches_12 fX2_15 (bd_lt hb0 (by decide)) (bd_1 hb0) rfl rfl ?_
  refine rr_iload_n dX2_touches_15 rfl 1 rfl rfl ?_
  refine rr_lald dX2_touches_16 (bd_lt hb0 (by decide)) (bd_3 hb0) rfl ⟨h.1, ?_⟩
  have h := h.2
  refine rr_aload_n dX2_touches_17 rfl 2 rfl rfl ?_
  refine rr_getJ dX2_touches_18 fX2_62 hk2.1 hk2.2 rfl rfl ?_
  refine rr_land dX2_touches_21 rfl ?_
  refine rr_lor dX2_touches_22 rfl ?_
  refine rr_lconst (v := (0 : Int64)) dX2_touches_23 (by decide) rfl ?_
  refine rr_lcmp dX2_touches_24 rfl ?_
  refine rr_if_eq (tgt := 32) dX2_touches_25 (by decide) rfl ⟨fun hc => ?_, fun hc => ?_⟩
  · have h := h.1 hc
    refine rr_iconst (v := (0 : Int32)) dX2_touches_32 (by decide) rfl ?_
    exact rr_zret dX2_touches_33 rfl rfl h
  · have h := h.2 hc
    refine rr_iconst (v := (1 : Int32)) dX2_touches_28 (by decide) rfl ?_
    refine rr_goto (tgt := 33) dX2_touches_29 (by decide) ?_
    exact rr_zret dX2_touches_33 rfl rfl h

theorem e_X2_countNear {I : tg_I} {J : tg_J} {P : Option Value → tg_I → tg_J → Prop} (b0 : Nat) (v1 : Int32) (k2 : Nat) (hb0 : isBd b0) (hk2 : isBits k2) (h :
  vp_in v1 100 ∧
  (call pgX zJ13_bitCount_95d88 [.long ((J (b0 + 2) (Int32.toNatClampNeg v1)) &&& (J k2 0))] I J (fun vr I1 J1 => ∃ r1 : Int32, vr = some (.int r1) ∧
  (vp_in v1 100 ∧
  (call pgX zJ13_bitCount_95d88 [.long ((J1 (b0 + 3) (Int32.toNatClampNeg v1)) &&& (J1 k2 1))] I1 J1 (fun vr I2 J2 => ∃ r2 : Int32, vr = some (.int r2) ∧
  (P (some (.int (r1 + r2))) I2 J2))))))) : call pgX zX2_countNear [.ref (b0 + 1), .int v1, .ref k2] I J P := by
  refine call_of (by decide +kernel) (fun _ => Nat.le_of_ble_eq_true rfl) ?_
  show rr pgX zX2_countNear 0 [(0, .ref (b0 + 1)), (1, .int v1), (2, .ref k2)] [] I J P
  refine rr_aload_n dX2_countNear_0 rfl 0 rfl rfl ?_
  refine rr_getR dX2_countNear_1 fX2_9 (bd_lt hb0 (by decide)) (bd_1 hb0) rfl rfl ?_
  refine rr_iload_n dX2_countNear_4 rfl 1 rfl rfl ?_
  refine rr_lald dX2_countNear_5 (bd_lt hb0 (by decide)) (bd_2 hb0) rfl ⟨h.1, ?_⟩
  have h := h.2
  refine rr_aload_n dX2_countNear_6 rfl 2 rfl rfl ?_
  refine rr_getJ dX2_countNear_7 fX2_56 hk2.1 hk2.2 rfl rfl ?_
  refine rr_land dX2_countNear_10 rfl ?_
  refine rr_S [.long ((J (b0 + 2) (Int32.toNatClampNeg v1)) &&& (J k2 0))] [] dX2_countNear_11 kJ13_bitCount_95d88 mX2_65 ⟨by decide, by decide⟩ rfl rfl (Nat.le_of_ble_eq_true rfl) rfl (h.mono fun vr I1 J1 h => ?_)
  obtain ⟨r1, rfl, h⟩ := h
  show rr pgX zX2_countNear 14 _ [.int r1] _ _ _
  refine rr_aload_n dX2_countNear_14 rfl 0 rfl rfl ?_
  refine rr_getR dX2_countNear_15 fX2_15 (bd_lt hb0 (by decide)) (bd_1 hb0) rfl rfl ?_
  refine rr_iload_n dX2_countNear_18 rfl 1 rfl rfl ?_
  refine rr_lald dX2_countNear_19 (bd_lt hb0 (by decide)) (bd_3 hb0) rfl ⟨h.1, ?_⟩
  have h := h.2
  refine rr_aload_n dX2_countNear_20 rfl 2 rfl rfl ?_
  refine rr_getJ dX2_countNear_21 fX2_62 hk2.1 hk2.2 rfl rfl ?_
  refine rr_land dX2_countNear_24 rfl ?_
  refine rr_S [.long ((J1 (b0 + 3) (Int32.toNatClampNeg v1)) &&& (J1 k2 1))] [.int r1] dX2_countNear_25 kJ13_bitCount_95d88 mX2_65 ⟨by decide, by decide⟩ rfl rfl (Nat.le_of_ble_eq_true rfl) rfl (h.mono fun vr I2 J2 h => ?_)
  obtain ⟨r2, rfl, h⟩ := h
  show rr pgX zX2_countNear 28 _ [.int r2, .int r1] _ _ _
  refine rr_iadd dX2_countNear_28 rfl ?_
  exact rr_iret dX2_countNear_29 rfl h

def l_X1_start_20 (I : tg_I) (J : tg_J) (P : Option Value → tg_I → tg_J → Prop) (b0 : Nat) (v4 : Int32) : Prop := rr pgX zX1_start 20 [(0, .ref b0), (4, .int v4)] [] I J P
theorem e_X1_start {I : tg_I} {J : tg_J} {P : Option Value → tg_I → tg_J → Prop} (b0 : Nat) (v1 : Int32) (v2 : Int32) (v3 : Int32) (hb0 : isBd b0) (h :
  call pgX zX2_lay [.ref (b0 + 1), .int v1, .int v2, .int v3] I J (fun vr I1 J1 => vr = none ∧
  (call pgX zX0_clear [.ref (b0 + 6)] I1 J1 (fun vr I2 J2 => vr = none ∧
  (l_X1_start_20 I2 J2 P b0 ((0 : Int32))))))) : call pgX zX1_start [.ref b0, .int v1, .int v2, .int v3] I J P := by
  refine call_of (by decide +kernel) (fun _ => Nat.le_of_ble_eq_true rfl) ?_
  show rr pgX zX1_start 0 [(0, .ref b0), (1, .int v1), (2, .int v2), (3, .int v3)] [] I J P
  refine rr_aload_n dX1_start_0 rfl 0 rfl rfl ?_
  refine rr_getR dX1_start_1 fX1_12 (bd_lt0 hb0) (bd_0 hb0) rfl rfl ?_
  refine rr_iload_n dX1_start_4 rfl 1 rfl rfl ?_
  refine rr_iload_n dX1_start_5 rfl 2 rfl rfl ?_
  refine rr_iload_n dX1_start_6 rfl 3 rfl rfl ?_
  refine rr_V [.int v1, .int v2, .int v3] [] dX1_start_7 kX2_lay mX1_47 ⟨by decide, by decide⟩ (bd_lt hb0 (by decide)) (bd_1 hb0) rfl rfl (Nat.le_of_ble_eq_true rfl) rfl (h.mono fun vr I1 J1 h => ?_)
  obtain ⟨rfl, h⟩ := h
  show rr pgX zX1_start 10 _ [] _ _ _
  refine rr_aload_n dX1_start_10 rfl 0 rfl rfl ?_
  refine rr_getR dX1_start_11 fX1_21 (bd_lt0 hb0) (bd_0 hb0) rfl rfl ?_
  refine rr_V [] [] dX1_start_14 kX0_clear mX1_51 ⟨by decide, by decide⟩ (bd_lt hb0 (by decide)) (bd_6 hb0) rfl rfl (Nat.le_of_ble_eq_true rfl) rfl (h.mono fun vr I2 J2 h => ?_)
  obtain ⟨rfl, h⟩ := h
  show rr pgX zX1_start 17 _ [] _ _ _
  refine rr_iconst (v := (0 : Int32)) dX1_start_17 (by decide) rfl ?_
  refine rr_istore (lv' := [(4, .int (0 : Int32)), (0, .ref b0), (1, .int v1), (2, .int v2), (3, .int v3)]) dX1_start_18 (by decide) rfl rfl ?_
  exact rr.sub [1, 0] rfl h
theorem s_X1_start_20 {I : tg_I} {J : tg_J} {P : Option Value → tg_I → tg_J → Prop} (b0 : Nat) (v4 : Int32) (hb0 : isBd b0) (h :
  ((I (b0 + 1) 7) ≤ v4 →
   call pgX zX0_clear [.ref (b0 + 7)] I J (fun vr I1 J1 => vr = none ∧
    (call pgX zX1_hideAll [.ref b0] I1 J1 (fun vr I2 J2 => vr = none ∧
    (P none I2 J2))))) ∧
  (¬ (I (b0 + 1) 7) ≤ v4 →
   call pgX zX0_add [.ref (b0 + 6), .int v4] I J (fun vr I3 J3 => vr = none ∧
    (l_X1_start_20 I3 J3 P b0 ((v4 + (1 : Int32))))))) : l_X1_start_20 I J P b0 v4 := by
  show rr pgX zX1_start 20 [(0, .ref b0), (4, .int v4)] [] I J P
  refine rr_iload dX1_start_20 1 rfl rfl ?_
  refine rr_aload_n dX1_start_22 rfl 0 rfl rfl ?_
  refine rr_getR dX1_start_23 fX1_12 (bd_lt0 hb0) (bd_0 hb0) rfl rfl ?_
  refine rr_getI dX1_start_26 fX1_54 (bd_lt hb0 (by decide)) (bd_1 hb0) rfl rfl ?_
  refine rr_icmp_ge (tgt := 47) dX1_start_29 (by decide) rfl ⟨fun hc => ?_, fun hc => ?_⟩
  · have h := h.1 hc
    refine rr_aload_n dX1_start_47 rfl 0 rfl rfl ?_
    refine rr_getR dX1_start_48 fX1_25 (bd_lt0 hb0) (bd_0 hb0) rfl rfl ?_
    refine rr_V [] [] dX1_start_51 kX0_clear mX1_51 ⟨by decide, by decide⟩ (bd_lt hb0 (by decide)) (bd_7 hb0) rfl rfl (Nat.le_of_ble_eq_true rfl) rfl (h.mono fun vr I1 J1 h => ?_)
    obtain ⟨rfl, h⟩ := h
    show rr pgX zX1_start 54 _ [] _ _ _
    refine rr_aload_n dX1_start_54 rfl 0 rfl rfl ?_
    refine rr_V [] [] dX1_start_55 kX1_hideAll mX1_62 ⟨by decide, by decide⟩ (bd_lt0 hb0) (bd_0 hb0) rfl rfl (Nat.le_of_ble_eq_true rfl) rfl (h.mono fun vr I2 J2 h => ?_)
    obtain ⟨rfl, h⟩ := h
    show rr pgX zX1_start 58 _ [] _ _ _
    exact rr_vret dX1_start_58 rfl h
  · have h := h.2 hc
    refine rr_aload_n dX1_start_32 rfl 0 rfl rfl ?_
    refine rr_getR dX1_start_33 fX1_21 (bd_lt0 hb0) (bd_0 hb0) rfl rfl ?_
    refine rr_iload dX1_start_36 1 rfl rfl ?_
    refine rr_V [.int v4] [] dX1_start_38 kX0_add mX1_58 ⟨by decide, by decide⟩ (bd_lt hb0 (by decide)) (bd_6 hb0) rfl rfl (Nat.le_of_ble_eq_true rfl) rfl (h.mono fun vr I3 J3 h => ?_)
    obtain ⟨rfl, h⟩ := h
    show rr pgX zX1_start 41 _ [] _ _ _
    refine rr_iinc (k := 1) (v := (v4 + (1 : Int32))) (lv' := [(4, .int (v4 + (1 : Int32))), (0, .ref b0)]) dX1_start_41 rfl rfl (by decide) rfl rfl ?_
    refine rr_goto (tgt := 20) dX1_start_44 (by decide) ?_
    exact rr.sub [1, 0] rfl h

theorem e_X1_hideAll {I : tg_I} {J : tg_J} {P : Option Value → tg_I → tg_J → Prop} (b0 : Nat) (hb0 : isBd b0) (h :
  call pgX zX0_copy [.ref (b0 + 8), .ref (b0 + 6)] I J (fun vr I1 J1 => vr = none ∧
  (call pgX zX0_clear [.ref (b0 + 9)] I1 J1 (fun vr I2 J2 => vr = none ∧
  (call pgX zX0_clear [.ref (b0 + 10)] I2 J2 (fun vr I3 J3 => vr = none ∧
  (call pgX zX0_clear [.ref (b0 + 11)] I3 J3 (fun vr I4 J4 => vr = none ∧
  (P none I4 J4))))))))) : call pgX zX1_hideAll [.ref b0] I J P := by
  refine call_of (by decide +kernel) (fun _ => Nat.le_of_ble_eq_true rfl) ?_
  show rr pgX zX1_hideAll 0 [(0, .ref b0)] [] I J P
  refine rr_aload_n dX1_hideAll_0 rfl 0 rfl rfl ?_
  refine rr_getR dX1_hideAll_1 fX1_28 (bd_lt0 hb0) (bd_0 hb0) rfl rfl ?_
  refine rr_aload_n dX1_hideAll_4 rfl 0 rfl rfl ?_
  refine rr_getR dX1_hideAll_5 fX1_21 (bd_lt0 hb0) (bd_0 hb0) rfl rfl ?_
  refine rr_V [.ref (b0 + 6)] [] dX1_hideAll_8 kX0_copy mX1_65 ⟨by decide, by decide⟩ (bd_lt hb0 (by decide)) (bd_8 hb0) rfl rfl (Nat.le_of_ble_eq_true rfl) rfl (h.mono fun vr I1 J1 h => ?_)
  obtain ⟨rfl, h⟩ := h
  show rr pgX zX1_hideAll 11 _ [] _ _ _
  refine rr_aload_n dX1_hideAll_11 rfl 0 rfl rfl ?_
  refine rr_getR dX1_hideAll_12 fX1_31 (bd_lt0 hb0) (bd_0 hb0) rfl rfl ?_
  refine rr_V [] [] dX1_hideAll_15 kX0_clear mX1_51 ⟨by decide, by decide⟩ (bd_lt hb0 (by decide)) (bd_9 hb0) rfl rfl (Nat.le_of_ble_eq_true rfl) rfl (h.mono fun vr I2 J2 h => ?_)
  obtain ⟨rfl, h⟩ := h
  show rr pgX zX1_hideAll 18 _ [] _ _ _
  refine rr_aload_n dX1_hideAll_18 rfl 0 rfl rfl ?_
  refine rr_getR dX1_hideAll_19 fX1_34 (bd_lt0 hb0) (bd_0 hb0) rfl rfl ?_
  refine rr_V [] [] dX1_hideAll_22 kX0_clear mX1_51 ⟨by decide, by decide⟩ (bd_lt hb0 (by decide)) (bd_10 hb0) rfl rfl (Nat.le_of_ble_eq_true rfl) rfl (h.mono fun vr I3 J3 h => ?_)
  obtain ⟨rfl, h⟩ := h
  show rr pgX zX1_hideAll 25 _ [] _ _ _
  refine rr_aload_n dX1_hideAll_25 rfl 0 rfl rfl ?_
  refine rr_getR dX1_hideAll_26 fX1_37 (bd_lt0 hb0) (bd_0 hb0) rfl rfl ?_
  refine rr_V [] [] dX1_hideAll_29 kX0_clear mX1_51 ⟨by decide, by decide⟩ (bd_lt hb0 (by decide)) (bd_11 hb0) rfl rfl (Nat.le_of_ble_eq_true rfl) rfl (h.mono fun vr I4 J4 h => ?_)
  obtain ⟨rfl, h⟩ := h
  show rr pgX zX1_hideAll 32 _ [] _ _ _
  exact rr_vret dX1_hideAll_32 rfl h

theorem e_X1_number {I : tg_I} {J : tg_J} {P : Option Value → tg_I → tg_J → Prop} (b0 : Nat) (v1 : Int32) (hb0 : isBd b0) (h :
  call pgX zX2_countNear [.ref (b0 + 1), .int v1, .ref (b0 + 7)] I J (fun vr I1 J1 => ∃ r1 : Int32, vr = some (.int r1) ∧
  (P (some (.int r1)) I1 J1))) : call pgX zX1_number [.ref b0, .int v1] I J P := by
  refine call_of (by decide +kernel) (fun _ => Nat.le_of_ble_eq_true rfl) ?_
  show rr pgX zX1_number 0 [(0, .ref b0), (1, .int v1)] [] I J P
  refine rr_aload_n dX1_number_0 rfl 0 rfl rfl ?_
  refine rr_getR dX1_number_1 fX1_12 (bd_lt0 hb0) (bd_0 hb0) rfl rfl ?_
  refine rr_iload_n dX1_number_4 rfl 1 rfl rfl ?_
  refine rr_aload_n dX1_number_5 rfl 0 rfl rfl ?_
  refine rr_getR dX1_number_6 fX1_25 (bd_lt0 hb0) (bd_0 hb0) rfl rfl ?_
  refine rr_V [.int v1, .ref (b0 + 7)] [] dX1_number_9 kX2_countNear mX1_69 ⟨by decide, by decide⟩ (bd_lt hb0 (by decide)) (bd_1 hb0) rfl rfl (Nat.le_of_ble_eq_true rfl) rfl (h.mono fun vr I1 J1 h => ?_)
  obtain ⟨r1, rfl, h⟩ := h
  show rr pgX zX1_number 12 _ [.int r1] _ _ _
  exact rr_iret dX1_number_12 rfl h

theorem e_X1_due {I : tg_I} {J : tg_J} {P : Option Value → tg_I → tg_J → Prop} (b0 : Nat) (v1 : Int32) (k2 : Nat) (hb0 : isBd b0) (hk2 : isBits k2) (h :
  vp_in v1 100 ∧
  (∀ y1, y1 = (J (b0 + 2) (Int32.toNatClampNeg v1)) →
  vp_in v1 100 ∧
  (∀ y2, y2 = (J (b0 + 3) (Int32.toNatClampNeg v1)) →
  call pgX zJ13_bitCount_95d88 [.long (y1 &&& (J (b0 + 7) 0))] I J (fun vr I1 J1 => ∃ r1 : Int32, vr = some (.int r1) ∧
  (call pgX zJ13_bitCount_95d88 [.long (y2 &&& (J1 (b0 + 7) 1))] I1 J1 (fun vr I2 J2 => ∃ r2 : Int32, vr = some (.int r2) ∧
  (call pgX zJ13_bitCount_95d88 [.long (y1 &&& (J2 k2 0))] I2 J2 (fun vr I3 J3 => ∃ r3 : Int32, vr = some (.int r3) ∧
  (call pgX zJ13_bitCount_95d88 [.long (y2 &&& (J3 k2 1))] I3 J3 (fun vr I4 J4 => ∃ r4 : Int32, vr = some (.int r4) ∧
  (P (some (.int (((r1 + r2) - r3) - r4))) I4 J4))))))))))) : call pgX zX1_due [.ref b0, .int v1, .ref k2] I J P := by
  refine call_of (by decide +kernel) (fun _ => Nat.le_of_ble_eq_true rfl) ?_
  show rr pgX zX1_due 0 [(0, .ref b0), (1, .int v1), (2, .ref k2)] [] I J P
  refine rr_aload_n dX1_due_0 rfl 0 rfl rfl ?_
  refine rr_getR dX1_due_1 fX1_12 (bd_lt0 hb0) (bd_0 hb0) rfl rfl ?_
  refine rr_getR dX1_due_4 fX1_73 (bd_lt hb0 (by decide)) (bd_1 hb0) rfl rfl ?_
  refine rr_iload_n dX1_due_7 rfl 1 rfl rfl ?_
  refine rr_lald dX1_due_8 (bd_lt hb0 (by decide)) (bd_2 hb0) rfl ⟨h.1, ?_⟩
  have h := h.2
  refine rr_letTl (fun y1 hy1 => ?_)
  have h := h y1 hy1
  refine rr_lstore_n (lv' := [(3, .long y1), (0, .ref b0), (1, .int v1), (2, .ref k2)]) dX1_due_9 rfl (by decide) rfl rfl ?_
  refine rr_aload_n dX1_due_10 rfl 1 rfl rfl ?_
  refine rr_getR dX1_due_11 fX1_12 (bd_lt0 hb0) (bd_0 hb0) rfl rfl ?_
  refine rr_getR dX1_due_14 fX1_77 (bd_lt hb0 (by decide)) (bd_1 hb0) rfl rfl ?_
  refine rr_iload_n dX1_due_17 rfl 2 rfl rfl ?_
  refine rr_lald dX1_due_18 (bd_lt hb0 (by decide)) (bd_3 hb0) rfl ⟨h.1, ?_⟩
  have h := h.2
  refine rr_letTl (fun y2 hy2 => ?_)
  have h := h y2 hy2
  refine rr_lstore (lv' := [(5, .long y2), (3, .long y1), (0, .ref b0), (1, .int v1), (2, .ref k2)]) dX1_due_19 (by decide) rfl rfl ?_
  refine rr_lload_n dX1_due_21 rfl 1 rfl rfl ?_
  refine rr_aload_n dX1_due_22 rfl 2 rfl rfl ?_
  refine rr_getR dX1_due_23 fX1_25 (bd_lt0 hb0) (bd_0 hb0) rfl rfl ?_
  refine rr_getJ dX1_due_26 fX1_80 (bd_lt hb0 (by decide)) (bd_7 hb0) rfl rfl ?_
  refine rr_land dX1_due_29 rfl ?_
  refine rr_S [.long (y1 &&& (J (b0 + 7) 0))] [] dX1_due_30 kJ13_bitCount_95d88 mX1_84 ⟨by decide, by decide⟩ rfl rfl (Nat.le_of_ble_eq_true rfl) rfl (h.mono fun vr I1 J1 h => ?_)
  obtain ⟨r1, rfl, h⟩ := h
  show rr pgX zX1_due 33 _ [.int r1] _ _ _
  refine rr_lload dX1_due_33 0 rfl rfl ?_
  refine rr_aload_n dX1_due_35 rfl 2 rfl rfl ?_
  refine rr_getR dX1_due_36 fX1_25 (bd_lt0 hb0) (bd_0 hb0) rfl rfl ?_
  refine rr_getJ dX1_due_39 fX1_90 (bd_lt hb0 (by decide)) (bd_7 hb0) rfl rfl ?_
  refine rr_land dX1_due_42 rfl ?_
  refine rr_S [.long (y2 &&& (J1 (b0 + 7) 1))] [.int r1] dX1_due_43 kJ13_bitCount_95d88 mX1_84 ⟨by decide, by decide⟩ rfl rfl (Nat.le_of_ble_eq_true rfl) rfl (h.mono fun vr I2 J2 h => ?_)
  obtain ⟨r2, rfl, h⟩ := h
  show rr pgX zX1_due 46 _ [.int r2, .int r1] _ _ _
  refine rr_iadd dX1_due_46 rfl ?_
  refine rr_lload_n dX1_due_47 rfl 1 rfl rfl ?_
  refine rr_aload_n dX1_due_48 rfl 4 rfl rfl ?_
  refine rr_getJ dX1_due_49 fX1_80 hk2.1 hk2.2 rfl rfl ?_
  refine rr_land dX1_due_52 rfl ?_
  refine rr_S [.long (y1 &&& (J2 k2 0))] [.int (r1 + r2)] dX1_due_53 kJ13_bitCount_95d88 mX1_84 ⟨by decide, by decide⟩ rfl rfl (Nat.le_of_ble_eq_true rfl) rfl (h.mono fun vr I3 J3 h => ?_)
  obtain ⟨r3, rfl, h⟩ := h
  show rr pgX zX1_due 56 _ [.int r3, .int (r1 + r2)] _ _ _
  refine rr_isub dX1_due_56 rfl ?_
  refine rr_lload dX1_due_57 0 rfl rfl ?_
  refine rr_aload_n dX1_due_59 rfl 4 rfl rfl ?_
  refine rr_getJ dX1_due_60 fX1_90 hk2.1 hk2.2 rfl rfl ?_
  refine rr_land dX1_due_63 rfl ?_
  refine rr_S [.long (y2 &&& (J3 k2 1))] [.int ((r1 + r2) - r3)] dX1_due_64 kJ13_bitCount_95d88 mX1_84 ⟨by decide, by decide⟩ rfl rfl (Nat.le_of_ble_eq_true rfl) rfl (h.mono fun vr I4 J4 h => ?_)
  obtain ⟨r4, rfl, h⟩ := h
  show rr pgX zX1_due 67 _ [.int r4, .int ((r1 + r2) - r3)] _ _ _
  refine rr_isub dX1_due_67 rfl ?_
  exact rr_iret dX1_due_68 rfl h

theorem e_X1_minesLeft {I : tg_I} {J : tg_J} {P : Option Value → tg_I → tg_J → Prop} (b0 : Nat) (hb0 : isBd b0) (h :
  call pgX zX0_size [.ref (b0 + 7)] I J (fun vr I1 J1 => ∃ r1 : Int32, vr = some (.int r1) ∧
  (call pgX zX0_size [.ref (b0 + 10)] I1 J1 (fun vr I2 J2 => ∃ r2 : Int32, vr = some (.int r2) ∧
  (P (some (.int (r1 - r2))) I2 J2))))) : call pgX zX1_minesLeft [.ref b0] I J P := by
  refine call_of (by decide +kernel) (fun _ => Nat.le_of_ble_eq_true rfl) ?_
  show rr pgX zX1_minesLeft 0 [(0, .ref b0)] [] I J P
  refine rr_aload_n dX1_minesLeft_0 rfl 0 rfl rfl ?_
  refine rr_getR dX1_minesLeft_1 fX1_25 (bd_lt0 hb0) (bd_0 hb0) rfl rfl ?_
  refine rr_V [] [] dX1_minesLeft_4 kX0_size mX1_93 ⟨by decide, by decide⟩ (bd_lt hb0 (by decide)) (bd_7 hb0) rfl rfl (Nat.le_of_ble_eq_true rfl) rfl (h.mono fun vr I1 J1 h => ?_)
  obtain ⟨r1, rfl, h⟩ := h
  show rr pgX zX1_minesLeft 7 _ [.int r1] _ _ _
  refine rr_aload_n dX1_minesLeft_7 rfl 0 rfl rfl ?_
  refine rr_getR dX1_minesLeft_8 fX1_34 (bd_lt0 hb0) (bd_0 hb0) rfl rfl ?_
  refine rr_V [] [.int r1] dX1_minesLeft_11 kX0_size mX1_93 ⟨by decide, by decide⟩ (bd_lt hb0 (by decide)) (bd_10 hb0) rfl rfl (Nat.le_of_ble_eq_true rfl) rfl (h.mono fun vr I2 J2 h => ?_)
  obtain ⟨r2, rfl, h⟩ := h
  show rr pgX zX1_minesLeft 14 _ [.int r2, .int r1] _ _ _
  refine rr_isub dX1_minesLeft_14 rfl ?_
  exact rr_iret dX1_minesLeft_15 rfl h

theorem e_X1_marked {I : tg_I} {J : tg_J} {P : Option Value → tg_I → tg_J → Prop} (b0 : Nat) (v1 : Int32) (hb0 : isBd b0) (h :
  call pgX zX2_countNear [.ref (b0 + 1), .int v1, .ref (b0 + 11)] I J (fun vr I1 J1 => ∃ r1 : Int32, vr = some (.int r1) ∧
  (call pgX zX2_countNear [.ref (b0 + 1), .int v1, .ref (b0 + 10)] I1 J1 (fun vr I2 J2 => ∃ r2 : Int32, vr = some (.int r2) ∧
  (P (some (.int (r1 + r2))) I2 J2))))) : call pgX zX1_marked [.ref b0, .int v1] I J P := by
  refine call_of (by decide +kernel) (fun _ => Nat.le_of_ble_eq_true rfl) ?_
  show rr pgX zX1_marked 0 [(0, .ref b0), (1, .int v1)] [] I J P
  refine rr_aload_n dX1_marked_0 rfl 0 rfl rfl ?_
  refine rr_getR dX1_marked_1 fX1_12 (bd_lt0 hb0) (bd_0 hb0) rfl rfl ?_
  refine rr_iload_n dX1_marked_4 rfl 1 rfl rfl ?_
  refine rr_aload_n dX1_marked_5 rfl 0 rfl rfl ?_
  refine rr_getR dX1_marked_6 fX1_37 (bd_lt0 hb0) (bd_0 hb0) rfl rfl ?_
  refine rr_V [.int v1, .ref (b0 + 11)] [] dX1_marked_9 kX2_countNear mX1_69 ⟨by decide, by decide⟩ (bd_lt hb0 (by decide)) (bd_1 hb0) rfl rfl (Nat.le_of_ble_eq_true rfl) rfl (h.mono fun vr I1 J1 h => ?_)
  obtain ⟨r1, rfl, h⟩ := h
  show rr pgX zX1_marked 12 _ [.int r1] _ _ _
  refine rr_aload_n dX1_marked_12 rfl 0 rfl rfl ?_
  refine rr_getR dX1_marked_13 fX1_12 (bd_lt0 hb0) (bd_0 hb0) rfl rfl ?_
  refine rr_iload_n dX1_marked_16 rfl 1 rfl rfl ?_
  refine rr_aload_n dX1_marked_17 rfl 0 rfl rfl ?_
  refine rr_getR dX1_marked_18 fX1_34 (bd_lt0 hb0) (bd_0 hb0) rfl rfl ?_
  refine rr_V [.int v1, .ref (b0 + 10)] [.int r1] dX1_marked_21 kX2_countNear mX1_69 ⟨by decide, by decide⟩ (bd_lt hb0 (by decide)) (bd_1 hb0) rfl rfl (Nat.le_of_ble_eq_true rfl) rfl (h.mono fun vr I2 J2 h => ?_)
  obtain ⟨r2, rfl, h⟩ := h
  show rr pgX zX1_marked 24 _ [.int r2, .int r1] _ _ _
  refine rr_iadd dX1_marked_24 rfl ?_
  exact rr_iret dX1_marked_25 rfl h

theorem e_X1_cleared {I : tg_I} {J : tg_J} {P : Option Value → tg_I → tg_J → Prop} (b0 : Nat) (hb0 : isBd b0) (h :
  (¬ (lg_cmp (((J (b0 + 8) 0) &&& ((J (b0 + 7) 0) ^^^ (-1 : Int64))) ||| ((J (b0 + 8) 1) &&& ((J (b0 + 7) 1) ^^^ (-1 : Int64)))) (0 : Int64)) = 0 →
   P (some (.int (0 : Int32))) I J) ∧
  ((lg_cmp (((J (b0 + 8) 0) &&& ((J (b0 + 7) 0) ^^^ (-1 : Int64))) ||| ((J (b0 + 8) 1) &&& ((J (b0 + 7) 1) ^^^ (-1 : Int64)))) (0 : Int64)) = 0 →
   P (some (.int (1 : Int32))) I J)) : call pgX zX1_cleared [.ref b0] I J P := by
  refine call_of (by decide +kernel) (fun _ => Nat.le_of_ble_eq_true rfl) ?_
  show rr pgX zX1_cleared 0 [(0, .ref b0)] [] I J P
  refine rr_aload_n dX1_cleared_0 rfl 0 rfl rfl ?_
  refine rr_getR dX1_cleared_1 fX1_28 (bd_lt0 hb0) (bd_0 hb0) rfl rfl ?_
  refine rr_getJ dX1_cleared_4 fX1_80 (bd_lt hb0 (by decide)) (bd_8 hb0) rfl rfl ?_
  refine rr_aload_n dX1_cleared_7 rfl 0 rfl rfl ?_
  refine rr_getR dX1_cleared_8 fX1_25 (bd_lt0 hb0) (bd_0 hb0) rfl rfl ?_
  refine rr_getJ dX1_cleared_11 fX1_80 (bd_lt hb0 (by decide)) (bd_7 hb0) rfl rfl ?_
  refine rr_ldc2 dX1_cleared_14 qX1_97 rfl ?_
  refine rr_lxor dX1_cleared_17 rfl ?_
  refine rr_land dX1_cleared_18 rfl ?_
  refine rr_aload_n dX1_cleared_19 rfl 0 rfl rfl ?_
  refine rr_getR dX1_cleared_20 fX1_28 (bd_lt0 hb0) (bd_0 hb0) rfl rfl ?_
  refine rr_getJ dX1_cleared_23 fX1_90 (bd_lt hb0 (by decide)) (bd_8 hb0) rfl rfl ?_
  refine rr_aload_n dX1_cleared_26 rfl 0 rfl rfl ?_
  refine rr_getR dX1_cleared_27 fX1_25 (bd_lt0 hb0) (bd_0 hb0) rfl rfl ?_
  refine rr_getJ dX1_cleared_30 fX1_90 (bd_lt hb0 (by decide)) (bd_7 hb0) rfl rfl ?_
  refine rr_ldc2 dX1_cleared_33 qX1_97 rfl ?_
  refine rr_lxor dX1_cleared_36 rfl ?_
  refine rr_land dX1_cleared_37 rfl ?_
  refine rr_lor dX1_cleared_38 rfl ?_
  refine rr_lconst (v := (0 : Int64)) dX1_cleared_39 (by decide) rfl ?_
  refine rr_lcmp dX1_cleared_40 rfl ?_
  refine rr_if_ne (tgt := 48) dX1_cleared_41 (by decide) rfl ⟨fun hc => ?_, fun hc => ?_⟩
  · have h := h.1 hc
    refine rr_iconst (v := (0 : Int32)) dX1_cleared_48 (by decide) rfl ?_
    exact rr_zret dX1_cleared_49 rfl rfl h
  · have h := h.2 hc
    refine rr_iconst (v := (1 : Int32)) dX1_cleared_44 (by decide) rfl ?_
    refine rr_goto (tgt := 49) dX1_cleared_45 (by decide) ?_
    exact rr_zret dX1_cleared_49 rfl rfl h

def l_X1_uncover_44 (I : tg_I) (J : tg_J) (P : Option Value → tg_I → tg_J → Prop) (b0 : Nat) (v2 : Int32) (v3 : Int32) : Prop := rr pgX zX1_uncover 44 [(0, .ref b0), (2, .int v2), (3, .int v3)] [] I J P
theorem e_X1_uncover {I : tg_I} {J : tg_J} {P : Option Value → tg_I → tg_J → Prop} (b0 : Nat) (v1 : Int32) (hb0 : isBd b0) (h :
  call pgX zX0_has [.ref (b0 + 7), .int v1] I J (fun vr I1 J1 => ∃ r1 : Int32, vr = some (.int r1) ∧
  ((r1 = 0 →
   call pgX zX1_show [.ref b0, .int v1] I1 J1 (fun vr I2 J2 => vr = none ∧
    (vp_in (0 : Int32) 100 ∧ ∀ I3, I3 = u2 I2 (b0 + 13) (Int32.toNatClampNeg (0 : Int32)) v1 →
    l_X1_uncover_44 I3 J2 P b0 ((1 : Int32)) ((0 : Int32))))) ∧
  (¬ r1 = 0 →
   call pgX zX0_drop [.ref (b0 + 8), .int v1] I1 J1 (fun vr I4 J3 => vr = none ∧
    (call pgX zX0_add [.ref (b0 + 10), .int v1] I4 J3 (fun vr I5 J4 => vr = none ∧
    (P none I5 J4)))))))) : call pgX zX1_uncover [.ref b0, .int v1] I J P := by
  refine call_of (by decide +kernel) (fun _ => Nat.le_of_ble_eq_true rfl) ?_
  show rr pgX zX1_uncover 0 [(0, .ref b0), (1, .int v1)] [] I J P
  refine rr_aload_n dX1_uncover_0 rfl 0 rfl rfl ?_
  refine rr_getR dX1_uncover_1 fX1_25 (bd_lt0 hb0) (bd_0 hb0) rfl rfl ?_
  refine rr_iload_n dX1_uncover_4 rfl 1 rfl rfl ?_
  refine rr_V [.int v1] [] dX1_uncover_5 kX0_has mX1_99 ⟨by decide, by decide⟩ (bd_lt hb0 (by decide)) (bd_7 hb0) rfl rfl (Nat.le_of_ble_eq_true rfl) rfl (h.mono fun vr I1 J1 h => ?_)
  obtain ⟨r1, rfl, h⟩ := h
  show rr pgX zX1_uncover 8 _ [.int r1] _ _ _
  refine rr_if_eq (tgt := 28) dX1_uncover_8 (by decide) rfl ⟨fun hc => ?_, fun hc => ?_⟩
  · have h := h.1 hc
    refine rr_aload_n dX1_uncover_28 rfl 0 rfl rfl ?_
    refine rr_iload_n dX1_uncover_29 rfl 1 rfl rfl ?_
    refine rr_V [.int v1] [] dX1_uncover_30 kX1_show mX1_106 ⟨by decide, by decide⟩ (bd_lt0 hb0) (bd_0 hb0) rfl rfl (Nat.le_of_ble_eq_true rfl) rfl (h.mono fun vr I2 J2 h => ?_)
    obtain ⟨rfl, h⟩ := h
    show rr pgX zX1_uncover 33 _ [] _ _ _
    refine rr_aload_n dX1_uncover_33 rfl 0 rfl rfl ?_
    refine rr_getR dX1_uncover_34 fX1_43 (bd_lt0 hb0) (bd_0 hb0) rfl rfl ?_
    refine rr_iconst (v := (0 : Int32)) dX1_uncover_37 (by decide) rfl ?_
    refine rr_iload_n dX1_uncover_38 rfl 1 rfl rfl ?_
    refine rr_iast dX1_uncover_39 (bd_lt hb0 (by decide)) (bd_13 hb0) rfl ⟨h.1, ?_⟩
    refine rr_letI (fun I3 hI3 => ?_)
    have h := h.2 I3 hI3
    refine rr_iconst (v := (1 : Int32)) dX1_uncover_40 (by decide) rfl ?_
    refine rr_istore_n (lv' := [(2, .int (1 : Int32)), (0, .ref b0), (1, .int v1)]) dX1_uncover_41 rfl (by decide) rfl rfl ?_
    refine rr_iconst (v := (0 : Int32)) dX1_uncover_42 (by decide) rfl ?_
    refine rr_istore_n (lv' := [(3, .int (0 : Int32)), (2, .int (1 : Int32)), (0, .ref b0), (1, .int v1)]) dX1_uncover_43 rfl (by decide) rfl rfl ?_
    exact rr.sub [2, 1, 0] rfl h
  · have h := h.2 hc
    refine rr_aload_n dX1_uncover_11 rfl 0 rfl rfl ?_
    refine rr_getR dX1_uncover_12 fX1_28 (bd_lt0 hb0) (bd_0 hb0) rfl rfl ?_
    refine rr_iload_n dX1_uncover_15 rfl 1 rfl rfl ?_
    refine rr_V [.int v1] [] dX1_uncover_16 kX0_drop mX1_103 ⟨by decide, by decide⟩ (bd_lt hb0 (by decide)) (bd_8 hb0) rfl rfl (Nat.le_of_ble_eq_true rfl) rfl (h.mono fun vr I4 J3 h => ?_)
    obtain ⟨rfl, h⟩ := h
    show rr pgX zX1_uncover 19 _ [] _ _ _
    refine rr_aload_n dX1_uncover_19 rfl 0 rfl rfl ?_
    refine rr_getR dX1_uncover_20 fX1_34 (bd_lt0 hb0) (bd_0 hb0) rfl rfl ?_
    refine rr_iload_n dX1_uncover_23 rfl 1 rfl rfl ?_
    refine rr_V [.int v1] [] dX1_uncover_24 kX0_add mX1_58 ⟨by decide, by decide⟩ (bd_lt hb0 (by decide)) (bd_10 hb0) rfl rfl (Nat.le_of_ble_eq_true rfl) rfl (h.mono fun vr I5 J4 h => ?_)
    obtain ⟨rfl, h⟩ := h
    show rr pgX zX1_uncover 27 _ [] _ _ _
    exact rr_vret dX1_uncover_27 rfl h
theorem s_X1_uncover_44 {I : tg_I} {J : tg_J} {P : Option Value → tg_I → tg_J → Prop} (b0 : Nat) (v2 : Int32) (v3 : Int32) (hb0 : isBd b0) (h :
  (v2 ≤ v3 →
   P none I J) ∧
  (¬ v2 ≤ v3 →
   ((100 : Int32) ≤ v3 →
     P none I J) ∧
    (¬ (100 : Int32) ≤ v3 →
     vp_in v3 100 ∧
      (∀ x1, x1 = (I (b0 + 13) (Int32.toNatClampNeg v3)) →
      call pgX zX1_number [.ref b0, .int x1] I J (fun vr I1 J1 => ∃ r1 : Int32, vr = some (.int r1) ∧
      ((¬ r1 = 0 →
       l_X1_uncover_44 I1 J1 P b0 v2 ((v3 + (1 : Int32)))) ∧
      (r1 = 0 →
       call pgX zX1_showAround [.ref b0, .int x1, .int v2] I1 J1 (fun vr I2 J2 => ∃ r2 : Int32, vr = some (.int r2) ∧
        (l_X1_uncover_44 I2 J2 P b0 r2 ((v3 + (1 : Int32)))))))))))) : l_X1_uncover_44 I J P b0 v2 v3 := by
  show rr pgX zX1_uncover 44 [(0, .ref b0), (2, .int v2), (3, .int v3)] [] I J P
  refine rr_iload_n dX1_uncover_44 rfl 2 rfl rfl ?_
  refine rr_iload_n dX1_uncover_45 rfl 1 rfl rfl ?_
  refine rr_icmp_ge (tgt := 86) dX1_uncover_46 (by decide) rfl ⟨fun hc => ?_, fun hc => ?_⟩
  · have h := h.1 hc
    exact rr_vret dX1_uncover_86 rfl h
  · have h := h.2 hc
    refine rr_iload_n dX1_uncover_49 rfl 2 rfl rfl ?_
    refine rr_bipush (v := (100 : Int32)) dX1_uncover_50 (by decide) rfl ?_
    refine rr_icmp_ge (tgt := 86) dX1_uncover_52 (by decide) rfl ⟨fun hc => ?_, fun hc => ?_⟩
    · have h := h.1 hc
      exact rr_vret dX1_uncover_86 rfl h
    · have h := h.2 hc
      refine rr_aload_n dX1_uncover_55 rfl 0 rfl rfl ?_
      refine rr_getR dX1_uncover_56 fX1_43 (bd_lt0 hb0) (bd_0 hb0) rfl rfl ?_
      refine rr_iload_n dX1_uncover_59 rfl 2 rfl rfl ?_
      refine rr_iald dX1_uncover_60 (bd_lt hb0 (by decide)) (bd_13 hb0) rfl ⟨h.1, ?_⟩
      have h := h.2
      refine rr_letTi (fun x1 hx1 => ?_)
      have h := h x1 hx1
      refine rr_istore (lv' := [(4, .int x1), (0, .ref b0), (2, .int v2), (3, .int v3)]) dX1_uncover_61 (by decide) rfl rfl ?_
      refine rr_aload_n dX1_uncover_63 rfl 1 rfl rfl ?_
      refine rr_iload dX1_uncover_64 0 rfl rfl ?_
      refine rr_V [.int x1] [] dX1_uncover_66 kX1_number mX1_109 ⟨by decide, by decide⟩ (bd_lt0 hb0) (bd_0 hb0) rfl rfl (Nat.le_of_ble_eq_true rfl) rfl (h.mono fun vr I1 J1 h => ?_)
      obtain ⟨r1, rfl, h⟩ := h
      show rr pgX zX1_uncover 69 _ [.int r1] _ _ _
      refine rr_if_ne (tgt := 80) dX1_uncover_69 (by decide) rfl ⟨fun hc => ?_, fun hc => ?_⟩
      · have h := h.1 hc
        refine rr_iinc (k := 3) (v := (v3 + (1 : Int32))) (lv' := [(3, .int (v3 + (1 : Int32))), (4, .int x1), (0, .ref b0), (2, .int v2)]) dX1_uncover_80 rfl rfl (by decide) rfl rfl ?_
        refine rr_goto (tgt := 44) dX1_uncover_83 (by decide) ?_
        exact rr.sub [2, 3, 0] rfl h
      · have h := h.2 hc
        refine rr_aload_n dX1_uncover_72 rfl 1 rfl rfl ?_
        refine rr_iload dX1_uncover_73 0 rfl rfl ?_
        refine rr_iload_n dX1_uncover_75 rfl 2 rfl rfl ?_
        refine rr_V [.int x1, .int v2] [] dX1_uncover_76 kX1_showAround mX1_113 ⟨by decide, by decide⟩ (bd_lt0 hb0) (bd_0 hb0) rfl rfl (Nat.le_of_ble_eq_true rfl) rfl (h.mono fun vr I2 J2 h => ?_)
        obtain ⟨r2, rfl, h⟩ := h
        show rr pgX zX1_uncover 79 _ [.int r2] _ _ _
        refine rr_istore_n (lv' := [(2, .int r2), (4, .int x1), (0, .ref b0), (3, .int v3)]) dX1_uncover_79 rfl (by decide) rfl rfl ?_
        refine rr_iinc (k := 3) (v := (v3 + (1 : Int32))) (lv' := [(3, .int (v3 + (1 : Int32))), (2, .int r2), (4, .int x1), (0, .ref b0)]) dX1_uncover_80 rfl rfl (by decide) rfl rfl ?_
        refine rr_goto (tgt := 44) dX1_uncover_83 (by decide) ?_
        exact rr.sub [3, 1, 0] rfl h

def l_X1_showAround_5 (I : tg_I) (J : tg_J) (P : Option Value → tg_I → tg_J → Prop) (b0 : Nat) (v1 : Int32) (v3 : Int32) (v4 : Int32) : Prop := rr pgX zX1_showAround 5 [(0, .ref b0), (1, .int v1), (3, .int v3), (4, .int v4)] [] I J P
theorem e_X1_showAround {I : tg_I} {J : tg_J} {P : Option Value → tg_I → tg_J → Prop} (b0 : Nat) (v1 : Int32) (v2 : Int32) (hb0 : isBd b0) (h :
  l_X1_showAround_5 I J P b0 v1 v2 ((0 : Int32))) : call pgX zX1_showAround [.ref b0, .int v1, .int v2] I J P := by
  refine call_of (by decide +kernel) (fun _ => Nat.le_of_ble_eq_true rfl) ?_
  show rr pgX zX1_showAround 0 [(0, .ref b0), (1, .int v1), (2, .int v2)] [] I J P
  refine rr_iload_n dX1_showAround_0 rfl 2 rfl rfl ?_
  refine rr_istore_n (lv' := [(3, .int v2), (0, .ref b0), (1, .int v1), (2, .int v2)]) dX1_showAround_1 rfl (by decide) rfl rfl ?_
  refine rr_iconst (v := (0 : Int32)) dX1_showAround_2 (by decide) rfl ?_
  refine rr_istore (lv' := [(4, .int (0 : Int32)), (3, .int v2), (0, .ref b0), (1, .int v1), (2, .int v2)]) dX1_showAround_3 (by decide) rfl rfl ?_
  exact rr.sub [2, 3, 1, 0] rfl h
theorem s_X1_showAround_5 {I : tg_I} {J : tg_J} {P : Option Value → tg_I → tg_J → Prop} (b0 : Nat) (v1 : Int32) (v3 : Int32) (v4 : Int32) (hb0 : isBd b0) (h :
  vp_in v1 100 ∧
  (((I (b0 + 5) (Int32.toNatClampNeg v1)) ≤ v4 →
   P (some (.int v3)) I J) ∧
  (¬ (I (b0 + 5) (Int32.toNatClampNeg v1)) ≤ v4 →
   vp_in ((v1 * (8 : Int32)) + v4) 800 ∧
    (∀ x1, x1 = (I (b0 + 4) (Int32.toNatClampNeg ((v1 * (8 : Int32)) + v4))) →
    call pgX zX0_has [.ref (b0 + 8), .int x1] I J (fun vr I1 J1 => ∃ r1 : Int32, vr = some (.int r1) ∧
    ((r1 = 0 →
     l_X1_showAround_5 I1 J1 P b0 v1 v3 ((v4 + (1 : Int32)))) ∧
    (¬ r1 = 0 →
     ((100 : Int32) ≤ v3 →
       l_X1_showAround_5 I1 J1 P b0 v1 v3 ((v4 + (1 : Int32)))) ∧
      (¬ (100 : Int32) ≤ v3 →
       call pgX zX1_show [.ref b0, .int x1] I1 J1 (fun vr I2 J2 => vr = none ∧
        (vp_in v3 100 ∧ ∀ I3, I3 = u2 I2 (b0 + 13) (Int32.toNatClampNeg v3) x1 →
        l_X1_showAround_5 I3 J2 P b0 v1 ((v3 + (1 : Int32))) ((v4 + (1 : Int32))))))))))))) : l_X1_showAround_5 I J P b0 v1 v3 v4 := by
  show rr pgX zX1_showAround 5 [(0, .ref b0), (1, .int v1), (3, .int v3), (4, .int v4)] [] I J P
  refine rr_iload dX1_showAround_5 3 rfl rfl ?_
  refine rr_aload_n dX1_showAround_7 rfl 0 rfl rfl ?_
  refine rr_getR dX1_showAround_8 fX1_12 (bd_lt0 hb0) (bd_0 hb0) rfl rfl ?_
  refine rr_getR dX1_showAround_11 fX1_117 (bd_lt hb0 (by decide)) (bd_1 hb0) rfl rfl ?_
  refine rr_iload_n dX1_showAround_14 rfl 1 rfl rfl ?_
  refine rr_iald dX1_showAround_15 (bd_lt hb0 (by decide)) (bd_5 hb0) rfl ⟨h.1, ?_⟩
  have h := h.2
  refine rr_icmp_ge (tgt := 77) dX1_showAround_16 (by decide) rfl ⟨fun hc => ?_, fun hc => ?_⟩
  · have h := h.1 hc
    refine rr_iload_n dX1_showAround_77 rfl 2 rfl rfl ?_
    exact rr_iret dX1_showAround_78 rfl h
  · have h := h.2 hc
    refine rr_aload_n dX1_showAround_19 rfl 0 rfl rfl ?_
    refine rr_getR dX1_showAround_20 fX1_12 (bd_lt0 hb0) (bd_0 hb0) rfl rfl ?_
    refine rr_getR dX1_showAround_23 fX1_120 (bd_lt hb0 (by decide)) (bd_1 hb0) rfl rfl ?_
    refine rr_iload_n dX1_showAround_26 rfl 1 rfl rfl ?_
    refine rr_bipush (v := (8 : Int32)) dX1_showAround_27 (by decide) rfl ?_
    refine rr_imul dX1_showAround_29 rfl ?_
    refine rr_iload dX1_showAround_30 3 rfl rfl ?_
    refine rr_iadd dX1_showAround_32 rfl ?_
    refine rr_iald dX1_showAround_33 (bd_lt hb0 (by decide)) (bd_4 hb0) rfl ⟨h.1, ?_⟩
    have h := h.2
    refine rr_letTi (fun x1 hx1 => ?_)
    have h := h x1 hx1
    refine rr_istore (lv' := [(5, .int x1), (0, .ref b0), (1, .int v1), (3, .int v3), (4, .int v4)]) dX1_showAround_34 (by decide) rfl rfl ?_
    refine rr_aload_n dX1_showAround_36 rfl 1 rfl rfl ?_
    refine rr_getR dX1_showAround_37 fX1_28 (bd_lt0 hb0) (bd_0 hb0) rfl rfl ?_
    refine rr_iload dX1_showAround_40 0 rfl rfl ?_
    refine rr_V [.int x1] [] dX1_showAround_42 kX0_has mX1_99 ⟨by decide, by decide⟩ (bd_lt hb0 (by decide)) (bd_8 hb0) rfl rfl (Nat.le_of_ble_eq_true rfl) rfl (h.mono fun vr I1 J1 h => ?_)
    obtain ⟨r1, rfl, h⟩ := h
    show rr pgX zX1_showAround 45 _ [.int r1] _ _ _
    refine rr_if_eq (tgt := 71) dX1_showAround_45 (by decide) rfl ⟨fun hc => ?_, fun hc => ?_⟩
    · have h := h.1 hc
      refine rr_iinc (k := 4) (v := (v4 + (1 : Int32))) (lv' := [(4, .int (v4 + (1 : Int32))), (5, .int x1), (0, .ref b0), (1, .int v1), (3, .int v3)]) dX1_showAround_71 rfl rfl (by decide) rfl rfl ?_
      refine rr_goto (tgt := 5) dX1_showAround_74 (by decide) ?_
      exact rr.sub [2, 3, 4, 0] rfl h
    · have h := h.2 hc
      refine rr_iload_n dX1_showAround_48 rfl 3 rfl rfl ?_
      refine rr_bipush (v := (100 : Int32)) dX1_showAround_49 (by decide) rfl ?_
      refine rr_icmp_ge (tgt := 71) dX1_showAround_51 (by decide) rfl ⟨fun hc => ?_, fun hc => ?_⟩
      · have h := h.1 hc
        refine rr_iinc (k := 4) (v := (v4 + (1 : Int32))) (lv' := [(4, .int (v4 + (1 : Int32))), (5, .int x1), (0, .ref b0), (1, .int v1), (3, .int v3)]) dX1_showAround_71 rfl rfl (by decide) rfl rfl ?_
        refine rr_goto (tgt := 5) dX1_showAround_74 (by decide) ?_
        exact rr.sub [2, 3, 4, 0] rfl h
      · have h := h.2 hc
        refine rr_aload_n dX1_showAround_54 rfl 1 rfl rfl ?_
        refine rr_iload dX1_showAround_55 0 rfl rfl ?_
        refine rr_V [.int x1] [] dX1_showAround_57 kX1_show mX1_106 ⟨by decide, by decide⟩ (bd_lt0 hb0) (bd_0 hb0) rfl rfl (Nat.le_of_ble_eq_true rfl) rfl (h.mono fun vr I2 J2 h => ?_)
        obtain ⟨rfl, h⟩ := h
        show rr pgX zX1_showAround 60 _ [] _ _ _
        refine rr_aload_n dX1_showAround_60 rfl 1 rfl rfl ?_
        refine rr_getR dX1_showAround_61 fX1_43 (bd_lt0 hb0) (bd_0 hb0) rfl rfl ?_
        refine rr_iload_n dX1_showAround_64 rfl 3 rfl rfl ?_
        refine rr_iload dX1_showAround_65 0 rfl rfl ?_
        refine rr_iast dX1_showAround_67 (bd_lt hb0 (by decide)) (bd_13 hb0) rfl ⟨h.1, ?_⟩
        refine rr_letI (fun I3 hI3 => ?_)
        have h := h.2 I3 hI3
        refine rr_iinc (k := 3) (v := (v3 + (1 : Int32))) (lv' := [(3, .int (v3 + (1 : Int32))), (5, .int x1), (0, .ref b0), (1, .int v1), (4, .int v4)]) dX1_showAround_68 rfl rfl (by decide) rfl rfl ?_
        refine rr_iinc (k := 4) (v := (v4 + (1 : Int32))) (lv' := [(4, .int (v4 + (1 : Int32))), (3, .int (v3 + (1 : Int32))), (5, .int x1), (0, .ref b0), (1, .int v1)]) dX1_showAround_71 rfl rfl (by decide) rfl rfl ?_
        refine rr_goto (tgt := 5) dX1_showAround_74 (by decide) ?_
        exact rr.sub [3, 4, 1, 0] rfl h

theorem e_X1_show {I : tg_I} {J : tg_J} {P : Option Value → tg_I → tg_J → Prop} (b0 : Nat) (v1 : Int32) (hb0 : isBd b0) (h :
  call pgX zX0_drop [.ref (b0 + 8), .int v1] I J (fun vr I1 J1 => vr = none ∧
  (call pgX zX0_drop [.ref (b0 + 11), .int v1] I1 J1 (fun vr I2 J2 => vr = none ∧
  (call pgX zX0_add [.ref (b0 + 9), .int v1] I2 J2 (fun vr I3 J3 => vr = none ∧
  (P none I3 J3))))))) : call pgX zX1_show [.ref b0, .int v1] I J P := by
  refine call_of (by decide +kernel) (fun _ => Nat.le_of_ble_eq_true rfl) ?_
  show rr pgX zX1_show 0 [(0, .ref b0), (1, .int v1)] [] I J P
  refine rr_aload_n dX1_show_0 rfl 0 rfl rfl ?_
  refine rr_getR dX1_show_1 fX1_28 (bd_lt0 hb0) (bd_0 hb0) rfl rfl ?_
  refine rr_iload_n dX1_show_4 rfl 1 rfl rfl ?_
  refine rr_V [.int v1] [] dX1_show_5 kX0_drop mX1_103 ⟨by decide, by decide⟩ (bd_lt hb0 (by decide)) (bd_8 hb0) rfl rfl (Nat.le_of_ble_eq_true rfl) rfl (h.mono fun vr I1 J1 h => ?_)
  obtain ⟨rfl, h⟩ := h
  show rr pgX zX1_show 8 _ [] _ _ _
  refine rr_aload_n dX1_show_8 rfl 0 rfl rfl ?_
  refine rr_getR dX1_show_9 fX1_37 (bd_lt0 hb0) (bd_0 hb0) rfl rfl ?_
  refine rr_iload_n dX1_show_12 rfl 1 rfl rfl ?_
  refine rr_V [.int v1] [] dX1_show_13 kX0_drop mX1_103 ⟨by decide, by decide⟩ (bd_lt hb0 (by decide)) (bd_11 hb0) rfl rfl (Nat.le_of_ble_eq_true rfl) rfl (h.mono fun vr I2 J2 h => ?_)
  obtain ⟨rfl, h⟩ := h
  show rr pgX zX1_show 16 _ [] _ _ _
  refine rr_aload_n dX1_show_16 rfl 0 rfl rfl ?_
  refine rr_getR dX1_show_17 fX1_31 (bd_lt0 hb0) (bd_0 hb0) rfl rfl ?_
  refine rr_iload_n dX1_show_20 rfl 1 rfl rfl ?_
  refine rr_V [.int v1] [] dX1_show_21 kX0_add mX1_58 ⟨by decide, by decide⟩ (bd_lt hb0 (by decide)) (bd_9 hb0) rfl rfl (Nat.le_of_ble_eq_true rfl) rfl (h.mono fun vr I3 J3 h => ?_)
  obtain ⟨rfl, h⟩ := h
  show rr pgX zX1_show 24 _ [] _ _ _
  exact rr_vret dX1_show_24 rfl h

def l_X1_uncoverAround_2 (I : tg_I) (J : tg_J) (P : Option Value → tg_I → tg_J → Prop) (b0 : Nat) (v1 : Int32) (v2 : Int32) : Prop := rr pgX zX1_uncoverAround 2 [(0, .ref b0), (1, .int v1), (2, .int v2)] [] I J P
theorem e_X1_uncoverAround {I : tg_I} {J : tg_J} {P : Option Value → tg_I → tg_J → Prop} (b0 : Nat) (v1 : Int32) (hb0 : isBd b0) (h :
  l_X1_uncoverAround_2 I J P b0 v1 ((0 : Int32))) : call pgX zX1_uncoverAround [.ref b0, .int v1] I J P := by
  refine call_of (by decide +kernel) (fun _ => Nat.le_of_ble_eq_true rfl) ?_
  show rr pgX zX1_uncoverAround 0 [(0, .ref b0), (1, .int v1)] [] I J P
  refine rr_iconst (v := (0 : Int32)) dX1_uncoverAround_0 (by decide) rfl ?_
  refine rr_istore_n (lv' := [(2, .int (0 : Int32)), (0, .ref b0), (1, .int v1)]) dX1_uncoverAround_1 rfl (by decide) rfl rfl ?_
  exact rr.sub [1, 2, 0] rfl h
theorem s_X1_uncoverAround_2 {I : tg_I} {J : tg_J} {P : Option Value → tg_I → tg_J → Prop} (b0 : Nat) (v1 : Int32) (v2 : Int32) (hb0 : isBd b0) (h :
  vp_in v1 100 ∧
  (((I (b0 + 5) (Int32.toNatClampNeg v1)) ≤ v2 →
   P none I J) ∧
  (¬ (I (b0 + 5) (Int32.toNatClampNeg v1)) ≤ v2 →
   vp_in ((v1 * (8 : Int32)) + v2) 800 ∧
    (∀ x1, x1 = (I (b0 + 4) (Int32.toNatClampNeg ((v1 * (8 : Int32)) + v2))) →
    call pgX zX0_has [.ref (b0 + 8), .int x1] I J (fun vr I1 J1 => ∃ r1 : Int32, vr = some (.int r1) ∧
    ((r1 = 0 →
     l_X1_uncoverAround_2 I1 J1 P b0 v1 ((v2 + (1 : Int32)))) ∧
    (¬ r1 = 0 →
     call pgX zX0_has [.ref (b0 + 11), .int x1] I1 J1 (fun vr I2 J2 => ∃ r2 : Int32, vr = some (.int r2) ∧
      ((¬ r2 = 0 →
       l_X1_uncoverAround_2 I2 J2 P b0 v1 ((v2 + (1 : Int32)))) ∧
      (r2 = 0 →
       call pgX zX1_uncover [.ref b0, .int x1] I2 J2 (fun vr I3 J3 => vr = none ∧
        (l_X1_uncoverAround_2 I3 J3 P b0 v1 ((v2 + (1 : Int32))))))))))))))) : l_X1_uncoverAround_2 I J P b0 v1 v2 := by
  show rr pgX zX1_uncoverAround 2 [(0, .ref b0), (1, .int v1), (2, .int v2)] [] I J P
  refine rr_iload_n dX1_uncoverAround_2 rfl 2 rfl rfl ?_
  refine rr_aload_n dX1_uncoverAround_3 rfl 0 rfl rfl ?_
  refine rr_getR dX1_uncoverAround_4 fX1_12 (bd_lt0 hb0) (bd_0 hb0) rfl rfl ?_
  refine rr_getR dX1_uncoverAround_7 fX1_117 (bd_lt hb0 (by decide)) (bd_1 hb0) rfl rfl ?_
  refine rr_iload_n dX1_uncoverAround_10 rfl 1 rfl rfl ?_
  refine rr_iald dX1_uncoverAround_11 (bd_lt hb0 (by decide)) (bd_5 hb0) rfl ⟨h.1, ?_⟩
  have h := h.2
  refine rr_icmp_ge (tgt := 63) dX1_uncoverAround_12 (by decide) rfl ⟨fun hc => ?_, fun hc => ?_⟩
  · have h := h.1 hc
    exact rr_vret dX1_uncoverAround_63 rfl h
  · have h := h.2 hc
    refine rr_aload_n dX1_uncoverAround_15 rfl 0 rfl rfl ?_
    refine rr_getR dX1_uncoverAround_16 fX1_12 (bd_lt0 hb0) (bd_0 hb0) rfl rfl ?_
    refine rr_getR dX1_uncoverAround_19 fX1_120 (bd_lt hb0 (by decide)) (bd_1 hb0) rfl rfl ?_
    refine rr_iload_n dX1_uncoverAround_22 rfl 1 rfl rfl ?_
    refine rr_bipush (v := (8 : Int32)) dX1_uncoverAround_23 (by decide) rfl ?_
    refine rr_imul dX1_uncoverAround_25 rfl ?_
    refine rr_iload_n dX1_uncoverAround_26 rfl 2 rfl rfl ?_
    refine rr_iadd dX1_uncoverAround_27 rfl ?_
    refine rr_iald dX1_uncoverAround_28 (bd_lt hb0 (by decide)) (bd_4 hb0) rfl ⟨h.1, ?_⟩
    have h := h.2
    refine rr_letTi (fun x1 hx1 => ?_)
    have h := h x1 hx1
    refine rr_istore_n (lv' := [(3, .int x1), (0, .ref b0), (1, .int v1), (2, .int v2)]) dX1_uncoverAround_29 rfl (by decide) rfl rfl ?_
    refine rr_aload_n dX1_uncoverAround_30 rfl 1 rfl rfl ?_
    refine rr_getR dX1_uncoverAround_31 fX1_28 (bd_lt0 hb0) (bd_0 hb0) rfl rfl ?_
    refine rr_iload_n dX1_uncoverAround_34 rfl 0 rfl rfl ?_
    refine rr_V [.int x1] [] dX1_uncoverAround_35 kX0_has mX1_99 ⟨by decide, by decide⟩ (bd_lt hb0 (by decide)) (bd_8 hb0) rfl rfl (Nat.le_of_ble_eq_true rfl) rfl (h.mono fun vr I1 J1 h => ?_)
    obtain ⟨r1, rfl, h⟩ := h
    show rr pgX zX1_uncoverAround 38 _ [.int r1] _ _ _
    refine rr_if_eq (tgt := 57) dX1_uncoverAround_38 (by decide) rfl ⟨fun hc => ?_, fun hc => ?_⟩
    · have h := h.1 hc
      refine rr_iinc (k := 3) (v := (v2 + (1 : Int32))) (lv' := [(2, .int (v2 + (1 : Int32))), (3, .int x1), (0, .ref b0), (1, .int v1)]) dX1_uncoverAround_57 rfl rfl (by decide) rfl rfl ?_
      refine rr_goto (tgt := 2) dX1_uncoverAround_60 (by decide) ?_
      exact rr.sub [2, 3, 0] rfl h
    · have h := h.2 hc
      refine rr_aload_n dX1_uncoverAround_41 rfl 1 rfl rfl ?_
      refine rr_getR dX1_uncoverAround_42 fX1_37 (bd_lt0 hb0) (bd_0 hb0) rfl rfl ?_
      refine rr_iload_n dX1_uncoverAround_45 rfl 0 rfl rfl ?_
      refine rr_V [.int x1] [] dX1_uncoverAround_46 kX0_has mX1_99 ⟨by decide, by decide⟩ (bd_lt hb0 (by decide)) (bd_11 hb0) rfl rfl (Nat.le_of_ble_eq_true rfl) rfl (h.mono fun vr I2 J2 h => ?_)
      obtain ⟨r2, rfl, h⟩ := h
      show rr pgX zX1_uncoverAround 49 _ [.int r2] _ _ _
      refine rr_if_ne (tgt := 57) dX1_uncoverAround_49 (by decide) rfl ⟨fun hc => ?_, fun hc => ?_⟩
      · have h := h.1 hc
        refine rr_iinc (k := 3) (v := (v2 + (1 : Int32))) (lv' := [(2, .int (v2 + (1 : Int32))), (3, .int x1), (0, .ref b0), (1, .int v1)]) dX1_uncoverAround_57 rfl rfl (by decide) rfl rfl ?_
        refine rr_goto (tgt := 2) dX1_uncoverAround_60 (by decide) ?_
        exact rr.sub [2, 3, 0] rfl h
      · have h := h.2 hc
        refine rr_aload_n dX1_uncoverAround_52 rfl 1 rfl rfl ?_
        refine rr_iload_n dX1_uncoverAround_53 rfl 0 rfl rfl ?_
        refine rr_V [.int x1] [] dX1_uncoverAround_54 kX1_uncover mX1_123 ⟨by decide, by decide⟩ (bd_lt0 hb0) (bd_0 hb0) rfl rfl (Nat.le_of_ble_eq_true rfl) rfl (h.mono fun vr I3 J3 h => ?_)
        obtain ⟨rfl, h⟩ := h
        show rr pgX zX1_uncoverAround 57 _ [] _ _ _
        refine rr_iinc (k := 3) (v := (v2 + (1 : Int32))) (lv' := [(2, .int (v2 + (1 : Int32))), (3, .int x1), (0, .ref b0), (1, .int v1)]) dX1_uncoverAround_57 rfl rfl (by decide) rfl rfl ?_
        refine rr_goto (tgt := 2) dX1_uncoverAround_60 (by decide) ?_
        exact rr.sub [2, 3, 0] rfl h

def l_X1_leastOpenings_11 (I : tg_I) (J : tg_J) (P : Option Value → tg_I → tg_J → Prop) (b0 : Nat) (v1 : Int32) (v2 : Int32) : Prop := rr pgX zX1_leastOpenings 11 [(0, .ref b0), (1, .int v1), (2, .int v2)] [] I J P
def l_X1_leastOpenings_57 (I : tg_I) (J : tg_J) (P : Option Value → tg_I → tg_J → Prop) (b0 : Nat) (v1 : Int32) (v2 : Int32) : Prop := rr pgX zX1_leastOpenings 57 [(0, .ref b0), (1, .int v1), (2, .int v2)] [] I J P
theorem e_X1_leastOpenings {I : tg_I} {J : tg_J} {P : Option Value → tg_I → tg_J → Prop} (b0 : Nat) (hb0 : isBd b0) (h :
  call pgX zX0_clear [.ref (b0 + 12)] I J (fun vr I1 J1 => vr = none ∧
  (l_X1_leastOpenings_11 I1 J1 P b0 ((0 : Int32)) ((0 : Int32))))) : call pgX zX1_leastOpenings [.ref b0] I J P := by
  refine call_of (by decide +kernel) (fun _ => Nat.le_of_ble_eq_true rfl) ?_
  show rr pgX zX1_leastOpenings 0 [(0, .ref b0)] [] I J P
  refine rr_aload_n dX1_leastOpenings_0 rfl 0 rfl rfl ?_
  refine rr_getR dX1_leastOpenings_1 fX1_40 (bd_lt0 hb0) (bd_0 hb0) rfl rfl ?_
  refine rr_V [] [] dX1_leastOpenings_4 kX0_clear mX1_51 ⟨by decide, by decide⟩ (bd_lt hb0 (by decide)) (bd_12 hb0) rfl rfl (Nat.le_of_ble_eq_true rfl) rfl (h.mono fun vr I1 J1 h => ?_)
  obtain ⟨rfl, h⟩ := h
  show rr pgX zX1_leastOpenings 7 _ [] _ _ _
  refine rr_iconst (v := (0 : Int32)) dX1_leastOpenings_7 (by decide) rfl ?_
  refine rr_istore_n (lv' := [(1, .int (0 : Int32)), (0, .ref b0)]) dX1_leastOpenings_8 rfl (by decide) rfl rfl ?_
  refine rr_iconst (v := (0 : Int32)) dX1_leastOpenings_9 (by decide) rfl ?_
  refine rr_istore_n (lv' := [(2, .int (0 : Int32)), (1, .int (0 : Int32)), (0, .ref b0)]) dX1_leastOpenings_10 rfl (by decide) rfl rfl ?_
  exact rr.sub [2, 1, 0] rfl h
theorem s_X1_leastOpenings_11 {I : tg_I} {J : tg_J} {P : Option Value → tg_I → tg_J → Prop} (b0 : Nat) (v1 : Int32) (v2 : Int32) (hb0 : isBd b0) (h :
  ((I (b0 + 1) 7) ≤ v2 →
   l_X1_leastOpenings_57 I J P b0 v1 ((0 : Int32))) ∧
  (¬ (I (b0 + 1) 7) ≤ v2 →
   call pgX zX1_isQuiet [.ref b0, .int v2] I J (fun vr I1 J1 => ∃ r1 : Int32, vr = some (.int r1) ∧
    ((r1 = 0 →
     l_X1_leastOpenings_11 I1 J1 P b0 v1 ((v2 + (1 : Int32)))) ∧
    (¬ r1 = 0 →
     call pgX zX0_has [.ref (b0 + 12), .int v2] I1 J1 (fun vr I2 J2 => ∃ r2 : Int32, vr = some (.int r2) ∧
      ((¬ r2 = 0 →
       l_X1_leastOpenings_11 I2 J2 P b0 v1 ((v2 + (1 : Int32)))) ∧
      (r2 = 0 →
       call pgX zX1_heapUp [.ref b0, .int v2] I2 J2 (fun vr I3 J3 => vr = none ∧
        (l_X1_leastOpenings_11 I3 J3 P b0 ((v1 + (1 : Int32))) ((v2 + (1 : Int32))))))))))))) : l_X1_leastOpenings_11 I J P b0 v1 v2 := by
  show rr pgX zX1_leastOpenings 11 [(0, .ref b0), (1, .int v1), (2, .int v2)] [] I J P
  refine rr_iload_n dX1_leastOpenings_11 rfl 2 rfl rfl ?_
  refine rr_aload_n dX1_leastOpenings_12 rfl 0 rfl rfl ?_
  refine rr_getR dX1_leastOpenings_13 fX1_12 (bd_lt0 hb0) (bd_0 hb0) rfl rfl ?_
  refine rr_getI dX1_leastOpenings_16 fX1_54 (bd_lt hb0 (by decide)) (bd_1 hb0) rfl rfl ?_
  refine rr_icmp_ge (tgt := 55) dX1_leastOpenings_19 (by decide) rfl ⟨fun hc => ?_, fun hc => ?_⟩
  · have h := h.1 hc
    refine rr_iconst (v := (0 : Int32)) dX1_leastOpenings_55 (by decide) rfl ?_
    refine rr_istore_n (lv' := [(2, .int (0 : Int32)), (0, .ref b0), (1, .int v1)]) dX1_leastOpenings_56 rfl (by decide) rfl rfl ?_
    exact rr.sub [1, 2, 0] rfl h
  · have h := h.2 hc
    refine rr_aload_n dX1_leastOpenings_22 rfl 0 rfl rfl ?_
    refine rr_iload_n dX1_leastOpenings_23 rfl 2 rfl rfl ?_
    refine rr_V [.int v2] [] dX1_leastOpenings_24 kX1_isQuiet mX1_126 ⟨by decide, by decide⟩ (bd_lt0 hb0) (bd_0 hb0) rfl rfl (Nat.le_of_ble_eq_true rfl) rfl (h.mono fun vr I1 J1 h => ?_)
    obtain ⟨r1, rfl, h⟩ := h
    show rr pgX zX1_leastOpenings 27 _ [.int r1] _ _ _
    refine rr_if_eq (tgt := 49) dX1_leastOpenings_27 (by decide) rfl ⟨fun hc => ?_, fun hc => ?_⟩
    · have h := h.1 hc
      refine rr_iinc (k := 2) (v := (v2 + (1 : Int32))) (lv' := [(2, .int (v2 + (1 : Int32))), (0, .ref b0), (1, .int v1)]) dX1_leastOpenings_49 rfl rfl (by decide) rfl rfl ?_
      refine rr_goto (tgt := 11) dX1_leastOpenings_52 (by decide) ?_
      exact rr.sub [1, 2, 0] rfl h
    · have h := h.2 hc
      refine rr_aload_n dX1_leastOpenings_30 rfl 0 rfl rfl ?_
      refine rr_getR dX1_leastOpenings_31 fX1_40 (bd_lt0 hb0) (bd_0 hb0) rfl rfl ?_
      refine rr_iload_n dX1_leastOpenings_34 rfl 2 rfl rfl ?_
      refine rr_V [.int v2] [] dX1_leastOpenings_35 kX0_has mX1_99 ⟨by decide, by decide⟩ (bd_lt hb0 (by decide)) (bd_12 hb0) rfl rfl (Nat.le_of_ble_eq_true rfl) rfl (h.mono fun vr I2 J2 h => ?_)
      obtain ⟨r2, rfl, h⟩ := h
      show rr pgX zX1_leastOpenings 38 _ [.int r2] _ _ _
      refine rr_if_ne (tgt := 49) dX1_leastOpenings_38 (by decide) rfl ⟨fun hc => ?_, fun hc => ?_⟩
      · have h := h.1 hc
        refine rr_iinc (k := 2) (v := (v2 + (1 : Int32))) (lv' := [(2, .int (v2 + (1 : Int32))), (0, .ref b0), (1, .int v1)]) dX1_leastOpenings_49 rfl rfl (by decide) rfl rfl ?_
        refine rr_goto (tgt := 11) dX1_leastOpenings_52 (by decide) ?_
        exact rr.sub [1, 2, 0] rfl h
      · have h := h.2 hc
        refine rr_iinc (k := 1) (v := (v1 + (1 : Int32))) (lv' := [(1, .int (v1 + (1 : Int32))), (0, .ref b0), (2, .int v2)]) dX1_leastOpenings_41 rfl rfl (by decide) rfl rfl ?_
        refine rr_aload_n dX1_leastOpenings_44 rfl 1 rfl rfl ?_
        refine rr_iload_n dX1_leastOpenings_45 rfl 2 rfl rfl ?_
        refine rr_V [.int v2] [] dX1_leastOpenings_46 kX1_heapUp mX1_129 ⟨by decide, by decide⟩ (bd_lt0 hb0) (bd_0 hb0) rfl rfl (Nat.le_of_ble_eq_true rfl) rfl (h.mono fun vr I3 J3 h => ?_)
        obtain ⟨rfl, h⟩ := h
        show rr pgX zX1_leastOpenings 49 _ [] _ _ _
        refine rr_iinc (k := 2) (v := (v2 + (1 : Int32))) (lv' := [(2, .int (v2 + (1 : Int32))), (1, .int (v1 + (1 : Int32))), (0, .ref b0)]) dX1_leastOpenings_49 rfl rfl (by decide) rfl rfl ?_
        refine rr_goto (tgt := 11) dX1_leastOpenings_52 (by decide) ?_
        exact rr.sub [2, 1, 0] rfl h
theorem s_X1_leastOpenings_57 {I : tg_I} {J : tg_J} {P : Option Value → tg_I → tg_J → Prop} (b0 : Nat) (v1 : Int32) (v2 : Int32) (hb0 : isBd b0) (h :
  ((I (b0 + 1) 7) ≤ v2 →
   P (some (.int v1)) I J) ∧
  (¬ (I (b0 + 1) 7) ≤ v2 →
   call pgX zX0_has [.ref (b0 + 12), .int v2] I J (fun vr I1 J1 => ∃ r1 : Int32, vr = some (.int r1) ∧
    ((¬ r1 = 0 →
     call pgX zX0_has [.ref (b0 + 8), .int v2] I1 J1 (fun vr I2 J2 => ∃ r2 : Int32, vr = some (.int r2) ∧
      ((r2 = 0 →
       l_X1_leastOpenings_57 I2 J2 P b0 v1 ((v2 + (1 : Int32)))) ∧
      (¬ r2 = 0 →
       call pgX zX0_has [.ref (b0 + 7), .int v2] I2 J2 (fun vr I3 J3 => ∃ r3 : Int32, vr = some (.int r3) ∧
        ((¬ r3 = 0 →
         l_X1_leastOpenings_57 I3 J3 P b0 v1 ((v2 + (1 : Int32)))) ∧
        (r3 = 0 →
         l_X1_leastOpenings_57 I3 J3 P b0 v1 ((v2 + (1 : Int32)))))))))) ∧
    (r1 = 0 →
     call pgX zX2_touches [.ref (b0 + 1), .int v2, .ref (b0 + 12)] I1 J1 (fun vr I4 J4 => ∃ r4 : Int32, vr = some (.int r4) ∧
      ((r4 = 0 →
       call pgX zX0_has [.ref (b0 + 8), .int v2] I4 J4 (fun vr I5 J5 => ∃ r5 : Int32, vr = some (.int r5) ∧
        ((r5 = 0 →
         l_X1_leastOpenings_57 I5 J5 P b0 v1 ((v2 + (1 : Int32)))) ∧
        (¬ r5 = 0 →
         call pgX zX0_has [.ref (b0 + 7), .int v2] I5 J5 (fun vr I6 J6 => ∃ r6 : Int32, vr = some (.int r6) ∧
          ((¬ r6 = 0 →
           l_X1_leastOpenings_57 I6 J6 P b0 v1 ((v2 + (1 : Int32)))) ∧
          (r6 = 0 →
           l_X1_leastOpenings_57 I6 J6 P b0 ((v1 + (1 : Int32))) ((v2 + (1 : Int32)))))))))) ∧
      (¬ r4 = 0 →
       call pgX zX0_has [.ref (b0 + 8), .int v2] I4 J4 (fun vr I7 J7 => ∃ r7 : Int32, vr = some (.int r7) ∧
        ((r7 = 0 →
         l_X1_leastOpenings_57 I7 J7 P b0 v1 ((v2 + (1 : Int32)))) ∧
        (¬ r7 = 0 →
         call pgX zX0_has [.ref (b0 + 7), .int v2] I7 J7 (fun vr I8 J8 => ∃ r8 : Int32, vr = some (.int r8) ∧
          ((¬ r8 = 0 →
           l_X1_leastOpenings_57 I8 J8 P b0 v1 ((v2 + (1 : Int32)))) ∧
          (r8 = 0 →
           l_X1_leastOpenings_57 I8 J8 P b0 v1 ((v2 + (1 : Int32))))))))))))))))) : l_X1_leastOpenings_57 I J P b0 v1 v2 := by
  show rr pgX zX1_leastOpenings 57 [(0, .ref b0), (1, .int v1), (2, .int v2)] [] I J P
  refine rr_iload_n dX1_leastOpenings_57 rfl 2 rfl rfl ?_
  refine rr_aload_n dX1_leastOpenings_58 rfl 0 rfl rfl ?_
  refine rr_getR dX1_leastOpenings_59 fX1_12 (bd_lt0 hb0) (bd_0 hb0) rfl rfl ?_
  refine rr_getI dX1_leastOpenings_62 fX1_54 (bd_lt hb0 (by decide)) (bd_1 hb0) rfl rfl ?_
  refine rr_icmp_ge (tgt := 135) dX1_leastOpenings_65 (by decide) rfl ⟨fun hc => ?_, fun hc => ?_⟩
  · have h := h.1 hc
    refine rr_iload_n dX1_leastOpenings_135 rfl 1 rfl rfl ?_
    exact rr_iret dX1_leastOpenings_136 rfl h
  · have h := h.2 hc
    refine rr_aload_n dX1_leastOpenings_68 rfl 0 rfl rfl ?_
    refine rr_getR dX1_leastOpenings_69 fX1_40 (bd_lt0 hb0) (bd_0 hb0) rfl rfl ?_
    refine rr_iload_n dX1_leastOpenings_72 rfl 2 rfl rfl ?_
    refine rr_V [.int v2] [] dX1_leastOpenings_73 kX0_has mX1_99 ⟨by decide, by decide⟩ (bd_lt hb0 (by decide)) (bd_12 hb0) rfl rfl (Nat.le_of_ble_eq_true rfl) rfl (h.mono fun vr I1 J1 h => ?_)
    obtain ⟨r1, rfl, h⟩ := h
    show rr pgX zX1_leastOpenings 76 _ [.int r1] _ _ _
    refine rr_if_ne (tgt := 94) dX1_leastOpenings_76 (by decide) rfl ⟨fun hc => ?_, fun hc => ?_⟩
    · have h := h.1 hc
      refine rr_iconst (v := (1 : Int32)) dX1_leastOpenings_94 (by decide) rfl ?_
      refine rr_goto (tgt := 99) dX1_leastOpenings_95 (by decide) ?_
      refine rr_istore_n (lv' := [(3, .int (1 : Int32)), (0, .ref b0), (1, .int v1), (2, .int v2)]) dX1_leastOpenings_99 rfl (by decide) rfl rfl ?_
      refine rr_aload_n dX1_leastOpenings_100 rfl 1 rfl rfl ?_
      refine rr_getR dX1_leastOpenings_101 fX1_28 (bd_lt0 hb0) (bd_0 hb0) rfl rfl ?_
      refine rr_iload_n dX1_leastOpenings_104 rfl 3 rfl rfl ?_
      refine rr_V [.int v2] [] dX1_leastOpenings_105 kX0_has mX1_99 ⟨by decide, by decide⟩ (bd_lt hb0 (by decide)) (bd_8 hb0) rfl rfl (Nat.le_of_ble_eq_true rfl) rfl (h.mono fun vr I2 J2 h => ?_)
      obtain ⟨r2, rfl, h⟩ := h
      show rr pgX zX1_leastOpenings 108 _ [.int r2] _ _ _
      refine rr_if_eq (tgt := 129) dX1_leastOpenings_108 (by decide) rfl ⟨fun hc => ?_, fun hc => ?_⟩
      · have h := h.1 hc
        refine rr_iinc (k := 3) (v := (v2 + (1 : Int32))) (lv' := [(2, .int (v2 + (1 : Int32))), (3, .int (1 : Int32)), (0, .ref b0), (1, .int v1)]) dX1_leastOpenings_129 rfl rfl (by decide) rfl rfl ?_
        refine rr_goto (tgt := 57) dX1_leastOpenings_132 (by decide) ?_
        exact rr.sub [2, 3, 0] rfl h
      · have h := h.2 hc
        refine rr_aload_n dX1_leastOpenings_111 rfl 1 rfl rfl ?_
        refine rr_getR dX1_leastOpenings_112 fX1_25 (bd_lt0 hb0) (bd_0 hb0) rfl rfl ?_
        refine rr_iload_n dX1_leastOpenings_115 rfl 3 rfl rfl ?_
        refine rr_V [.int v2] [] dX1_leastOpenings_116 kX0_has mX1_99 ⟨by decide, by decide⟩ (bd_lt hb0 (by decide)) (bd_7 hb0) rfl rfl (Nat.le_of_ble_eq_true rfl) rfl (h.mono fun vr I3 J3 h => ?_)
        obtain ⟨r3, rfl, h⟩ := h
        show rr pgX zX1_leastOpenings 119 _ [.int r3] _ _ _
        refine rr_if_ne (tgt := 129) dX1_leastOpenings_119 (by decide) rfl ⟨fun hc => ?_, fun hc => ?_⟩
        · have h := h.1 hc
          refine rr_iinc (k := 3) (v := (v2 + (1 : Int32))) (lv' := [(2, .int (v2 + (1 : Int32))), (3, .int (1 : Int32)), (0, .ref b0), (1, .int v1)]) dX1_leastOpenings_129 rfl rfl (by decide) rfl rfl ?_
          refine rr_goto (tgt := 57) dX1_leastOpenings_132 (by decide) ?_
          exact rr.sub [2, 3, 0] rfl h
        · have h := h.2 hc
          refine rr_iload_n dX1_leastOpenings_122 rfl 0 rfl rfl ?_
          refine rr_if_ne (tgt := 129) dX1_leastOpenings_123 (by decide) rfl ⟨fun _ => ?_, fun hc => absurd hc (by decide)⟩
          refine rr_iinc (k := 3) (v := (v2 + (1 : Int32))) (lv' := [(2, .int (v2 + (1 : Int32))), (3, .int (1 : Int32)), (0, .ref b0), (1, .int v1)]) dX1_leastOpenings_129 rfl rfl (by decide) rfl rfl ?_
          refine rr_goto (tgt := 57) dX1_leastOpenings_132 (by decide) ?_
          exact rr.sub [2, 3, 0] rfl h
    · have h := h.2 hc
      refine rr_aload_n dX1_leastOpenings_79 rfl 0 rfl rfl ?_
      refine rr_getR dX1_leastOpenings_80 fX1_12 (bd_lt0 hb0) (bd_0 hb0) rfl rfl ?_
      refine rr_iload_n dX1_leastOpenings_83 rfl 2 rfl rfl ?_
      refine rr_aload_n dX1_leastOpenings_84 rfl 0 rfl rfl ?_
      refine rr_getR dX1_leastOpenings_85 fX1_40 (bd_lt0 hb0) (bd_0 hb0) rfl rfl ?_
      refine rr_V [.int v2, .ref (b0 + 12)] [] dX1_leastOpenings_88 kX2_touches mX1_132 ⟨by decide, by decide⟩ (bd_lt hb0 (by decide)) (bd_1 hb0) rfl rfl (Nat.le_of_ble_eq_true rfl) rfl (h.mono fun vr I4 J4 h => ?_)
      obtain ⟨r4, rfl, h⟩ := h
      show rr pgX zX1_leastOpenings 91 _ [.int r4] _ _ _
      refine rr_if_eq (tgt := 98) dX1_leastOpenings_91 (by decide) rfl ⟨fun hc => ?_, fun hc => ?_⟩
      · have h := h.1 hc
        refine rr_iconst (v := (0 : Int32)) dX1_leastOpenings_98 (by decide) rfl ?_
        refine rr_istore_n (lv' := [(3, .int (0 : Int32)), (0, .ref b0), (1, .int v1), (2, .int v2)]) dX1_leastOpenings_99 rfl (by decide) rfl rfl ?_
        refine rr_aload_n dX1_leastOpenings_100 rfl 1 rfl rfl ?_
        refine rr_getR dX1_leastOpenings_101 fX1_28 (bd_lt0 hb0) (bd_0 hb0) rfl rfl ?_
        refine rr_iload_n dX1_leastOpenings_104 rfl 3 rfl rfl ?_
        refine rr_V [.int v2] [] dX1_leastOpenings_105 kX0_has mX1_99 ⟨by decide, by decide⟩ (bd_lt hb0 (by decide)) (bd_8 hb0) rfl rfl (Nat.le_of_ble_eq_true rfl) rfl (h.mono fun vr I5 J5 h => ?_)
        obtain ⟨r5, rfl, h⟩ := h
        show rr pgX zX1_leastOpenings 108 _ [.int r5] _ _ _
        refine rr_if_eq (tgt := 129) dX1_leastOpenings_108 (by decide) rfl ⟨fun hc => ?_, fun hc => ?_⟩
        · have h := h.1 hc
          refine rr_iinc (k := 3) (v := (v2 + (1 : Int32))) (lv' := [(2, .int (v2 + (1 : Int32))), (3, .int (0 : Int32)), (0, .ref b0), (1, .int v1)]) dX1_leastOpenings_129 rfl rfl (by decide) rfl rfl ?_
          refine rr_goto (tgt := 57) dX1_leastOpenings_132 (by decide) ?_
          exact rr.sub [2, 3, 0] rfl h
        · have h := h.2 hc
          refine rr_aload_n dX1_leastOpenings_111 rfl 1 rfl rfl ?_
          refine rr_getR dX1_leastOpenings_112 fX1_25 (bd_lt0 hb0) (bd_0 hb0) rfl rfl ?_
          refine rr_iload_n dX1_leastOpenings_115 rfl 3 rfl rfl ?_
          refine rr_V [.int v2] [] dX1_leastOpenings_116 kX0_has mX1_99 ⟨by decide, by decide⟩ (bd_lt hb0 (by decide)) (bd_7 hb0) rfl rfl (Nat.le_of_ble_eq_true rfl) rfl (h.mono fun vr I6 J6 h => ?_)
          obtain ⟨r6, rfl, h⟩ := h
          show rr pgX zX1_leastOpenings 119 _ [.int r6] _ _ _
          refine rr_if_ne (tgt := 129) dX1_leastOpenings_119 (by decide) rfl ⟨fun hc => ?_, fun hc => ?_⟩
          · have h := h.1 hc
            refine rr_iinc (k := 3) (v := (v2 + (1 : Int32))) (lv' := [(2, .int (v2 + (1 : Int32))), (3, .int (0 : Int32)), (0, .ref b0), (1, .int v1)]) dX1_leastOpenings_129 rfl rfl (by decide) rfl rfl ?_
            refine rr_goto (tgt := 57) dX1_leastOpenings_132 (by decide) ?_
            exact rr.sub [2, 3, 0] rfl h
          · have h := h.2 hc
            refine rr_iload_n dX1_leastOpenings_122 rfl 0 rfl rfl ?_
            refine rr_if_ne (tgt := 129) dX1_leastOpenings_123 (by decide) rfl ⟨fun hc => absurd hc (by decide), fun _ => ?_⟩
            refine rr_iinc (k := 2) (v := (v1 + (1 : Int32))) (lv' := [(1, .int (v1 + (1 : Int32))), (3, .int (0 : Int32)), (0, .ref b0), (2, .int v2)]) dX1_leastOpenings_126 rfl rfl (by decide) rfl rfl ?_
            refine rr_iinc (k := 3) (v := (v2 + (1 : Int32))) (lv' := [(2, .int (v2 + (1 : Int32))), (1, .int (v1 + (1 : Int32))), (3, .int (0 : Int32)), (0, .ref b0)]) dX1_leastOpenings_129 rfl rfl (by decide) rfl rfl ?_
            refine rr_goto (tgt := 57) dX1_leastOpenings_132 (by decide) ?_
            exact rr.sub [3, 1, 0] rfl h
      · have h := h.2 hc
        refine rr_iconst (v := (1 : Int32)) dX1_leastOpenings_94 (by decide) rfl ?_
        refine rr_goto (tgt := 99) dX1_leastOpenings_95 (by decide) ?_
        refine rr_istore_n (lv' := [(3, .int (1 : Int32)), (0, .ref b0), (1, .int v1), (2, .int v2)]) dX1_leastOpenings_99 rfl (by decide) rfl rfl ?_
        refine rr_aload_n dX1_leastOpenings_100 rfl 1 rfl rfl ?_
        refine rr_getR dX1_leastOpenings_101 fX1_28 (bd_lt0 hb0) (bd_0 hb0) rfl rfl ?_
        refine rr_iload_n dX1_leastOpenings_104 rfl 3 rfl rfl ?_
        refine rr_V [.int v2] [] dX1_leastOpenings_105 kX0_has mX1_99 ⟨by decide, by decide⟩ (bd_lt hb0 (by decide)) (bd_8 hb0) rfl rfl (Nat.le_of_ble_eq_true rfl) rfl (h.mono fun vr I7 J7 h => ?_)
        obtain ⟨r7, rfl, h⟩ := h
        show rr pgX zX1_leastOpenings 108 _ [.int r7] _ _ _
        refine rr_if_eq (tgt := 129) dX1_leastOpenings_108 (by decide) rfl ⟨fun hc => ?_, fun hc => ?_⟩
        · have h := h.1 hc
          refine rr_iinc (k := 3) (v := (v2 + (1 : Int32))) (lv' := [(2, .int (v2 + (1 : Int32))), (3, .int (1 : Int32)), (0, .ref b0), (1, .int v1)]) dX1_leastOpenings_129 rfl rfl (by decide) rfl rfl ?_
          refine rr_goto (tgt := 57) dX1_leastOpenings_132 (by decide) ?_
          exact rr.sub [2, 3, 0] rfl h
        · have h := h.2 hc
          refine rr_aload_n dX1_leastOpenings_111 rfl 1 rfl rfl ?_
          refine rr_getR dX1_leastOpenings_112 fX1_25 (bd_lt0 hb0) (bd_0 hb0) rfl rfl ?_
          refine rr_iload_n dX1_leastOpenings_115 rfl 3 rfl rfl ?_
          refine rr_V [.int v2] [] dX1_leastOpenings_116 kX0_has mX1_99 ⟨by decide, by decide⟩ (bd_lt hb0 (by decide)) (bd_7 hb0) rfl rfl (Nat.le_of_ble_eq_true rfl) rfl (h.mono fun vr I8 J8 h => ?_)
          obtain ⟨r8, rfl, h⟩ := h
          show rr pgX zX1_leastOpenings 119 _ [.int r8] _ _ _
          refine rr_if_ne (tgt := 129) dX1_leastOpenings_119 (by decide) rfl ⟨fun hc => ?_, fun hc => ?_⟩
          · have h := h.1 hc
            refine rr_iinc (k := 3) (v := (v2 + (1 : Int32))) (lv' := [(2, .int (v2 + (1 : Int32))), (3, .int (1 : Int32)), (0, .ref b0), (1, .int v1)]) dX1_leastOpenings_129 rfl rfl (by decide) rfl rfl ?_
            refine rr_goto (tgt := 57) dX1_leastOpenings_132 (by decide) ?_
            exact rr.sub [2, 3, 0] rfl h
          · have h := h.2 hc
            refine rr_iload_n dX1_leastOpenings_122 rfl 0 rfl rfl ?_
            refine rr_if_ne (tgt := 129) dX1_leastOpenings_123 (by decide) rfl ⟨fun _ => ?_, fun hc => absurd hc (by decide)⟩
            refine rr_iinc (k := 3) (v := (v2 + (1 : Int32))) (lv' := [(2, .int (v2 + (1 : Int32))), (3, .int (1 : Int32)), (0, .ref b0), (1, .int v1)]) dX1_leastOpenings_129 rfl rfl (by decide) rfl rfl ?_
            refine rr_goto (tgt := 57) dX1_leastOpenings_132 (by decide) ?_
            exact rr.sub [2, 3, 0] rfl h

theorem e_X1_isQuiet {I : tg_I} {J : tg_J} {P : Option Value → tg_I → tg_J → Prop} (b0 : Nat) (v1 : Int32) (hb0 : isBd b0) (h :
  call pgX zX0_has [.ref (b0 + 8), .int v1] I J (fun vr I1 J1 => ∃ r1 : Int32, vr = some (.int r1) ∧
  ((r1 = 0 →
   P (some (.int (0 : Int32))) I1 J1) ∧
  (¬ r1 = 0 →
   call pgX zX0_has [.ref (b0 + 7), .int v1] I1 J1 (fun vr I2 J2 => ∃ r2 : Int32, vr = some (.int r2) ∧
    ((¬ r2 = 0 →
     P (some (.int (0 : Int32))) I2 J2) ∧
    (r2 = 0 →
     call pgX zX2_touches [.ref (b0 + 1), .int v1, .ref (b0 + 7)] I2 J2 (fun vr I3 J3 => ∃ r3 : Int32, vr = some (.int r3) ∧
      ((¬ r3 = 0 →
       P (some (.int (0 : Int32))) I3 J3) ∧
      (r3 = 0 →
       P (some (.int (1 : Int32))) I3 J3)))))))))) : call pgX zX1_isQuiet [.ref b0, .int v1] I J P := by
  refine call_of (by decide +kernel) (fun _ => Nat.le_of_ble_eq_true rfl) ?_
  show rr pgX zX1_isQuiet 0 [(0, .ref b0), (1, .int v1)] [] I J P
  refine rr_aload_n dX1_isQuiet_0 rfl 0 rfl rfl ?_
  refine rr_getR dX1_isQuiet_1 fX1_28 (bd_lt0 hb0) (bd_0 hb0) rfl rfl ?_
  refine rr_iload_n dX1_isQuiet_4 rfl 1 rfl rfl ?_
  refine rr_V [.int v1] [] dX1_isQuiet_5 kX0_has mX1_99 ⟨by decide, by decide⟩ (bd_lt hb0 (by decide)) (bd_8 hb0) rfl rfl (Nat.le_of_ble_eq_true rfl) rfl (h.mono fun vr I1 J1 h => ?_)
  obtain ⟨r1, rfl, h⟩ := h
  show rr pgX zX1_isQuiet 8 _ [.int r1] _ _ _
  refine rr_if_eq (tgt := 41) dX1_isQuiet_8 (by decide) rfl ⟨fun hc => ?_, fun hc => ?_⟩
  · have h := h.1 hc
    refine rr_iconst (v := (0 : Int32)) dX1_isQuiet_41 (by decide) rfl ?_
    exact rr_zret dX1_isQuiet_42 rfl rfl h
  · have h := h.2 hc
    refine rr_aload_n dX1_isQuiet_11 rfl 0 rfl rfl ?_
    refine rr_getR dX1_isQuiet_12 fX1_25 (bd_lt0 hb0) (bd_0 hb0) rfl rfl ?_
    refine rr_iload_n dX1_isQuiet_15 rfl 1 rfl rfl ?_
    refine rr_V [.int v1] [] dX1_isQuiet_16 kX0_has mX1_99 ⟨by decide, by decide⟩ (bd_lt hb0 (by decide)) (bd_7 hb0) rfl rfl (Nat.le_of_ble_eq_true rfl) rfl (h.mono fun vr I2 J2 h => ?_)
    obtain ⟨r2, rfl, h⟩ := h
    show rr pgX zX1_isQuiet 19 _ [.int r2] _ _ _
    refine rr_if_ne (tgt := 41) dX1_isQuiet_19 (by decide) rfl ⟨fun hc => ?_, fun hc => ?_⟩
    · have h := h.1 hc
      refine rr_iconst (v := (0 : Int32)) dX1_isQuiet_41 (by decide) rfl ?_
      exact rr_zret dX1_isQuiet_42 rfl rfl h
    · have h := h.2 hc
      refine rr_aload_n dX1_isQuiet_22 rfl 0 rfl rfl ?_
      refine rr_getR dX1_isQuiet_23 fX1_12 (bd_lt0 hb0) (bd_0 hb0) rfl rfl ?_
      refine rr_iload_n dX1_isQuiet_26 rfl 1 rfl rfl ?_
      refine rr_aload_n dX1_isQuiet_27 rfl 0 rfl rfl ?_
      refine rr_getR dX1_isQuiet_28 fX1_25 (bd_lt0 hb0) (bd_0 hb0) rfl rfl ?_
      refine rr_V [.int v1, .ref (b0 + 7)] [] dX1_isQuiet_31 kX2_touches mX1_132 ⟨by decide, by decide⟩ (bd_lt hb0 (by decide)) (bd_1 hb0) rfl rfl (Nat.le_of_ble_eq_true rfl) rfl (h.mono fun vr I3 J3 h => ?_)
      obtain ⟨r3, rfl, h⟩ := h
      show rr pgX zX1_isQuiet 34 _ [.int r3] _ _ _
      refine rr_if_ne (tgt := 41) dX1_isQuiet_34 (by decide) rfl ⟨fun hc => ?_, fun hc => ?_⟩
      · have h := h.1 hc
        refine rr_iconst (v := (0 : Int32)) dX1_isQuiet_41 (by decide) rfl ?_
        exact rr_zret dX1_isQuiet_42 rfl rfl h
      · have h := h.2 hc
        refine rr_iconst (v := (1 : Int32)) dX1_isQuiet_37 (by decide) rfl ?_
        refine rr_goto (tgt := 42) dX1_isQuiet_38 (by decide) ?_
        exact rr_zret dX1_isQuiet_42 rfl rfl h

def l_X1_heapUp_19 (I : tg_I) (J : tg_J) (P : Option Value → tg_I → tg_J → Prop) (b0 : Nat) (v2 : Int32) (v3 : Int32) : Prop := rr pgX zX1_heapUp 19 [(0, .ref b0), (2, .int v2), (3, .int v3)] [] I J P
def l_X1_heapUp_41 (I : tg_I) (J : tg_J) (P : Option Value → tg_I → tg_J → Prop) (b0 : Nat) (v2 : Int32) (v3 : Int32) (v4 : Int32) (v5 : Int32) : Prop := rr pgX zX1_heapUp 41 [(0, .ref b0), (2, .int v2), (3, .int v3), (4, .int v4), (5, .int v5)] [] I J P
theorem e_X1_heapUp {I : tg_I} {J : tg_J} {P : Option Value → tg_I → tg_J → Prop} (b0 : Nat) (v1 : Int32) (hb0 : isBd b0) (h :
  call pgX zX0_add [.ref (b0 + 12), .int v1] I J (fun vr I1 J1 => vr = none ∧
  (vp_in (0 : Int32) 100 ∧ ∀ I2, I2 = u2 I1 (b0 + 13) (Int32.toNatClampNeg (0 : Int32)) v1 →
  l_X1_heapUp_19 I2 J1 P b0 ((1 : Int32)) ((0 : Int32))))) : call pgX zX1_heapUp [.ref b0, .int v1] I J P := by
  refine call_of (by decide +kernel) (fun _ => Nat.le_of_ble_eq_true rfl) ?_
  show rr pgX zX1_heapUp 0 [(0, .ref b0), (1, .int v1)] [] I J P
  refine rr_aload_n dX1_heapUp_0 rfl 0 rfl rfl ?_
  refine rr_getR dX1_heapUp_1 fX1_40 (bd_lt0 hb0) (bd_0 hb0) rfl rfl ?_
  refine rr_iload_n dX1_heapUp_4 rfl 1 rfl rfl ?_
  refine rr_V [.int v1] [] dX1_heapUp_5 kX0_add mX1_58 ⟨by decide, by decide⟩ (bd_lt hb0 (by decide)) (bd_12 hb0) rfl rfl (Nat.le_of_ble_eq_true rfl) rfl (h.mono fun vr I1 J1 h => ?_)
  obtain ⟨rfl, h⟩ := h
  show rr pgX zX1_heapUp 8 _ [] _ _ _
  refine rr_aload_n dX1_heapUp_8 rfl 0 rfl rfl ?_
  refine rr_getR dX1_heapUp_9 fX1_43 (bd_lt0 hb0) (bd_0 hb0) rfl rfl ?_
  refine rr_iconst (v := (0 : Int32)) dX1_heapUp_12 (by decide) rfl ?_
  refine rr_iload_n dX1_heapUp_13 rfl 1 rfl rfl ?_
  refine rr_iast dX1_heapUp_14 (bd_lt hb0 (by decide)) (bd_13 hb0) rfl ⟨h.1, ?_⟩
  refine rr_letI (fun I2 hI2 => ?_)
  have h := h.2 I2 hI2
  refine rr_iconst (v := (1 : Int32)) dX1_heapUp_15 (by decide) rfl ?_
  refine rr_istore_n (lv' := [(2, .int (1 : Int32)), (0, .ref b0), (1, .int v1)]) dX1_heapUp_16 rfl (by decide) rfl rfl ?_
  refine rr_iconst (v := (0 : Int32)) dX1_heapUp_17 (by decide) rfl ?_
  refine rr_istore_n (lv' := [(3, .int (0 : Int32)), (2, .int (1 : Int32)), (0, .ref b0), (1, .int v1)]) dX1_heapUp_18 rfl (by decide) rfl rfl ?_
  exact rr.sub [2, 1, 0] rfl h
theorem s_X1_heapUp_19 {I : tg_I} {J : tg_J} {P : Option Value → tg_I → tg_J → Prop} (b0 : Nat) (v2 : Int32) (v3 : Int32) (hb0 : isBd b0) (h :
  (v2 ≤ v3 →
   P none I J) ∧
  (¬ v2 ≤ v3 →
   ((100 : Int32) ≤ v3 →
     P none I J) ∧
    (¬ (100 : Int32) ≤ v3 →
     vp_in v3 100 ∧
      (∀ x1, x1 = (I (b0 + 13) (Int32.toNatClampNeg v3)) →
      l_X1_heapUp_41 I J P b0 v2 v3 x1 ((0 : Int32)))))) : l_X1_heapUp_19 I J P b0 v2 v3 := by
  show rr pgX zX1_heapUp 19 [(0, .ref b0), (2, .int v2), (3, .int v3)] [] I J P
  refine rr_iload_n dX1_heapUp_19 rfl 2 rfl rfl ?_
  refine rr_iload_n dX1_heapUp_20 rfl 1 rfl rfl ?_
  refine rr_icmp_ge (tgt := 133) dX1_heapUp_21 (by decide) rfl ⟨fun hc => ?_, fun hc => ?_⟩
  · have h := h.1 hc
    exact rr_vret dX1_heapUp_133 rfl h
  · have h := h.2 hc
    refine rr_iload_n dX1_heapUp_24 rfl 2 rfl rfl ?_
    refine rr_bipush (v := (100 : Int32)) dX1_heapUp_25 (by decide) rfl ?_
    refine rr_icmp_ge (tgt := 133) dX1_heapUp_27 (by decide) rfl ⟨fun hc => ?_, fun hc => ?_⟩
    · have h := h.1 hc
      exact rr_vret dX1_heapUp_133 rfl h
    · have h := h.2 hc
      refine rr_aload_n dX1_heapUp_30 rfl 0 rfl rfl ?_
      refine rr_getR dX1_heapUp_31 fX1_43 (bd_lt0 hb0) (bd_0 hb0) rfl rfl ?_
      refine rr_iload_n dX1_heapUp_34 rfl 2 rfl rfl ?_
      refine rr_iald dX1_heapUp_35 (bd_lt hb0 (by decide)) (bd_13 hb0) rfl ⟨h.1, ?_⟩
      have h := h.2
      refine rr_letTi (fun x1 hx1 => ?_)
      have h := h x1 hx1
      refine rr_istore (lv' := [(4, .int x1), (0, .ref b0), (2, .int v2), (3, .int v3)]) dX1_heapUp_36 (by decide) rfl rfl ?_
      refine rr_iconst (v := (0 : Int32)) dX1_heapUp_38 (by decide) rfl ?_
      refine rr_istore (lv' := [(5, .int (0 : Int32)), (4, .int x1), (0, .ref b0), (2, .int v2), (3, .int v3)]) dX1_heapUp_39 (by decide) rfl rfl ?_
      exact rr.sub [2, 3, 4, 1, 0] rfl h
theorem s_X1_heapUp_41 {I : tg_I} {J : tg_J} {P : Option Value → tg_I → tg_J → Prop} (b0 : Nat) (v2 : Int32) (v3 : Int32) (v4 : Int32) (v5 : Int32) (hb0 : isBd b0) (h :
  vp_in v4 100 ∧
  (((I (b0 + 5) (Int32.toNatClampNeg v4)) ≤ v5 →
   l_X1_heapUp_19 I J P b0 v2 ((v3 + (1 : Int32)))) ∧
  (¬ (I (b0 + 5) (Int32.toNatClampNeg v4)) ≤ v5 →
   vp_in ((v4 * (8 : Int32)) + v5) 800 ∧
    (∀ x1, x1 = (I (b0 + 4) (Int32.toNatClampNeg ((v4 * (8 : Int32)) + v5))) →
    call pgX zX1_isQuiet [.ref b0, .int x1] I J (fun vr I1 J1 => ∃ r1 : Int32, vr = some (.int r1) ∧
    ((r1 = 0 →
     l_X1_heapUp_41 I1 J1 P b0 v2 v3 v4 ((v5 + (1 : Int32)))) ∧
    (¬ r1 = 0 →
     call pgX zX0_has [.ref (b0 + 12), .int x1] I1 J1 (fun vr I2 J2 => ∃ r2 : Int32, vr = some (.int r2) ∧
      ((¬ r2 = 0 →
       l_X1_heapUp_41 I2 J2 P b0 v2 v3 v4 ((v5 + (1 : Int32)))) ∧
      (r2 = 0 →
       ((100 : Int32) ≤ v2 →
         l_X1_heapUp_41 I2 J2 P b0 v2 v3 v4 ((v5 + (1 : Int32)))) ∧
        (¬ (100 : Int32) ≤ v2 →
         call pgX zX0_add [.ref (b0 + 12), .int x1] I2 J2 (fun vr I3 J3 => vr = none ∧
          (vp_in v2 100 ∧ ∀ I4, I4 = u2 I3 (b0 + 13) (Int32.toNatClampNeg v2) x1 →
          l_X1_heapUp_41 I4 J3 P b0 ((v2 + (1 : Int32))) v3 v4 ((v5 + (1 : Int32)))))))))))))))) : l_X1_heapUp_41 I J P b0 v2 v3 v4 v5 := by
  show rr pgX zX1_heapUp 41 [(0, .ref b0), (2, .int v2), (3, .int v3), (4, .int v4), (5, .int v5)] [] I J P
  refine rr_iload dX1_heapUp_41 4 rfl rfl ?_
  refine rr_aload_n dX1_heapUp_43 rfl 0 rfl rfl ?_
  refine rr_getR dX1_heapUp_44 fX1_12 (bd_lt0 hb0) (bd_0 hb0) rfl rfl ?_
  refine rr_getR dX1_heapUp_47 fX1_117 (bd_lt hb0 (by decide)) (bd_1 hb0) rfl rfl ?_
  refine rr_iload dX1_heapUp_50 3 rfl rfl ?_
  refine rr_iald dX1_heapUp_52 (bd_lt hb0 (by decide)) (bd_5 hb0) rfl ⟨h.1, ?_⟩
  have h := h.2
  refine rr_icmp_ge (tgt := 127) dX1_heapUp_53 (by decide) rfl ⟨fun hc => ?_, fun hc => ?_⟩
  · have h := h.1 hc
    refine rr_iinc (k := 2) (v := (v3 + (1 : Int32))) (lv' := [(3, .int (v3 + (1 : Int32))), (0, .ref b0), (2, .int v2), (4, .int v4), (5, .int v5)]) dX1_heapUp_127 rfl rfl (by decide) rfl rfl ?_
    refine rr_goto (tgt := 19) dX1_heapUp_130 (by decide) ?_
    exact rr.sub [1, 2, 0] rfl h
  · have h := h.2 hc
    refine rr_aload_n dX1_heapUp_56 rfl 0 rfl rfl ?_
    refine rr_getR dX1_heapUp_57 fX1_12 (bd_lt0 hb0) (bd_0 hb0) rfl rfl ?_
    refine rr_getR dX1_heapUp_60 fX1_120 (bd_lt hb0 (by decide)) (bd_1 hb0) rfl rfl ?_
    refine rr_iload dX1_heapUp_63 3 rfl rfl ?_
    refine rr_bipush (v := (8 : Int32)) dX1_heapUp_65 (by decide) rfl ?_
    refine rr_imul dX1_heapUp_67 rfl ?_
    refine rr_iload dX1_heapUp_68 4 rfl rfl ?_
    refine rr_iadd dX1_heapUp_70 rfl ?_
    refine rr_iald dX1_heapUp_71 (bd_lt hb0 (by decide)) (bd_4 hb0) rfl ⟨h.1, ?_⟩
    have h := h.2
    refine rr_letTi (fun x1 hx1 => ?_)
    have h := h x1 hx1
    refine rr_istore (lv' := [(6, .int x1), (0, .ref b0), (2, .int v2), (3, .int v3), (4, .int v4), (5, .int v5)]) dX1_heapUp_72 (by decide) rfl rfl ?_
    refine rr_aload_n dX1_heapUp_74 rfl 1 rfl rfl ?_
    refine rr_iload dX1_heapUp_75 0 rfl rfl ?_
    refine rr_V [.int x1] [] dX1_heapUp_77 kX1_isQuiet mX1_126 ⟨by decide, by decide⟩ (bd_lt0 hb0) (bd_0 hb0) rfl rfl (Nat.le_of_ble_eq_true rfl) rfl (h.mono fun vr I1 J1 h => ?_)
    obtain ⟨r1, rfl, h⟩ := h
    show rr pgX zX1_heapUp 80 _ [.int r1] _ _ _
    refine rr_if_eq (tgt := 121) dX1_heapUp_80 (by decide) rfl ⟨fun hc => ?_, fun hc => ?_⟩
    · have h := h.1 hc
      refine rr_iinc (k := 5) (v := (v5 + (1 : Int32))) (lv' := [(5, .int (v5 + (1 : Int32))), (6, .int x1), (0, .ref b0), (2, .int v2), (3, .int v3), (4, .int v4)]) dX1_heapUp_121 rfl rfl (by decide) rfl rfl ?_
      refine rr_goto (tgt := 41) dX1_heapUp_124 (by decide) ?_
      exact rr.sub [2, 3, 4, 5, 0] rfl h
    · have h := h.2 hc
      refine rr_aload_n dX1_heapUp_83 rfl 1 rfl rfl ?_
      refine rr_getR dX1_heapUp_84 fX1_40 (bd_lt0 hb0) (bd_0 hb0) rfl rfl ?_
      refine rr_iload dX1_heapUp_87 0 rfl rfl ?_
      refine rr_V [.int x1] [] dX1_heapUp_89 kX0_has mX1_99 ⟨by decide, by decide⟩ (bd_lt hb0 (by decide)) (bd_12 hb0) rfl rfl (Nat.le_of_ble_eq_true rfl) rfl (h.mono fun vr I2 J2 h => ?_)
      obtain ⟨r2, rfl, h⟩ := h
      show rr pgX zX1_heapUp 92 _ [.int r2] _ _ _
      refine rr_if_ne (tgt := 121) dX1_heapUp_92 (by decide) rfl ⟨fun hc => ?_, fun hc => ?_⟩
      · have h := h.1 hc
        refine rr_iinc (k := 5) (v := (v5 + (1 : Int32))) (lv' := [(5, .int (v5 + (1 : Int32))), (6, .int x1), (0, .ref b0), (2, .int v2), (3, .int v3), (4, .int v4)]) dX1_heapUp_121 rfl rfl (by decide) rfl rfl ?_
        refine rr_goto (tgt := 41) dX1_heapUp_124 (by decide) ?_
        exact rr.sub [2, 3, 4, 5, 0] rfl h
      · have h := h.2 hc
        refine rr_iload_n dX1_heapUp_95 rfl 2 rfl rfl ?_
        refine rr_bipush (v := (100 : Int32)) dX1_heapUp_96 (by decide) rfl ?_
        refine rr_icmp_ge (tgt := 121) dX1_heapUp_98 (by decide) rfl ⟨fun hc => ?_, fun hc => ?_⟩
        · have h := h.1 hc
          refine rr_iinc (k := 5) (v := (v5 + (1 : Int32))) (lv' := [(5, .int (v5 + (1 : Int32))), (6, .int x1), (0, .ref b0), (2, .int v2), (3, .int v3), (4, .int v4)]) dX1_heapUp_121 rfl rfl (by decide) rfl rfl ?_
          refine rr_goto (tgt := 41) dX1_heapUp_124 (by decide) ?_
          exact rr.sub [2, 3, 4, 5, 0] rfl h
        · have h := h.2 hc
          refine rr_aload_n dX1_heapUp_101 rfl 1 rfl rfl ?_
          refine rr_getR dX1_heapUp_102 fX1_40 (bd_lt0 hb0) (bd_0 hb0) rfl rfl ?_
          refine rr_iload dX1_heapUp_105 0 rfl rfl ?_
          refine rr_V [.int x1] [] dX1_heapUp_107 kX0_add mX1_58 ⟨by decide, by decide⟩ (bd_lt hb0 (by decide)) (bd_12 hb0) rfl rfl (Nat.le_of_ble_eq_true rfl) rfl (h.mono fun vr I3 J3 h => ?_)
          obtain ⟨rfl, h⟩ := h
          show rr pgX zX1_heapUp 110 _ [] _ _ _
          refine rr_aload_n dX1_heapUp_110 rfl 1 rfl rfl ?_
          refine rr_getR dX1_heapUp_111 fX1_43 (bd_lt0 hb0) (bd_0 hb0) rfl rfl ?_
          refine rr_iload_n dX1_heapUp_114 rfl 2 rfl rfl ?_
          refine rr_iload dX1_heapUp_115 0 rfl rfl ?_
          refine rr_iast dX1_heapUp_117 (bd_lt hb0 (by decide)) (bd_13 hb0) rfl ⟨h.1, ?_⟩
          refine rr_letI (fun I4 hI4 => ?_)
          have h := h.2 I4 hI4
          refine rr_iinc (k := 2) (v := (v2 + (1 : Int32))) (lv' := [(2, .int (v2 + (1 : Int32))), (6, .int x1), (0, .ref b0), (3, .int v3), (4, .int v4), (5, .int v5)]) dX1_heapUp_118 rfl rfl (by decide) rfl rfl ?_
          refine rr_iinc (k := 5) (v := (v5 + (1 : Int32))) (lv' := [(5, .int (v5 + (1 : Int32))), (2, .int (v2 + (1 : Int32))), (6, .int x1), (0, .ref b0), (3, .int v3), (4, .int v4)]) dX1_heapUp_121 rfl rfl (by decide) rfl rfl ?_
          refine rr_goto (tgt := 41) dX1_heapUp_124 (by decide) ?_
          exact rr.sub [3, 1, 4, 5, 0] rfl h

theorem e_X4_keep {I : tg_I} {J : tg_J} {P : Option Value → tg_I → tg_J → Prop} (b1 : Nat) (hb1 : isBd b1) (h :
  ((I 15 1) < (200 : Int32) →
   vp_in ((I 15 1) * (6 : Int32)) 1200 ∧ ∀ J1, J1 = u2 J 16 (Int32.toNatClampNeg ((I 15 1) * (6 : Int32))) (J (b1 + 9) 0) →
    vp_in (((I 15 1) * (6 : Int32)) + (1 : Int32)) 1200 ∧ ∀ J2, J2 = u2 J1 16 (Int32.toNatClampNeg (((I 15 1) * (6 : Int32)) + (1 : Int32))) (J1 (b1 + 9) 1) →
    vp_in (((I 15 1) * (6 : Int32)) + (2 : Int32)) 1200 ∧ ∀ J3, J3 = u2 J2 16 (Int32.toNatClampNeg (((I 15 1) * (6 : Int32)) + (2 : Int32))) (J2 (b1 + 10) 0) →
    vp_in (((I 15 1) * (6 : Int32)) + (3 : Int32)) 1200 ∧ ∀ J4, J4 = u2 J3 16 (Int32.toNatClampNeg (((I 15 1) * (6 : Int32)) + (3 : Int32))) (J3 (b1 + 10) 1) →
    vp_in (((I 15 1) * (6 : Int32)) + (4 : Int32)) 1200 ∧ ∀ J5, J5 = u2 J4 16 (Int32.toNatClampNeg (((I 15 1) * (6 : Int32)) + (4 : Int32))) (J4 (b1 + 11) 0) →
    vp_in (((I 15 1) * (6 : Int32)) + (5 : Int32)) 1200 ∧ ∀ J6, J6 = u2 J5 16 (Int32.toNatClampNeg (((I 15 1) * (6 : Int32)) + (5 : Int32))) (J5 (b1 + 11) 1) →
    ∀ I1, I1 = u2 I 15 1 ((I 15 1) + (1 : Int32)) →
    P none I1 J6) ∧
  (¬ (I 15 1) < (200 : Int32) →
   P none I J)) : call pgX zX4_keep [.ref 15, .ref b1] I J P := by
  refine call_of (by decide +kernel) (fun _ => Nat.le_of_ble_eq_true rfl) ?_
  show rr pgX zX4_keep 0 [(0, .ref 15), (1, .ref b1)] [] I J P
  refine rr_aload_n dX4_keep_0 rfl 0 rfl rfl ?_
  refine rr_getI dX4_keep_1 fX4_15 (by decide) rfl rfl rfl ?_
  refine rr_sipush (v := (200 : Int32)) dX4_keep_4 (by decide) rfl ?_
  refine rr_icmp_lt (tgt := 11) dX4_keep_7 (by decide) rfl ⟨fun hc => ?_, fun hc => ?_⟩
  · have h := h.1 hc
    refine rr_aload_n dX4_keep_11 rfl 0 rfl rfl ?_
    refine rr_getI dX4_keep_12 fX4_15 (by decide) rfl rfl rfl ?_
    refine rr_bipush (v := (6 : Int32)) dX4_keep_15 (by decide) rfl ?_
    refine rr_imul dX4_keep_17 rfl ?_
    refine rr_istore_n (lv' := [(2, .int ((I 15 1) * (6 : Int32))), (0, .ref 15), (1, .ref b1)]) dX4_keep_18 rfl (by decide) rfl rfl ?_
    refine rr_aload_n dX4_keep_19 rfl 1 rfl rfl ?_
    refine rr_getR dX4_keep_20 fX4_11 (by decide) rfl rfl rfl ?_
    refine rr_iload_n dX4_keep_23 rfl 0 rfl rfl ?_
    refine rr_aload_n dX4_keep_24 rfl 2 rfl rfl ?_
    refine rr_getR dX4_keep_25 fX4_19 (bd_lt0 hb1) (bd_0 hb1) rfl rfl ?_
    refine rr_getJ dX4_keep_28 fX4_25 (bd_lt hb1 (by decide)) (bd_9 hb1) rfl rfl ?_
    refine rr_last dX4_keep_31 (by decide) rfl rfl ⟨h.1, ?_⟩
    refine rr_letJ (fun J1 hJ1 => ?_)
    have h := h.2 J1 hJ1
    refine rr_aload_n dX4_keep_32 rfl 1 rfl rfl ?_
    refine rr_getR dX4_keep_33 fX4_11 (by decide) rfl rfl rfl ?_
    refine rr_iload_n dX4_keep_36 rfl 0 rfl rfl ?_
    refine rr_iconst (v := (1 : Int32)) dX4_keep_37 (by decide) rfl ?_
    refine rr_iadd dX4_keep_38 rfl ?_
    refine rr_aload_n dX4_keep_39 rfl 2 rfl rfl ?_
    refine rr_getR dX4_keep_40 fX4_19 (bd_lt0 hb1) (bd_0 hb1) rfl rfl ?_
    refine rr_getJ dX4_keep_43 fX4_31 (bd_lt hb1 (by decide)) (bd_9 hb1) rfl rfl ?_
    refine rr_last dX4_keep_46 (by decide) rfl rfl ⟨h.1, ?_⟩
    refine rr_letJ (fun J2 hJ2 => ?_)
    have h := h.2 J2 hJ2
    refine rr_aload_n dX4_keep_47 rfl 1 rfl rfl ?_
    refine rr_getR dX4_keep_48 fX4_11 (by decide) rfl rfl rfl ?_
    refine rr_iload_n dX4_keep_51 rfl 0 rfl rfl ?_
    refine rr_iconst (v := (2 : Int32)) dX4_keep_52 (by decide) rfl ?_
    refine rr_iadd dX4_keep_53 rfl ?_
    refine rr_aload_n dX4_keep_54 rfl 2 rfl rfl ?_
    refine rr_getR dX4_keep_55 fX4_34 (bd_lt0 hb1) (bd_0 hb1) rfl rfl ?_
    refine rr_getJ dX4_keep_58 fX4_25 (bd_lt hb1 (by decide)) (bd_10 hb1) rfl rfl ?_
    refine rr_last dX4_keep_61 (by decide) rfl rfl ⟨h.1, ?_⟩
    refine rr_letJ (fun J3 hJ3 => ?_)
    have h := h.2 J3 hJ3
    refine rr_aload_n dX4_keep_62 rfl 1 rfl rfl ?_
    refine rr_getR dX4_keep_63 fX4_11 (by decide) rfl rfl rfl ?_
    refine rr_iload_n dX4_keep_66 rfl 0 rfl rfl ?_
    refine rr_iconst (v := (3 : Int32)) dX4_keep_67 (by decide) rfl ?_
    refine rr_iadd dX4_keep_68 rfl ?_
    refine rr_aload_n dX4_keep_69 rfl 2 rfl rfl ?_
    refine rr_getR dX4_keep_70 fX4_34 (bd_lt0 hb1) (bd_0 hb1) rfl rfl ?_
    refine rr_getJ dX4_keep_73 fX4_31 (bd_lt hb1 (by decide)) (bd_10 hb1) rfl rfl ?_
    refine rr_last dX4_keep_76 (by decide) rfl rfl ⟨h.1, ?_⟩
    refine rr_letJ (fun J4 hJ4 => ?_)
    have h := h.2 J4 hJ4
    refine rr_aload_n dX4_keep_77 rfl 1 rfl rfl ?_
    refine rr_getR dX4_keep_78 fX4_11 (by decide) rfl rfl rfl ?_
    refine rr_iload_n dX4_keep_81 rfl 0 rfl rfl ?_
    refine rr_iconst (v := (4 : Int32)) dX4_keep_82 (by decide) rfl ?_
    refine rr_iadd dX4_keep_83 rfl ?_
    refine rr_aload_n dX4_keep_84 rfl 2 rfl rfl ?_
    refine rr_getR dX4_keep_85 fX4_37 (bd_lt0 hb1) (bd_0 hb1) rfl rfl ?_
    refine rr_getJ dX4_keep_88 fX4_25 (bd_lt hb1 (by decide)) (bd_11 hb1) rfl rfl ?_
    refine rr_last dX4_keep_91 (by decide) rfl rfl ⟨h.1, ?_⟩
    refine rr_letJ (fun J5 hJ5 => ?_)
    have h := h.2 J5 hJ5
    refine rr_aload_n dX4_keep_92 rfl 1 rfl rfl ?_
    refine rr_getR dX4_keep_93 fX4_11 (by decide) rfl rfl rfl ?_
    refine rr_iload_n dX4_keep_96 rfl 0 rfl rfl ?_
    refine rr_iconst (v := (5 : Int32)) dX4_keep_97 (by decide) rfl ?_
    refine rr_iadd dX4_keep_98 rfl ?_
    refine rr_aload_n dX4_keep_99 rfl 2 rfl rfl ?_
    refine rr_getR dX4_keep_100 fX4_37 (bd_lt0 hb1) (bd_0 hb1) rfl rfl ?_
    refine rr_getJ dX4_keep_103 fX4_31 (bd_lt hb1 (by decide)) (bd_11 hb1) rfl rfl ?_
    refine rr_last dX4_keep_106 (by decide) rfl rfl ⟨h.1, ?_⟩
    refine rr_letJ (fun J6 hJ6 => ?_)
    have h := h.2 J6 hJ6
    refine rr_aload_n dX4_keep_107 rfl 1 rfl rfl ?_
    refine rr_dup dX4_keep_108 rfl rfl ?_
    refine rr_getI dX4_keep_109 fX4_15 (by decide) rfl rfl rfl ?_
    refine rr_iconst (v := (1 : Int32)) dX4_keep_112 (by decide) rfl ?_
    refine rr_iadd dX4_keep_113 rfl ?_
    refine rr_putI dX4_keep_114 pX4_15 (by decide) rfl rfl rfl ?_
    refine rr_letI (fun I1 hI1 => ?_)
    have h := h I1 hI1
    exact rr_vret dX4_keep_117 rfl h
  · have h := h.2 hc
    exact rr_vret dX4_keep_10 rfl h

theorem e_X4_takeBack {I : tg_I} {J : tg_J} {P : Option Value → tg_I → tg_J → Prop} (b1 : Nat) (hb1 : isBd b1) (h :
  (0 < (I 15 1) →
   ∀ I1, I1 = u2 I 15 1 ((I 15 1) - (1 : Int32)) →
    vp_in ((I1 15 1) * (6 : Int32)) 1200 ∧
    (∀ J1, J1 = u2 J (b1 + 9) 0 (J 16 (Int32.toNatClampNeg ((I1 15 1) * (6 : Int32)))) →
    vp_in (((I1 15 1) * (6 : Int32)) + (1 : Int32)) 1200 ∧
    (∀ J2, J2 = u2 J1 (b1 + 9) 1 (J1 16 (Int32.toNatClampNeg (((I1 15 1) * (6 : Int32)) + (1 : Int32)))) →
    vp_in (((I1 15 1) * (6 : Int32)) + (2 : Int32)) 1200 ∧
    (∀ J3, J3 = u2 J2 (b1 + 10) 0 (J2 16 (Int32.toNatClampNeg (((I1 15 1) * (6 : Int32)) + (2 : Int32)))) →
    vp_in (((I1 15 1) * (6 : Int32)) + (3 : Int32)) 1200 ∧
    (∀ J4, J4 = u2 J3 (b1 + 10) 1 (J3 16 (Int32.toNatClampNeg (((I1 15 1) * (6 : Int32)) + (3 : Int32)))) →
    vp_in (((I1 15 1) * (6 : Int32)) + (4 : Int32)) 1200 ∧
    (∀ J5, J5 = u2 J4 (b1 + 11) 0 (J4 16 (Int32.toNatClampNeg (((I1 15 1) * (6 : Int32)) + (4 : Int32)))) →
    vp_in (((I1 15 1) * (6 : Int32)) + (5 : Int32)) 1200 ∧
    (∀ J6, J6 = u2 J5 (b1 + 11) 1 (J5 16 (Int32.toNatClampNeg (((I1 15 1) * (6 : Int32)) + (5 : Int32)))) →
    call pgX zX0_copy [.ref (b1 + 8), .ref (b1 + 6)] I1 J6 (fun vr I2 J7 => vr = none ∧
    (call pgX zX0_leave [.ref (b1 + 8), .ref (b1 + 9)] I2 J7 (fun vr I3 J8 => vr = none ∧
    (call pgX zX0_leave [.ref (b1 + 8), .ref (b1 + 10)] I3 J8 (fun vr I4 J9 => vr = none ∧
    (P (some (.int (1 : Int32))) I4 J9))))))))))))) ∧
  (¬ 0 < (I 15 1) →
   P (some (.int (0 : Int32))) I J)) : call pgX zX4_takeBack [.ref 15, .ref b1] I J P := by
  refine call_of (by decide +kernel) (fun _ => Nat.le_of_ble_eq_true rfl) ?_
  show rr pgX zX4_takeBack 0 [(0, .ref 15), (1, .ref b1)] [] I J P
  refine rr_aload_n dX4_takeBack_0 rfl 0 rfl rfl ?_
  refine rr_getI dX4_takeBack_1 fX4_15 (by decide) rfl rfl rfl ?_
  refine rr_if_gt (tgt := 9) dX4_takeBack_4 (by decide) rfl ⟨fun hc => ?_, fun hc => ?_⟩
  · have h := h.1 hc
    refine rr_aload_n dX4_takeBack_9 rfl 0 rfl rfl ?_
    refine rr_dup dX4_takeBack_10 rfl rfl ?_
    refine rr_getI dX4_takeBack_11 fX4_15 (by decide) rfl rfl rfl ?_
    refine rr_iconst (v := (1 : Int32)) dX4_takeBack_14 (by decide) rfl ?_
    refine rr_isub dX4_takeBack_15 rfl ?_
    refine rr_putI dX4_takeBack_16 pX4_15 (by decide) rfl rfl rfl ?_
    refine rr_letI (fun I1 hI1 => ?_)
    have h := h I1 hI1
    refine rr_aload_n dX4_takeBack_19 rfl 0 rfl rfl ?_
    refine rr_getI dX4_takeBack_20 fX4_15 (by decide) rfl rfl rfl ?_
    refine rr_bipush (v := (6 : Int32)) dX4_takeBack_23 (by decide) rfl ?_
    refine rr_imul dX4_takeBack_25 rfl ?_
    refine rr_istore_n (lv' := [(2, .int ((I1 15 1) * (6 : Int32))), (0, .ref 15), (1, .ref b1)]) dX4_takeBack_26 rfl (by decide) rfl rfl ?_
    refine rr_aload_n dX4_takeBack_27 rfl 2 rfl rfl ?_
    refine rr_getR dX4_takeBack_28 fX4_19 (bd_lt0 hb1) (bd_0 hb1) rfl rfl ?_
    refine rr_aload_n dX4_takeBack_31 rfl 1 rfl rfl ?_
    refine rr_getR dX4_takeBack_32 fX4_11 (by decide) rfl rfl rfl ?_
    refine rr_iload_n dX4_takeBack_35 rfl 0 rfl rfl ?_
    refine rr_lald dX4_takeBack_36 (by decide) rfl rfl ⟨h.1, ?_⟩
    have h := h.2
    refine rr_putJ dX4_takeBack_37 pX4_25 (bd_lt hb1 (by decide)) (bd_9 hb1) rfl rfl ?_
    refine rr_letJ (fun J1 hJ1 => ?_)
    have h := h J1 hJ1
    refine rr_aload_n dX4_takeBack_40 rfl 2 rfl rfl ?_
    refine rr_getR dX4_takeBack_41 fX4_19 (bd_lt0 hb1) (bd_0 hb1) rfl rfl ?_
    refine rr_aload_n dX4_takeBack_44 rfl 1 rfl rfl ?_
    refine rr_getR dX4_takeBack_45 fX4_11 (by decide) rfl rfl rfl ?_
    refine rr_iload_n dX4_takeBack_48 rfl 0 rfl rfl ?_
    refine rr_iconst (v := (1 : Int32)) dX4_takeBack_49 (by decide) rfl ?_
    refine rr_iadd dX4_takeBack_50 rfl ?_
    refine rr_lald dX4_takeBack_51 (by decide) rfl rfl ⟨h.1, ?_⟩
    have h := h.2
    refine rr_putJ dX4_takeBack_52 pX4_31 (bd_lt hb1 (by decide)) (bd_9 hb1) rfl rfl ?_
    refine rr_letJ (fun J2 hJ2 => ?_)
    have h := h J2 hJ2
    refine rr_aload_n dX4_takeBack_55 rfl 2 rfl rfl ?_
    refine rr_getR dX4_takeBack_56 fX4_34 (bd_lt0 hb1) (bd_0 hb1) rfl rfl ?_
    refine rr_aload_n dX4_takeBack_59 rfl 1 rfl rfl ?_
    refine rr_getR dX4_takeBack_60 fX4_11 (by decide) rfl rfl rfl ?_
    refine rr_iload_n dX4_takeBack_63 rfl 0 rfl rfl ?_
    refine rr_iconst (v := (2 : Int32)) dX4_takeBack_64 (by decide) rfl ?_
    refine rr_iadd dX4_takeBack_65 rfl ?_
    refine rr_lald dX4_takeBack_66 (by decide) rfl rfl ⟨h.1, ?_⟩
    have h := h.2
    refine rr_putJ dX4_takeBack_67 pX4_25 (bd_lt hb1 (by decide)) (bd_10 hb1) rfl rfl ?_
    refine rr_letJ (fun J3 hJ3 => ?_)
    have h := h J3 hJ3
    refine rr_aload_n dX4_takeBack_70 rfl 2 rfl rfl ?_
    refine rr_getR dX4_takeBack_71 fX4_34 (bd_lt0 hb1) (bd_0 hb1) rfl rfl ?_
    refine rr_aload_n dX4_takeBack_74 rfl 1 rfl rfl ?_
    refine rr_getR dX4_takeBack_75 fX4_11 (by decide) rfl rfl rfl ?_
    refine rr_iload_n dX4_takeBack_78 rfl 0 rfl rfl ?_
    refine rr_iconst (v := (3 : Int32)) dX4_takeBack_79 (by decide) rfl ?_
    refine rr_iadd dX4_takeBack_80 rfl ?_
    refine rr_lald dX4_takeBack_81 (by decide) rfl rfl ⟨h.1, ?_⟩
    have h := h.2
    refine rr_putJ dX4_takeBack_82 pX4_31 (bd_lt hb1 (by decide)) (bd_10 hb1) rfl rfl ?_
    refine rr_letJ (fun J4 hJ4 => ?_)
    have h := h J4 hJ4
    refine rr_aload_n dX4_takeBack_85 rfl 2 rfl rfl ?_
    refine rr_getR dX4_takeBack_86 fX4_37 (bd_lt0 hb1) (bd_0 hb1) rfl rfl ?_
    refine rr_aload_n dX4_takeBack_89 rfl 1 rfl rfl ?_
    refine rr_getR dX4_takeBack_90 fX4_11 (by decide) rfl rfl rfl ?_
    refine rr_iload_n dX4_takeBack_93 rfl 0 rfl rfl ?_
    refine rr_iconst (v := (4 : Int32)) dX4_takeBack_94 (by decide) rfl ?_
    refine rr_iadd dX4_takeBack_95 rfl ?_
    refine rr_lald dX4_takeBack_96 (by decide) rfl rfl ⟨h.1, ?_⟩
    have h := h.2
    refine rr_putJ dX4_takeBack_97 pX4_25 (bd_lt hb1 (by decide)) (bd_11 hb1) rfl rfl ?_
    refine rr_letJ (fun J5 hJ5 => ?_)
    have h := h J5 hJ5
    refine rr_aload_n dX4_takeBack_100 rfl 2 rfl rfl ?_
    refine rr_getR dX4_takeBack_101 fX4_37 (bd_lt0 hb1) (bd_0 hb1) rfl rfl ?_
    refine rr_aload_n dX4_takeBack_104 rfl 1 rfl rfl ?_
    refine rr_getR dX4_takeBack_105 fX4_11 (by decide) rfl rfl rfl ?_
    refine rr_iload_n dX4_takeBack_108 rfl 0 rfl rfl ?_
    refine rr_iconst (v := (5 : Int32)) dX4_takeBack_109 (by decide) rfl ?_
    refine rr_iadd dX4_takeBack_110 rfl ?_
    refine rr_lald dX4_takeBack_111 (by decide) rfl rfl ⟨h.1, ?_⟩
    have h := h.2
    refine rr_putJ dX4_takeBack_112 pX4_31 (bd_lt hb1 (by decide)) (bd_11 hb1) rfl rfl ?_
    refine rr_letJ (fun J6 hJ6 => ?_)
    have h := h J6 hJ6
    refine rr_aload_n dX4_takeBack_115 rfl 2 rfl rfl ?_
    refine rr_getR dX4_takeBack_116 fX4_40 (bd_lt0 hb1) (bd_0 hb1) rfl rfl ?_
    refine rr_aload_n dX4_takeBack_119 rfl 2 rfl rfl ?_
    refine rr_getR dX4_takeBack_120 fX4_43 (bd_lt0 hb1) (bd_0 hb1) rfl rfl ?_
    refine rr_V [.ref (b1 + 6)] [] dX4_takeBack_123 kX0_copy mX4_46 ⟨by decide, by decide⟩ (bd_lt hb1 (by decide)) (bd_8 hb1) rfl rfl (Nat.le_of_ble_eq_true rfl) rfl (h.mono fun vr I2 J7 h => ?_)
    obtain ⟨rfl, h⟩ := h
    show rr pgX zX4_takeBack 126 _ [] _ _ _
    refine rr_aload_n dX4_takeBack_126 rfl 2 rfl rfl ?_
    refine rr_getR dX4_takeBack_127 fX4_40 (bd_lt0 hb1) (bd_0 hb1) rfl rfl ?_
    refine rr_aload_n dX4_takeBack_130 rfl 2 rfl rfl ?_
    refine rr_getR dX4_takeBack_131 fX4_19 (bd_lt0 hb1) (bd_0 hb1) rfl rfl ?_
    refine rr_V [.ref (b1 + 9)] [] dX4_takeBack_134 kX0_leave mX4_50 ⟨by decide, by decide⟩ (bd_lt hb1 (by decide)) (bd_8 hb1) rfl rfl (Nat.le_of_ble_eq_true rfl) rfl (h.mono fun vr I3 J8 h => ?_)
    obtain ⟨rfl, h⟩ := h
    show rr pgX zX4_takeBack 137 _ [] _ _ _
    refine rr_aload_n dX4_takeBack_137 rfl 2 rfl rfl ?_
    refine rr_getR dX4_takeBack_138 fX4_40 (bd_lt0 hb1) (bd_0 hb1) rfl rfl ?_
    refine rr_aload_n dX4_takeBack_141 rfl 2 rfl rfl ?_
    refine rr_getR dX4_takeBack_142 fX4_34 (bd_lt0 hb1) (bd_0 hb1) rfl rfl ?_
    refine rr_V [.ref (b1 + 10)] [] dX4_takeBack_145 kX0_leave mX4_50 ⟨by decide, by decide⟩ (bd_lt hb1 (by decide)) (bd_8 hb1) rfl rfl (Nat.le_of_ble_eq_true rfl) rfl (h.mono fun vr I4 J9 h => ?_)
    obtain ⟨rfl, h⟩ := h
    show rr pgX zX4_takeBack 148 _ [] _ _ _
    refine rr_iconst (v := (1 : Int32)) dX4_takeBack_148 (by decide) rfl ?_
    exact rr_zret dX4_takeBack_149 rfl rfl h
  · have h := h.2 hc
    refine rr_iconst (v := (0 : Int32)) dX4_takeBack_7 (by decide) rfl ?_
    exact rr_zret dX4_takeBack_8 rfl rfl h

theorem e_X7_clear {I : tg_I} {J : tg_J} {P : Option Value → tg_I → tg_J → Prop} (h :
  ∀ I1, I1 = u2 I 20 7 (0 : Int32) →
  P none I1 J) : call pgX zX7_clear [.ref 20] I J P := by
  refine call_of (by decide +kernel) (fun _ => Nat.le_of_ble_eq_true rfl) ?_
  show rr pgX zX7_clear 0 [(0, .ref 20)] [] I J P
  refine rr_aload_n dX7_clear_0 rfl 0 rfl rfl ?_
  refine rr_iconst (v := (0 : Int32)) dX7_clear_1 (by decide) rfl ?_
  refine rr_putI dX7_clear_2 pX7_33 (by decide) rfl rfl rfl ?_
  refine rr_letI (fun I1 hI1 => ?_)
  have h := h I1 hI1
  exact rr_vret dX7_clear_5 rfl h

theorem e_X7_push {I : tg_I} {J : tg_J} {P : Option Value → tg_I → tg_J → Prop} (v1 : Int32) (h :
  ((I 20 7) < (14 : Int32) →
   vp_in (I 20 7) 14 ∧ ∀ I1, I1 = u2 I 21 (Int32.toNatClampNeg (I 20 7)) v1 →
    ∀ I2, I2 = u2 I1 20 7 ((I1 20 7) + (1 : Int32)) →
    P (some (.int (1 : Int32))) I2 J) ∧
  (¬ (I 20 7) < (14 : Int32) →
   P (some (.int (0 : Int32))) I J)) : call pgX zX7_push [.ref 20, .int v1] I J P := by
  refine call_of (by decide +kernel) (fun _ => Nat.le_of_ble_eq_true rfl) ?_
  show rr pgX zX7_push 0 [(0, .ref 20), (1, .int v1)] [] I J P
  refine rr_aload_n dX7_push_0 rfl 0 rfl rfl ?_
  refine rr_getI dX7_push_1 fX7_33 (by decide) rfl rfl rfl ?_
  refine rr_bipush (v := (14 : Int32)) dX7_push_4 (by decide) rfl ?_
  refine rr_icmp_lt (tgt := 11) dX7_push_6 (by decide) rfl ⟨fun hc => ?_, fun hc => ?_⟩
  · have h := h.1 hc
    refine rr_aload_n dX7_push_11 rfl 0 rfl rfl ?_
    refine rr_getR dX7_push_12 fX7_9 (by decide) rfl rfl rfl ?_
    refine rr_aload_n dX7_push_15 rfl 0 rfl rfl ?_
    refine rr_getI dX7_push_16 fX7_33 (by decide) rfl rfl rfl ?_
    refine rr_iload_n dX7_push_19 rfl 1 rfl rfl ?_
    refine rr_iast dX7_push_20 (by decide) rfl rfl ⟨h.1, ?_⟩
    refine rr_letI (fun I1 hI1 => ?_)
    have h := h.2 I1 hI1
    refine rr_aload_n dX7_push_21 rfl 0 rfl rfl ?_
    refine rr_dup dX7_push_22 rfl rfl ?_
    refine rr_getI dX7_push_23 fX7_33 (by decide) rfl rfl rfl ?_
    refine rr_iconst (v := (1 : Int32)) dX7_push_26 (by decide) rfl ?_
    refine rr_iadd dX7_push_27 rfl ?_
    refine rr_putI dX7_push_28 pX7_33 (by decide) rfl rfl rfl ?_
    refine rr_letI (fun I2 hI2 => ?_)
    have h := h I2 hI2
    refine rr_iconst (v := (1 : Int32)) dX7_push_31 (by decide) rfl ?_
    exact rr_zret dX7_push_32 rfl rfl h
  · have h := h.2 hc
    refine rr_iconst (v := (0 : Int32)) dX7_push_9 (by decide) rfl ?_
    exact rr_zret dX7_push_10 rfl rfl h

theorem e_X7_size {I : tg_I} {J : tg_J} {P : Option Value → tg_I → tg_J → Prop} (h :
  P (some (.int (I 20 7))) I J) : call pgX zX7_size [.ref 20] I J P := by
  refine call_of (by decide +kernel) (fun _ => Nat.le_of_ble_eq_true rfl) ?_
  show rr pgX zX7_size 0 [(0, .ref 20)] [] I J P
  refine rr_aload_n dX7_size_0 rfl 0 rfl rfl ?_
  refine rr_getI dX7_size_1 fX7_33 (by decide) rfl rfl rfl ?_
  exact rr_iret dX7_size_4 rfl h

theorem e_X7_found {I : tg_I} {J : tg_J} {P : Option Value → tg_I → tg_J → Prop} (v1 : Int32) (h :
  (v1 < 0 →
   P (some (.int (0 : Int32))) I J) ∧
  (¬ v1 < 0 →
   ((I 20 7) < v1 →
     P (some (.int (0 : Int32))) I J) ∧
    (¬ (I 20 7) < v1 →
     vp_in v1 15 ∧
      (P (some (.int (I 26 (Int32.toNatClampNeg v1)))) I J)))) : call pgX zX7_found [.ref 20, .int v1] I J P := by
  refine call_of (by decide +kernel) (fun _ => Nat.le_of_ble_eq_true rfl) ?_
  show rr pgX zX7_found 0 [(0, .ref 20), (1, .int v1)] [] I J P
  refine rr_iload_n dX7_found_0 rfl 1 rfl rfl ?_
  refine rr_if_lt (tgt := 21) dX7_found_1 (by decide) rfl ⟨fun hc => ?_, fun hc => ?_⟩
  · have h := h.1 hc
    refine rr_iconst (v := (0 : Int32)) dX7_found_21 (by decide) rfl ?_
    exact rr_iret dX7_found_22 rfl h
  · have h := h.2 hc
    refine rr_iload_n dX7_found_4 rfl 1 rfl rfl ?_
    refine rr_aload_n dX7_found_5 rfl 0 rfl rfl ?_
    refine rr_getI dX7_found_6 fX7_33 (by decide) rfl rfl rfl ?_
    refine rr_icmp_gt (tgt := 21) dX7_found_9 (by decide) rfl ⟨fun hc => ?_, fun hc => ?_⟩
    · have h := h.1 hc
      refine rr_iconst (v := (0 : Int32)) dX7_found_21 (by decide) rfl ?_
      exact rr_iret dX7_found_22 rfl h
    · have h := h.2 hc
      refine rr_aload_n dX7_found_12 rfl 0 rfl rfl ?_
      refine rr_getR dX7_found_13 fX7_27 (by decide) rfl rfl rfl ?_
      refine rr_iload_n dX7_found_16 rfl 1 rfl rfl ?_
      refine rr_iald dX7_found_17 (by decide) rfl rfl ⟨h.1, ?_⟩
      have h := h.2
      refine rr_goto (tgt := 22) dX7_found_18 (by decide) ?_
      exact rr_iret dX7_found_22 rfl h

theorem e_X7_foundHolding {I : tg_I} {J : tg_J} {P : Option Value → tg_I → tg_J → Prop} (v1 : Int32) (v2 : Int32) (h :
  (v1 < 0 →
   P (some (.int (0 : Int32))) I J) ∧
  (¬ v1 < 0 →
   ((I 20 7) ≤ v1 →
     P (some (.int (0 : Int32))) I J) ∧
    (¬ (I 20 7) ≤ v1 →
     (v2 < 0 →
       P (some (.int (0 : Int32))) I J) ∧
      (¬ v2 < 0 →
       ((I 20 7) < v2 →
         P (some (.int (0 : Int32))) I J) ∧
        (¬ (I 20 7) < v2 →
         vp_in ((v1 * (15 : Int32)) + v2) 210 ∧
          (P (some (.int (I 27 (Int32.toNatClampNeg ((v1 * (15 : Int32)) + v2))))) I J)))))) : call pgX zX7_foundHolding [.ref 20, .int v1, .int v2] I J P := by
  refine call_of (by decide +kernel) (fun _ => Nat.le_of_ble_eq_true rfl) ?_
  show rr pgX zX7_foundHolding 0 [(0, .ref 20), (1, .int v1), (2, .int v2)] [] I J P
  refine rr_iload_n dX7_foundHolding_0 rfl 1 rfl rfl ?_
  refine rr_if_lt (tgt := 28) dX7_foundHolding_1 (by decide) rfl ⟨fun hc => ?_, fun hc => ?_⟩
  · have h := h.1 hc
    refine rr_iconst (v := (0 : Int32)) dX7_foundHolding_28 (by decide) rfl ?_
    refine rr_istore_n (lv' := [(3, .int (0 : Int32)), (0, .ref 20), (1, .int v1), (2, .int v2)]) dX7_foundHolding_29 rfl (by decide) rfl rfl ?_
    refine rr_iload_n dX7_foundHolding_30 rfl 0 rfl rfl ?_
    refine rr_if_eq (tgt := 48) dX7_foundHolding_31 (by decide) rfl ⟨fun _ => ?_, fun hc => absurd hc (by decide)⟩
    refine rr_iconst (v := (0 : Int32)) dX7_foundHolding_48 (by decide) rfl ?_
    exact rr_iret dX7_foundHolding_49 rfl h
  · have h := h.2 hc
    refine rr_iload_n dX7_foundHolding_4 rfl 1 rfl rfl ?_
    refine rr_aload_n dX7_foundHolding_5 rfl 0 rfl rfl ?_
    refine rr_getI dX7_foundHolding_6 fX7_33 (by decide) rfl rfl rfl ?_
    refine rr_icmp_ge (tgt := 28) dX7_foundHolding_9 (by decide) rfl ⟨fun hc => ?_, fun hc => ?_⟩
    · have h := h.1 hc
      refine rr_iconst (v := (0 : Int32)) dX7_foundHolding_28 (by decide) rfl ?_
      refine rr_istore_n (lv' := [(3, .int (0 : Int32)), (0, .ref 20), (1, .int v1), (2, .int v2)]) dX7_foundHolding_29 rfl (by decide) rfl rfl ?_
      refine rr_iload_n dX7_foundHolding_30 rfl 0 rfl rfl ?_
      refine rr_if_eq (tgt := 48) dX7_foundHolding_31 (by decide) rfl ⟨fun _ => ?_, fun hc => absurd hc (by decide)⟩
      refine rr_iconst (v := (0 : Int32)) dX7_foundHolding_48 (by decide) rfl ?_
      exact rr_iret dX7_foundHolding_49 rfl h
    · have h := h.2 hc
      refine rr_iload_n dX7_foundHolding_12 rfl 2 rfl rfl ?_
      refine rr_if_lt (tgt := 28) dX7_foundHolding_13 (by decide) rfl ⟨fun hc => ?_, fun hc => ?_⟩
      · have h := h.1 hc
        refine rr_iconst (v := (0 : Int32)) dX7_foundHolding_28 (by decide) rfl ?_
        refine rr_istore_n (lv' := [(3, .int (0 : Int32)), (0, .ref 20), (1, .int v1), (2, .int v2)]) dX7_foundHolding_29 rfl (by decide) rfl rfl ?_
        refine rr_iload_n dX7_foundHolding_30 rfl 0 rfl rfl ?_
        refine rr_if_eq (tgt := 48) dX7_foundHolding_31 (by decide) rfl ⟨fun _ => ?_, fun hc => absurd hc (by decide)⟩
        refine rr_iconst (v := (0 : Int32)) dX7_foundHolding_48 (by decide) rfl ?_
        exact rr_iret dX7_foundHolding_49 rfl h
      · have h := h.2 hc
        refine rr_iload_n dX7_foundHolding_16 rfl 2 rfl rfl ?_
        refine rr_aload_n dX7_foundHolding_17 rfl 0 rfl rfl ?_
        refine rr_getI dX7_foundHolding_18 fX7_33 (by decide) rfl rfl rfl ?_
        refine rr_icmp_gt (tgt := 28) dX7_foundHolding_21 (by decide) rfl ⟨fun hc => ?_, fun hc => ?_⟩
        · have h := h.1 hc
          refine rr_iconst (v := (0 : Int32)) dX7_foundHolding_28 (by decide) rfl ?_
          refine rr_istore_n (lv' := [(3, .int (0 : Int32)), (0, .ref 20), (1, .int v1), (2, .int v2)]) dX7_foundHolding_29 rfl (by decide) rfl rfl ?_
          refine rr_iload_n dX7_foundHolding_30 rfl 0 rfl rfl ?_
          refine rr_if_eq (tgt := 48) dX7_foundHolding_31 (by decide) rfl ⟨fun _ => ?_, fun hc => absurd hc (by decide)⟩
          refine rr_iconst (v := (0 : Int32)) dX7_foundHolding_48 (by decide) rfl ?_
          exact rr_iret dX7_foundHolding_49 rfl h
        · have h := h.2 hc
          refine rr_iconst (v := (1 : Int32)) dX7_foundHolding_24 (by decide) rfl ?_
          refine rr_goto (tgt := 29) dX7_foundHolding_25 (by decide) ?_
          refine rr_istore_n (lv' := [(3, .int (1 : Int32)), (0, .ref 20), (1, .int v1), (2, .int v2)]) dX7_foundHolding_29 rfl (by decide) rfl rfl ?_
          refine rr_iload_n dX7_foundHolding_30 rfl 0 rfl rfl ?_
          refine rr_if_eq (tgt := 48) dX7_foundHolding_31 (by decide) rfl ⟨fun hc => absurd hc (by decide), fun _ => ?_⟩
          refine rr_aload_n dX7_foundHolding_34 rfl 1 rfl rfl ?_
          refine rr_getR dX7_foundHolding_35 fX7_30 (by decide) rfl rfl rfl ?_
          refine rr_iload_n dX7_foundHolding_38 rfl 2 rfl rfl ?_
          refine rr_bipush (v := (15 : Int32)) dX7_foundHolding_39 (by decide) rfl ?_
          refine rr_imul dX7_foundHolding_41 rfl ?_
          refine rr_iload_n dX7_foundHolding_42 rfl 3 rfl rfl ?_
          refine rr_iadd dX7_foundHolding_43 rfl ?_
          refine rr_iald dX7_foundHolding_44 (by decide) rfl rfl ⟨h.1, ?_⟩
          have h := h.2
          refine rr_goto (tgt := 49) dX7_foundHolding_45 (by decide) ?_
          exact rr_iret dX7_foundHolding_49 rfl h

def l_X7_bind_8 (I : tg_I) (J : tg_J) (P : Option Value → tg_I → tg_J → Prop) (b1 : Nat) (k2 : Nat) (v4 : Int32) : Prop := rr pgX zX7_bind 8 [(0, .ref 20), (1, .ref b1), (2, .ref k2), (3, .ref (b1 + 1)), (4, .int v4)] [] I J P
def l_X7_bind_80 (I : tg_I) (J : tg_J) (P : Option Value → tg_I → tg_J → Prop) (b1 : Nat) (k2 : Nat) (v4 : Int32) : Prop := rr pgX zX7_bind 80 [(0, .ref 20), (1, .ref b1), (2, .ref k2), (3, .ref (b1 + 1)), (4, .int v4)] [] I J P
def l_X7_bind_32 (I : tg_I) (J : tg_J) (P : Option Value → tg_I → tg_J → Prop) (b1 : Nat) (k2 : Nat) (v4 : Int32) (v5 : Int32) (v6 : Int32) : Prop := rr pgX zX7_bind 32 [(0, .ref 20), (1, .ref b1), (2, .ref k2), (3, .ref (b1 + 1)), (4, .int v4), (5, .int v5), (6, .int v6)] [] I J P
def l_X7_bind_107 (I : tg_I) (J : tg_J) (P : Option Value → tg_I → tg_J → Prop) (b1 : Nat) (k2 : Nat) (v4 : Int32) (v5 : Int32) (v6 : Int32) (v7 : Int32) : Prop := rr pgX zX7_bind 107 [(0, .ref 20), (1, .ref b1), (2, .ref k2), (3, .ref (b1 + 1)), (4, .int v4), (5, .int v5), (6, .int v6), (7, .int v7)] [] I J P
theorem e_X7_bind {I : tg_I} {J : tg_J} {P : Option Value → tg_I → tg_J → Prop} (b1 : Nat) (k2 : Nat) (hb1 : isBd b1) (hk2 : isBits k2) (h :
  l_X7_bind_8 I J P b1 k2 ((0 : Int32))) : call pgX zX7_bind [.ref 20, .ref b1, .ref k2] I J P := by
  refine call_of (by decide +kernel) (fun _ => Nat.le_of_ble_eq_true rfl) ?_
  show rr pgX zX7_bind 0 [(0, .ref 20), (1, .ref b1), (2, .ref k2)] [] I J P
  refine rr_aload_n dX7_bind_0 rfl 1 rfl rfl ?_
  refine rr_getR dX7_bind_1 fX7_37 (bd_lt0 hb1) (bd_0 hb1) rfl rfl ?_
  refine rr_astore_n (lv' := [(3, .ref (b1 + 1)), (0, .ref 20), (1, .ref b1), (2, .ref k2)]) dX7_bind_4 rfl (by decide) rfl rfl ?_
  refine rr_iconst (v := (0 : Int32)) dX7_bind_5 (by decide) rfl ?_
  refine rr_istore (lv' := [(4, .int (0 : Int32)), (3, .ref (b1 + 1)), (0, .ref 20), (1, .ref b1), (2, .ref k2)]) dX7_bind_6 (by decide) rfl rfl ?_
  exact rr.sub [2, 3, 4, 1, 0] rfl h
theorem s_X7_bind_8 {I : tg_I} {J : tg_J} {P : Option Value → tg_I → tg_J → Prop} (b1 : Nat) (k2 : Nat) (v4 : Int32) (hb1 : isBd b1) (hk2 : isBits k2) (h :
  ((I 20 7) ≤ v4 →
   l_X7_bind_80 I J P b1 k2 ((0 : Int32))) ∧
  (¬ (I 20 7) ≤ v4 →
   vp_in v4 14 ∧
    (∀ x1, x1 = ((I 21 (Int32.toNatClampNeg v4)) * (8 : Int32)) →
    l_X7_bind_32 I J P b1 k2 v4 x1 ((0 : Int32))))) : l_X7_bind_8 I J P b1 k2 v4 := by
  show rr pgX zX7_bind 8 [(0, .ref 20), (1, .ref b1), (2, .ref k2), (3, .ref (b1 + 1)), (4, .int v4)] [] I J P
  refine rr_iload dX7_bind_8 4 rfl rfl ?_
  refine rr_aload_n dX7_bind_10 rfl 0 rfl rfl ?_
  refine rr_getI dX7_bind_11 fX7_33 (by decide) rfl rfl rfl ?_
  refine rr_icmp_ge (tgt := 77) dX7_bind_14 (by decide) rfl ⟨fun hc => ?_, fun hc => ?_⟩
  · have h := h.1 hc
    refine rr_iconst (v := (0 : Int32)) dX7_bind_77 (by decide) rfl ?_
    refine rr_istore (lv' := [(4, .int (0 : Int32)), (0, .ref 20), (1, .ref b1), (2, .ref k2), (3, .ref (b1 + 1))]) dX7_bind_78 (by decide) rfl rfl ?_
    exact rr.sub [1, 2, 3, 4, 0] rfl h
  · have h := h.2 hc
    refine rr_aload_n dX7_bind_17 rfl 0 rfl rfl ?_
    refine rr_getR dX7_bind_18 fX7_9 (by decide) rfl rfl rfl ?_
    refine rr_iload dX7_bind_21 4 rfl rfl ?_
    refine rr_iald dX7_bind_23 (by decide) rfl rfl ⟨h.1, ?_⟩
    have h := h.2
    refine rr_bipush (v := (8 : Int32)) dX7_bind_24 (by decide) rfl ?_
    refine rr_imul dX7_bind_26 rfl ?_
    refine rr_letTi (fun x1 hx1 => ?_)
    have h := h x1 hx1
    refine rr_istore (lv' := [(5, .int x1), (0, .ref 20), (1, .ref b1), (2, .ref k2), (3, .ref (b1 + 1)), (4, .int v4)]) dX7_bind_27 (by decide) rfl rfl ?_
    refine rr_iconst (v := (0 : Int32)) dX7_bind_29 (by decide) rfl ?_
    refine rr_istore (lv' := [(6, .int (0 : Int32)), (5, .int x1), (0, .ref 20), (1, .ref b1), (2, .ref k2), (3, .ref (b1 + 1)), (4, .int v4)]) dX7_bind_30 (by decide) rfl rfl ?_
    exact rr.sub [2, 3, 4, 5, 6, 1, 0] rfl h
theorem s_X7_bind_80 {I : tg_I} {J : tg_J} {P : Option Value → tg_I → tg_J → Prop} (b1 : Nat) (k2 : Nat) (v4 : Int32) (hb1 : isBd b1) (hk2 : isBits k2) (h :
  ((I 20 7) ≤ v4 →
   P none I J) ∧
  (¬ (I 20 7) ≤ v4 →
   vp_in v4 14 ∧
    (∀ x1, x1 = ((I 21 (Int32.toNatClampNeg v4)) * (8 : Int32)) →
    l_X7_bind_107 I J P b1 k2 v4 x1 ((0 : Int32)) ((0 : Int32))))) : l_X7_bind_80 I J P b1 k2 v4 := by
  show rr pgX zX7_bind 80 [(0, .ref 20), (1, .ref b1), (2, .ref k2), (3, .ref (b1 + 1)), (4, .int v4)] [] I J P
  refine rr_iload dX7_bind_80 4 rfl rfl ?_
  refine rr_aload_n dX7_bind_82 rfl 0 rfl rfl ?_
  refine rr_getI dX7_bind_83 fX7_33 (by decide) rfl rfl rfl ?_
  refine rr_icmp_ge (tgt := 215) dX7_bind_86 (by decide) rfl ⟨fun hc => ?_, fun hc => ?_⟩
  · have h := h.1 hc
    exact rr_vret dX7_bind_215 rfl h
  · have h := h.2 hc
    refine rr_aload_n dX7_bind_89 rfl 0 rfl rfl ?_
    refine rr_getR dX7_bind_90 fX7_9 (by decide) rfl rfl rfl ?_
    refine rr_iload dX7_bind_93 4 rfl rfl ?_
    refine rr_iald dX7_bind_95 (by decide) rfl rfl ⟨h.1, ?_⟩
    have h := h.2
    refine rr_bipush (v := (8 : Int32)) dX7_bind_96 (by decide) rfl ?_
    refine rr_imul dX7_bind_98 rfl ?_
    refine rr_letTi (fun x1 hx1 => ?_)
    have h := h x1 hx1
    refine rr_istore (lv' := [(5, .int x1), (0, .ref 20), (1, .ref b1), (2, .ref k2), (3, .ref (b1 + 1)), (4, .int v4)]) dX7_bind_99 (by decide) rfl rfl ?_
    refine rr_iconst (v := (0 : Int32)) dX7_bind_101 (by decide) rfl ?_
    refine rr_istore (lv' := [(6, .int (0 : Int32)), (5, .int x1), (0, .ref 20), (1, .ref b1), (2, .ref k2), (3, .ref (b1 + 1)), (4, .int v4)]) dX7_bind_102 (by decide) rfl rfl ?_
    refine rr_iconst (v := (0 : Int32)) dX7_bind_104 (by decide) rfl ?_
    refine rr_istore (lv' := [(7, .int (0 : Int32)), (6, .int (0 : Int32)), (5, .int x1), (0, .ref 20), (1, .ref b1), (2, .ref k2), (3, .ref (b1 + 1)), (4, .int v4)]) dX7_bind_105 (by decide) rfl rfl ?_
    exact rr.sub [3, 4, 5, 6, 7, 2, 1, 0] rfl h
theorem s_X7_bind_32 {I : tg_I} {J : tg_J} {P : Option Value → tg_I → tg_J → Prop} (b1 : Nat) (k2 : Nat) (v4 : Int32) (v5 : Int32) (v6 : Int32) (hb1 : isBd b1) (hk2 : isBits k2) (h :
  vp_in v4 14 ∧
  (vp_in (I 21 (Int32.toNatClampNeg v4)) 100 ∧
  (((I (b1 + 5) (Int32.toNatClampNeg (I 21 (Int32.toNatClampNeg v4)))) ≤ v6 →
   l_X7_bind_8 I J P b1 k2 ((v4 + (1 : Int32)))) ∧
  (¬ (I (b1 + 5) (Int32.toNatClampNeg (I 21 (Int32.toNatClampNeg v4)))) ≤ v6 →
   vp_in (v5 + v6) 800 ∧
    (vp_in (I (b1 + 4) (Int32.toNatClampNeg (v5 + v6))) 100 ∧ ∀ I1, I1 = u2 I 24 (Int32.toNatClampNeg (I (b1 + 4) (Int32.toNatClampNeg (v5 + v6)))) (0 : Int32) →
    l_X7_bind_32 I1 J P b1 k2 v4 v5 ((v6 + (1 : Int32)))))))) : l_X7_bind_32 I J P b1 k2 v4 v5 v6 := by
  show rr pgX zX7_bind 32 [(0, .ref 20), (1, .ref b1), (2, .ref k2), (3, .ref (b1 + 1)), (4, .int v4), (5, .int v5), (6, .int v6)] [] I J P
  refine rr_iload dX7_bind_32 6 rfl rfl ?_
  refine rr_aload_n dX7_bind_34 rfl 3 rfl rfl ?_
  refine rr_getR dX7_bind_35 fX7_43 (bd_lt hb1 (by decide)) (bd_1 hb1) rfl rfl ?_
  refine rr_aload_n dX7_bind_38 rfl 0 rfl rfl ?_
  refine rr_getR dX7_bind_39 fX7_9 (by decide) rfl rfl rfl ?_
  refine rr_iload dX7_bind_42 4 rfl rfl ?_
  refine rr_iald dX7_bind_44 (by decide) rfl rfl ⟨h.1, ?_⟩
  have h := h.2
  refine rr_iald dX7_bind_45 (bd_lt hb1 (by decide)) (bd_5 hb1) rfl ⟨h.1, ?_⟩
  have h := h.2
  refine rr_icmp_ge (tgt := 71) dX7_bind_46 (by decide) rfl ⟨fun hc => ?_, fun hc => ?_⟩
  · have h := h.1 hc
    refine rr_iinc (k := 4) (v := (v4 + (1 : Int32))) (lv' := [(4, .int (v4 + (1 : Int32))), (0, .ref 20), (1, .ref b1), (2, .ref k2), (3, .ref (b1 + 1)), (5, .int v5), (6, .int v6)]) dX7_bind_71 rfl rfl (by decide) rfl rfl ?_
    refine rr_goto (tgt := 8) dX7_bind_74 (by decide) ?_
    exact rr.sub [1, 2, 3, 4, 0] rfl h
  · have h := h.2 hc
    refine rr_aload_n dX7_bind_49 rfl 0 rfl rfl ?_
    refine rr_getR dX7_bind_50 fX7_21 (by decide) rfl rfl rfl ?_
    refine rr_aload_n dX7_bind_53 rfl 3 rfl rfl ?_
    refine rr_getR dX7_bind_54 fX7_48 (bd_lt hb1 (by decide)) (bd_1 hb1) rfl rfl ?_
    refine rr_iload dX7_bind_57 5 rfl rfl ?_
    refine rr_iload dX7_bind_59 6 rfl rfl ?_
    refine rr_iadd dX7_bind_61 rfl ?_
    refine rr_iald dX7_bind_62 (bd_lt hb1 (by decide)) (bd_4 hb1) rfl ⟨h.1, ?_⟩
    have h := h.2
    refine rr_iconst (v := (0 : Int32)) dX7_bind_63 (by decide) rfl ?_
    refine rr_iast dX7_bind_64 (by decide) rfl rfl ⟨h.1, ?_⟩
    refine rr_letI (fun I1 hI1 => ?_)
    have h := h.2 I1 hI1
    refine rr_iinc (k := 6) (v := (v6 + (1 : Int32))) (lv' := [(6, .int (v6 + (1 : Int32))), (0, .ref 20), (1, .ref b1), (2, .ref k2), (3, .ref (b1 + 1)), (4, .int v4), (5, .int v5)]) dX7_bind_65 rfl rfl (by decide) rfl rfl ?_
    refine rr_goto (tgt := 32) dX7_bind_68 (by decide) ?_
    exact rr.sub [1, 2, 3, 4, 5, 6, 0] rfl h
theorem s_X7_bind_107 {I : tg_I} {J : tg_J} {P : Option Value → tg_I → tg_J → Prop} (b1 : Nat) (k2 : Nat) (v4 : Int32) (v5 : Int32) (v6 : Int32) (v7 : Int32) (hb1 : isBd b1) (hk2 : isBits k2) (h :
  vp_in v4 14 ∧
  (vp_in (I 21 (Int32.toNatClampNeg v4)) 100 ∧
  (((I (b1 + 5) (Int32.toNatClampNeg (I 21 (Int32.toNatClampNeg v4)))) ≤ v7 →
   vp_in v4 14 ∧ ∀ I1, I1 = u2 I 23 (Int32.toNatClampNeg v4) v6 →
    l_X7_bind_80 I1 J P b1 k2 ((v4 + (1 : Int32)))) ∧
  (¬ (I (b1 + 5) (Int32.toNatClampNeg (I 21 (Int32.toNatClampNeg v4)))) ≤ v7 →
   vp_in (v5 + v7) 800 ∧
    (∀ x1, x1 = (I (b1 + 4) (Int32.toNatClampNeg (v5 + v7))) →
    call pgX zX0_has [.ref k2, .int x1] I J (fun vr I2 J1 => ∃ r1 : Int32, vr = some (.int r1) ∧
    ((r1 = 0 →
     l_X7_bind_107 I2 J1 P b1 k2 v4 v5 v6 ((v7 + (1 : Int32)))) ∧
    (¬ r1 = 0 →
     vp_in x1 100 ∧
      (vp_in x1 100 ∧ ∀ I3, I3 = u2 I2 24 (Int32.toNatClampNeg x1) ((I2 24 (Int32.toNatClampNeg x1)) ||| ((1 : Int32) <<< (v4 &&& 31))) →
      call pgX zX1_due [.ref b1, .int x1, .ref (b1 + 10)] I3 J1 (fun vr I4 J2 => ∃ r2 : Int32, vr = some (.int r2) ∧
      (vp_in x1 100 ∧ ∀ I5, I5 = u2 I4 25 (Int32.toNatClampNeg x1) r2 →
      vp_in ((v4 * (8 : Int32)) + v6) 112 ∧ ∀ I6, I6 = u2 I5 22 (Int32.toNatClampNeg ((v4 * (8 : Int32)) + v6)) x1 →
      l_X7_bind_107 I6 J2 P b1 k2 v4 v5 ((v6 + (1 : Int32))) ((v7 + (1 : Int32)))))))))))))) : l_X7_bind_107 I J P b1 k2 v4 v5 v6 v7 := by
  show rr pgX zX7_bind 107 [(0, .ref 20), (1, .ref b1), (2, .ref k2), (3, .ref (b1 + 1)), (4, .int v4), (5, .int v5), (6, .int v6), (7, .int v7)] [] I J P
  refine rr_iload dX7_bind_107 7 rfl rfl ?_
  refine rr_aload_n dX7_bind_109 rfl 3 rfl rfl ?_
  refine rr_getR dX7_bind_110 fX7_43 (bd_lt hb1 (by decide)) (bd_1 hb1) rfl rfl ?_
  refine rr_aload_n dX7_bind_113 rfl 0 rfl rfl ?_
  refine rr_getR dX7_bind_114 fX7_9 (by decide) rfl rfl rfl ?_
  refine rr_iload dX7_bind_117 4 rfl rfl ?_
  refine rr_iald dX7_bind_119 (by decide) rfl rfl ⟨h.1, ?_⟩
  have h := h.2
  refine rr_iald dX7_bind_120 (bd_lt hb1 (by decide)) (bd_5 hb1) rfl ⟨h.1, ?_⟩
  have h := h.2
  refine rr_icmp_ge (tgt := 200) dX7_bind_121 (by decide) rfl ⟨fun hc => ?_, fun hc => ?_⟩
  · have h := h.1 hc
    refine rr_aload_n dX7_bind_200 rfl 0 rfl rfl ?_
    refine rr_getR dX7_bind_201 fX7_18 (by decide) rfl rfl rfl ?_
    refine rr_iload dX7_bind_204 4 rfl rfl ?_
    refine rr_iload dX7_bind_206 6 rfl rfl ?_
    refine rr_iast dX7_bind_208 (by decide) rfl rfl ⟨h.1, ?_⟩
    refine rr_letI (fun I1 hI1 => ?_)
    have h := h.2 I1 hI1
    refine rr_iinc (k := 4) (v := (v4 + (1 : Int32))) (lv' := [(4, .int (v4 + (1 : Int32))), (0, .ref 20), (1, .ref b1), (2, .ref k2), (3, .ref (b1 + 1)), (5, .int v5), (6, .int v6), (7, .int v7)]) dX7_bind_209 rfl rfl (by decide) rfl rfl ?_
    refine rr_goto (tgt := 80) dX7_bind_212 (by decide) ?_
    exact rr.sub [1, 2, 3, 4, 0] rfl h
  · have h := h.2 hc
    refine rr_aload_n dX7_bind_124 rfl 3 rfl rfl ?_
    refine rr_getR dX7_bind_125 fX7_48 (bd_lt hb1 (by decide)) (bd_1 hb1) rfl rfl ?_
    refine rr_iload dX7_bind_128 5 rfl rfl ?_
    refine rr_iload dX7_bind_130 7 rfl rfl ?_
    refine rr_iadd dX7_bind_132 rfl ?_
    refine rr_iald dX7_bind_133 (bd_lt hb1 (by decide)) (bd_4 hb1) rfl ⟨h.1, ?_⟩
    have h := h.2
    refine rr_letTi (fun x1 hx1 => ?_)
    have h := h x1 hx1
    refine rr_istore (lv' := [(8, .int x1), (0, .ref 20), (1, .ref b1), (2, .ref k2), (3, .ref (b1 + 1)), (4, .int v4), (5, .int v5), (6, .int v6), (7, .int v7)]) dX7_bind_134 (by decide) rfl rfl ?_
    refine rr_aload_n dX7_bind_136 rfl 3 rfl rfl ?_
    refine rr_iload dX7_bind_137 0 rfl rfl ?_
    refine rr_V [.int x1] [] dX7_bind_139 kX0_has mX7_51 ⟨by decide, by decide⟩ hk2.1 hk2.2 rfl rfl (Nat.le_of_ble_eq_true rfl) rfl (h.mono fun vr I2 J1 h => ?_)
    obtain ⟨r1, rfl, h⟩ := h
    show rr pgX zX7_bind 142 _ [.int r1] _ _ _
    refine rr_if_eq (tgt := 194) dX7_bind_142 (by decide) rfl ⟨fun hc => ?_, fun hc => ?_⟩
    · have h := h.1 hc
      refine rr_iinc (k := 8) (v := (v7 + (1 : Int32))) (lv' := [(7, .int (v7 + (1 : Int32))), (8, .int x1), (0, .ref 20), (1, .ref b1), (2, .ref k2), (3, .ref (b1 + 1)), (4, .int v4), (5, .int v5), (6, .int v6)]) dX7_bind_194 rfl rfl (by decide) rfl rfl ?_
      refine rr_goto (tgt := 107) dX7_bind_197 (by decide) ?_
      exact rr.sub [2, 3, 4, 5, 6, 7, 8, 0] rfl h
    · have h := h.2 hc
      refine rr_aload_n dX7_bind_145 rfl 1 rfl rfl ?_
      refine rr_getR dX7_bind_146 fX7_21 (by decide) rfl rfl rfl ?_
      refine rr_iload dX7_bind_149 0 rfl rfl ?_
      refine rr_dup2_11 dX7_bind_151 rfl rfl rfl ?_
      refine rr_iald dX7_bind_152 (by decide) rfl rfl ⟨h.1, ?_⟩
      have h := h.2
      refine rr_iconst (v := (1 : Int32)) dX7_bind_153 (by decide) rfl ?_
      refine rr_iload dX7_bind_154 5 rfl rfl ?_
      refine rr_ishl dX7_bind_156 rfl ?_
      refine rr_ior dX7_bind_157 rfl ?_
      refine rr_iast dX7_bind_158 (by decide) rfl rfl ⟨h.1, ?_⟩
      refine rr_letI (fun I3 hI3 => ?_)
      have h := h.2 I3 hI3
      refine rr_aload_n dX7_bind_159 rfl 1 rfl rfl ?_
      refine rr_getR dX7_bind_160 fX7_24 (by decide) rfl rfl rfl ?_
      refine rr_iload dX7_bind_163 0 rfl rfl ?_
      refine rr_aload_n dX7_bind_165 rfl 2 rfl rfl ?_
      refine rr_iload dX7_bind_166 0 rfl rfl ?_
      refine rr_aload_n dX7_bind_168 rfl 2 rfl rfl ?_
      refine rr_getR dX7_bind_169 fX7_57 (bd_lt0 hb1) (bd_0 hb1) rfl rfl ?_
      refine rr_V [.int x1, .ref (b1 + 10)] [.int x1, .ref 25] dX7_bind_172 kX1_due mX7_61 ⟨by decide, by decide⟩ (bd_lt0 hb1) (bd_0 hb1) rfl rfl (Nat.le_of_ble_eq_true rfl) rfl (h.mono fun vr I4 J2 h => ?_)
      obtain ⟨r2, rfl, h⟩ := h
      show rr pgX zX7_bind 175 _ [.int r2, .int x1, .ref 25] _ _ _
      refine rr_iast dX7_bind_175 (by decide) rfl rfl ⟨h.1, ?_⟩
      refine rr_letI (fun I5 hI5 => ?_)
      have h := h.2 I5 hI5
      refine rr_aload_n dX7_bind_176 rfl 1 rfl rfl ?_
      refine rr_getR dX7_bind_177 fX7_15 (by decide) rfl rfl rfl ?_
      refine rr_iload dX7_bind_180 5 rfl rfl ?_
      refine rr_bipush (v := (8 : Int32)) dX7_bind_182 (by decide) rfl ?_
      refine rr_imul dX7_bind_184 rfl ?_
      refine rr_iload dX7_bind_185 7 rfl rfl ?_
      refine rr_iadd dX7_bind_187 rfl ?_
      refine rr_iload dX7_bind_188 0 rfl rfl ?_
      refine rr_iast dX7_bind_190 (by decide) rfl rfl ⟨h.1, ?_⟩
      refine rr_letI (fun I6 hI6 => ?_)
      have h := h.2 I6 hI6
      refine rr_iinc (k := 7) (v := (v6 + (1 : Int32))) (lv' := [(6, .int (v6 + (1 : Int32))), (8, .int x1), (0, .ref 20), (1, .ref b1), (2, .ref k2), (3, .ref (b1 + 1)), (4, .int v4), (5, .int v5), (7, .int v7)]) dX7_bind_191 rfl rfl (by decide) rfl rfl ?_
      refine rr_iinc (k := 8) (v := (v7 + (1 : Int32))) (lv' := [(7, .int (v7 + (1 : Int32))), (6, .int (v6 + (1 : Int32))), (8, .int x1), (0, .ref 20), (1, .ref b1), (2, .ref k2), (3, .ref (b1 + 1)), (4, .int v4), (5, .int v5)]) dX7_bind_194 rfl rfl (by decide) rfl rfl ?_
      refine rr_goto (tgt := 107) dX7_bind_197 (by decide) ?_
      exact rr.sub [3, 4, 5, 6, 7, 8, 1, 0] rfl h

def l_X7_run_2 (I : tg_I) (J : tg_J) (P : Option Value → tg_I → tg_J → Prop) (v1 : Int32) : Prop := rr pgX zX7_run 2 [(0, .ref 20), (1, .int v1)] [] I J P
def l_X7_run_23 (I : tg_I) (J : tg_J) (P : Option Value → tg_I → tg_J → Prop) (v1 : Int32) : Prop := rr pgX zX7_run 23 [(0, .ref 20), (1, .int v1)] [] I J P
def l_X7_run_53 (I : tg_I) (J : tg_J) (P : Option Value → tg_I → tg_J → Prop) (v1 : Int32) (v2 : Int32) (v3 : Int32) : Prop := rr pgX zX7_run 53 [(0, .ref 20), (1, .int v1), (2, .int v2), (3, .int v3)] [] I J P
def l_X7_run_96 (I : tg_I) (J : tg_J) (P : Option Value → tg_I → tg_J → Prop) (v1 : Int32) (v2 : Int32) (v3 : Int32) : Prop := rr pgX zX7_run 96 [(0, .ref 20), (1, .int v1), (2, .int v2), (3, .int v3)] [] I J P
theorem e_X7_run {I : tg_I} {J : tg_J} {P : Option Value → tg_I → tg_J → Prop} (h :
  l_X7_run_2 I J P ((0 : Int32))) : call pgX zX7_run [.ref 20] I J P := by
  refine call_of (by decide +kernel) (fun _ => Nat.le_of_ble_eq_true rfl) ?_
  show rr pgX zX7_run 0 [(0, .ref 20)] [] I J P
  refine rr_iconst (v := (0 : Int32)) dX7_run_0 (by decide) rfl ?_
  refine rr_istore_n (lv' := [(1, .int (0 : Int32)), (0, .ref 20)]) dX7_run_1 rfl (by decide) rfl rfl ?_
  exact rr.sub [1, 0] rfl h
theorem s_X7_run_2 {I : tg_I} {J : tg_J} {P : Option Value → tg_I → tg_J → Prop} (v1 : Int32) (h :
  ((15 : Int32) ≤ v1 →
   l_X7_run_23 I J P ((0 : Int32))) ∧
  (¬ (15 : Int32) ≤ v1 →
   vp_in v1 15 ∧ ∀ I1, I1 = u2 I 26 (Int32.toNatClampNeg v1) (0 : Int32) →
    l_X7_run_2 I1 J P ((v1 + (1 : Int32))))) : l_X7_run_2 I J P v1 := by
  show rr pgX zX7_run 2 [(0, .ref 20), (1, .int v1)] [] I J P
  refine rr_iload_n dX7_run_2 rfl 1 rfl rfl ?_
  refine rr_bipush (v := (15 : Int32)) dX7_run_3 (by decide) rfl ?_
  refine rr_icmp_ge (tgt := 21) dX7_run_5 (by decide) rfl ⟨fun hc => ?_, fun hc => ?_⟩
  · have h := h.1 hc
    refine rr_iconst (v := (0 : Int32)) dX7_run_21 (by decide) rfl ?_
    refine rr_istore_n (lv' := [(1, .int (0 : Int32)), (0, .ref 20)]) dX7_run_22 rfl (by decide) rfl rfl ?_
    exact rr.sub [1, 0] rfl h
  · have h := h.2 hc
    refine rr_aload_n dX7_run_8 rfl 0 rfl rfl ?_
    refine rr_getR dX7_run_9 fX7_27 (by decide) rfl rfl rfl ?_
    refine rr_iload_n dX7_run_12 rfl 1 rfl rfl ?_
    refine rr_iconst (v := (0 : Int32)) dX7_run_13 (by decide) rfl ?_
    refine rr_iast dX7_run_14 (by decide) rfl rfl ⟨h.1, ?_⟩
    refine rr_letI (fun I1 hI1 => ?_)
    have h := h.2 I1 hI1
    refine rr_iinc (k := 1) (v := (v1 + (1 : Int32))) (lv' := [(1, .int (v1 + (1 : Int32))), (0, .ref 20)]) dX7_run_15 rfl rfl (by decide) rfl rfl ?_
    refine rr_goto (tgt := 2) dX7_run_18 (by decide) ?_
    exact rr.sub [1, 0] rfl h
theorem s_X7_run_23 {I : tg_I} {J : tg_J} {P : Option Value → tg_I → tg_J → Prop} (v1 : Int32) (h :
  (((I 20 7) * (15 : Int32)) ≤ v1 →
   l_X7_run_53 I J P ((0 : Int32)) ((0 : Int32)) ((0 : Int32))) ∧
  (¬ ((I 20 7) * (15 : Int32)) ≤ v1 →
   vp_in v1 210 ∧ ∀ I1, I1 = u2 I 27 (Int32.toNatClampNeg v1) (0 : Int32) →
    l_X7_run_23 I1 J P ((v1 + (1 : Int32))))) : l_X7_run_23 I J P v1 := by
  show rr pgX zX7_run 23 [(0, .ref 20), (1, .int v1)] [] I J P
  refine rr_iload_n dX7_run_23 rfl 1 rfl rfl ?_
  refine rr_aload_n dX7_run_24 rfl 0 rfl rfl ?_
  refine rr_getI dX7_run_25 fX7_33 (by decide) rfl rfl rfl ?_
  refine rr_bipush (v := (15 : Int32)) dX7_run_28 (by decide) rfl ?_
  refine rr_imul dX7_run_30 rfl ?_
  refine rr_icmp_ge (tgt := 47) dX7_run_31 (by decide) rfl ⟨fun hc => ?_, fun hc => ?_⟩
  · have h := h.1 hc
    refine rr_iconst (v := (0 : Int32)) dX7_run_47 (by decide) rfl ?_
    refine rr_istore_n (lv' := [(1, .int (0 : Int32)), (0, .ref 20)]) dX7_run_48 rfl (by decide) rfl rfl ?_
    refine rr_iconst (v := (0 : Int32)) dX7_run_49 (by decide) rfl ?_
    refine rr_istore_n (lv' := [(2, .int (0 : Int32)), (1, .int (0 : Int32)), (0, .ref 20)]) dX7_run_50 rfl (by decide) rfl rfl ?_
    refine rr_iconst (v := (0 : Int32)) dX7_run_51 (by decide) rfl ?_
    refine rr_istore_n (lv' := [(3, .int (0 : Int32)), (2, .int (0 : Int32)), (1, .int (0 : Int32)), (0, .ref 20)]) dX7_run_52 rfl (by decide) rfl rfl ?_
    exact rr.sub [3, 2, 1, 0] rfl h
  · have h := h.2 hc
    refine rr_aload_n dX7_run_34 rfl 0 rfl rfl ?_
    refine rr_getR dX7_run_35 fX7_30 (by decide) rfl rfl rfl ?_
    refine rr_iload_n dX7_run_38 rfl 1 rfl rfl ?_
    refine rr_iconst (v := (0 : Int32)) dX7_run_39 (by decide) rfl ?_
    refine rr_iast dX7_run_40 (by decide) rfl rfl ⟨h.1, ?_⟩
    refine rr_letI (fun I1 hI1 => ?_)
    have h := h.2 I1 hI1
    refine rr_iinc (k := 1) (v := (v1 + (1 : Int32))) (lv' := [(1, .int (v1 + (1 : Int32))), (0, .ref 20)]) dX7_run_41 rfl rfl (by decide) rfl rfl ?_
    refine rr_goto (tgt := 23) dX7_run_44 (by decide) ?_
    exact rr.sub [1, 0] rfl h
theorem s_X7_run_53 {I : tg_I} {J : tg_J} {P : Option Value → tg_I → tg_J → Prop} (v1 : Int32) (v2 : Int32) (v3 : Int32) (h :
  ((100000 : Int32) ≤ v3 →
   P none I J) ∧
  (¬ (100000 : Int32) ≤ v3 →
   call pgX zX7_fits [.ref 20, .int v1, .int v2] I J (fun vr I1 J1 => ∃ r1 : Int32, vr = some (.int r1) ∧
    ((r1 = 0 →
     (r1 = 0 →
       l_X7_run_96 I1 J1 P v1 v2 v3) ∧
      (¬ r1 = 0 →
       call pgX zX7_note [.ref 20, .int v1] I1 J1 (fun vr I2 J2 => vr = none ∧
        (l_X7_run_96 I2 J2 P v1 v2 v3)))) ∧
    (¬ r1 = 0 →
     ((I1 20 7) ≤ v2 →
       (r1 = 0 →
         l_X7_run_96 I1 J1 P v1 v2 v3) ∧
        (¬ r1 = 0 →
         call pgX zX7_note [.ref 20, .int v1] I1 J1 (fun vr I3 J3 => vr = none ∧
          (l_X7_run_96 I3 J3 P v1 v2 v3)))) ∧
      (¬ (I1 20 7) ≤ v2 →
       l_X7_run_53 I1 J1 P v1 ((v2 + (1 : Int32))) ((v3 + (1 : Int32))))))))) : l_X7_run_53 I J P v1 v2 v3 := by
  show rr pgX zX7_run 53 [(0, .ref 20), (1, .int v1), (2, .int v2), (3, .int v3)] [] I J P
  refine rr_iload_n dX7_run_53 rfl 3 rfl rfl ?_
  refine rr_ldc dX7_run_54 qX7_65 rfl ?_
  refine rr_icmp_ge (tgt := 146) dX7_run_56 (by decide) rfl ⟨fun hc => ?_, fun hc => ?_⟩
  · have h := h.1 hc
    exact rr_vret dX7_run_146 rfl h
  · have h := h.2 hc
    refine rr_aload_n dX7_run_59 rfl 0 rfl rfl ?_
    refine rr_iload_n dX7_run_60 rfl 1 rfl rfl ?_
    refine rr_iload_n dX7_run_61 rfl 2 rfl rfl ?_
    refine rr_V [.int v1, .int v2] [] dX7_run_62 kX7_fits mX7_66 ⟨by decide, by decide⟩ (by decide) rfl rfl rfl (Nat.le_of_ble_eq_true rfl) rfl (h.mono fun vr I1 J1 h => ?_)
    obtain ⟨r1, rfl, h⟩ := h
    show rr pgX zX7_run 65 _ [.int r1] _ _ _
    refine rr_istore (lv' := [(4, .int r1), (0, .ref 20), (1, .int v1), (2, .int v2), (3, .int v3)]) dX7_run_65 (by decide) rfl rfl ?_
    refine rr_iload dX7_run_67 0 rfl rfl ?_
    refine rr_if_eq (tgt := 86) dX7_run_69 (by decide) rfl ⟨fun hc => ?_, fun hc => ?_⟩
    · have h := h.1 hc
      refine rr_iload dX7_run_86 0 rfl rfl ?_
      refine rr_if_eq (tgt := 96) dX7_run_88 (by decide) rfl ⟨fun hc => ?_, fun hc => ?_⟩
      · have h := h.1 hc
        exact rr.sub [1, 2, 3, 4] rfl h
      · have h := h.2 hc
        refine rr_aload_n dX7_run_91 rfl 1 rfl rfl ?_
        refine rr_iload_n dX7_run_92 rfl 2 rfl rfl ?_
        refine rr_V [.int v1] [] dX7_run_93 kX7_note mX7_70 ⟨by decide, by decide⟩ (by decide) rfl rfl rfl (Nat.le_of_ble_eq_true rfl) rfl (h.mono fun vr I2 J2 h => ?_)
        obtain ⟨rfl, h⟩ := h
        show rr pgX zX7_run 96 _ [] _ _ _
        exact rr.sub [1, 2, 3, 4] rfl h
    · have h := h.2 hc
      refine rr_iload_n dX7_run_72 rfl 3 rfl rfl ?_
      refine rr_aload_n dX7_run_73 rfl 1 rfl rfl ?_
      refine rr_getI dX7_run_74 fX7_33 (by decide) rfl rfl rfl ?_
      refine rr_icmp_ge (tgt := 86) dX7_run_77 (by decide) rfl ⟨fun hc => ?_, fun hc => ?_⟩
      · have h := h.1 hc
        refine rr_iload dX7_run_86 0 rfl rfl ?_
        refine rr_if_eq (tgt := 96) dX7_run_88 (by decide) rfl ⟨fun hc => ?_, fun hc => ?_⟩
        · have h := h.1 hc
          exact rr.sub [1, 2, 3, 4] rfl h
        · have h := h.2 hc
          refine rr_aload_n dX7_run_91 rfl 1 rfl rfl ?_
          refine rr_iload_n dX7_run_92 rfl 2 rfl rfl ?_
          refine rr_V [.int v1] [] dX7_run_93 kX7_note mX7_70 ⟨by decide, by decide⟩ (by decide) rfl rfl rfl (Nat.le_of_ble_eq_true rfl) rfl (h.mono fun vr I3 J3 h => ?_)
          obtain ⟨rfl, h⟩ := h
          show rr pgX zX7_run 96 _ [] _ _ _
          exact rr.sub [1, 2, 3, 4] rfl h
      · have h := h.2 hc
        refine rr_iinc (k := 3) (v := (v2 + (1 : Int32))) (lv' := [(2, .int (v2 + (1 : Int32))), (4, .int r1), (0, .ref 20), (1, .int v1), (3, .int v3)]) dX7_run_80 rfl rfl (by decide) rfl rfl ?_
        refine rr_goto (tgt := 140) dX7_run_83 (by decide) ?_
        refine rr_iinc (k := 4) (v := (v3 + (1 : Int32))) (lv' := [(3, .int (v3 + (1 : Int32))), (2, .int (v2 + (1 : Int32))), (4, .int r1), (0, .ref 20), (1, .int v1)]) dX7_run_140 rfl rfl (by decide) rfl rfl ?_
        refine rr_goto (tgt := 53) dX7_run_143 (by decide) ?_
        exact rr.sub [3, 4, 1, 0] rfl h
theorem s_X7_run_96 {I : tg_I} {J : tg_J} {P : Option Value → tg_I → tg_J → Prop} (v1 : Int32) (v2 : Int32) (v3 : Int32) (h :
  (v2 ≤ 0 →
   (¬ v2 = 0 →
     ∀ x1, x1 = (v1 ||| ((1 : Int32) <<< ((v2 - (1 : Int32)) &&& 31))) →
      l_X7_run_53 I J P x1 v2 ((v3 + (1 : Int32)))) ∧
    (v2 = 0 →
     P none I J)) ∧
  (¬ v2 ≤ 0 →
   (¬ (((v1.toUInt32 >>> ((v2 - (1 : Int32)).toUInt32 &&& Int32.toUInt32 31)).toInt32) &&& (1 : Int32)) = (1 : Int32) →
     (¬ v2 = 0 →
       ∀ x2, x2 = (v1 ||| ((1 : Int32) <<< ((v2 - (1 : Int32)) &&& 31))) →
        l_X7_run_53 I J P x2 v2 ((v3 + (1 : Int32)))) ∧
      (v2 = 0 →
       P none I J)) ∧
    ((((v1.toUInt32 >>> ((v2 - (1 : Int32)).toUInt32 &&& Int32.toUInt32 31)).toInt32) &&& (1 : Int32)) = (1 : Int32) →
     ∀ x3, x3 = (v1 &&& (((1 : Int32) <<< ((v2 - (1 : Int32)) &&& 31)) ^^^ (-1 : Int32))) →
      l_X7_run_96 I J P x3 ((v2 + (-1 : Int32))) v3))) : l_X7_run_96 I J P v1 v2 v3 := by
  show rr pgX zX7_run 96 [(0, .ref 20), (1, .int v1), (2, .int v2), (3, .int v3)] [] I J P
  refine rr_iload_n dX7_run_96 rfl 2 rfl rfl ?_
  refine rr_if_le (tgt := 127) dX7_run_97 (by decide) rfl ⟨fun hc => ?_, fun hc => ?_⟩
  · have h := h.1 hc
    refine rr_iload_n dX7_run_127 rfl 2 rfl rfl ?_
    refine rr_if_ne (tgt := 132) dX7_run_128 (by decide) rfl ⟨fun hc => ?_, fun hc => ?_⟩
    · have h := h.1 hc
      refine rr_iload_n dX7_run_132 rfl 1 rfl rfl ?_
      refine rr_iconst (v := (1 : Int32)) dX7_run_133 (by decide) rfl ?_
      refine rr_iload_n dX7_run_134 rfl 2 rfl rfl ?_
      refine rr_iconst (v := (1 : Int32)) dX7_run_135 (by decide) rfl ?_
      refine rr_isub dX7_run_136 rfl ?_
      refine rr_ishl dX7_run_137 rfl ?_
      refine rr_ior dX7_run_138 rfl ?_
      refine rr_letTi (fun x1 hx1 => ?_)
      have h := h x1 hx1
      refine rr_istore_n (lv' := [(1, .int x1), (0, .ref 20), (2, .int v2), (3, .int v3)]) dX7_run_139 rfl (by decide) rfl rfl ?_
      refine rr_iinc (k := 3) (v := (v3 + (1 : Int32))) (lv' := [(3, .int (v3 + (1 : Int32))), (1, .int x1), (0, .ref 20), (2, .int v2)]) dX7_run_140 rfl rfl (by decide) rfl rfl ?_
      refine rr_goto (tgt := 53) dX7_run_143 (by decide) ?_
      exact rr.sub [2, 1, 3, 0] rfl h
    · have h := h.2 hc
      exact rr_vret dX7_run_131 rfl h
  · have h := h.2 hc
    refine rr_iload_n dX7_run_100 rfl 1 rfl rfl ?_
    refine rr_iload_n dX7_run_101 rfl 2 rfl rfl ?_
    refine rr_iconst (v := (1 : Int32)) dX7_run_102 (by decide) rfl ?_
    refine rr_isub dX7_run_103 rfl ?_
    refine rr_iushr dX7_run_104 rfl ?_
    refine rr_iconst (v := (1 : Int32)) dX7_run_105 (by decide) rfl ?_
    refine rr_iand dX7_run_106 rfl ?_
    refine rr_iconst (v := (1 : Int32)) dX7_run_107 (by decide) rfl ?_
    refine rr_icmp_ne (tgt := 127) dX7_run_108 (by decide) rfl ⟨fun hc => ?_, fun hc => ?_⟩
    · have h := h.1 hc
      refine rr_iload_n dX7_run_127 rfl 2 rfl rfl ?_
      refine rr_if_ne (tgt := 132) dX7_run_128 (by decide) rfl ⟨fun hc => ?_, fun hc => ?_⟩
      · have h := h.1 hc
        refine rr_iload_n dX7_run_132 rfl 1 rfl rfl ?_
        refine rr_iconst (v := (1 : Int32)) dX7_run_133 (by decide) rfl ?_
        refine rr_iload_n dX7_run_134 rfl 2 rfl rfl ?_
        refine rr_iconst (v := (1 : Int32)) dX7_run_135 (by decide) rfl ?_
        refine rr_isub dX7_run_136 rfl ?_
        refine rr_ishl dX7_run_137 rfl ?_
        refine rr_ior dX7_run_138 rfl ?_
        refine rr_letTi (fun x2 hx2 => ?_)
        have h := h x2 hx2
        refine rr_istore_n (lv' := [(1, .int x2), (0, .ref 20), (2, .int v2), (3, .int v3)]) dX7_run_139 rfl (by decide) rfl rfl ?_
        refine rr_iinc (k := 3) (v := (v3 + (1 : Int32))) (lv' := [(3, .int (v3 + (1 : Int32))), (1, .int x2), (0, .ref 20), (2, .int v2)]) dX7_run_140 rfl rfl (by decide) rfl rfl ?_
        refine rr_goto (tgt := 53) dX7_run_143 (by decide) ?_
        exact rr.sub [2, 1, 3, 0] rfl h
      · have h := h.2 hc
        exact rr_vret dX7_run_131 rfl h
    · have h := h.2 hc
      refine rr_iload_n dX7_run_111 rfl 1 rfl rfl ?_
      refine rr_iconst (v := (1 : Int32)) dX7_run_112 (by decide) rfl ?_
      refine rr_iload_n dX7_run_113 rfl 2 rfl rfl ?_
      refine rr_iconst (v := (1 : Int32)) dX7_run_114 (by decide) rfl ?_
      refine rr_isub dX7_run_115 rfl ?_
      refine rr_ishl dX7_run_116 rfl ?_
      refine rr_iconst (v := (-1 : Int32)) dX7_run_117 (by decide) rfl ?_
      refine rr_ixor dX7_run_118 rfl ?_
      refine rr_iand dX7_run_119 rfl ?_
      refine rr_letTi (fun x3 hx3 => ?_)
      have h := h x3 hx3
      refine rr_istore_n (lv' := [(1, .int x3), (0, .ref 20), (2, .int v2), (3, .int v3)]) dX7_run_120 rfl (by decide) rfl rfl ?_
      refine rr_iinc (k := 2) (v := (v2 + (-1 : Int32))) (lv' := [(2, .int (v2 + (-1 : Int32))), (1, .int x3), (0, .ref 20), (3, .int v3)]) dX7_run_121 rfl rfl (by decide) rfl rfl ?_
      refine rr_goto (tgt := 96) dX7_run_124 (by decide) ?_
      exact rr.sub [2, 1, 0, 3] rfl h

def l_X7_fits_13 (I : tg_I) (J : tg_J) (P : Option Value → tg_I → tg_J → Prop) (v1 : Int32) (v2 : Int32) (v3 : Int32) (v4 : Int32) : Prop := rr pgX zX7_fits 13 [(0, .ref 20), (1, .int v1), (2, .int v2), (3, .int v3), (4, .int v4)] [] I J P
theorem e_X7_fits {I : tg_I} {J : tg_J} {P : Option Value → tg_I → tg_J → Prop} (v1 : Int32) (v2 : Int32) (h :
  (¬ v2 = 0 →
   l_X7_fits_13 I J P v1 v2 ((v2 - (1 : Int32))) ((0 : Int32))) ∧
  (v2 = 0 →
   P (some (.int (1 : Int32))) I J)) : call pgX zX7_fits [.ref 20, .int v1, .int v2] I J P := by
  refine call_of (by decide +kernel) (fun _ => Nat.le_of_ble_eq_true rfl) ?_
  show rr pgX zX7_fits 0 [(0, .ref 20), (1, .int v1), (2, .int v2)] [] I J P
  refine rr_iload_n dX7_fits_0 rfl 2 rfl rfl ?_
  refine rr_if_ne (tgt := 6) dX7_fits_1 (by decide) rfl ⟨fun hc => ?_, fun hc => ?_⟩
  · have h := h.1 hc
    refine rr_iload_n dX7_fits_6 rfl 2 rfl rfl ?_
    refine rr_iconst (v := (1 : Int32)) dX7_fits_7 (by decide) rfl ?_
    refine rr_isub dX7_fits_8 rfl ?_
    refine rr_istore_n (lv' := [(3, .int (v2 - (1 : Int32))), (0, .ref 20), (1, .int v1), (2, .int v2)]) dX7_fits_9 rfl (by decide) rfl rfl ?_
    refine rr_iconst (v := (0 : Int32)) dX7_fits_10 (by decide) rfl ?_
    refine rr_istore (lv' := [(4, .int (0 : Int32)), (3, .int (v2 - (1 : Int32))), (0, .ref 20), (1, .int v1), (2, .int v2)]) dX7_fits_11 (by decide) rfl rfl ?_
    exact rr.sub [2, 3, 4, 1, 0] rfl h
  · have h := h.2 hc
    refine rr_iconst (v := (1 : Int32)) dX7_fits_4 (by decide) rfl ?_
    exact rr_zret dX7_fits_5 rfl rfl h
theorem s_X7_fits_13 {I : tg_I} {J : tg_J} {P : Option Value → tg_I → tg_J → Prop} (v1 : Int32) (v2 : Int32) (v3 : Int32) (v4 : Int32) (h :
  vp_in v3 14 ∧
  (((I 23 (Int32.toNatClampNeg v3)) ≤ v4 →
   P (some (.int (1 : Int32))) I J) ∧
  (¬ (I 23 (Int32.toNatClampNeg v3)) ≤ v4 →
   vp_in ((v3 * (8 : Int32)) + v4) 112 ∧
    (∀ x1, x1 = (I 22 (Int32.toNatClampNeg ((v3 * (8 : Int32)) + v4))) →
    vp_in x1 100 ∧
    (call pgX zJ6_bitCount_0f7a4 [.int (v1 &&& (I 24 (Int32.toNatClampNeg x1)))] I J (fun vr I1 J1 => ∃ r1 : Int32, vr = some (.int r1) ∧
    (vp_in x1 100 ∧
    (call pgX zJ6_bitCount_0f7a4 [.int (((I1 24 (Int32.toNatClampNeg x1)).toUInt32 >>> (v2.toUInt32 &&& Int32.toUInt32 31)).toInt32)] I1 J1 (fun vr I2 J2 => ∃ r2 : Int32, vr = some (.int r2) ∧
    (vp_in x1 100 ∧
    (((I2 25 (Int32.toNatClampNeg x1)) < r1 →
     P (some (.int (0 : Int32))) I2 J2) ∧
    (¬ (I2 25 (Int32.toNatClampNeg x1)) < r1 →
     vp_in x1 100 ∧
      (((I2 25 (Int32.toNatClampNeg x1)) ≤ (r1 + r2) →
       l_X7_fits_13 I2 J2 P v1 v2 v3 ((v4 + (1 : Int32)))) ∧
      (¬ (I2 25 (Int32.toNatClampNeg x1)) ≤ (r1 + r2) →
       P (some (.int (0 : Int32))) I2 J2)))))))))))))) : l_X7_fits_13 I J P v1 v2 v3 v4 := by
  show rr pgX zX7_fits 13 [(0, .ref 20), (1, .int v1), (2, .int v2), (3, .int v3), (4, .int v4)] [] I J P
  refine rr_iload dX7_fits_13 4 rfl rfl ?_
  refine rr_aload_n dX7_fits_15 rfl 0 rfl rfl ?_
  refine rr_getR dX7_fits_16 fX7_18 (by decide) rfl rfl rfl ?_
  refine rr_iload_n dX7_fits_19 rfl 3 rfl rfl ?_
  refine rr_iald dX7_fits_20 (by decide) rfl rfl ⟨h.1, ?_⟩
  have h := h.2
  refine rr_icmp_ge (tgt := 101) dX7_fits_21 (by decide) rfl ⟨fun hc => ?_, fun hc => ?_⟩
  · have h := h.1 hc
    refine rr_iconst (v := (1 : Int32)) dX7_fits_101 (by decide) rfl ?_
    exact rr_zret dX7_fits_102 rfl rfl h
  · have h := h.2 hc
    refine rr_aload_n dX7_fits_24 rfl 0 rfl rfl ?_
    refine rr_getR dX7_fits_25 fX7_15 (by decide) rfl rfl rfl ?_
    refine rr_iload_n dX7_fits_28 rfl 3 rfl rfl ?_
    refine rr_bipush (v := (8 : Int32)) dX7_fits_29 (by decide) rfl ?_
    refine rr_imul dX7_fits_31 rfl ?_
    refine rr_iload dX7_fits_32 4 rfl rfl ?_
    refine rr_iadd dX7_fits_34 rfl ?_
    refine rr_iald dX7_fits_35 (by decide) rfl rfl ⟨h.1, ?_⟩
    have h := h.2
    refine rr_letTi (fun x1 hx1 => ?_)
    have h := h x1 hx1
    refine rr_istore (lv' := [(5, .int x1), (0, .ref 20), (1, .int v1), (2, .int v2), (3, .int v3), (4, .int v4)]) dX7_fits_36 (by decide) rfl rfl ?_
    refine rr_iload_n dX7_fits_38 rfl 2 rfl rfl ?_
    refine rr_aload_n dX7_fits_39 rfl 1 rfl rfl ?_
    refine rr_getR dX7_fits_40 fX7_21 (by decide) rfl rfl rfl ?_
    refine rr_iload dX7_fits_43 0 rfl rfl ?_
    refine rr_iald dX7_fits_45 (by decide) rfl rfl ⟨h.1, ?_⟩
    have h := h.2
    refine rr_iand dX7_fits_46 rfl ?_
    refine rr_S [.int (v1 &&& (I 24 (Int32.toNatClampNeg x1)))] [] dX7_fits_47 kJ6_bitCount_0f7a4 mX7_74 ⟨by decide, by decide⟩ rfl rfl (Nat.le_of_ble_eq_true rfl) rfl (h.mono fun vr I1 J1 h => ?_)
    obtain ⟨r1, rfl, h⟩ := h
    show rr pgX zX7_fits 50 _ [.int r1] _ _ _
    refine rr_istore (lv' := [(6, .int r1), (5, .int x1), (0, .ref 20), (1, .int v1), (2, .int v2), (3, .int v3), (4, .int v4)]) dX7_fits_50 (by decide) rfl rfl ?_
    refine rr_aload_n dX7_fits_52 rfl 2 rfl rfl ?_
    refine rr_getR dX7_fits_53 fX7_21 (by decide) rfl rfl rfl ?_
    refine rr_iload dX7_fits_56 1 rfl rfl ?_
    refine rr_iald dX7_fits_58 (by decide) rfl rfl ⟨h.1, ?_⟩
    have h := h.2
    refine rr_iload_n dX7_fits_59 rfl 4 rfl rfl ?_
    refine rr_iushr dX7_fits_60 rfl ?_
    refine rr_S [.int (((I1 24 (Int32.toNatClampNeg x1)).toUInt32 >>> (v2.toUInt32 &&& Int32.toUInt32 31)).toInt32)] [] dX7_fits_61 kJ6_bitCount_0f7a4 mX7_74 ⟨by decide, by decide⟩ rfl rfl (Nat.le_of_ble_eq_true rfl) rfl (h.mono fun vr I2 J2 h => ?_)
    obtain ⟨r2, rfl, h⟩ := h
    show rr pgX zX7_fits 64 _ [.int r2] _ _ _
    refine rr_istore (lv' := [(7, .int r2), (6, .int r1), (5, .int x1), (0, .ref 20), (1, .int v1), (2, .int v2), (3, .int v3), (4, .int v4)]) dX7_fits_64 (by decide) rfl rfl ?_
    refine rr_iload dX7_fits_66 1 rfl rfl ?_
    refine rr_aload_n dX7_fits_68 rfl 3 rfl rfl ?_
    refine rr_getR dX7_fits_69 fX7_24 (by decide) rfl rfl rfl ?_
    refine rr_iload dX7_fits_72 2 rfl rfl ?_
    refine rr_iald dX7_fits_74 (by decide) rfl rfl ⟨h.1, ?_⟩
    have h := h.2
    refine rr_icmp_gt (tgt := 93) dX7_fits_75 (by decide) rfl ⟨fun hc => ?_, fun hc => ?_⟩
    · have h := h.1 hc
      refine rr_iconst (v := (0 : Int32)) dX7_fits_93 (by decide) rfl ?_
      exact rr_zret dX7_fits_94 rfl rfl h
    · have h := h.2 hc
      refine rr_iload dX7_fits_78 1 rfl rfl ?_
      refine rr_iload dX7_fits_80 0 rfl rfl ?_
      refine rr_iadd dX7_fits_82 rfl ?_
      refine rr_aload_n dX7_fits_83 rfl 3 rfl rfl ?_
      refine rr_getR dX7_fits_84 fX7_24 (by decide) rfl rfl rfl ?_
      refine rr_iload dX7_fits_87 2 rfl rfl ?_
      refine rr_iald dX7_fits_89 (by decide) rfl rfl ⟨h.1, ?_⟩
      have h := h.2
      refine rr_icmp_ge (tgt := 95) dX7_fits_90 (by decide) rfl ⟨fun hc => ?_, fun hc => ?_⟩
      · have h := h.1 hc
        refine rr_iinc (k := 7) (v := (v4 + (1 : Int32))) (lv' := [(4, .int (v4 + (1 : Int32))), (7, .int r2), (6, .int r1), (5, .int x1), (0, .ref 20), (1, .int v1), (2, .int v2), (3, .int v3)]) dX7_fits_95 rfl rfl (by decide) rfl rfl ?_
        refine rr_goto (tgt := 13) dX7_fits_98 (by decide) ?_
        exact rr.sub [4, 5, 6, 7, 0] rfl h
      · have h := h.2 hc
        refine rr_iconst (v := (0 : Int32)) dX7_fits_93 (by decide) rfl ?_
        exact rr_zret dX7_fits_94 rfl rfl h

def l_X7_note_17 (I : tg_I) (J : tg_J) (P : Option Value → tg_I → tg_J → Prop) (v1 : Int32) (v2 : Int32) (v3 : Int32) : Prop := rr pgX zX7_note 17 [(0, .ref 20), (1, .int v1), (2, .int v2), (3, .int v3)] [] I J P
theorem e_X7_note {I : tg_I} {J : tg_J} {P : Option Value → tg_I → tg_J → Prop} (v1 : Int32) (h :
  call pgX zJ6_bitCount_0f7a4 [.int v1] I J (fun vr I1 J1 => ∃ r1 : Int32, vr = some (.int r1) ∧
  (vp_in r1 15 ∧
  (vp_in r1 15 ∧ ∀ I2, I2 = u2 I1 26 (Int32.toNatClampNeg r1) ((I1 26 (Int32.toNatClampNeg r1)) + (1 : Int32)) →
  l_X7_note_17 I2 J1 P v1 r1 ((0 : Int32)))))) : call pgX zX7_note [.ref 20, .int v1] I J P := by
  refine call_of (by decide +kernel) (fun _ => Nat.le_of_ble_eq_true rfl) ?_
  show rr pgX zX7_note 0 [(0, .ref 20), (1, .int v1)] [] I J P
  refine rr_iload_n dX7_note_0 rfl 1 rfl rfl ?_
  refine rr_S [.int v1] [] dX7_note_1 kJ6_bitCount_0f7a4 mX7_74 ⟨by decide, by decide⟩ rfl rfl (Nat.le_of_ble_eq_true rfl) rfl (h.mono fun vr I1 J1 h => ?_)
  obtain ⟨r1, rfl, h⟩ := h
  show rr pgX zX7_note 4 _ [.int r1] _ _ _
  refine rr_istore_n (lv' := [(2, .int r1), (0, .ref 20), (1, .int v1)]) dX7_note_4 rfl (by decide) rfl rfl ?_
  refine rr_aload_n dX7_note_5 rfl 1 rfl rfl ?_
  refine rr_getR dX7_note_6 fX7_27 (by decide) rfl rfl rfl ?_
  refine rr_iload_n dX7_note_9 rfl 0 rfl rfl ?_
  refine rr_dup2_11 dX7_note_10 rfl rfl rfl ?_
  refine rr_iald dX7_note_11 (by decide) rfl rfl ⟨h.1, ?_⟩
  have h := h.2
  refine rr_iconst (v := (1 : Int32)) dX7_note_12 (by decide) rfl ?_
  refine rr_iadd dX7_note_13 rfl ?_
  refine rr_iast dX7_note_14 (by decide) rfl rfl ⟨h.1, ?_⟩
  refine rr_letI (fun I2 hI2 => ?_)
  have h := h.2 I2 hI2
  refine rr_iconst (v := (0 : Int32)) dX7_note_15 (by decide) rfl ?_
  refine rr_istore_n (lv' := [(3, .int (0 : Int32)), (2, .int r1), (0, .ref 20), (1, .int v1)]) dX7_note_16 rfl (by decide) rfl rfl ?_
  exact rr.sub [2, 3, 1, 0] rfl h
theorem s_X7_note_17 {I : tg_I} {J : tg_J} {P : Option Value → tg_I → tg_J → Prop} (v1 : Int32) (v2 : Int32) (v3 : Int32) (h :
  ((I 20 7) ≤ v3 →
   P none I J) ∧
  (¬ (I 20 7) ≤ v3 →
   (¬ (((v1.toUInt32 >>> (v3.toUInt32 &&& Int32.toUInt32 31)).toInt32) &&& (1 : Int32)) = (1 : Int32) →
     l_X7_note_17 I J P v1 v2 ((v3 + (1 : Int32)))) ∧
    ((((v1.toUInt32 >>> (v3.toUInt32 &&& Int32.toUInt32 31)).toInt32) &&& (1 : Int32)) = (1 : Int32) →
     vp_in ((v3 * (15 : Int32)) + v2) 210 ∧
      (vp_in ((v3 * (15 : Int32)) + v2) 210 ∧ ∀ I1, I1 = u2 I 27 (Int32.toNatClampNeg ((v3 * (15 : Int32)) + v2)) ((I 27 (Int32.toNatClampNeg ((v3 * (15 : Int32)) + v2))) + (1 : Int32)) →
      l_X7_note_17 I1 J P v1 v2 ((v3 + (1 : Int32))))))) : l_X7_note_17 I J P v1 v2 v3 := by
  show rr pgX zX7_note 17 [(0, .ref 20), (1, .int v1), (2, .int v2), (3, .int v3)] [] I J P
  refine rr_iload_n dX7_note_17 rfl 3 rfl rfl ?_
  refine rr_aload_n dX7_note_18 rfl 0 rfl rfl ?_
  refine rr_getI dX7_note_19 fX7_33 (by decide) rfl rfl rfl ?_
  refine rr_icmp_ge (tgt := 55) dX7_note_22 (by decide) rfl ⟨fun hc => ?_, fun hc => ?_⟩
  · have h := h.1 hc
    exact rr_vret dX7_note_55 rfl h
  · have h := h.2 hc
    refine rr_iload_n dX7_note_25 rfl 1 rfl rfl ?_
    refine rr_iload_n dX7_note_26 rfl 3 rfl rfl ?_
    refine rr_iushr dX7_note_27 rfl ?_
    refine rr_iconst (v := (1 : Int32)) dX7_note_28 (by decide) rfl ?_
    refine rr_iand dX7_note_29 rfl ?_
    refine rr_iconst (v := (1 : Int32)) dX7_note_30 (by decide) rfl ?_
    refine rr_icmp_ne (tgt := 49) dX7_note_31 (by decide) rfl ⟨fun hc => ?_, fun hc => ?_⟩
    · have h := h.1 hc
      refine rr_iinc (k := 3) (v := (v3 + (1 : Int32))) (lv' := [(3, .int (v3 + (1 : Int32))), (0, .ref 20), (1, .int v1), (2, .int v2)]) dX7_note_49 rfl rfl (by decide) rfl rfl ?_
      refine rr_goto (tgt := 17) dX7_note_52 (by decide) ?_
      exact rr.sub [1, 2, 3, 0] rfl h
    · have h := h.2 hc
      refine rr_aload_n dX7_note_34 rfl 0 rfl rfl ?_
      refine rr_getR dX7_note_35 fX7_30 (by decide) rfl rfl rfl ?_
      refine rr_iload_n dX7_note_38 rfl 3 rfl rfl ?_
      refine rr_bipush (v := (15 : Int32)) dX7_note_39 (by decide) rfl ?_
      refine rr_imul dX7_note_41 rfl ?_
      refine rr_iload_n dX7_note_42 rfl 2 rfl rfl ?_
      refine rr_iadd dX7_note_43 rfl ?_
      refine rr_dup2_11 dX7_note_44 rfl rfl rfl ?_
      refine rr_iald dX7_note_45 (by decide) rfl rfl ⟨h.1, ?_⟩
      have h := h.2
      refine rr_iconst (v := (1 : Int32)) dX7_note_46 (by decide) rfl ?_
      refine rr_iadd dX7_note_47 rfl ?_
      refine rr_iast dX7_note_48 (by decide) rfl rfl ⟨h.1, ?_⟩
      refine rr_letI (fun I1 hI1 => ?_)
      have h := h.2 I1 hI1
      refine rr_iinc (k := 3) (v := (v3 + (1 : Int32))) (lv' := [(3, .int (v3 + (1 : Int32))), (0, .ref 20), (1, .int v1), (2, .int v2)]) dX7_note_49 rfl rfl (by decide) rfl rfl ?_
      refine rr_goto (tgt := 17) dX7_note_52 (by decide) ?_
      exact rr.sub [1, 2, 3, 0] rfl h
