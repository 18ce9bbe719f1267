def l_X5_gather_21 (I : tg_I) (J : tg_J) (P : Option Value → tg_I → tg_J → Prop) (b1 : Nat) (v2 : Int32) : Prop := rr pgX zX5_gather 21 [(0, .ref 17), (1, .ref b1), (2, .int v2)] [] I J P
theorem e_X5_gather {I : tg_I} {J : tg_J} {P : Option Value → tg_I → tg_J → Prop} (b1 : Nat) (hb1 : isBd b1) (h :
  call pgX zX0_clear [.ref 28] I J (fun vr I1 J1 => vr = none ∧
  (∀ I2, I2 = u2 I1 17 14 (0 : Int32) →
  vp_in (0 : Int32) 101 ∧ ∀ I3, I3 = u2 I2 32 (Int32.toNatClampNeg (0 : Int32)) (0 : Int32) →
  l_X5_gather_21 I3 J1 P b1 ((0 : Int32))))) : call pgX zX5_gather [.ref 17, .ref b1] I J P := by
  refine call_of (by decide +kernel) (fun _ => Nat.le_of_ble_eq_true rfl) ?_
  show rr pgX zX5_gather 0 [(0, .ref 17), (1, .ref b1)] [] I J P
  refine rr_aload_n dX5_gather_0 rfl 0 rfl rfl ?_
  refine rr_getR dX5_gather_1 fX5_28 (by decide) rfl rfl rfl ?_
  refine rr_V [] [] dX5_gather_4 kX0_clear mX5_63 ⟨by decide, by decide⟩ (by decide) rfl rfl rfl (Nat.le_of_ble_eq_true rfl) rfl (h.mono fun vr I1 J1 h => ?_)
  obtain ⟨rfl, h⟩ := h
  show rr pgX zX5_gather 7 _ [] _ _ _
  refine rr_aload_n dX5_gather_7 rfl 0 rfl rfl ?_
  refine rr_iconst (v := (0 : Int32)) dX5_gather_8 (by decide) rfl ?_
  refine rr_putI dX5_gather_9 pX5_66 (by decide) rfl rfl rfl ?_
  refine rr_letI (fun I2 hI2 => ?_)
  have h := h I2 hI2
  refine rr_aload_n dX5_gather_12 rfl 0 rfl rfl ?_
  refine rr_getR dX5_gather_13 fX5_41 (by decide) rfl rfl rfl ?_
  refine rr_iconst (v := (0 : Int32)) dX5_gather_16 (by decide) rfl ?_
  refine rr_iconst (v := (0 : Int32)) dX5_gather_17 (by decide) rfl ?_
  refine rr_iast dX5_gather_18 (by decide) rfl rfl ⟨h.1, ?_⟩
  refine rr_letI (fun I3 hI3 => ?_)
  have h := h.2 I3 hI3
  refine rr_iconst (v := (0 : Int32)) dX5_gather_19 (by decide) rfl ?_
  refine rr_istore_n (lv' := [(2, .int (0 : Int32)), (0, .ref 17), (1, .ref b1)]) dX5_gather_20 rfl (by decide) rfl rfl ?_
  exact rr.sub [1, 2, 0] rfl h
theorem s_X5_gather_21 {I : tg_I} {J : tg_J} {P : Option Value → tg_I → tg_J → Prop} (b1 : Nat) (v2 : Int32) (hb1 : isBd b1) (h :
  ((I (b1 + 1) 7) ≤ v2 →
   P (some (.int (1 : Int32))) I J) ∧
  (¬ (I (b1 + 1) 7) ≤ v2 →
   call pgX zX0_has [.ref (b1 + 8), .int v2] I J (fun vr I1 J1 => ∃ r1 : Int32, vr = some (.int r1) ∧
    ((r1 = 0 →
     l_X5_gather_21 I1 J1 P b1 ((v2 + (1 : Int32)))) ∧
    (¬ r1 = 0 →
     call pgX zX0_has [.ref 28, .int v2] I1 J1 (fun vr I2 J2 => ∃ r2 : Int32, vr = some (.int r2) ∧
      ((¬ r2 = 0 →
       l_X5_gather_21 I2 J2 P b1 ((v2 + (1 : Int32)))) ∧
      (r2 = 0 →
       ((100 : Int32) ≤ (I2 17 14) →
         l_X5_gather_21 I2 J2 P b1 ((v2 + (1 : Int32)))) ∧
        (¬ (100 : Int32) ≤ (I2 17 14) →
         call pgX zX2_touches [.ref (b1 + 1), .int v2, .ref (b1 + 9)] I2 J2 (fun vr I3 J3 => ∃ r3 : Int32, vr = some (.int r3) ∧
          ((r3 = 0 →
           l_X5_gather_21 I3 J3 P b1 ((v2 + (1 : Int32)))) ∧
          (¬ r3 = 0 →
           vp_in (I3 17 14) 101 ∧
            (∀ x1, x1 = (I3 32 (Int32.toNatClampNeg (I3 17 14))) →
            call pgX zX5_spread [.ref 17, .ref b1, .int v2, .int x1] I3 J3 (fun vr I4 J4 => ∃ r4 : Int32, vr = some (.int r4) ∧
            (∀ I5, I5 = u2 I4 17 14 ((I4 17 14) + (1 : Int32)) →
            vp_in (I5 17 14) 101 ∧ ∀ I6, I6 = u2 I5 32 (Int32.toNatClampNeg (I5 17 14)) r4 →
            ((r4 - x1) ≤ (12 : Int32) →
             l_X5_gather_21 I6 J4 P b1 ((v2 + (1 : Int32)))) ∧
            (¬ (r4 - x1) ≤ (12 : Int32) →
             P (some (.int (0 : Int32))) I6 J4)))))))))))))))) : l_X5_gather_21 I J P b1 v2 := by
  show rr pgX zX5_gather 21 [(0, .ref 17), (1, .ref b1), (2, .int v2)] [] I J P
  refine rr_iload_n dX5_gather_21 rfl 2 rfl rfl ?_
  refine rr_aload_n dX5_gather_22 rfl 1 rfl rfl ?_
  refine rr_getR dX5_gather_23 fX5_70 (bd_lt0 hb1) (bd_0 hb1) rfl rfl ?_
  refine rr_getI dX5_gather_26 fX5_76 (bd_lt hb1 (by decide)) (bd_1 hb1) rfl rfl ?_
  refine rr_icmp_ge (tgt := 148) dX5_gather_29 (by decide) rfl ⟨fun hc => ?_, fun hc => ?_⟩
  · have h := h.1 hc
    refine rr_iconst (v := (1 : Int32)) dX5_gather_148 (by decide) rfl ?_
    exact rr_zret dX5_gather_149 rfl rfl h
  · have h := h.2 hc
    refine rr_aload_n dX5_gather_32 rfl 1 rfl rfl ?_
    refine rr_getR dX5_gather_33 fX5_81 (bd_lt0 hb1) (bd_0 hb1) rfl rfl ?_
    refine rr_iload_n dX5_gather_36 rfl 2 rfl rfl ?_
    refine rr_V [.int v2] [] dX5_gather_37 kX0_has mX5_84 ⟨by decide, by decide⟩ (bd_lt hb1 (by decide)) (bd_8 hb1) rfl rfl (Nat.le_of_ble_eq_true rfl) rfl (h.mono fun vr I1 J1 h => ?_)
    obtain ⟨r1, rfl, h⟩ := h
    show rr pgX zX5_gather 40 _ [.int r1] _ _ _
    refine rr_if_eq (tgt := 58) dX5_gather_40 (by decide) rfl ⟨fun hc => ?_, fun hc => ?_⟩
    · have h := h.1 hc
      refine rr_iconst (v := (0 : Int32)) dX5_gather_58 (by decide) rfl ?_
      refine rr_istore_n (lv' := [(3, .int (0 : Int32)), (0, .ref 17), (1, .ref b1), (2, .int v2)]) dX5_gather_59 rfl (by decide) rfl rfl ?_
      refine rr_iload_n dX5_gather_60 rfl 0 rfl rfl ?_
      refine rr_if_eq (tgt := 142) dX5_gather_61 (by decide) rfl ⟨fun _ => ?_, fun hc => absurd hc (by decide)⟩
      refine rr_iinc (k := 3) (v := (v2 + (1 : Int32))) (lv' := [(2, .int (v2 + (1 : Int32))), (3, .int (0 : Int32)), (0, .ref 17), (1, .ref b1)]) dX5_gather_142 rfl rfl (by decide) rfl rfl ?_
      refine rr_goto (tgt := 21) dX5_gather_145 (by decide) ?_
      exact rr.sub [2, 3, 0] rfl h
    · have h := h.2 hc
      refine rr_aload_n dX5_gather_43 rfl 0 rfl rfl ?_
      refine rr_getR dX5_gather_44 fX5_28 (by decide) rfl rfl rfl ?_
      refine rr_iload_n dX5_gather_47 rfl 2 rfl rfl ?_
      refine rr_V [.int v2] [] dX5_gather_48 kX0_has mX5_84 ⟨by decide, by decide⟩ (by decide) rfl rfl rfl (Nat.le_of_ble_eq_true rfl) rfl (h.mono fun vr I2 J2 h => ?_)
      obtain ⟨r2, rfl, h⟩ := h
      show rr pgX zX5_gather 51 _ [.int r2] _ _ _
      refine rr_if_ne (tgt := 58) dX5_gather_51 (by decide) rfl ⟨fun hc => ?_, fun hc => ?_⟩
      · have h := h.1 hc
        refine rr_iconst (v := (0 : Int32)) dX5_gather_58 (by decide) rfl ?_
        refine rr_istore_n (lv' := [(3, .int (0 : Int32)), (0, .ref 17), (1, .ref b1), (2, .int v2)]) dX5_gather_59 rfl (by decide) rfl rfl ?_
        refine rr_iload_n dX5_gather_60 rfl 0 rfl rfl ?_
        refine rr_if_eq (tgt := 142) dX5_gather_61 (by decide) rfl ⟨fun _ => ?_, fun hc => absurd hc (by decide)⟩
        refine rr_iinc (k := 3) (v := (v2 + (1 : Int32))) (lv' := [(2, .int (v2 + (1 : Int32))), (3, .int (0 : Int32)), (0, .ref 17), (1, .ref b1)]) dX5_gather_142 rfl rfl (by decide) rfl rfl ?_
        refine rr_goto (tgt := 21) dX5_gather_145 (by decide) ?_
        exact rr.sub [2, 3, 0] rfl h
      · have h := h.2 hc
        refine rr_iconst (v := (1 : Int32)) dX5_gather_54 (by decide) rfl ?_
        refine rr_goto (tgt := 59) dX5_gather_55 (by decide) ?_
        refine rr_istore_n (lv' := [(3, .int (1 : Int32)), (0, .ref 17), (1, .ref b1), (2, .int v2)]) dX5_gather_59 rfl (by decide) rfl rfl ?_
        refine rr_iload_n dX5_gather_60 rfl 0 rfl rfl ?_
        refine rr_if_eq (tgt := 142) dX5_gather_61 (by decide) rfl ⟨fun hc => absurd hc (by decide), fun _ => ?_⟩
        refine rr_aload_n dX5_gather_64 rfl 1 rfl rfl ?_
        refine rr_getI dX5_gather_65 fX5_66 (by decide) rfl rfl rfl ?_
        refine rr_bipush (v := (100 : Int32)) dX5_gather_68 (by decide) rfl ?_
        refine rr_icmp_ge (tgt := 142) dX5_gather_70 (by decide) rfl ⟨fun hc => ?_, fun hc => ?_⟩
        · have h := h.1 hc
          refine rr_iinc (k := 3) (v := (v2 + (1 : Int32))) (lv' := [(2, .int (v2 + (1 : Int32))), (3, .int (1 : Int32)), (0, .ref 17), (1, .ref b1)]) dX5_gather_142 rfl rfl (by decide) rfl rfl ?_
          refine rr_goto (tgt := 21) dX5_gather_145 (by decide) ?_
          exact rr.sub [2, 3, 0] rfl h
        · have h := h.2 hc
          refine rr_aload_n dX5_gather_73 rfl 2 rfl rfl ?_
          refine rr_getR dX5_gather_74 fX5_70 (bd_lt0 hb1) (bd_0 hb1) rfl rfl ?_
          refine rr_iload_n dX5_gather_77 rfl 3 rfl rfl ?_
          refine rr_aload_n dX5_gather_78 rfl 2 rfl rfl ?_
          refine rr_getR dX5_gather_79 fX5_88 (bd_lt0 hb1) (bd_0 hb1) rfl rfl ?_
          refine rr_V [.int v2, .ref (b1 + 9)] [] dX5_gather_82 kX2_touches mX5_91 ⟨by decide, by decide⟩ (bd_lt hb1 (by decide)) (bd_1 hb1) rfl rfl (Nat.le_of_ble_eq_true rfl) rfl (h.mono fun vr I3 J3 h => ?_)
          obtain ⟨r3, rfl, h⟩ := h
          show rr pgX zX5_gather 85 _ [.int r3] _ _ _
          refine rr_if_eq (tgt := 142) dX5_gather_85 (by decide) rfl ⟨fun hc => ?_, fun hc => ?_⟩
          · have h := h.1 hc
            refine rr_iinc (k := 3) (v := (v2 + (1 : Int32))) (lv' := [(2, .int (v2 + (1 : Int32))), (3, .int (1 : Int32)), (0, .ref 17), (1, .ref b1)]) dX5_gather_142 rfl rfl (by decide) rfl rfl ?_
            refine rr_goto (tgt := 21) dX5_gather_145 (by decide) ?_
            exact rr.sub [2, 3, 0] rfl h
          · have h := h.2 hc
            refine rr_aload_n dX5_gather_88 rfl 1 rfl rfl ?_
            refine rr_getR dX5_gather_89 fX5_41 (by decide) rfl rfl rfl ?_
            refine rr_aload_n dX5_gather_92 rfl 1 rfl rfl ?_
            refine rr_getI dX5_gather_93 fX5_66 (by decide) rfl rfl rfl ?_
            refine rr_iald dX5_gather_96 (by decide) rfl rfl ⟨h.1, ?_⟩
            have h := h.2
            refine rr_letTi (fun x1 hx1 => ?_)
            have h := h x1 hx1
            refine rr_istore (lv' := [(4, .int x1), (3, .int (1 : Int32)), (0, .ref 17), (1, .ref b1), (2, .int v2)]) dX5_gather_97 (by decide) rfl rfl ?_
            refine rr_aload_n dX5_gather_99 rfl 2 rfl rfl ?_
            refine rr_aload_n dX5_gather_100 rfl 3 rfl rfl ?_
            refine rr_iload_n dX5_gather_101 rfl 4 rfl rfl ?_
            refine rr_iload dX5_gather_102 0 rfl rfl ?_
            refine rr_V [.ref b1, .int v2, .int x1] [] dX5_gather_104 kX5_spread mX5_95 ⟨by decide, by decide⟩ (by decide) rfl rfl rfl (Nat.le_of_ble_eq_true rfl) rfl (h.mono fun vr I4 J4 h => ?_)
            obtain ⟨r4, rfl, h⟩ := h
            show rr pgX zX5_gather 107 _ [.int r4] _ _ _
            refine rr_istore (lv' := [(5, .int r4), (4, .int x1), (3, .int (1 : Int32)), (0, .ref 17), (1, .ref b1), (2, .int v2)]) dX5_gather_107 (by decide) rfl rfl ?_
            refine rr_aload_n dX5_gather_109 rfl 3 rfl rfl ?_
            refine rr_dup dX5_gather_110 rfl rfl ?_
            refine rr_getI dX5_gather_111 fX5_66 (by decide) rfl rfl rfl ?_
            refine rr_iconst (v := (1 : Int32)) dX5_gather_114 (by decide) rfl ?_
            refine rr_iadd dX5_gather_115 rfl ?_
            refine rr_putI dX5_gather_116 pX5_66 (by decide) rfl rfl rfl ?_
            refine rr_letI (fun I5 hI5 => ?_)
            have h := h I5 hI5
            refine rr_aload_n dX5_gather_119 rfl 3 rfl rfl ?_
            refine rr_getR dX5_gather_120 fX5_41 (by decide) rfl rfl rfl ?_
            refine rr_aload_n dX5_gather_123 rfl 3 rfl rfl ?_
            refine rr_getI dX5_gather_124 fX5_66 (by decide) rfl rfl rfl ?_
            refine rr_iload dX5_gather_127 0 rfl rfl ?_
            refine rr_iast dX5_gather_129 (by decide) rfl rfl ⟨h.1, ?_⟩
            refine rr_letI (fun I6 hI6 => ?_)
            have h := h.2 I6 hI6
            refine rr_iload dX5_gather_130 0 rfl rfl ?_
            refine rr_iload dX5_gather_132 1 rfl rfl ?_
            refine rr_isub dX5_gather_134 rfl ?_
            refine rr_bipush (v := (12 : Int32)) dX5_gather_135 (by decide) rfl ?_
            refine rr_icmp_le (tgt := 142) dX5_gather_137 (by decide) rfl ⟨fun hc => ?_, fun hc => ?_⟩
            · have h := h.1 hc
              refine rr_iinc (k := 5) (v := (v2 + (1 : Int32))) (lv' := [(2, .int (v2 + (1 : Int32))), (5, .int r4), (4, .int x1), (3, .int (1 : Int32)), (0, .ref 17), (1, .ref b1)]) dX5_gather_142 rfl rfl (by decide) rfl rfl ?_
              refine rr_goto (tgt := 21) dX5_gather_145 (by decide) ?_
              exact rr.sub [4, 5, 0] rfl h
            · have h := h.2 hc
              refine rr_iconst (v := (0 : Int32)) dX5_gather_140 (by decide) rfl ?_
              exact rr_zret dX5_gather_141 rfl rfl h

def l_X5_spread_31 (I : tg_I) (J : tg_J) (P : Option Value → tg_I → tg_J → Prop) (b1 : Nat) (v4 : Int32) (v5 : Int32) : Prop := rr pgX zX5_spread 31 [(0, .ref 17), (1, .ref b1), (4, .int v4), (5, .int v5)] [] I J P
def l_X5_spread_68 (I : tg_I) (J : tg_J) (P : Option Value → tg_I → tg_J → Prop) (b1 : Nat) (v4 : Int32) (v5 : Int32) (v6 : Int32) (v7 : Int32) : Prop := rr pgX zX5_spread 68 [(0, .ref 17), (1, .ref b1), (4, .int v4), (5, .int v5), (6, .int v6), (7, .int v7)] [] I J P
theorem e_X5_spread {I : tg_I} {J : tg_J} {P : Option Value → tg_I → tg_J → Prop} (b1 : Nat) (v2 : Int32) (v3 : Int32) (hb1 : isBd b1) (h :
  (v3 < (100 : Int32) →
   vp_in v3 100 ∧ ∀ I1, I1 = u2 I 31 (Int32.toNatClampNeg v3) v2 →
    call pgX zX0_add [.ref 28, .int v2] I1 J (fun vr I2 J1 => vr = none ∧
    (l_X5_spread_31 I2 J1 P b1 ((v3 + (1 : Int32))) v3))) ∧
  (¬ v3 < (100 : Int32) →
   P (some (.int v3)) I J)) : call pgX zX5_spread [.ref 17, .ref b1, .int v2, .int v3] I J P := by
  refine call_of (by decide +kernel) (fun _ => Nat.le_of_ble_eq_true rfl) ?_
  show rr pgX zX5_spread 0 [(0, .ref 17), (1, .ref b1), (2, .int v2), (3, .int v3)] [] I J P
  refine rr_iload_n dX5_spread_0 rfl 3 rfl rfl ?_
  refine rr_bipush (v := (100 : Int32)) dX5_spread_1 (by decide) rfl ?_
  refine rr_icmp_lt (tgt := 8) dX5_spread_3 (by decide) rfl ⟨fun hc => ?_, fun hc => ?_⟩
  · have h := h.1 hc
    refine rr_aload_n dX5_spread_8 rfl 0 rfl rfl ?_
    refine rr_getR dX5_spread_9 fX5_37 (by decide) rfl rfl rfl ?_
    refine rr_iload_n dX5_spread_12 rfl 3 rfl rfl ?_
    refine rr_iload_n dX5_spread_13 rfl 2 rfl rfl ?_
    refine rr_iast dX5_spread_14 (by decide) rfl rfl ⟨h.1, ?_⟩
    refine rr_letI (fun I1 hI1 => ?_)
    have h := h.2 I1 hI1
    refine rr_aload_n dX5_spread_15 rfl 0 rfl rfl ?_
    refine rr_getR dX5_spread_16 fX5_28 (by decide) rfl rfl rfl ?_
    refine rr_iload_n dX5_spread_19 rfl 2 rfl rfl ?_
    refine rr_V [.int v2] [] dX5_spread_20 kX0_add mX5_99 ⟨by decide, by decide⟩ (by decide) rfl rfl rfl (Nat.le_of_ble_eq_true rfl) rfl (h.mono fun vr I2 J1 h => ?_)
    obtain ⟨rfl, h⟩ := h
    show rr pgX zX5_spread 23 _ [] _ _ _
    refine rr_iload_n dX5_spread_23 rfl 3 rfl rfl ?_
    refine rr_iconst (v := (1 : Int32)) dX5_spread_24 (by decide) rfl ?_
    refine rr_iadd dX5_spread_25 rfl ?_
    refine rr_istore (lv' := [(4, .int (v3 + (1 : Int32))), (0, .ref 17), (1, .ref b1), (2, .int v2), (3, .int v3)]) dX5_spread_26 (by decide) rfl rfl ?_
    refine rr_iload_n dX5_spread_28 rfl 4 rfl rfl ?_
    refine rr_istore (lv' := [(5, .int v3), (4, .int (v3 + (1 : Int32))), (0, .ref 17), (1, .ref b1), (2, .int v2), (3, .int v3)]) dX5_spread_29 (by decide) rfl rfl ?_
    exact rr.sub [2, 3, 1, 0] rfl h
  · have h := h.2 hc
    refine rr_iload_n dX5_spread_6 rfl 3 rfl rfl ?_
    exact rr_iret dX5_spread_7 rfl h
theorem s_X5_spread_31 {I : tg_I} {J : tg_J} {P : Option Value → tg_I → tg_J → Prop} (b1 : Nat) (v4 : Int32) (v5 : Int32) (hb1 : isBd b1) (h :
  (v4 ≤ v5 →
   P (some (.int v4)) I J) ∧
  (¬ v4 ≤ v5 →
   ((100 : Int32) ≤ v5 →
     P (some (.int v4)) I J) ∧
    (¬ (100 : Int32) ≤ v5 →
     vp_in v5 100 ∧
      (∀ x1, x1 = (I 31 (Int32.toNatClampNeg v5)) →
      vp_in x1 100 ∧ ∀ I1, I1 = u2 I 33 (Int32.toNatClampNeg x1) (I 17 14) →
      l_X5_spread_68 I1 J P b1 v4 v5 x1 ((0 : Int32)))))) : l_X5_spread_31 I J P b1 v4 v5 := by
  show rr pgX zX5_spread 31 [(0, .ref 17), (1, .ref b1), (4, .int v4), (5, .int v5)] [] I J P
  refine rr_iload dX5_spread_31 3 rfl rfl ?_
  refine rr_iload dX5_spread_33 2 rfl rfl ?_
  refine rr_icmp_ge (tgt := 136) dX5_spread_35 (by decide) rfl ⟨fun hc => ?_, fun hc => ?_⟩
  · have h := h.1 hc
    refine rr_iload dX5_spread_136 2 rfl rfl ?_
    exact rr_iret dX5_spread_138 rfl h
  · have h := h.2 hc
    refine rr_iload dX5_spread_38 3 rfl rfl ?_
    refine rr_bipush (v := (100 : Int32)) dX5_spread_40 (by decide) rfl ?_
    refine rr_icmp_ge (tgt := 136) dX5_spread_42 (by decide) rfl ⟨fun hc => ?_, fun hc => ?_⟩
    · have h := h.1 hc
      refine rr_iload dX5_spread_136 2 rfl rfl ?_
      exact rr_iret dX5_spread_138 rfl h
    · have h := h.2 hc
      refine rr_aload_n dX5_spread_45 rfl 0 rfl rfl ?_
      refine rr_getR dX5_spread_46 fX5_37 (by decide) rfl rfl rfl ?_
      refine rr_iload dX5_spread_49 3 rfl rfl ?_
      refine rr_iald dX5_spread_51 (by decide) rfl rfl ⟨h.1, ?_⟩
      have h := h.2
      refine rr_letTi (fun x1 hx1 => ?_)
      have h := h x1 hx1
      refine rr_istore (lv' := [(6, .int x1), (0, .ref 17), (1, .ref b1), (4, .int v4), (5, .int v5)]) dX5_spread_52 (by decide) rfl rfl ?_
      refine rr_aload_n dX5_spread_54 rfl 1 rfl rfl ?_
      refine rr_getR dX5_spread_55 fX5_44 (by decide) rfl rfl rfl ?_
      refine rr_iload dX5_spread_58 0 rfl rfl ?_
      refine rr_aload_n dX5_spread_60 rfl 1 rfl rfl ?_
      refine rr_getI dX5_spread_61 fX5_66 (by decide) rfl rfl rfl ?_
      refine rr_iast dX5_spread_64 (by decide) rfl rfl ⟨h.1, ?_⟩
      refine rr_letI (fun I1 hI1 => ?_)
      have h := h.2 I1 hI1
      refine rr_iconst (v := (0 : Int32)) dX5_spread_65 (by decide) rfl ?_
      refine rr_istore (lv' := [(7, .int (0 : Int32)), (6, .int x1), (0, .ref 17), (1, .ref b1), (4, .int v4), (5, .int v5)]) dX5_spread_66 (by decide) rfl rfl ?_
      exact rr.sub [2, 3, 4, 5, 1, 0] rfl h
theorem s_X5_spread_68 {I : tg_I} {J : tg_J} {P : Option Value → tg_I → tg_J → Prop} (b1 : Nat) (v4 : Int32) (v5 : Int32) (v6 : Int32) (v7 : Int32) (hb1 : isBd b1) (h :
  vp_in v6 100 ∧
  (((I (b1 + 5) (Int32.toNatClampNeg v6)) ≤ v7 →
   l_X5_spread_31 I J P b1 v4 ((v5 + (1 : Int32)))) ∧
  (¬ (I (b1 + 5) (Int32.toNatClampNeg v6)) ≤ v7 →
   vp_in ((v6 * (8 : Int32)) + v7) 800 ∧
    (∀ x1, x1 = (I (b1 + 4) (Int32.toNatClampNeg ((v6 * (8 : Int32)) + v7))) →
    call pgX zX0_has [.ref (b1 + 9), .int x1] I J (fun vr I1 J1 => ∃ r1 : Int32, vr = some (.int r1) ∧
    ((r1 = 0 →
     l_X5_spread_68 I1 J1 P b1 v4 v5 v6 ((v7 + (1 : Int32)))) ∧
    (¬ r1 = 0 →
     call pgX zX5_listAround [.ref 17, .ref b1, .int x1, .int v4] I1 J1 (fun vr I2 J2 => ∃ r2 : Int32, vr = some (.int r2) ∧
      (l_X5_spread_68 I2 J2 P b1 r2 v5 v6 ((v7 + (1 : Int32)))))))))))) : l_X5_spread_68 I J P b1 v4 v5 v6 v7 := by
  show rr pgX zX5_spread 68 [(0, .ref 17), (1, .ref b1), (4, .int v4), (5, .int v5), (6, .int v6), (7, .int v7)] [] I J P
  refine rr_iload dX5_spread_68 5 rfl rfl ?_
  refine rr_aload_n dX5_spread_70 rfl 1 rfl rfl ?_
  refine rr_getR dX5_spread_71 fX5_70 (bd_lt0 hb1) (bd_0 hb1) rfl rfl ?_
  refine rr_getR dX5_spread_74 fX5_103 (bd_lt hb1 (by decide)) (bd_1 hb1) rfl rfl ?_
  refine rr_iload dX5_spread_77 4 rfl rfl ?_
  refine rr_iald dX5_spread_79 (bd_lt hb1 (by decide)) (bd_5 hb1) rfl ⟨h.1, ?_⟩
  have h := h.2
  refine rr_icmp_ge (tgt := 130) dX5_spread_80 (by decide) rfl ⟨fun hc => ?_, fun hc => ?_⟩
  · have h := h.1 hc
    refine rr_iinc (k := 3) (v := (v5 + (1 : Int32))) (lv' := [(5, .int (v5 + (1 : Int32))), (0, .ref 17), (1, .ref b1), (4, .int v4), (6, .int v6), (7, .int v7)]) dX5_spread_130 rfl rfl (by decide) rfl rfl ?_
    refine rr_goto (tgt := 31) dX5_spread_133 (by decide) ?_
    exact rr.sub [1, 2, 3, 0] rfl h
  · have h := h.2 hc
    refine rr_aload_n dX5_spread_83 rfl 1 rfl rfl ?_
    refine rr_getR dX5_spread_84 fX5_70 (bd_lt0 hb1) (bd_0 hb1) rfl rfl ?_
    refine rr_getR dX5_spread_87 fX5_106 (bd_lt hb1 (by decide)) (bd_1 hb1) rfl rfl ?_
    refine rr_iload dX5_spread_90 4 rfl rfl ?_
    refine rr_bipush (v := (8 : Int32)) dX5_spread_92 (by decide) rfl ?_
    refine rr_imul dX5_spread_94 rfl ?_
    refine rr_iload dX5_spread_95 5 rfl rfl ?_
    refine rr_iadd dX5_spread_97 rfl ?_
    refine rr_iald dX5_spread_98 (bd_lt hb1 (by decide)) (bd_4 hb1) rfl ⟨h.1, ?_⟩
    have h := h.2
    refine rr_letTi (fun x1 hx1 => ?_)
    have h := h x1 hx1
    refine rr_istore (lv' := [(8, .int x1), (0, .ref 17), (1, .ref b1), (4, .int v4), (5, .int v5), (6, .int v6), (7, .int v7)]) dX5_spread_99 (by decide) rfl rfl ?_
    refine rr_aload_n dX5_spread_101 rfl 2 rfl rfl ?_
    refine rr_getR dX5_spread_102 fX5_88 (bd_lt0 hb1) (bd_0 hb1) rfl rfl ?_
    refine rr_iload dX5_spread_105 0 rfl rfl ?_
    refine rr_V [.int x1] [] dX5_spread_107 kX0_has mX5_84 ⟨by decide, by decide⟩ (bd_lt hb1 (by decide)) (bd_9 hb1) rfl rfl (Nat.le_of_ble_eq_true rfl) rfl (h.mono fun vr I1 J1 h => ?_)
    obtain ⟨r1, rfl, h⟩ := h
    show rr pgX zX5_spread 110 _ [.int r1] _ _ _
    refine rr_if_eq (tgt := 124) dX5_spread_110 (by decide) rfl ⟨fun hc => ?_, fun hc => ?_⟩
    · have h := h.1 hc
      refine rr_iinc (k := 6) (v := (v7 + (1 : Int32))) (lv' := [(7, .int (v7 + (1 : Int32))), (8, .int x1), (0, .ref 17), (1, .ref b1), (4, .int v4), (5, .int v5), (6, .int v6)]) dX5_spread_124 rfl rfl (by decide) rfl rfl ?_
      refine rr_goto (tgt := 68) dX5_spread_127 (by decide) ?_
      exact rr.sub [2, 3, 4, 5, 6, 0] rfl h
    · have h := h.2 hc
      refine rr_aload_n dX5_spread_113 rfl 1 rfl rfl ?_
      refine rr_aload_n dX5_spread_114 rfl 2 rfl rfl ?_
      refine rr_iload dX5_spread_115 0 rfl rfl ?_
      refine rr_iload dX5_spread_117 3 rfl rfl ?_
      refine rr_V [.ref b1, .int x1, .int v4] [] dX5_spread_119 kX5_listAround mX5_109 ⟨by decide, by decide⟩ (by decide) rfl rfl rfl (Nat.le_of_ble_eq_true rfl) rfl (h.mono fun vr I2 J2 h => ?_)
      obtain ⟨r2, rfl, h⟩ := h
      show rr pgX zX5_spread 122 _ [.int r2] _ _ _
      refine rr_istore (lv' := [(4, .int r2), (8, .int x1), (0, .ref 17), (1, .ref b1), (5, .int v5), (6, .int v6), (7, .int v7)]) dX5_spread_122 (by decide) rfl rfl ?_
      refine rr_iinc (k := 6) (v := (v7 + (1 : Int32))) (lv' := [(7, .int (v7 + (1 : Int32))), (4, .int r2), (8, .int x1), (0, .ref 17), (1, .ref b1), (5, .int v5), (6, .int v6)]) dX5_spread_124 rfl rfl (by decide) rfl rfl ?_
      refine rr_goto (tgt := 68) dX5_spread_127 (by decide) ?_
      exact rr.sub [3, 4, 1, 5, 6, 0] rfl h

def l_X5_listAround_82 (I : tg_I) (J : tg_J) (P : Option Value → tg_I → tg_J → Prop) (b1 : Nat) (v2 : Int32) (v9 : Int32) (v10 : Int32) : Prop := rr pgX zX5_listAround 82 [(0, .ref 17), (1, .ref b1), (2, .int v2), (4, .ref (b1 + 1)), (9, .int v9), (10, .int v10)] [] I J P
theorem e_X5_listAround {I : tg_I} {J : tg_J} {P : Option Value → tg_I → tg_J → Prop} (b1 : Nat) (v2 : Int32) (v3 : Int32) (hb1 : isBd b1) (h :
  vp_in v2 100 ∧
  (∀ y1, y1 = (((J (b1 + 2) (Int32.toNatClampNeg v2)) &&& (J (b1 + 8) 0)) &&& ((J 28 0) ^^^ (-1 : Int64))) →
  vp_in v2 100 ∧
  (∀ y2, y2 = (((J (b1 + 3) (Int32.toNatClampNeg v2)) &&& (J (b1 + 8) 1)) &&& ((J 28 1) ^^^ (-1 : Int64))) →
  (¬ (lg_cmp (y1 ||| y2) (0 : Int64)) = 0 →
   l_X5_listAround_82 I J P b1 v2 v3 ((0 : Int32))) ∧
  ((lg_cmp (y1 ||| y2) (0 : Int64)) = 0 →
   P (some (.int v3)) I J)))) : call pgX zX5_listAround [.ref 17, .ref b1, .int v2, .int v3] I J P := by
  refine call_of (by decide +kernel) (fun _ => Nat.le_of_ble_eq_true rfl) ?_
  show rr pgX zX5_listAround 0 [(0, .ref 17), (1, .ref b1), (2, .int v2), (3, .int v3)] [] I J P
  refine rr_aload_n dX5_listAround_0 rfl 1 rfl rfl ?_
  refine rr_getR dX5_listAround_1 fX5_70 (bd_lt0 hb1) (bd_0 hb1) rfl rfl ?_
  refine rr_astore (lv' := [(4, .ref (b1 + 1)), (0, .ref 17), (1, .ref b1), (2, .int v2), (3, .int v3)]) dX5_listAround_4 (by decide) rfl rfl ?_
  refine rr_aload dX5_listAround_6 0 rfl rfl ?_
  refine rr_getR dX5_listAround_8 fX5_112 (bd_lt hb1 (by decide)) (bd_1 hb1) rfl rfl ?_
  refine rr_iload_n dX5_listAround_11 rfl 3 rfl rfl ?_
  refine rr_lald dX5_listAround_12 (bd_lt hb1 (by decide)) (bd_2 hb1) rfl ⟨h.1, ?_⟩
  have h := h.2
  refine rr_aload_n dX5_listAround_13 rfl 2 rfl rfl ?_
  refine rr_getR dX5_listAround_14 fX5_81 (bd_lt0 hb1) (bd_0 hb1) rfl rfl ?_
  refine rr_getJ dX5_listAround_17 fX5_115 (bd_lt hb1 (by decide)) (bd_8 hb1) rfl rfl ?_
  refine rr_land dX5_listAround_20 rfl ?_
  refine rr_aload_n dX5_listAround_21 rfl 1 rfl rfl ?_
  refine rr_getR dX5_listAround_22 fX5_28 (by decide) rfl rfl rfl ?_
  refine rr_getJ dX5_listAround_25 fX5_115 (by decide) rfl rfl rfl ?_
  refine rr_ldc2 dX5_listAround_28 qX5_119 rfl ?_
  refine rr_lxor dX5_listAround_31 rfl ?_
  refine rr_land dX5_listAround_32 rfl ?_
  refine rr_letTl (fun y1 hy1 => ?_)
  have h := h y1 hy1
  refine rr_lstore (lv' := [(5, .long y1), (4, .ref (b1 + 1)), (0, .ref 17), (1, .ref b1), (2, .int v2), (3, .int v3)]) dX5_listAround_33 (by decide) rfl rfl ?_
  refine rr_aload dX5_listAround_35 1 rfl rfl ?_
  refine rr_getR dX5_listAround_37 fX5_121 (bd_lt hb1 (by decide)) (bd_1 hb1) rfl rfl ?_
  refine rr_iload_n dX5_listAround_40 rfl 4 rfl rfl ?_
  refine rr_lald dX5_listAround_41 (bd_lt hb1 (by decide)) (bd_3 hb1) rfl ⟨h.1, ?_⟩
  have h := h.2
  refine rr_aload_n dX5_listAround_42 rfl 3 rfl rfl ?_
  refine rr_getR dX5_listAround_43 fX5_81 (bd_lt0 hb1) (bd_0 hb1) rfl rfl ?_
  refine rr_getJ dX5_listAround_46 fX5_124 (bd_lt hb1 (by decide)) (bd_8 hb1) rfl rfl ?_
  refine rr_land dX5_listAround_49 rfl ?_
  refine rr_aload_n dX5_listAround_50 rfl 2 rfl rfl ?_
  refine rr_getR dX5_listAround_51 fX5_28 (by decide) rfl rfl rfl ?_
  refine rr_getJ dX5_listAround_54 fX5_124 (by decide) rfl rfl rfl ?_
  refine rr_ldc2 dX5_listAround_57 qX5_119 rfl ?_
  refine rr_lxor dX5_listAround_60 rfl ?_
  refine rr_land dX5_listAround_61 rfl ?_
  refine rr_letTl (fun y2 hy2 => ?_)
  have h := h y2 hy2
  refine rr_lstore (lv' := [(7, .long y2), (5, .long y1), (4, .ref (b1 + 1)), (0, .ref 17), (1, .ref b1), (2, .int v2), (3, .int v3)]) dX5_listAround_62 (by decide) rfl rfl ?_
  refine rr_lload dX5_listAround_64 1 rfl rfl ?_
  refine rr_lload dX5_listAround_66 0 rfl rfl ?_
  refine rr_lor dX5_listAround_68 rfl ?_
  refine rr_lconst (v := (0 : Int64)) dX5_listAround_69 (by decide) rfl ?_
  refine rr_lcmp dX5_listAround_70 rfl ?_
  refine rr_if_ne (tgt := 76) dX5_listAround_71 (by decide) rfl ⟨fun hc => ?_, fun hc => ?_⟩
  · have h := h.1 hc
    refine rr_iload_n dX5_listAround_76 rfl 6 rfl rfl ?_
    refine rr_istore (lv' := [(9, .int v3), (7, .long y2), (5, .long y1), (4, .ref (b1 + 1)), (0, .ref 17), (1, .ref b1), (2, .int v2), (3, .int v3)]) dX5_listAround_77 (by decide) rfl rfl ?_
    refine rr_iconst (v := (0 : Int32)) dX5_listAround_79 (by decide) rfl ?_
    refine rr_istore (lv' := [(10, .int (0 : Int32)), (9, .int v3), (7, .long y2), (5, .long y1), (4, .ref (b1 + 1)), (0, .ref 17), (1, .ref b1), (2, .int v2), (3, .int v3)]) dX5_listAround_80 (by decide) rfl rfl ?_
    exact rr.sub [5, 6, 7, 4, 1, 0] rfl h
  · have h := h.2 hc
    refine rr_iload_n dX5_listAround_74 rfl 6 rfl rfl ?_
    exact rr_iret dX5_listAround_75 rfl h
theorem s_X5_listAround_82 {I : tg_I} {J : tg_J} {P : Option Value → tg_I → tg_J → Prop} (b1 : Nat) (v2 : Int32) (v9 : Int32) (v10 : Int32) (hb1 : isBd b1) (h :
  vp_in v2 100 ∧
  (((I (b1 + 5) (Int32.toNatClampNeg v2)) ≤ v10 →
   P (some (.int v9)) I J) ∧
  (¬ (I (b1 + 5) (Int32.toNatClampNeg v2)) ≤ v10 →
   vp_in ((v2 * (8 : Int32)) + v10) 800 ∧
    (∀ x1, x1 = (I (b1 + 4) (Int32.toNatClampNeg ((v2 * (8 : Int32)) + v10))) →
    call pgX zX0_has [.ref (b1 + 8), .int x1] I J (fun vr I1 J1 => ∃ r1 : Int32, vr = some (.int r1) ∧
    ((r1 = 0 →
     l_X5_listAround_82 I1 J1 P b1 v2 v9 ((v10 + (1 : Int32)))) ∧
    (¬ r1 = 0 →
     call pgX zX0_has [.ref 28, .int x1] I1 J1 (fun vr I2 J2 => ∃ r2 : Int32, vr = some (.int r2) ∧
      ((¬ r2 = 0 →
       l_X5_listAround_82 I2 J2 P b1 v2 v9 ((v10 + (1 : Int32)))) ∧
      (r2 = 0 →
       ((100 : Int32) ≤ v9 →
         l_X5_listAround_82 I2 J2 P b1 v2 v9 ((v10 + (1 : Int32)))) ∧
        (¬ (100 : Int32) ≤ v9 →
         call pgX zX0_add [.ref 28, .int x1] I2 J2 (fun vr I3 J3 => vr = none ∧
          (vp_in v9 100 ∧ ∀ I4, I4 = u2 I3 31 (Int32.toNatClampNeg v9) x1 →
          l_X5_listAround_82 I4 J3 P b1 v2 ((v9 + (1 : Int32))) ((v10 + (1 : Int32)))))))))))))))) : l_X5_listAround_82 I J P b1 v2 v9 v10 := by
  show rr pgX zX5_listAround 82 [(0, .ref 17), (1, .ref b1), (2, .int v2), (4, .ref (b1 + 1)), (9, .int v9), (10, .int v10)] [] I J P
  refine rr_iload dX5_listAround_82 5 rfl rfl ?_
  refine rr_aload dX5_listAround_84 3 rfl rfl ?_
  refine rr_getR dX5_listAround_86 fX5_103 (bd_lt hb1 (by decide)) (bd_1 hb1) rfl rfl ?_
  refine rr_iload_n dX5_listAround_89 rfl 2 rfl rfl ?_
  refine rr_iald dX5_listAround_90 (bd_lt hb1 (by decide)) (bd_5 hb1) rfl ⟨h.1, ?_⟩
  have h := h.2
  refine rr_icmp_ge (tgt := 167) dX5_listAround_91 (by decide) rfl ⟨fun hc => ?_, fun hc => ?_⟩
  · have h := h.1 hc
    refine rr_iload dX5_listAround_167 4 rfl rfl ?_
    exact rr_iret dX5_listAround_169 rfl h
  · have h := h.2 hc
    refine rr_aload dX5_listAround_94 3 rfl rfl ?_
    refine rr_getR dX5_listAround_96 fX5_106 (bd_lt hb1 (by decide)) (bd_1 hb1) rfl rfl ?_
    refine rr_iload_n dX5_listAround_99 rfl 2 rfl rfl ?_
    refine rr_bipush (v := (8 : Int32)) dX5_listAround_100 (by decide) rfl ?_
    refine rr_imul dX5_listAround_102 rfl ?_
    refine rr_iload dX5_listAround_103 5 rfl rfl ?_
    refine rr_iadd dX5_listAround_105 rfl ?_
    refine rr_iald dX5_listAround_106 (bd_lt hb1 (by decide)) (bd_4 hb1) rfl ⟨h.1, ?_⟩
    have h := h.2
    refine rr_letTi (fun x1 hx1 => ?_)
    have h := h x1 hx1
    refine rr_istore (lv' := [(11, .int x1), (0, .ref 17), (1, .ref b1), (2, .int v2), (4, .ref (b1 + 1)), (9, .int v9), (10, .int v10)]) dX5_listAround_107 (by decide) rfl rfl ?_
    refine rr_aload_n dX5_listAround_109 rfl 2 rfl rfl ?_
    refine rr_getR dX5_listAround_110 fX5_81 (bd_lt0 hb1) (bd_0 hb1) rfl rfl ?_
    refine rr_iload dX5_listAround_113 0 rfl rfl ?_
    refine rr_V [.int x1] [] dX5_listAround_115 kX0_has mX5_84 ⟨by decide, by decide⟩ (bd_lt hb1 (by decide)) (bd_8 hb1) rfl rfl (Nat.le_of_ble_eq_true rfl) rfl (h.mono fun vr I1 J1 h => ?_)
    obtain ⟨r1, rfl, h⟩ := h
    show rr pgX zX5_listAround 118 _ [.int r1] _ _ _
    refine rr_if_eq (tgt := 161) dX5_listAround_118 (by decide) rfl ⟨fun hc => ?_, fun hc => ?_⟩
    · have h := h.1 hc
      refine rr_iinc (k := 6) (v := (v10 + (1 : Int32))) (lv' := [(10, .int (v10 + (1 : Int32))), (11, .int x1), (0, .ref 17), (1, .ref b1), (2, .int v2), (4, .ref (b1 + 1)), (9, .int v9)]) dX5_listAround_161 rfl rfl (by decide) rfl rfl ?_
      refine rr_goto (tgt := 82) dX5_listAround_164 (by decide) ?_
      exact rr.sub [2, 3, 4, 5, 6, 0] rfl h
    · have h := h.2 hc
      refine rr_aload_n dX5_listAround_121 rfl 1 rfl rfl ?_
      refine rr_getR dX5_listAround_122 fX5_28 (by decide) rfl rfl rfl ?_
      refine rr_iload dX5_listAround_125 0 rfl rfl ?_
      refine rr_V [.int x1] [] dX5_listAround_127 kX0_has mX5_84 ⟨by decide, by decide⟩ (by decide) rfl rfl rfl (Nat.le_of_ble_eq_true rfl) rfl (h.mono fun vr I2 J2 h => ?_)
      obtain ⟨r2, rfl, h⟩ := h
      show rr pgX zX5_listAround 130 _ [.int r2] _ _ _
      refine rr_if_ne (tgt := 161) dX5_listAround_130 (by decide) rfl ⟨fun hc => ?_, fun hc => ?_⟩
      · have h := h.1 hc
        refine rr_iinc (k := 6) (v := (v10 + (1 : Int32))) (lv' := [(10, .int (v10 + (1 : Int32))), (11, .int x1), (0, .ref 17), (1, .ref b1), (2, .int v2), (4, .ref (b1 + 1)), (9, .int v9)]) dX5_listAround_161 rfl rfl (by decide) rfl rfl ?_
        refine rr_goto (tgt := 82) dX5_listAround_164 (by decide) ?_
        exact rr.sub [2, 3, 4, 5, 6, 0] rfl h
      · have h := h.2 hc
        refine rr_iload dX5_listAround_133 5 rfl rfl ?_
        refine rr_bipush (v := (100 : Int32)) dX5_listAround_135 (by decide) rfl ?_
        refine rr_icmp_ge (tgt := 161) dX5_listAround_137 (by decide) rfl ⟨fun hc => ?_, fun hc => ?_⟩
        · have h := h.1 hc
          refine rr_iinc (k := 6) (v := (v10 + (1 : Int32))) (lv' := [(10, .int (v10 + (1 : Int32))), (11, .int x1), (0, .ref 17), (1, .ref b1), (2, .int v2), (4, .ref (b1 + 1)), (9, .int v9)]) dX5_listAround_161 rfl rfl (by decide) rfl rfl ?_
          refine rr_goto (tgt := 82) dX5_listAround_164 (by decide) ?_
          exact rr.sub [2, 3, 4, 5, 6, 0] rfl h
        · have h := h.2 hc
          refine rr_aload_n dX5_listAround_140 rfl 1 rfl rfl ?_
          refine rr_getR dX5_listAround_141 fX5_28 (by decide) rfl rfl rfl ?_
          refine rr_iload dX5_listAround_144 0 rfl rfl ?_
          refine rr_V [.int x1] [] dX5_listAround_146 kX0_add mX5_99 ⟨by decide, by decide⟩ (by decide) rfl rfl rfl (Nat.le_of_ble_eq_true rfl) rfl (h.mono fun vr I3 J3 h => ?_)
          obtain ⟨rfl, h⟩ := h
          show rr pgX zX5_listAround 149 _ [] _ _ _
          refine rr_aload_n dX5_listAround_149 rfl 1 rfl rfl ?_
          refine rr_getR dX5_listAround_150 fX5_37 (by decide) rfl rfl rfl ?_
          refine rr_iload dX5_listAround_153 5 rfl rfl ?_
          refine rr_iload dX5_listAround_155 0 rfl rfl ?_
          refine rr_iast dX5_listAround_157 (by decide) rfl rfl ⟨h.1, ?_⟩
          refine rr_letI (fun I4 hI4 => ?_)
          have h := h.2 I4 hI4
          refine rr_iinc (k := 5) (v := (v9 + (1 : Int32))) (lv' := [(9, .int (v9 + (1 : Int32))), (11, .int x1), (0, .ref 17), (1, .ref b1), (2, .int v2), (4, .ref (b1 + 1)), (10, .int v10)]) dX5_listAround_158 rfl rfl (by decide) rfl rfl ?_
          refine rr_iinc (k := 6) (v := (v10 + (1 : Int32))) (lv' := [(10, .int (v10 + (1 : Int32))), (9, .int (v9 + (1 : Int32))), (11, .int x1), (0, .ref 17), (1, .ref b1), (2, .int v2), (4, .ref (b1 + 1))]) dX5_listAround_161 rfl rfl (by decide) rfl rfl ?_
          refine rr_goto (tgt := 82) dX5_listAround_164 (by decide) ?_
          exact rr.sub [3, 4, 5, 6, 1, 0] rfl h

def l_X5_study_2 (I : tg_I) (J : tg_J) (P : Option Value → tg_I → tg_J → Prop) (b1 : Nat) (v2 : Int32) : Prop := rr pgX zX5_study 2 [(0, .ref 17), (1, .ref b1), (2, .int v2)] [] I J P
def l_X5_study_24 (I : tg_I) (J : tg_J) (P : Option Value → tg_I → tg_J → Prop) (b1 : Nat) (v2 : Int32) (v3 : Int32) : Prop := rr pgX zX5_study 24 [(0, .ref 17), (1, .ref b1), (2, .int v2), (3, .int v3)] [] I J P
theorem e_X5_study {I : tg_I} {J : tg_J} {P : Option Value → tg_I → tg_J → Prop} (b1 : Nat) (hb1 : isBd b1) (h :
  l_X5_study_2 I J P b1 ((0 : Int32))) : call pgX zX5_study [.ref 17, .ref b1] I J P := by
  refine call_of (by decide +kernel) (fun _ => Nat.le_of_ble_eq_true rfl) ?_
  show rr pgX zX5_study 0 [(0, .ref 17), (1, .ref b1)] [] I J P
  refine rr_iconst (v := (0 : Int32)) dX5_study_0 (by decide) rfl ?_
  refine rr_istore_n (lv' := [(2, .int (0 : Int32)), (0, .ref 17), (1, .ref b1)]) dX5_study_1 rfl (by decide) rfl rfl ?_
  exact rr.sub [1, 2, 0] rfl h
theorem s_X5_study_2 {I : tg_I} {J : tg_J} {P : Option Value → tg_I → tg_J → Prop} (b1 : Nat) (v2 : Int32) (hb1 : isBd b1) (h :
  ((I 17 14) ≤ v2 →
   P none I J) ∧
  (¬ (I 17 14) ≤ v2 →
   call pgX zX7_clear [.ref 20] I J (fun vr I1 J1 => vr = none ∧
    (vp_in v2 101 ∧
    (∀ x1, x1 = (I1 32 (Int32.toNatClampNeg v2)) →
    l_X5_study_24 I1 J1 P b1 v2 x1))))) : l_X5_study_2 I J P b1 v2 := by
  show rr pgX zX5_study 2 [(0, .ref 17), (1, .ref b1), (2, .int v2)] [] I J P
  refine rr_iload_n dX5_study_2 rfl 2 rfl rfl ?_
  refine rr_aload_n dX5_study_3 rfl 0 rfl rfl ?_
  refine rr_getI dX5_study_4 fX5_66 (by decide) rfl rfl rfl ?_
  refine rr_icmp_ge (tgt := 86) dX5_study_7 (by decide) rfl ⟨fun hc => ?_, fun hc => ?_⟩
  · have h := h.1 hc
    exact rr_vret dX5_study_86 rfl h
  · have h := h.2 hc
    refine rr_aload_n dX5_study_10 rfl 0 rfl rfl ?_
    refine rr_getR dX5_study_11 fX5_24 (by decide) rfl rfl rfl ?_
    refine rr_V [] [] dX5_study_14 kX7_clear mX5_127 ⟨by decide, by decide⟩ (by decide) rfl rfl rfl (Nat.le_of_ble_eq_true rfl) rfl (h.mono fun vr I1 J1 h => ?_)
    obtain ⟨rfl, h⟩ := h
    show rr pgX zX5_study 17 _ [] _ _ _
    refine rr_aload_n dX5_study_17 rfl 0 rfl rfl ?_
    refine rr_getR dX5_study_18 fX5_41 (by decide) rfl rfl rfl ?_
    refine rr_iload_n dX5_study_21 rfl 2 rfl rfl ?_
    refine rr_iald dX5_study_22 (by decide) rfl rfl ⟨h.1, ?_⟩
    have h := h.2
    refine rr_letTi (fun x1 hx1 => ?_)
    have h := h x1 hx1
    refine rr_istore_n (lv' := [(3, .int x1), (0, .ref 17), (1, .ref b1), (2, .int v2)]) dX5_study_23 rfl (by decide) rfl rfl ?_
    exact rr.sub [1, 2, 3, 0] rfl h
theorem s_X5_study_24 {I : tg_I} {J : tg_J} {P : Option Value → tg_I → tg_J → Prop} (b1 : Nat) (v2 : Int32) (v3 : Int32) (hb1 : isBd b1) (h :
  vp_in (v2 + (1 : Int32)) 101 ∧
  (((I 32 (Int32.toNatClampNeg (v2 + (1 : Int32)))) ≤ v3 →
   call pgX zX7_bind [.ref 20, .ref b1, .ref (b1 + 9)] I J (fun vr I1 J1 => vr = none ∧
    (call pgX zX7_run [.ref 20] I1 J1 (fun vr I2 J2 => vr = none ∧
    (call pgX zX5_keepCounts [.ref 17, .int v2] I2 J2 (fun vr I3 J3 => vr = none ∧
    (l_X5_study_2 I3 J3 P b1 ((v2 + (1 : Int32)))))))))) ∧
  (¬ (I 32 (Int32.toNatClampNeg (v2 + (1 : Int32)))) ≤ v3 →
   vp_in v3 100 ∧
    (call pgX zX7_push [.ref 20, .int (I 31 (Int32.toNatClampNeg v3))] I J (fun vr I4 J4 => ∃ r1 : Int32, vr = some (.int r1) ∧
    (l_X5_study_24 I4 J4 P b1 v2 ((v3 + (1 : Int32))))))))) : l_X5_study_24 I J P b1 v2 v3 := by
  show rr pgX zX5_study 24 [(0, .ref 17), (1, .ref b1), (2, .int v2), (3, .int v3)] [] I J P
  refine rr_iload_n dX5_study_24 rfl 3 rfl rfl ?_
  refine rr_aload_n dX5_study_25 rfl 0 rfl rfl ?_
  refine rr_getR dX5_study_26 fX5_41 (by decide) rfl rfl rfl ?_
  refine rr_iload_n dX5_study_29 rfl 2 rfl rfl ?_
  refine rr_iconst (v := (1 : Int32)) dX5_study_30 (by decide) rfl ?_
  refine rr_iadd dX5_study_31 rfl ?_
  refine rr_iald dX5_study_32 (by decide) rfl rfl ⟨h.1, ?_⟩
  have h := h.2
  refine rr_icmp_ge (tgt := 56) dX5_study_33 (by decide) rfl ⟨fun hc => ?_, fun hc => ?_⟩
  · have h := h.1 hc
    refine rr_aload_n dX5_study_56 rfl 0 rfl rfl ?_
    refine rr_getR dX5_study_57 fX5_24 (by decide) rfl rfl rfl ?_
    refine rr_aload_n dX5_study_60 rfl 1 rfl rfl ?_
    refine rr_aload_n dX5_study_61 rfl 1 rfl rfl ?_
    refine rr_getR dX5_study_62 fX5_88 (bd_lt0 hb1) (bd_0 hb1) rfl rfl ?_
    refine rr_V [.ref b1, .ref (b1 + 9)] [] dX5_study_65 kX7_bind mX5_131 ⟨by decide, by decide⟩ (by decide) rfl rfl rfl (Nat.le_of_ble_eq_true rfl) rfl (h.mono fun vr I1 J1 h => ?_)
    obtain ⟨rfl, h⟩ := h
    show rr pgX zX5_study 68 _ [] _ _ _
    refine rr_aload_n dX5_study_68 rfl 0 rfl rfl ?_
    refine rr_getR dX5_study_69 fX5_24 (by decide) rfl rfl rfl ?_
    refine rr_V [] [] dX5_study_72 kX7_run mX5_135 ⟨by decide, by decide⟩ (by decide) rfl rfl rfl (Nat.le_of_ble_eq_true rfl) rfl (h.mono fun vr I2 J2 h => ?_)
    obtain ⟨rfl, h⟩ := h
    show rr pgX zX5_study 75 _ [] _ _ _
    refine rr_aload_n dX5_study_75 rfl 0 rfl rfl ?_
    refine rr_iload_n dX5_study_76 rfl 2 rfl rfl ?_
    refine rr_V [.int v2] [] dX5_study_77 kX5_keepCounts mX5_138 ⟨by decide, by decide⟩ (by decide) rfl rfl rfl (Nat.le_of_ble_eq_true rfl) rfl (h.mono fun vr I3 J3 h => ?_)
    obtain ⟨rfl, h⟩ := h
    show rr pgX zX5_study 80 _ [] _ _ _
    refine rr_iinc (k := 2) (v := (v2 + (1 : Int32))) (lv' := [(2, .int (v2 + (1 : Int32))), (0, .ref 17), (1, .ref b1), (3, .int v3)]) dX5_study_80 rfl rfl (by decide) rfl rfl ?_
    refine rr_goto (tgt := 2) dX5_study_83 (by decide) ?_
    exact rr.sub [1, 2, 0] rfl h
  · have h := h.2 hc
    refine rr_aload_n dX5_study_36 rfl 0 rfl rfl ?_
    refine rr_getR dX5_study_37 fX5_24 (by decide) rfl rfl rfl ?_
    refine rr_aload_n dX5_study_40 rfl 0 rfl rfl ?_
    refine rr_getR dX5_study_41 fX5_37 (by decide) rfl rfl rfl ?_
    refine rr_iload_n dX5_study_44 rfl 3 rfl rfl ?_
    refine rr_iald dX5_study_45 (by decide) rfl rfl ⟨h.1, ?_⟩
    have h := h.2
    refine rr_V [.int (I 31 (Int32.toNatClampNeg v3))] [] dX5_study_46 kX7_push mX5_128 ⟨by decide, by decide⟩ (by decide) rfl rfl rfl (Nat.le_of_ble_eq_true rfl) rfl (h.mono fun vr I4 J4 h => ?_)
    obtain ⟨r1, rfl, h⟩ := h
    show rr pgX zX5_study 49 _ [.int r1] _ _ _
    refine rr_pop dX5_study_49 rfl rfl ?_
    refine rr_iinc (k := 3) (v := (v3 + (1 : Int32))) (lv' := [(3, .int (v3 + (1 : Int32))), (0, .ref 17), (1, .ref b1), (2, .int v2)]) dX5_study_50 rfl rfl (by decide) rfl rfl ?_
    refine rr_goto (tgt := 24) dX5_study_53 (by decide) ?_
    exact rr.sub [1, 2, 3, 0] rfl h

def l_X5_keepCounts_2 (I : tg_I) (J : tg_J) (P : Option Value → tg_I → tg_J → Prop) (v1 : Int32) (v2 : Int32) : Prop := rr pgX zX5_keepCounts 2 [(0, .ref 17), (1, .int v1), (2, .int v2)] [] I J P
def l_X5_keepCounts_34 (I : tg_I) (J : tg_J) (P : Option Value → tg_I → tg_J → Prop) (v1 : Int32) (v2 : Int32) (v3 : Int32) : Prop := rr pgX zX5_keepCounts 34 [(0, .ref 17), (1, .int v1), (2, .int v2), (3, .int v3)] [] I J P
theorem e_X5_keepCounts {I : tg_I} {J : tg_J} {P : Option Value → tg_I → tg_J → Prop} (v1 : Int32) (h :
  l_X5_keepCounts_2 I J P v1 ((0 : Int32))) : call pgX zX5_keepCounts [.ref 17, .int v1] I J P := by
  refine call_of (by decide +kernel) (fun _ => Nat.le_of_ble_eq_true rfl) ?_
  show rr pgX zX5_keepCounts 0 [(0, .ref 17), (1, .int v1)] [] I J P
  refine rr_iconst (v := (0 : Int32)) dX5_keepCounts_0 (by decide) rfl ?_
  refine rr_istore_n (lv' := [(2, .int (0 : Int32)), (0, .ref 17), (1, .int v1)]) dX5_keepCounts_1 rfl (by decide) rfl rfl ?_
  exact rr.sub [1, 2, 0] rfl h
theorem s_X5_keepCounts_2 {I : tg_I} {J : tg_J} {P : Option Value → tg_I → tg_J → Prop} (v1 : Int32) (v2 : Int32) (h :
  ((13 : Int32) ≤ v2 →
   P none I J) ∧
  (¬ (13 : Int32) ≤ v2 →
   call pgX zX7_found [.ref 20, .int v2] I J (fun vr I1 J1 => ∃ r1 : Int32, vr = some (.int r1) ∧
    (vp_in ((v1 * (13 : Int32)) + v2) 1300 ∧ ∀ I2, I2 = u2 I1 34 (Int32.toNatClampNeg ((v1 * (13 : Int32)) + v2)) r1 →
    vp_in v1 101 ∧
    (∀ x1, x1 = (I2 32 (Int32.toNatClampNeg v1)) →
    l_X5_keepCounts_34 I2 J1 P v1 v2 x1))))) : l_X5_keepCounts_2 I J P v1 v2 := by
  show rr pgX zX5_keepCounts 2 [(0, .ref 17), (1, .int v1), (2, .int v2)] [] I J P
  refine rr_iload_n dX5_keepCounts_2 rfl 2 rfl rfl ?_
  refine rr_bipush (v := (13 : Int32)) dX5_keepCounts_3 (by decide) rfl ?_
  refine rr_icmp_ge (tgt := 94) dX5_keepCounts_5 (by decide) rfl ⟨fun hc => ?_, fun hc => ?_⟩
  · have h := h.1 hc
    exact rr_vret dX5_keepCounts_94 rfl h
  · have h := h.2 hc
    refine rr_aload_n dX5_keepCounts_8 rfl 0 rfl rfl ?_
    refine rr_getR dX5_keepCounts_9 fX5_47 (by decide) rfl rfl rfl ?_
    refine rr_iload_n dX5_keepCounts_12 rfl 1 rfl rfl ?_
    refine rr_bipush (v := (13 : Int32)) dX5_keepCounts_13 (by decide) rfl ?_
    refine rr_imul dX5_keepCounts_15 rfl ?_
    refine rr_iload_n dX5_keepCounts_16 rfl 2 rfl rfl ?_
    refine rr_iadd dX5_keepCounts_17 rfl ?_
    refine rr_aload_n dX5_keepCounts_18 rfl 0 rfl rfl ?_
    refine rr_getR dX5_keepCounts_19 fX5_24 (by decide) rfl rfl rfl ?_
    refine rr_iload_n dX5_keepCounts_22 rfl 2 rfl rfl ?_
    refine rr_V [.int v2] [.int ((v1 * (13 : Int32)) + v2), .ref 34] dX5_keepCounts_23 kX7_found mX5_141 ⟨by decide, by decide⟩ (by decide) rfl rfl rfl (Nat.le_of_ble_eq_true rfl) rfl (h.mono fun vr I1 J1 h => ?_)
    obtain ⟨r1, rfl, h⟩ := h
    show rr pgX zX5_keepCounts 26 _ [.int r1, .int ((v1 * (13 : Int32)) + v2), .ref 34] _ _ _
    refine rr_iast dX5_keepCounts_26 (by decide) rfl rfl ⟨h.1, ?_⟩
    refine rr_letI (fun I2 hI2 => ?_)
    have h := h.2 I2 hI2
    refine rr_aload_n dX5_keepCounts_27 rfl 0 rfl rfl ?_
    refine rr_getR dX5_keepCounts_28 fX5_41 (by decide) rfl rfl rfl ?_
    refine rr_iload_n dX5_keepCounts_31 rfl 1 rfl rfl ?_
    refine rr_iald dX5_keepCounts_32 (by decide) rfl rfl ⟨h.1, ?_⟩
    have h := h.2
    refine rr_letTi (fun x1 hx1 => ?_)
    have h := h x1 hx1
    refine rr_istore_n (lv' := [(3, .int x1), (0, .ref 17), (1, .int v1), (2, .int v2)]) dX5_keepCounts_33 rfl (by decide) rfl rfl ?_
    exact rr.sub [1, 2, 3, 0] rfl h
theorem s_X5_keepCounts_34 {I : tg_I} {J : tg_J} {P : Option Value → tg_I → tg_J → Prop} (v1 : Int32) (v2 : Int32) (v3 : Int32) (h :
  vp_in (v1 + (1 : Int32)) 101 ∧
  (((I 32 (Int32.toNatClampNeg (v1 + (1 : Int32)))) ≤ v3 →
   l_X5_keepCounts_2 I J P v1 ((v2 + (1 : Int32)))) ∧
  (¬ (I 32 (Int32.toNatClampNeg (v1 + (1 : Int32)))) ≤ v3 →
   vp_in v1 101 ∧
    (∀ x1, x1 = (v3 - (I 32 (Int32.toNatClampNeg v1))) →
    vp_in v3 100 ∧
    (call pgX zX7_foundHolding [.ref 20, .int x1, .int v2] I J (fun vr I1 J1 => ∃ r1 : Int32, vr = some (.int r1) ∧
    (vp_in (((I 31 (Int32.toNatClampNeg v3)) * (13 : Int32)) + v2) 1300 ∧ ∀ I2, I2 = u2 I1 35 (Int32.toNatClampNeg (((I 31 (Int32.toNatClampNeg v3)) * (13 : Int32)) + v2)) r1 →
    l_X5_keepCounts_34 I2 J1 P v1 v2 ((v3 + (1 : Int32)))))))))) : l_X5_keepCounts_34 I J P v1 v2 v3 := by
  show rr pgX zX5_keepCounts 34 [(0, .ref 17), (1, .int v1), (2, .int v2), (3, .int v3)] [] I J P
  refine rr_iload_n dX5_keepCounts_34 rfl 3 rfl rfl ?_
  refine rr_aload_n dX5_keepCounts_35 rfl 0 rfl rfl ?_
  refine rr_getR dX5_keepCounts_36 fX5_41 (by decide) rfl rfl rfl ?_
  refine rr_iload_n dX5_keepCounts_39 rfl 1 rfl rfl ?_
  refine rr_iconst (v := (1 : Int32)) dX5_keepCounts_40 (by decide) rfl ?_
  refine rr_iadd dX5_keepCounts_41 rfl ?_
  refine rr_iald dX5_keepCounts_42 (by decide) rfl rfl ⟨h.1, ?_⟩
  have h := h.2
  refine rr_icmp_ge (tgt := 88) dX5_keepCounts_43 (by decide) rfl ⟨fun hc => ?_, fun hc => ?_⟩
  · have h := h.1 hc
    refine rr_iinc (k := 2) (v := (v2 + (1 : Int32))) (lv' := [(2, .int (v2 + (1 : Int32))), (0, .ref 17), (1, .int v1), (3, .int v3)]) dX5_keepCounts_88 rfl rfl (by decide) rfl rfl ?_
    refine rr_goto (tgt := 2) dX5_keepCounts_91 (by decide) ?_
    exact rr.sub [1, 2, 0] rfl h
  · have h := h.2 hc
    refine rr_iload_n dX5_keepCounts_46 rfl 3 rfl rfl ?_
    refine rr_aload_n dX5_keepCounts_47 rfl 0 rfl rfl ?_
    refine rr_getR dX5_keepCounts_48 fX5_41 (by decide) rfl rfl rfl ?_
    refine rr_iload_n dX5_keepCounts_51 rfl 1 rfl rfl ?_
    refine rr_iald dX5_keepCounts_52 (by decide) rfl rfl ⟨h.1, ?_⟩
    have h := h.2
    refine rr_isub dX5_keepCounts_53 rfl ?_
    refine rr_letTi (fun x1 hx1 => ?_)
    have h := h x1 hx1
    refine rr_istore (lv' := [(4, .int x1), (0, .ref 17), (1, .int v1), (2, .int v2), (3, .int v3)]) dX5_keepCounts_54 (by decide) rfl rfl ?_
    refine rr_aload_n dX5_keepCounts_56 rfl 1 rfl rfl ?_
    refine rr_getR dX5_keepCounts_57 fX5_50 (by decide) rfl rfl rfl ?_
    refine rr_aload_n dX5_keepCounts_60 rfl 1 rfl rfl ?_
    refine rr_getR dX5_keepCounts_61 fX5_37 (by decide) rfl rfl rfl ?_
    refine rr_iload_n dX5_keepCounts_64 rfl 4 rfl rfl ?_
    refine rr_iald dX5_keepCounts_65 (by decide) rfl rfl ⟨h.1, ?_⟩
    have h := h.2
    refine rr_bipush (v := (13 : Int32)) dX5_keepCounts_66 (by decide) rfl ?_
    refine rr_imul dX5_keepCounts_68 rfl ?_
    refine rr_iload_n dX5_keepCounts_69 rfl 3 rfl rfl ?_
    refine rr_iadd dX5_keepCounts_70 rfl ?_
    refine rr_aload_n dX5_keepCounts_71 rfl 1 rfl rfl ?_
    refine rr_getR dX5_keepCounts_72 fX5_24 (by decide) rfl rfl rfl ?_
    refine rr_iload dX5_keepCounts_75 0 rfl rfl ?_
    refine rr_iload_n dX5_keepCounts_77 rfl 3 rfl rfl ?_
    refine rr_V [.int x1, .int v2] [.int (((I 31 (Int32.toNatClampNeg v3)) * (13 : Int32)) + v2), .ref 35] dX5_keepCounts_78 kX7_foundHolding mX5_145 ⟨by decide, by decide⟩ (by decide) rfl rfl rfl (Nat.le_of_ble_eq_true rfl) rfl (h.mono fun vr I1 J1 h => ?_)
    obtain ⟨r1, rfl, h⟩ := h
    show rr pgX zX5_keepCounts 81 _ [.int r1, .int (((I 31 (Int32.toNatClampNeg v3)) * (13 : Int32)) + v2), .ref 35] _ _ _
    refine rr_iast dX5_keepCounts_81 (by decide) rfl rfl ⟨h.1, ?_⟩
    refine rr_letI (fun I2 hI2 => ?_)
    have h := h.2 I2 hI2
    refine rr_iinc (k := 4) (v := (v3 + (1 : Int32))) (lv' := [(3, .int (v3 + (1 : Int32))), (4, .int x1), (0, .ref 17), (1, .int v1), (2, .int v2)]) dX5_keepCounts_82 rfl rfl (by decide) rfl rfl ?_
    refine rr_goto (tgt := 34) dX5_keepCounts_85 (by decide) ?_
    exact rr.sub [2, 3, 4, 0] rfl h

def l_X5_force_38 (I : tg_I) (J : tg_J) (P : Option Value → tg_I → tg_J → Prop) (b1 : Nat) (v2 : Int32) (v3 : Int32) (v4 : Int32) : Prop := rr pgX zX5_force 38 [(0, .ref 17), (1, .ref b1), (2, .int v2), (3, .int v3), (4, .int v4)] [] I J P
theorem e_X5_force {I : tg_I} {J : tg_J} {P : Option Value → tg_I → tg_J → Prop} (b1 : Nat) (hb1 : isBd b1) (h :
  call pgX zX0_clear [.ref 18] I J (fun vr I1 J1 => vr = none ∧
  (call pgX zX0_clear [.ref 19] I1 J1 (fun vr I2 J2 => vr = none ∧
  (call pgX zX1_minesLeft [.ref b1] I2 J2 (fun vr I3 J3 => ∃ r1 : Int32, vr = some (.int r1) ∧
  (call pgX zX0_size [.ref (b1 + 8)] I3 J3 (fun vr I4 J4 => ∃ r2 : Int32, vr = some (.int r2) ∧
  (call pgX zX0_size [.ref 28] I4 J4 (fun vr I5 J5 => ∃ r3 : Int32, vr = some (.int r3) ∧
  (l_X5_force_38 I5 J5 P b1 r1 ((r2 - r3)) ((0 : Int32))))))))))))) : call pgX zX5_force [.ref 17, .ref b1] I J P := by
  refine call_of (by decide +kernel) (fun _ => Nat.le_of_ble_eq_true rfl) ?_
  show rr pgX zX5_force 0 [(0, .ref 17), (1, .ref b1)] [] I J P
  refine rr_aload_n dX5_force_0 rfl 0 rfl rfl ?_
  refine rr_getR dX5_force_1 fX5_12 (by decide) rfl rfl rfl ?_
  refine rr_V [] [] dX5_force_4 kX0_clear mX5_63 ⟨by decide, by decide⟩ (by decide) rfl rfl rfl (Nat.le_of_ble_eq_true rfl) rfl (h.mono fun vr I1 J1 h => ?_)
  obtain ⟨rfl, h⟩ := h
  show rr pgX zX5_force 7 _ [] _ _ _
  refine rr_aload_n dX5_force_7 rfl 0 rfl rfl ?_
  refine rr_getR dX5_force_8 fX5_18 (by decide) rfl rfl rfl ?_
  refine rr_V [] [] dX5_force_11 kX0_clear mX5_63 ⟨by decide, by decide⟩ (by decide) rfl rfl rfl (Nat.le_of_ble_eq_true rfl) rfl (h.mono fun vr I2 J2 h => ?_)
  obtain ⟨rfl, h⟩ := h
  show rr pgX zX5_force 14 _ [] _ _ _
  refine rr_aload_n dX5_force_14 rfl 1 rfl rfl ?_
  refine rr_V [] [] dX5_force_15 kX1_minesLeft mX5_149 ⟨by decide, by decide⟩ (bd_lt0 hb1) (bd_0 hb1) rfl rfl (Nat.le_of_ble_eq_true rfl) rfl (h.mono fun vr I3 J3 h => ?_)
  obtain ⟨r1, rfl, h⟩ := h
  show rr pgX zX5_force 18 _ [.int r1] _ _ _
  refine rr_istore_n (lv' := [(2, .int r1), (0, .ref 17), (1, .ref b1)]) dX5_force_18 rfl (by decide) rfl rfl ?_
  refine rr_aload_n dX5_force_19 rfl 2 rfl rfl ?_
  refine rr_getR dX5_force_20 fX5_81 (bd_lt0 hb1) (bd_0 hb1) rfl rfl ?_
  refine rr_V [] [] dX5_force_23 kX0_size mX5_153 ⟨by decide, by decide⟩ (bd_lt hb1 (by decide)) (bd_8 hb1) rfl rfl (Nat.le_of_ble_eq_true rfl) rfl (h.mono fun vr I4 J4 h => ?_)
  obtain ⟨r2, rfl, h⟩ := h
  show rr pgX zX5_force 26 _ [.int r2] _ _ _
  refine rr_aload_n dX5_force_26 rfl 1 rfl rfl ?_
  refine rr_getR dX5_force_27 fX5_28 (by decide) rfl rfl rfl ?_
  refine rr_V [] [.int r2] dX5_force_30 kX0_size mX5_153 ⟨by decide, by decide⟩ (by decide) rfl rfl rfl (Nat.le_of_ble_eq_true rfl) rfl (h.mono fun vr I5 J5 h => ?_)
  obtain ⟨r3, rfl, h⟩ := h
  show rr pgX zX5_force 33 _ [.int r3, .int r2] _ _ _
  refine rr_isub dX5_force_33 rfl ?_
  refine rr_istore_n (lv' := [(3, .int (r2 - r3)), (2, .int r1), (0, .ref 17), (1, .ref b1)]) dX5_force_34 rfl (by decide) rfl rfl ?_
  refine rr_iconst (v := (0 : Int32)) dX5_force_35 (by decide) rfl ?_
  refine rr_istore (lv' := [(4, .int (0 : Int32)), (3, .int (r2 - r3)), (2, .int r1), (0, .ref 17), (1, .ref b1)]) dX5_force_36 (by decide) rfl rfl ?_
  exact rr.sub [3, 4, 2, 1, 0] rfl h
theorem s_X5_force_38 {I : tg_I} {J : tg_J} {P : Option Value → tg_I → tg_J → Prop} (b1 : Nat) (v2 : Int32) (v3 : Int32) (v4 : Int32) (hb1 : isBd b1) (h :
  ((I 17 14) ≤ v4 →
   (v3 ≤ 0 →
     P none I J) ∧
    (¬ v3 ≤ 0 →
     call pgX zX5_sumWithout [.ref 17, .int (I 17 14)] I J (fun vr I1 J1 => vr = none ∧
      (call pgX zX5_forceLoose [.ref 17, .ref b1, .int v2, .int v3] I1 J1 (fun vr I2 J2 => vr = none ∧
      (P none I2 J2)))))) ∧
  (¬ (I 17 14) ≤ v4 →
   call pgX zX5_sumWithout [.ref 17, .int v4] I J (fun vr I3 J3 => vr = none ∧
    (call pgX zX5_forcePart [.ref 17, .int v4, .int v2, .int v3] I3 J3 (fun vr I4 J4 => vr = none ∧
    (l_X5_force_38 I4 J4 P b1 v2 v3 ((v4 + (1 : Int32))))))))) : l_X5_force_38 I J P b1 v2 v3 v4 := by
  show rr pgX zX5_force 38 [(0, .ref 17), (1, .ref b1), (2, .int v2), (3, .int v3), (4, .int v4)] [] I J P
  refine rr_iload dX5_force_38 4 rfl rfl ?_
  refine rr_aload_n dX5_force_40 rfl 0 rfl rfl ?_
  refine rr_getI dX5_force_41 fX5_66 (by decide) rfl rfl rfl ?_
  refine rr_icmp_ge (tgt := 67) dX5_force_44 (by decide) rfl ⟨fun hc => ?_, fun hc => ?_⟩
  · have h := h.1 hc
    refine rr_iload_n dX5_force_67 rfl 3 rfl rfl ?_
    refine rr_if_le (tgt := 86) dX5_force_68 (by decide) rfl ⟨fun hc => ?_, fun hc => ?_⟩
    · have h := h.1 hc
      exact rr_vret dX5_force_86 rfl h
    · have h := h.2 hc
      refine rr_aload_n dX5_force_71 rfl 0 rfl rfl ?_
      refine rr_aload_n dX5_force_72 rfl 0 rfl rfl ?_
      refine rr_getI dX5_force_73 fX5_66 (by decide) rfl rfl rfl ?_
      refine rr_V [.int (I 17 14)] [] dX5_force_76 kX5_sumWithout mX5_156 ⟨by decide, by decide⟩ (by decide) rfl rfl rfl (Nat.le_of_ble_eq_true rfl) rfl (h.mono fun vr I1 J1 h => ?_)
      obtain ⟨rfl, h⟩ := h
      show rr pgX zX5_force 79 _ [] _ _ _
      refine rr_aload_n dX5_force_79 rfl 0 rfl rfl ?_
      refine rr_aload_n dX5_force_80 rfl 1 rfl rfl ?_
      refine rr_iload_n dX5_force_81 rfl 2 rfl rfl ?_
      refine rr_iload_n dX5_force_82 rfl 3 rfl rfl ?_
      refine rr_V [.ref b1, .int v2, .int v3] [] dX5_force_83 kX5_forceLoose mX5_163 ⟨by decide, by decide⟩ (by decide) rfl rfl rfl (Nat.le_of_ble_eq_true rfl) rfl (h.mono fun vr I2 J2 h => ?_)
      obtain ⟨rfl, h⟩ := h
      show rr pgX zX5_force 86 _ [] _ _ _
      exact rr_vret dX5_force_86 rfl h
  · have h := h.2 hc
    refine rr_aload_n dX5_force_47 rfl 0 rfl rfl ?_
    refine rr_iload dX5_force_48 4 rfl rfl ?_
    refine rr_V [.int v4] [] dX5_force_50 kX5_sumWithout mX5_156 ⟨by decide, by decide⟩ (by decide) rfl rfl rfl (Nat.le_of_ble_eq_true rfl) rfl (h.mono fun vr I3 J3 h => ?_)
    obtain ⟨rfl, h⟩ := h
    show rr pgX zX5_force 53 _ [] _ _ _
    refine rr_aload_n dX5_force_53 rfl 0 rfl rfl ?_
    refine rr_iload dX5_force_54 4 rfl rfl ?_
    refine rr_iload_n dX5_force_56 rfl 2 rfl rfl ?_
    refine rr_iload_n dX5_force_57 rfl 3 rfl rfl ?_
    refine rr_V [.int v4, .int v2, .int v3] [] dX5_force_58 kX5_forcePart mX5_159 ⟨by decide, by decide⟩ (by decide) rfl rfl rfl (Nat.le_of_ble_eq_true rfl) rfl (h.mono fun vr I4 J4 h => ?_)
    obtain ⟨rfl, h⟩ := h
    show rr pgX zX5_force 61 _ [] _ _ _
    refine rr_iinc (k := 4) (v := (v4 + (1 : Int32))) (lv' := [(4, .int (v4 + (1 : Int32))), (0, .ref 17), (1, .ref b1), (2, .int v2), (3, .int v3)]) dX5_force_61 rfl rfl (by decide) rfl rfl ?_
    refine rr_goto (tgt := 38) dX5_force_64 (by decide) ?_
    exact rr.sub [1, 2, 3, 4, 0] rfl h

def l_X5_forcePart_8 (I : tg_I) (J : tg_J) (P : Option Value → tg_I → tg_J → Prop) (v1 : Int32) (v2 : Int32) (v3 : Int32) (v4 : Int32) : Prop := rr pgX zX5_forcePart 8 [(0, .ref 17), (1, .int v1), (2, .int v2), (3, .int v3), (4, .int v4)] [] I J P
def l_X5_forcePart_58 (I : tg_I) (J : tg_J) (P : Option Value → tg_I → tg_J → Prop) (v1 : Int32) (v2 : Int32) (v3 : Int32) (v4 : Int32) : Prop := rr pgX zX5_forcePart 58 [(0, .ref 17), (1, .int v1), (2, .int v2), (3, .int v3), (4, .int v4)] [] I J P
def l_X5_forcePart_107 (I : tg_I) (J : tg_J) (P : Option Value → tg_I → tg_J → Prop) (v1 : Int32) (v2 : Int32) (v3 : Int32) (v4 : Int32) (v5 : Int32) (v6 : Int32) : Prop := rr pgX zX5_forcePart 107 [(0, .ref 17), (1, .int v1), (2, .int v2), (3, .int v3), (4, .int v4), (5, .int v5), (6, .int v6)] [] I J P
theorem e_X5_forcePart {I : tg_I} {J : tg_J} {P : Option Value → tg_I → tg_J → Prop} (v1 : Int32) (v2 : Int32) (v3 : Int32) (h :
  vp_in v1 101 ∧
  (∀ x1, x1 = (I 32 (Int32.toNatClampNeg v1)) →
  l_X5_forcePart_8 I J P v1 v2 v3 x1)) : call pgX zX5_forcePart [.ref 17, .int v1, .int v2, .int v3] I J P := by
  refine call_of (by decide +kernel) (fun _ => Nat.le_of_ble_eq_true rfl) ?_
  show rr pgX zX5_forcePart 0 [(0, .ref 17), (1, .int v1), (2, .int v2), (3, .int v3)] [] I J P
  refine rr_aload_n dX5_forcePart_0 rfl 0 rfl rfl ?_
  refine rr_getR dX5_forcePart_1 fX5_41 (by decide) rfl rfl rfl ?_
  refine rr_iload_n dX5_forcePart_4 rfl 1 rfl rfl ?_
  refine rr_iald dX5_forcePart_5 (by decide) rfl rfl ⟨h.1, ?_⟩
  have h := h.2
  refine rr_letTi (fun x1 hx1 => ?_)
  have h := h x1 hx1
  refine rr_istore (lv' := [(4, .int x1), (0, .ref 17), (1, .int v1), (2, .int v2), (3, .int v3)]) dX5_forcePart_6 (by decide) rfl rfl ?_
  exact rr.sub [1, 2, 3, 4, 0] rfl h
theorem s_X5_forcePart_8 {I : tg_I} {J : tg_J} {P : Option Value → tg_I → tg_J → Prop} (v1 : Int32) (v2 : Int32) (v3 : Int32) (v4 : Int32) (h :
  vp_in (v1 + (1 : Int32)) 101 ∧
  (((I 32 (Int32.toNatClampNeg (v1 + (1 : Int32)))) ≤ v4 →
   l_X5_forcePart_58 I J P v1 v2 v3 ((0 : Int32))) ∧
  (¬ (I 32 (Int32.toNatClampNeg (v1 + (1 : Int32)))) ≤ v4 →
   vp_in v4 100 ∧
    (call pgX zX0_add [.ref 18, .int (I 31 (Int32.toNatClampNeg v4))] I J (fun vr I1 J1 => vr = none ∧
    (vp_in v4 100 ∧
    (call pgX zX0_add [.ref 19, .int (I1 31 (Int32.toNatClampNeg v4))] I1 J1 (fun vr I2 J2 => vr = none ∧
    (l_X5_forcePart_8 I2 J2 P v1 v2 v3 ((v4 + (1 : Int32)))))))))))) : l_X5_forcePart_8 I J P v1 v2 v3 v4 := by
  show rr pgX zX5_forcePart 8 [(0, .ref 17), (1, .int v1), (2, .int v2), (3, .int v3), (4, .int v4)] [] I J P
  refine rr_iload dX5_forcePart_8 4 rfl rfl ?_
  refine rr_aload_n dX5_forcePart_10 rfl 0 rfl rfl ?_
  refine rr_getR dX5_forcePart_11 fX5_41 (by decide) rfl rfl rfl ?_
  refine rr_iload_n dX5_forcePart_14 rfl 1 rfl rfl ?_
  refine rr_iconst (v := (1 : Int32)) dX5_forcePart_15 (by decide) rfl ?_
  refine rr_iadd dX5_forcePart_16 rfl ?_
  refine rr_iald dX5_forcePart_17 (by decide) rfl rfl ⟨h.1, ?_⟩
  have h := h.2
  refine rr_icmp_ge (tgt := 55) dX5_forcePart_18 (by decide) rfl ⟨fun hc => ?_, fun hc => ?_⟩
  · have h := h.1 hc
    refine rr_iconst (v := (0 : Int32)) dX5_forcePart_55 (by decide) rfl ?_
    refine rr_istore (lv' := [(4, .int (0 : Int32)), (0, .ref 17), (1, .int v1), (2, .int v2), (3, .int v3)]) dX5_forcePart_56 (by decide) rfl rfl ?_
    exact rr.sub [1, 2, 3, 4, 0] rfl h
  · have h := h.2 hc
    refine rr_aload_n dX5_forcePart_21 rfl 0 rfl rfl ?_
    refine rr_getR dX5_forcePart_22 fX5_12 (by decide) rfl rfl rfl ?_
    refine rr_aload_n dX5_forcePart_25 rfl 0 rfl rfl ?_
    refine rr_getR dX5_forcePart_26 fX5_37 (by decide) rfl rfl rfl ?_
    refine rr_iload dX5_forcePart_29 4 rfl rfl ?_
    refine rr_iald dX5_forcePart_31 (by decide) rfl rfl ⟨h.1, ?_⟩
    have h := h.2
    refine rr_V [.int (I 31 (Int32.toNatClampNeg v4))] [] dX5_forcePart_32 kX0_add mX5_99 ⟨by decide, by decide⟩ (by decide) rfl rfl rfl (Nat.le_of_ble_eq_true rfl) rfl (h.mono fun vr I1 J1 h => ?_)
    obtain ⟨rfl, h⟩ := h
    show rr pgX zX5_forcePart 35 _ [] _ _ _
    refine rr_aload_n dX5_forcePart_35 rfl 0 rfl rfl ?_
    refine rr_getR dX5_forcePart_36 fX5_18 (by decide) rfl rfl rfl ?_
    refine rr_aload_n dX5_forcePart_39 rfl 0 rfl rfl ?_
    refine rr_getR dX5_forcePart_40 fX5_37 (by decide) rfl rfl rfl ?_
    refine rr_iload dX5_forcePart_43 4 rfl rfl ?_
    refine rr_iald dX5_forcePart_45 (by decide) rfl rfl ⟨h.1, ?_⟩
    have h := h.2
    refine rr_V [.int (I1 31 (Int32.toNatClampNeg v4))] [] dX5_forcePart_46 kX0_add mX5_99 ⟨by decide, by decide⟩ (by decide) rfl rfl rfl (Nat.le_of_ble_eq_true rfl) rfl (h.mono fun vr I2 J2 h => ?_)
    obtain ⟨rfl, h⟩ := h
    show rr pgX zX5_forcePart 49 _ [] _ _ _
    refine rr_iinc (k := 4) (v := (v4 + (1 : Int32))) (lv' := [(4, .int (v4 + (1 : Int32))), (0, .ref 17), (1, .int v1), (2, .int v2), (3, .int v3)]) dX5_forcePart_49 rfl rfl (by decide) rfl rfl ?_
    refine rr_goto (tgt := 8) dX5_forcePart_52 (by decide) ?_
    exact rr.sub [1, 2, 3, 4, 0] rfl h
theorem s_X5_forcePart_58 {I : tg_I} {J : tg_J} {P : Option Value → tg_I → tg_J → Prop} (v1 : Int32) (v2 : Int32) (v3 : Int32) (v4 : Int32) (h :
  ((13 : Int32) ≤ v4 →
   P none I J) ∧
  (¬ (13 : Int32) ≤ v4 →
   vp_in ((v1 * (13 : Int32)) + v4) 1300 ∧
    (∀ x1, x1 = (I 34 (Int32.toNatClampNeg ((v1 * (13 : Int32)) + v4))) →
    (x1 = 0 →
     l_X5_forcePart_58 I J P v1 v2 v3 ((v4 + (1 : Int32)))) ∧
    (¬ x1 = 0 →
     call pgX zX5_reaches [.ref 17, .int (v2 - v4), .int v3] I J (fun vr I1 J1 => ∃ r1 : Int32, vr = some (.int r1) ∧
      ((¬ r1 = 0 →
       vp_in v1 101 ∧
        (∀ x2, x2 = (I1 32 (Int32.toNatClampNeg v1)) →
        l_X5_forcePart_107 I1 J1 P v1 v2 v3 v4 x1 x2)) ∧
      (r1 = 0 →
       l_X5_forcePart_58 I1 J1 P v1 v2 v3 ((v4 + (1 : Int32)))))))))) : l_X5_forcePart_58 I J P v1 v2 v3 v4 := by
  show rr pgX zX5_forcePart 58 [(0, .ref 17), (1, .int v1), (2, .int v2), (3, .int v3), (4, .int v4)] [] I J P
  refine rr_iload dX5_forcePart_58 4 rfl rfl ?_
  refine rr_bipush (v := (13 : Int32)) dX5_forcePart_60 (by decide) rfl ?_
  refine rr_icmp_ge (tgt := 192) dX5_forcePart_62 (by decide) rfl ⟨fun hc => ?_, fun hc => ?_⟩
  · have h := h.1 hc
    exact rr_vret dX5_forcePart_192 rfl h
  · have h := h.2 hc
    refine rr_aload_n dX5_forcePart_65 rfl 0 rfl rfl ?_
    refine rr_getR dX5_forcePart_66 fX5_47 (by decide) rfl rfl rfl ?_
    refine rr_iload_n dX5_forcePart_69 rfl 1 rfl rfl ?_
    refine rr_bipush (v := (13 : Int32)) dX5_forcePart_70 (by decide) rfl ?_
    refine rr_imul dX5_forcePart_72 rfl ?_
    refine rr_iload dX5_forcePart_73 4 rfl rfl ?_
    refine rr_iadd dX5_forcePart_75 rfl ?_
    refine rr_iald dX5_forcePart_76 (by decide) rfl rfl ⟨h.1, ?_⟩
    have h := h.2
    refine rr_letTi (fun x1 hx1 => ?_)
    have h := h x1 hx1
    refine rr_istore (lv' := [(5, .int x1), (0, .ref 17), (1, .int v1), (2, .int v2), (3, .int v3), (4, .int v4)]) dX5_forcePart_77 (by decide) rfl rfl ?_
    refine rr_iload dX5_forcePart_79 0 rfl rfl ?_
    refine rr_if_eq (tgt := 186) dX5_forcePart_81 (by decide) rfl ⟨fun hc => ?_, fun hc => ?_⟩
    · have h := h.1 hc
      refine rr_iinc (k := 5) (v := (v4 + (1 : Int32))) (lv' := [(4, .int (v4 + (1 : Int32))), (5, .int x1), (0, .ref 17), (1, .int v1), (2, .int v2), (3, .int v3)]) dX5_forcePart_186 rfl rfl (by decide) rfl rfl ?_
      refine rr_goto (tgt := 58) dX5_forcePart_189 (by decide) ?_
      exact rr.sub [2, 3, 4, 5, 0] rfl h
    · have h := h.2 hc
      refine rr_aload_n dX5_forcePart_84 rfl 1 rfl rfl ?_
      refine rr_iload_n dX5_forcePart_85 rfl 3 rfl rfl ?_
      refine rr_iload dX5_forcePart_86 5 rfl rfl ?_
      refine rr_isub dX5_forcePart_88 rfl ?_
      refine rr_iload_n dX5_forcePart_89 rfl 4 rfl rfl ?_
      refine rr_V [.int (v2 - v4), .int v3] [] dX5_forcePart_90 kX5_reaches mX5_167 ⟨by decide, by decide⟩ (by decide) rfl rfl rfl (Nat.le_of_ble_eq_true rfl) rfl (h.mono fun vr I1 J1 h => ?_)
      obtain ⟨r1, rfl, h⟩ := h
      show rr pgX zX5_forcePart 93 _ [.int r1] _ _ _
      refine rr_if_ne (tgt := 99) dX5_forcePart_93 (by decide) rfl ⟨fun hc => ?_, fun hc => ?_⟩
      · have h := h.1 hc
        refine rr_aload_n dX5_forcePart_99 rfl 1 rfl rfl ?_
        refine rr_getR dX5_forcePart_100 fX5_41 (by decide) rfl rfl rfl ?_
        refine rr_iload_n dX5_forcePart_103 rfl 2 rfl rfl ?_
        refine rr_iald dX5_forcePart_104 (by decide) rfl rfl ⟨h.1, ?_⟩
        have h := h.2
        refine rr_letTi (fun x2 hx2 => ?_)
        have h := h x2 hx2
        refine rr_istore (lv' := [(6, .int x2), (5, .int x1), (0, .ref 17), (1, .int v1), (2, .int v2), (3, .int v3), (4, .int v4)]) dX5_forcePart_105 (by decide) rfl rfl ?_
        exact rr.sub [2, 3, 4, 5, 6, 1, 0] rfl h
      · have h := h.2 hc
        refine rr_goto (tgt := 186) dX5_forcePart_96 (by decide) ?_
        refine rr_iinc (k := 5) (v := (v4 + (1 : Int32))) (lv' := [(4, .int (v4 + (1 : Int32))), (5, .int x1), (0, .ref 17), (1, .int v1), (2, .int v2), (3, .int v3)]) dX5_forcePart_186 rfl rfl (by decide) rfl rfl ?_
        refine rr_goto (tgt := 58) dX5_forcePart_189 (by decide) ?_
        exact rr.sub [2, 3, 4, 5, 0] rfl h
theorem s_X5_forcePart_107 {I : tg_I} {J : tg_J} {P : Option Value → tg_I → tg_J → Prop} (v1 : Int32) (v2 : Int32) (v3 : Int32) (v4 : Int32) (v5 : Int32) (v6 : Int32) (h :
  vp_in (v1 + (1 : Int32)) 101 ∧
  (((I 32 (Int32.toNatClampNeg (v1 + (1 : Int32)))) ≤ v6 →
   l_X5_forcePart_58 I J P v1 v2 v3 ((v4 + (1 : Int32)))) ∧
  (¬ (I 32 (Int32.toNatClampNeg (v1 + (1 : Int32)))) ≤ v6 →
   vp_in v6 100 ∧
    (vp_in (((I 31 (Int32.toNatClampNeg v6)) * (13 : Int32)) + v4) 1300 ∧
    (∀ x1, x1 = (I 35 (Int32.toNatClampNeg (((I 31 (Int32.toNatClampNeg v6)) * (13 : Int32)) + v4))) →
    (x1 ≤ 0 →
     (v5 ≤ x1 →
       l_X5_forcePart_107 I J P v1 v2 v3 v4 v5 ((v6 + (1 : Int32)))) ∧
      (¬ v5 ≤ x1 →
       vp_in v6 100 ∧
        (call pgX zX0_drop [.ref 18, .int (I 31 (Int32.toNatClampNeg v6))] I J (fun vr I1 J1 => vr = none ∧
        (l_X5_forcePart_107 I1 J1 P v1 v2 v3 v4 v5 ((v6 + (1 : Int32)))))))) ∧
    (¬ x1 ≤ 0 →
     vp_in v6 100 ∧
      (call pgX zX0_drop [.ref 19, .int (I 31 (Int32.toNatClampNeg v6))] I J (fun vr I2 J2 => vr = none ∧
      ((v5 ≤ x1 →
       l_X5_forcePart_107 I2 J2 P v1 v2 v3 v4 v5 ((v6 + (1 : Int32)))) ∧
      (¬ v5 ≤ x1 →
       vp_in v6 100 ∧
        (call pgX zX0_drop [.ref 18, .int (I2 31 (Int32.toNatClampNeg v6))] I2 J2 (fun vr I3 J3 => vr = none ∧
        (l_X5_forcePart_107 I3 J3 P v1 v2 v3 v4 v5 ((v6 + (1 : Int32)))))))))))))))) : l_X5_forcePart_107 I J P v1 v2 v3 v4 v5 v6 := by
  show rr pgX zX5_forcePart 107 [(0, .ref 17), (1, .int v1), (2, .int v2), (3, .int v3), (4, .int v4), (5, .int v5), (6, .int v6)] [] I J P
  refine rr_iload dX5_forcePart_107 6 rfl rfl ?_
  refine rr_aload_n dX5_forcePart_109 rfl 0 rfl rfl ?_
  refine rr_getR dX5_forcePart_110 fX5_41 (by decide) rfl rfl rfl ?_
  refine rr_iload_n dX5_forcePart_113 rfl 1 rfl rfl ?_
  refine rr_iconst (v := (1 : Int32)) dX5_forcePart_114 (by decide) rfl ?_
  refine rr_iadd dX5_forcePart_115 rfl ?_
  refine rr_iald dX5_forcePart_116 (by decide) rfl rfl ⟨h.1, ?_⟩
  have h := h.2
  refine rr_icmp_ge (tgt := 186) dX5_forcePart_117 (by decide) rfl ⟨fun hc => ?_, fun hc => ?_⟩
  · have h := h.1 hc
    refine rr_iinc (k := 4) (v := (v4 + (1 : Int32))) (lv' := [(4, .int (v4 + (1 : Int32))), (0, .ref 17), (1, .int v1), (2, .int v2), (3, .int v3), (5, .int v5), (6, .int v6)]) dX5_forcePart_186 rfl rfl (by decide) rfl rfl ?_
    refine rr_goto (tgt := 58) dX5_forcePart_189 (by decide) ?_
    exact rr.sub [1, 2, 3, 4, 0] rfl h
  · have h := h.2 hc
    refine rr_aload_n dX5_forcePart_120 rfl 0 rfl rfl ?_
    refine rr_getR dX5_forcePart_121 fX5_50 (by decide) rfl rfl rfl ?_
    refine rr_aload_n dX5_forcePart_124 rfl 0 rfl rfl ?_
    refine rr_getR dX5_forcePart_125 fX5_37 (by decide) rfl rfl rfl ?_
    refine rr_iload dX5_forcePart_128 6 rfl rfl ?_
    refine rr_iald dX5_forcePart_130 (by decide) rfl rfl ⟨h.1, ?_⟩
    have h := h.2
    refine rr_bipush (v := (13 : Int32)) dX5_forcePart_131 (by decide) rfl ?_
    refine rr_imul dX5_forcePart_133 rfl ?_
    refine rr_iload dX5_forcePart_134 4 rfl rfl ?_
    refine rr_iadd dX5_forcePart_136 rfl ?_
    refine rr_iald dX5_forcePart_137 (by decide) rfl rfl ⟨h.1, ?_⟩
    have h := h.2
    refine rr_letTi (fun x1 hx1 => ?_)
    have h := h x1 hx1
    refine rr_istore (lv' := [(7, .int x1), (0, .ref 17), (1, .int v1), (2, .int v2), (3, .int v3), (4, .int v4), (5, .int v5), (6, .int v6)]) dX5_forcePart_138 (by decide) rfl rfl ?_
    refine rr_iload dX5_forcePart_140 0 rfl rfl ?_
    refine rr_if_le (tgt := 159) dX5_forcePart_142 (by decide) rfl ⟨fun hc => ?_, fun hc => ?_⟩
    · have h := h.1 hc
      refine rr_iload dX5_forcePart_159 0 rfl rfl ?_
      refine rr_iload dX5_forcePart_161 6 rfl rfl ?_
      refine rr_icmp_ge (tgt := 180) dX5_forcePart_163 (by decide) rfl ⟨fun hc => ?_, fun hc => ?_⟩
      · have h := h.1 hc
        refine rr_iinc (k := 7) (v := (v6 + (1 : Int32))) (lv' := [(6, .int (v6 + (1 : Int32))), (7, .int x1), (0, .ref 17), (1, .int v1), (2, .int v2), (3, .int v3), (4, .int v4), (5, .int v5)]) dX5_forcePart_180 rfl rfl (by decide) rfl rfl ?_
        refine rr_goto (tgt := 107) dX5_forcePart_183 (by decide) ?_
        exact rr.sub [2, 3, 4, 5, 6, 7, 0] rfl h
      · have h := h.2 hc
        refine rr_aload_n dX5_forcePart_166 rfl 1 rfl rfl ?_
        refine rr_getR dX5_forcePart_167 fX5_12 (by decide) rfl rfl rfl ?_
        refine rr_aload_n dX5_forcePart_170 rfl 1 rfl rfl ?_
        refine rr_getR dX5_forcePart_171 fX5_37 (by decide) rfl rfl rfl ?_
        refine rr_iload dX5_forcePart_174 7 rfl rfl ?_
        refine rr_iald dX5_forcePart_176 (by decide) rfl rfl ⟨h.1, ?_⟩
        have h := h.2
        refine rr_V [.int (I 31 (Int32.toNatClampNeg v6))] [] dX5_forcePart_177 kX0_drop mX5_171 ⟨by decide, by decide⟩ (by decide) rfl rfl rfl (Nat.le_of_ble_eq_true rfl) rfl (h.mono fun vr I1 J1 h => ?_)
        obtain ⟨rfl, h⟩ := h
        show rr pgX zX5_forcePart 180 _ [] _ _ _
        refine rr_iinc (k := 7) (v := (v6 + (1 : Int32))) (lv' := [(6, .int (v6 + (1 : Int32))), (7, .int x1), (0, .ref 17), (1, .int v1), (2, .int v2), (3, .int v3), (4, .int v4), (5, .int v5)]) dX5_forcePart_180 rfl rfl (by decide) rfl rfl ?_
        refine rr_goto (tgt := 107) dX5_forcePart_183 (by decide) ?_
        exact rr.sub [2, 3, 4, 5, 6, 7, 0] rfl h
    · have h := h.2 hc
      refine rr_aload_n dX5_forcePart_145 rfl 1 rfl rfl ?_
      refine rr_getR dX5_forcePart_146 fX5_18 (by decide) rfl rfl rfl ?_
      refine rr_aload_n dX5_forcePart_149 rfl 1 rfl rfl ?_
      refine rr_getR dX5_forcePart_150 fX5_37 (by decide) rfl rfl rfl ?_
      refine rr_iload dX5_forcePart_153 7 rfl rfl ?_
      refine rr_iald dX5_forcePart_155 (by decide) rfl rfl ⟨h.1, ?_⟩
      have h := h.2
      refine rr_V [.int (I 31 (Int32.toNatClampNeg v6))] [] dX5_forcePart_156 kX0_drop mX5_171 ⟨by decide, by decide⟩ (by decide) rfl rfl rfl (Nat.le_of_ble_eq_true rfl) rfl (h.mono fun vr I2 J2 h => ?_)
      obtain ⟨rfl, h⟩ := h
      show rr pgX zX5_forcePart 159 _ [] _ _ _
      refine rr_iload dX5_forcePart_159 0 rfl rfl ?_
      refine rr_iload dX5_forcePart_161 6 rfl rfl ?_
      refine rr_icmp_ge (tgt := 180) dX5_forcePart_163 (by decide) rfl ⟨fun hc => ?_, fun hc => ?_⟩
      · have h := h.1 hc
        refine rr_iinc (k := 7) (v := (v6 + (1 : Int32))) (lv' := [(6, .int (v6 + (1 : Int32))), (7, .int x1), (0, .ref 17), (1, .int v1), (2, .int v2), (3, .int v3), (4, .int v4), (5, .int v5)]) dX5_forcePart_180 rfl rfl (by decide) rfl rfl ?_
        refine rr_goto (tgt := 107) dX5_forcePart_183 (by decide) ?_
        exact rr.sub [2, 3, 4, 5, 6, 7, 0] rfl h
      · have h := h.2 hc
        refine rr_aload_n dX5_forcePart_166 rfl 1 rfl rfl ?_
        refine rr_getR dX5_forcePart_167 fX5_12 (by decide) rfl rfl rfl ?_
        refine rr_aload_n dX5_forcePart_170 rfl 1 rfl rfl ?_
        refine rr_getR dX5_forcePart_171 fX5_37 (by decide) rfl rfl rfl ?_
        refine rr_iload dX5_forcePart_174 7 rfl rfl ?_
        refine rr_iald dX5_forcePart_176 (by decide) rfl rfl ⟨h.1, ?_⟩
        have h := h.2
        refine rr_V [.int (I2 31 (Int32.toNatClampNeg v6))] [] dX5_forcePart_177 kX0_drop mX5_171 ⟨by decide, by decide⟩ (by decide) rfl rfl rfl (Nat.le_of_ble_eq_true rfl) rfl (h.mono fun vr I3 J3 h => ?_)
        obtain ⟨rfl, h⟩ := h
        show rr pgX zX5_forcePart 180 _ [] _ _ _
        refine rr_iinc (k := 7) (v := (v6 + (1 : Int32))) (lv' := [(6, .int (v6 + (1 : Int32))), (7, .int x1), (0, .ref 17), (1, .int v1), (2, .int v2), (3, .int v3), (4, .int v4), (5, .int v5)]) dX5_forcePart_180 rfl rfl (by decide) rfl rfl ?_
        refine rr_goto (tgt := 107) dX5_forcePart_183 (by decide) ?_
        exact rr.sub [2, 3, 4, 5, 6, 7, 0] rfl h

theorem e_X5_forceLoose {I : tg_I} {J : tg_J} {P : Option Value → tg_I → tg_J → Prop} (b1 : Nat) (v2 : Int32) (v3 : Int32) (hb1 : isBd b1) (h :
  call pgX zX0_copy [.ref 30, .ref (b1 + 8)] I J (fun vr I1 J1 => vr = none ∧
  (call pgX zX0_leave [.ref 30, .ref 28] I1 J1 (fun vr I2 J2 => vr = none ∧
  (call pgX zX5_reaches [.ref 17, .int (v2 - (1 : Int32)), .int (v3 - (1 : Int32))] I2 J2 (fun vr I3 J3 => ∃ r1 : Int32, vr = some (.int r1) ∧
  ((¬ r1 = 0 →
   call pgX zX5_reaches [.ref 17, .int v2, .int (v3 - (1 : Int32))] I3 J3 (fun vr I4 J4 => ∃ r2 : Int32, vr = some (.int r2) ∧
    ((¬ r2 = 0 →
     P none I4 J4) ∧
    (r2 = 0 →
     call pgX zX0_join [.ref 18, .ref 30] I4 J4 (fun vr I5 J5 => vr = none ∧
      (P none I5 J5)))))) ∧
  (r1 = 0 →
   call pgX zX0_join [.ref 19, .ref 30] I3 J3 (fun vr I6 J6 => vr = none ∧
    (call pgX zX5_reaches [.ref 17, .int v2, .int (v3 - (1 : Int32))] I6 J6 (fun vr I7 J7 => ∃ r3 : Int32, vr = some (.int r3) ∧
    ((¬ r3 = 0 →
     P none I7 J7) ∧
    (r3 = 0 →
     call pgX zX0_join [.ref 18, .ref 30] I7 J7 (fun vr I8 J8 => vr = none ∧
      (P none I8 J8))))))))))))))) : call pgX zX5_forceLoose [.ref 17, .ref b1, .int v2, .int v3] I J P := by
  refine call_of (by decide +kernel) (fun _ => Nat.le_of_ble_eq_true rfl) ?_
  show rr pgX zX5_forceLoose 0 [(0, .ref 17), (1, .ref b1), (2, .int v2), (3, .int v3)] [] I J P
  refine rr_aload_n dX5_forceLoose_0 rfl 0 rfl rfl ?_
  refine rr_getR dX5_forceLoose_1 fX5_34 (by decide) rfl rfl rfl ?_
  refine rr_astore (lv' := [(4, .ref 30), (0, .ref 17), (1, .ref b1), (2, .int v2), (3, .int v3)]) dX5_forceLoose_4 (by decide) rfl rfl ?_
  refine rr_aload dX5_forceLoose_6 0 rfl rfl ?_
  refine rr_aload_n dX5_forceLoose_8 rfl 2 rfl rfl ?_
  refine rr_getR dX5_forceLoose_9 fX5_81 (bd_lt0 hb1) (bd_0 hb1) rfl rfl ?_
  refine rr_V [.ref (b1 + 8)] [] dX5_forceLoose_12 kX0_copy mX5_174 ⟨by decide, by decide⟩ (by decide) rfl rfl rfl (Nat.le_of_ble_eq_true rfl) rfl (h.mono fun vr I1 J1 h => ?_)
  obtain ⟨rfl, h⟩ := h
  show rr pgX zX5_forceLoose 15 _ [] _ _ _
  refine rr_aload dX5_forceLoose_15 0 rfl rfl ?_
  refine rr_aload_n dX5_forceLoose_17 rfl 1 rfl rfl ?_
  refine rr_getR dX5_forceLoose_18 fX5_28 (by decide) rfl rfl rfl ?_
  refine rr_V [.ref 28] [] dX5_forceLoose_21 kX0_leave mX5_178 ⟨by decide, by decide⟩ (by decide) rfl rfl rfl (Nat.le_of_ble_eq_true rfl) rfl (h.mono fun vr I2 J2 h => ?_)
  obtain ⟨rfl, h⟩ := h
  show rr pgX zX5_forceLoose 24 _ [] _ _ _
  refine rr_aload_n dX5_forceLoose_24 rfl 1 rfl rfl ?_
  refine rr_iload_n dX5_forceLoose_25 rfl 3 rfl rfl ?_
  refine rr_iconst (v := (1 : Int32)) dX5_forceLoose_26 (by decide) rfl ?_
  refine rr_isub dX5_forceLoose_27 rfl ?_
  refine rr_iload_n dX5_forceLoose_28 rfl 4 rfl rfl ?_
  refine rr_iconst (v := (1 : Int32)) dX5_forceLoose_29 (by decide) rfl ?_
  refine rr_isub dX5_forceLoose_30 rfl ?_
  refine rr_V [.int (v2 - (1 : Int32)), .int (v3 - (1 : Int32))] [] dX5_forceLoose_31 kX5_reaches mX5_167 ⟨by decide, by decide⟩ (by decide) rfl rfl rfl (Nat.le_of_ble_eq_true rfl) rfl (h.mono fun vr I3 J3 h => ?_)
  obtain ⟨r1, rfl, h⟩ := h
  show rr pgX zX5_forceLoose 34 _ [.int r1] _ _ _
  refine rr_if_ne (tgt := 46) dX5_forceLoose_34 (by decide) rfl ⟨fun hc => ?_, fun hc => ?_⟩
  · have h := h.1 hc
    refine rr_aload_n dX5_forceLoose_46 rfl 1 rfl rfl ?_
    refine rr_iload_n dX5_forceLoose_47 rfl 3 rfl rfl ?_
    refine rr_iload_n dX5_forceLoose_48 rfl 4 rfl rfl ?_
    refine rr_iconst (v := (1 : Int32)) dX5_forceLoose_49 (by decide) rfl ?_
    refine rr_isub dX5_forceLoose_50 rfl ?_
    refine rr_V [.int v2, .int (v3 - (1 : Int32))] [] dX5_forceLoose_51 kX5_reaches mX5_167 ⟨by decide, by decide⟩ (by decide) rfl rfl rfl (Nat.le_of_ble_eq_true rfl) rfl (h.mono fun vr I4 J4 h => ?_)
    obtain ⟨r2, rfl, h⟩ := h
    show rr pgX zX5_forceLoose 54 _ [.int r2] _ _ _
    refine rr_if_ne (tgt := 66) dX5_forceLoose_54 (by decide) rfl ⟨fun hc => ?_, fun hc => ?_⟩
    · have h := h.1 hc
      exact rr_vret dX5_forceLoose_66 rfl h
    · have h := h.2 hc
      refine rr_aload_n dX5_forceLoose_57 rfl 1 rfl rfl ?_
      refine rr_getR dX5_forceLoose_58 fX5_12 (by decide) rfl rfl rfl ?_
      refine rr_aload dX5_forceLoose_61 0 rfl rfl ?_
      refine rr_V [.ref 30] [] dX5_forceLoose_63 kX0_join mX5_181 ⟨by decide, by decide⟩ (by decide) rfl rfl rfl (Nat.le_of_ble_eq_true rfl) rfl (h.mono fun vr I5 J5 h => ?_)
      obtain ⟨rfl, h⟩ := h
      show rr pgX zX5_forceLoose 66 _ [] _ _ _
      exact rr_vret dX5_forceLoose_66 rfl h
  · have h := h.2 hc
    refine rr_aload_n dX5_forceLoose_37 rfl 1 rfl rfl ?_
    refine rr_getR dX5_forceLoose_38 fX5_18 (by decide) rfl rfl rfl ?_
    refine rr_aload dX5_forceLoose_41 0 rfl rfl ?_
    refine rr_V [.ref 30] [] dX5_forceLoose_43 kX0_join mX5_181 ⟨by decide, by decide⟩ (by decide) rfl rfl rfl (Nat.le_of_ble_eq_true rfl) rfl (h.mono fun vr I6 J6 h => ?_)
    obtain ⟨rfl, h⟩ := h
    show rr pgX zX5_forceLoose 46 _ [] _ _ _
    refine rr_aload_n dX5_forceLoose_46 rfl 1 rfl rfl ?_
    refine rr_iload_n dX5_forceLoose_47 rfl 3 rfl rfl ?_
    refine rr_iload_n dX5_forceLoose_48 rfl 4 rfl rfl ?_
    refine rr_iconst (v := (1 : Int32)) dX5_forceLoose_49 (by decide) rfl ?_
    refine rr_isub dX5_forceLoose_50 rfl ?_
    refine rr_V [.int v2, .int (v3 - (1 : Int32))] [] dX5_forceLoose_51 kX5_reaches mX5_167 ⟨by decide, by decide⟩ (by decide) rfl rfl rfl (Nat.le_of_ble_eq_true rfl) rfl (h.mono fun vr I7 J7 h => ?_)
    obtain ⟨r3, rfl, h⟩ := h
    show rr pgX zX5_forceLoose 54 _ [.int r3] _ _ _
    refine rr_if_ne (tgt := 66) dX5_forceLoose_54 (by decide) rfl ⟨fun hc => ?_, fun hc => ?_⟩
    · have h := h.1 hc
      exact rr_vret dX5_forceLoose_66 rfl h
    · have h := h.2 hc
      refine rr_aload_n dX5_forceLoose_57 rfl 1 rfl rfl ?_
      refine rr_getR dX5_forceLoose_58 fX5_12 (by decide) rfl rfl rfl ?_
      refine rr_aload dX5_forceLoose_61 0 rfl rfl ?_
      refine rr_V [.ref 30] [] dX5_forceLoose_63 kX0_join mX5_181 ⟨by decide, by decide⟩ (by decide) rfl rfl rfl (Nat.le_of_ble_eq_true rfl) rfl (h.mono fun vr I8 J8 h => ?_)
      obtain ⟨rfl, h⟩ := h
      show rr pgX zX5_forceLoose 66 _ [] _ _ _
      exact rr_vret dX5_forceLoose_66 rfl h

def l_X5_sumWithout_17 (I : tg_I) (J : tg_J) (P : Option Value → tg_I → tg_J → Prop) (v1 : Int32) (v2 : Int32) : Prop := rr pgX zX5_sumWithout 17 [(0, .ref 17), (1, .int v1), (2, .int v2)] [] I J P
def l_X5_sumWithout_42 (I : tg_I) (J : tg_J) (P : Option Value → tg_I → tg_J → Prop) (v1 : Int32) (v2 : Int32) (v3 : Int32) : Prop := rr pgX zX5_sumWithout 42 [(0, .ref 17), (1, .int v1), (2, .int v2), (3, .int v3)] [] I J P
theorem e_X5_sumWithout {I : tg_I} {J : tg_J} {P : Option Value → tg_I → tg_J → Prop} (v1 : Int32) (h :
  call pgX zX0_clear [.ref 29] I J (fun vr I1 J1 => vr = none ∧
  (call pgX zX0_add [.ref 29, .int (0 : Int32)] I1 J1 (fun vr I2 J2 => vr = none ∧
  (l_X5_sumWithout_17 I2 J2 P v1 ((0 : Int32))))))) : call pgX zX5_sumWithout [.ref 17, .int v1] I J P := by
  refine call_of (by decide +kernel) (fun _ => Nat.le_of_ble_eq_true rfl) ?_
  show rr pgX zX5_sumWithout 0 [(0, .ref 17), (1, .int v1)] [] I J P
  refine rr_aload_n dX5_sumWithout_0 rfl 0 rfl rfl ?_
  refine rr_getR dX5_sumWithout_1 fX5_31 (by decide) rfl rfl rfl ?_
  refine rr_V [] [] dX5_sumWithout_4 kX0_clear mX5_63 ⟨by decide, by decide⟩ (by decide) rfl rfl rfl (Nat.le_of_ble_eq_true rfl) rfl (h.mono fun vr I1 J1 h => ?_)
  obtain ⟨rfl, h⟩ := h
  show rr pgX zX5_sumWithout 7 _ [] _ _ _
  refine rr_aload_n dX5_sumWithout_7 rfl 0 rfl rfl ?_
  refine rr_getR dX5_sumWithout_8 fX5_31 (by decide) rfl rfl rfl ?_
  refine rr_iconst (v := (0 : Int32)) dX5_sumWithout_11 (by decide) rfl ?_
  refine rr_V [.int (0 : Int32)] [] dX5_sumWithout_12 kX0_add mX5_99 ⟨by decide, by decide⟩ (by decide) rfl rfl rfl (Nat.le_of_ble_eq_true rfl) rfl (h.mono fun vr I2 J2 h => ?_)
  obtain ⟨rfl, h⟩ := h
  show rr pgX zX5_sumWithout 15 _ [] _ _ _
  refine rr_iconst (v := (0 : Int32)) dX5_sumWithout_15 (by decide) rfl ?_
  refine rr_istore_n (lv' := [(2, .int (0 : Int32)), (0, .ref 17), (1, .int v1)]) dX5_sumWithout_16 rfl (by decide) rfl rfl ?_
  exact rr.sub [1, 2, 0] rfl h
theorem s_X5_sumWithout_17 {I : tg_I} {J : tg_J} {P : Option Value → tg_I → tg_J → Prop} (v1 : Int32) (v2 : Int32) (h :
  ((I 17 14) ≤ v2 →
   P none I J) ∧
  (¬ (I 17 14) ≤ v2 →
   (¬ v2 = v1 →
     call pgX zX0_clear [.ref 30] I J (fun vr I1 J1 => vr = none ∧
      (l_X5_sumWithout_42 I1 J1 P v1 v2 ((0 : Int32))))) ∧
    (v2 = v1 →
     l_X5_sumWithout_17 I J P v1 ((v2 + (1 : Int32)))))) : l_X5_sumWithout_17 I J P v1 v2 := by
  show rr pgX zX5_sumWithout 17 [(0, .ref 17), (1, .int v1), (2, .int v2)] [] I J P
  refine rr_iload_n dX5_sumWithout_17 rfl 2 rfl rfl ?_
  refine rr_aload_n dX5_sumWithout_18 rfl 0 rfl rfl ?_
  refine rr_getI dX5_sumWithout_19 fX5_66 (by decide) rfl rfl rfl ?_
  refine rr_icmp_ge (tgt := 97) dX5_sumWithout_22 (by decide) rfl ⟨fun hc => ?_, fun hc => ?_⟩
  · have h := h.1 hc
    exact rr_vret dX5_sumWithout_97 rfl h
  · have h := h.2 hc
    refine rr_iload_n dX5_sumWithout_25 rfl 2 rfl rfl ?_
    refine rr_iload_n dX5_sumWithout_26 rfl 1 rfl rfl ?_
    refine rr_icmp_ne (tgt := 33) dX5_sumWithout_27 (by decide) rfl ⟨fun hc => ?_, fun hc => ?_⟩
    · have h := h.1 hc
      refine rr_aload_n dX5_sumWithout_33 rfl 0 rfl rfl ?_
      refine rr_getR dX5_sumWithout_34 fX5_34 (by decide) rfl rfl rfl ?_
      refine rr_V [] [] dX5_sumWithout_37 kX0_clear mX5_63 ⟨by decide, by decide⟩ (by decide) rfl rfl rfl (Nat.le_of_ble_eq_true rfl) rfl (h.mono fun vr I1 J1 h => ?_)
      obtain ⟨rfl, h⟩ := h
      show rr pgX zX5_sumWithout 40 _ [] _ _ _
      refine rr_iconst (v := (0 : Int32)) dX5_sumWithout_40 (by decide) rfl ?_
      refine rr_istore_n (lv' := [(3, .int (0 : Int32)), (0, .ref 17), (1, .int v1), (2, .int v2)]) dX5_sumWithout_41 rfl (by decide) rfl rfl ?_
      exact rr.sub [1, 2, 3, 0] rfl h
    · have h := h.2 hc
      refine rr_goto (tgt := 91) dX5_sumWithout_30 (by decide) ?_
      refine rr_iinc (k := 2) (v := (v2 + (1 : Int32))) (lv' := [(2, .int (v2 + (1 : Int32))), (0, .ref 17), (1, .int v1)]) dX5_sumWithout_91 rfl rfl (by decide) rfl rfl ?_
      refine rr_goto (tgt := 17) dX5_sumWithout_94 (by decide) ?_
      exact rr.sub [1, 2, 0] rfl h
theorem s_X5_sumWithout_42 {I : tg_I} {J : tg_J} {P : Option Value → tg_I → tg_J → Prop} (v1 : Int32) (v2 : Int32) (v3 : Int32) (h :
  ((13 : Int32) ≤ v3 →
   call pgX zX0_copy [.ref 29, .ref 30] I J (fun vr I1 J1 => vr = none ∧
    (l_X5_sumWithout_17 I1 J1 P v1 ((v2 + (1 : Int32)))))) ∧
  (¬ (13 : Int32) ≤ v3 →
   vp_in ((v2 * (13 : Int32)) + v3) 1300 ∧
    (((I 34 (Int32.toNatClampNeg ((v2 * (13 : Int32)) + v3))) ≤ 0 →
     l_X5_sumWithout_42 I J P v1 v2 ((v3 + (1 : Int32)))) ∧
    (¬ (I 34 (Int32.toNatClampNeg ((v2 * (13 : Int32)) + v3))) ≤ 0 →
     call pgX zX0_joinMoved [.ref 30, .ref 29, .int v3] I J (fun vr I2 J2 => vr = none ∧
      (l_X5_sumWithout_42 I2 J2 P v1 v2 ((v3 + (1 : Int32))))))))) : l_X5_sumWithout_42 I J P v1 v2 v3 := by
  show rr pgX zX5_sumWithout 42 [(0, .ref 17), (1, .int v1), (2, .int v2), (3, .int v3)] [] I J P
  refine rr_iload_n dX5_sumWithout_42 rfl 3 rfl rfl ?_
  refine rr_bipush (v := (13 : Int32)) dX5_sumWithout_43 (by decide) rfl ?_
  refine rr_icmp_ge (tgt := 80) dX5_sumWithout_45 (by decide) rfl ⟨fun hc => ?_, fun hc => ?_⟩
  · have h := h.1 hc
    refine rr_aload_n dX5_sumWithout_80 rfl 0 rfl rfl ?_
    refine rr_getR dX5_sumWithout_81 fX5_31 (by decide) rfl rfl rfl ?_
    refine rr_aload_n dX5_sumWithout_84 rfl 0 rfl rfl ?_
    refine rr_getR dX5_sumWithout_85 fX5_34 (by decide) rfl rfl rfl ?_
    refine rr_V [.ref 30] [] dX5_sumWithout_88 kX0_copy mX5_174 ⟨by decide, by decide⟩ (by decide) rfl rfl rfl (Nat.le_of_ble_eq_true rfl) rfl (h.mono fun vr I1 J1 h => ?_)
    obtain ⟨rfl, h⟩ := h
    show rr pgX zX5_sumWithout 91 _ [] _ _ _
    refine rr_iinc (k := 2) (v := (v2 + (1 : Int32))) (lv' := [(2, .int (v2 + (1 : Int32))), (0, .ref 17), (1, .int v1), (3, .int v3)]) dX5_sumWithout_91 rfl rfl (by decide) rfl rfl ?_
    refine rr_goto (tgt := 17) dX5_sumWithout_94 (by decide) ?_
    exact rr.sub [1, 2, 0] rfl h
  · have h := h.2 hc
    refine rr_aload_n dX5_sumWithout_48 rfl 0 rfl rfl ?_
    refine rr_getR dX5_sumWithout_49 fX5_47 (by decide) rfl rfl rfl ?_
    refine rr_iload_n dX5_sumWithout_52 rfl 2 rfl rfl ?_
    refine rr_bipush (v := (13 : Int32)) dX5_sumWithout_53 (by decide) rfl ?_
    refine rr_imul dX5_sumWithout_55 rfl ?_
    refine rr_iload_n dX5_sumWithout_56 rfl 3 rfl rfl ?_
    refine rr_iadd dX5_sumWithout_57 rfl ?_
    refine rr_iald dX5_sumWithout_58 (by decide) rfl rfl ⟨h.1, ?_⟩
    have h := h.2
    refine rr_if_le (tgt := 74) dX5_sumWithout_59 (by decide) rfl ⟨fun hc => ?_, fun hc => ?_⟩
    · have h := h.1 hc
      refine rr_iinc (k := 3) (v := (v3 + (1 : Int32))) (lv' := [(3, .int (v3 + (1 : Int32))), (0, .ref 17), (1, .int v1), (2, .int v2)]) dX5_sumWithout_74 rfl rfl (by decide) rfl rfl ?_
      refine rr_goto (tgt := 42) dX5_sumWithout_77 (by decide) ?_
      exact rr.sub [1, 2, 3, 0] rfl h
    · have h := h.2 hc
      refine rr_aload_n dX5_sumWithout_62 rfl 0 rfl rfl ?_
      refine rr_getR dX5_sumWithout_63 fX5_34 (by decide) rfl rfl rfl ?_
      refine rr_aload_n dX5_sumWithout_66 rfl 0 rfl rfl ?_
      refine rr_getR dX5_sumWithout_67 fX5_31 (by decide) rfl rfl rfl ?_
      refine rr_iload_n dX5_sumWithout_70 rfl 3 rfl rfl ?_
      refine rr_V [.ref 29, .int v3] [] dX5_sumWithout_71 kX0_joinMoved mX5_184 ⟨by decide, by decide⟩ (by decide) rfl rfl rfl (Nat.le_of_ble_eq_true rfl) rfl (h.mono fun vr I2 J2 h => ?_)
      obtain ⟨rfl, h⟩ := h
      show rr pgX zX5_sumWithout 74 _ [] _ _ _
      refine rr_iinc (k := 3) (v := (v3 + (1 : Int32))) (lv' := [(3, .int (v3 + (1 : Int32))), (0, .ref 17), (1, .int v1), (2, .int v2)]) dX5_sumWithout_74 rfl rfl (by decide) rfl rfl ?_
      refine rr_goto (tgt := 42) dX5_sumWithout_77 (by decide) ?_
      exact rr.sub [1, 2, 3, 0] rfl h

def l_X5_reaches_8 (I : tg_I) (J : tg_J) (P : Option Value → tg_I → tg_J → Prop) (v1 : Int32) (v3 : Int32) : Prop := rr pgX zX5_reaches 8 [(0, .ref 17), (1, .int v1), (3, .int v3)] [] I J P
theorem e_X5_reaches {I : tg_I} {J : tg_J} {P : Option Value → tg_I → tg_J → Prop} (v1 : Int32) (v2 : Int32) (h :
  ∀ x1, x1 = (if (0 : Int32) < (v1 - v2) then (v1 - v2) else (0 : Int32)) →
  l_X5_reaches_8 I J P v1 x1) : call pgX zX5_reaches [.ref 17, .int v1, .int v2] I J P := by
  refine call_of (by decide +kernel) (fun _ => Nat.le_of_ble_eq_true rfl) ?_
  show rr pgX zX5_reaches 0 [(0, .ref 17), (1, .int v1), (2, .int v2)] [] I J P
  refine rr_iconst (v := (0 : Int32)) dX5_reaches_0 (by decide) rfl ?_
  refine rr_iload_n dX5_reaches_1 rfl 1 rfl rfl ?_
  refine rr_iload_n dX5_reaches_2 rfl 2 rfl rfl ?_
  refine rr_isub dX5_reaches_3 rfl ?_
  refine rr_max dX5_reaches_4 mX5_188 mx_st mx_ini mx_code ⟨by decide, by decide⟩ rfl ?_
  refine rr_letTi (fun x1 hx1 => ?_)
  have h := h x1 hx1
  refine rr_istore_n (lv' := [(3, .int x1), (0, .ref 17), (1, .int v1), (2, .int v2)]) dX5_reaches_7 rfl (by decide) rfl rfl ?_
  exact rr.sub [1, 2, 0] rfl h
theorem s_X5_reaches_8 {I : tg_I} {J : tg_J} {P : Option Value → tg_I → tg_J → Prop} (v1 : Int32) (v3 : Int32) (h :
  (v1 < v3 →
   P (some (.int (0 : Int32))) I J) ∧
  (¬ v1 < v3 →
   ((100 : Int32) < v3 →
     P (some (.int (0 : Int32))) I J) ∧
    (¬ (100 : Int32) < v3 →
     call pgX zX0_has [.ref 29, .int v3] I J (fun vr I1 J1 => ∃ r1 : Int32, vr = some (.int r1) ∧
      ((r1 = 0 →
       l_X5_reaches_8 I1 J1 P v1 ((v3 + (1 : Int32)))) ∧
      (¬ r1 = 0 →
       P (some (.int (1 : Int32))) I1 J1)))))) : l_X5_reaches_8 I J P v1 v3 := by
  show rr pgX zX5_reaches 8 [(0, .ref 17), (1, .int v1), (3, .int v3)] [] I J P
  refine rr_iload_n dX5_reaches_8 rfl 2 rfl rfl ?_
  refine rr_iload_n dX5_reaches_9 rfl 1 rfl rfl ?_
  refine rr_icmp_gt (tgt := 38) dX5_reaches_10 (by decide) rfl ⟨fun hc => ?_, fun hc => ?_⟩
  · have h := h.1 hc
    refine rr_iconst (v := (0 : Int32)) dX5_reaches_38 (by decide) rfl ?_
    exact rr_zret dX5_reaches_39 rfl rfl h
  · have h := h.2 hc
    refine rr_iload_n dX5_reaches_13 rfl 2 rfl rfl ?_
    refine rr_bipush (v := (100 : Int32)) dX5_reaches_14 (by decide) rfl ?_
    refine rr_icmp_gt (tgt := 38) dX5_reaches_16 (by decide) rfl ⟨fun hc => ?_, fun hc => ?_⟩
    · have h := h.1 hc
      refine rr_iconst (v := (0 : Int32)) dX5_reaches_38 (by decide) rfl ?_
      exact rr_zret dX5_reaches_39 rfl rfl h
    · have h := h.2 hc
      refine rr_aload_n dX5_reaches_19 rfl 0 rfl rfl ?_
      refine rr_getR dX5_reaches_20 fX5_31 (by decide) rfl rfl rfl ?_
      refine rr_iload_n dX5_reaches_23 rfl 2 rfl rfl ?_
      refine rr_V [.int v3] [] dX5_reaches_24 kX0_has mX5_84 ⟨by decide, by decide⟩ (by decide) rfl rfl rfl (Nat.le_of_ble_eq_true rfl) rfl (h.mono fun vr I1 J1 h => ?_)
      obtain ⟨r1, rfl, h⟩ := h
      show rr pgX zX5_reaches 27 _ [.int r1] _ _ _
      refine rr_if_eq (tgt := 32) dX5_reaches_27 (by decide) rfl ⟨fun hc => ?_, fun hc => ?_⟩
      · have h := h.1 hc
        refine rr_iinc (k := 2) (v := (v3 + (1 : Int32))) (lv' := [(3, .int (v3 + (1 : Int32))), (0, .ref 17), (1, .int v1)]) dX5_reaches_32 rfl rfl (by decide) rfl rfl ?_
        refine rr_goto (tgt := 8) dX5_reaches_35 (by decide) ?_
        exact rr.sub [1, 2, 0] rfl h
      · have h := h.2 hc
        refine rr_iconst (v := (1 : Int32)) dX5_reaches_30 (by decide) rfl ?_
        exact rr_zret dX5_reaches_31 rfl rfl h

theorem e_X5_countAll {I : tg_I} {J : tg_J} {P : Option Value → tg_I → tg_J → Prop} (b1 : Nat) (hb1 : isBd b1) (h :
  call pgX zX5_countWithout [.ref 17, .int (I 17 14)] I J (fun vr I1 J1 => vr = none ∧
  (call pgX zX0_size [.ref (b1 + 8)] I1 J1 (fun vr I2 J2 => ∃ r1 : Int32, vr = some (.int r1) ∧
  (call pgX zX0_size [.ref 28] I2 J2 (fun vr I3 J3 => ∃ r2 : Int32, vr = some (.int r2) ∧
  (call pgX zX5_chooseFrom [.ref 17, .int (r1 - r2)] I3 J3 (fun vr I4 J4 => vr = none ∧
  (call pgX zX1_minesLeft [.ref b1] I4 J4 (fun vr I5 J5 => ∃ r3 : Int32, vr = some (.int r3) ∧
  (call pgX zX5_fill [.ref 17, .int r3] I5 J5 (fun vr I6 J6 => ∃ r4 : Int64, vr = some (.long r4) ∧
  (P (some (.int (Int64.toInt32 r4))) I6 J6))))))))))))) : call pgX zX5_countAll [.ref 17, .ref b1] I J P := by
  refine call_of (by decide +kernel) (fun _ => Nat.le_of_ble_eq_true rfl) ?_
  show rr pgX zX5_countAll 0 [(0, .ref 17), (1, .ref b1)] [] I J P
  refine rr_aload_n dX5_countAll_0 rfl 0 rfl rfl ?_
  refine rr_aload_n dX5_countAll_1 rfl 0 rfl rfl ?_
  refine rr_getI dX5_countAll_2 fX5_66 (by decide) rfl rfl rfl ?_
  refine rr_V [.int (I 17 14)] [] dX5_countAll_5 kX5_countWithout mX5_193 ⟨by decide, by decide⟩ (by decide) rfl rfl rfl (Nat.le_of_ble_eq_true rfl) rfl (h.mono fun vr I1 J1 h => ?_)
  obtain ⟨rfl, h⟩ := h
  show rr pgX zX5_countAll 8 _ [] _ _ _
  refine rr_aload_n dX5_countAll_8 rfl 0 rfl rfl ?_
  refine rr_aload_n dX5_countAll_9 rfl 1 rfl rfl ?_
  refine rr_getR dX5_countAll_10 fX5_81 (bd_lt0 hb1) (bd_0 hb1) rfl rfl ?_
  refine rr_V [] [.ref 17] dX5_countAll_13 kX0_size mX5_153 ⟨by decide, by decide⟩ (bd_lt hb1 (by decide)) (bd_8 hb1) rfl rfl (Nat.le_of_ble_eq_true rfl) rfl (h.mono fun vr I2 J2 h => ?_)
  obtain ⟨r1, rfl, h⟩ := h
  show rr pgX zX5_countAll 16 _ [.int r1, .ref 17] _ _ _
  refine rr_aload_n dX5_countAll_16 rfl 0 rfl rfl ?_
  refine rr_getR dX5_countAll_17 fX5_28 (by decide) rfl rfl rfl ?_
  refine rr_V [] [.int r1, .ref 17] dX5_countAll_20 kX0_size mX5_153 ⟨by decide, by decide⟩ (by decide) rfl rfl rfl (Nat.le_of_ble_eq_true rfl) rfl (h.mono fun vr I3 J3 h => ?_)
  obtain ⟨r2, rfl, h⟩ := h
  show rr pgX zX5_countAll 23 _ [.int r2, .int r1, .ref 17] _ _ _
  refine rr_isub dX5_countAll_23 rfl ?_
  refine rr_V [.int (r1 - r2)] [] dX5_countAll_24 kX5_chooseFrom mX5_196 ⟨by decide, by decide⟩ (by decide) rfl rfl rfl (Nat.le_of_ble_eq_true rfl) rfl (h.mono fun vr I4 J4 h => ?_)
  obtain ⟨rfl, h⟩ := h
  show rr pgX zX5_countAll 27 _ [] _ _ _
  refine rr_aload_n dX5_countAll_27 rfl 0 rfl rfl ?_
  refine rr_aload_n dX5_countAll_28 rfl 1 rfl rfl ?_
  refine rr_V [] [.ref 17] dX5_countAll_29 kX1_minesLeft mX5_149 ⟨by decide, by decide⟩ (bd_lt0 hb1) (bd_0 hb1) rfl rfl (Nat.le_of_ble_eq_true rfl) rfl (h.mono fun vr I5 J5 h => ?_)
  obtain ⟨r3, rfl, h⟩ := h
  show rr pgX zX5_countAll 32 _ [.int r3, .ref 17] _ _ _
  refine rr_V [.int r3] [] dX5_countAll_32 kX5_fill mX5_199 ⟨by decide, by decide⟩ (by decide) rfl rfl rfl (Nat.le_of_ble_eq_true rfl) rfl (h.mono fun vr I6 J6 h => ?_)
  obtain ⟨r4, rfl, h⟩ := h
  show rr pgX zX5_countAll 35 _ [.long r4] _ _ _
  refine rr_l2i dX5_countAll_35 rfl ?_
  exact rr_iret dX5_countAll_36 rfl h

def l_X5_countHolding_79 (I : tg_I) (J : tg_J) (P : Option Value → tg_I → tg_J → Prop) (v2 : Int32) (v4 : Int32) (v5 : Int64) (v7 : Int32) : Prop := rr pgX zX5_countHolding 79 [(0, .ref 17), (2, .int v2), (4, .int v4), (5, .long v5), (7, .int v7)] [] I J P
theorem e_X5_countHolding {I : tg_I} {J : tg_J} {P : Option Value → tg_I → tg_J → Prop} (b1 : Nat) (v2 : Int32) (hb1 : isBd b1) (h :
  call pgX zX0_size [.ref (b1 + 8)] I J (fun vr I1 J1 => ∃ r1 : Int32, vr = some (.int r1) ∧
  (call pgX zX0_size [.ref 28] I1 J1 (fun vr I2 J2 => ∃ r2 : Int32, vr = some (.int r2) ∧
  (call pgX zX1_minesLeft [.ref b1] I2 J2 (fun vr I3 J3 => ∃ r3 : Int32, vr = some (.int r3) ∧
  (call pgX zX0_has [.ref 28, .int v2] I3 J3 (fun vr I4 J4 => ∃ r4 : Int32, vr = some (.int r4) ∧
  ((¬ r4 = 0 →
   vp_in v2 100 ∧
    (call pgX zX5_countWithout [.ref 17, .int (I4 33 (Int32.toNatClampNeg v2))] I4 J4 (fun vr I5 J5 => vr = none ∧
    (call pgX zX5_chooseFrom [.ref 17, .int (r1 - r2)] I5 J5 (fun vr I6 J6 => vr = none ∧
    (l_X5_countHolding_79 I6 J6 P v2 r3 ((0 : Int64)) ((0 : Int32)))))))) ∧
  (r4 = 0 →
   call pgX zX5_countWithout [.ref 17, .int (I4 17 14)] I4 J4 (fun vr I7 J7 => vr = none ∧
    (call pgX zX5_chooseFrom [.ref 17, .int ((r1 - r2) - (1 : Int32))] I7 J7 (fun vr I8 J8 => vr = none ∧
    (call pgX zX5_fill [.ref 17, .int (r3 - (1 : Int32))] I8 J8 (fun vr I9 J9 => ∃ r5 : Int64, vr = some (.long r5) ∧
    (P (some (.int (Int64.toInt32 r5))) I9 J9)))))))))))))))) : call pgX zX5_countHolding [.ref 17, .ref b1, .int v2] I J P := by
  refine call_of (by decide +kernel) (fun _ => Nat.le_of_ble_eq_true rfl) ?_
  show rr pgX zX5_countHolding 0 [(0, .ref 17), (1, .ref b1), (2, .int v2)] [] I J P
  refine rr_aload_n dX5_countHolding_0 rfl 1 rfl rfl ?_
  refine rr_getR dX5_countHolding_1 fX5_81 (bd_lt0 hb1) (bd_0 hb1) rfl rfl ?_
  refine rr_V [] [] dX5_countHolding_4 kX0_size mX5_153 ⟨by decide, by decide⟩ (bd_lt hb1 (by decide)) (bd_8 hb1) rfl rfl (Nat.le_of_ble_eq_true rfl) rfl (h.mono fun vr I1 J1 h => ?_)
  obtain ⟨r1, rfl, h⟩ := h
  show rr pgX zX5_countHolding 7 _ [.int r1] _ _ _
  refine rr_aload_n dX5_countHolding_7 rfl 0 rfl rfl ?_
  refine rr_getR dX5_countHolding_8 fX5_28 (by decide) rfl rfl rfl ?_
  refine rr_V [] [.int r1] dX5_countHolding_11 kX0_size mX5_153 ⟨by decide, by decide⟩ (by decide) rfl rfl rfl (Nat.le_of_ble_eq_true rfl) rfl (h.mono fun vr I2 J2 h => ?_)
  obtain ⟨r2, rfl, h⟩ := h
  show rr pgX zX5_countHolding 14 _ [.int r2, .int r1] _ _ _
  refine rr_isub dX5_countHolding_14 rfl ?_
  refine rr_istore_n (lv' := [(3, .int (r1 - r2)), (0, .ref 17), (1, .ref b1), (2, .int v2)]) dX5_countHolding_15 rfl (by decide) rfl rfl ?_
  refine rr_aload_n dX5_countHolding_16 rfl 2 rfl rfl ?_
  refine rr_V [] [] dX5_countHolding_17 kX1_minesLeft mX5_149 ⟨by decide, by decide⟩ (bd_lt0 hb1) (bd_0 hb1) rfl rfl (Nat.le_of_ble_eq_true rfl) rfl (h.mono fun vr I3 J3 h => ?_)
  obtain ⟨r3, rfl, h⟩ := h
  show rr pgX zX5_countHolding 20 _ [.int r3] _ _ _
  refine rr_istore (lv' := [(4, .int r3), (3, .int (r1 - r2)), (0, .ref 17), (1, .ref b1), (2, .int v2)]) dX5_countHolding_20 (by decide) rfl rfl ?_
  refine rr_aload_n dX5_countHolding_22 rfl 2 rfl rfl ?_
  refine rr_getR dX5_countHolding_23 fX5_28 (by decide) rfl rfl rfl ?_
  refine rr_iload_n dX5_countHolding_26 rfl 4 rfl rfl ?_
  refine rr_V [.int v2] [] dX5_countHolding_27 kX0_has mX5_84 ⟨by decide, by decide⟩ (by decide) rfl rfl rfl (Nat.le_of_ble_eq_true rfl) rfl (h.mono fun vr I4 J4 h => ?_)
  obtain ⟨r4, rfl, h⟩ := h
  show rr pgX zX5_countHolding 30 _ [.int r4] _ _ _
  refine rr_if_ne (tgt := 58) dX5_countHolding_30 (by decide) rfl ⟨fun hc => ?_, fun hc => ?_⟩
  · have h := h.1 hc
    refine rr_aload_n dX5_countHolding_58 rfl 2 rfl rfl ?_
    refine rr_aload_n dX5_countHolding_59 rfl 2 rfl rfl ?_
    refine rr_getR dX5_countHolding_60 fX5_44 (by decide) rfl rfl rfl ?_
    refine rr_iload_n dX5_countHolding_63 rfl 4 rfl rfl ?_
    refine rr_iald dX5_countHolding_64 (by decide) rfl rfl ⟨h.1, ?_⟩
    have h := h.2
    refine rr_V [.int (I4 33 (Int32.toNatClampNeg v2))] [] dX5_countHolding_65 kX5_countWithout mX5_193 ⟨by decide, by decide⟩ (by decide) rfl rfl rfl (Nat.le_of_ble_eq_true rfl) rfl (h.mono fun vr I5 J5 h => ?_)
    obtain ⟨rfl, h⟩ := h
    show rr pgX zX5_countHolding 68 _ [] _ _ _
    refine rr_aload_n dX5_countHolding_68 rfl 2 rfl rfl ?_
    refine rr_iload_n dX5_countHolding_69 rfl 1 rfl rfl ?_
    refine rr_V [.int (r1 - r2)] [] dX5_countHolding_70 kX5_chooseFrom mX5_196 ⟨by decide, by decide⟩ (by decide) rfl rfl rfl (Nat.le_of_ble_eq_true rfl) rfl (h.mono fun vr I6 J6 h => ?_)
    obtain ⟨rfl, h⟩ := h
    show rr pgX zX5_countHolding 73 _ [] _ _ _
    refine rr_lconst (v := (0 : Int64)) dX5_countHolding_73 (by decide) rfl ?_
    refine rr_lstore (lv' := [(5, .long (0 : Int64)), (4, .int r3), (3, .int (r1 - r2)), (0, .ref 17), (1, .ref b1), (2, .int v2)]) dX5_countHolding_74 (by decide) rfl rfl ?_
    refine rr_iconst (v := (0 : Int32)) dX5_countHolding_76 (by decide) rfl ?_
    refine rr_istore (lv' := [(7, .int (0 : Int32)), (5, .long (0 : Int64)), (4, .int r3), (3, .int (r1 - r2)), (0, .ref 17), (1, .ref b1), (2, .int v2)]) dX5_countHolding_77 (by decide) rfl rfl ?_
    exact rr.sub [4, 6, 2, 1, 0] rfl h
  · have h := h.2 hc
    refine rr_aload_n dX5_countHolding_33 rfl 2 rfl rfl ?_
    refine rr_aload_n dX5_countHolding_34 rfl 2 rfl rfl ?_
    refine rr_getI dX5_countHolding_35 fX5_66 (by decide) rfl rfl rfl ?_
    refine rr_V [.int (I4 17 14)] [] dX5_countHolding_38 kX5_countWithout mX5_193 ⟨by decide, by decide⟩ (by decide) rfl rfl rfl (Nat.le_of_ble_eq_true rfl) rfl (h.mono fun vr I7 J7 h => ?_)
    obtain ⟨rfl, h⟩ := h
    show rr pgX zX5_countHolding 41 _ [] _ _ _
    refine rr_aload_n dX5_countHolding_41 rfl 2 rfl rfl ?_
    refine rr_iload_n dX5_countHolding_42 rfl 1 rfl rfl ?_
    refine rr_iconst (v := (1 : Int32)) dX5_countHolding_43 (by decide) rfl ?_
    refine rr_isub dX5_countHolding_44 rfl ?_
    refine rr_V [.int ((r1 - r2) - (1 : Int32))] [] dX5_countHolding_45 kX5_chooseFrom mX5_196 ⟨by decide, by decide⟩ (by decide) rfl rfl rfl (Nat.le_of_ble_eq_true rfl) rfl (h.mono fun vr I8 J8 h => ?_)
    obtain ⟨rfl, h⟩ := h
    show rr pgX zX5_countHolding 48 _ [] _ _ _
    refine rr_aload_n dX5_countHolding_48 rfl 2 rfl rfl ?_
    refine rr_iload dX5_countHolding_49 0 rfl rfl ?_
    refine rr_iconst (v := (1 : Int32)) dX5_countHolding_51 (by decide) rfl ?_
    refine rr_isub dX5_countHolding_52 rfl ?_
    refine rr_V [.int (r3 - (1 : Int32))] [] dX5_countHolding_53 kX5_fill mX5_199 ⟨by decide, by decide⟩ (by decide) rfl rfl rfl (Nat.le_of_ble_eq_true rfl) rfl (h.mono fun vr I9 J9 h => ?_)
    obtain ⟨r5, rfl, h⟩ := h
    show rr pgX zX5_countHolding 56 _ [.long r5] _ _ _
    refine rr_l2i dX5_countHolding_56 rfl ?_
    exact rr_iret dX5_countHolding_57 rfl h
theorem s_X5_countHolding_79 {I : tg_I} {J : tg_J} {P : Option Value → tg_I → tg_J → Prop} (v2 : Int32) (v4 : Int32) (v5 : Int64) (v7 : Int32) (h :
  ((13 : Int32) ≤ v7 →
   P (some (.int (Int64.toInt32 v5))) I J) ∧
  (¬ (13 : Int32) ≤ v7 →
   vp_in ((v2 * (13 : Int32)) + v7) 1300 ∧
    (∀ x1, x1 = (I 35 (Int32.toNatClampNeg ((v2 * (13 : Int32)) + v7))) →
    (x1 ≤ 0 →
     l_X5_countHolding_79 I J P v2 v4 v5 ((v7 + (1 : Int32)))) ∧
    (¬ x1 ≤ 0 →
     call pgX zX5_fill [.ref 17, .int (v4 - v7)] I J (fun vr I1 J1 => ∃ r1 : Int64, vr = some (.long r1) ∧
      (∀ y1, y1 = ((v5 + ((Int32.toInt64 x1) * r1)) - (v5 + ((Int32.toInt64 x1) * r1)) / (1000000007 : Int64) * (1000000007 : Int64)) →
      l_X5_countHolding_79 I1 J1 P v2 v4 y1 ((v7 + (1 : Int32))))))))) : l_X5_countHolding_79 I J P v2 v4 v5 v7 := by
  show rr pgX zX5_countHolding 79 [(0, .ref 17), (2, .int v2), (4, .int v4), (5, .long v5), (7, .int v7)] [] I J P
  refine rr_iload dX5_countHolding_79 4 rfl rfl ?_
  refine rr_bipush (v := (13 : Int32)) dX5_countHolding_81 (by decide) rfl ?_
  refine rr_icmp_ge (tgt := 133) dX5_countHolding_83 (by decide) rfl ⟨fun hc => ?_, fun hc => ?_⟩
  · have h := h.1 hc
    refine rr_lload dX5_countHolding_133 3 rfl rfl ?_
    refine rr_l2i dX5_countHolding_135 rfl ?_
    exact rr_iret dX5_countHolding_136 rfl h
  · have h := h.2 hc
    refine rr_aload_n dX5_countHolding_86 rfl 0 rfl rfl ?_
    refine rr_getR dX5_countHolding_87 fX5_50 (by decide) rfl rfl rfl ?_
    refine rr_iload_n dX5_countHolding_90 rfl 1 rfl rfl ?_
    refine rr_bipush (v := (13 : Int32)) dX5_countHolding_91 (by decide) rfl ?_
    refine rr_imul dX5_countHolding_93 rfl ?_
    refine rr_iload dX5_countHolding_94 4 rfl rfl ?_
    refine rr_iadd dX5_countHolding_96 rfl ?_
    refine rr_iald dX5_countHolding_97 (by decide) rfl rfl ⟨h.1, ?_⟩
    have h := h.2
    refine rr_letTi (fun x1 hx1 => ?_)
    have h := h x1 hx1
    refine rr_istore (lv' := [(8, .int x1), (0, .ref 17), (2, .int v2), (4, .int v4), (5, .long v5), (7, .int v7)]) dX5_countHolding_98 (by decide) rfl rfl ?_
    refine rr_iload dX5_countHolding_100 0 rfl rfl ?_
    refine rr_if_le (tgt := 127) dX5_countHolding_102 (by decide) rfl ⟨fun hc => ?_, fun hc => ?_⟩
    · have h := h.1 hc
      refine rr_iinc (k := 5) (v := (v7 + (1 : Int32))) (lv' := [(7, .int (v7 + (1 : Int32))), (8, .int x1), (0, .ref 17), (2, .int v2), (4, .int v4), (5, .long v5)]) dX5_countHolding_127 rfl rfl (by decide) rfl rfl ?_
      refine rr_goto (tgt := 79) dX5_countHolding_130 (by decide) ?_
      exact rr.sub [2, 3, 4, 5, 0] rfl h
    · have h := h.2 hc
      refine rr_lload dX5_countHolding_105 4 rfl rfl ?_
      refine rr_iload dX5_countHolding_107 0 rfl rfl ?_
      refine rr_i2l dX5_countHolding_109 rfl ?_
      refine rr_aload_n dX5_countHolding_110 rfl 1 rfl rfl ?_
      refine rr_iload dX5_countHolding_111 3 rfl rfl ?_
      refine rr_iload dX5_countHolding_113 5 rfl rfl ?_
      refine rr_isub dX5_countHolding_115 rfl ?_
      refine rr_V [.int (v4 - v7)] [.long (Int32.toInt64 x1), .long v5] dX5_countHolding_116 kX5_fill mX5_199 ⟨by decide, by decide⟩ (by decide) rfl rfl rfl (Nat.le_of_ble_eq_true rfl) rfl (h.mono fun vr I1 J1 h => ?_)
      obtain ⟨r1, rfl, h⟩ := h
      show rr pgX zX5_countHolding 119 _ [.long r1, .long (Int32.toInt64 x1), .long v5] _ _ _
      refine rr_lmul dX5_countHolding_119 rfl ?_
      refine rr_ladd dX5_countHolding_120 rfl ?_
      refine rr_ldc2 dX5_countHolding_121 qX5_203 rfl ?_
      refine rr_lrem dX5_countHolding_124 (by decide) rfl ?_
      refine rr_letTl (fun y1 hy1 => ?_)
      have h := h y1 hy1
      refine rr_lstore (lv' := [(5, .long y1), (8, .int x1), (0, .ref 17), (2, .int v2), (4, .int v4), (7, .int v7)]) dX5_countHolding_125 (by decide) rfl rfl ?_
      refine rr_iinc (k := 5) (v := (v7 + (1 : Int32))) (lv' := [(7, .int (v7 + (1 : Int32))), (5, .long y1), (8, .int x1), (0, .ref 17), (2, .int v2), (4, .int v4)]) dX5_countHolding_127 rfl rfl (by decide) rfl rfl ?_
      refine rr_goto (tgt := 79) dX5_countHolding_130 (by decide) ?_
      exact rr.sub [3, 4, 5, 1, 0] rfl h

def l_X5_countWithout_9 (I : tg_I) (J : tg_J) (P : Option Value → tg_I → tg_J → Prop) (v1 : Int32) (v2 : Int32) : Prop := rr pgX zX5_countWithout 9 [(0, .ref 17), (1, .int v1), (2, .int v2)] [] I J P
def l_X5_countWithout_27 (I : tg_I) (J : tg_J) (P : Option Value → tg_I → tg_J → Prop) (v1 : Int32) (v2 : Int32) (v3 : Int32) : Prop := rr pgX zX5_countWithout 27 [(0, .ref 17), (1, .int v1), (2, .int v2), (3, .int v3)] [] I J P
def l_X5_countWithout_53 (I : tg_I) (J : tg_J) (P : Option Value → tg_I → tg_J → Prop) (v1 : Int32) (v2 : Int32) (v3 : Int32) : Prop := rr pgX zX5_countWithout 53 [(0, .ref 17), (1, .int v1), (2, .int v2), (3, .int v3)] [] I J P
def l_X5_countWithout_65 (I : tg_I) (J : tg_J) (P : Option Value → tg_I → tg_J → Prop) (v1 : Int32) (v2 : Int32) (v3 : Int32) (v4 : Int64) (v6 : Int32) : Prop := rr pgX zX5_countWithout 65 [(0, .ref 17), (1, .int v1), (2, .int v2), (3, .int v3), (4, .long v4), (6, .int v6)] [] I J P
theorem e_X5_countWithout {I : tg_I} {J : tg_J} {P : Option Value → tg_I → tg_J → Prop} (v1 : Int32) (h :
  call pgX zX5_startRow [.ref 36] I J (fun vr I1 J1 => vr = none ∧
  (l_X5_countWithout_9 I1 J1 P v1 ((0 : Int32))))) : call pgX zX5_countWithout [.ref 17, .int v1] I J P := by
  refine call_of (by decide +kernel) (fun _ => Nat.le_of_ble_eq_true rfl) ?_
  show rr pgX zX5_countWithout 0 [(0, .ref 17), (1, .int v1)] [] I J P
  refine rr_aload_n dX5_countWithout_0 rfl 0 rfl rfl ?_
  refine rr_getR dX5_countWithout_1 fX5_53 (by decide) rfl rfl rfl ?_
  refine rr_S [.ref 36] [] dX5_countWithout_4 kX5_startRow mX5_205 ⟨by decide, by decide⟩ rfl rfl (Nat.le_of_ble_eq_true rfl) rfl (h.mono fun vr I1 J1 h => ?_)
  obtain ⟨rfl, h⟩ := h
  show rr pgX zX5_countWithout 7 _ [] _ _ _
  refine rr_iconst (v := (0 : Int32)) dX5_countWithout_7 (by decide) rfl ?_
  refine rr_istore_n (lv' := [(2, .int (0 : Int32)), (0, .ref 17), (1, .int v1)]) dX5_countWithout_8 rfl (by decide) rfl rfl ?_
  exact rr.sub [1, 2, 0] rfl h
theorem s_X5_countWithout_9 {I : tg_I} {J : tg_J} {P : Option Value → tg_I → tg_J → Prop} (v1 : Int32) (v2 : Int32) (h :
  ((I 17 14) ≤ v2 →
   P none I J) ∧
  (¬ (I 17 14) ≤ v2 →
   (¬ v2 = v1 →
     l_X5_countWithout_27 I J P v1 v2 ((0 : Int32))) ∧
    (v2 = v1 →
     l_X5_countWithout_9 I J P v1 ((v2 + (1 : Int32)))))) : l_X5_countWithout_9 I J P v1 v2 := by
  show rr pgX zX5_countWithout 9 [(0, .ref 17), (1, .int v1), (2, .int v2)] [] I J P
  refine rr_iload_n dX5_countWithout_9 rfl 2 rfl rfl ?_
  refine rr_aload_n dX5_countWithout_10 rfl 0 rfl rfl ?_
  refine rr_getI dX5_countWithout_11 fX5_66 (by decide) rfl rfl rfl ?_
  refine rr_icmp_ge (tgt := 140) dX5_countWithout_14 (by decide) rfl ⟨fun hc => ?_, fun hc => ?_⟩
  · have h := h.1 hc
    exact rr_vret dX5_countWithout_140 rfl h
  · have h := h.2 hc
    refine rr_iload_n dX5_countWithout_17 rfl 2 rfl rfl ?_
    refine rr_iload_n dX5_countWithout_18 rfl 1 rfl rfl ?_
    refine rr_icmp_ne (tgt := 25) dX5_countWithout_19 (by decide) rfl ⟨fun hc => ?_, fun hc => ?_⟩
    · have h := h.1 hc
      refine rr_iconst (v := (0 : Int32)) dX5_countWithout_25 (by decide) rfl ?_
      refine rr_istore_n (lv' := [(3, .int (0 : Int32)), (0, .ref 17), (1, .int v1), (2, .int v2)]) dX5_countWithout_26 rfl (by decide) rfl rfl ?_
      exact rr.sub [1, 2, 3, 0] rfl h
    · have h := h.2 hc
      refine rr_goto (tgt := 134) dX5_countWithout_22 (by decide) ?_
      refine rr_iinc (k := 2) (v := (v2 + (1 : Int32))) (lv' := [(2, .int (v2 + (1 : Int32))), (0, .ref 17), (1, .int v1)]) dX5_countWithout_134 rfl rfl (by decide) rfl rfl ?_
      refine rr_goto (tgt := 9) dX5_countWithout_137 (by decide) ?_
      exact rr.sub [1, 2, 0] rfl h
theorem s_X5_countWithout_27 {I : tg_I} {J : tg_J} {P : Option Value → tg_I → tg_J → Prop} (v1 : Int32) (v2 : Int32) (v3 : Int32) (h :
  ((100 : Int32) < v3 →
   l_X5_countWithout_53 I J P v1 v2 ((0 : Int32))) ∧
  (¬ (100 : Int32) < v3 →
   vp_in v3 101 ∧
    (vp_in v3 101 ∧ ∀ J1, J1 = u2 J 37 (Int32.toNatClampNeg v3) (J 36 (Int32.toNatClampNeg v3)) →
    l_X5_countWithout_27 I J1 P v1 v2 ((v3 + (1 : Int32)))))) : l_X5_countWithout_27 I J P v1 v2 v3 := by
  show rr pgX zX5_countWithout 27 [(0, .ref 17), (1, .int v1), (2, .int v2), (3, .int v3)] [] I J P
  refine rr_iload_n dX5_countWithout_27 rfl 3 rfl rfl ?_
  refine rr_bipush (v := (100 : Int32)) dX5_countWithout_28 (by decide) rfl ?_
  refine rr_icmp_gt (tgt := 51) dX5_countWithout_30 (by decide) rfl ⟨fun hc => ?_, fun hc => ?_⟩
  · have h := h.1 hc
    refine rr_iconst (v := (0 : Int32)) dX5_countWithout_51 (by decide) rfl ?_
    refine rr_istore_n (lv' := [(3, .int (0 : Int32)), (0, .ref 17), (1, .int v1), (2, .int v2)]) dX5_countWithout_52 rfl (by decide) rfl rfl ?_
    exact rr.sub [1, 2, 3, 0] rfl h
  · have h := h.2 hc
    refine rr_aload_n dX5_countWithout_33 rfl 0 rfl rfl ?_
    refine rr_getR dX5_countWithout_34 fX5_57 (by decide) rfl rfl rfl ?_
    refine rr_iload_n dX5_countWithout_37 rfl 3 rfl rfl ?_
    refine rr_aload_n dX5_countWithout_38 rfl 0 rfl rfl ?_
    refine rr_getR dX5_countWithout_39 fX5_53 (by decide) rfl rfl rfl ?_
    refine rr_iload_n dX5_countWithout_42 rfl 3 rfl rfl ?_
    refine rr_lald dX5_countWithout_43 (by decide) rfl rfl ⟨h.1, ?_⟩
    have h := h.2
    refine rr_last dX5_countWithout_44 (by decide) rfl rfl ⟨h.1, ?_⟩
    refine rr_letJ (fun J1 hJ1 => ?_)
    have h := h.2 J1 hJ1
    refine rr_iinc (k := 3) (v := (v3 + (1 : Int32))) (lv' := [(3, .int (v3 + (1 : Int32))), (0, .ref 17), (1, .int v1), (2, .int v2)]) dX5_countWithout_45 rfl rfl (by decide) rfl rfl ?_
    refine rr_goto (tgt := 27) dX5_countWithout_48 (by decide) ?_
    exact rr.sub [1, 2, 3, 0] rfl h
theorem s_X5_countWithout_53 {I : tg_I} {J : tg_J} {P : Option Value → tg_I → tg_J → Prop} (v1 : Int32) (v2 : Int32) (v3 : Int32) (h :
  ((100 : Int32) < v3 →
   l_X5_countWithout_9 I J P v1 ((v2 + (1 : Int32)))) ∧
  (¬ (100 : Int32) < v3 →
   l_X5_countWithout_65 I J P v1 v2 v3 ((0 : Int64)) ((0 : Int32)))) : l_X5_countWithout_53 I J P v1 v2 v3 := by
  show rr pgX zX5_countWithout 53 [(0, .ref 17), (1, .int v1), (2, .int v2), (3, .int v3)] [] I J P
  refine rr_iload_n dX5_countWithout_53 rfl 3 rfl rfl ?_
  refine rr_bipush (v := (100 : Int32)) dX5_countWithout_54 (by decide) rfl ?_
  refine rr_icmp_gt (tgt := 134) dX5_countWithout_56 (by decide) rfl ⟨fun hc => ?_, fun hc => ?_⟩
  · have h := h.1 hc
    refine rr_iinc (k := 2) (v := (v2 + (1 : Int32))) (lv' := [(2, .int (v2 + (1 : Int32))), (0, .ref 17), (1, .int v1), (3, .int v3)]) dX5_countWithout_134 rfl rfl (by decide) rfl rfl ?_
    refine rr_goto (tgt := 9) dX5_countWithout_137 (by decide) ?_
    exact rr.sub [1, 2, 0] rfl h
  · have h := h.2 hc
    refine rr_lconst (v := (0 : Int64)) dX5_countWithout_59 (by decide) rfl ?_
    refine rr_lstore (lv' := [(4, .long (0 : Int64)), (0, .ref 17), (1, .int v1), (2, .int v2), (3, .int v3)]) dX5_countWithout_60 (by decide) rfl rfl ?_
    refine rr_iconst (v := (0 : Int32)) dX5_countWithout_62 (by decide) rfl ?_
    refine rr_istore (lv' := [(6, .int (0 : Int32)), (4, .long (0 : Int64)), (0, .ref 17), (1, .int v1), (2, .int v2), (3, .int v3)]) dX5_countWithout_63 (by decide) rfl rfl ?_
    exact rr.sub [2, 3, 4, 5, 1, 0] rfl h
theorem s_X5_countWithout_65 {I : tg_I} {J : tg_J} {P : Option Value → tg_I → tg_J → Prop} (v1 : Int32) (v2 : Int32) (v3 : Int32) (v4 : Int64) (v6 : Int32) (h :
  ((13 : Int32) ≤ v6 →
   vp_in v3 101 ∧ ∀ J1, J1 = u2 J 36 (Int32.toNatClampNeg v3) (v4 - v4 / (1000000007 : Int64) * (1000000007 : Int64)) →
    l_X5_countWithout_53 I J1 P v1 v2 ((v3 + (1 : Int32)))) ∧
  (¬ (13 : Int32) ≤ v6 →
   (v3 < v6 →
     vp_in v3 101 ∧ ∀ J2, J2 = u2 J 36 (Int32.toNatClampNeg v3) (v4 - v4 / (1000000007 : Int64) * (1000000007 : Int64)) →
      l_X5_countWithout_53 I J2 P v1 v2 ((v3 + (1 : Int32)))) ∧
    (¬ v3 < v6 →
     vp_in (v3 - v6) 101 ∧
      (vp_in ((v2 * (13 : Int32)) + v6) 1300 ∧
      (∀ y1, y1 = (v4 + (((J 37 (Int32.toNatClampNeg (v3 - v6))) * (Int32.toInt64 (I 34 (Int32.toNatClampNeg ((v2 * (13 : Int32)) + v6))))) - ((J 37 (Int32.toNatClampNeg (v3 - v6))) * (Int32.toInt64 (I 34 (Int32.toNatClampNeg ((v2 * (13 : Int32)) + v6))))) / (1000000007 : Int64) * (1000000007 : Int64))) →
      l_X5_countWithout_65 I J P v1 v2 v3 y1 ((v6 + (1 : Int32)))))))) : l_X5_countWithout_65 I J P v1 v2 v3 v4 v6 := by
  show rr pgX zX5_countWithout 65 [(0, .ref 17), (1, .int v1), (2, .int v2), (3, .int v3), (4, .long v4), (6, .int v6)] [] I J P
  refine rr_iload dX5_countWithout_65 5 rfl rfl ?_
  refine rr_bipush (v := (13 : Int32)) dX5_countWithout_67 (by decide) rfl ?_
  refine rr_icmp_ge (tgt := 116) dX5_countWithout_69 (by decide) rfl ⟨fun hc => ?_, fun hc => ?_⟩
  · have h := h.1 hc
    refine rr_aload_n dX5_countWithout_116 rfl 0 rfl rfl ?_
    refine rr_getR dX5_countWithout_117 fX5_53 (by decide) rfl rfl rfl ?_
    refine rr_iload_n dX5_countWithout_120 rfl 3 rfl rfl ?_
    refine rr_lload dX5_countWithout_121 4 rfl rfl ?_
    refine rr_ldc2 dX5_countWithout_123 qX5_203 rfl ?_
    refine rr_lrem dX5_countWithout_126 (by decide) rfl ?_
    refine rr_last dX5_countWithout_127 (by decide) rfl rfl ⟨h.1, ?_⟩
    refine rr_letJ (fun J1 hJ1 => ?_)
    have h := h.2 J1 hJ1
    refine rr_iinc (k := 3) (v := (v3 + (1 : Int32))) (lv' := [(3, .int (v3 + (1 : Int32))), (0, .ref 17), (1, .int v1), (2, .int v2), (4, .long v4), (6, .int v6)]) dX5_countWithout_128 rfl rfl (by decide) rfl rfl ?_
    refine rr_goto (tgt := 53) dX5_countWithout_131 (by decide) ?_
    exact rr.sub [1, 2, 3, 0] rfl h
  · have h := h.2 hc
    refine rr_iload dX5_countWithout_72 5 rfl rfl ?_
    refine rr_iload_n dX5_countWithout_74 rfl 3 rfl rfl ?_
    refine rr_icmp_gt (tgt := 116) dX5_countWithout_75 (by decide) rfl ⟨fun hc => ?_, fun hc => ?_⟩
    · have h := h.1 hc
      refine rr_aload_n dX5_countWithout_116 rfl 0 rfl rfl ?_
      refine rr_getR dX5_countWithout_117 fX5_53 (by decide) rfl rfl rfl ?_
      refine rr_iload_n dX5_countWithout_120 rfl 3 rfl rfl ?_
      refine rr_lload dX5_countWithout_121 4 rfl rfl ?_
      refine rr_ldc2 dX5_countWithout_123 qX5_203 rfl ?_
      refine rr_lrem dX5_countWithout_126 (by decide) rfl ?_
      refine rr_last dX5_countWithout_127 (by decide) rfl rfl ⟨h.1, ?_⟩
      refine rr_letJ (fun J2 hJ2 => ?_)
      have h := h.2 J2 hJ2
      refine rr_iinc (k := 3) (v := (v3 + (1 : Int32))) (lv' := [(3, .int (v3 + (1 : Int32))), (0, .ref 17), (1, .int v1), (2, .int v2), (4, .long v4), (6, .int v6)]) dX5_countWithout_128 rfl rfl (by decide) rfl rfl ?_
      refine rr_goto (tgt := 53) dX5_countWithout_131 (by decide) ?_
      exact rr.sub [1, 2, 3, 0] rfl h
    · have h := h.2 hc
      refine rr_lload dX5_countWithout_78 4 rfl rfl ?_
      refine rr_aload_n dX5_countWithout_80 rfl 0 rfl rfl ?_
      refine rr_getR dX5_countWithout_81 fX5_57 (by decide) rfl rfl rfl ?_
      refine rr_iload_n dX5_countWithout_84 rfl 3 rfl rfl ?_
      refine rr_iload dX5_countWithout_85 5 rfl rfl ?_
      refine rr_isub dX5_countWithout_87 rfl ?_
      refine rr_lald dX5_countWithout_88 (by decide) rfl rfl ⟨h.1, ?_⟩
      have h := h.2
      refine rr_aload_n dX5_countWithout_89 rfl 0 rfl rfl ?_
      refine rr_getR dX5_countWithout_90 fX5_47 (by decide) rfl rfl rfl ?_
      refine rr_iload_n dX5_countWithout_93 rfl 2 rfl rfl ?_
      refine rr_bipush (v := (13 : Int32)) dX5_countWithout_94 (by decide) rfl ?_
      refine rr_imul dX5_countWithout_96 rfl ?_
      refine rr_iload dX5_countWithout_97 5 rfl rfl ?_
      refine rr_iadd dX5_countWithout_99 rfl ?_
      refine rr_iald dX5_countWithout_100 (by decide) rfl rfl ⟨h.1, ?_⟩
      have h := h.2
      refine rr_i2l dX5_countWithout_101 rfl ?_
      refine rr_lmul dX5_countWithout_102 rfl ?_
      refine rr_ldc2 dX5_countWithout_103 qX5_203 rfl ?_
      refine rr_lrem dX5_countWithout_106 (by decide) rfl ?_
      refine rr_ladd dX5_countWithout_107 rfl ?_
      refine rr_letTl (fun y1 hy1 => ?_)
      have h := h y1 hy1
      refine rr_lstore (lv' := [(4, .long y1), (0, .ref 17), (1, .int v1), (2, .int v2), (3, .int v3), (6, .int v6)]) dX5_countWithout_108 (by decide) rfl rfl ?_
      refine rr_iinc (k := 5) (v := (v6 + (1 : Int32))) (lv' := [(6, .int (v6 + (1 : Int32))), (4, .long y1), (0, .ref 17), (1, .int v1), (2, .int v2), (3, .int v3)]) dX5_countWithout_110 rfl rfl (by decide) rfl rfl ?_
      refine rr_goto (tgt := 65) dX5_countWithout_113 (by decide) ?_
      exact rr.sub [2, 3, 4, 5, 1, 0] rfl h

def l_X5_chooseFrom_9 (I : tg_I) (J : tg_J) (P : Option Value → tg_I → tg_J → Prop) (v1 : Int32) (v2 : Int32) : Prop := rr pgX zX5_chooseFrom 9 [(0, .ref 17), (1, .int v1), (2, .int v2)] [] I J P
def l_X5_chooseFrom_22 (I : tg_I) (J : tg_J) (P : Option Value → tg_I → tg_J → Prop) (v1 : Int32) (v2 : Int32) (v3 : Int32) : Prop := rr pgX zX5_chooseFrom 22 [(0, .ref 17), (1, .int v1), (2, .int v2), (3, .int v3)] [] I J P
theorem e_X5_chooseFrom {I : tg_I} {J : tg_J} {P : Option Value → tg_I → tg_J → Prop} (v1 : Int32) (h :
  call pgX zX5_startRow [.ref 38] I J (fun vr I1 J1 => vr = none ∧
  (l_X5_chooseFrom_9 I1 J1 P v1 ((1 : Int32))))) : call pgX zX5_chooseFrom [.ref 17, .int v1] I J P := by
  refine call_of (by decide +kernel) (fun _ => Nat.le_of_ble_eq_true rfl) ?_
  show rr pgX zX5_chooseFrom 0 [(0, .ref 17), (1, .int v1)] [] I J P
  refine rr_aload_n dX5_chooseFrom_0 rfl 0 rfl rfl ?_
  refine rr_getR dX5_chooseFrom_1 fX5_60 (by decide) rfl rfl rfl ?_
  refine rr_S [.ref 38] [] dX5_chooseFrom_4 kX5_startRow mX5_205 ⟨by decide, by decide⟩ rfl rfl (Nat.le_of_ble_eq_true rfl) rfl (h.mono fun vr I1 J1 h => ?_)
  obtain ⟨rfl, h⟩ := h
  show rr pgX zX5_chooseFrom 7 _ [] _ _ _
  refine rr_iconst (v := (1 : Int32)) dX5_chooseFrom_7 (by decide) rfl ?_
  refine rr_istore_n (lv' := [(2, .int (1 : Int32)), (0, .ref 17), (1, .int v1)]) dX5_chooseFrom_8 rfl (by decide) rfl rfl ?_
  exact rr.sub [1, 2, 0] rfl h
theorem s_X5_chooseFrom_9 {I : tg_I} {J : tg_J} {P : Option Value → tg_I → tg_J → Prop} (v1 : Int32) (v2 : Int32) (h :
  (v1 < v2 →
   P none I J) ∧
  (¬ v1 < v2 →
   ((100 : Int32) < v2 →
     P none I J) ∧
    (¬ (100 : Int32) < v2 →
     l_X5_chooseFrom_22 I J P v1 v2 v2))) : l_X5_chooseFrom_9 I J P v1 v2 := by
  show rr pgX zX5_chooseFrom 9 [(0, .ref 17), (1, .int v1), (2, .int v2)] [] I J P
  refine rr_iload_n dX5_chooseFrom_9 rfl 2 rfl rfl ?_
  refine rr_iload_n dX5_chooseFrom_10 rfl 1 rfl rfl ?_
  refine rr_icmp_gt (tgt := 64) dX5_chooseFrom_11 (by decide) rfl ⟨fun hc => ?_, fun hc => ?_⟩
  · have h := h.1 hc
    exact rr_vret dX5_chooseFrom_64 rfl h
  · have h := h.2 hc
    refine rr_iload_n dX5_chooseFrom_14 rfl 2 rfl rfl ?_
    refine rr_bipush (v := (100 : Int32)) dX5_chooseFrom_15 (by decide) rfl ?_
    refine rr_icmp_gt (tgt := 64) dX5_chooseFrom_17 (by decide) rfl ⟨fun hc => ?_, fun hc => ?_⟩
    · have h := h.1 hc
      exact rr_vret dX5_chooseFrom_64 rfl h
    · have h := h.2 hc
      refine rr_iload_n dX5_chooseFrom_20 rfl 2 rfl rfl ?_
      refine rr_istore_n (lv' := [(3, .int v2), (0, .ref 17), (1, .int v1), (2, .int v2)]) dX5_chooseFrom_21 rfl (by decide) rfl rfl ?_
      exact rr.sub [1, 2, 3, 0] rfl h
theorem s_X5_chooseFrom_22 {I : tg_I} {J : tg_J} {P : Option Value → tg_I → tg_J → Prop} (v1 : Int32) (v2 : Int32) (v3 : Int32) (h :
  (v3 < (1 : Int32) →
   l_X5_chooseFrom_9 I J P v1 ((v2 + (1 : Int32)))) ∧
  (¬ v3 < (1 : Int32) →
   vp_in v3 101 ∧
    (vp_in (v3 - (1 : Int32)) 101 ∧
    (vp_in v3 101 ∧ ∀ J1, J1 = u2 J 38 (Int32.toNatClampNeg v3) (((J 38 (Int32.toNatClampNeg v3)) + (J 38 (Int32.toNatClampNeg (v3 - (1 : Int32))))) - ((J 38 (Int32.toNatClampNeg v3)) + (J 38 (Int32.toNatClampNeg (v3 - (1 : Int32))))) / (1000000007 : Int64) * (1000000007 : Int64)) →
    l_X5_chooseFrom_22 I J1 P v1 v2 ((v3 + (-1 : Int32))))))) : l_X5_chooseFrom_22 I J P v1 v2 v3 := by
  show rr pgX zX5_chooseFrom 22 [(0, .ref 17), (1, .int v1), (2, .int v2), (3, .int v3)] [] I J P
  refine rr_iload_n dX5_chooseFrom_22 rfl 3 rfl rfl ?_
  refine rr_iconst (v := (1 : Int32)) dX5_chooseFrom_23 (by decide) rfl ?_
  refine rr_icmp_lt (tgt := 58) dX5_chooseFrom_24 (by decide) rfl ⟨fun hc => ?_, fun hc => ?_⟩
  · have h := h.1 hc
    refine rr_iinc (k := 2) (v := (v2 + (1 : Int32))) (lv' := [(2, .int (v2 + (1 : Int32))), (0, .ref 17), (1, .int v1), (3, .int v3)]) dX5_chooseFrom_58 rfl rfl (by decide) rfl rfl ?_
    refine rr_goto (tgt := 9) dX5_chooseFrom_61 (by decide) ?_
    exact rr.sub [1, 2, 0] rfl h
  · have h := h.2 hc
    refine rr_aload_n dX5_chooseFrom_27 rfl 0 rfl rfl ?_
    refine rr_getR dX5_chooseFrom_28 fX5_60 (by decide) rfl rfl rfl ?_
    refine rr_iload_n dX5_chooseFrom_31 rfl 3 rfl rfl ?_
    refine rr_aload_n dX5_chooseFrom_32 rfl 0 rfl rfl ?_
    refine rr_getR dX5_chooseFrom_33 fX5_60 (by decide) rfl rfl rfl ?_
    refine rr_iload_n dX5_chooseFrom_36 rfl 3 rfl rfl ?_
    refine rr_lald dX5_chooseFrom_37 (by decide) rfl rfl ⟨h.1, ?_⟩
    have h := h.2
    refine rr_aload_n dX5_chooseFrom_38 rfl 0 rfl rfl ?_
    refine rr_getR dX5_chooseFrom_39 fX5_60 (by decide) rfl rfl rfl ?_
    refine rr_iload_n dX5_chooseFrom_42 rfl 3 rfl rfl ?_
    refine rr_iconst (v := (1 : Int32)) dX5_chooseFrom_43 (by decide) rfl ?_
    refine rr_isub dX5_chooseFrom_44 rfl ?_
    refine rr_lald dX5_chooseFrom_45 (by decide) rfl rfl ⟨h.1, ?_⟩
    have h := h.2
    refine rr_ladd dX5_chooseFrom_46 rfl ?_
    refine rr_ldc2 dX5_chooseFrom_47 qX5_203 rfl ?_
    refine rr_lrem dX5_chooseFrom_50 (by decide) rfl ?_
    refine rr_last dX5_chooseFrom_51 (by decide) rfl rfl ⟨h.1, ?_⟩
    refine rr_letJ (fun J1 hJ1 => ?_)
    have h := h.2 J1 hJ1
    refine rr_iinc (k := 3) (v := (v3 + (-1 : Int32))) (lv' := [(3, .int (v3 + (-1 : Int32))), (0, .ref 17), (1, .int v1), (2, .int v2)]) dX5_chooseFrom_52 rfl rfl (by decide) rfl rfl ?_
    refine rr_goto (tgt := 22) dX5_chooseFrom_55 (by decide) ?_
    exact rr.sub [1, 2, 3, 0] rfl h

def l_X5_startRow_2 (I : tg_I) (J : tg_J) (P : Option Value → tg_I → tg_J → Prop) (a0 : Nat) (v1 : Int32) : Prop := rr pgX zX5_startRow 2 [(0, .ref a0), (1, .int v1)] [] I J P
theorem e_X5_startRow {I : tg_I} {J : tg_J} {P : Option Value → tg_I → tg_J → Prop} (a0 : Nat) (ha0 : isR101 a0) (h :
  l_X5_startRow_2 I J P a0 ((0 : Int32))) : call pgX zX5_startRow [.ref a0] I J P := by
  refine call_of (by decide +kernel) (fun _ => Nat.le_of_ble_eq_true rfl) ?_
  show rr pgX zX5_startRow 0 [(0, .ref a0)] [] I J P
  refine rr_iconst (v := (0 : Int32)) dX5_startRow_0 (by decide) rfl ?_
  refine rr_istore_n (lv' := [(1, .int (0 : Int32)), (0, .ref a0)]) dX5_startRow_1 rfl (by decide) rfl rfl ?_
  exact rr.sub [1, 0] rfl h
theorem s_X5_startRow_2 {I : tg_I} {J : tg_J} {P : Option Value → tg_I → tg_J → Prop} (a0 : Nat) (v1 : Int32) (ha0 : isR101 a0) (h :
  ((101 : Int32) ≤ v1 →
   P none I J) ∧
  (¬ (101 : Int32) ≤ v1 →
   (¬ v1 = 0 →
     vp_in v1 101 ∧ ∀ J1, J1 = u2 J a0 (Int32.toNatClampNeg v1) (0 : Int64) →
      l_X5_startRow_2 I J1 P a0 ((v1 + (1 : Int32)))) ∧
    (v1 = 0 →
     vp_in v1 101 ∧ ∀ J2, J2 = u2 J a0 (Int32.toNatClampNeg v1) (1 : Int64) →
      l_X5_startRow_2 I J2 P a0 ((v1 + (1 : Int32)))))) : l_X5_startRow_2 I J P a0 v1 := by
  show rr pgX zX5_startRow 2 [(0, .ref a0), (1, .int v1)] [] I J P
  refine rr_iload_n dX5_startRow_2 rfl 1 rfl rfl ?_
  refine rr_aload_n dX5_startRow_3 rfl 0 rfl rfl ?_
  refine rr_alenJ (v := (101 : Int32)) dX5_startRow_4 ha0.1 ha0.2 (by decide) rfl ?_
  refine rr_icmp_ge (tgt := 26) dX5_startRow_5 (by decide) rfl ⟨fun hc => ?_, fun hc => ?_⟩
  · have h := h.1 hc
    exact rr_vret dX5_startRow_26 rfl h
  · have h := h.2 hc
    refine rr_aload_n dX5_startRow_8 rfl 0 rfl rfl ?_
    refine rr_iload_n dX5_startRow_9 rfl 1 rfl rfl ?_
    refine rr_iload_n dX5_startRow_10 rfl 1 rfl rfl ?_
    refine rr_if_ne (tgt := 18) dX5_startRow_11 (by decide) rfl ⟨fun hc => ?_, fun hc => ?_⟩
    · have h := h.1 hc
      refine rr_lconst (v := (0 : Int64)) dX5_startRow_18 (by decide) rfl ?_
      refine rr_last dX5_startRow_19 ha0.1 ha0.2 rfl ⟨h.1, ?_⟩
      refine rr_letJ (fun J1 hJ1 => ?_)
      have h := h.2 J1 hJ1
      refine rr_iinc (k := 1) (v := (v1 + (1 : Int32))) (lv' := [(1, .int (v1 + (1 : Int32))), (0, .ref a0)]) dX5_startRow_20 rfl rfl (by decide) rfl rfl ?_
      refine rr_goto (tgt := 2) dX5_startRow_23 (by decide) ?_
      exact rr.sub [1, 0] rfl h
    · have h := h.2 hc
      refine rr_lconst (v := (1 : Int64)) dX5_startRow_14 (by decide) rfl ?_
      refine rr_goto (tgt := 19) dX5_startRow_15 (by decide) ?_
      refine rr_last dX5_startRow_19 ha0.1 ha0.2 rfl ⟨h.1, ?_⟩
      refine rr_letJ (fun J2 hJ2 => ?_)
      have h := h.2 J2 hJ2
      refine rr_iinc (k := 1) (v := (v1 + (1 : Int32))) (lv' := [(1, .int (v1 + (1 : Int32))), (0, .ref a0)]) dX5_startRow_20 rfl rfl (by decide) rfl rfl ?_
      refine rr_goto (tgt := 2) dX5_startRow_23 (by decide) ?_
      exact rr.sub [1, 0] rfl h

def l_X5_fill_5 (I : tg_I) (J : tg_J) (P : Option Value → tg_I → tg_J → Prop) (v1 : Int32) (v2 : Int64) (v4 : Int32) : Prop := rr pgX zX5_fill 5 [(0, .ref 17), (1, .int v1), (2, .long v2), (4, .int v4)] [] I J P
theorem e_X5_fill {I : tg_I} {J : tg_J} {P : Option Value → tg_I → tg_J → Prop} (v1 : Int32) (h :
  l_X5_fill_5 I J P v1 ((0 : Int64)) ((0 : Int32))) : call pgX zX5_fill [.ref 17, .int v1] I J P := by
  refine call_of (by decide +kernel) (fun _ => Nat.le_of_ble_eq_true rfl) ?_
  show rr pgX zX5_fill 0 [(0, .ref 17), (1, .int v1)] [] I J P
  refine rr_lconst (v := (0 : Int64)) dX5_fill_0 (by decide) rfl ?_
  refine rr_lstore_n (lv' := [(2, .long (0 : Int64)), (0, .ref 17), (1, .int v1)]) dX5_fill_1 rfl (by decide) rfl rfl ?_
  refine rr_iconst (v := (0 : Int32)) dX5_fill_2 (by decide) rfl ?_
  refine rr_istore (lv' := [(4, .int (0 : Int32)), (2, .long (0 : Int64)), (0, .ref 17), (1, .int v1)]) dX5_fill_3 (by decide) rfl rfl ?_
  exact rr.sub [2, 3, 1, 0] rfl h
theorem s_X5_fill_5 {I : tg_I} {J : tg_J} {P : Option Value → tg_I → tg_J → Prop} (v1 : Int32) (v2 : Int64) (v4 : Int32) (h :
  (v1 < v4 →
   P (some (.long v2)) I J) ∧
  (¬ v1 < v4 →
   ((100 : Int32) < v1 →
     P (some (.long v2)) I J) ∧
    (¬ (100 : Int32) < v1 →
     vp_in v4 101 ∧
      (vp_in (v1 - v4) 101 ∧
      (∀ y1, y1 = ((v2 + ((J 36 (Int32.toNatClampNeg v4)) * (J 38 (Int32.toNatClampNeg (v1 - v4))))) - (v2 + ((J 36 (Int32.toNatClampNeg v4)) * (J 38 (Int32.toNatClampNeg (v1 - v4))))) / (1000000007 : Int64) * (1000000007 : Int64)) →
      l_X5_fill_5 I J P v1 y1 ((v4 + (1 : Int32)))))))) : l_X5_fill_5 I J P v1 v2 v4 := by
  show rr pgX zX5_fill 5 [(0, .ref 17), (1, .int v1), (2, .long v2), (4, .int v4)] [] I J P
  refine rr_iload dX5_fill_5 3 rfl rfl ?_
  refine rr_iload_n dX5_fill_7 rfl 1 rfl rfl ?_
  refine rr_icmp_gt (tgt := 47) dX5_fill_8 (by decide) rfl ⟨fun hc => ?_, fun hc => ?_⟩
  · have h := h.1 hc
    refine rr_lload_n dX5_fill_47 rfl 2 rfl rfl ?_
    exact rr_lret dX5_fill_48 rfl h
  · have h := h.2 hc
    refine rr_iload_n dX5_fill_11 rfl 1 rfl rfl ?_
    refine rr_bipush (v := (100 : Int32)) dX5_fill_12 (by decide) rfl ?_
    refine rr_icmp_gt (tgt := 47) dX5_fill_14 (by decide) rfl ⟨fun hc => ?_, fun hc => ?_⟩
    · have h := h.1 hc
      refine rr_lload_n dX5_fill_47 rfl 2 rfl rfl ?_
      exact rr_lret dX5_fill_48 rfl h
    · have h := h.2 hc
      refine rr_lload_n dX5_fill_17 rfl 2 rfl rfl ?_
      refine rr_aload_n dX5_fill_18 rfl 0 rfl rfl ?_
      refine rr_getR dX5_fill_19 fX5_53 (by decide) rfl rfl rfl ?_
      refine rr_iload dX5_fill_22 3 rfl rfl ?_
      refine rr_lald dX5_fill_24 (by decide) rfl rfl ⟨h.1, ?_⟩
      have h := h.2
      refine rr_aload_n dX5_fill_25 rfl 0 rfl rfl ?_
      refine rr_getR dX5_fill_26 fX5_60 (by decide) rfl rfl rfl ?_
      refine rr_iload_n dX5_fill_29 rfl 1 rfl rfl ?_
      refine rr_iload dX5_fill_30 3 rfl rfl ?_
      refine rr_isub dX5_fill_32 rfl ?_
      refine rr_lald dX5_fill_33 (by decide) rfl rfl ⟨h.1, ?_⟩
      have h := h.2
      refine rr_lmul dX5_fill_34 rfl ?_
      refine rr_ladd dX5_fill_35 rfl ?_
      refine rr_ldc2 dX5_fill_36 qX5_203 rfl ?_
      refine rr_lrem dX5_fill_39 (by decide) rfl ?_
      refine rr_letTl (fun y1 hy1 => ?_)
      have h := h y1 hy1
      refine rr_lstore_n (lv' := [(2, .long y1), (0, .ref 17), (1, .int v1), (4, .int v4)]) dX5_fill_40 rfl (by decide) rfl rfl ?_
      refine rr_iinc (k := 3) (v := (v4 + (1 : Int32))) (lv' := [(4, .int (v4 + (1 : Int32))), (2, .long y1), (0, .ref 17), (1, .int v1)]) dX5_fill_41 rfl rfl (by decide) rfl rfl ?_
      refine rr_goto (tgt := 5) dX5_fill_44 (by decide) ?_
      exact rr.sub [2, 3, 1, 0] rfl h

def l_X5_studyTold_34 (I : tg_I) (J : tg_J) (P : Option Value → tg_I → tg_J → Prop) (b1 : Nat) (k2 : Nat) (v4 : Int32) : Prop := rr pgX zX5_studyTold 34 [(0, .ref 17), (1, .ref b1), (2, .ref k2), (4, .int v4)] [] I J P
theorem e_X5_studyTold {I : tg_I} {J : tg_J} {P : Option Value → tg_I → tg_J → Prop} (b1 : Nat) (k2 : Nat) (v3 : Int32) (hb1 : isBd b1) (hk2 : isBits k2) (h :
  call pgX zX0_clear [.ref 28] I J (fun vr I1 J1 => vr = none ∧
  (call pgX zX0_add [.ref 28, .int v3] I1 J1 (fun vr I2 J2 => vr = none ∧
  (call pgX zX7_clear [.ref 20] I2 J2 (fun vr I3 J3 => vr = none ∧
  (call pgX zX7_push [.ref 20, .int v3] I3 J3 (fun vr I4 J4 => ∃ r1 : Int32, vr = some (.int r1) ∧
  (l_X5_studyTold_34 I4 J4 P b1 k2 ((0 : Int32))))))))))) : call pgX zX5_studyTold [.ref 17, .ref b1, .ref k2, .int v3] I J P := by
  refine call_of (by decide +kernel) (fun _ => Nat.le_of_ble_eq_true rfl) ?_
  show rr pgX zX5_studyTold 0 [(0, .ref 17), (1, .ref b1), (2, .ref k2), (3, .int v3)] [] I J P
  refine rr_aload_n dX5_studyTold_0 rfl 0 rfl rfl ?_
  refine rr_getR dX5_studyTold_1 fX5_28 (by decide) rfl rfl rfl ?_
  refine rr_V [] [] dX5_studyTold_4 kX0_clear mX5_63 ⟨by decide, by decide⟩ (by decide) rfl rfl rfl (Nat.le_of_ble_eq_true rfl) rfl (h.mono fun vr I1 J1 h => ?_)
  obtain ⟨rfl, h⟩ := h
  show rr pgX zX5_studyTold 7 _ [] _ _ _
  refine rr_aload_n dX5_studyTold_7 rfl 0 rfl rfl ?_
  refine rr_getR dX5_studyTold_8 fX5_28 (by decide) rfl rfl rfl ?_
  refine rr_iload_n dX5_studyTold_11 rfl 3 rfl rfl ?_
  refine rr_V [.int v3] [] dX5_studyTold_12 kX0_add mX5_99 ⟨by decide, by decide⟩ (by decide) rfl rfl rfl (Nat.le_of_ble_eq_true rfl) rfl (h.mono fun vr I2 J2 h => ?_)
  obtain ⟨rfl, h⟩ := h
  show rr pgX zX5_studyTold 15 _ [] _ _ _
  refine rr_aload_n dX5_studyTold_15 rfl 0 rfl rfl ?_
  refine rr_getR dX5_studyTold_16 fX5_24 (by decide) rfl rfl rfl ?_
  refine rr_V [] [] dX5_studyTold_19 kX7_clear mX5_127 ⟨by decide, by decide⟩ (by decide) rfl rfl rfl (Nat.le_of_ble_eq_true rfl) rfl (h.mono fun vr I3 J3 h => ?_)
  obtain ⟨rfl, h⟩ := h
  show rr pgX zX5_studyTold 22 _ [] _ _ _
  refine rr_aload_n dX5_studyTold_22 rfl 0 rfl rfl ?_
  refine rr_getR dX5_studyTold_23 fX5_24 (by decide) rfl rfl rfl ?_
  refine rr_iload_n dX5_studyTold_26 rfl 3 rfl rfl ?_
  refine rr_V [.int v3] [] dX5_studyTold_27 kX7_push mX5_128 ⟨by decide, by decide⟩ (by decide) rfl rfl rfl (Nat.le_of_ble_eq_true rfl) rfl (h.mono fun vr I4 J4 h => ?_)
  obtain ⟨r1, rfl, h⟩ := h
  show rr pgX zX5_studyTold 30 _ [.int r1] _ _ _
  refine rr_pop dX5_studyTold_30 rfl rfl ?_
  refine rr_iconst (v := (0 : Int32)) dX5_studyTold_31 (by decide) rfl ?_
  refine rr_istore (lv' := [(4, .int (0 : Int32)), (0, .ref 17), (1, .ref b1), (2, .ref k2), (3, .int v3)]) dX5_studyTold_32 (by decide) rfl rfl ?_
  exact rr.sub [1, 2, 3, 0] rfl h
theorem s_X5_studyTold_34 {I : tg_I} {J : tg_J} {P : Option Value → tg_I → tg_J → Prop} (b1 : Nat) (k2 : Nat) (v4 : Int32) (hb1 : isBd b1) (hk2 : isBits k2) (h :
  ((I (b1 + 1) 7) ≤ v4 →
   call pgX zX0_copy [.ref 29, .ref k2] I J (fun vr I1 J1 => vr = none ∧
    (call pgX zX0_meet [.ref 29, .ref (b1 + 9)] I1 J1 (fun vr I2 J2 => vr = none ∧
    (call pgX zX7_bind [.ref 20, .ref b1, .ref 29] I2 J2 (fun vr I3 J3 => vr = none ∧
    (call pgX zX7_run [.ref 20] I3 J3 (fun vr I4 J4 => vr = none ∧
    (P (some (.int (1 : Int32))) I4 J4))))))))) ∧
  (¬ (I (b1 + 1) 7) ≤ v4 →
   call pgX zX0_has [.ref k2, .int v4] I J (fun vr I5 J5 => ∃ r1 : Int32, vr = some (.int r1) ∧
    ((r1 = 0 →
     l_X5_studyTold_34 I5 J5 P b1 k2 ((v4 + (1 : Int32)))) ∧
    (¬ r1 = 0 →
     call pgX zX0_has [.ref (b1 + 9), .int v4] I5 J5 (fun vr I6 J6 => ∃ r2 : Int32, vr = some (.int r2) ∧
      ((r2 = 0 →
       l_X5_studyTold_34 I6 J6 P b1 k2 ((v4 + (1 : Int32)))) ∧
      (¬ r2 = 0 →
       call pgX zX5_pushAround [.ref 17, .ref b1, .int v4] I6 J6 (fun vr I7 J7 => ∃ r3 : Int32, vr = some (.int r3) ∧
        ((¬ r3 = 0 →
         l_X5_studyTold_34 I7 J7 P b1 k2 ((v4 + (1 : Int32)))) ∧
        (r3 = 0 →
         P (some (.int (0 : Int32))) I7 J7))))))))))) : l_X5_studyTold_34 I J P b1 k2 v4 := by
  show rr pgX zX5_studyTold 34 [(0, .ref 17), (1, .ref b1), (2, .ref k2), (4, .int v4)] [] I J P
  refine rr_iload dX5_studyTold_34 3 rfl rfl ?_
  refine rr_aload_n dX5_studyTold_36 rfl 1 rfl rfl ?_
  refine rr_getR dX5_studyTold_37 fX5_70 (bd_lt0 hb1) (bd_0 hb1) rfl rfl ?_
  refine rr_getI dX5_studyTold_40 fX5_76 (bd_lt hb1 (by decide)) (bd_1 hb1) rfl rfl ?_
  refine rr_icmp_ge (tgt := 85) dX5_studyTold_43 (by decide) rfl ⟨fun hc => ?_, fun hc => ?_⟩
  · have h := h.1 hc
    refine rr_aload_n dX5_studyTold_85 rfl 0 rfl rfl ?_
    refine rr_getR dX5_studyTold_86 fX5_31 (by decide) rfl rfl rfl ?_
    refine rr_aload_n dX5_studyTold_89 rfl 2 rfl rfl ?_
    refine rr_V [.ref k2] [] dX5_studyTold_90 kX0_copy mX5_174 ⟨by decide, by decide⟩ (by decide) rfl rfl rfl (Nat.le_of_ble_eq_true rfl) rfl (h.mono fun vr I1 J1 h => ?_)
    obtain ⟨rfl, h⟩ := h
    show rr pgX zX5_studyTold 93 _ [] _ _ _
    refine rr_aload_n dX5_studyTold_93 rfl 0 rfl rfl ?_
    refine rr_getR dX5_studyTold_94 fX5_31 (by decide) rfl rfl rfl ?_
    refine rr_aload_n dX5_studyTold_97 rfl 1 rfl rfl ?_
    refine rr_getR dX5_studyTold_98 fX5_88 (bd_lt0 hb1) (bd_0 hb1) rfl rfl ?_
    refine rr_V [.ref (b1 + 9)] [] dX5_studyTold_101 kX0_meet mX5_213 ⟨by decide, by decide⟩ (by decide) rfl rfl rfl (Nat.le_of_ble_eq_true rfl) rfl (h.mono fun vr I2 J2 h => ?_)
    obtain ⟨rfl, h⟩ := h
    show rr pgX zX5_studyTold 104 _ [] _ _ _
    refine rr_aload_n dX5_studyTold_104 rfl 0 rfl rfl ?_
    refine rr_getR dX5_studyTold_105 fX5_24 (by decide) rfl rfl rfl ?_
    refine rr_aload_n dX5_studyTold_108 rfl 1 rfl rfl ?_
    refine rr_aload_n dX5_studyTold_109 rfl 0 rfl rfl ?_
    refine rr_getR dX5_studyTold_110 fX5_31 (by decide) rfl rfl rfl ?_
    refine rr_V [.ref b1, .ref 29] [] dX5_studyTold_113 kX7_bind mX5_131 ⟨by decide, by decide⟩ (by decide) rfl rfl rfl (Nat.le_of_ble_eq_true rfl) rfl (h.mono fun vr I3 J3 h => ?_)
    obtain ⟨rfl, h⟩ := h
    show rr pgX zX5_studyTold 116 _ [] _ _ _
    refine rr_aload_n dX5_studyTold_116 rfl 0 rfl rfl ?_
    refine rr_getR dX5_studyTold_117 fX5_24 (by decide) rfl rfl rfl ?_
    refine rr_V [] [] dX5_studyTold_120 kX7_run mX5_135 ⟨by decide, by decide⟩ (by decide) rfl rfl rfl (Nat.le_of_ble_eq_true rfl) rfl (h.mono fun vr I4 J4 h => ?_)
    obtain ⟨rfl, h⟩ := h
    show rr pgX zX5_studyTold 123 _ [] _ _ _
    refine rr_iconst (v := (1 : Int32)) dX5_studyTold_123 (by decide) rfl ?_
    exact rr_zret dX5_studyTold_124 rfl rfl h
  · have h := h.2 hc
    refine rr_aload_n dX5_studyTold_46 rfl 2 rfl rfl ?_
    refine rr_iload dX5_studyTold_47 3 rfl rfl ?_
    refine rr_V [.int v4] [] dX5_studyTold_49 kX0_has mX5_84 ⟨by decide, by decide⟩ hk2.1 hk2.2 rfl rfl (Nat.le_of_ble_eq_true rfl) rfl (h.mono fun vr I5 J5 h => ?_)
    obtain ⟨r1, rfl, h⟩ := h
    show rr pgX zX5_studyTold 52 _ [.int r1] _ _ _
    refine rr_if_eq (tgt := 79) dX5_studyTold_52 (by decide) rfl ⟨fun hc => ?_, fun hc => ?_⟩
    · have h := h.1 hc
      refine rr_iinc (k := 3) (v := (v4 + (1 : Int32))) (lv' := [(4, .int (v4 + (1 : Int32))), (0, .ref 17), (1, .ref b1), (2, .ref k2)]) dX5_studyTold_79 rfl rfl (by decide) rfl rfl ?_
      refine rr_goto (tgt := 34) dX5_studyTold_82 (by decide) ?_
      exact rr.sub [1, 2, 3, 0] rfl h
    · have h := h.2 hc
      refine rr_aload_n dX5_studyTold_55 rfl 1 rfl rfl ?_
      refine rr_getR dX5_studyTold_56 fX5_88 (bd_lt0 hb1) (bd_0 hb1) rfl rfl ?_
      refine rr_iload dX5_studyTold_59 3 rfl rfl ?_
      refine rr_V [.int v4] [] dX5_studyTold_61 kX0_has mX5_84 ⟨by decide, by decide⟩ (bd_lt hb1 (by decide)) (bd_9 hb1) rfl rfl (Nat.le_of_ble_eq_true rfl) rfl (h.mono fun vr I6 J6 h => ?_)
      obtain ⟨r2, rfl, h⟩ := h
      show rr pgX zX5_studyTold 64 _ [.int r2] _ _ _
      refine rr_if_eq (tgt := 79) dX5_studyTold_64 (by decide) rfl ⟨fun hc => ?_, fun hc => ?_⟩
      · have h := h.1 hc
        refine rr_iinc (k := 3) (v := (v4 + (1 : Int32))) (lv' := [(4, .int (v4 + (1 : Int32))), (0, .ref 17), (1, .ref b1), (2, .ref k2)]) dX5_studyTold_79 rfl rfl (by decide) rfl rfl ?_
        refine rr_goto (tgt := 34) dX5_studyTold_82 (by decide) ?_
        exact rr.sub [1, 2, 3, 0] rfl h
      · have h := h.2 hc
        refine rr_aload_n dX5_studyTold_67 rfl 0 rfl rfl ?_
        refine rr_aload_n dX5_studyTold_68 rfl 1 rfl rfl ?_
        refine rr_iload dX5_studyTold_69 3 rfl rfl ?_
        refine rr_V [.ref b1, .int v4] [] dX5_studyTold_71 kX5_pushAround mX5_209 ⟨by decide, by decide⟩ (by decide) rfl rfl rfl (Nat.le_of_ble_eq_true rfl) rfl (h.mono fun vr I7 J7 h => ?_)
        obtain ⟨r3, rfl, h⟩ := h
        show rr pgX zX5_studyTold 74 _ [.int r3] _ _ _
        refine rr_if_ne (tgt := 79) dX5_studyTold_74 (by decide) rfl ⟨fun hc => ?_, fun hc => ?_⟩
        · have h := h.1 hc
          refine rr_iinc (k := 3) (v := (v4 + (1 : Int32))) (lv' := [(4, .int (v4 + (1 : Int32))), (0, .ref 17), (1, .ref b1), (2, .ref k2)]) dX5_studyTold_79 rfl rfl (by decide) rfl rfl ?_
          refine rr_goto (tgt := 34) dX5_studyTold_82 (by decide) ?_
          exact rr.sub [1, 2, 3, 0] rfl h
        · have h := h.2 hc
          refine rr_iconst (v := (0 : Int32)) dX5_studyTold_77 (by decide) rfl ?_
          exact rr_zret dX5_studyTold_78 rfl rfl h

def l_X5_pushAround_2 (I : tg_I) (J : tg_J) (P : Option Value → tg_I → tg_J → Prop) (b1 : Nat) (v2 : Int32) (v3 : Int32) : Prop := rr pgX zX5_pushAround 2 [(0, .ref 17), (1, .ref b1), (2, .int v2), (3, .int v3)] [] I J P
theorem e_X5_pushAround {I : tg_I} {J : tg_J} {P : Option Value → tg_I → tg_J → Prop} (b1 : Nat) (v2 : Int32) (hb1 : isBd b1) (h :
  l_X5_pushAround_2 I J P b1 v2 ((0 : Int32))) : call pgX zX5_pushAround [.ref 17, .ref b1, .int v2] I J P := by
  refine call_of (by decide +kernel) (fun _ => Nat.le_of_ble_eq_true rfl) ?_
  show rr pgX zX5_pushAround 0 [(0, .ref 17), (1, .ref b1), (2, .int v2)] [] I J P
  refine rr_iconst (v := (0 : Int32)) dX5_pushAround_0 (by decide) rfl ?_
  refine rr_istore_n (lv' := [(3, .int (0 : Int32)), (0, .ref 17), (1, .ref b1), (2, .int v2)]) dX5_pushAround_1 rfl (by decide) rfl rfl ?_
  exact rr.sub [1, 2, 3, 0] rfl h
theorem s_X5_pushAround_2 {I : tg_I} {J : tg_J} {P : Option Value → tg_I → tg_J → Prop} (b1 : Nat) (v2 : Int32) (v3 : Int32) (hb1 : isBd b1) (h :
  vp_in v2 100 ∧
  (((I (b1 + 5) (Int32.toNatClampNeg v2)) ≤ v3 →
   P (some (.int (1 : Int32))) I J) ∧
  (¬ (I (b1 + 5) (Int32.toNatClampNeg v2)) ≤ v3 →
   vp_in ((v2 * (8 : Int32)) + v3) 800 ∧
    (∀ x1, x1 = (I (b1 + 4) (Int32.toNatClampNeg ((v2 * (8 : Int32)) + v3))) →
    call pgX zX0_has [.ref (b1 + 8), .int x1] I J (fun vr I1 J1 => ∃ r1 : Int32, vr = some (.int r1) ∧
    ((r1 = 0 →
     l_X5_pushAround_2 I1 J1 P b1 v2 ((v3 + (1 : Int32)))) ∧
    (¬ r1 = 0 →
     call pgX zX0_has [.ref 28, .int x1] I1 J1 (fun vr I2 J2 => ∃ r2 : Int32, vr = some (.int r2) ∧
      ((¬ r2 = 0 →
       l_X5_pushAround_2 I2 J2 P b1 v2 ((v3 + (1 : Int32)))) ∧
      (r2 = 0 →
       call pgX zX0_add [.ref 28, .int x1] I2 J2 (fun vr I3 J3 => vr = none ∧
        (call pgX zX7_push [.ref 20, .int x1] I3 J3 (fun vr I4 J4 => ∃ r3 : Int32, vr = some (.int r3) ∧
        ((¬ r3 = 0 →
         l_X5_pushAround_2 I4 J4 P b1 v2 ((v3 + (1 : Int32)))) ∧
        (r3 = 0 →
         P (some (.int (0 : Int32))) I4 J4))))))))))))))) : l_X5_pushAround_2 I J P b1 v2 v3 := by
  show rr pgX zX5_pushAround 2 [(0, .ref 17), (1, .ref b1), (2, .int v2), (3, .int v3)] [] I J P
  refine rr_iload_n dX5_pushAround_2 rfl 3 rfl rfl ?_
  refine rr_aload_n dX5_pushAround_3 rfl 1 rfl rfl ?_
  refine rr_getR dX5_pushAround_4 fX5_70 (bd_lt0 hb1) (bd_0 hb1) rfl rfl ?_
  refine rr_getR dX5_pushAround_7 fX5_103 (bd_lt hb1 (by decide)) (bd_1 hb1) rfl rfl ?_
  refine rr_iload_n dX5_pushAround_10 rfl 2 rfl rfl ?_
  refine rr_iald dX5_pushAround_11 (bd_lt hb1 (by decide)) (bd_5 hb1) rfl ⟨h.1, ?_⟩
  have h := h.2
  refine rr_icmp_ge (tgt := 84) dX5_pushAround_12 (by decide) rfl ⟨fun hc => ?_, fun hc => ?_⟩
  · have h := h.1 hc
    refine rr_iconst (v := (1 : Int32)) dX5_pushAround_84 (by decide) rfl ?_
    exact rr_zret dX5_pushAround_85 rfl rfl h
  · have h := h.2 hc
    refine rr_aload_n dX5_pushAround_15 rfl 1 rfl rfl ?_
    refine rr_getR dX5_pushAround_16 fX5_70 (bd_lt0 hb1) (bd_0 hb1) rfl rfl ?_
    refine rr_getR dX5_pushAround_19 fX5_106 (bd_lt hb1 (by decide)) (bd_1 hb1) rfl rfl ?_
    refine rr_iload_n dX5_pushAround_22 rfl 2 rfl rfl ?_
    refine rr_bipush (v := (8 : Int32)) dX5_pushAround_23 (by decide) rfl ?_
    refine rr_imul dX5_pushAround_25 rfl ?_
    refine rr_iload_n dX5_pushAround_26 rfl 3 rfl rfl ?_
    refine rr_iadd dX5_pushAround_27 rfl ?_
    refine rr_iald dX5_pushAround_28 (bd_lt hb1 (by decide)) (bd_4 hb1) rfl ⟨h.1, ?_⟩
    have h := h.2
    refine rr_letTi (fun x1 hx1 => ?_)
    have h := h x1 hx1
    refine rr_istore (lv' := [(4, .int x1), (0, .ref 17), (1, .ref b1), (2, .int v2), (3, .int v3)]) dX5_pushAround_29 (by decide) rfl rfl ?_
    refine rr_aload_n dX5_pushAround_31 rfl 2 rfl rfl ?_
    refine rr_getR dX5_pushAround_32 fX5_81 (bd_lt0 hb1) (bd_0 hb1) rfl rfl ?_
    refine rr_iload dX5_pushAround_35 0 rfl rfl ?_
    refine rr_V [.int x1] [] dX5_pushAround_37 kX0_has mX5_84 ⟨by decide, by decide⟩ (bd_lt hb1 (by decide)) (bd_8 hb1) rfl rfl (Nat.le_of_ble_eq_true rfl) rfl (h.mono fun vr I1 J1 h => ?_)
    obtain ⟨r1, rfl, h⟩ := h
    show rr pgX zX5_pushAround 40 _ [.int r1] _ _ _
    refine rr_if_eq (tgt := 78) dX5_pushAround_40 (by decide) rfl ⟨fun hc => ?_, fun hc => ?_⟩
    · have h := h.1 hc
      refine rr_iinc (k := 4) (v := (v3 + (1 : Int32))) (lv' := [(3, .int (v3 + (1 : Int32))), (4, .int x1), (0, .ref 17), (1, .ref b1), (2, .int v2)]) dX5_pushAround_78 rfl rfl (by decide) rfl rfl ?_
      refine rr_goto (tgt := 2) dX5_pushAround_81 (by decide) ?_
      exact rr.sub [2, 3, 4, 0] rfl h
    · have h := h.2 hc
      refine rr_aload_n dX5_pushAround_43 rfl 1 rfl rfl ?_
      refine rr_getR dX5_pushAround_44 fX5_28 (by decide) rfl rfl rfl ?_
      refine rr_iload dX5_pushAround_47 0 rfl rfl ?_
      refine rr_V [.int x1] [] dX5_pushAround_49 kX0_has mX5_84 ⟨by decide, by decide⟩ (by decide) rfl rfl rfl (Nat.le_of_ble_eq_true rfl) rfl (h.mono fun vr I2 J2 h => ?_)
      obtain ⟨r2, rfl, h⟩ := h
      show rr pgX zX5_pushAround 52 _ [.int r2] _ _ _
      refine rr_if_ne (tgt := 78) dX5_pushAround_52 (by decide) rfl ⟨fun hc => ?_, fun hc => ?_⟩
      · have h := h.1 hc
        refine rr_iinc (k := 4) (v := (v3 + (1 : Int32))) (lv' := [(3, .int (v3 + (1 : Int32))), (4, .int x1), (0, .ref 17), (1, .ref b1), (2, .int v2)]) dX5_pushAround_78 rfl rfl (by decide) rfl rfl ?_
        refine rr_goto (tgt := 2) dX5_pushAround_81 (by decide) ?_
        exact rr.sub [2, 3, 4, 0] rfl h
      · have h := h.2 hc
        refine rr_aload_n dX5_pushAround_55 rfl 1 rfl rfl ?_
        refine rr_getR dX5_pushAround_56 fX5_28 (by decide) rfl rfl rfl ?_
        refine rr_iload dX5_pushAround_59 0 rfl rfl ?_
        refine rr_V [.int x1] [] dX5_pushAround_61 kX0_add mX5_99 ⟨by decide, by decide⟩ (by decide) rfl rfl rfl (Nat.le_of_ble_eq_true rfl) rfl (h.mono fun vr I3 J3 h => ?_)
        obtain ⟨rfl, h⟩ := h
        show rr pgX zX5_pushAround 64 _ [] _ _ _
        refine rr_aload_n dX5_pushAround_64 rfl 1 rfl rfl ?_
        refine rr_getR dX5_pushAround_65 fX5_24 (by decide) rfl rfl rfl ?_
        refine rr_iload dX5_pushAround_68 0 rfl rfl ?_
        refine rr_V [.int x1] [] dX5_pushAround_70 kX7_push mX5_128 ⟨by decide, by decide⟩ (by decide) rfl rfl rfl (Nat.le_of_ble_eq_true rfl) rfl (h.mono fun vr I4 J4 h => ?_)
        obtain ⟨r3, rfl, h⟩ := h
        show rr pgX zX5_pushAround 73 _ [.int r3] _ _ _
        refine rr_if_ne (tgt := 78) dX5_pushAround_73 (by decide) rfl ⟨fun hc => ?_, fun hc => ?_⟩
        · have h := h.1 hc
          refine rr_iinc (k := 4) (v := (v3 + (1 : Int32))) (lv' := [(3, .int (v3 + (1 : Int32))), (4, .int x1), (0, .ref 17), (1, .ref b1), (2, .int v2)]) dX5_pushAround_78 rfl rfl (by decide) rfl rfl ?_
          refine rr_goto (tgt := 2) dX5_pushAround_81 (by decide) ?_
          exact rr.sub [2, 3, 4, 0] rfl h
        · have h := h.2 hc
          refine rr_iconst (v := (0 : Int32)) dX5_pushAround_76 (by decide) rfl ?_
          exact rr_zret dX5_pushAround_77 rfl rfl h

def l_X5_fitsOpposite_26 (I : tg_I) (J : tg_J) (P : Option Value → tg_I → tg_J → Prop) (v2 : Int32) (v3 : Int32) (v4 : Int32) (v5 : Int32) (v6 : Int32) : Prop := rr pgX zX5_fitsOpposite 26 [(0, .ref 17), (2, .int v2), (3, .int v3), (4, .int v4), (5, .int v5), (6, .int v6)] [] I J P
theorem e_X5_fitsOpposite {I : tg_I} {J : tg_J} {P : Option Value → tg_I → tg_J → Prop} (b1 : Nat) (v2 : Int32) (v3 : Int32) (hb1 : isBd b1) (h :
  call pgX zX0_size [.ref (b1 + 8)] I J (fun vr I1 J1 => ∃ r1 : Int32, vr = some (.int r1) ∧
  (call pgX zX7_size [.ref 20] I1 J1 (fun vr I2 J2 => ∃ r2 : Int32, vr = some (.int r2) ∧
  (call pgX zX1_minesLeft [.ref b1] I2 J2 (fun vr I3 J3 => ∃ r3 : Int32, vr = some (.int r3) ∧
  (l_X5_fitsOpposite_26 I3 J3 P v2 v3 ((r1 - r2)) r3 ((0 : Int32))))))))) : call pgX zX5_fitsOpposite [.ref 17, .ref b1, .int v2, .int v3] I J P := by
  refine call_of (by decide +kernel) (fun _ => Nat.le_of_ble_eq_true rfl) ?_
  show rr pgX zX5_fitsOpposite 0 [(0, .ref 17), (1, .ref b1), (2, .int v2), (3, .int v3)] [] I J P
  refine rr_aload_n dX5_fitsOpposite_0 rfl 1 rfl rfl ?_
  refine rr_getR dX5_fitsOpposite_1 fX5_81 (bd_lt0 hb1) (bd_0 hb1) rfl rfl ?_
  refine rr_V [] [] dX5_fitsOpposite_4 kX0_size mX5_153 ⟨by decide, by decide⟩ (bd_lt hb1 (by decide)) (bd_8 hb1) rfl rfl (Nat.le_of_ble_eq_true rfl) rfl (h.mono fun vr I1 J1 h => ?_)
  obtain ⟨r1, rfl, h⟩ := h
  show rr pgX zX5_fitsOpposite 7 _ [.int r1] _ _ _
  refine rr_aload_n dX5_fitsOpposite_7 rfl 0 rfl rfl ?_
  refine rr_getR dX5_fitsOpposite_8 fX5_24 (by decide) rfl rfl rfl ?_
  refine rr_V [] [.int r1] dX5_fitsOpposite_11 kX7_size mX5_216 ⟨by decide, by decide⟩ (by decide) rfl rfl rfl (Nat.le_of_ble_eq_true rfl) rfl (h.mono fun vr I2 J2 h => ?_)
  obtain ⟨r2, rfl, h⟩ := h
  show rr pgX zX5_fitsOpposite 14 _ [.int r2, .int r1] _ _ _
  refine rr_isub dX5_fitsOpposite_14 rfl ?_
  refine rr_istore (lv' := [(4, .int (r1 - r2)), (0, .ref 17), (1, .ref b1), (2, .int v2), (3, .int v3)]) dX5_fitsOpposite_15 (by decide) rfl rfl ?_
  refine rr_aload_n dX5_fitsOpposite_17 rfl 2 rfl rfl ?_
  refine rr_V [] [] dX5_fitsOpposite_18 kX1_minesLeft mX5_149 ⟨by decide, by decide⟩ (bd_lt0 hb1) (bd_0 hb1) rfl rfl (Nat.le_of_ble_eq_true rfl) rfl (h.mono fun vr I3 J3 h => ?_)
  obtain ⟨r3, rfl, h⟩ := h
  show rr pgX zX5_fitsOpposite 21 _ [.int r3] _ _ _
  refine rr_istore (lv' := [(5, .int r3), (4, .int (r1 - r2)), (0, .ref 17), (1, .ref b1), (2, .int v2), (3, .int v3)]) dX5_fitsOpposite_21 (by decide) rfl rfl ?_
  refine rr_iconst (v := (0 : Int32)) dX5_fitsOpposite_23 (by decide) rfl ?_
  refine rr_istore (lv' := [(6, .int (0 : Int32)), (5, .int r3), (4, .int (r1 - r2)), (0, .ref 17), (1, .ref b1), (2, .int v2), (3, .int v3)]) dX5_fitsOpposite_24 (by decide) rfl rfl ?_
  exact rr.sub [3, 5, 6, 2, 1, 0] rfl h
theorem s_X5_fitsOpposite_26 {I : tg_I} {J : tg_J} {P : Option Value → tg_I → tg_J → Prop} (v2 : Int32) (v3 : Int32) (v4 : Int32) (v5 : Int32) (v6 : Int32) (h :
  call pgX zX7_size [.ref 20] I J (fun vr I1 J1 => ∃ r1 : Int32, vr = some (.int r1) ∧
  ((r1 < v6 →
   P (some (.int (0 : Int32))) I1 J1) ∧
  (¬ r1 < v6 →
   call pgX zX7_foundHolding [.ref 20, .int (0 : Int32), .int v6] I1 J1 (fun vr I2 J2 => ∃ r2 : Int32, vr = some (.int r2) ∧
    ((v3 = 0 →
     (v5 < v6 →
       (r2 ≤ 0 →
         l_X5_fitsOpposite_26 I2 J2 P v2 v3 v4 v5 ((v6 + (1 : Int32)))) ∧
        (¬ r2 ≤ 0 →
         (¬ v2 = 0 →
           l_X5_fitsOpposite_26 I2 J2 P v2 v3 v4 v5 ((v6 + (1 : Int32)))) ∧
          (v2 = 0 →
           P (some (.int (1 : Int32))) I2 J2))) ∧
      (¬ v5 < v6 →
       (v4 < (v5 - v6) →
         (r2 ≤ 0 →
           l_X5_fitsOpposite_26 I2 J2 P v2 v3 v4 v5 ((v6 + (1 : Int32)))) ∧
          (¬ r2 ≤ 0 →
           (¬ v2 = 0 →
             l_X5_fitsOpposite_26 I2 J2 P v2 v3 v4 v5 ((v6 + (1 : Int32)))) ∧
            (v2 = 0 →
             P (some (.int (1 : Int32))) I2 J2))) ∧
        (¬ v4 < (v5 - v6) →
         (r2 ≤ 0 →
           l_X5_fitsOpposite_26 I2 J2 P v2 v3 v4 v5 ((v6 + (1 : Int32)))) ∧
          (¬ r2 ≤ 0 →
           P (some (.int (1 : Int32))) I2 J2)))) ∧
    (¬ v3 = 0 →
     call pgX zX7_found [.ref 20, .int v6] I2 J2 (fun vr I3 J3 => ∃ r3 : Int32, vr = some (.int r3) ∧
      ((v5 < v6 →
       ((r3 - r2) ≤ 0 →
         l_X5_fitsOpposite_26 I3 J3 P v2 v3 v4 v5 ((v6 + (1 : Int32)))) ∧
        (¬ (r3 - r2) ≤ 0 →
         (¬ v2 = 0 →
           l_X5_fitsOpposite_26 I3 J3 P v2 v3 v4 v5 ((v6 + (1 : Int32)))) ∧
          (v2 = 0 →
           P (some (.int (1 : Int32))) I3 J3))) ∧
      (¬ v5 < v6 →
       (v4 < (v5 - v6) →
         ((r3 - r2) ≤ 0 →
           l_X5_fitsOpposite_26 I3 J3 P v2 v3 v4 v5 ((v6 + (1 : Int32)))) ∧
          (¬ (r3 - r2) ≤ 0 →
           (¬ v2 = 0 →
             l_X5_fitsOpposite_26 I3 J3 P v2 v3 v4 v5 ((v6 + (1 : Int32)))) ∧
            (v2 = 0 →
             P (some (.int (1 : Int32))) I3 J3))) ∧
        (¬ v4 < (v5 - v6) →
         ((r3 - r2) ≤ 0 →
           l_X5_fitsOpposite_26 I3 J3 P v2 v3 v4 v5 ((v6 + (1 : Int32)))) ∧
          (¬ (r3 - r2) ≤ 0 →
           P (some (.int (1 : Int32))) I3 J3)))))))))))) : l_X5_fitsOpposite_26 I J P v2 v3 v4 v5 v6 := by
  show rr pgX zX5_fitsOpposite 26 [(0, .ref 17), (2, .int v2), (3, .int v3), (4, .int v4), (5, .int v5), (6, .int v6)] [] I J P
  refine rr_iload dX5_fitsOpposite_26 5 rfl rfl ?_
  refine rr_aload_n dX5_fitsOpposite_28 rfl 0 rfl rfl ?_
  refine rr_getR dX5_fitsOpposite_29 fX5_24 (by decide) rfl rfl rfl ?_
  refine rr_V [] [.int v6] dX5_fitsOpposite_32 kX7_size mX5_216 ⟨by decide, by decide⟩ (by decide) rfl rfl rfl (Nat.le_of_ble_eq_true rfl) rfl (h.mono fun vr I1 J1 h => ?_)
  obtain ⟨r1, rfl, h⟩ := h
  show rr pgX zX5_fitsOpposite 35 _ [.int r1, .int v6] _ _ _
  refine rr_icmp_gt (tgt := 119) dX5_fitsOpposite_35 (by decide) rfl ⟨fun hc => ?_, fun hc => ?_⟩
  · have h := h.1 hc
    refine rr_iconst (v := (0 : Int32)) dX5_fitsOpposite_119 (by decide) rfl ?_
    exact rr_zret dX5_fitsOpposite_120 rfl rfl h
  · have h := h.2 hc
    refine rr_aload_n dX5_fitsOpposite_38 rfl 0 rfl rfl ?_
    refine rr_getR dX5_fitsOpposite_39 fX5_24 (by decide) rfl rfl rfl ?_
    refine rr_iconst (v := (0 : Int32)) dX5_fitsOpposite_42 (by decide) rfl ?_
    refine rr_iload dX5_fitsOpposite_43 5 rfl rfl ?_
    refine rr_V [.int (0 : Int32), .int v6] [] dX5_fitsOpposite_45 kX7_foundHolding mX5_145 ⟨by decide, by decide⟩ (by decide) rfl rfl rfl (Nat.le_of_ble_eq_true rfl) rfl (h.mono fun vr I2 J2 h => ?_)
    obtain ⟨r2, rfl, h⟩ := h
    show rr pgX zX5_fitsOpposite 48 _ [.int r2] _ _ _
    refine rr_istore (lv' := [(7, .int r2), (0, .ref 17), (2, .int v2), (3, .int v3), (4, .int v4), (5, .int v5), (6, .int v6)]) dX5_fitsOpposite_48 (by decide) rfl rfl ?_
    refine rr_iload_n dX5_fitsOpposite_50 rfl 3 rfl rfl ?_
    refine rr_if_eq (tgt := 69) dX5_fitsOpposite_51 (by decide) rfl ⟨fun hc => ?_, fun hc => ?_⟩
    · have h := h.1 hc
      refine rr_iload dX5_fitsOpposite_69 0 rfl rfl ?_
      refine rr_istore (lv' := [(8, .int r2), (7, .int r2), (0, .ref 17), (2, .int v2), (3, .int v3), (4, .int v4), (5, .int v5), (6, .int v6)]) dX5_fitsOpposite_71 (by decide) rfl rfl ?_
      refine rr_iload dX5_fitsOpposite_73 7 rfl rfl ?_
      refine rr_iload dX5_fitsOpposite_75 6 rfl rfl ?_
      refine rr_icmp_gt (tgt := 94) dX5_fitsOpposite_77 (by decide) rfl ⟨fun hc => ?_, fun hc => ?_⟩
      · have h := h.1 hc
        refine rr_iconst (v := (0 : Int32)) dX5_fitsOpposite_94 (by decide) rfl ?_
        refine rr_istore (lv' := [(9, .int (0 : Int32)), (8, .int r2), (7, .int r2), (0, .ref 17), (2, .int v2), (3, .int v3), (4, .int v4), (5, .int v5), (6, .int v6)]) dX5_fitsOpposite_95 (by decide) rfl rfl ?_
        refine rr_iload dX5_fitsOpposite_97 1 rfl rfl ?_
        refine rr_if_le (tgt := 113) dX5_fitsOpposite_99 (by decide) rfl ⟨fun hc => ?_, fun hc => ?_⟩
        · have h := h.1 hc
          refine rr_iinc (k := 8) (v := (v6 + (1 : Int32))) (lv' := [(6, .int (v6 + (1 : Int32))), (9, .int (0 : Int32)), (8, .int r2), (7, .int r2), (0, .ref 17), (2, .int v2), (3, .int v3), (4, .int v4), (5, .int v5)]) dX5_fitsOpposite_113 rfl rfl (by decide) rfl rfl ?_
          refine rr_goto (tgt := 26) dX5_fitsOpposite_116 (by decide) ?_
          exact rr.sub [4, 5, 6, 7, 8, 0] rfl h
        · have h := h.2 hc
          refine rr_iload dX5_fitsOpposite_102 0 rfl rfl ?_
          refine rr_if_ne (tgt := 111) dX5_fitsOpposite_104 (by decide) rfl ⟨fun hc => absurd hc (by decide), fun _ => ?_⟩
          refine rr_iload_n dX5_fitsOpposite_107 rfl 4 rfl rfl ?_
          refine rr_if_ne (tgt := 113) dX5_fitsOpposite_108 (by decide) rfl ⟨fun hc => ?_, fun hc => ?_⟩
          · have h := h.1 hc
            refine rr_iinc (k := 8) (v := (v6 + (1 : Int32))) (lv' := [(6, .int (v6 + (1 : Int32))), (9, .int (0 : Int32)), (8, .int r2), (7, .int r2), (0, .ref 17), (2, .int v2), (3, .int v3), (4, .int v4), (5, .int v5)]) dX5_fitsOpposite_113 rfl rfl (by decide) rfl rfl ?_
            refine rr_goto (tgt := 26) dX5_fitsOpposite_116 (by decide) ?_
            exact rr.sub [4, 5, 6, 7, 8, 0] rfl h
          · have h := h.2 hc
            refine rr_iconst (v := (1 : Int32)) dX5_fitsOpposite_111 (by decide) rfl ?_
            exact rr_zret dX5_fitsOpposite_112 rfl rfl h
      · have h := h.2 hc
        refine rr_iload dX5_fitsOpposite_80 6 rfl rfl ?_
        refine rr_iload dX5_fitsOpposite_82 7 rfl rfl ?_
        refine rr_isub dX5_fitsOpposite_84 rfl ?_
        refine rr_iload dX5_fitsOpposite_85 5 rfl rfl ?_
        refine rr_icmp_gt (tgt := 94) dX5_fitsOpposite_87 (by decide) rfl ⟨fun hc => ?_, fun hc => ?_⟩
        · have h := h.1 hc
          refine rr_iconst (v := (0 : Int32)) dX5_fitsOpposite_94 (by decide) rfl ?_
          refine rr_istore (lv' := [(9, .int (0 : Int32)), (8, .int r2), (7, .int r2), (0, .ref 17), (2, .int v2), (3, .int v3), (4, .int v4), (5, .int v5), (6, .int v6)]) dX5_fitsOpposite_95 (by decide) rfl rfl ?_
          refine rr_iload dX5_fitsOpposite_97 1 rfl rfl ?_
          refine rr_if_le (tgt := 113) dX5_fitsOpposite_99 (by decide) rfl ⟨fun hc => ?_, fun hc => ?_⟩
          · have h := h.1 hc
            refine rr_iinc (k := 8) (v := (v6 + (1 : Int32))) (lv' := [(6, .int (v6 + (1 : Int32))), (9, .int (0 : Int32)), (8, .int r2), (7, .int r2), (0, .ref 17), (2, .int v2), (3, .int v3), (4, .int v4), (5, .int v5)]) dX5_fitsOpposite_113 rfl rfl (by decide) rfl rfl ?_
            refine rr_goto (tgt := 26) dX5_fitsOpposite_116 (by decide) ?_
            exact rr.sub [4, 5, 6, 7, 8, 0] rfl h
          · have h := h.2 hc
            refine rr_iload dX5_fitsOpposite_102 0 rfl rfl ?_
            refine rr_if_ne (tgt := 111) dX5_fitsOpposite_104 (by decide) rfl ⟨fun hc => absurd hc (by decide), fun _ => ?_⟩
            refine rr_iload_n dX5_fitsOpposite_107 rfl 4 rfl rfl ?_
            refine rr_if_ne (tgt := 113) dX5_fitsOpposite_108 (by decide) rfl ⟨fun hc => ?_, fun hc => ?_⟩
            · have h := h.1 hc
              refine rr_iinc (k := 8) (v := (v6 + (1 : Int32))) (lv' := [(6, .int (v6 + (1 : Int32))), (9, .int (0 : Int32)), (8, .int r2), (7, .int r2), (0, .ref 17), (2, .int v2), (3, .int v3), (4, .int v4), (5, .int v5)]) dX5_fitsOpposite_113 rfl rfl (by decide) rfl rfl ?_
              refine rr_goto (tgt := 26) dX5_fitsOpposite_116 (by decide) ?_
              exact rr.sub [4, 5, 6, 7, 8, 0] rfl h
            · have h := h.2 hc
              refine rr_iconst (v := (1 : Int32)) dX5_fitsOpposite_111 (by decide) rfl ?_
              exact rr_zret dX5_fitsOpposite_112 rfl rfl h
        · have h := h.2 hc
          refine rr_iconst (v := (1 : Int32)) dX5_fitsOpposite_90 (by decide) rfl ?_
          refine rr_goto (tgt := 95) dX5_fitsOpposite_91 (by decide) ?_
          refine rr_istore (lv' := [(9, .int (1 : Int32)), (8, .int r2), (7, .int r2), (0, .ref 17), (2, .int v2), (3, .int v3), (4, .int v4), (5, .int v5), (6, .int v6)]) dX5_fitsOpposite_95 (by decide) rfl rfl ?_
          refine rr_iload dX5_fitsOpposite_97 1 rfl rfl ?_
          refine rr_if_le (tgt := 113) dX5_fitsOpposite_99 (by decide) rfl ⟨fun hc => ?_, fun hc => ?_⟩
          · have h := h.1 hc
            refine rr_iinc (k := 8) (v := (v6 + (1 : Int32))) (lv' := [(6, .int (v6 + (1 : Int32))), (9, .int (1 : Int32)), (8, .int r2), (7, .int r2), (0, .ref 17), (2, .int v2), (3, .int v3), (4, .int v4), (5, .int v5)]) dX5_fitsOpposite_113 rfl rfl (by decide) rfl rfl ?_
            refine rr_goto (tgt := 26) dX5_fitsOpposite_116 (by decide) ?_
            exact rr.sub [4, 5, 6, 7, 8, 0] rfl h
          · have h := h.2 hc
            refine rr_iload dX5_fitsOpposite_102 0 rfl rfl ?_
            refine rr_if_ne (tgt := 111) dX5_fitsOpposite_104 (by decide) rfl ⟨fun _ => ?_, fun hc => absurd hc (by decide)⟩
            refine rr_iconst (v := (1 : Int32)) dX5_fitsOpposite_111 (by decide) rfl ?_
            exact rr_zret dX5_fitsOpposite_112 rfl rfl h
    · have h := h.2 hc
      refine rr_aload_n dX5_fitsOpposite_54 rfl 1 rfl rfl ?_
      refine rr_getR dX5_fitsOpposite_55 fX5_24 (by decide) rfl rfl rfl ?_
      refine rr_iload dX5_fitsOpposite_58 6 rfl rfl ?_
      refine rr_V [.int v6] [] dX5_fitsOpposite_60 kX7_found mX5_141 ⟨by decide, by decide⟩ (by decide) rfl rfl rfl (Nat.le_of_ble_eq_true rfl) rfl (h.mono fun vr I3 J3 h => ?_)
      obtain ⟨r3, rfl, h⟩ := h
      show rr pgX zX5_fitsOpposite 63 _ [.int r3] _ _ _
      refine rr_iload dX5_fitsOpposite_63 0 rfl rfl ?_
      refine rr_isub dX5_fitsOpposite_65 rfl ?_
      refine rr_goto (tgt := 71) dX5_fitsOpposite_66 (by decide) ?_
      refine rr_istore (lv' := [(8, .int (r3 - r2)), (7, .int r2), (0, .ref 17), (2, .int v2), (3, .int v3), (4, .int v4), (5, .int v5), (6, .int v6)]) dX5_fitsOpposite_71 (by decide) rfl rfl ?_
      refine rr_iload dX5_fitsOpposite_73 7 rfl rfl ?_
      refine rr_iload dX5_fitsOpposite_75 6 rfl rfl ?_
      refine rr_icmp_gt (tgt := 94) dX5_fitsOpposite_77 (by decide) rfl ⟨fun hc => ?_, fun hc => ?_⟩
      · have h := h.1 hc
        refine rr_iconst (v := (0 : Int32)) dX5_fitsOpposite_94 (by decide) rfl ?_
        refine rr_istore (lv' := [(9, .int (0 : Int32)), (8, .int (r3 - r2)), (7, .int r2), (0, .ref 17), (2, .int v2), (3, .int v3), (4, .int v4), (5, .int v5), (6, .int v6)]) dX5_fitsOpposite_95 (by decide) rfl rfl ?_
        refine rr_iload dX5_fitsOpposite_97 1 rfl rfl ?_
        refine rr_if_le (tgt := 113) dX5_fitsOpposite_99 (by decide) rfl ⟨fun hc => ?_, fun hc => ?_⟩
        · have h := h.1 hc
          refine rr_iinc (k := 8) (v := (v6 + (1 : Int32))) (lv' := [(6, .int (v6 + (1 : Int32))), (9, .int (0 : Int32)), (8, .int (r3 - r2)), (7, .int r2), (0, .ref 17), (2, .int v2), (3, .int v3), (4, .int v4), (5, .int v5)]) dX5_fitsOpposite_113 rfl rfl (by decide) rfl rfl ?_
          refine rr_goto (tgt := 26) dX5_fitsOpposite_116 (by decide) ?_
          exact rr.sub [4, 5, 6, 7, 8, 0] rfl h
        · have h := h.2 hc
          refine rr_iload dX5_fitsOpposite_102 0 rfl rfl ?_
          refine rr_if_ne (tgt := 111) dX5_fitsOpposite_104 (by decide) rfl ⟨fun hc => absurd hc (by decide), fun _ => ?_⟩
          refine rr_iload_n dX5_fitsOpposite_107 rfl 4 rfl rfl ?_
          refine rr_if_ne (tgt := 113) dX5_fitsOpposite_108 (by decide) rfl ⟨fun hc => ?_, fun hc => ?_⟩
          · have h := h.1 hc
            refine rr_iinc (k := 8) (v := (v6 + (1 : Int32))) (lv' := [(6, .int (v6 + (1 : Int32))), (9, .int (0 : Int32)), (8, .int (r3 - r2)), (7, .int r2), (0, .ref 17), (2, .int v2), (3, .int v3), (4, .int v4), (5, .int v5)]) dX5_fitsOpposite_113 rfl rfl (by decide) rfl rfl ?_
            refine rr_goto (tgt := 26) dX5_fitsOpposite_116 (by decide) ?_
            exact rr.sub [4, 5, 6, 7, 8, 0] rfl h
          · have h := h.2 hc
            refine rr_iconst (v := (1 : Int32)) dX5_fitsOpposite_111 (by decide) rfl ?_
            exact rr_zret dX5_fitsOpposite_112 rfl rfl h
      · have h := h.2 hc
        refine rr_iload dX5_fitsOpposite_80 6 rfl rfl ?_
        refine rr_iload dX5_fitsOpposite_82 7 rfl rfl ?_
        refine rr_isub dX5_fitsOpposite_84 rfl ?_
        refine rr_iload dX5_fitsOpposite_85 5 rfl rfl ?_
        refine rr_icmp_gt (tgt := 94) dX5_fitsOpposite_87 (by decide) rfl ⟨fun hc => ?_, fun hc => ?_⟩
        · have h := h.1 hc
          refine rr_iconst (v := (0 : Int32)) dX5_fitsOpposite_94 (by decide) rfl ?_
          refine rr_istore (lv' := [(9, .int (0 : Int32)), (8, .int (r3 - r2)), (7, .int r2), (0, .ref 17), (2, .int v2), (3, .int v3), (4, .int v4), (5, .int v5), (6, .int v6)]) dX5_fitsOpposite_95 (by decide) rfl rfl ?_
          refine rr_iload dX5_fitsOpposite_97 1 rfl rfl ?_
          refine rr_if_le (tgt := 113) dX5_fitsOpposite_99 (by decide) rfl ⟨fun hc => ?_, fun hc => ?_⟩
          · have h := h.1 hc
            refine rr_iinc (k := 8) (v := (v6 + (1 : Int32))) (lv' := [(6, .int (v6 + (1 : Int32))), (9, .int (0 : Int32)), (8, .int (r3 - r2)), (7, .int r2), (0, .ref 17), (2, .int v2), (3, .int v3), (4, .int v4), (5, .int v5)]) dX5_fitsOpposite_113 rfl rfl (by decide) rfl rfl ?_
            refine rr_goto (tgt := 26) dX5_fitsOpposite_116 (by decide) ?_
            exact rr.sub [4, 5, 6, 7, 8, 0] rfl h
          · have h := h.2 hc
            refine rr_iload dX5_fitsOpposite_102 0 rfl rfl ?_
            refine rr_if_ne (tgt := 111) dX5_fitsOpposite_104 (by decide) rfl ⟨fun hc => absurd hc (by decide), fun _ => ?_⟩
            refine rr_iload_n dX5_fitsOpposite_107 rfl 4 rfl rfl ?_
            refine rr_if_ne (tgt := 113) dX5_fitsOpposite_108 (by decide) rfl ⟨fun hc => ?_, fun hc => ?_⟩
            · have h := h.1 hc
              refine rr_iinc (k := 8) (v := (v6 + (1 : Int32))) (lv' := [(6, .int (v6 + (1 : Int32))), (9, .int (0 : Int32)), (8, .int (r3 - r2)), (7, .int r2), (0, .ref 17), (2, .int v2), (3, .int v3), (4, .int v4), (5, .int v5)]) dX5_fitsOpposite_113 rfl rfl (by decide) rfl rfl ?_
              refine rr_goto (tgt := 26) dX5_fitsOpposite_116 (by decide) ?_
              exact rr.sub [4, 5, 6, 7, 8, 0] rfl h
            · have h := h.2 hc
              refine rr_iconst (v := (1 : Int32)) dX5_fitsOpposite_111 (by decide) rfl ?_
              exact rr_zret dX5_fitsOpposite_112 rfl rfl h
        · have h := h.2 hc
          refine rr_iconst (v := (1 : Int32)) dX5_fitsOpposite_90 (by decide) rfl ?_
          refine rr_goto (tgt := 95) dX5_fitsOpposite_91 (by decide) ?_
          refine rr_istore (lv' := [(9, .int (1 : Int32)), (8, .int (r3 - r2)), (7, .int r2), (0, .ref 17), (2, .int v2), (3, .int v3), (4, .int v4), (5, .int v5), (6, .int v6)]) dX5_fitsOpposite_95 (by decide) rfl rfl ?_
          refine rr_iload dX5_fitsOpposite_97 1 rfl rfl ?_
          refine rr_if_le (tgt := 113) dX5_fitsOpposite_99 (by decide) rfl ⟨fun hc => ?_, fun hc => ?_⟩
          · have h := h.1 hc
            refine rr_iinc (k := 8) (v := (v6 + (1 : Int32))) (lv' := [(6, .int (v6 + (1 : Int32))), (9, .int (1 : Int32)), (8, .int (r3 - r2)), (7, .int r2), (0, .ref 17), (2, .int v2), (3, .int v3), (4, .int v4), (5, .int v5)]) dX5_fitsOpposite_113 rfl rfl (by decide) rfl rfl ?_
            refine rr_goto (tgt := 26) dX5_fitsOpposite_116 (by decide) ?_
            exact rr.sub [4, 5, 6, 7, 8, 0] rfl h
          · have h := h.2 hc
            refine rr_iload dX5_fitsOpposite_102 0 rfl rfl ?_
            refine rr_if_ne (tgt := 111) dX5_fitsOpposite_104 (by decide) rfl ⟨fun _ => ?_, fun hc => absurd hc (by decide)⟩
            refine rr_iconst (v := (1 : Int32)) dX5_fitsOpposite_111 (by decide) rfl ?_
            exact rr_zret dX5_fitsOpposite_112 rfl rfl h

theorem e_X6_begin {I : tg_I} {J : tg_J} {P : Option Value → tg_I → tg_J → Prop} (b1 : Nat) (hb1 : isBd b1) (h :
  ∀ I1, I1 = u2 I 39 9 (nI b1) →
  call pgX zX0_copy [.ref 44, .ref (b1 + 8)] I1 J (fun vr I2 J1 => vr = none ∧
  (call pgX zX0_copy [.ref 45, .ref (b1 + 10)] I2 J1 (fun vr I3 J2 => vr = none ∧
  (∀ I4, I4 = u2 I3 39 10 (0 : Int32) →
  ∀ I5, I5 = u2 I4 39 11 (0 : Int32) →
  P none I5 J2))))) : call pgX zX6_begin [.ref 39, .ref b1] I J P := by
  refine call_of (by decide +kernel) (fun _ => Nat.le_of_ble_eq_true rfl) ?_
  show rr pgX zX6_begin 0 [(0, .ref 39), (1, .ref b1)] [] I J P
  refine rr_aload_n dX6_begin_0 rfl 0 rfl rfl ?_
  refine rr_aload_n dX6_begin_1 rfl 1 rfl rfl ?_
  refine rr_putV dX6_begin_2 pX6_34 (by decide) rfl rfl (bd_31 hb1) rfl ?_
  refine rr_letI (fun I1 hI1 => ?_)
  have h := h I1 hI1
  refine rr_aload_n dX6_begin_5 rfl 0 rfl rfl ?_
  refine rr_getR dX6_begin_6 fX6_28 (by decide) rfl rfl rfl ?_
  refine rr_aload_n dX6_begin_9 rfl 1 rfl rfl ?_
  refine rr_getR dX6_begin_10 fX6_42 (bd_lt0 hb1) (bd_0 hb1) rfl rfl ?_
  refine rr_V [.ref (b1 + 8)] [] dX6_begin_13 kX0_copy mX6_47 ⟨by decide, by decide⟩ (by decide) rfl rfl rfl (Nat.le_of_ble_eq_true rfl) rfl (h.mono fun vr I2 J1 h => ?_)
  obtain ⟨rfl, h⟩ := h
  show rr pgX zX6_begin 16 _ [] _ _ _
  refine rr_aload_n dX6_begin_16 rfl 0 rfl rfl ?_
  refine rr_getR dX6_begin_17 fX6_31 (by decide) rfl rfl rfl ?_
  refine rr_aload_n dX6_begin_20 rfl 1 rfl rfl ?_
  refine rr_getR dX6_begin_21 fX6_51 (bd_lt0 hb1) (bd_0 hb1) rfl rfl ?_
  refine rr_V [.ref (b1 + 10)] [] dX6_begin_24 kX0_copy mX6_47 ⟨by decide, by decide⟩ (by decide) rfl rfl rfl (Nat.le_of_ble_eq_true rfl) rfl (h.mono fun vr I3 J2 h => ?_)
  obtain ⟨rfl, h⟩ := h
  show rr pgX zX6_begin 27 _ [] _ _ _
  refine rr_aload_n dX6_begin_27 rfl 0 rfl rfl ?_
  refine rr_iconst (v := (0 : Int32)) dX6_begin_28 (by decide) rfl ?_
  refine rr_putZ dX6_begin_29 pX6_54 (by decide) rfl rfl ⟨rfl, rfl⟩ rfl ?_
  refine rr_letI (fun I4 hI4 => ?_)
  have h := h I4 hI4
  refine rr_aload_n dX6_begin_32 rfl 0 rfl rfl ?_
  refine rr_iconst (v := (0 : Int32)) dX6_begin_33 (by decide) rfl ?_
  refine rr_putZ dX6_begin_34 pX6_58 (by decide) rfl rfl ⟨rfl, rfl⟩ rfl ?_
  refine rr_letI (fun I5 hI5 => ?_)
  have h := h I5 hI5
  exact rr_vret dX6_begin_37 rfl h

theorem e_X6_goOn {I : tg_I} {J : tg_J} {P : Option Value → tg_I → tg_J → Prop} (h :
  ((I 39 10) = 0 →
   ∃ b121 : Nat, (I 39 9).toNatClampNeg = b121 ∧ isBd b121 ∧
    call pgX zX0_meet [.ref 44, .ref (b121 + 8)] I J (fun vr I1 J1 => vr = none ∧
    (∀ I2, I2 = u2 I1 39 11 (0 : Int32) →
    P none I2 J1))) ∧
  (¬ (I 39 10) = 0 →
   ∃ b109 : Nat, (I 39 9).toNatClampNeg = b109 ∧ isBd b109 ∧
    call pgX zX6_begin [.ref 39, .ref b109] I J (fun vr I3 J2 => vr = none ∧
    (P none I3 J2)))) : call pgX zX6_goOn [.ref 39] I J P := by
  refine call_of (by decide +kernel) (fun _ => Nat.le_of_ble_eq_true rfl) ?_
  show rr pgX zX6_goOn 0 [(0, .ref 39)] [] I J P
  refine rr_aload_n dX6_goOn_0 rfl 0 rfl rfl ?_
  refine rr_getI dX6_goOn_1 fX6_54 (by decide) rfl rfl rfl ?_
  refine rr_if_eq (tgt := 16) dX6_goOn_4 (by decide) rfl ⟨fun hc => ?_, fun hc => ?_⟩
  · have h := h.1 hc
    refine rr_aload_n dX6_goOn_16 rfl 0 rfl rfl ?_
    refine rr_getR dX6_goOn_17 fX6_28 (by decide) rfl rfl rfl ?_
    refine rr_aload_n dX6_goOn_20 rfl 0 rfl rfl ?_
    obtain ⟨b121, hvb121, hb121, h⟩ := h
    refine rr_getV dX6_goOn_21 fX6_34 (by decide) rfl rfl hvb121 rfl ?_
    refine rr_getR dX6_goOn_24 fX6_42 (bd_lt0 hb121) (bd_0 hb121) rfl rfl ?_
    refine rr_V [.ref (b121 + 8)] [] dX6_goOn_27 kX0_meet mX6_65 ⟨by decide, by decide⟩ (by decide) rfl rfl rfl (Nat.le_of_ble_eq_true rfl) rfl (h.mono fun vr I1 J1 h => ?_)
    obtain ⟨rfl, h⟩ := h
    show rr pgX zX6_goOn 30 _ [] _ _ _
    refine rr_aload_n dX6_goOn_30 rfl 0 rfl rfl ?_
    refine rr_iconst (v := (0 : Int32)) dX6_goOn_31 (by decide) rfl ?_
    refine rr_putZ dX6_goOn_32 pX6_58 (by decide) rfl rfl ⟨rfl, rfl⟩ rfl ?_
    refine rr_letI (fun I2 hI2 => ?_)
    have h := h I2 hI2
    exact rr_vret dX6_goOn_35 rfl h
  · have h := h.2 hc
    refine rr_aload_n dX6_goOn_7 rfl 0 rfl rfl ?_
    refine rr_aload_n dX6_goOn_8 rfl 0 rfl rfl ?_
    obtain ⟨b109, hvb109, hb109, h⟩ := h
    refine rr_getV dX6_goOn_9 fX6_34 (by decide) rfl rfl hvb109 rfl ?_
    refine rr_V [.ref b109] [] dX6_goOn_12 kX6_begin mX6_61 ⟨by decide, by decide⟩ (by decide) rfl rfl rfl (Nat.le_of_ble_eq_true rfl) rfl (h.mono fun vr I3 J2 h => ?_)
    obtain ⟨rfl, h⟩ := h
    show rr pgX zX6_goOn 15 _ [] _ _ _
    exact rr_vret dX6_goOn_15 rfl h

def l_X6_find_13 (I : tg_I) (J : tg_J) (P : Option Value → tg_I → tg_J → Prop) (v1 : Int32) (v2 : Int32) (v3 : Int32) : Prop := rr pgX zX6_find 13 [(0, .ref 39), (1, .int v1), (2, .int v2), (3, .int v3)] [] I J P
def l_X6_find_50 (I : tg_I) (J : tg_J) (P : Option Value → tg_I → tg_J → Prop) (v1 : Int32) (v2 : Int32) (v3 : Int32) : Prop := rr pgX zX6_find 50 [(0, .ref 39), (1, .int v1), (2, .int v2), (3, .int v3)] [] I J P
theorem e_X6_find {I : tg_I} {J : tg_J} {P : Option Value → tg_I → tg_J → Prop} (v1 : Int32) (h :
  ∃ b101 : Nat, (I 39 9).toNatClampNeg = b101 ∧ isBd b101 ∧
  l_X6_find_13 I J P v1 ((I (b101 + 1) 7)) ((0 : Int32))) : call pgX zX6_find [.ref 39, .int v1] I J P := by
  refine call_of (by decide +kernel) (fun _ => Nat.le_of_ble_eq_true rfl) ?_
  show rr pgX zX6_find 0 [(0, .ref 39), (1, .int v1)] [] I J P
  refine rr_aload_n dX6_find_0 rfl 0 rfl rfl ?_
  obtain ⟨b101, hvb101, hb101, h⟩ := h
  refine rr_getV dX6_find_1 fX6_34 (by decide) rfl rfl hvb101 rfl ?_
  refine rr_getR dX6_find_4 fX6_68 (bd_lt0 hb101) (bd_0 hb101) rfl rfl ?_
  refine rr_getI dX6_find_7 fX6_72 (bd_lt hb101 (by decide)) (bd_1 hb101) rfl rfl ?_
  refine rr_istore_n (lv' := [(2, .int (I (b101 + 1) 7)), (0, .ref 39), (1, .int v1)]) dX6_find_10 rfl (by decide) rfl rfl ?_
  refine rr_iconst (v := (0 : Int32)) dX6_find_11 (by decide) rfl ?_
  refine rr_istore_n (lv' := [(3, .int (0 : Int32)), (2, .int (I (b101 + 1) 7)), (0, .ref 39), (1, .int v1)]) dX6_find_12 rfl (by decide) rfl rfl ?_
  exact rr.sub [2, 3, 1, 0] rfl h
theorem s_X6_find_13 {I : tg_I} {J : tg_J} {P : Option Value → tg_I → tg_J → Prop} (v1 : Int32) (v2 : Int32) (v3 : Int32) (h :
  (v2 ≤ v3 →
   l_X6_find_50 I J P v1 v2 ((0 : Int32))) ∧
  (¬ v2 ≤ v3 →
   ∃ b119 : Nat, (I 39 9).toNatClampNeg = b119 ∧ isBd b119 ∧
    call pgX zX0_has [.ref (b119 + 9), .int v3] I J (fun vr I1 J1 => ∃ r1 : Int32, vr = some (.int r1) ∧
    ((r1 = 0 →
     l_X6_find_13 I1 J1 P v1 v2 ((v3 + (1 : Int32)))) ∧
    (¬ r1 = 0 →
     call pgX zX6_giveByOne [.ref 39, .int v3] I1 J1 (fun vr I2 J2 => ∃ r2 : Int32, vr = some (.int r2) ∧
      ((r2 = 0 →
       l_X6_find_13 I2 J2 P v1 v2 ((v3 + (1 : Int32)))) ∧
      (¬ r2 = 0 →
       P (some (.int (1 : Int32))) I2 J2)))))))) : l_X6_find_13 I J P v1 v2 v3 := by
  show rr pgX zX6_find 13 [(0, .ref 39), (1, .int v1), (2, .int v2), (3, .int v3)] [] I J P
  refine rr_iload_n dX6_find_13 rfl 3 rfl rfl ?_
  refine rr_iload_n dX6_find_14 rfl 2 rfl rfl ?_
  refine rr_icmp_ge (tgt := 48) dX6_find_15 (by decide) rfl ⟨fun hc => ?_, fun hc => ?_⟩
  · have h := h.1 hc
    refine rr_iconst (v := (0 : Int32)) dX6_find_48 (by decide) rfl ?_
    refine rr_istore_n (lv' := [(3, .int (0 : Int32)), (0, .ref 39), (1, .int v1), (2, .int v2)]) dX6_find_49 rfl (by decide) rfl rfl ?_
    exact rr.sub [1, 2, 3, 0] rfl h
  · have h := h.2 hc
    refine rr_aload_n dX6_find_18 rfl 0 rfl rfl ?_
    obtain ⟨b119, hvb119, hb119, h⟩ := h
    refine rr_getV dX6_find_19 fX6_34 (by decide) rfl rfl hvb119 rfl ?_
    refine rr_getR dX6_find_22 fX6_78 (bd_lt0 hb119) (bd_0 hb119) rfl rfl ?_
    refine rr_iload_n dX6_find_25 rfl 3 rfl rfl ?_
    refine rr_V [.int v3] [] dX6_find_26 kX0_has mX6_81 ⟨by decide, by decide⟩ (bd_lt hb119 (by decide)) (bd_9 hb119) rfl rfl (Nat.le_of_ble_eq_true rfl) rfl (h.mono fun vr I1 J1 h => ?_)
    obtain ⟨r1, rfl, h⟩ := h
    show rr pgX zX6_find 29 _ [.int r1] _ _ _
    refine rr_if_eq (tgt := 42) dX6_find_29 (by decide) rfl ⟨fun hc => ?_, fun hc => ?_⟩
    · have h := h.1 hc
      refine rr_iinc (k := 3) (v := (v3 + (1 : Int32))) (lv' := [(3, .int (v3 + (1 : Int32))), (0, .ref 39), (1, .int v1), (2, .int v2)]) dX6_find_42 rfl rfl (by decide) rfl rfl ?_
      refine rr_goto (tgt := 13) dX6_find_45 (by decide) ?_
      exact rr.sub [1, 2, 3, 0] rfl h
    · have h := h.2 hc
      refine rr_aload_n dX6_find_32 rfl 0 rfl rfl ?_
      refine rr_iload_n dX6_find_33 rfl 3 rfl rfl ?_
      refine rr_V [.int v3] [] dX6_find_34 kX6_giveByOne mX6_85 ⟨by decide, by decide⟩ (by decide) rfl rfl rfl (Nat.le_of_ble_eq_true rfl) rfl (h.mono fun vr I2 J2 h => ?_)
      obtain ⟨r2, rfl, h⟩ := h
      show rr pgX zX6_find 37 _ [.int r2] _ _ _
      refine rr_if_eq (tgt := 42) dX6_find_37 (by decide) rfl ⟨fun hc => ?_, fun hc => ?_⟩
      · have h := h.1 hc
        refine rr_iinc (k := 3) (v := (v3 + (1 : Int32))) (lv' := [(3, .int (v3 + (1 : Int32))), (0, .ref 39), (1, .int v1), (2, .int v2)]) dX6_find_42 rfl rfl (by decide) rfl rfl ?_
        refine rr_goto (tgt := 13) dX6_find_45 (by decide) ?_
        exact rr.sub [1, 2, 3, 0] rfl h
      · have h := h.2 hc
        refine rr_iconst (v := (1 : Int32)) dX6_find_40 (by decide) rfl ?_
        exact rr_zret dX6_find_41 rfl rfl h
theorem s_X6_find_50 {I : tg_I} {J : tg_J} {P : Option Value → tg_I → tg_J → Prop} (v1 : Int32) (v2 : Int32) (v3 : Int32) (h :
  (v2 ≤ v3 →
   ((3 : Int32) ≤ v1 →
     (¬ (I 39 11) = 0 →
       ((I 39 12) = 0 →
         P (some (.int (0 : Int32))) I J) ∧
        (¬ (I 39 12) = 0 →
         call pgX zX6_giveByAll [.ref 39] I J (fun vr I1 J1 => ∃ r1 : Int32, vr = some (.int r1) ∧
          ((r1 = 0 →
           P (some (.int (0 : Int32))) I1 J1) ∧
          (¬ r1 = 0 →
           P (some (.int (1 : Int32))) I1 J1))))) ∧
      ((I 39 11) = 0 →
       ∀ I2, I2 = u2 I 39 11 (1 : Int32) →
        ∃ b215 : Nat, (I2 39 9).toNatClampNeg = b215 ∧ isBd b215 ∧
        call pgX zX5_gather [.ref 17, .ref b215] I2 J (fun vr I3 J2 => ∃ r2 : Int32, vr = some (.int r2) ∧
        ((narrow .boolean (.int r2) = .int r2 ∧ fits .boolean (.int r2) = true) ∧ ∀ I4, I4 = u2 I3 39 12 r2 →
        ((I4 39 12) = 0 →
         ((I4 39 12) = 0 →
           P (some (.int (0 : Int32))) I4 J2) ∧
          (¬ (I4 39 12) = 0 →
           call pgX zX6_giveByAll [.ref 39] I4 J2 (fun vr I5 J3 => ∃ r3 : Int32, vr = some (.int r3) ∧
            ((r3 = 0 →
             P (some (.int (0 : Int32))) I5 J3) ∧
            (¬ r3 = 0 →
             P (some (.int (1 : Int32))) I5 J3))))) ∧
        (¬ (I4 39 12) = 0 →
         ∃ b236 : Nat, (I4 39 9).toNatClampNeg = b236 ∧ isBd b236 ∧
          call pgX zX5_study [.ref 17, .ref b236] I4 J2 (fun vr I6 J4 => vr = none ∧
          (∃ b247 : Nat, (I6 39 9).toNatClampNeg = b247 ∧ isBd b247 ∧
          call pgX zX5_force [.ref 17, .ref b247] I6 J4 (fun vr I7 J5 => vr = none ∧
          (((I7 39 12) = 0 →
           P (some (.int (0 : Int32))) I7 J5) ∧
          (¬ (I7 39 12) = 0 →
           call pgX zX6_giveByAll [.ref 39] I7 J5 (fun vr I8 J6 => ∃ r4 : Int32, vr = some (.int r4) ∧
            ((r4 = 0 →
             P (some (.int (0 : Int32))) I8 J6) ∧
            (¬ r4 = 0 →
             P (some (.int (1 : Int32))) I8 J6))))))))))))) ∧
    (¬ (3 : Int32) ≤ v1 →
     P (some (.int (0 : Int32))) I J)) ∧
  (¬ v2 ≤ v3 →
   (v1 < (2 : Int32) →
     ((3 : Int32) ≤ v1 →
       (¬ (I 39 11) = 0 →
         ((I 39 12) = 0 →
           P (some (.int (0 : Int32))) I J) ∧
          (¬ (I 39 12) = 0 →
           call pgX zX6_giveByAll [.ref 39] I J (fun vr I9 J7 => ∃ r5 : Int32, vr = some (.int r5) ∧
            ((r5 = 0 →
             P (some (.int (0 : Int32))) I9 J7) ∧
            (¬ r5 = 0 →
             P (some (.int (1 : Int32))) I9 J7))))) ∧
        ((I 39 11) = 0 →
         ∀ I10, I10 = u2 I 39 11 (1 : Int32) →
          ∃ b215 : Nat, (I10 39 9).toNatClampNeg = b215 ∧ isBd b215 ∧
          call pgX zX5_gather [.ref 17, .ref b215] I10 J (fun vr I11 J8 => ∃ r6 : Int32, vr = some (.int r6) ∧
          ((narrow .boolean (.int r6) = .int r6 ∧ fits .boolean (.int r6) = true) ∧ ∀ I12, I12 = u2 I11 39 12 r6 →
          ((I12 39 12) = 0 →
           ((I12 39 12) = 0 →
             P (some (.int (0 : Int32))) I12 J8) ∧
            (¬ (I12 39 12) = 0 →
             call pgX zX6_giveByAll [.ref 39] I12 J8 (fun vr I13 J9 => ∃ r7 : Int32, vr = some (.int r7) ∧
              ((r7 = 0 →
               P (some (.int (0 : Int32))) I13 J9) ∧
              (¬ r7 = 0 →
               P (some (.int (1 : Int32))) I13 J9))))) ∧
          (¬ (I12 39 12) = 0 →
           ∃ b236 : Nat, (I12 39 9).toNatClampNeg = b236 ∧ isBd b236 ∧
            call pgX zX5_study [.ref 17, .ref b236] I12 J8 (fun vr I14 J10 => vr = none ∧
            (∃ b247 : Nat, (I14 39 9).toNatClampNeg = b247 ∧ isBd b247 ∧
            call pgX zX5_force [.ref 17, .ref b247] I14 J10 (fun vr I15 J11 => vr = none ∧
            (((I15 39 12) = 0 →
             P (some (.int (0 : Int32))) I15 J11) ∧
            (¬ (I15 39 12) = 0 →
             call pgX zX6_giveByAll [.ref 39] I15 J11 (fun vr I16 J12 => ∃ r8 : Int32, vr = some (.int r8) ∧
              ((r8 = 0 →
               P (some (.int (0 : Int32))) I16 J12) ∧
              (¬ r8 = 0 →
               P (some (.int (1 : Int32))) I16 J12))))))))))))) ∧
      (¬ (3 : Int32) ≤ v1 →
       P (some (.int (0 : Int32))) I J)) ∧
    (¬ v1 < (2 : Int32) →
     ∃ b161 : Nat, (I 39 9).toNatClampNeg = b161 ∧ isBd b161 ∧
      call pgX zX0_has [.ref (b161 + 9), .int v3] I J (fun vr I17 J13 => ∃ r9 : Int32, vr = some (.int r9) ∧
      ((r9 = 0 →
       l_X6_find_50 I17 J13 P v1 v2 ((v3 + (1 : Int32)))) ∧
      (¬ r9 = 0 →
       call pgX zX6_giveByTwo [.ref 39, .int v3] I17 J13 (fun vr I18 J14 => ∃ r10 : Int32, vr = some (.int r10) ∧
        ((r10 = 0 →
         l_X6_find_50 I18 J14 P v1 v2 ((v3 + (1 : Int32)))) ∧
        (¬ r10 = 0 →
         P (some (.int (1 : Int32))) I18 J14))))))))) : l_X6_find_50 I J P v1 v2 v3 := by
  show rr pgX zX6_find 50 [(0, .ref 39), (1, .int v1), (2, .int v2), (3, .int v3)] [] I J P
  refine rr_iload_n dX6_find_50 rfl 3 rfl rfl ?_
  refine rr_iload_n dX6_find_51 rfl 2 rfl rfl ?_
  refine rr_icmp_ge (tgt := 90) dX6_find_52 (by decide) rfl ⟨fun hc => ?_, fun hc => ?_⟩
  · have h := h.1 hc
    refine rr_iload_n dX6_find_90 rfl 1 rfl rfl ?_
    refine rr_iconst (v := (3 : Int32)) dX6_find_91 (by decide) rfl ?_
    refine rr_icmp_ge (tgt := 97) dX6_find_92 (by decide) rfl ⟨fun hc => ?_, fun hc => ?_⟩
    · have h := h.1 hc
      refine rr_aload_n dX6_find_97 rfl 0 rfl rfl ?_
      refine rr_getI dX6_find_98 fX6_58 (by decide) rfl rfl rfl ?_
      refine rr_if_ne (tgt := 153) dX6_find_101 (by decide) rfl ⟨fun hc => ?_, fun hc => ?_⟩
      · have h := h.1 hc
        refine rr_aload_n dX6_find_153 rfl 0 rfl rfl ?_
        refine rr_getI dX6_find_154 fX6_97 (by decide) rfl rfl rfl ?_
        refine rr_if_eq (tgt := 171) dX6_find_157 (by decide) rfl ⟨fun hc => ?_, fun hc => ?_⟩
        · have h := h.1 hc
          refine rr_iconst (v := (0 : Int32)) dX6_find_171 (by decide) rfl ?_
          exact rr_zret dX6_find_172 rfl rfl h
        · have h := h.2 hc
          refine rr_aload_n dX6_find_160 rfl 0 rfl rfl ?_
          refine rr_V [] [] dX6_find_161 kX6_giveByAll mX6_106 ⟨by decide, by decide⟩ (by decide) rfl rfl rfl (Nat.le_of_ble_eq_true rfl) rfl (h.mono fun vr I1 J1 h => ?_)
          obtain ⟨r1, rfl, h⟩ := h
          show rr pgX zX6_find 164 _ [.int r1] _ _ _
          refine rr_if_eq (tgt := 171) dX6_find_164 (by decide) rfl ⟨fun hc => ?_, fun hc => ?_⟩
          · have h := h.1 hc
            refine rr_iconst (v := (0 : Int32)) dX6_find_171 (by decide) rfl ?_
            exact rr_zret dX6_find_172 rfl rfl h
          · have h := h.2 hc
            refine rr_iconst (v := (1 : Int32)) dX6_find_167 (by decide) rfl ?_
            refine rr_goto (tgt := 172) dX6_find_168 (by decide) ?_
            exact rr_zret dX6_find_172 rfl rfl h
      · have h := h.2 hc
        refine rr_aload_n dX6_find_104 rfl 0 rfl rfl ?_
        refine rr_iconst (v := (1 : Int32)) dX6_find_105 (by decide) rfl ?_
        refine rr_putZ dX6_find_106 pX6_58 (by decide) rfl rfl ⟨rfl, rfl⟩ rfl ?_
        refine rr_letI (fun I2 hI2 => ?_)
        have h := h I2 hI2
        refine rr_aload_n dX6_find_109 rfl 0 rfl rfl ?_
        refine rr_aload_n dX6_find_110 rfl 0 rfl rfl ?_
        refine rr_getR dX6_find_111 fX6_38 (by decide) rfl rfl rfl ?_
        refine rr_aload_n dX6_find_114 rfl 0 rfl rfl ?_
        obtain ⟨b215, hvb215, hb215, h⟩ := h
        refine rr_getV dX6_find_115 fX6_34 (by decide) rfl rfl hvb215 rfl ?_
        refine rr_V [.ref b215] [.ref 39] dX6_find_118 kX5_gather mX6_91 ⟨by decide, by decide⟩ (by decide) rfl rfl rfl (Nat.le_of_ble_eq_true rfl) rfl (h.mono fun vr I3 J2 h => ?_)
        obtain ⟨r2, rfl, h⟩ := h
        show rr pgX zX6_find 121 _ [.int r2, .ref 39] _ _ _
        refine rr_putZ dX6_find_121 pX6_97 (by decide) rfl rfl h.1 rfl ?_
        have h := h.2
        refine rr_letI (fun I4 hI4 => ?_)
        have h := h I4 hI4
        refine rr_aload_n dX6_find_124 rfl 0 rfl rfl ?_
        refine rr_getI dX6_find_125 fX6_97 (by decide) rfl rfl rfl ?_
        refine rr_if_eq (tgt := 153) dX6_find_128 (by decide) rfl ⟨fun hc => ?_, fun hc => ?_⟩
        · have h := h.1 hc
          refine rr_aload_n dX6_find_153 rfl 0 rfl rfl ?_
          refine rr_getI dX6_find_154 fX6_97 (by decide) rfl rfl rfl ?_
          refine rr_if_eq (tgt := 171) dX6_find_157 (by decide) rfl ⟨fun hc => ?_, fun hc => ?_⟩
          · have h := h.1 hc
            refine rr_iconst (v := (0 : Int32)) dX6_find_171 (by decide) rfl ?_
            exact rr_zret dX6_find_172 rfl rfl h
          · have h := h.2 hc
            refine rr_aload_n dX6_find_160 rfl 0 rfl rfl ?_
            refine rr_V [] [] dX6_find_161 kX6_giveByAll mX6_106 ⟨by decide, by decide⟩ (by decide) rfl rfl rfl (Nat.le_of_ble_eq_true rfl) rfl (h.mono fun vr I5 J3 h => ?_)
            obtain ⟨r3, rfl, h⟩ := h
            show rr pgX zX6_find 164 _ [.int r3] _ _ _
            refine rr_if_eq (tgt := 171) dX6_find_164 (by decide) rfl ⟨fun hc => ?_, fun hc => ?_⟩
            · have h := h.1 hc
              refine rr_iconst (v := (0 : Int32)) dX6_find_171 (by decide) rfl ?_
              exact rr_zret dX6_find_172 rfl rfl h
            · have h := h.2 hc
              refine rr_iconst (v := (1 : Int32)) dX6_find_167 (by decide) rfl ?_
              refine rr_goto (tgt := 172) dX6_find_168 (by decide) ?_
              exact rr_zret dX6_find_172 rfl rfl h
        · have h := h.2 hc
          refine rr_aload_n dX6_find_131 rfl 0 rfl rfl ?_
          refine rr_getR dX6_find_132 fX6_38 (by decide) rfl rfl rfl ?_
          refine rr_aload_n dX6_find_135 rfl 0 rfl rfl ?_
          obtain ⟨b236, hvb236, hb236, h⟩ := h
          refine rr_getV dX6_find_136 fX6_34 (by decide) rfl rfl hvb236 rfl ?_
          refine rr_V [.ref b236] [] dX6_find_139 kX5_study mX6_100 ⟨by decide, by decide⟩ (by decide) rfl rfl rfl (Nat.le_of_ble_eq_true rfl) rfl (h.mono fun vr I6 J4 h => ?_)
          obtain ⟨rfl, h⟩ := h
          show rr pgX zX6_find 142 _ [] _ _ _
          refine rr_aload_n dX6_find_142 rfl 0 rfl rfl ?_
          refine rr_getR dX6_find_143 fX6_38 (by decide) rfl rfl rfl ?_
          refine rr_aload_n dX6_find_146 rfl 0 rfl rfl ?_
          obtain ⟨b247, hvb247, hb247, h⟩ := h
          refine rr_getV dX6_find_147 fX6_34 (by decide) rfl rfl hvb247 rfl ?_
          refine rr_V [.ref b247] [] dX6_find_150 kX5_force mX6_103 ⟨by decide, by decide⟩ (by decide) rfl rfl rfl (Nat.le_of_ble_eq_true rfl) rfl (h.mono fun vr I7 J5 h => ?_)
          obtain ⟨rfl, h⟩ := h
          show rr pgX zX6_find 153 _ [] _ _ _
          refine rr_aload_n dX6_find_153 rfl 0 rfl rfl ?_
          refine rr_getI dX6_find_154 fX6_97 (by decide) rfl rfl rfl ?_
          refine rr_if_eq (tgt := 171) dX6_find_157 (by decide) rfl ⟨fun hc => ?_, fun hc => ?_⟩
          · have h := h.1 hc
            refine rr_iconst (v := (0 : Int32)) dX6_find_171 (by decide) rfl ?_
            exact rr_zret dX6_find_172 rfl rfl h
          · have h := h.2 hc
            refine rr_aload_n dX6_find_160 rfl 0 rfl rfl ?_
            refine rr_V [] [] dX6_find_161 kX6_giveByAll mX6_106 ⟨by decide, by decide⟩ (by decide) rfl rfl rfl (Nat.le_of_ble_eq_true rfl) rfl (h.mono fun vr I8 J6 h => ?_)
            obtain ⟨r4, rfl, h⟩ := h
            show rr pgX zX6_find 164 _ [.int r4] _ _ _
            refine rr_if_eq (tgt := 171) dX6_find_164 (by decide) rfl ⟨fun hc => ?_, fun hc => ?_⟩
            · have h := h.1 hc
              refine rr_iconst (v := (0 : Int32)) dX6_find_171 (by decide) rfl ?_
              exact rr_zret dX6_find_172 rfl rfl h
            · have h := h.2 hc
              refine rr_iconst (v := (1 : Int32)) dX6_find_167 (by decide) rfl ?_
              refine rr_goto (tgt := 172) dX6_find_168 (by decide) ?_
              exact rr_zret dX6_find_172 rfl rfl h
    · have h := h.2 hc
      refine rr_iconst (v := (0 : Int32)) dX6_find_95 (by decide) rfl ?_
      exact rr_zret dX6_find_96 rfl rfl h
  · have h := h.2 hc
    refine rr_iload_n dX6_find_55 rfl 1 rfl rfl ?_
    refine rr_iconst (v := (2 : Int32)) dX6_find_56 (by decide) rfl ?_
    refine rr_icmp_lt (tgt := 90) dX6_find_57 (by decide) rfl ⟨fun hc => ?_, fun hc => ?_⟩
    · have h := h.1 hc
      refine rr_iload_n dX6_find_90 rfl 1 rfl rfl ?_
      refine rr_iconst (v := (3 : Int32)) dX6_find_91 (by decide) rfl ?_
      refine rr_icmp_ge (tgt := 97) dX6_find_92 (by decide) rfl ⟨fun hc => ?_, fun hc => ?_⟩
      · have h := h.1 hc
        refine rr_aload_n dX6_find_97 rfl 0 rfl rfl ?_
        refine rr_getI dX6_find_98 fX6_58 (by decide) rfl rfl rfl ?_
        refine rr_if_ne (tgt := 153) dX6_find_101 (by decide) rfl ⟨fun hc => ?_, fun hc => ?_⟩
        · have h := h.1 hc
          refine rr_aload_n dX6_find_153 rfl 0 rfl rfl ?_
          refine rr_getI dX6_find_154 fX6_97 (by decide) rfl rfl rfl ?_
          refine rr_if_eq (tgt := 171) dX6_find_157 (by decide) rfl ⟨fun hc => ?_, fun hc => ?_⟩
          · have h := h.1 hc
            refine rr_iconst (v := (0 : Int32)) dX6_find_171 (by decide) rfl ?_
            exact rr_zret dX6_find_172 rfl rfl h
          · have h := h.2 hc
            refine rr_aload_n dX6_find_160 rfl 0 rfl rfl ?_
            refine rr_V [] [] dX6_find_161 kX6_giveByAll mX6_106 ⟨by decide, by decide⟩ (by decide) rfl rfl rfl (Nat.le_of_ble_eq_true rfl) rfl (h.mono fun vr I9 J7 h => ?_)
            obtain ⟨r5, rfl, h⟩ := h
            show rr pgX zX6_find 164 _ [.int r5] _ _ _
            refine rr_if_eq (tgt := 171) dX6_find_164 (by decide) rfl ⟨fun hc => ?_, fun hc => ?_⟩
            · have h := h.1 hc
              refine rr_iconst (v := (0 : Int32)) dX6_find_171 (by decide) rfl ?_
              exact rr_zret dX6_find_172 rfl rfl h
            · have h := h.2 hc
              refine rr_iconst (v := (1 : Int32)) dX6_find_167 (by decide) rfl ?_
              refine rr_goto (tgt := 172) dX6_find_168 (by decide) ?_
              exact rr_zret dX6_find_172 rfl rfl h
        · have h := h.2 hc
          refine rr_aload_n dX6_find_104 rfl 0 rfl rfl ?_
          refine rr_iconst (v := (1 : Int32)) dX6_find_105 (by decide) rfl ?_
          refine rr_putZ dX6_find_106 pX6_58 (by decide) rfl rfl ⟨rfl, rfl⟩ rfl ?_
          refine rr_letI (fun I10 hI10 => ?_)
          have h := h I10 hI10
          refine rr_aload_n dX6_find_109 rfl 0 rfl rfl ?_
          refine rr_aload_n dX6_find_110 rfl 0 rfl rfl ?_
          refine rr_getR dX6_find_111 fX6_38 (by decide) rfl rfl rfl ?_
          refine rr_aload_n dX6_find_114 rfl 0 rfl rfl ?_
          obtain ⟨b215, hvb215, hb215, h⟩ := h
          refine rr_getV dX6_find_115 fX6_34 (by decide) rfl rfl hvb215 rfl ?_
          refine rr_V [.ref b215] [.ref 39] dX6_find_118 kX5_gather mX6_91 ⟨by decide, by decide⟩ (by decide) rfl rfl rfl (Nat.le_of_ble_eq_true rfl) rfl (h.mono fun vr I11 J8 h => ?_)
          obtain ⟨r6, rfl, h⟩ := h
          show rr pgX zX6_find 121 _ [.int r6, .ref 39] _ _ _
          refine rr_putZ dX6_find_121 pX6_97 (by decide) rfl rfl h.1 rfl ?_
          have h := h.2
          refine rr_letI (fun I12 hI12 => ?_)
          have h := h I12 hI12
          refine rr_aload_n dX6_find_124 rfl 0 rfl rfl ?_
          refine rr_getI dX6_find_125 fX6_97 (by decide) rfl rfl rfl ?_
          refine rr_if_eq (tgt := 153) dX6_find_128 (by decide) rfl ⟨fun hc => ?_, fun hc => ?_⟩
          · have h := h.1 hc
            refine rr_aload_n dX6_find_153 rfl 0 rfl rfl ?_
            refine rr_getI dX6_find_154 fX6_97 (by decide) rfl rfl rfl ?_
            refine rr_if_eq (tgt := 171) dX6_find_157 (by decide) rfl ⟨fun hc => ?_, fun hc => ?_⟩
            · have h := h.1 hc
              refine rr_iconst (v := (0 : Int32)) dX6_find_171 (by decide) rfl ?_
              exact rr_zret dX6_find_172 rfl rfl h
            · have h := h.2 hc
              refine rr_aload_n dX6_find_160 rfl 0 rfl rfl ?_
              refine rr_V [] [] dX6_find_161 kX6_giveByAll mX6_106 ⟨by decide, by decide⟩ (by decide) rfl rfl rfl (Nat.le_of_ble_eq_true rfl) rfl (h.mono fun vr I13 J9 h => ?_)
              obtain ⟨r7, rfl, h⟩ := h
              show rr pgX zX6_find 164 _ [.int r7] _ _ _
              refine rr_if_eq (tgt := 171) dX6_find_164 (by decide) rfl ⟨fun hc => ?_, fun hc => ?_⟩
              · have h := h.1 hc
                refine rr_iconst (v := (0 : Int32)) dX6_find_171 (by decide) rfl ?_
                exact rr_zret dX6_find_172 rfl rfl h
              · have h := h.2 hc
                refine rr_iconst (v := (1 : Int32)) dX6_find_167 (by decide) rfl ?_
                refine rr_goto (tgt := 172) dX6_find_168 (by decide) ?_
                exact rr_zret dX6_find_172 rfl rfl h
          · have h := h.2 hc
            refine rr_aload_n dX6_find_131 rfl 0 rfl rfl ?_
            refine rr_getR dX6_find_132 fX6_38 (by decide) rfl rfl rfl ?_
            refine rr_aload_n dX6_find_135 rfl 0 rfl rfl ?_
            obtain ⟨b236, hvb236, hb236, h⟩ := h
            refine rr_getV dX6_find_136 fX6_34 (by decide) rfl rfl hvb236 rfl ?_
            refine rr_V [.ref b236] [] dX6_find_139 kX5_study mX6_100 ⟨by decide, by decide⟩ (by decide) rfl rfl rfl (Nat.le_of_ble_eq_true rfl) rfl (h.mono fun vr I14 J10 h => ?_)
            obtain ⟨rfl, h⟩ := h
            show rr pgX zX6_find 142 _ [] _ _ _
            refine rr_aload_n dX6_find_142 rfl 0 rfl rfl ?_
            refine rr_getR dX6_find_143 fX6_38 (by decide) rfl rfl rfl ?_
            refine rr_aload_n dX6_find_146 rfl 0 rfl rfl ?_
            obtain ⟨b247, hvb247, hb247, h⟩ := h
            refine rr_getV dX6_find_147 fX6_34 (by decide) rfl rfl hvb247 rfl ?_
            refine rr_V [.ref b247] [] dX6_find_150 kX5_force mX6_103 ⟨by decide, by decide⟩ (by decide) rfl rfl rfl (Nat.le_of_ble_eq_true rfl) rfl (h.mono fun vr I15 J11 h => ?_)
            obtain ⟨rfl, h⟩ := h
            show rr pgX zX6_find 153 _ [] _ _ _
            refine rr_aload_n dX6_find_153 rfl 0 rfl rfl ?_
            refine rr_getI dX6_find_154 fX6_97 (by decide) rfl rfl rfl ?_
            refine rr_if_eq (tgt := 171) dX6_find_157 (by decide) rfl ⟨fun hc => ?_, fun hc => ?_⟩
            · have h := h.1 hc
              refine rr_iconst (v := (0 : Int32)) dX6_find_171 (by decide) rfl ?_
              exact rr_zret dX6_find_172 rfl rfl h
            · have h := h.2 hc
              refine rr_aload_n dX6_find_160 rfl 0 rfl rfl ?_
              refine rr_V [] [] dX6_find_161 kX6_giveByAll mX6_106 ⟨by decide, by decide⟩ (by decide) rfl rfl rfl (Nat.le_of_ble_eq_true rfl) rfl (h.mono fun vr I16 J12 h => ?_)
              obtain ⟨r8, rfl, h⟩ := h
              show rr pgX zX6_find 164 _ [.int r8] _ _ _
              refine rr_if_eq (tgt := 171) dX6_find_164 (by decide) rfl ⟨fun hc => ?_, fun hc => ?_⟩
              · have h := h.1 hc
                refine rr_iconst (v := (0 : Int32)) dX6_find_171 (by decide) rfl ?_
                exact rr_zret dX6_find_172 rfl rfl h
              · have h := h.2 hc
                refine rr_iconst (v := (1 : Int32)) dX6_find_167 (by decide) rfl ?_
                refine rr_goto (tgt := 172) dX6_find_168 (by decide) ?_
                exact rr_zret dX6_find_172 rfl rfl h
      · have h := h.2 hc
        refine rr_iconst (v := (0 : Int32)) dX6_find_95 (by decide) rfl ?_
        exact rr_zret dX6_find_96 rfl rfl h
    · have h := h.2 hc
      refine rr_aload_n dX6_find_60 rfl 0 rfl rfl ?_
      obtain ⟨b161, hvb161, hb161, h⟩ := h
      refine rr_getV dX6_find_61 fX6_34 (by decide) rfl rfl hvb161 rfl ?_
      refine rr_getR dX6_find_64 fX6_78 (bd_lt0 hb161) (bd_0 hb161) rfl rfl ?_
      refine rr_iload_n dX6_find_67 rfl 3 rfl rfl ?_
      refine rr_V [.int v3] [] dX6_find_68 kX0_has mX6_81 ⟨by decide, by decide⟩ (bd_lt hb161 (by decide)) (bd_9 hb161) rfl rfl (Nat.le_of_ble_eq_true rfl) rfl (h.mono fun vr I17 J13 h => ?_)
      obtain ⟨r9, rfl, h⟩ := h
      show rr pgX zX6_find 71 _ [.int r9] _ _ _
      refine rr_if_eq (tgt := 84) dX6_find_71 (by decide) rfl ⟨fun hc => ?_, fun hc => ?_⟩
      · have h := h.1 hc
        refine rr_iinc (k := 3) (v := (v3 + (1 : Int32))) (lv' := [(3, .int (v3 + (1 : Int32))), (0, .ref 39), (1, .int v1), (2, .int v2)]) dX6_find_84 rfl rfl (by decide) rfl rfl ?_
        refine rr_goto (tgt := 50) dX6_find_87 (by decide) ?_
        exact rr.sub [1, 2, 3, 0] rfl h
      · have h := h.2 hc
        refine rr_aload_n dX6_find_74 rfl 0 rfl rfl ?_
        refine rr_iload_n dX6_find_75 rfl 3 rfl rfl ?_
        refine rr_V [.int v3] [] dX6_find_76 kX6_giveByTwo mX6_88 ⟨by decide, by decide⟩ (by decide) rfl rfl rfl (Nat.le_of_ble_eq_true rfl) rfl (h.mono fun vr I18 J14 h => ?_)
        obtain ⟨r10, rfl, h⟩ := h
        show rr pgX zX6_find 79 _ [.int r10] _ _ _
        refine rr_if_eq (tgt := 84) dX6_find_79 (by decide) rfl ⟨fun hc => ?_, fun hc => ?_⟩
        · have h := h.1 hc
          refine rr_iinc (k := 3) (v := (v3 + (1 : Int32))) (lv' := [(3, .int (v3 + (1 : Int32))), (0, .ref 39), (1, .int v1), (2, .int v2)]) dX6_find_84 rfl rfl (by decide) rfl rfl ?_
          refine rr_goto (tgt := 50) dX6_find_87 (by decide) ?_
          exact rr.sub [1, 2, 3, 0] rfl h
        · have h := h.2 hc
          refine rr_iconst (v := (1 : Int32)) dX6_find_82 (by decide) rfl ?_
          exact rr_zret dX6_find_83 rfl rfl h

def l_X6_firstNews_10 (I : tg_I) (J : tg_J) (P : Option Value → tg_I → tg_J → Prop) (b101 : Nat) (v2 : Int32) : Prop := rr pgX zX6_firstNews 10 [(0, .ref 39), (1, .ref (b101 + 11)), (2, .int v2)] [] I J P
theorem e_X6_firstNews {I : tg_I} {J : tg_J} {P : Option Value → tg_I → tg_J → Prop} (h :
  ∃ b101 : Nat, (I 39 9).toNatClampNeg = b101 ∧ isBd b101 ∧
  l_X6_firstNews_10 I J P b101 ((0 : Int32))) : call pgX zX6_firstNews [.ref 39] I J P := by
  refine call_of (by decide +kernel) (fun _ => Nat.le_of_ble_eq_true rfl) ?_
  show rr pgX zX6_firstNews 0 [(0, .ref 39)] [] I J P
  refine rr_aload_n dX6_firstNews_0 rfl 0 rfl rfl ?_
  obtain ⟨b101, hvb101, hb101, h⟩ := h
  refine rr_getV dX6_firstNews_1 fX6_34 (by decide) rfl rfl hvb101 rfl ?_
  refine rr_getR dX6_firstNews_4 fX6_110 (bd_lt0 hb101) (bd_0 hb101) rfl rfl ?_
  refine rr_astore_n (lv' := [(1, .ref (b101 + 11)), (0, .ref 39)]) dX6_firstNews_7 rfl (by decide) rfl rfl ?_
  refine rr_iconst (v := (0 : Int32)) dX6_firstNews_8 (by decide) rfl ?_
  refine rr_istore_n (lv' := [(2, .int (0 : Int32)), (1, .ref (b101 + 11)), (0, .ref 39)]) dX6_firstNews_9 rfl (by decide) rfl rfl ?_
  exact rr.sub [2, 1, 0] rfl h
theorem s_X6_firstNews_10 {I : tg_I} {J : tg_J} {P : Option Value → tg_I → tg_J → Prop} (b101 : Nat) (v2 : Int32) (hb101 : isBd b101) (h :
  ∃ b112 : Nat, (I 39 9).toNatClampNeg = b112 ∧ isBd b112 ∧
  ((I (b112 + 1) 7) ≤ v2 →
   P (some (.int (-1 : Int32))) I J) ∧
  (¬ (I (b112 + 1) 7) ≤ v2 →
   call pgX zX0_has [.ref 40, .int v2] I J (fun vr I1 J1 => ∃ r1 : Int32, vr = some (.int r1) ∧
    ((r1 = 0 →
     l_X6_firstNews_10 I1 J1 P b101 ((v2 + (1 : Int32)))) ∧
    (¬ r1 = 0 →
     ((I1 39 2) = 0 →
       P (some (.int v2)) I1 J1) ∧
      (¬ (I1 39 2) = 0 →
       call pgX zX0_has [.ref (b101 + 11), .int v2] I1 J1 (fun vr I2 J2 => ∃ r2 : Int32, vr = some (.int r2) ∧
        ((¬ r2 = 0 →
         l_X6_firstNews_10 I2 J2 P b101 ((v2 + (1 : Int32)))) ∧
        (r2 = 0 →
         P (some (.int v2)) I2 J2))))))))) : l_X6_firstNews_10 I J P b101 v2 := by
  show rr pgX zX6_firstNews 10 [(0, .ref 39), (1, .ref (b101 + 11)), (2, .int v2)] [] I J P
  refine rr_iload_n dX6_firstNews_10 rfl 2 rfl rfl ?_
  refine rr_aload_n dX6_firstNews_11 rfl 0 rfl rfl ?_
  obtain ⟨b112, hvb112, hb112, h⟩ := h
  refine rr_getV dX6_firstNews_12 fX6_34 (by decide) rfl rfl hvb112 rfl ?_
  refine rr_getR dX6_firstNews_15 fX6_68 (bd_lt0 hb112) (bd_0 hb112) rfl rfl ?_
  refine rr_getI dX6_firstNews_18 fX6_72 (bd_lt hb112 (by decide)) (bd_1 hb112) rfl rfl ?_
  refine rr_icmp_ge (tgt := 58) dX6_firstNews_21 (by decide) rfl ⟨fun hc => ?_, fun hc => ?_⟩
  · have h := h.1 hc
    refine rr_iconst (v := (-1 : Int32)) dX6_firstNews_58 (by decide) rfl ?_
    exact rr_iret dX6_firstNews_59 rfl h
  · have h := h.2 hc
    refine rr_aload_n dX6_firstNews_24 rfl 0 rfl rfl ?_
    refine rr_getR dX6_firstNews_25 fX6_12 (by decide) rfl rfl rfl ?_
    refine rr_iload_n dX6_firstNews_28 rfl 2 rfl rfl ?_
    refine rr_V [.int v2] [] dX6_firstNews_29 kX0_has mX6_81 ⟨by decide, by decide⟩ (by decide) rfl rfl rfl (Nat.le_of_ble_eq_true rfl) rfl (h.mono fun vr I1 J1 h => ?_)
    obtain ⟨r1, rfl, h⟩ := h
    show rr pgX zX6_firstNews 32 _ [.int r1] _ _ _
    refine rr_if_eq (tgt := 52) dX6_firstNews_32 (by decide) rfl ⟨fun hc => ?_, fun hc => ?_⟩
    · have h := h.1 hc
      refine rr_iinc (k := 2) (v := (v2 + (1 : Int32))) (lv' := [(2, .int (v2 + (1 : Int32))), (0, .ref 39), (1, .ref (b101 + 11))]) dX6_firstNews_52 rfl rfl (by decide) rfl rfl ?_
      refine rr_goto (tgt := 10) dX6_firstNews_55 (by decide) ?_
      exact rr.sub [1, 2, 0] rfl h
    · have h := h.2 hc
      refine rr_aload_n dX6_firstNews_35 rfl 0 rfl rfl ?_
      refine rr_getI dX6_firstNews_36 fX6_113 (by decide) rfl rfl rfl ?_
      refine rr_if_eq (tgt := 50) dX6_firstNews_39 (by decide) rfl ⟨fun hc => ?_, fun hc => ?_⟩
      · have h := h.1 hc
        refine rr_iload_n dX6_firstNews_50 rfl 2 rfl rfl ?_
        exact rr_iret dX6_firstNews_51 rfl h
      · have h := h.2 hc
        refine rr_aload_n dX6_firstNews_42 rfl 1 rfl rfl ?_
        refine rr_iload_n dX6_firstNews_43 rfl 2 rfl rfl ?_
        refine rr_V [.int v2] [] dX6_firstNews_44 kX0_has mX6_81 ⟨by decide, by decide⟩ (bd_lt hb101 (by decide)) (bd_11 hb101) rfl rfl (Nat.le_of_ble_eq_true rfl) rfl (h.mono fun vr I2 J2 h => ?_)
        obtain ⟨r2, rfl, h⟩ := h
        show rr pgX zX6_firstNews 47 _ [.int r2] _ _ _
        refine rr_if_ne (tgt := 52) dX6_firstNews_47 (by decide) rfl ⟨fun hc => ?_, fun hc => ?_⟩
        · have h := h.1 hc
          refine rr_iinc (k := 2) (v := (v2 + (1 : Int32))) (lv' := [(2, .int (v2 + (1 : Int32))), (0, .ref 39), (1, .ref (b101 + 11))]) dX6_firstNews_52 rfl rfl (by decide) rfl rfl ?_
          refine rr_goto (tgt := 10) dX6_firstNews_55 (by decide) ?_
          exact rr.sub [1, 2, 0] rfl h
        · have h := h.2 hc
          refine rr_iload_n dX6_firstNews_50 rfl 2 rfl rfl ?_
          exact rr_iret dX6_firstNews_51 rfl h

def l_X6_accept_2 (I : tg_I) (J : tg_J) (P : Option Value → tg_I → tg_J → Prop) (v1 : Int32) : Prop := rr pgX zX6_accept 2 [(0, .ref 39), (1, .int v1)] [] I J P
theorem e_X6_accept {I : tg_I} {J : tg_J} {P : Option Value → tg_I → tg_J → Prop} (h :
  l_X6_accept_2 I J P ((0 : Int32))) : call pgX zX6_accept [.ref 39] I J P := by
  refine call_of (by decide +kernel) (fun _ => Nat.le_of_ble_eq_true rfl) ?_
  show rr pgX zX6_accept 0 [(0, .ref 39)] [] I J P
  refine rr_iconst (v := (0 : Int32)) dX6_accept_0 (by decide) rfl ?_
  refine rr_istore_n (lv' := [(1, .int (0 : Int32)), (0, .ref 39)]) dX6_accept_1 rfl (by decide) rfl rfl ?_
  exact rr.sub [1, 0] rfl h
theorem s_X6_accept_2 {I : tg_I} {J : tg_J} {P : Option Value → tg_I → tg_J → Prop} (v1 : Int32) (h :
  ∃ b104 : Nat, (I 39 9).toNatClampNeg = b104 ∧ isBd b104 ∧
  ((I (b104 + 1) 7) ≤ v1 →
   call pgX zX0_leave [.ref 44, .ref 40] I J (fun vr I1 J1 => vr = none ∧
    (((I1 39 2) = 0 →
     (¬ (I1 39 10) = 0 →
       ∀ I2, I2 = u2 I1 39 10 (1 : Int32) →
        P none I2 J1) ∧
      ((I1 39 10) = 0 →
       (¬ (I1 39 3) = (3 : Int32) →
         ∀ I3, I3 = u2 I1 39 10 (0 : Int32) →
          P none I3 J1) ∧
        ((I1 39 3) = (3 : Int32) →
         ∀ I4, I4 = u2 I1 39 10 (1 : Int32) →
          P none I4 J1))) ∧
    (¬ (I1 39 2) = 0 →
     call pgX zX0_join [.ref 45, .ref 40] I1 J1 (fun vr I5 J2 => vr = none ∧
      ((¬ (I5 39 10) = 0 →
       ∀ I6, I6 = u2 I5 39 10 (1 : Int32) →
        P none I6 J2) ∧
      ((I5 39 10) = 0 →
       (¬ (I5 39 3) = (3 : Int32) →
         ∀ I7, I7 = u2 I5 39 10 (0 : Int32) →
          P none I7 J2) ∧
        ((I5 39 3) = (3 : Int32) →
         ∀ I8, I8 = u2 I5 39 10 (1 : Int32) →
          P none I8 J2)))))))) ∧
  (¬ (I (b104 + 1) 7) ≤ v1 →
   call pgX zX0_has [.ref 40, .int v1] I J (fun vr I9 J3 => ∃ r1 : Int32, vr = some (.int r1) ∧
    ((r1 = 0 →
     l_X6_accept_2 I9 J3 P ((v1 + (1 : Int32)))) ∧
    (¬ r1 = 0 →
     vp_in v1 100 ∧ ∀ J4, J4 = u2 J3 42 (Int32.toNatClampNeg v1) (J3 41 0) →
      vp_in v1 100 ∧ ∀ J5, J5 = u2 J4 43 (Int32.toNatClampNeg v1) (J4 41 1) →
      l_X6_accept_2 I9 J5 P ((v1 + (1 : Int32)))))))) : l_X6_accept_2 I J P v1 := by
  show rr pgX zX6_accept 2 [(0, .ref 39), (1, .int v1)] [] I J P
  refine rr_iload_n dX6_accept_2 rfl 1 rfl rfl ?_
  refine rr_aload_n dX6_accept_3 rfl 0 rfl rfl ?_
  obtain ⟨b104, hvb104, hb104, h⟩ := h
  refine rr_getV dX6_accept_4 fX6_34 (by decide) rfl rfl hvb104 rfl ?_
  refine rr_getR dX6_accept_7 fX6_68 (bd_lt0 hb104) (bd_0 hb104) rfl rfl ?_
  refine rr_getI dX6_accept_10 fX6_72 (bd_lt hb104 (by decide)) (bd_1 hb104) rfl rfl ?_
  refine rr_icmp_ge (tgt := 59) dX6_accept_13 (by decide) rfl ⟨fun hc => ?_, fun hc => ?_⟩
  · have h := h.1 hc
    refine rr_aload_n dX6_accept_59 rfl 0 rfl rfl ?_
    refine rr_getR dX6_accept_60 fX6_28 (by decide) rfl rfl rfl ?_
    refine rr_aload_n dX6_accept_63 rfl 0 rfl rfl ?_
    refine rr_getR dX6_accept_64 fX6_12 (by decide) rfl rfl rfl ?_
    refine rr_V [.ref 40] [] dX6_accept_67 kX0_leave mX6_123 ⟨by decide, by decide⟩ (by decide) rfl rfl rfl (Nat.le_of_ble_eq_true rfl) rfl (h.mono fun vr I1 J1 h => ?_)
    obtain ⟨rfl, h⟩ := h
    show rr pgX zX6_accept 70 _ [] _ _ _
    refine rr_aload_n dX6_accept_70 rfl 0 rfl rfl ?_
    refine rr_getI dX6_accept_71 fX6_113 (by decide) rfl rfl rfl ?_
    refine rr_if_eq (tgt := 88) dX6_accept_74 (by decide) rfl ⟨fun hc => ?_, fun hc => ?_⟩
    · have h := h.1 hc
      refine rr_aload_n dX6_accept_88 rfl 0 rfl rfl ?_
      refine rr_aload_n dX6_accept_89 rfl 0 rfl rfl ?_
      refine rr_getI dX6_accept_90 fX6_54 (by decide) rfl rfl rfl ?_
      refine rr_if_ne (tgt := 104) dX6_accept_93 (by decide) rfl ⟨fun hc => ?_, fun hc => ?_⟩
      · have h := h.1 hc
        refine rr_iconst (v := (1 : Int32)) dX6_accept_104 (by decide) rfl ?_
        refine rr_goto (tgt := 109) dX6_accept_105 (by decide) ?_
        refine rr_putZ dX6_accept_109 pX6_54 (by decide) rfl rfl ⟨rfl, rfl⟩ rfl ?_
        refine rr_letI (fun I2 hI2 => ?_)
        have h := h I2 hI2
        exact rr_vret dX6_accept_112 rfl h
      · have h := h.2 hc
        refine rr_aload_n dX6_accept_96 rfl 0 rfl rfl ?_
        refine rr_getI dX6_accept_97 fX6_129 (by decide) rfl rfl rfl ?_
        refine rr_iconst (v := (3 : Int32)) dX6_accept_100 (by decide) rfl ?_
        refine rr_icmp_ne (tgt := 108) dX6_accept_101 (by decide) rfl ⟨fun hc => ?_, fun hc => ?_⟩
        · have h := h.1 hc
          refine rr_iconst (v := (0 : Int32)) dX6_accept_108 (by decide) rfl ?_
          refine rr_putZ dX6_accept_109 pX6_54 (by decide) rfl rfl ⟨rfl, rfl⟩ rfl ?_
          refine rr_letI (fun I3 hI3 => ?_)
          have h := h I3 hI3
          exact rr_vret dX6_accept_112 rfl h
        · have h := h.2 hc
          refine rr_iconst (v := (1 : Int32)) dX6_accept_104 (by decide) rfl ?_
          refine rr_goto (tgt := 109) dX6_accept_105 (by decide) ?_
          refine rr_putZ dX6_accept_109 pX6_54 (by decide) rfl rfl ⟨rfl, rfl⟩ rfl ?_
          refine rr_letI (fun I4 hI4 => ?_)
          have h := h I4 hI4
          exact rr_vret dX6_accept_112 rfl h
    · have h := h.2 hc
      refine rr_aload_n dX6_accept_77 rfl 0 rfl rfl ?_
      refine rr_getR dX6_accept_78 fX6_31 (by decide) rfl rfl rfl ?_
      refine rr_aload_n dX6_accept_81 rfl 0 rfl rfl ?_
      refine rr_getR dX6_accept_82 fX6_12 (by decide) rfl rfl rfl ?_
      refine rr_V [.ref 40] [] dX6_accept_85 kX0_join mX6_126 ⟨by decide, by decide⟩ (by decide) rfl rfl rfl (Nat.le_of_ble_eq_true rfl) rfl (h.mono fun vr I5 J2 h => ?_)
      obtain ⟨rfl, h⟩ := h
      show rr pgX zX6_accept 88 _ [] _ _ _
      refine rr_aload_n dX6_accept_88 rfl 0 rfl rfl ?_
      refine rr_aload_n dX6_accept_89 rfl 0 rfl rfl ?_
      refine rr_getI dX6_accept_90 fX6_54 (by decide) rfl rfl rfl ?_
      refine rr_if_ne (tgt := 104) dX6_accept_93 (by decide) rfl ⟨fun hc => ?_, fun hc => ?_⟩
      · have h := h.1 hc
        refine rr_iconst (v := (1 : Int32)) dX6_accept_104 (by decide) rfl ?_
        refine rr_goto (tgt := 109) dX6_accept_105 (by decide) ?_
        refine rr_putZ dX6_accept_109 pX6_54 (by decide) rfl rfl ⟨rfl, rfl⟩ rfl ?_
        refine rr_letI (fun I6 hI6 => ?_)
        have h := h I6 hI6
        exact rr_vret dX6_accept_112 rfl h
      · have h := h.2 hc
        refine rr_aload_n dX6_accept_96 rfl 0 rfl rfl ?_
        refine rr_getI dX6_accept_97 fX6_129 (by decide) rfl rfl rfl ?_
        refine rr_iconst (v := (3 : Int32)) dX6_accept_100 (by decide) rfl ?_
        refine rr_icmp_ne (tgt := 108) dX6_accept_101 (by decide) rfl ⟨fun hc => ?_, fun hc => ?_⟩
        · have h := h.1 hc
          refine rr_iconst (v := (0 : Int32)) dX6_accept_108 (by decide) rfl ?_
          refine rr_putZ dX6_accept_109 pX6_54 (by decide) rfl rfl ⟨rfl, rfl⟩ rfl ?_
          refine rr_letI (fun I7 hI7 => ?_)
          have h := h I7 hI7
          exact rr_vret dX6_accept_112 rfl h
        · have h := h.2 hc
          refine rr_iconst (v := (1 : Int32)) dX6_accept_104 (by decide) rfl ?_
          refine rr_goto (tgt := 109) dX6_accept_105 (by decide) ?_
          refine rr_putZ dX6_accept_109 pX6_54 (by decide) rfl rfl ⟨rfl, rfl⟩ rfl ?_
          refine rr_letI (fun I8 hI8 => ?_)
          have h := h I8 hI8
          exact rr_vret dX6_accept_112 rfl h
  · have h := h.2 hc
    refine rr_aload_n dX6_accept_16 rfl 0 rfl rfl ?_
    refine rr_getR dX6_accept_17 fX6_12 (by decide) rfl rfl rfl ?_
    refine rr_iload_n dX6_accept_20 rfl 1 rfl rfl ?_
    refine rr_V [.int v1] [] dX6_accept_21 kX0_has mX6_81 ⟨by decide, by decide⟩ (by decide) rfl rfl rfl (Nat.le_of_ble_eq_true rfl) rfl (h.mono fun vr I9 J3 h => ?_)
    obtain ⟨r1, rfl, h⟩ := h
    show rr pgX zX6_accept 24 _ [.int r1] _ _ _
    refine rr_if_eq (tgt := 53) dX6_accept_24 (by decide) rfl ⟨fun hc => ?_, fun hc => ?_⟩
    · have h := h.1 hc
      refine rr_iinc (k := 1) (v := (v1 + (1 : Int32))) (lv' := [(1, .int (v1 + (1 : Int32))), (0, .ref 39)]) dX6_accept_53 rfl rfl (by decide) rfl rfl ?_
      refine rr_goto (tgt := 2) dX6_accept_56 (by decide) ?_
      exact rr.sub [1, 0] rfl h
    · have h := h.2 hc
      refine rr_aload_n dX6_accept_27 rfl 0 rfl rfl ?_
      refine rr_getR dX6_accept_28 fX6_21 (by decide) rfl rfl rfl ?_
      refine rr_iload_n dX6_accept_31 rfl 1 rfl rfl ?_
      refine rr_aload_n dX6_accept_32 rfl 0 rfl rfl ?_
      refine rr_getR dX6_accept_33 fX6_18 (by decide) rfl rfl rfl ?_
      refine rr_getJ dX6_accept_36 fX6_116 (by decide) rfl rfl rfl ?_
      refine rr_last dX6_accept_39 (by decide) rfl rfl ⟨h.1, ?_⟩
      refine rr_letJ (fun J4 hJ4 => ?_)
      have h := h.2 J4 hJ4
      refine rr_aload_n dX6_accept_40 rfl 0 rfl rfl ?_
      refine rr_getR dX6_accept_41 fX6_25 (by decide) rfl rfl rfl ?_
      refine rr_iload_n dX6_accept_44 rfl 1 rfl rfl ?_
      refine rr_aload_n dX6_accept_45 rfl 0 rfl rfl ?_
      refine rr_getR dX6_accept_46 fX6_18 (by decide) rfl rfl rfl ?_
      refine rr_getJ dX6_accept_49 fX6_120 (by decide) rfl rfl rfl ?_
      refine rr_last dX6_accept_52 (by decide) rfl rfl ⟨h.1, ?_⟩
      refine rr_letJ (fun J5 hJ5 => ?_)
      have h := h.2 J5 hJ5
      refine rr_iinc (k := 1) (v := (v1 + (1 : Int32))) (lv' := [(1, .int (v1 + (1 : Int32))), (0, .ref 39)]) dX6_accept_53 rfl rfl (by decide) rfl rfl ?_
      refine rr_goto (tgt := 2) dX6_accept_56 (by decide) ?_
      exact rr.sub [1, 0] rfl h

theorem e_X6_giveByOne {I : tg_I} {J : tg_J} {P : Option Value → tg_I → tg_J → Prop} (v1 : Int32) (h :
  ∃ b101 : Nat, (I 39 9).toNatClampNeg = b101 ∧ isBd b101 ∧
  vp_in v1 100 ∧
  (∀ y1, y1 = ((J (b101 + 2) (Int32.toNatClampNeg v1)) &&& (J 44 0)) →
  ∃ b122 : Nat, (I 39 9).toNatClampNeg = b122 ∧ isBd b122 ∧
  vp_in v1 100 ∧
  (∀ y2, y2 = ((J (b122 + 3) (Int32.toNatClampNeg v1)) &&& (J 44 1)) →
  ((lg_cmp (y1 ||| y2) (0 : Int64)) = 0 →
   P (some (.int (0 : Int32))) I J) ∧
  (¬ (lg_cmp (y1 ||| y2) (0 : Int64)) = 0 →
   ∃ b157 : Nat, (I 39 9).toNatClampNeg = b157 ∧ isBd b157 ∧
    call pgX zX1_due [.ref b157, .int v1, .ref 45] I J (fun vr I1 J1 => ∃ r1 : Int32, vr = some (.int r1) ∧
    (call pgX zX6_give [.ref 39, .long y1, .long y2, .int r1] I1 J1 (fun vr I2 J2 => ∃ r2 : Int32, vr = some (.int r2) ∧
    ((¬ r2 = 0 →
     ∀ I3, I3 = u2 I2 39 3 (1 : Int32) →
      call pgX zX0_clear [.ref 41] I3 J2 (fun vr I4 J3 => vr = none ∧
      (call pgX zX6_blame [.ref 39, .int v1] I4 J3 (fun vr I5 J4 => vr = none ∧
      (P (some (.int (1 : Int32))) I5 J4))))) ∧
    (r2 = 0 →
     P (some (.int (0 : Int32))) I2 J2))))))))) : call pgX zX6_giveByOne [.ref 39, .int v1] I J P := by
  refine call_of (by decide +kernel) (fun _ => Nat.le_of_ble_eq_true rfl) ?_
  show rr pgX zX6_giveByOne 0 [(0, .ref 39), (1, .int v1)] [] I J P
  refine rr_aload_n dX6_giveByOne_0 rfl 0 rfl rfl ?_
  obtain ⟨b101, hvb101, hb101, h⟩ := h
  refine rr_getV dX6_giveByOne_1 fX6_34 (by decide) rfl rfl hvb101 rfl ?_
  refine rr_getR dX6_giveByOne_4 fX6_68 (bd_lt0 hb101) (bd_0 hb101) rfl rfl ?_
  refine rr_getR dX6_giveByOne_7 fX6_132 (bd_lt hb101 (by decide)) (bd_1 hb101) rfl rfl ?_
  refine rr_iload_n dX6_giveByOne_10 rfl 1 rfl rfl ?_
  refine rr_lald dX6_giveByOne_11 (bd_lt hb101 (by decide)) (bd_2 hb101) rfl ⟨h.1, ?_⟩
  have h := h.2
  refine rr_aload_n dX6_giveByOne_12 rfl 0 rfl rfl ?_
  refine rr_getR dX6_giveByOne_13 fX6_28 (by decide) rfl rfl rfl ?_
  refine rr_getJ dX6_giveByOne_16 fX6_116 (by decide) rfl rfl rfl ?_
  refine rr_land dX6_giveByOne_19 rfl ?_
  refine rr_letTl (fun y1 hy1 => ?_)
  have h := h y1 hy1
  refine rr_lstore_n (lv' := [(2, .long y1), (0, .ref 39), (1, .int v1)]) dX6_giveByOne_20 rfl (by decide) rfl rfl ?_
  refine rr_aload_n dX6_giveByOne_21 rfl 1 rfl rfl ?_
  obtain ⟨b122, hvb122, hb122, h⟩ := h
  refine rr_getV dX6_giveByOne_22 fX6_34 (by decide) rfl rfl hvb122 rfl ?_
  refine rr_getR dX6_giveByOne_25 fX6_68 (bd_lt0 hb122) (bd_0 hb122) rfl rfl ?_
  refine rr_getR dX6_giveByOne_28 fX6_135 (bd_lt hb122 (by decide)) (bd_1 hb122) rfl rfl ?_
  refine rr_iload_n dX6_giveByOne_31 rfl 2 rfl rfl ?_
  refine rr_lald dX6_giveByOne_32 (bd_lt hb122 (by decide)) (bd_3 hb122) rfl ⟨h.1, ?_⟩
  have h := h.2
  refine rr_aload_n dX6_giveByOne_33 rfl 1 rfl rfl ?_
  refine rr_getR dX6_giveByOne_34 fX6_28 (by decide) rfl rfl rfl ?_
  refine rr_getJ dX6_giveByOne_37 fX6_120 (by decide) rfl rfl rfl ?_
  refine rr_land dX6_giveByOne_40 rfl ?_
  refine rr_letTl (fun y2 hy2 => ?_)
  have h := h y2 hy2
  refine rr_lstore (lv' := [(4, .long y2), (2, .long y1), (0, .ref 39), (1, .int v1)]) dX6_giveByOne_41 (by decide) rfl rfl ?_
  refine rr_lload_n dX6_giveByOne_43 rfl 1 rfl rfl ?_
  refine rr_lload dX6_giveByOne_44 0 rfl rfl ?_
  refine rr_lor dX6_giveByOne_46 rfl ?_
  refine rr_lconst (v := (0 : Int64)) dX6_giveByOne_47 (by decide) rfl ?_
  refine rr_lcmp dX6_giveByOne_48 rfl ?_
  refine rr_if_eq (tgt := 74) dX6_giveByOne_49 (by decide) rfl ⟨fun hc => ?_, fun hc => ?_⟩
  · have h := h.1 hc
    refine rr_iconst (v := (0 : Int32)) dX6_giveByOne_74 (by decide) rfl ?_
    exact rr_zret dX6_giveByOne_75 rfl rfl h
  · have h := h.2 hc
    refine rr_aload_n dX6_giveByOne_52 rfl 2 rfl rfl ?_
    refine rr_lload_n dX6_giveByOne_53 rfl 1 rfl rfl ?_
    refine rr_lload dX6_giveByOne_54 0 rfl rfl ?_
    refine rr_aload_n dX6_giveByOne_56 rfl 2 rfl rfl ?_
    obtain ⟨b157, hvb157, hb157, h⟩ := h
    refine rr_getV dX6_giveByOne_57 fX6_34 (by decide) rfl rfl hvb157 rfl ?_
    refine rr_iload_n dX6_giveByOne_60 rfl 3 rfl rfl ?_
    refine rr_aload_n dX6_giveByOne_61 rfl 2 rfl rfl ?_
    refine rr_getR dX6_giveByOne_62 fX6_31 (by decide) rfl rfl rfl ?_
    refine rr_V [.int v1, .ref 45] [.long y2, .long y1, .ref 39] dX6_giveByOne_65 kX1_due mX6_138 ⟨by decide, by decide⟩ (bd_lt0 hb157) (bd_0 hb157) rfl rfl (Nat.le_of_ble_eq_true rfl) rfl (h.mono fun vr I1 J1 h => ?_)
    obtain ⟨r1, rfl, h⟩ := h
    show rr pgX zX6_giveByOne 68 _ [.int r1, .long y2, .long y1, .ref 39] _ _ _
    refine rr_V [.long y1, .long y2, .int r1] [] dX6_giveByOne_68 kX6_give mX6_142 ⟨by decide, by decide⟩ (by decide) rfl rfl rfl (Nat.le_of_ble_eq_true rfl) rfl (h.mono fun vr I2 J2 h => ?_)
    obtain ⟨r2, rfl, h⟩ := h
    show rr pgX zX6_giveByOne 71 _ [.int r2] _ _ _
    refine rr_if_ne (tgt := 76) dX6_giveByOne_71 (by decide) rfl ⟨fun hc => ?_, fun hc => ?_⟩
    · have h := h.1 hc
      refine rr_aload_n dX6_giveByOne_76 rfl 2 rfl rfl ?_
      refine rr_iconst (v := (1 : Int32)) dX6_giveByOne_77 (by decide) rfl ?_
      refine rr_putI dX6_giveByOne_78 pX6_129 (by decide) rfl rfl rfl ?_
      refine rr_letI (fun I3 hI3 => ?_)
      have h := h I3 hI3
      refine rr_aload_n dX6_giveByOne_81 rfl 2 rfl rfl ?_
      refine rr_getR dX6_giveByOne_82 fX6_18 (by decide) rfl rfl rfl ?_
      refine rr_V [] [] dX6_giveByOne_85 kX0_clear mX6_146 ⟨by decide, by decide⟩ (by decide) rfl rfl rfl (Nat.le_of_ble_eq_true rfl) rfl (h.mono fun vr I4 J3 h => ?_)
      obtain ⟨rfl, h⟩ := h
      show rr pgX zX6_giveByOne 88 _ [] _ _ _
      refine rr_aload_n dX6_giveByOne_88 rfl 2 rfl rfl ?_
      refine rr_iload_n dX6_giveByOne_89 rfl 3 rfl rfl ?_
      refine rr_V [.int v1] [] dX6_giveByOne_90 kX6_blame mX6_149 ⟨by decide, by decide⟩ (by decide) rfl rfl rfl (Nat.le_of_ble_eq_true rfl) rfl (h.mono fun vr I5 J4 h => ?_)
      obtain ⟨rfl, h⟩ := h
      show rr pgX zX6_giveByOne 93 _ [] _ _ _
      refine rr_iconst (v := (1 : Int32)) dX6_giveByOne_93 (by decide) rfl ?_
      exact rr_zret dX6_giveByOne_94 rfl rfl h
    · have h := h.2 hc
      refine rr_iconst (v := (0 : Int32)) dX6_giveByOne_74 (by decide) rfl ?_
      exact rr_zret dX6_giveByOne_75 rfl rfl h

def l_X6_giveByTwo_76 (I : tg_I) (J : tg_J) (P : Option Value → tg_I → tg_J → Prop) (b101 : Nat) (v1 : Int32) (v3 : Int64) (v5 : Int64) (v7 : Int32) (v8 : Int32) : Prop := rr pgX zX6_giveByTwo 76 [(0, .ref 39), (1, .int v1), (2, .ref (b101 + 1)), (3, .long v3), (5, .long v5), (7, .int v7), (8, .int v8)] [] I J P
theorem e_X6_giveByTwo {I : tg_I} {J : tg_J} {P : Option Value → tg_I → tg_J → Prop} (v1 : Int32) (h :
  ∃ b101 : Nat, (I 39 9).toNatClampNeg = b101 ∧ isBd b101 ∧
  vp_in v1 100 ∧
  (∀ y1, y1 = ((J (b101 + 2) (Int32.toNatClampNeg v1)) &&& (J 44 0)) →
  vp_in v1 100 ∧
  (∀ y2, y2 = ((J (b101 + 3) (Int32.toNatClampNeg v1)) &&& (J 44 1)) →
  ((lg_cmp y1 (0 : Int64)) = 0 →
   call pgX zX0_lowest [.long y2] I J (fun vr I1 J1 => ∃ r1 : Int32, vr = some (.int r1) ∧
    (call pgX zX2_holds [.ref (b101 + 1), .int ((64 : Int32) + r1)] I1 J1 (fun vr I2 J2 => ∃ r2 : Int32, vr = some (.int r2) ∧
    ((¬ r2 = 0 →
     l_X6_giveByTwo_76 I2 J2 P b101 v1 y1 y2 (((64 : Int32) + r1)) ((0 : Int32))) ∧
    (r2 = 0 →
     P (some (.int (0 : Int32))) I2 J2)))))) ∧
  (¬ (lg_cmp y1 (0 : Int64)) = 0 →
   call pgX zX0_lowest [.long y1] I J (fun vr I3 J3 => ∃ r3 : Int32, vr = some (.int r3) ∧
    (call pgX zX2_holds [.ref (b101 + 1), .int r3] I3 J3 (fun vr I4 J4 => ∃ r4 : Int32, vr = some (.int r4) ∧
    ((¬ r4 = 0 →
     l_X6_giveByTwo_76 I4 J4 P b101 v1 y1 y2 r3 ((0 : Int32))) ∧
    (r4 = 0 →
     P (some (.int (0 : Int32))) I4 J4))))))))) : call pgX zX6_giveByTwo [.ref 39, .int v1] I J P := by
  refine call_of (by decide +kernel) (fun _ => Nat.le_of_ble_eq_true rfl) ?_
  show rr pgX zX6_giveByTwo 0 [(0, .ref 39), (1, .int v1)] [] I J P
  refine rr_aload_n dX6_giveByTwo_0 rfl 0 rfl rfl ?_
  obtain ⟨b101, hvb101, hb101, h⟩ := h
  refine rr_getV dX6_giveByTwo_1 fX6_34 (by decide) rfl rfl hvb101 rfl ?_
  refine rr_getR dX6_giveByTwo_4 fX6_68 (bd_lt0 hb101) (bd_0 hb101) rfl rfl ?_
  refine rr_astore_n (lv' := [(2, .ref (b101 + 1)), (0, .ref 39), (1, .int v1)]) dX6_giveByTwo_7 rfl (by decide) rfl rfl ?_
  refine rr_aload_n dX6_giveByTwo_8 rfl 0 rfl rfl ?_
  refine rr_getR dX6_giveByTwo_9 fX6_132 (bd_lt hb101 (by decide)) (bd_1 hb101) rfl rfl ?_
  refine rr_iload_n dX6_giveByTwo_12 rfl 2 rfl rfl ?_
  refine rr_lald dX6_giveByTwo_13 (bd_lt hb101 (by decide)) (bd_2 hb101) rfl ⟨h.1, ?_⟩
  have h := h.2
  refine rr_aload_n dX6_giveByTwo_14 rfl 1 rfl rfl ?_
  refine rr_getR dX6_giveByTwo_15 fX6_28 (by decide) rfl rfl rfl ?_
  refine rr_getJ dX6_giveByTwo_18 fX6_116 (by decide) rfl rfl rfl ?_
  refine rr_land dX6_giveByTwo_21 rfl ?_
  refine rr_letTl (fun y1 hy1 => ?_)
  have h := h y1 hy1
  refine rr_lstore_n (lv' := [(3, .long y1), (2, .ref (b101 + 1)), (0, .ref 39), (1, .int v1)]) dX6_giveByTwo_22 rfl (by decide) rfl rfl ?_
  refine rr_aload_n dX6_giveByTwo_23 rfl 1 rfl rfl ?_
  refine rr_getR dX6_giveByTwo_24 fX6_135 (bd_lt hb101 (by decide)) (bd_1 hb101) rfl rfl ?_
  refine rr_iload_n dX6_giveByTwo_27 rfl 3 rfl rfl ?_
  refine rr_lald dX6_giveByTwo_28 (bd_lt hb101 (by decide)) (bd_3 hb101) rfl ⟨h.1, ?_⟩
  have h := h.2
  refine rr_aload_n dX6_giveByTwo_29 rfl 2 rfl rfl ?_
  refine rr_getR dX6_giveByTwo_30 fX6_28 (by decide) rfl rfl rfl ?_
  refine rr_getJ dX6_giveByTwo_33 fX6_120 (by decide) rfl rfl rfl ?_
  refine rr_land dX6_giveByTwo_36 rfl ?_
  refine rr_letTl (fun y2 hy2 => ?_)
  have h := h y2 hy2
  refine rr_lstore (lv' := [(5, .long y2), (3, .long y1), (2, .ref (b101 + 1)), (0, .ref 39), (1, .int v1)]) dX6_giveByTwo_37 (by decide) rfl rfl ?_
  refine rr_lload_n dX6_giveByTwo_39 rfl 1 rfl rfl ?_
  refine rr_lconst (v := (0 : Int64)) dX6_giveByTwo_40 (by decide) rfl ?_
  refine rr_lcmp dX6_giveByTwo_41 rfl ?_
  refine rr_if_eq (tgt := 52) dX6_giveByTwo_42 (by decide) rfl ⟨fun hc => ?_, fun hc => ?_⟩
  · have h := h.1 hc
    refine rr_bipush (v := (64 : Int32)) dX6_giveByTwo_52 (by decide) rfl ?_
    refine rr_lload dX6_giveByTwo_54 0 rfl rfl ?_
    refine rr_S [.long y2] [.int (64 : Int32)] dX6_giveByTwo_56 kX0_lowest mX6_153 ⟨by decide, by decide⟩ rfl rfl (Nat.le_of_ble_eq_true rfl) rfl (h.mono fun vr I1 J1 h => ?_)
    obtain ⟨r1, rfl, h⟩ := h
    show rr pgX zX6_giveByTwo 59 _ [.int r1, .int (64 : Int32)] _ _ _
    refine rr_iadd dX6_giveByTwo_59 rfl ?_
    refine rr_istore (lv' := [(7, .int ((64 : Int32) + r1)), (5, .long y2), (3, .long y1), (2, .ref (b101 + 1)), (0, .ref 39), (1, .int v1)]) dX6_giveByTwo_60 (by decide) rfl rfl ?_
    refine rr_aload_n dX6_giveByTwo_62 rfl 3 rfl rfl ?_
    refine rr_iload dX6_giveByTwo_63 0 rfl rfl ?_
    refine rr_V [.int ((64 : Int32) + r1)] [] dX6_giveByTwo_65 kX2_holds mX6_157 ⟨by decide, by decide⟩ (bd_lt hb101 (by decide)) (bd_1 hb101) rfl rfl (Nat.le_of_ble_eq_true rfl) rfl (h.mono fun vr I2 J2 h => ?_)
    obtain ⟨r2, rfl, h⟩ := h
    show rr pgX zX6_giveByTwo 68 _ [.int r2] _ _ _
    refine rr_if_ne (tgt := 73) dX6_giveByTwo_68 (by decide) rfl ⟨fun hc => ?_, fun hc => ?_⟩
    · have h := h.1 hc
      refine rr_iconst (v := (0 : Int32)) dX6_giveByTwo_73 (by decide) rfl ?_
      refine rr_istore (lv' := [(8, .int (0 : Int32)), (7, .int ((64 : Int32) + r1)), (5, .long y2), (3, .long y1), (2, .ref (b101 + 1)), (0, .ref 39), (1, .int v1)]) dX6_giveByTwo_74 (by decide) rfl rfl ?_
      exact rr.sub [5, 6, 4, 3, 2, 1, 0] rfl h
    · have h := h.2 hc
      refine rr_iconst (v := (0 : Int32)) dX6_giveByTwo_71 (by decide) rfl ?_
      exact rr_zret dX6_giveByTwo_72 rfl rfl h
  · have h := h.2 hc
    refine rr_lload_n dX6_giveByTwo_45 rfl 1 rfl rfl ?_
    refine rr_S [.long y1] [] dX6_giveByTwo_46 kX0_lowest mX6_153 ⟨by decide, by decide⟩ rfl rfl (Nat.le_of_ble_eq_true rfl) rfl (h.mono fun vr I3 J3 h => ?_)
    obtain ⟨r3, rfl, h⟩ := h
    show rr pgX zX6_giveByTwo 49 _ [.int r3] _ _ _
    refine rr_goto (tgt := 60) dX6_giveByTwo_49 (by decide) ?_
    refine rr_istore (lv' := [(7, .int r3), (5, .long y2), (3, .long y1), (2, .ref (b101 + 1)), (0, .ref 39), (1, .int v1)]) dX6_giveByTwo_60 (by decide) rfl rfl ?_
    refine rr_aload_n dX6_giveByTwo_62 rfl 3 rfl rfl ?_
    refine rr_iload dX6_giveByTwo_63 0 rfl rfl ?_
    refine rr_V [.int r3] [] dX6_giveByTwo_65 kX2_holds mX6_157 ⟨by decide, by decide⟩ (bd_lt hb101 (by decide)) (bd_1 hb101) rfl rfl (Nat.le_of_ble_eq_true rfl) rfl (h.mono fun vr I4 J4 h => ?_)
    obtain ⟨r4, rfl, h⟩ := h
    show rr pgX zX6_giveByTwo 68 _ [.int r4] _ _ _
    refine rr_if_ne (tgt := 73) dX6_giveByTwo_68 (by decide) rfl ⟨fun hc => ?_, fun hc => ?_⟩
    · have h := h.1 hc
      refine rr_iconst (v := (0 : Int32)) dX6_giveByTwo_73 (by decide) rfl ?_
      refine rr_istore (lv' := [(8, .int (0 : Int32)), (7, .int r3), (5, .long y2), (3, .long y1), (2, .ref (b101 + 1)), (0, .ref 39), (1, .int v1)]) dX6_giveByTwo_74 (by decide) rfl rfl ?_
      exact rr.sub [5, 6, 4, 3, 2, 1, 0] rfl h
    · have h := h.2 hc
      refine rr_iconst (v := (0 : Int32)) dX6_giveByTwo_71 (by decide) rfl ?_
      exact rr_zret dX6_giveByTwo_72 rfl rfl h
theorem s_X6_giveByTwo_76 {I : tg_I} {J : tg_J} {P : Option Value → tg_I → tg_J → Prop} (b101 : Nat) (v1 : Int32) (v3 : Int64) (v5 : Int64) (v7 : Int32) (v8 : Int32) (hb101 : isBd b101) (h :
  vp_in v7 100 ∧
  (((I (b101 + 5) (Int32.toNatClampNeg v7)) ≤ v8 →
   P (some (.int (0 : Int32))) I J) ∧
  (¬ (I (b101 + 5) (Int32.toNatClampNeg v7)) ≤ v8 →
   vp_in ((v7 * (8 : Int32)) + v8) 800 ∧
    (∀ x1, x1 = (I (b101 + 4) (Int32.toNatClampNeg ((v7 * (8 : Int32)) + v8))) →
    vp_in x1 100 ∧
    (vp_in x1 100 ∧
    (∀ y1, y1 = ((v3 &&& ((J (b101 + 2) (Int32.toNatClampNeg x1)) ^^^ (-1 : Int64))) ||| (v5 &&& ((J (b101 + 3) (Int32.toNatClampNeg x1)) ^^^ (-1 : Int64)))) →
    (¬ (lg_cmp y1 (0 : Int64)) = 0 →
     l_X6_giveByTwo_76 I J P b101 v1 v3 v5 v7 ((v8 + (1 : Int32)))) ∧
    ((lg_cmp y1 (0 : Int64)) = 0 →
     (x1 = v1 →
       l_X6_giveByTwo_76 I J P b101 v1 v3 v5 v7 ((v8 + (1 : Int32)))) ∧
      (¬ x1 = v1 →
       ∃ b247 : Nat, (I 39 9).toNatClampNeg = b247 ∧ isBd b247 ∧
        call pgX zX0_has [.ref (b247 + 9), .int x1] I J (fun vr I1 J1 => ∃ r1 : Int32, vr = some (.int r1) ∧
        ((r1 = 0 →
         l_X6_giveByTwo_76 I1 J1 P b101 v1 v3 v5 v7 ((v8 + (1 : Int32)))) ∧
        (¬ r1 = 0 →
         call pgX zX6_giveByPair [.ref 39, .int v1, .int x1] I1 J1 (fun vr I2 J2 => ∃ r2 : Int32, vr = some (.int r2) ∧
          ((r2 = 0 →
           l_X6_giveByTwo_76 I2 J2 P b101 v1 v3 v5 v7 ((v8 + (1 : Int32)))) ∧
          (¬ r2 = 0 →
           P (some (.int (1 : Int32))) I2 J2)))))))))))))) : l_X6_giveByTwo_76 I J P b101 v1 v3 v5 v7 v8 := by
  show rr pgX zX6_giveByTwo 76 [(0, .ref 39), (1, .int v1), (2, .ref (b101 + 1)), (3, .long v3), (5, .long v5), (7, .int v7), (8, .int v8)] [] I J P
  refine rr_iload dX6_giveByTwo_76 6 rfl rfl ?_
  refine rr_aload_n dX6_giveByTwo_78 rfl 2 rfl rfl ?_
  refine rr_getR dX6_giveByTwo_79 fX6_160 (bd_lt hb101 (by decide)) (bd_1 hb101) rfl rfl ?_
  refine rr_iload dX6_giveByTwo_82 5 rfl rfl ?_
  refine rr_iald dX6_giveByTwo_84 (bd_lt hb101 (by decide)) (bd_5 hb101) rfl ⟨h.1, ?_⟩
  have h := h.2
  refine rr_icmp_ge (tgt := 179) dX6_giveByTwo_85 (by decide) rfl ⟨fun hc => ?_, fun hc => ?_⟩
  · have h := h.1 hc
    refine rr_iconst (v := (0 : Int32)) dX6_giveByTwo_179 (by decide) rfl ?_
    exact rr_zret dX6_giveByTwo_180 rfl rfl h
  · have h := h.2 hc
    refine rr_aload_n dX6_giveByTwo_88 rfl 2 rfl rfl ?_
    refine rr_getR dX6_giveByTwo_89 fX6_164 (bd_lt hb101 (by decide)) (bd_1 hb101) rfl rfl ?_
    refine rr_iload dX6_giveByTwo_92 5 rfl rfl ?_
    refine rr_bipush (v := (8 : Int32)) dX6_giveByTwo_94 (by decide) rfl ?_
    refine rr_imul dX6_giveByTwo_96 rfl ?_
    refine rr_iload dX6_giveByTwo_97 6 rfl rfl ?_
    refine rr_iadd dX6_giveByTwo_99 rfl ?_
    refine rr_iald dX6_giveByTwo_100 (bd_lt hb101 (by decide)) (bd_4 hb101) rfl ⟨h.1, ?_⟩
    have h := h.2
    refine rr_letTi (fun x1 hx1 => ?_)
    have h := h x1 hx1
    refine rr_istore (lv' := [(9, .int x1), (0, .ref 39), (1, .int v1), (2, .ref (b101 + 1)), (3, .long v3), (5, .long v5), (7, .int v7), (8, .int v8)]) dX6_giveByTwo_101 (by decide) rfl rfl ?_
    refine rr_lload_n dX6_giveByTwo_103 rfl 4 rfl rfl ?_
    refine rr_aload_n dX6_giveByTwo_104 rfl 3 rfl rfl ?_
    refine rr_getR dX6_giveByTwo_105 fX6_132 (bd_lt hb101 (by decide)) (bd_1 hb101) rfl rfl ?_
    refine rr_iload dX6_giveByTwo_108 0 rfl rfl ?_
    refine rr_lald dX6_giveByTwo_110 (bd_lt hb101 (by decide)) (bd_2 hb101) rfl ⟨h.1, ?_⟩
    have h := h.2
    refine rr_ldc2 dX6_giveByTwo_111 qX6_167 rfl ?_
    refine rr_lxor dX6_giveByTwo_114 rfl ?_
    refine rr_land dX6_giveByTwo_115 rfl ?_
    refine rr_lload dX6_giveByTwo_116 5 rfl rfl ?_
    refine rr_aload_n dX6_giveByTwo_118 rfl 3 rfl rfl ?_
    refine rr_getR dX6_giveByTwo_119 fX6_135 (bd_lt hb101 (by decide)) (bd_1 hb101) rfl rfl ?_
    refine rr_iload dX6_giveByTwo_122 0 rfl rfl ?_
    refine rr_lald dX6_giveByTwo_124 (bd_lt hb101 (by decide)) (bd_3 hb101) rfl ⟨h.1, ?_⟩
    have h := h.2
    refine rr_ldc2 dX6_giveByTwo_125 qX6_167 rfl ?_
    refine rr_lxor dX6_giveByTwo_128 rfl ?_
    refine rr_land dX6_giveByTwo_129 rfl ?_
    refine rr_lor dX6_giveByTwo_130 rfl ?_
    refine rr_letTl (fun y1 hy1 => ?_)
    have h := h y1 hy1
    refine rr_lstore (lv' := [(10, .long y1), (9, .int x1), (0, .ref 39), (1, .int v1), (2, .ref (b101 + 1)), (3, .long v3), (5, .long v5), (7, .int v7), (8, .int v8)]) dX6_giveByTwo_131 (by decide) rfl rfl ?_
    refine rr_lload dX6_giveByTwo_133 0 rfl rfl ?_
    refine rr_lconst (v := (0 : Int64)) dX6_giveByTwo_135 (by decide) rfl ?_
    refine rr_lcmp dX6_giveByTwo_136 rfl ?_
    refine rr_if_ne (tgt := 173) dX6_giveByTwo_137 (by decide) rfl ⟨fun hc => ?_, fun hc => ?_⟩
    · have h := h.1 hc
      refine rr_iinc (k := 8) (v := (v8 + (1 : Int32))) (lv' := [(8, .int (v8 + (1 : Int32))), (10, .long y1), (9, .int x1), (0, .ref 39), (1, .int v1), (2, .ref (b101 + 1)), (3, .long v3), (5, .long v5), (7, .int v7)]) dX6_giveByTwo_173 rfl rfl (by decide) rfl rfl ?_
      refine rr_goto (tgt := 76) dX6_giveByTwo_176 (by decide) ?_
      exact rr.sub [3, 4, 5, 6, 7, 8, 0] rfl h
    · have h := h.2 hc
      refine rr_iload dX6_giveByTwo_140 1 rfl rfl ?_
      refine rr_iload_n dX6_giveByTwo_142 rfl 3 rfl rfl ?_
      refine rr_icmp_eq (tgt := 173) dX6_giveByTwo_143 (by decide) rfl ⟨fun hc => ?_, fun hc => ?_⟩
      · have h := h.1 hc
        refine rr_iinc (k := 8) (v := (v8 + (1 : Int32))) (lv' := [(8, .int (v8 + (1 : Int32))), (10, .long y1), (9, .int x1), (0, .ref 39), (1, .int v1), (2, .ref (b101 + 1)), (3, .long v3), (5, .long v5), (7, .int v7)]) dX6_giveByTwo_173 rfl rfl (by decide) rfl rfl ?_
        refine rr_goto (tgt := 76) dX6_giveByTwo_176 (by decide) ?_
        exact rr.sub [3, 4, 5, 6, 7, 8, 0] rfl h
      · have h := h.2 hc
        refine rr_aload_n dX6_giveByTwo_146 rfl 2 rfl rfl ?_
        obtain ⟨b247, hvb247, hb247, h⟩ := h
        refine rr_getV dX6_giveByTwo_147 fX6_34 (by decide) rfl rfl hvb247 rfl ?_
        refine rr_getR dX6_giveByTwo_150 fX6_78 (bd_lt0 hb247) (bd_0 hb247) rfl rfl ?_
        refine rr_iload dX6_giveByTwo_153 1 rfl rfl ?_
        refine rr_V [.int x1] [] dX6_giveByTwo_155 kX0_has mX6_81 ⟨by decide, by decide⟩ (bd_lt hb247 (by decide)) (bd_9 hb247) rfl rfl (Nat.le_of_ble_eq_true rfl) rfl (h.mono fun vr I1 J1 h => ?_)
        obtain ⟨r1, rfl, h⟩ := h
        show rr pgX zX6_giveByTwo 158 _ [.int r1] _ _ _
        refine rr_if_eq (tgt := 173) dX6_giveByTwo_158 (by decide) rfl ⟨fun hc => ?_, fun hc => ?_⟩
        · have h := h.1 hc
          refine rr_iinc (k := 8) (v := (v8 + (1 : Int32))) (lv' := [(8, .int (v8 + (1 : Int32))), (10, .long y1), (9, .int x1), (0, .ref 39), (1, .int v1), (2, .ref (b101 + 1)), (3, .long v3), (5, .long v5), (7, .int v7)]) dX6_giveByTwo_173 rfl rfl (by decide) rfl rfl ?_
          refine rr_goto (tgt := 76) dX6_giveByTwo_176 (by decide) ?_
          exact rr.sub [3, 4, 5, 6, 7, 8, 0] rfl h
        · have h := h.2 hc
          refine rr_aload_n dX6_giveByTwo_161 rfl 2 rfl rfl ?_
          refine rr_iload_n dX6_giveByTwo_162 rfl 3 rfl rfl ?_
          refine rr_iload dX6_giveByTwo_163 1 rfl rfl ?_
          refine rr_V [.int v1, .int x1] [] dX6_giveByTwo_165 kX6_giveByPair mX6_169 ⟨by decide, by decide⟩ (by decide) rfl rfl rfl (Nat.le_of_ble_eq_true rfl) rfl (h.mono fun vr I2 J2 h => ?_)
          obtain ⟨r2, rfl, h⟩ := h
          show rr pgX zX6_giveByTwo 168 _ [.int r2] _ _ _
          refine rr_if_eq (tgt := 173) dX6_giveByTwo_168 (by decide) rfl ⟨fun hc => ?_, fun hc => ?_⟩
          · have h := h.1 hc
            refine rr_iinc (k := 8) (v := (v8 + (1 : Int32))) (lv' := [(8, .int (v8 + (1 : Int32))), (10, .long y1), (9, .int x1), (0, .ref 39), (1, .int v1), (2, .ref (b101 + 1)), (3, .long v3), (5, .long v5), (7, .int v7)]) dX6_giveByTwo_173 rfl rfl (by decide) rfl rfl ?_
            refine rr_goto (tgt := 76) dX6_giveByTwo_176 (by decide) ?_
            exact rr.sub [3, 4, 5, 6, 7, 8, 0] rfl h
          · have h := h.2 hc
            refine rr_iconst (v := (1 : Int32)) dX6_giveByTwo_171 (by decide) rfl ?_
            exact rr_zret dX6_giveByTwo_172 rfl rfl h

theorem e_X6_giveByPair {I : tg_I} {J : tg_J} {P : Option Value → tg_I → tg_J → Prop} (v1 : Int32) (v2 : Int32) (h :
  ∃ b101 : Nat, (I 39 9).toNatClampNeg = b101 ∧ isBd b101 ∧
  vp_in v2 100 ∧
  (vp_in v1 100 ∧
  (∀ y1, y1 = (((J (b101 + 2) (Int32.toNatClampNeg v2)) &&& (J 44 0)) &&& ((J (b101 + 2) (Int32.toNatClampNeg v1)) ^^^ (-1 : Int64))) →
  vp_in v2 100 ∧
  (vp_in v1 100 ∧
  (∀ y2, y2 = (((J (b101 + 3) (Int32.toNatClampNeg v2)) &&& (J 44 1)) &&& ((J (b101 + 3) (Int32.toNatClampNeg v1)) ^^^ (-1 : Int64))) →
  ∃ b163 : Nat, (I 39 9).toNatClampNeg = b163 ∧ isBd b163 ∧
  call pgX zX1_due [.ref b163, .int v2, .ref 45] I J (fun vr I1 J1 => ∃ r1 : Int32, vr = some (.int r1) ∧
  (∃ b175 : Nat, (I1 39 9).toNatClampNeg = b175 ∧ isBd b175 ∧
  call pgX zX1_due [.ref b175, .int v1, .ref 45] I1 J1 (fun vr I2 J2 => ∃ r2 : Int32, vr = some (.int r2) ∧
  (((lg_cmp (y1 ||| y2) (0 : Int64)) = 0 →
   P (some (.int (0 : Int32))) I2 J2) ∧
  (¬ (lg_cmp (y1 ||| y2) (0 : Int64)) = 0 →
   call pgX zX6_give [.ref 39, .long y1, .long y2, .int (r1 - r2)] I2 J2 (fun vr I3 J3 => ∃ r3 : Int32, vr = some (.int r3) ∧
    ((¬ r3 = 0 →
     ∀ I4, I4 = u2 I3 39 3 (2 : Int32) →
      call pgX zX0_clear [.ref 41] I4 J3 (fun vr I5 J4 => vr = none ∧
      (call pgX zX6_blame [.ref 39, .int v1] I5 J4 (fun vr I6 J5 => vr = none ∧
      (call pgX zX6_blame [.ref 39, .int v2] I6 J5 (fun vr I7 J6 => vr = none ∧
      (P (some (.int (1 : Int32))) I7 J6))))))) ∧
    (r3 = 0 →
     P (some (.int (0 : Int32))) I3 J3))))))))))))) : call pgX zX6_giveByPair [.ref 39, .int v1, .int v2] I J P := by
  refine call_of (by decide +kernel) (fun _ => Nat.le_of_ble_eq_true rfl) ?_
  show rr pgX zX6_giveByPair 0 [(0, .ref 39), (1, .int v1), (2, .int v2)] [] I J P
  refine rr_aload_n dX6_giveByPair_0 rfl 0 rfl rfl ?_
  obtain ⟨b101, hvb101, hb101, h⟩ := h
  refine rr_getV dX6_giveByPair_1 fX6_34 (by decide) rfl rfl hvb101 rfl ?_
  refine rr_getR dX6_giveByPair_4 fX6_68 (bd_lt0 hb101) (bd_0 hb101) rfl rfl ?_
  refine rr_astore_n (lv' := [(3, .ref (b101 + 1)), (0, .ref 39), (1, .int v1), (2, .int v2)]) dX6_giveByPair_7 rfl (by decide) rfl rfl ?_
  refine rr_aload_n dX6_giveByPair_8 rfl 0 rfl rfl ?_
  refine rr_getR dX6_giveByPair_9 fX6_132 (bd_lt hb101 (by decide)) (bd_1 hb101) rfl rfl ?_
  refine rr_iload_n dX6_giveByPair_12 rfl 3 rfl rfl ?_
  refine rr_lald dX6_giveByPair_13 (bd_lt hb101 (by decide)) (bd_2 hb101) rfl ⟨h.1, ?_⟩
  have h := h.2
  refine rr_aload_n dX6_giveByPair_14 rfl 1 rfl rfl ?_
  refine rr_getR dX6_giveByPair_15 fX6_28 (by decide) rfl rfl rfl ?_
  refine rr_getJ dX6_giveByPair_18 fX6_116 (by decide) rfl rfl rfl ?_
  refine rr_land dX6_giveByPair_21 rfl ?_
  refine rr_aload_n dX6_giveByPair_22 rfl 0 rfl rfl ?_
  refine rr_getR dX6_giveByPair_23 fX6_132 (bd_lt hb101 (by decide)) (bd_1 hb101) rfl rfl ?_
  refine rr_iload_n dX6_giveByPair_26 rfl 2 rfl rfl ?_
  refine rr_lald dX6_giveByPair_27 (bd_lt hb101 (by decide)) (bd_2 hb101) rfl ⟨h.1, ?_⟩
  have h := h.2
  refine rr_ldc2 dX6_giveByPair_28 qX6_167 rfl ?_
  refine rr_lxor dX6_giveByPair_31 rfl ?_
  refine rr_land dX6_giveByPair_32 rfl ?_
  refine rr_letTl (fun y1 hy1 => ?_)
  have h := h y1 hy1
  refine rr_lstore (lv' := [(4, .long y1), (3, .ref (b101 + 1)), (0, .ref 39), (1, .int v1), (2, .int v2)]) dX6_giveByPair_33 (by decide) rfl rfl ?_
  refine rr_aload_n dX6_giveByPair_35 rfl 1 rfl rfl ?_
  refine rr_getR dX6_giveByPair_36 fX6_135 (bd_lt hb101 (by decide)) (bd_1 hb101) rfl rfl ?_
  refine rr_iload_n dX6_giveByPair_39 rfl 4 rfl rfl ?_
  refine rr_lald dX6_giveByPair_40 (bd_lt hb101 (by decide)) (bd_3 hb101) rfl ⟨h.1, ?_⟩
  have h := h.2
  refine rr_aload_n dX6_giveByPair_41 rfl 2 rfl rfl ?_
  refine rr_getR dX6_giveByPair_42 fX6_28 (by decide) rfl rfl rfl ?_
  refine rr_getJ dX6_giveByPair_45 fX6_120 (by decide) rfl rfl rfl ?_
  refine rr_land dX6_giveByPair_48 rfl ?_
  refine rr_aload_n dX6_giveByPair_49 rfl 1 rfl rfl ?_
  refine rr_getR dX6_giveByPair_50 fX6_135 (bd_lt hb101 (by decide)) (bd_1 hb101) rfl rfl ?_
  refine rr_iload_n dX6_giveByPair_53 rfl 3 rfl rfl ?_
  refine rr_lald dX6_giveByPair_54 (bd_lt hb101 (by decide)) (bd_3 hb101) rfl ⟨h.1, ?_⟩
  have h := h.2
  refine rr_ldc2 dX6_giveByPair_55 qX6_167 rfl ?_
  refine rr_lxor dX6_giveByPair_58 rfl ?_
  refine rr_land dX6_giveByPair_59 rfl ?_
  refine rr_letTl (fun y2 hy2 => ?_)
  have h := h y2 hy2
  refine rr_lstore (lv' := [(6, .long y2), (4, .long y1), (3, .ref (b101 + 1)), (0, .ref 39), (1, .int v1), (2, .int v2)]) dX6_giveByPair_60 (by decide) rfl rfl ?_
  refine rr_aload_n dX6_giveByPair_62 rfl 3 rfl rfl ?_
  obtain ⟨b163, hvb163, hb163, h⟩ := h
  refine rr_getV dX6_giveByPair_63 fX6_34 (by decide) rfl rfl hvb163 rfl ?_
  refine rr_iload_n dX6_giveByPair_66 rfl 5 rfl rfl ?_
  refine rr_aload_n dX6_giveByPair_67 rfl 3 rfl rfl ?_
  refine rr_getR dX6_giveByPair_68 fX6_31 (by decide) rfl rfl rfl ?_
  refine rr_V [.int v2, .ref 45] [] dX6_giveByPair_71 kX1_due mX6_138 ⟨by decide, by decide⟩ (bd_lt0 hb163) (bd_0 hb163) rfl rfl (Nat.le_of_ble_eq_true rfl) rfl (h.mono fun vr I1 J1 h => ?_)
  obtain ⟨r1, rfl, h⟩ := h
  show rr pgX zX6_giveByPair 74 _ [.int r1] _ _ _
  refine rr_aload_n dX6_giveByPair_74 rfl 3 rfl rfl ?_
  obtain ⟨b175, hvb175, hb175, h⟩ := h
  refine rr_getV dX6_giveByPair_75 fX6_34 (by decide) rfl rfl hvb175 rfl ?_
  refine rr_iload_n dX6_giveByPair_78 rfl 4 rfl rfl ?_
  refine rr_aload_n dX6_giveByPair_79 rfl 3 rfl rfl ?_
  refine rr_getR dX6_giveByPair_80 fX6_31 (by decide) rfl rfl rfl ?_
  refine rr_V [.int v1, .ref 45] [.int r1] dX6_giveByPair_83 kX1_due mX6_138 ⟨by decide, by decide⟩ (bd_lt0 hb175) (bd_0 hb175) rfl rfl (Nat.le_of_ble_eq_true rfl) rfl (h.mono fun vr I2 J2 h => ?_)
  obtain ⟨r2, rfl, h⟩ := h
  show rr pgX zX6_giveByPair 86 _ [.int r2, .int r1] _ _ _
  refine rr_isub dX6_giveByPair_86 rfl ?_
  refine rr_istore (lv' := [(8, .int (r1 - r2)), (6, .long y2), (4, .long y1), (3, .ref (b101 + 1)), (0, .ref 39), (1, .int v1), (2, .int v2)]) dX6_giveByPair_87 (by decide) rfl rfl ?_
  refine rr_lload dX6_giveByPair_89 2 rfl rfl ?_
  refine rr_lload dX6_giveByPair_91 1 rfl rfl ?_
  refine rr_lor dX6_giveByPair_93 rfl ?_
  refine rr_lconst (v := (0 : Int64)) dX6_giveByPair_94 (by decide) rfl ?_
  refine rr_lcmp dX6_giveByPair_95 rfl ?_
  refine rr_if_eq (tgt := 112) dX6_giveByPair_96 (by decide) rfl ⟨fun hc => ?_, fun hc => ?_⟩
  · have h := h.1 hc
    refine rr_iconst (v := (0 : Int32)) dX6_giveByPair_112 (by decide) rfl ?_
    exact rr_zret dX6_giveByPair_113 rfl rfl h
  · have h := h.2 hc
    refine rr_aload_n dX6_giveByPair_99 rfl 4 rfl rfl ?_
    refine rr_lload dX6_giveByPair_100 2 rfl rfl ?_
    refine rr_lload dX6_giveByPair_102 1 rfl rfl ?_
    refine rr_iload dX6_giveByPair_104 0 rfl rfl ?_
    refine rr_V [.long y1, .long y2, .int (r1 - r2)] [] dX6_giveByPair_106 kX6_give mX6_142 ⟨by decide, by decide⟩ (by decide) rfl rfl rfl (Nat.le_of_ble_eq_true rfl) rfl (h.mono fun vr I3 J3 h => ?_)
    obtain ⟨r3, rfl, h⟩ := h
    show rr pgX zX6_giveByPair 109 _ [.int r3] _ _ _
    refine rr_if_ne (tgt := 114) dX6_giveByPair_109 (by decide) rfl ⟨fun hc => ?_, fun hc => ?_⟩
    · have h := h.1 hc
      refine rr_aload_n dX6_giveByPair_114 rfl 4 rfl rfl ?_
      refine rr_iconst (v := (2 : Int32)) dX6_giveByPair_115 (by decide) rfl ?_
      refine rr_putI dX6_giveByPair_116 pX6_129 (by decide) rfl rfl rfl ?_
      refine rr_letI (fun I4 hI4 => ?_)
      have h := h I4 hI4
      refine rr_aload_n dX6_giveByPair_119 rfl 4 rfl rfl ?_
      refine rr_getR dX6_giveByPair_120 fX6_18 (by decide) rfl rfl rfl ?_
      refine rr_V [] [] dX6_giveByPair_123 kX0_clear mX6_146 ⟨by decide, by decide⟩ (by decide) rfl rfl rfl (Nat.le_of_ble_eq_true rfl) rfl (h.mono fun vr I5 J4 h => ?_)
      obtain ⟨rfl, h⟩ := h
      show rr pgX zX6_giveByPair 126 _ [] _ _ _
      refine rr_aload_n dX6_giveByPair_126 rfl 4 rfl rfl ?_
      refine rr_iload_n dX6_giveByPair_127 rfl 5 rfl rfl ?_
      refine rr_V [.int v1] [] dX6_giveByPair_128 kX6_blame mX6_149 ⟨by decide, by decide⟩ (by decide) rfl rfl rfl (Nat.le_of_ble_eq_true rfl) rfl (h.mono fun vr I6 J5 h => ?_)
      obtain ⟨rfl, h⟩ := h
      show rr pgX zX6_giveByPair 131 _ [] _ _ _
      refine rr_aload_n dX6_giveByPair_131 rfl 4 rfl rfl ?_
      refine rr_iload_n dX6_giveByPair_132 rfl 6 rfl rfl ?_
      refine rr_V [.int v2] [] dX6_giveByPair_133 kX6_blame mX6_149 ⟨by decide, by decide⟩ (by decide) rfl rfl rfl (Nat.le_of_ble_eq_true rfl) rfl (h.mono fun vr I7 J6 h => ?_)
      obtain ⟨rfl, h⟩ := h
      show rr pgX zX6_giveByPair 136 _ [] _ _ _
      refine rr_iconst (v := (1 : Int32)) dX6_giveByPair_136 (by decide) rfl ?_
      exact rr_zret dX6_giveByPair_137 rfl rfl h
    · have h := h.2 hc
      refine rr_iconst (v := (0 : Int32)) dX6_giveByPair_112 (by decide) rfl ?_
      exact rr_zret dX6_giveByPair_113 rfl rfl h

def l_X6_giveByAll_116 (I : tg_I) (J : tg_J) (P : Option Value → tg_I → tg_J → Prop) (v2 : Int32) : Prop := rr pgX zX6_giveByAll 116 [(0, .ref 39), (2, .int v2)] [] I J P
theorem e_X6_giveByAll {I : tg_I} {J : tg_J} {P : Option Value → tg_I → tg_J → Prop} (h :
  call pgX zX0_copy [.ref 40, .ref 18] I J (fun vr I1 J1 => vr = none ∧
  (call pgX zX0_join [.ref 40, .ref 19] I1 J1 (fun vr I2 J2 => vr = none ∧
  (call pgX zX0_meet [.ref 40, .ref 44] I2 J2 (fun vr I3 J3 => vr = none ∧
  (call pgX zX0_least [.ref 40] I3 J3 (fun vr I4 J4 => ∃ r1 : Int32, vr = some (.int r1) ∧
  (∃ b148 : Nat, (I4 39 9).toNatClampNeg = b148 ∧ isBd b148 ∧
  call pgX zX2_holds [.ref (b148 + 1), .int r1] I4 J4 (fun vr I5 J5 => ∃ r2 : Int32, vr = some (.int r2) ∧
  ((¬ r2 = 0 →
   call pgX zX0_clear [.ref 40] I5 J5 (fun vr I6 J6 => vr = none ∧
    (call pgX zX0_add [.ref 40, .int r1] I6 J6 (fun vr I7 J7 => vr = none ∧
    (call pgX zX0_has [.ref 18, .int r1] I7 J7 (fun vr I8 J8 => ∃ r3 : Int32, vr = some (.int r3) ∧
    ((narrow .boolean (.int r3) = .int r3 ∧ fits .boolean (.int r3) = true) ∧ ∀ I9, I9 = u2 I8 39 2 r3 →
    ∀ I10, I10 = u2 I9 39 3 (3 : Int32) →
    call pgX zX0_clear [.ref 41] I10 J8 (fun vr I11 J9 => vr = none ∧
    (call pgX zX0_add [.ref 41, .int (100 : Int32)] I11 J9 (fun vr I12 J10 => vr = none ∧
    (l_X6_giveByAll_116 I12 J10 P ((0 : Int32))))))))))))) ∧
  (r2 = 0 →
   P (some (.int (0 : Int32))) I5 J5)))))))))))) : call pgX zX6_giveByAll [.ref 39] I J P := by
  refine call_of (by decide +kernel) (fun _ => Nat.le_of_ble_eq_true rfl) ?_
  show rr pgX zX6_giveByAll 0 [(0, .ref 39)] [] I J P
  refine rr_aload_n dX6_giveByAll_0 rfl 0 rfl rfl ?_
  refine rr_getR dX6_giveByAll_1 fX6_12 (by decide) rfl rfl rfl ?_
  refine rr_aload_n dX6_giveByAll_4 rfl 0 rfl rfl ?_
  refine rr_getR dX6_giveByAll_5 fX6_38 (by decide) rfl rfl rfl ?_
  refine rr_getR dX6_giveByAll_8 fX6_173 (by decide) rfl rfl rfl ?_
  refine rr_V [.ref 18] [] dX6_giveByAll_11 kX0_copy mX6_47 ⟨by decide, by decide⟩ (by decide) rfl rfl rfl (Nat.le_of_ble_eq_true rfl) rfl (h.mono fun vr I1 J1 h => ?_)
  obtain ⟨rfl, h⟩ := h
  show rr pgX zX6_giveByAll 14 _ [] _ _ _
  refine rr_aload_n dX6_giveByAll_14 rfl 0 rfl rfl ?_
  refine rr_getR dX6_giveByAll_15 fX6_12 (by decide) rfl rfl rfl ?_
  refine rr_aload_n dX6_giveByAll_18 rfl 0 rfl rfl ?_
  refine rr_getR dX6_giveByAll_19 fX6_38 (by decide) rfl rfl rfl ?_
  refine rr_getR dX6_giveByAll_22 fX6_176 (by decide) rfl rfl rfl ?_
  refine rr_V [.ref 19] [] dX6_giveByAll_25 kX0_join mX6_126 ⟨by decide, by decide⟩ (by decide) rfl rfl rfl (Nat.le_of_ble_eq_true rfl) rfl (h.mono fun vr I2 J2 h => ?_)
  obtain ⟨rfl, h⟩ := h
  show rr pgX zX6_giveByAll 28 _ [] _ _ _
  refine rr_aload_n dX6_giveByAll_28 rfl 0 rfl rfl ?_
  refine rr_getR dX6_giveByAll_29 fX6_12 (by decide) rfl rfl rfl ?_
  refine rr_aload_n dX6_giveByAll_32 rfl 0 rfl rfl ?_
  refine rr_getR dX6_giveByAll_33 fX6_28 (by decide) rfl rfl rfl ?_
  refine rr_V [.ref 44] [] dX6_giveByAll_36 kX0_meet mX6_65 ⟨by decide, by decide⟩ (by decide) rfl rfl rfl (Nat.le_of_ble_eq_true rfl) rfl (h.mono fun vr I3 J3 h => ?_)
  obtain ⟨rfl, h⟩ := h
  show rr pgX zX6_giveByAll 39 _ [] _ _ _
  refine rr_aload_n dX6_giveByAll_39 rfl 0 rfl rfl ?_
  refine rr_getR dX6_giveByAll_40 fX6_12 (by decide) rfl rfl rfl ?_
  refine rr_V [] [] dX6_giveByAll_43 kX0_least mX6_179 ⟨by decide, by decide⟩ (by decide) rfl rfl rfl (Nat.le_of_ble_eq_true rfl) rfl (h.mono fun vr I4 J4 h => ?_)
  obtain ⟨r1, rfl, h⟩ := h
  show rr pgX zX6_giveByAll 46 _ [.int r1] _ _ _
  refine rr_istore_n (lv' := [(1, .int r1), (0, .ref 39)]) dX6_giveByAll_46 rfl (by decide) rfl rfl ?_
  refine rr_aload_n dX6_giveByAll_47 rfl 1 rfl rfl ?_
  obtain ⟨b148, hvb148, hb148, h⟩ := h
  refine rr_getV dX6_giveByAll_48 fX6_34 (by decide) rfl rfl hvb148 rfl ?_
  refine rr_getR dX6_giveByAll_51 fX6_68 (bd_lt0 hb148) (bd_0 hb148) rfl rfl ?_
  refine rr_iload_n dX6_giveByAll_54 rfl 0 rfl rfl ?_
  refine rr_V [.int r1] [] dX6_giveByAll_55 kX2_holds mX6_157 ⟨by decide, by decide⟩ (bd_lt hb148 (by decide)) (bd_1 hb148) rfl rfl (Nat.le_of_ble_eq_true rfl) rfl (h.mono fun vr I5 J5 h => ?_)
  obtain ⟨r2, rfl, h⟩ := h
  show rr pgX zX6_giveByAll 58 _ [.int r2] _ _ _
  refine rr_if_ne (tgt := 63) dX6_giveByAll_58 (by decide) rfl ⟨fun hc => ?_, fun hc => ?_⟩
  · have h := h.1 hc
    refine rr_aload_n dX6_giveByAll_63 rfl 1 rfl rfl ?_
    refine rr_getR dX6_giveByAll_64 fX6_12 (by decide) rfl rfl rfl ?_
    refine rr_V [] [] dX6_giveByAll_67 kX0_clear mX6_146 ⟨by decide, by decide⟩ (by decide) rfl rfl rfl (Nat.le_of_ble_eq_true rfl) rfl (h.mono fun vr I6 J6 h => ?_)
    obtain ⟨rfl, h⟩ := h
    show rr pgX zX6_giveByAll 70 _ [] _ _ _
    refine rr_aload_n dX6_giveByAll_70 rfl 1 rfl rfl ?_
    refine rr_getR dX6_giveByAll_71 fX6_12 (by decide) rfl rfl rfl ?_
    refine rr_iload_n dX6_giveByAll_74 rfl 0 rfl rfl ?_
    refine rr_V [.int r1] [] dX6_giveByAll_75 kX0_add mX6_183 ⟨by decide, by decide⟩ (by decide) rfl rfl rfl (Nat.le_of_ble_eq_true rfl) rfl (h.mono fun vr I7 J7 h => ?_)
    obtain ⟨rfl, h⟩ := h
    show rr pgX zX6_giveByAll 78 _ [] _ _ _
    refine rr_aload_n dX6_giveByAll_78 rfl 1 rfl rfl ?_
    refine rr_aload_n dX6_giveByAll_79 rfl 1 rfl rfl ?_
    refine rr_getR dX6_giveByAll_80 fX6_38 (by decide) rfl rfl rfl ?_
    refine rr_getR dX6_giveByAll_83 fX6_173 (by decide) rfl rfl rfl ?_
    refine rr_iload_n dX6_giveByAll_86 rfl 0 rfl rfl ?_
    refine rr_V [.int r1] [.ref 39] dX6_giveByAll_87 kX0_has mX6_81 ⟨by decide, by decide⟩ (by decide) rfl rfl rfl (Nat.le_of_ble_eq_true rfl) rfl (h.mono fun vr I8 J8 h => ?_)
    obtain ⟨r3, rfl, h⟩ := h
    show rr pgX zX6_giveByAll 90 _ [.int r3, .ref 39] _ _ _
    refine rr_putZ dX6_giveByAll_90 pX6_113 (by decide) rfl rfl h.1 rfl ?_
    have h := h.2
    refine rr_letI (fun I9 hI9 => ?_)
    have h := h I9 hI9
    refine rr_aload_n dX6_giveByAll_93 rfl 1 rfl rfl ?_
    refine rr_iconst (v := (3 : Int32)) dX6_giveByAll_94 (by decide) rfl ?_
    refine rr_putI dX6_giveByAll_95 pX6_129 (by decide) rfl rfl rfl ?_
    refine rr_letI (fun I10 hI10 => ?_)
    have h := h I10 hI10
    refine rr_aload_n dX6_giveByAll_98 rfl 1 rfl rfl ?_
    refine rr_getR dX6_giveByAll_99 fX6_18 (by decide) rfl rfl rfl ?_
    refine rr_V [] [] dX6_giveByAll_102 kX0_clear mX6_146 ⟨by decide, by decide⟩ (by decide) rfl rfl rfl (Nat.le_of_ble_eq_true rfl) rfl (h.mono fun vr I11 J9 h => ?_)
    obtain ⟨rfl, h⟩ := h
    show rr pgX zX6_giveByAll 105 _ [] _ _ _
    refine rr_aload_n dX6_giveByAll_105 rfl 1 rfl rfl ?_
    refine rr_getR dX6_giveByAll_106 fX6_18 (by decide) rfl rfl rfl ?_
    refine rr_bipush (v := (100 : Int32)) dX6_giveByAll_109 (by decide) rfl ?_
    refine rr_V [.int (100 : Int32)] [] dX6_giveByAll_111 kX0_add mX6_183 ⟨by decide, by decide⟩ (by decide) rfl rfl rfl (Nat.le_of_ble_eq_true rfl) rfl (h.mono fun vr I12 J10 h => ?_)
    obtain ⟨rfl, h⟩ := h
    show rr pgX zX6_giveByAll 114 _ [] _ _ _
    refine rr_iconst (v := (0 : Int32)) dX6_giveByAll_114 (by decide) rfl ?_
    refine rr_istore_n (lv' := [(2, .int (0 : Int32)), (1, .int r1), (0, .ref 39)]) dX6_giveByAll_115 rfl (by decide) rfl rfl ?_
    exact rr.sub [2, 0] rfl h
  · have h := h.2 hc
    refine rr_iconst (v := (0 : Int32)) dX6_giveByAll_61 (by decide) rfl ?_
    exact rr_zret dX6_giveByAll_62 rfl rfl h
theorem s_X6_giveByAll_116 {I : tg_I} {J : tg_J} {P : Option Value → tg_I → tg_J → Prop} (v2 : Int32) (h :
  ∃ b218 : Nat, (I 39 9).toNatClampNeg = b218 ∧ isBd b218 ∧
  ((I (b218 + 1) 7) ≤ v2 →
   P (some (.int (1 : Int32))) I J) ∧
  (¬ (I (b218 + 1) 7) ≤ v2 →
   ∃ b231 : Nat, (I 39 9).toNatClampNeg = b231 ∧ isBd b231 ∧
    call pgX zX0_has [.ref (b231 + 9), .int v2] I J (fun vr I1 J1 => ∃ r1 : Int32, vr = some (.int r1) ∧
    ((r1 = 0 →
     l_X6_giveByAll_116 I1 J1 P ((v2 + (1 : Int32)))) ∧
    (¬ r1 = 0 →
     ∃ b245 : Nat, (I1 39 9).toNatClampNeg = b245 ∧ isBd b245 ∧
      ∃ b253 : Nat, (I1 39 9).toNatClampNeg = b253 ∧ isBd b253 ∧
      call pgX zX2_touches [.ref (b245 + 1), .int v2, .ref (b253 + 8)] I1 J1 (fun vr I2 J2 => ∃ r2 : Int32, vr = some (.int r2) ∧
      ((r2 = 0 →
       l_X6_giveByAll_116 I2 J2 P ((v2 + (1 : Int32)))) ∧
      (¬ r2 = 0 →
       call pgX zX0_add [.ref 41, .int v2] I2 J2 (fun vr I3 J3 => vr = none ∧
        (l_X6_giveByAll_116 I3 J3 P ((v2 + (1 : Int32))))))))))))) : l_X6_giveByAll_116 I J P v2 := by
  show rr pgX zX6_giveByAll 116 [(0, .ref 39), (2, .int v2)] [] I J P
  refine rr_iload_n dX6_giveByAll_116 rfl 1 rfl rfl ?_
  refine rr_aload_n dX6_giveByAll_117 rfl 0 rfl rfl ?_
  obtain ⟨b218, hvb218, hb218, h⟩ := h
  refine rr_getV dX6_giveByAll_118 fX6_34 (by decide) rfl rfl hvb218 rfl ?_
  refine rr_getR dX6_giveByAll_121 fX6_68 (bd_lt0 hb218) (bd_0 hb218) rfl rfl ?_
  refine rr_getI dX6_giveByAll_124 fX6_72 (bd_lt hb218 (by decide)) (bd_1 hb218) rfl rfl ?_
  refine rr_icmp_ge (tgt := 179) dX6_giveByAll_127 (by decide) rfl ⟨fun hc => ?_, fun hc => ?_⟩
  · have h := h.1 hc
    refine rr_iconst (v := (1 : Int32)) dX6_giveByAll_179 (by decide) rfl ?_
    exact rr_zret dX6_giveByAll_180 rfl rfl h
  · have h := h.2 hc
    refine rr_aload_n dX6_giveByAll_130 rfl 0 rfl rfl ?_
    obtain ⟨b231, hvb231, hb231, h⟩ := h
    refine rr_getV dX6_giveByAll_131 fX6_34 (by decide) rfl rfl hvb231 rfl ?_
    refine rr_getR dX6_giveByAll_134 fX6_78 (bd_lt0 hb231) (bd_0 hb231) rfl rfl ?_
    refine rr_iload_n dX6_giveByAll_137 rfl 1 rfl rfl ?_
    refine rr_V [.int v2] [] dX6_giveByAll_138 kX0_has mX6_81 ⟨by decide, by decide⟩ (bd_lt hb231 (by decide)) (bd_9 hb231) rfl rfl (Nat.le_of_ble_eq_true rfl) rfl (h.mono fun vr I1 J1 h => ?_)
    obtain ⟨r1, rfl, h⟩ := h
    show rr pgX zX6_giveByAll 141 _ [.int r1] _ _ _
    refine rr_if_eq (tgt := 173) dX6_giveByAll_141 (by decide) rfl ⟨fun hc => ?_, fun hc => ?_⟩
    · have h := h.1 hc
      refine rr_iinc (k := 1) (v := (v2 + (1 : Int32))) (lv' := [(2, .int (v2 + (1 : Int32))), (0, .ref 39)]) dX6_giveByAll_173 rfl rfl (by decide) rfl rfl ?_
      refine rr_goto (tgt := 116) dX6_giveByAll_176 (by decide) ?_
      exact rr.sub [1, 0] rfl h
    · have h := h.2 hc
      refine rr_aload_n dX6_giveByAll_144 rfl 0 rfl rfl ?_
      obtain ⟨b245, hvb245, hb245, h⟩ := h
      refine rr_getV dX6_giveByAll_145 fX6_34 (by decide) rfl rfl hvb245 rfl ?_
      refine rr_getR dX6_giveByAll_148 fX6_68 (bd_lt0 hb245) (bd_0 hb245) rfl rfl ?_
      refine rr_iload_n dX6_giveByAll_151 rfl 1 rfl rfl ?_
      refine rr_aload_n dX6_giveByAll_152 rfl 0 rfl rfl ?_
      obtain ⟨b253, hvb253, hb253, h⟩ := h
      refine rr_getV dX6_giveByAll_153 fX6_34 (by decide) rfl rfl hvb253 rfl ?_
      refine rr_getR dX6_giveByAll_156 fX6_42 (bd_lt0 hb253) (bd_0 hb253) rfl rfl ?_
      refine rr_V [.int v2, .ref (b253 + 8)] [] dX6_giveByAll_159 kX2_touches mX6_186 ⟨by decide, by decide⟩ (bd_lt hb245 (by decide)) (bd_1 hb245) rfl rfl (Nat.le_of_ble_eq_true rfl) rfl (h.mono fun vr I2 J2 h => ?_)
      obtain ⟨r2, rfl, h⟩ := h
      show rr pgX zX6_giveByAll 162 _ [.int r2] _ _ _
      refine rr_if_eq (tgt := 173) dX6_giveByAll_162 (by decide) rfl ⟨fun hc => ?_, fun hc => ?_⟩
      · have h := h.1 hc
        refine rr_iinc (k := 1) (v := (v2 + (1 : Int32))) (lv' := [(2, .int (v2 + (1 : Int32))), (0, .ref 39)]) dX6_giveByAll_173 rfl rfl (by decide) rfl rfl ?_
        refine rr_goto (tgt := 116) dX6_giveByAll_176 (by decide) ?_
        exact rr.sub [1, 0] rfl h
      · have h := h.2 hc
        refine rr_aload_n dX6_giveByAll_165 rfl 0 rfl rfl ?_
        refine rr_getR dX6_giveByAll_166 fX6_18 (by decide) rfl rfl rfl ?_
        refine rr_iload_n dX6_giveByAll_169 rfl 1 rfl rfl ?_
        refine rr_V [.int v2] [] dX6_giveByAll_170 kX0_add mX6_183 ⟨by decide, by decide⟩ (by decide) rfl rfl rfl (Nat.le_of_ble_eq_true rfl) rfl (h.mono fun vr I3 J3 h => ?_)
        obtain ⟨rfl, h⟩ := h
        show rr pgX zX6_giveByAll 173 _ [] _ _ _
        refine rr_iinc (k := 1) (v := (v2 + (1 : Int32))) (lv' := [(2, .int (v2 + (1 : Int32))), (0, .ref 39)]) dX6_giveByAll_173 rfl rfl (by decide) rfl rfl ?_
        refine rr_goto (tgt := 116) dX6_giveByAll_176 (by decide) ?_
        exact rr.sub [1, 0] rfl h

theorem e_X6_give {I : tg_I} {J : tg_J} {P : Option Value → tg_I → tg_J → Prop} (v1 : Int64) (v3 : Int64) (v5 : Int32) (h :
  (v5 = 0 →
   ∀ J1, J1 = u2 J 40 0 v1 →
    ∀ J2, J2 = u2 J1 40 1 v3 →
    (v5 = 0 →
     ∀ I1, I1 = u2 I 39 2 (0 : Int32) →
      P (some (.int (1 : Int32))) I1 J2) ∧
    (¬ v5 = 0 →
     ∀ I2, I2 = u2 I 39 2 (1 : Int32) →
      P (some (.int (1 : Int32))) I2 J2)) ∧
  (¬ v5 = 0 →
   call pgX zJ13_bitCount_95d88 [.long v1] I J (fun vr I3 J3 => ∃ r1 : Int32, vr = some (.int r1) ∧
    (call pgX zJ13_bitCount_95d88 [.long v3] I3 J3 (fun vr I4 J4 => ∃ r2 : Int32, vr = some (.int r2) ∧
    ((v5 = (r1 + r2) →
     ∀ J5, J5 = u2 J4 40 0 v1 →
      ∀ J6, J6 = u2 J5 40 1 v3 →
      (v5 = 0 →
       ∀ I5, I5 = u2 I4 39 2 (0 : Int32) →
        P (some (.int (1 : Int32))) I5 J6) ∧
      (¬ v5 = 0 →
       ∀ I6, I6 = u2 I4 39 2 (1 : Int32) →
        P (some (.int (1 : Int32))) I6 J6)) ∧
    (¬ v5 = (r1 + r2) →
     P (some (.int (0 : Int32))) I4 J4))))))) : call pgX zX6_give [.ref 39, .long v1, .long v3, .int v5] I J P := by
  refine call_of (by decide +kernel) (fun _ => Nat.le_of_ble_eq_true rfl) ?_
  show rr pgX zX6_give 0 [(0, .ref 39), (1, .long v1), (3, .long v3), (5, .int v5)] [] I J P
  refine rr_iload dX6_give_0 3 rfl rfl ?_
  refine rr_if_eq (tgt := 21) dX6_give_2 (by decide) rfl ⟨fun hc => ?_, fun hc => ?_⟩
  · have h := h.1 hc
    refine rr_aload_n dX6_give_21 rfl 0 rfl rfl ?_
    refine rr_getR dX6_give_22 fX6_12 (by decide) rfl rfl rfl ?_
    refine rr_lload_n dX6_give_25 rfl 1 rfl rfl ?_
    refine rr_putJ dX6_give_26 pX6_116 (by decide) rfl rfl rfl ?_
    refine rr_letJ (fun J1 hJ1 => ?_)
    have h := h J1 hJ1
    refine rr_aload_n dX6_give_29 rfl 0 rfl rfl ?_
    refine rr_getR dX6_give_30 fX6_12 (by decide) rfl rfl rfl ?_
    refine rr_lload_n dX6_give_33 rfl 2 rfl rfl ?_
    refine rr_putJ dX6_give_34 pX6_120 (by decide) rfl rfl rfl ?_
    refine rr_letJ (fun J2 hJ2 => ?_)
    have h := h J2 hJ2
    refine rr_aload_n dX6_give_37 rfl 0 rfl rfl ?_
    refine rr_iload dX6_give_38 3 rfl rfl ?_
    refine rr_if_eq (tgt := 47) dX6_give_40 (by decide) rfl ⟨fun hc => ?_, fun hc => ?_⟩
    · have h := h.1 hc
      refine rr_iconst (v := (0 : Int32)) dX6_give_47 (by decide) rfl ?_
      refine rr_putZ dX6_give_48 pX6_113 (by decide) rfl rfl ⟨rfl, rfl⟩ rfl ?_
      refine rr_letI (fun I1 hI1 => ?_)
      have h := h I1 hI1
      refine rr_iconst (v := (1 : Int32)) dX6_give_51 (by decide) rfl ?_
      exact rr_zret dX6_give_52 rfl rfl h
    · have h := h.2 hc
      refine rr_iconst (v := (1 : Int32)) dX6_give_43 (by decide) rfl ?_
      refine rr_goto (tgt := 48) dX6_give_44 (by decide) ?_
      refine rr_putZ dX6_give_48 pX6_113 (by decide) rfl rfl ⟨rfl, rfl⟩ rfl ?_
      refine rr_letI (fun I2 hI2 => ?_)
      have h := h I2 hI2
      refine rr_iconst (v := (1 : Int32)) dX6_give_51 (by decide) rfl ?_
      exact rr_zret dX6_give_52 rfl rfl h
  · have h := h.2 hc
    refine rr_iload dX6_give_5 3 rfl rfl ?_
    refine rr_lload_n dX6_give_7 rfl 1 rfl rfl ?_
    refine rr_S [.long v1] [.int v5] dX6_give_8 kJ13_bitCount_95d88 mX6_190 ⟨by decide, by decide⟩ rfl rfl (Nat.le_of_ble_eq_true rfl) rfl (h.mono fun vr I3 J3 h => ?_)
    obtain ⟨r1, rfl, h⟩ := h
    show rr pgX zX6_give 11 _ [.int r1, .int v5] _ _ _
    refine rr_lload_n dX6_give_11 rfl 2 rfl rfl ?_
    refine rr_S [.long v3] [.int r1, .int v5] dX6_give_12 kJ13_bitCount_95d88 mX6_190 ⟨by decide, by decide⟩ rfl rfl (Nat.le_of_ble_eq_true rfl) rfl (h.mono fun vr I4 J4 h => ?_)
    obtain ⟨r2, rfl, h⟩ := h
    show rr pgX zX6_give 15 _ [.int r2, .int r1, .int v5] _ _ _
    refine rr_iadd dX6_give_15 rfl ?_
    refine rr_icmp_eq (tgt := 21) dX6_give_16 (by decide) rfl ⟨fun hc => ?_, fun hc => ?_⟩
    · have h := h.1 hc
      refine rr_aload_n dX6_give_21 rfl 0 rfl rfl ?_
      refine rr_getR dX6_give_22 fX6_12 (by decide) rfl rfl rfl ?_
      refine rr_lload_n dX6_give_25 rfl 1 rfl rfl ?_
      refine rr_putJ dX6_give_26 pX6_116 (by decide) rfl rfl rfl ?_
      refine rr_letJ (fun J5 hJ5 => ?_)
      have h := h J5 hJ5
      refine rr_aload_n dX6_give_29 rfl 0 rfl rfl ?_
      refine rr_getR dX6_give_30 fX6_12 (by decide) rfl rfl rfl ?_
      refine rr_lload_n dX6_give_33 rfl 2 rfl rfl ?_
      refine rr_putJ dX6_give_34 pX6_120 (by decide) rfl rfl rfl ?_
      refine rr_letJ (fun J6 hJ6 => ?_)
      have h := h J6 hJ6
      refine rr_aload_n dX6_give_37 rfl 0 rfl rfl ?_
      refine rr_iload dX6_give_38 3 rfl rfl ?_
      refine rr_if_eq (tgt := 47) dX6_give_40 (by decide) rfl ⟨fun hc => ?_, fun hc => ?_⟩
      · have h := h.1 hc
        refine rr_iconst (v := (0 : Int32)) dX6_give_47 (by decide) rfl ?_
        refine rr_putZ dX6_give_48 pX6_113 (by decide) rfl rfl ⟨rfl, rfl⟩ rfl ?_
        refine rr_letI (fun I5 hI5 => ?_)
        have h := h I5 hI5
        refine rr_iconst (v := (1 : Int32)) dX6_give_51 (by decide) rfl ?_
        exact rr_zret dX6_give_52 rfl rfl h
      · have h := h.2 hc
        refine rr_iconst (v := (1 : Int32)) dX6_give_43 (by decide) rfl ?_
        refine rr_goto (tgt := 48) dX6_give_44 (by decide) ?_
        refine rr_putZ dX6_give_48 pX6_113 (by decide) rfl rfl ⟨rfl, rfl⟩ rfl ?_
        refine rr_letI (fun I6 hI6 => ?_)
        have h := h I6 hI6
        refine rr_iconst (v := (1 : Int32)) dX6_give_51 (by decide) rfl ?_
        exact rr_zret dX6_give_52 rfl rfl h
    · have h := h.2 hc
      refine rr_iconst (v := (0 : Int32)) dX6_give_19 (by decide) rfl ?_
      exact rr_zret dX6_give_20 rfl rfl h

def l_X6_blame_10 (I : tg_I) (J : tg_J) (P : Option Value → tg_I → tg_J → Prop) (v1 : Int32) (v2 : Int32) : Prop := rr pgX zX6_blame 10 [(0, .ref 39), (1, .int v1), (2, .int v2)] [] I J P
theorem e_X6_blame {I : tg_I} {J : tg_J} {P : Option Value → tg_I → tg_J → Prop} (v1 : Int32) (h :
  call pgX zX0_add [.ref 41, .int v1] I J (fun vr I1 J1 => vr = none ∧
  (l_X6_blame_10 I1 J1 P v1 ((0 : Int32))))) : call pgX zX6_blame [.ref 39, .int v1] I J P := by
  refine call_of (by decide +kernel) (fun _ => Nat.le_of_ble_eq_true rfl) ?_
  show rr pgX zX6_blame 0 [(0, .ref 39), (1, .int v1)] [] I J P
  refine rr_aload_n dX6_blame_0 rfl 0 rfl rfl ?_
  refine rr_getR dX6_blame_1 fX6_18 (by decide) rfl rfl rfl ?_
  refine rr_iload_n dX6_blame_4 rfl 1 rfl rfl ?_
  refine rr_V [.int v1] [] dX6_blame_5 kX0_add mX6_183 ⟨by decide, by decide⟩ (by decide) rfl rfl rfl (Nat.le_of_ble_eq_true rfl) rfl (h.mono fun vr I1 J1 h => ?_)
  obtain ⟨rfl, h⟩ := h
  show rr pgX zX6_blame 8 _ [] _ _ _
  refine rr_iconst (v := (0 : Int32)) dX6_blame_8 (by decide) rfl ?_
  refine rr_istore_n (lv' := [(2, .int (0 : Int32)), (0, .ref 39), (1, .int v1)]) dX6_blame_9 rfl (by decide) rfl rfl ?_
  exact rr.sub [1, 2, 0] rfl h
theorem s_X6_blame_10 {I : tg_I} {J : tg_J} {P : Option Value → tg_I → tg_J → Prop} (v1 : Int32) (v2 : Int32) (h :
  ∃ b112 : Nat, (I 39 9).toNatClampNeg = b112 ∧ isBd b112 ∧
  vp_in v1 100 ∧
  (((I (b112 + 5) (Int32.toNatClampNeg v1)) ≤ v2 →
   P none I J) ∧
  (¬ (I (b112 + 5) (Int32.toNatClampNeg v1)) ≤ v2 →
   ∃ b127 : Nat, (I 39 9).toNatClampNeg = b127 ∧ isBd b127 ∧
    vp_in ((v1 * (8 : Int32)) + v2) 800 ∧
    (∀ x1, x1 = (I (b127 + 4) (Int32.toNatClampNeg ((v1 * (8 : Int32)) + v2))) →
    ∃ b145 : Nat, (I 39 9).toNatClampNeg = b145 ∧ isBd b145 ∧
    call pgX zX0_has [.ref (b145 + 8), .int x1] I J (fun vr I1 J1 => ∃ r1 : Int32, vr = some (.int r1) ∧
    ((r1 = 0 →
     l_X6_blame_10 I1 J1 P v1 ((v2 + (1 : Int32)))) ∧
    (¬ r1 = 0 →
     call pgX zX0_has [.ref 44, .int x1] I1 J1 (fun vr I2 J2 => ∃ r2 : Int32, vr = some (.int r2) ∧
      ((¬ r2 = 0 →
       l_X6_blame_10 I2 J2 P v1 ((v2 + (1 : Int32)))) ∧
      (r2 = 0 →
       vp_in x1 100 ∧
        (∀ J3, J3 = u2 J2 41 0 ((J2 41 0) ||| (J2 42 (Int32.toNatClampNeg x1))) →
        vp_in x1 100 ∧
        (∀ J4, J4 = u2 J3 41 1 ((J3 41 1) ||| (J3 43 (Int32.toNatClampNeg x1))) →
        l_X6_blame_10 I2 J4 P v1 ((v2 + (1 : Int32))))))))))))))) : l_X6_blame_10 I J P v1 v2 := by
  show rr pgX zX6_blame 10 [(0, .ref 39), (1, .int v1), (2, .int v2)] [] I J P
  refine rr_iload_n dX6_blame_10 rfl 2 rfl rfl ?_
  refine rr_aload_n dX6_blame_11 rfl 0 rfl rfl ?_
  obtain ⟨b112, hvb112, hb112, h⟩ := h
  refine rr_getV dX6_blame_12 fX6_34 (by decide) rfl rfl hvb112 rfl ?_
  refine rr_getR dX6_blame_15 fX6_68 (bd_lt0 hb112) (bd_0 hb112) rfl rfl ?_
  refine rr_getR dX6_blame_18 fX6_160 (bd_lt hb112 (by decide)) (bd_1 hb112) rfl rfl ?_
  refine rr_iload_n dX6_blame_21 rfl 1 rfl rfl ?_
  refine rr_iald dX6_blame_22 (bd_lt hb112 (by decide)) (bd_5 hb112) rfl ⟨h.1, ?_⟩
  have h := h.2
  refine rr_icmp_ge (tgt := 111) dX6_blame_23 (by decide) rfl ⟨fun hc => ?_, fun hc => ?_⟩
  · have h := h.1 hc
    exact rr_vret dX6_blame_111 rfl h
  · have h := h.2 hc
    refine rr_aload_n dX6_blame_26 rfl 0 rfl rfl ?_
    obtain ⟨b127, hvb127, hb127, h⟩ := h
    refine rr_getV dX6_blame_27 fX6_34 (by decide) rfl rfl hvb127 rfl ?_
    refine rr_getR dX6_blame_30 fX6_68 (bd_lt0 hb127) (bd_0 hb127) rfl rfl ?_
    refine rr_getR dX6_blame_33 fX6_164 (bd_lt hb127 (by decide)) (bd_1 hb127) rfl rfl ?_
    refine rr_iload_n dX6_blame_36 rfl 1 rfl rfl ?_
    refine rr_bipush (v := (8 : Int32)) dX6_blame_37 (by decide) rfl ?_
    refine rr_imul dX6_blame_39 rfl ?_
    refine rr_iload_n dX6_blame_40 rfl 2 rfl rfl ?_
    refine rr_iadd dX6_blame_41 rfl ?_
    refine rr_iald dX6_blame_42 (bd_lt hb127 (by decide)) (bd_4 hb127) rfl ⟨h.1, ?_⟩
    have h := h.2
    refine rr_letTi (fun x1 hx1 => ?_)
    have h := h x1 hx1
    refine rr_istore_n (lv' := [(3, .int x1), (0, .ref 39), (1, .int v1), (2, .int v2)]) dX6_blame_43 rfl (by decide) rfl rfl ?_
    refine rr_aload_n dX6_blame_44 rfl 1 rfl rfl ?_
    obtain ⟨b145, hvb145, hb145, h⟩ := h
    refine rr_getV dX6_blame_45 fX6_34 (by decide) rfl rfl hvb145 rfl ?_
    refine rr_getR dX6_blame_48 fX6_42 (bd_lt0 hb145) (bd_0 hb145) rfl rfl ?_
    refine rr_iload_n dX6_blame_51 rfl 0 rfl rfl ?_
    refine rr_V [.int x1] [] dX6_blame_52 kX0_has mX6_81 ⟨by decide, by decide⟩ (bd_lt hb145 (by decide)) (bd_8 hb145) rfl rfl (Nat.le_of_ble_eq_true rfl) rfl (h.mono fun vr I1 J1 h => ?_)
    obtain ⟨r1, rfl, h⟩ := h
    show rr pgX zX6_blame 55 _ [.int r1] _ _ _
    refine rr_if_eq (tgt := 105) dX6_blame_55 (by decide) rfl ⟨fun hc => ?_, fun hc => ?_⟩
    · have h := h.1 hc
      refine rr_iinc (k := 3) (v := (v2 + (1 : Int32))) (lv' := [(2, .int (v2 + (1 : Int32))), (3, .int x1), (0, .ref 39), (1, .int v1)]) dX6_blame_105 rfl rfl (by decide) rfl rfl ?_
      refine rr_goto (tgt := 10) dX6_blame_108 (by decide) ?_
      exact rr.sub [2, 3, 0] rfl h
    · have h := h.2 hc
      refine rr_aload_n dX6_blame_58 rfl 1 rfl rfl ?_
      refine rr_getR dX6_blame_59 fX6_28 (by decide) rfl rfl rfl ?_
      refine rr_iload_n dX6_blame_62 rfl 0 rfl rfl ?_
      refine rr_V [.int x1] [] dX6_blame_63 kX0_has mX6_81 ⟨by decide, by decide⟩ (by decide) rfl rfl rfl (Nat.le_of_ble_eq_true rfl) rfl (h.mono fun vr I2 J2 h => ?_)
      obtain ⟨r2, rfl, h⟩ := h
      show rr pgX zX6_blame 66 _ [.int r2] _ _ _
      refine rr_if_ne (tgt := 105) dX6_blame_66 (by decide) rfl ⟨fun hc => ?_, fun hc => ?_⟩
      · have h := h.1 hc
        refine rr_iinc (k := 3) (v := (v2 + (1 : Int32))) (lv' := [(2, .int (v2 + (1 : Int32))), (3, .int x1), (0, .ref 39), (1, .int v1)]) dX6_blame_105 rfl rfl (by decide) rfl rfl ?_
        refine rr_goto (tgt := 10) dX6_blame_108 (by decide) ?_
        exact rr.sub [2, 3, 0] rfl h
      · have h := h.2 hc
        refine rr_aload_n dX6_blame_69 rfl 1 rfl rfl ?_
        refine rr_getR dX6_blame_70 fX6_18 (by decide) rfl rfl rfl ?_
        refine rr_dup dX6_blame_73 rfl rfl ?_
        refine rr_getJ dX6_blame_74 fX6_116 (by decide) rfl rfl rfl ?_
        refine rr_aload_n dX6_blame_77 rfl 1 rfl rfl ?_
        refine rr_getR dX6_blame_78 fX6_21 (by decide) rfl rfl rfl ?_
        refine rr_iload_n dX6_blame_81 rfl 0 rfl rfl ?_
        refine rr_lald dX6_blame_82 (by decide) rfl rfl ⟨h.1, ?_⟩
        have h := h.2
        refine rr_lor dX6_blame_83 rfl ?_
        refine rr_putJ dX6_blame_84 pX6_116 (by decide) rfl rfl rfl ?_
        refine rr_letJ (fun J3 hJ3 => ?_)
        have h := h J3 hJ3
        refine rr_aload_n dX6_blame_87 rfl 1 rfl rfl ?_
        refine rr_getR dX6_blame_88 fX6_18 (by decide) rfl rfl rfl ?_
        refine rr_dup dX6_blame_91 rfl rfl ?_
        refine rr_getJ dX6_blame_92 fX6_120 (by decide) rfl rfl rfl ?_
        refine rr_aload_n dX6_blame_95 rfl 1 rfl rfl ?_
        refine rr_getR dX6_blame_96 fX6_25 (by decide) rfl rfl rfl ?_
        refine rr_iload_n dX6_blame_99 rfl 0 rfl rfl ?_
        refine rr_lald dX6_blame_100 (by decide) rfl rfl ⟨h.1, ?_⟩
        have h := h.2
        refine rr_lor dX6_blame_101 rfl ?_
        refine rr_putJ dX6_blame_102 pX6_120 (by decide) rfl rfl rfl ?_
        refine rr_letJ (fun J4 hJ4 => ?_)
        have h := h J4 hJ4
        refine rr_iinc (k := 3) (v := (v2 + (1 : Int32))) (lv' := [(2, .int (v2 + (1 : Int32))), (3, .int x1), (0, .ref 39), (1, .int v1)]) dX6_blame_105 rfl rfl (by decide) rfl rfl ?_
        refine rr_goto (tgt := 10) dX6_blame_108 (by decide) ?_
        exact rr.sub [2, 3, 0] rfl h

def l_X3_prepare_51 (I : tg_I) (J : tg_J) (P : Option Value → tg_I → tg_J → Prop) (v4 : Int32) : Prop := rr pgX zX3_prepare 51 [(0, .ref 46), (4, .int v4)] [] I J P
theorem e_X3_prepare {I : tg_I} {J : tg_J} {P : Option Value → tg_I → tg_J → Prop} (v1 : Int32) (v2 : Int32) (v3 : Int32) (h :
  call pgX zX1_start [.ref 47, .int v1, .int v2, .int v3] I J (fun vr I1 J1 => vr = none ∧
  (∀ I2, I2 = u2 I1 46 4 (((v2 >>> ((1 : Int32) &&& 31)) * v1) + (v1 >>> ((1 : Int32) &&& 31))) →
  call pgX zX0_copy [.ref 61, .ref 53] I2 J1 (fun vr I3 J2 => vr = none ∧
  (call pgX zX0_drop [.ref 61, .int (I3 46 4)] I3 J2 (fun vr I4 J3 => vr = none ∧
  (l_X3_prepare_51 I4 J3 P ((0 : Int32))))))))) : call pgX zX3_prepare [.ref 46, .int v1, .int v2, .int v3] I J P := by
  refine call_of (by decide +kernel) (fun _ => Nat.le_of_ble_eq_true rfl) ?_
  show rr pgX zX3_prepare 0 [(0, .ref 46), (1, .int v1), (2, .int v2), (3, .int v3)] [] I J P
  refine rr_aload_n dX3_prepare_0 rfl 0 rfl rfl ?_
  refine rr_getR dX3_prepare_1 fX3_12 (by decide) rfl rfl rfl ?_
  refine rr_iload_n dX3_prepare_4 rfl 1 rfl rfl ?_
  refine rr_iload_n dX3_prepare_5 rfl 2 rfl rfl ?_
  refine rr_iload_n dX3_prepare_6 rfl 3 rfl rfl ?_
  refine rr_V [.int v1, .int v2, .int v3] [] dX3_prepare_7 kX1_start mX3_29 ⟨by decide, by decide⟩ (by decide) rfl rfl rfl (Nat.le_of_ble_eq_true rfl) rfl (h.mono fun vr I1 J1 h => ?_)
  obtain ⟨rfl, h⟩ := h
  show rr pgX zX3_prepare 10 _ [] _ _ _
  refine rr_aload_n dX3_prepare_10 rfl 0 rfl rfl ?_
  refine rr_iload_n dX3_prepare_11 rfl 2 rfl rfl ?_
  refine rr_iconst (v := (1 : Int32)) dX3_prepare_12 (by decide) rfl ?_
  refine rr_ishr dX3_prepare_13 rfl ?_
  refine rr_iload_n dX3_prepare_14 rfl 1 rfl rfl ?_
  refine rr_imul dX3_prepare_15 rfl ?_
  refine rr_iload_n dX3_prepare_16 rfl 1 rfl rfl ?_
  refine rr_iconst (v := (1 : Int32)) dX3_prepare_17 (by decide) rfl ?_
  refine rr_ishr dX3_prepare_18 rfl ?_
  refine rr_iadd dX3_prepare_19 rfl ?_
  refine rr_putI dX3_prepare_20 pX3_33 (by decide) rfl rfl rfl ?_
  refine rr_letI (fun I2 hI2 => ?_)
  have h := h I2 hI2
  refine rr_aload_n dX3_prepare_23 rfl 0 rfl rfl ?_
  refine rr_getR dX3_prepare_24 fX3_21 (by decide) rfl rfl rfl ?_
  refine rr_aload_n dX3_prepare_27 rfl 0 rfl rfl ?_
  refine rr_getR dX3_prepare_28 fX3_12 (by decide) rfl rfl rfl ?_
  refine rr_getR dX3_prepare_31 fX3_37 (by decide) rfl rfl rfl ?_
  refine rr_V [.ref 53] [] dX3_prepare_34 kX0_copy mX3_40 ⟨by decide, by decide⟩ (by decide) rfl rfl rfl (Nat.le_of_ble_eq_true rfl) rfl (h.mono fun vr I3 J2 h => ?_)
  obtain ⟨rfl, h⟩ := h
  show rr pgX zX3_prepare 37 _ [] _ _ _
  refine rr_aload_n dX3_prepare_37 rfl 0 rfl rfl ?_
  refine rr_getR dX3_prepare_38 fX3_21 (by decide) rfl rfl rfl ?_
  refine rr_aload_n dX3_prepare_41 rfl 0 rfl rfl ?_
  refine rr_getI dX3_prepare_42 fX3_33 (by decide) rfl rfl rfl ?_
  refine rr_V [.int (I3 46 4)] [] dX3_prepare_45 kX0_drop mX3_44 ⟨by decide, by decide⟩ (by decide) rfl rfl rfl (Nat.le_of_ble_eq_true rfl) rfl (h.mono fun vr I4 J3 h => ?_)
  obtain ⟨rfl, h⟩ := h
  show rr pgX zX3_prepare 48 _ [] _ _ _
  refine rr_iconst (v := (0 : Int32)) dX3_prepare_48 (by decide) rfl ?_
  refine rr_istore (lv' := [(4, .int (0 : Int32)), (0, .ref 46), (1, .int v1), (2, .int v2), (3, .int v3)]) dX3_prepare_49 (by decide) rfl rfl ?_
  exact rr.sub [1, 0] rfl h
theorem s_X3_prepare_51 {I : tg_I} {J : tg_J} {P : Option Value → tg_I → tg_J → Prop} (v4 : Int32) (h :
  vp_in (I 46 4) 100 ∧
  (((I 52 (Int32.toNatClampNeg (I 46 4))) ≤ v4 →
   P none I J) ∧
  (¬ (I 52 (Int32.toNatClampNeg (I 46 4))) ≤ v4 →
   vp_in (((I 46 4) * (8 : Int32)) + v4) 800 ∧
    (call pgX zX0_drop [.ref 61, .int (I 51 (Int32.toNatClampNeg (((I 46 4) * (8 : Int32)) + v4)))] I J (fun vr I1 J1 => vr = none ∧
    (l_X3_prepare_51 I1 J1 P ((v4 + (1 : Int32))))))))) : l_X3_prepare_51 I J P v4 := by
  show rr pgX zX3_prepare 51 [(0, .ref 46), (4, .int v4)] [] I J P
  refine rr_iload dX3_prepare_51 1 rfl rfl ?_
  refine rr_aload_n dX3_prepare_53 rfl 0 rfl rfl ?_
  refine rr_getR dX3_prepare_54 fX3_12 (by decide) rfl rfl rfl ?_
  refine rr_getR dX3_prepare_57 fX3_48 (by decide) rfl rfl rfl ?_
  refine rr_getR dX3_prepare_60 fX3_52 (by decide) rfl rfl rfl ?_
  refine rr_aload_n dX3_prepare_63 rfl 0 rfl rfl ?_
  refine rr_getI dX3_prepare_64 fX3_33 (by decide) rfl rfl rfl ?_
  refine rr_iald dX3_prepare_67 (by decide) rfl rfl ⟨h.1, ?_⟩
  have h := h.2
  refine rr_icmp_ge (tgt := 105) dX3_prepare_68 (by decide) rfl ⟨fun hc => ?_, fun hc => ?_⟩
  · have h := h.1 hc
    exact rr_vret dX3_prepare_105 rfl h
  · have h := h.2 hc
    refine rr_aload_n dX3_prepare_71 rfl 0 rfl rfl ?_
    refine rr_getR dX3_prepare_72 fX3_21 (by decide) rfl rfl rfl ?_
    refine rr_aload_n dX3_prepare_75 rfl 0 rfl rfl ?_
    refine rr_getR dX3_prepare_76 fX3_12 (by decide) rfl rfl rfl ?_
    refine rr_getR dX3_prepare_79 fX3_48 (by decide) rfl rfl rfl ?_
    refine rr_getR dX3_prepare_82 fX3_58 (by decide) rfl rfl rfl ?_
    refine rr_aload_n dX3_prepare_85 rfl 0 rfl rfl ?_
    refine rr_getI dX3_prepare_86 fX3_33 (by decide) rfl rfl rfl ?_
    refine rr_bipush (v := (8 : Int32)) dX3_prepare_89 (by decide) rfl ?_
    refine rr_imul dX3_prepare_91 rfl ?_
    refine rr_iload dX3_prepare_92 1 rfl rfl ?_
    refine rr_iadd dX3_prepare_94 rfl ?_
    refine rr_iald dX3_prepare_95 (by decide) rfl rfl ⟨h.1, ?_⟩
    have h := h.2
    refine rr_V [.int (I 51 (Int32.toNatClampNeg (((I 46 4) * (8 : Int32)) + v4)))] [] dX3_prepare_96 kX0_drop mX3_44 ⟨by decide, by decide⟩ (by decide) rfl rfl rfl (Nat.le_of_ble_eq_true rfl) rfl (h.mono fun vr I1 J1 h => ?_)
    obtain ⟨rfl, h⟩ := h
    show rr pgX zX3_prepare 99 _ [] _ _ _
    refine rr_iinc (k := 1) (v := (v4 + (1 : Int32))) (lv' := [(4, .int (v4 + (1 : Int32))), (0, .ref 46)]) dX3_prepare_99 rfl rfl (by decide) rfl rfl ?_
    refine rr_goto (tgt := 51) dX3_prepare_102 (by decide) ?_
    exact rr.sub [1, 0] rfl h

def l_X3_draw_8 (I : tg_I) (J : tg_J) (P : Option Value → tg_I → tg_J → Prop) (v1 : Int32) (v3 : Int32) (v4 : Int32) : Prop := rr pgX zX3_draw 8 [(0, .ref 46), (1, .int v1), (3, .int v3), (4, .int v4)] [] I J P
theorem e_X3_draw {I : tg_I} {J : tg_J} {P : Option Value → tg_I → tg_J → Prop} (v1 : Int32) (v2 : Int32) (h :
  ∀ x1, x1 = (v2 &&& (2147483647 : Int32)) →
  l_X3_draw_8 I J P v1 x1 ((0 : Int32))) : call pgX zX3_draw [.ref 46, .int v1, .int v2] I J P := by
  refine call_of (by decide +kernel) (fun _ => Nat.le_of_ble_eq_true rfl) ?_
  show rr pgX zX3_draw 0 [(0, .ref 46), (1, .int v1), (2, .int v2)] [] I J P
  refine rr_iload_n dX3_draw_0 rfl 2 rfl rfl ?_
  refine rr_ldc dX3_draw_1 qX3_61 rfl ?_
  refine rr_iand dX3_draw_3 rfl ?_
  refine rr_letTi (fun x1 hx1 => ?_)
  have h := h x1 hx1
  refine rr_istore_n (lv' := [(3, .int x1), (0, .ref 46), (1, .int v1), (2, .int v2)]) dX3_draw_4 rfl (by decide) rfl rfl ?_
  refine rr_iconst (v := (0 : Int32)) dX3_draw_5 (by decide) rfl ?_
  refine rr_istore (lv' := [(4, .int (0 : Int32)), (3, .int x1), (0, .ref 46), (1, .int v1), (2, .int v2)]) dX3_draw_6 (by decide) rfl rfl ?_
  exact rr.sub [2, 3, 1, 0] rfl h
theorem s_X3_draw_8 {I : tg_I} {J : tg_J} {P : Option Value → tg_I → tg_J → Prop} (v1 : Int32) (v3 : Int32) (v4 : Int32) (h :
  (v1 ≤ v4 →
   P none I J) ∧
  (¬ v1 ≤ v4 →
   ∀ x1, x1 = ((((1103515245 : Int32) * v3) + (12345 : Int32)) &&& (2147483647 : Int32)) →
    call pgX zX0_size [.ref 61] I J (fun vr I1 J1 => ∃ r1 : Int32, vr = some (.int r1) ∧
    ((r1 ≤ 0 →
     l_X3_draw_8 I1 J1 P v1 x1 ((v4 + (1 : Int32)))) ∧
    (¬ r1 ≤ 0 →
     ¬ r1 = 0 ∧
      (call pgX zX0_nth [.ref 61, .int (((x1.toUInt32 >>> ((16 : Int32).toUInt32 &&& Int32.toUInt32 31)).toInt32) - ((x1.toUInt32 >>> ((16 : Int32).toUInt32 &&& Int32.toUInt32 31)).toInt32) / r1 * r1), .int (I1 48 7)] I1 J1 (fun vr I2 J2 => ∃ r2 : Int32, vr = some (.int r2) ∧
      ((r2 < 0 →
       l_X3_draw_8 I2 J2 P v1 x1 ((v4 + (1 : Int32)))) ∧
      (¬ r2 < 0 →
       call pgX zX0_add [.ref 54, .int r2] I2 J2 (fun vr I3 J3 => vr = none ∧
        (call pgX zX0_drop [.ref 61, .int r2] I3 J3 (fun vr I4 J4 => vr = none ∧
        (l_X3_draw_8 I4 J4 P v1 x1 ((v4 + (1 : Int32)))))))))))))))) : l_X3_draw_8 I J P v1 v3 v4 := by
  show rr pgX zX3_draw 8 [(0, .ref 46), (1, .int v1), (3, .int v3), (4, .int v4)] [] I J P
  refine rr_iload dX3_draw_8 3 rfl rfl ?_
  refine rr_iload_n dX3_draw_10 rfl 1 rfl rfl ?_
  refine rr_icmp_ge (tgt := 102) dX3_draw_11 (by decide) rfl ⟨fun hc => ?_, fun hc => ?_⟩
  · have h := h.1 hc
    exact rr_vret dX3_draw_102 rfl h
  · have h := h.2 hc
    refine rr_ldc dX3_draw_14 qX3_62 rfl ?_
    refine rr_iload_n dX3_draw_16 rfl 2 rfl rfl ?_
    refine rr_imul dX3_draw_17 rfl ?_
    refine rr_sipush (v := (12345 : Int32)) dX3_draw_18 (by decide) rfl ?_
    refine rr_iadd dX3_draw_21 rfl ?_
    refine rr_ldc dX3_draw_22 qX3_61 rfl ?_
    refine rr_iand dX3_draw_24 rfl ?_
    refine rr_letTi (fun x1 hx1 => ?_)
    have h := h x1 hx1
    refine rr_istore_n (lv' := [(3, .int x1), (0, .ref 46), (1, .int v1), (4, .int v4)]) dX3_draw_25 rfl (by decide) rfl rfl ?_
    refine rr_aload_n dX3_draw_26 rfl 1 rfl rfl ?_
    refine rr_getR dX3_draw_27 fX3_21 (by decide) rfl rfl rfl ?_
    refine rr_V [] [] dX3_draw_30 kX0_size mX3_63 ⟨by decide, by decide⟩ (by decide) rfl rfl rfl (Nat.le_of_ble_eq_true rfl) rfl (h.mono fun vr I1 J1 h => ?_)
    obtain ⟨r1, rfl, h⟩ := h
    show rr pgX zX3_draw 33 _ [.int r1] _ _ _
    refine rr_istore (lv' := [(5, .int r1), (3, .int x1), (0, .ref 46), (1, .int v1), (4, .int v4)]) dX3_draw_33 (by decide) rfl rfl ?_
    refine rr_iload dX3_draw_35 0 rfl rfl ?_
    refine rr_if_le (tgt := 67) dX3_draw_37 (by decide) rfl ⟨fun hc => ?_, fun hc => ?_⟩
    · have h := h.1 hc
      refine rr_iconst (v := (-1 : Int32)) dX3_draw_67 (by decide) rfl ?_
      refine rr_istore (lv' := [(6, .int (-1 : Int32)), (5, .int r1), (3, .int x1), (0, .ref 46), (1, .int v1), (4, .int v4)]) dX3_draw_68 (by decide) rfl rfl ?_
      refine rr_iload dX3_draw_70 0 rfl rfl ?_
      refine rr_if_lt (tgt := 96) dX3_draw_72 (by decide) rfl ⟨fun _ => ?_, fun hc => absurd hc (by decide)⟩
      refine rr_iinc (k := 5) (v := (v4 + (1 : Int32))) (lv' := [(4, .int (v4 + (1 : Int32))), (6, .int (-1 : Int32)), (5, .int r1), (3, .int x1), (0, .ref 46), (1, .int v1)]) dX3_draw_96 rfl rfl (by decide) rfl rfl ?_
      refine rr_goto (tgt := 8) dX3_draw_99 (by decide) ?_
      exact rr.sub [4, 5, 3, 0] rfl h
    · have h := h.2 hc
      refine rr_aload_n dX3_draw_40 rfl 2 rfl rfl ?_
      refine rr_getR dX3_draw_41 fX3_21 (by decide) rfl rfl rfl ?_
      refine rr_iload_n dX3_draw_44 rfl 1 rfl rfl ?_
      refine rr_bipush (v := (16 : Int32)) dX3_draw_45 (by decide) rfl ?_
      refine rr_iushr dX3_draw_47 rfl ?_
      refine rr_iload dX3_draw_48 0 rfl rfl ?_
      refine rr_irem dX3_draw_50 h.1 rfl ?_
      have h := h.2
      refine rr_aload_n dX3_draw_51 rfl 2 rfl rfl ?_
      refine rr_getR dX3_draw_52 fX3_12 (by decide) rfl rfl rfl ?_
      refine rr_getR dX3_draw_55 fX3_48 (by decide) rfl rfl rfl ?_
      refine rr_getI dX3_draw_58 fX3_67 (by decide) rfl rfl rfl ?_
      refine rr_V [.int (((x1.toUInt32 >>> ((16 : Int32).toUInt32 &&& Int32.toUInt32 31)).toInt32) - ((x1.toUInt32 >>> ((16 : Int32).toUInt32 &&& Int32.toUInt32 31)).toInt32) / r1 * r1), .int (I1 48 7)] [] dX3_draw_61 kX0_nth mX3_70 ⟨by decide, by decide⟩ (by decide) rfl rfl rfl (Nat.le_of_ble_eq_true rfl) rfl (h.mono fun vr I2 J2 h => ?_)
      obtain ⟨r2, rfl, h⟩ := h
      show rr pgX zX3_draw 64 _ [.int r2] _ _ _
      refine rr_goto (tgt := 68) dX3_draw_64 (by decide) ?_
      refine rr_istore (lv' := [(6, .int r2), (5, .int r1), (3, .int x1), (0, .ref 46), (1, .int v1), (4, .int v4)]) dX3_draw_68 (by decide) rfl rfl ?_
      refine rr_iload dX3_draw_70 0 rfl rfl ?_
      refine rr_if_lt (tgt := 96) dX3_draw_72 (by decide) rfl ⟨fun hc => ?_, fun hc => ?_⟩
      · have h := h.1 hc
        refine rr_iinc (k := 5) (v := (v4 + (1 : Int32))) (lv' := [(4, .int (v4 + (1 : Int32))), (6, .int r2), (5, .int r1), (3, .int x1), (0, .ref 46), (1, .int v1)]) dX3_draw_96 rfl rfl (by decide) rfl rfl ?_
        refine rr_goto (tgt := 8) dX3_draw_99 (by decide) ?_
        exact rr.sub [4, 5, 3, 0] rfl h
      · have h := h.2 hc
        refine rr_aload_n dX3_draw_75 rfl 3 rfl rfl ?_
        refine rr_getR dX3_draw_76 fX3_12 (by decide) rfl rfl rfl ?_
        refine rr_getR dX3_draw_79 fX3_74 (by decide) rfl rfl rfl ?_
        refine rr_iload dX3_draw_82 0 rfl rfl ?_
        refine rr_V [.int r2] [] dX3_draw_84 kX0_add mX3_77 ⟨by decide, by decide⟩ (by decide) rfl rfl rfl (Nat.le_of_ble_eq_true rfl) rfl (h.mono fun vr I3 J3 h => ?_)
        obtain ⟨rfl, h⟩ := h
        show rr pgX zX3_draw 87 _ [] _ _ _
        refine rr_aload_n dX3_draw_87 rfl 3 rfl rfl ?_
        refine rr_getR dX3_draw_88 fX3_21 (by decide) rfl rfl rfl ?_
        refine rr_iload dX3_draw_91 0 rfl rfl ?_
        refine rr_V [.int r2] [] dX3_draw_93 kX0_drop mX3_44 ⟨by decide, by decide⟩ (by decide) rfl rfl rfl (Nat.le_of_ble_eq_true rfl) rfl (h.mono fun vr I4 J4 h => ?_)
        obtain ⟨rfl, h⟩ := h
        show rr pgX zX3_draw 96 _ [] _ _ _
        refine rr_iinc (k := 5) (v := (v4 + (1 : Int32))) (lv' := [(4, .int (v4 + (1 : Int32))), (6, .int r2), (5, .int r1), (3, .int x1), (0, .ref 46), (1, .int v1)]) dX3_draw_96 rfl rfl (by decide) rfl rfl ?_
        refine rr_goto (tgt := 8) dX3_draw_99 (by decide) ?_
        exact rr.sub [4, 5, 3, 0] rfl h

def l_X3_mendToClear_7 (I : tg_I) (J : tg_J) (P : Option Value → tg_I → tg_J → Prop) (v1 : Int32) (v2 : Int32) : Prop := rr pgX zX3_mendToClear 7 [(0, .ref 46), (1, .int v1), (2, .int v2)] [] I J P
theorem e_X3_mendToClear {I : tg_I} {J : tg_J} {P : Option Value → tg_I → tg_J → Prop} (v1 : Int32) (h :
  ∀ I1, I1 = u2 I 46 2 (0 : Int32) →
  l_X3_mendToClear_7 I1 J P v1 ((0 : Int32))) : call pgX zX3_mendToClear [.ref 46, .int v1] I J P := by
  refine call_of (by decide +kernel) (fun _ => Nat.le_of_ble_eq_true rfl) ?_
  show rr pgX zX3_mendToClear 0 [(0, .ref 46), (1, .int v1)] [] I J P
  refine rr_aload_n dX3_mendToClear_0 rfl 0 rfl rfl ?_
  refine rr_iconst (v := (0 : Int32)) dX3_mendToClear_1 (by decide) rfl ?_
  refine rr_putI dX3_mendToClear_2 pX3_80 (by decide) rfl rfl rfl ?_
  refine rr_letI (fun I1 hI1 => ?_)
  have h := h I1 hI1
  refine rr_iconst (v := (0 : Int32)) dX3_mendToClear_5 (by decide) rfl ?_
  refine rr_istore_n (lv' := [(2, .int (0 : Int32)), (0, .ref 46), (1, .int v1)]) dX3_mendToClear_6 rfl (by decide) rfl rfl ?_
  exact rr.sub [1, 2, 0] rfl h
theorem s_X3_mendToClear_7 {I : tg_I} {J : tg_J} {P : Option Value → tg_I → tg_J → Prop} (v1 : Int32) (v2 : Int32) (h :
  ((40 : Int32) < v2 →
   P (some (.int (0 : Int32))) I J) ∧
  (¬ (40 : Int32) < v2 →
   call pgX zX3_play [.ref 46, .int v1] I J (fun vr I1 J1 => ∃ r1 : Int32, vr = some (.int r1) ∧
    ((r1 = 0 →
     (v2 = (40 : Int32) →
       P (some (.int (0 : Int32))) I1 J1) ∧
      (¬ v2 = (40 : Int32) →
       call pgX zX3_mend [.ref 46] I1 J1 (fun vr I2 J2 => ∃ r2 : Int32, vr = some (.int r2) ∧
        ((¬ r2 = 0 →
         ∀ I3, I3 = u2 I2 46 2 ((I2 46 2) + (1 : Int32)) →
          l_X3_mendToClear_7 I3 J2 P v1 ((v2 + (1 : Int32)))) ∧
        (r2 = 0 →
         P (some (.int (0 : Int32))) I2 J2))))) ∧
    (¬ r1 = 0 →
     P (some (.int (1 : Int32))) I1 J1))))) : l_X3_mendToClear_7 I J P v1 v2 := by
  show rr pgX zX3_mendToClear 7 [(0, .ref 46), (1, .int v1), (2, .int v2)] [] I J P
  refine rr_iload_n dX3_mendToClear_7 rfl 2 rfl rfl ?_
  refine rr_bipush (v := (40 : Int32)) dX3_mendToClear_8 (by decide) rfl ?_
  refine rr_icmp_gt (tgt := 54) dX3_mendToClear_10 (by decide) rfl ⟨fun hc => ?_, fun hc => ?_⟩
  · have h := h.1 hc
    refine rr_iconst (v := (0 : Int32)) dX3_mendToClear_54 (by decide) rfl ?_
    exact rr_zret dX3_mendToClear_55 rfl rfl h
  · have h := h.2 hc
    refine rr_aload_n dX3_mendToClear_13 rfl 0 rfl rfl ?_
    refine rr_iload_n dX3_mendToClear_14 rfl 1 rfl rfl ?_
    refine rr_V [.int v1] [] dX3_mendToClear_15 kX3_play mX3_83 ⟨by decide, by decide⟩ (by decide) rfl rfl rfl (Nat.le_of_ble_eq_true rfl) rfl (h.mono fun vr I1 J1 h => ?_)
    obtain ⟨r1, rfl, h⟩ := h
    show rr pgX zX3_mendToClear 18 _ [.int r1] _ _ _
    refine rr_if_eq (tgt := 23) dX3_mendToClear_18 (by decide) rfl ⟨fun hc => ?_, fun hc => ?_⟩
    · have h := h.1 hc
      refine rr_iload_n dX3_mendToClear_23 rfl 2 rfl rfl ?_
      refine rr_bipush (v := (40 : Int32)) dX3_mendToClear_24 (by decide) rfl ?_
      refine rr_icmp_eq (tgt := 36) dX3_mendToClear_26 (by decide) rfl ⟨fun hc => ?_, fun hc => ?_⟩
      · have h := h.1 hc
        refine rr_iconst (v := (0 : Int32)) dX3_mendToClear_36 (by decide) rfl ?_
        exact rr_zret dX3_mendToClear_37 rfl rfl h
      · have h := h.2 hc
        refine rr_aload_n dX3_mendToClear_29 rfl 0 rfl rfl ?_
        refine rr_V [] [] dX3_mendToClear_30 kX3_mend mX3_87 ⟨by decide, by decide⟩ (by decide) rfl rfl rfl (Nat.le_of_ble_eq_true rfl) rfl (h.mono fun vr I2 J2 h => ?_)
        obtain ⟨r2, rfl, h⟩ := h
        show rr pgX zX3_mendToClear 33 _ [.int r2] _ _ _
        refine rr_if_ne (tgt := 38) dX3_mendToClear_33 (by decide) rfl ⟨fun hc => ?_, fun hc => ?_⟩
        · have h := h.1 hc
          refine rr_aload_n dX3_mendToClear_38 rfl 0 rfl rfl ?_
          refine rr_dup dX3_mendToClear_39 rfl rfl ?_
          refine rr_getI dX3_mendToClear_40 fX3_80 (by decide) rfl rfl rfl ?_
          refine rr_iconst (v := (1 : Int32)) dX3_mendToClear_43 (by decide) rfl ?_
          refine rr_iadd dX3_mendToClear_44 rfl ?_
          refine rr_putI dX3_mendToClear_45 pX3_80 (by decide) rfl rfl rfl ?_
          refine rr_letI (fun I3 hI3 => ?_)
          have h := h I3 hI3
          refine rr_iinc (k := 2) (v := (v2 + (1 : Int32))) (lv' := [(2, .int (v2 + (1 : Int32))), (0, .ref 46), (1, .int v1)]) dX3_mendToClear_48 rfl rfl (by decide) rfl rfl ?_
          refine rr_goto (tgt := 7) dX3_mendToClear_51 (by decide) ?_
          exact rr.sub [1, 2, 0] rfl h
        · have h := h.2 hc
          refine rr_iconst (v := (0 : Int32)) dX3_mendToClear_36 (by decide) rfl ?_
          exact rr_zret dX3_mendToClear_37 rfl rfl h
    · have h := h.2 hc
      refine rr_iconst (v := (1 : Int32)) dX3_mendToClear_21 (by decide) rfl ?_
      exact rr_zret dX3_mendToClear_22 rfl rfl h

def l_X3_play_31 (I : tg_I) (J : tg_J) (P : Option Value → tg_I → tg_J → Prop) (v1 : Int32) (v2 : Int32) : Prop := rr pgX zX3_play 31 [(0, .ref 46), (1, .int v1), (2, .int v2)] [] I J P
theorem e_X3_play {I : tg_I} {J : tg_J} {P : Option Value → tg_I → tg_J → Prop} (v1 : Int32) (h :
  call pgX zX1_hideAll [.ref 47] I J (fun vr I1 J1 => vr = none ∧
  (call pgX zX1_uncover [.ref 47, .int (I1 46 4)] I1 J1 (fun vr I2 J2 => vr = none ∧
  (call pgX zX6_begin [.ref 39, .ref 47] I2 J2 (fun vr I3 J3 => vr = none ∧
  (l_X3_play_31 I3 J3 P v1 ((0 : Int32))))))))) : call pgX zX3_play [.ref 46, .int v1] I J P := by
  refine call_of (by decide +kernel) (fun _ => Nat.le_of_ble_eq_true rfl) ?_
  show rr pgX zX3_play 0 [(0, .ref 46), (1, .int v1)] [] I J P
  refine rr_aload_n dX3_play_0 rfl 0 rfl rfl ?_
  refine rr_getR dX3_play_1 fX3_12 (by decide) rfl rfl rfl ?_
  refine rr_V [] [] dX3_play_4 kX1_hideAll mX3_91 ⟨by decide, by decide⟩ (by decide) rfl rfl rfl (Nat.le_of_ble_eq_true rfl) rfl (h.mono fun vr I1 J1 h => ?_)
  obtain ⟨rfl, h⟩ := h
  show rr pgX zX3_play 7 _ [] _ _ _
  refine rr_aload_n dX3_play_7 rfl 0 rfl rfl ?_
  refine rr_getR dX3_play_8 fX3_12 (by decide) rfl rfl rfl ?_
  refine rr_aload_n dX3_play_11 rfl 0 rfl rfl ?_
  refine rr_getI dX3_play_12 fX3_33 (by decide) rfl rfl rfl ?_
  refine rr_V [.int (I1 46 4)] [] dX3_play_15 kX1_uncover mX3_94 ⟨by decide, by decide⟩ (by decide) rfl rfl rfl (Nat.le_of_ble_eq_true rfl) rfl (h.mono fun vr I2 J2 h => ?_)
  obtain ⟨rfl, h⟩ := h
  show rr pgX zX3_play 18 _ [] _ _ _
  refine rr_aload_n dX3_play_18 rfl 0 rfl rfl ?_
  refine rr_getR dX3_play_19 fX3_25 (by decide) rfl rfl rfl ?_
  refine rr_aload_n dX3_play_22 rfl 0 rfl rfl ?_
  refine rr_getR dX3_play_23 fX3_12 (by decide) rfl rfl rfl ?_
  refine rr_V [.ref 47] [] dX3_play_26 kX6_begin mX3_97 ⟨by decide, by decide⟩ (by decide) rfl rfl rfl (Nat.le_of_ble_eq_true rfl) rfl (h.mono fun vr I3 J3 h => ?_)
  obtain ⟨rfl, h⟩ := h
  show rr pgX zX3_play 29 _ [] _ _ _
  refine rr_iconst (v := (0 : Int32)) dX3_play_29 (by decide) rfl ?_
  refine rr_istore_n (lv' := [(2, .int (0 : Int32)), (0, .ref 46), (1, .int v1)]) dX3_play_30 rfl (by decide) rfl rfl ?_
  exact rr.sub [1, 2, 0] rfl h
theorem s_X3_play_31 {I : tg_I} {J : tg_J} {P : Option Value → tg_I → tg_J → Prop} (v1 : Int32) (v2 : Int32) (h :
  ((20000 : Int32) ≤ v2 →
   call pgX zX1_cleared [.ref 47] I J (fun vr I1 J1 => ∃ r1 : Int32, vr = some (.int r1) ∧
    (narrow .boolean (.int r1) = .int r1 ∧ P (some (.int r1)) I1 J1))) ∧
  (¬ (20000 : Int32) ≤ v2 →
   call pgX zX1_cleared [.ref 47] I J (fun vr I2 J2 => ∃ r2 : Int32, vr = some (.int r2) ∧
    ((¬ r2 = 0 →
     call pgX zX1_cleared [.ref 47] I2 J2 (fun vr I3 J3 => ∃ r3 : Int32, vr = some (.int r3) ∧
      (narrow .boolean (.int r3) = .int r3 ∧ P (some (.int r3)) I3 J3))) ∧
    (r2 = 0 →
     call pgX zX6_find [.ref 39, .int v1] I2 J2 (fun vr I4 J4 => ∃ r4 : Int32, vr = some (.int r4) ∧
      ((¬ r4 = 0 →
       ((I4 39 2) = 0 →
         call pgX zX6_firstNews [.ref 39] I4 J4 (fun vr I5 J5 => ∃ r5 : Int32, vr = some (.int r5) ∧
          ((0 ≤ r5 →
           call pgX zX1_uncover [.ref 47, .int r5] I5 J5 (fun vr I6 J6 => vr = none ∧
            (call pgX zX6_goOn [.ref 39] I6 J6 (fun vr I7 J7 => vr = none ∧
            (l_X3_play_31 I7 J7 P v1 ((v2 + (1 : Int32)))))))) ∧
          (¬ 0 ≤ r5 →
           P (some (.int (0 : Int32))) I5 J5)))) ∧
        (¬ (I4 39 2) = 0 →
         call pgX zX6_accept [.ref 39] I4 J4 (fun vr I8 J8 => vr = none ∧
          (l_X3_play_31 I8 J8 P v1 ((v2 + (1 : Int32))))))) ∧
      (r4 = 0 →
       P (some (.int (0 : Int32))) I4 J4)))))))) : l_X3_play_31 I J P v1 v2 := by
  show rr pgX zX3_play 31 [(0, .ref 46), (1, .int v1), (2, .int v2)] [] I J P
  refine rr_iload_n dX3_play_31 rfl 2 rfl rfl ?_
  refine rr_sipush (v := (20000 : Int32)) dX3_play_32 (by decide) rfl ?_
  refine rr_icmp_ge (tgt := 116) dX3_play_35 (by decide) rfl ⟨fun hc => ?_, fun hc => ?_⟩
  · have h := h.1 hc
    refine rr_aload_n dX3_play_116 rfl 0 rfl rfl ?_
    refine rr_getR dX3_play_117 fX3_12 (by decide) rfl rfl rfl ?_
    refine rr_V [] [] dX3_play_120 kX1_cleared mX3_103 ⟨by decide, by decide⟩ (by decide) rfl rfl rfl (Nat.le_of_ble_eq_true rfl) rfl (h.mono fun vr I1 J1 h => ?_)
    obtain ⟨r1, rfl, h⟩ := h
    show rr pgX zX3_play 123 _ [.int r1] _ _ _
    exact rr_zret dX3_play_123 rfl h.1 h.2
  · have h := h.2 hc
    refine rr_aload_n dX3_play_38 rfl 0 rfl rfl ?_
    refine rr_getR dX3_play_39 fX3_12 (by decide) rfl rfl rfl ?_
    refine rr_V [] [] dX3_play_42 kX1_cleared mX3_103 ⟨by decide, by decide⟩ (by decide) rfl rfl rfl (Nat.le_of_ble_eq_true rfl) rfl (h.mono fun vr I2 J2 h => ?_)
    obtain ⟨r2, rfl, h⟩ := h
    show rr pgX zX3_play 45 _ [.int r2] _ _ _
    refine rr_if_ne (tgt := 116) dX3_play_45 (by decide) rfl ⟨fun hc => ?_, fun hc => ?_⟩
    · have h := h.1 hc
      refine rr_aload_n dX3_play_116 rfl 0 rfl rfl ?_
      refine rr_getR dX3_play_117 fX3_12 (by decide) rfl rfl rfl ?_
      refine rr_V [] [] dX3_play_120 kX1_cleared mX3_103 ⟨by decide, by decide⟩ (by decide) rfl rfl rfl (Nat.le_of_ble_eq_true rfl) rfl (h.mono fun vr I3 J3 h => ?_)
      obtain ⟨r3, rfl, h⟩ := h
      show rr pgX zX3_play 123 _ [.int r3] _ _ _
      exact rr_zret dX3_play_123 rfl h.1 h.2
    · have h := h.2 hc
      refine rr_aload_n dX3_play_48 rfl 0 rfl rfl ?_
      refine rr_getR dX3_play_49 fX3_25 (by decide) rfl rfl rfl ?_
      refine rr_iload_n dX3_play_52 rfl 1 rfl rfl ?_
      refine rr_V [.int v1] [] dX3_play_53 kX6_find mX3_106 ⟨by decide, by decide⟩ (by decide) rfl rfl rfl (Nat.le_of_ble_eq_true rfl) rfl (h.mono fun vr I4 J4 h => ?_)
      obtain ⟨r4, rfl, h⟩ := h
      show rr pgX zX3_play 56 _ [.int r4] _ _ _
      refine rr_if_ne (tgt := 61) dX3_play_56 (by decide) rfl ⟨fun hc => ?_, fun hc => ?_⟩
      · have h := h.1 hc
        refine rr_aload_n dX3_play_61 rfl 0 rfl rfl ?_
        refine rr_getR dX3_play_62 fX3_25 (by decide) rfl rfl rfl ?_
        refine rr_getI dX3_play_65 fX3_109 (by decide) rfl rfl rfl ?_
        refine rr_if_eq (tgt := 81) dX3_play_68 (by decide) rfl ⟨fun hc => ?_, fun hc => ?_⟩
        · have h := h.1 hc
          refine rr_aload_n dX3_play_81 rfl 0 rfl rfl ?_
          refine rr_getR dX3_play_82 fX3_25 (by decide) rfl rfl rfl ?_
          refine rr_V [] [] dX3_play_85 kX6_firstNews mX3_116 ⟨by decide, by decide⟩ (by decide) rfl rfl rfl (Nat.le_of_ble_eq_true rfl) rfl (h.mono fun vr I5 J5 h => ?_)
          obtain ⟨r5, rfl, h⟩ := h
          show rr pgX zX3_play 88 _ [.int r5] _ _ _
          refine rr_istore_n (lv' := [(3, .int r5), (0, .ref 46), (1, .int v1), (2, .int v2)]) dX3_play_88 rfl (by decide) rfl rfl ?_
          refine rr_iload_n dX3_play_89 rfl 0 rfl rfl ?_
          refine rr_if_ge (tgt := 95) dX3_play_90 (by decide) rfl ⟨fun hc => ?_, fun hc => ?_⟩
          · have h := h.1 hc
            refine rr_aload_n dX3_play_95 rfl 1 rfl rfl ?_
            refine rr_getR dX3_play_96 fX3_12 (by decide) rfl rfl rfl ?_
            refine rr_iload_n dX3_play_99 rfl 0 rfl rfl ?_
            refine rr_V [.int r5] [] dX3_play_100 kX1_uncover mX3_94 ⟨by decide, by decide⟩ (by decide) rfl rfl rfl (Nat.le_of_ble_eq_true rfl) rfl (h.mono fun vr I6 J6 h => ?_)
            obtain ⟨rfl, h⟩ := h
            show rr pgX zX3_play 103 _ [] _ _ _
            refine rr_aload_n dX3_play_103 rfl 1 rfl rfl ?_
            refine rr_getR dX3_play_104 fX3_25 (by decide) rfl rfl rfl ?_
            refine rr_V [] [] dX3_play_107 kX6_goOn mX3_119 ⟨by decide, by decide⟩ (by decide) rfl rfl rfl (Nat.le_of_ble_eq_true rfl) rfl (h.mono fun vr I7 J7 h => ?_)
            obtain ⟨rfl, h⟩ := h
            show rr pgX zX3_play 110 _ [] _ _ _
            refine rr_iinc (k := 3) (v := (v2 + (1 : Int32))) (lv' := [(2, .int (v2 + (1 : Int32))), (3, .int r5), (0, .ref 46), (1, .int v1)]) dX3_play_110 rfl rfl (by decide) rfl rfl ?_
            refine rr_goto (tgt := 31) dX3_play_113 (by decide) ?_
            exact rr.sub [2, 3, 0] rfl h
          · have h := h.2 hc
            refine rr_iconst (v := (0 : Int32)) dX3_play_93 (by decide) rfl ?_
            exact rr_zret dX3_play_94 rfl rfl h
        · have h := h.2 hc
          refine rr_aload_n dX3_play_71 rfl 0 rfl rfl ?_
          refine rr_getR dX3_play_72 fX3_25 (by decide) rfl rfl rfl ?_
          refine rr_V [] [] dX3_play_75 kX6_accept mX3_113 ⟨by decide, by decide⟩ (by decide) rfl rfl rfl (Nat.le_of_ble_eq_true rfl) rfl (h.mono fun vr I8 J8 h => ?_)
          obtain ⟨rfl, h⟩ := h
          show rr pgX zX3_play 78 _ [] _ _ _
          refine rr_goto (tgt := 110) dX3_play_78 (by decide) ?_
          refine rr_iinc (k := 2) (v := (v2 + (1 : Int32))) (lv' := [(2, .int (v2 + (1 : Int32))), (0, .ref 46), (1, .int v1)]) dX3_play_110 rfl rfl (by decide) rfl rfl ?_
          refine rr_goto (tgt := 31) dX3_play_113 (by decide) ?_
          exact rr.sub [1, 2, 0] rfl h
      · have h := h.2 hc
        refine rr_iconst (v := (0 : Int32)) dX3_play_59 (by decide) rfl ?_
        exact rr_zret dX3_play_60 rfl rfl h

def l_X3_mend_17 (I : tg_I) (J : tg_J) (P : Option Value → tg_I → tg_J → Prop) (v1 : Int32) (v2 : Int32) (v3 : Int32) : Prop := rr pgX zX3_mend 17 [(0, .ref 46), (1, .int v1), (2, .int v2), (3, .int v3)] [] I J P
theorem e_X3_mend {I : tg_I} {J : tg_J} {P : Option Value → tg_I → tg_J → Prop} (h :
  l_X3_mend_17 I J P ((-1 : Int32)) ((-1 : Int32)) (((I 48 7) - (1 : Int32)))) : call pgX zX3_mend [.ref 46] I J P := by
  refine call_of (by decide +kernel) (fun _ => Nat.le_of_ble_eq_true rfl) ?_
  show rr pgX zX3_mend 0 [(0, .ref 46)] [] I J P
  refine rr_iconst (v := (-1 : Int32)) dX3_mend_0 (by decide) rfl ?_
  refine rr_istore_n (lv' := [(1, .int (-1 : Int32)), (0, .ref 46)]) dX3_mend_1 rfl (by decide) rfl rfl ?_
  refine rr_iconst (v := (-1 : Int32)) dX3_mend_2 (by decide) rfl ?_
  refine rr_istore_n (lv' := [(2, .int (-1 : Int32)), (1, .int (-1 : Int32)), (0, .ref 46)]) dX3_mend_3 rfl (by decide) rfl rfl ?_
  refine rr_aload_n dX3_mend_4 rfl 2 rfl rfl ?_
  refine rr_getR dX3_mend_5 fX3_12 (by decide) rfl rfl rfl ?_
  refine rr_getR dX3_mend_8 fX3_48 (by decide) rfl rfl rfl ?_
  refine rr_getI dX3_mend_11 fX3_67 (by decide) rfl rfl rfl ?_
  refine rr_iconst (v := (1 : Int32)) dX3_mend_14 (by decide) rfl ?_
  refine rr_isub dX3_mend_15 rfl ?_
  refine rr_istore_n (lv' := [(3, .int ((I 48 7) - (1 : Int32))), (2, .int (-1 : Int32)), (1, .int (-1 : Int32)), (0, .ref 46)]) dX3_mend_16 rfl (by decide) rfl rfl ?_
  exact rr.sub [3, 2, 1, 0] rfl h
theorem s_X3_mend_17 {I : tg_I} {J : tg_J} {P : Option Value → tg_I → tg_J → Prop} (v1 : Int32) (v2 : Int32) (v3 : Int32) (h :
  (v3 < 0 →
   (v1 < 0 →
     P (some (.int (0 : Int32))) I J) ∧
    (¬ v1 < 0 →
     (0 ≤ v2 →
       call pgX zX0_drop [.ref 54, .int v1] I J (fun vr I1 J1 => vr = none ∧
        (call pgX zX0_add [.ref 54, .int v2] I1 J1 (fun vr I2 J2 => vr = none ∧
        (P (some (.int (1 : Int32))) I2 J2))))) ∧
      (¬ 0 ≤ v2 →
       P (some (.int (0 : Int32))) I J))) ∧
  (¬ v3 < 0 →
   call pgX zX0_has [.ref 55, .int v3] I J (fun vr I3 J3 => ∃ r1 : Int32, vr = some (.int r1) ∧
    ((r1 = 0 →
     l_X3_mend_17 I3 J3 P v1 v2 ((v3 + (-1 : Int32)))) ∧
    (¬ r1 = 0 →
     call pgX zX2_touches [.ref 48, .int v3, .ref 56] I3 J3 (fun vr I4 J4 => ∃ r2 : Int32, vr = some (.int r2) ∧
      (call pgX zX0_has [.ref 54, .int v3] I4 J4 (fun vr I5 J5 => ∃ r3 : Int32, vr = some (.int r3) ∧
      ((r3 = 0 →
       (¬ r3 = 0 →
         l_X3_mend_17 I5 J5 P v1 v2 ((v3 + (-1 : Int32)))) ∧
        (r3 = 0 →
         (¬ r2 = 0 →
           l_X3_mend_17 I5 J5 P v1 v2 ((v3 + (-1 : Int32)))) ∧
          (r2 = 0 →
           l_X3_mend_17 I5 J5 P v1 v3 ((v3 + (-1 : Int32)))))) ∧
      (¬ r3 = 0 →
       (r2 = 0 →
         (¬ r3 = 0 →
           l_X3_mend_17 I5 J5 P v1 v2 ((v3 + (-1 : Int32)))) ∧
          (r3 = 0 →
           (¬ r2 = 0 →
             l_X3_mend_17 I5 J5 P v1 v2 ((v3 + (-1 : Int32)))) ∧
            (r2 = 0 →
             l_X3_mend_17 I5 J5 P v1 v3 ((v3 + (-1 : Int32)))))) ∧
        (¬ r2 = 0 →
         (¬ r3 = 0 →
           l_X3_mend_17 I5 J5 P v3 v2 ((v3 + (-1 : Int32)))) ∧
          (r3 = 0 →
           (¬ r2 = 0 →
             l_X3_mend_17 I5 J5 P v3 v2 ((v3 + (-1 : Int32)))) ∧
            (r2 = 0 →
             l_X3_mend_17 I5 J5 P v3 v3 ((v3 + (-1 : Int32)))))))))))))))) : l_X3_mend_17 I J P v1 v2 v3 := by
  show rr pgX zX3_mend 17 [(0, .ref 46), (1, .int v1), (2, .int v2), (3, .int v3)] [] I J P
  refine rr_iload_n dX3_mend_17 rfl 3 rfl rfl ?_
  refine rr_if_lt (tgt := 106) dX3_mend_18 (by decide) rfl ⟨fun hc => ?_, fun hc => ?_⟩
  · have h := h.1 hc
    refine rr_iload_n dX3_mend_106 rfl 1 rfl rfl ?_
    refine rr_if_lt (tgt := 114) dX3_mend_107 (by decide) rfl ⟨fun hc => ?_, fun hc => ?_⟩
    · have h := h.1 hc
      refine rr_iconst (v := (0 : Int32)) dX3_mend_114 (by decide) rfl ?_
      exact rr_zret dX3_mend_115 rfl rfl h
    · have h := h.2 hc
      refine rr_iload_n dX3_mend_110 rfl 2 rfl rfl ?_
      refine rr_if_ge (tgt := 116) dX3_mend_111 (by decide) rfl ⟨fun hc => ?_, fun hc => ?_⟩
      · have h := h.1 hc
        refine rr_aload_n dX3_mend_116 rfl 0 rfl rfl ?_
        refine rr_getR dX3_mend_117 fX3_12 (by decide) rfl rfl rfl ?_
        refine rr_getR dX3_mend_120 fX3_74 (by decide) rfl rfl rfl ?_
        refine rr_iload_n dX3_mend_123 rfl 1 rfl rfl ?_
        refine rr_V [.int v1] [] dX3_mend_124 kX0_drop mX3_44 ⟨by decide, by decide⟩ (by decide) rfl rfl rfl (Nat.le_of_ble_eq_true rfl) rfl (h.mono fun vr I1 J1 h => ?_)
        obtain ⟨rfl, h⟩ := h
        show rr pgX zX3_mend 127 _ [] _ _ _
        refine rr_aload_n dX3_mend_127 rfl 0 rfl rfl ?_
        refine rr_getR dX3_mend_128 fX3_12 (by decide) rfl rfl rfl ?_
        refine rr_getR dX3_mend_131 fX3_74 (by decide) rfl rfl rfl ?_
        refine rr_iload_n dX3_mend_134 rfl 2 rfl rfl ?_
        refine rr_V [.int v2] [] dX3_mend_135 kX0_add mX3_77 ⟨by decide, by decide⟩ (by decide) rfl rfl rfl (Nat.le_of_ble_eq_true rfl) rfl (h.mono fun vr I2 J2 h => ?_)
        obtain ⟨rfl, h⟩ := h
        show rr pgX zX3_mend 138 _ [] _ _ _
        refine rr_iconst (v := (1 : Int32)) dX3_mend_138 (by decide) rfl ?_
        exact rr_zret dX3_mend_139 rfl rfl h
      · have h := h.2 hc
        refine rr_iconst (v := (0 : Int32)) dX3_mend_114 (by decide) rfl ?_
        exact rr_zret dX3_mend_115 rfl rfl h
  · have h := h.2 hc
    refine rr_aload_n dX3_mend_21 rfl 0 rfl rfl ?_
    refine rr_getR dX3_mend_22 fX3_12 (by decide) rfl rfl rfl ?_
    refine rr_getR dX3_mend_25 fX3_122 (by decide) rfl rfl rfl ?_
    refine rr_iload_n dX3_mend_28 rfl 3 rfl rfl ?_
    refine rr_V [.int v3] [] dX3_mend_29 kX0_has mX3_125 ⟨by decide, by decide⟩ (by decide) rfl rfl rfl (Nat.le_of_ble_eq_true rfl) rfl (h.mono fun vr I3 J3 h => ?_)
    obtain ⟨r1, rfl, h⟩ := h
    show rr pgX zX3_mend 32 _ [.int r1] _ _ _
    refine rr_if_eq (tgt := 100) dX3_mend_32 (by decide) rfl ⟨fun hc => ?_, fun hc => ?_⟩
    · have h := h.1 hc
      refine rr_iinc (k := 3) (v := (v3 + (-1 : Int32))) (lv' := [(3, .int (v3 + (-1 : Int32))), (0, .ref 46), (1, .int v1), (2, .int v2)]) dX3_mend_100 rfl rfl (by decide) rfl rfl ?_
      refine rr_goto (tgt := 17) dX3_mend_103 (by decide) ?_
      exact rr.sub [1, 2, 3, 0] rfl h
    · have h := h.2 hc
      refine rr_aload_n dX3_mend_35 rfl 0 rfl rfl ?_
      refine rr_getR dX3_mend_36 fX3_12 (by decide) rfl rfl rfl ?_
      refine rr_getR dX3_mend_39 fX3_48 (by decide) rfl rfl rfl ?_
      refine rr_iload_n dX3_mend_42 rfl 3 rfl rfl ?_
      refine rr_aload_n dX3_mend_43 rfl 0 rfl rfl ?_
      refine rr_getR dX3_mend_44 fX3_12 (by decide) rfl rfl rfl ?_
      refine rr_getR dX3_mend_47 fX3_128 (by decide) rfl rfl rfl ?_
      refine rr_V [.int v3, .ref 56] [] dX3_mend_50 kX2_touches mX3_131 ⟨by decide, by decide⟩ (by decide) rfl rfl rfl (Nat.le_of_ble_eq_true rfl) rfl (h.mono fun vr I4 J4 h => ?_)
      obtain ⟨r2, rfl, h⟩ := h
      show rr pgX zX3_mend 53 _ [.int r2] _ _ _
      refine rr_istore (lv' := [(4, .int r2), (0, .ref 46), (1, .int v1), (2, .int v2), (3, .int v3)]) dX3_mend_53 (by decide) rfl rfl ?_
      refine rr_aload_n dX3_mend_55 rfl 1 rfl rfl ?_
      refine rr_getR dX3_mend_56 fX3_12 (by decide) rfl rfl rfl ?_
      refine rr_getR dX3_mend_59 fX3_74 (by decide) rfl rfl rfl ?_
      refine rr_iload_n dX3_mend_62 rfl 4 rfl rfl ?_
      refine rr_V [.int v3] [] dX3_mend_63 kX0_has mX3_125 ⟨by decide, by decide⟩ (by decide) rfl rfl rfl (Nat.le_of_ble_eq_true rfl) rfl (h.mono fun vr I5 J5 h => ?_)
      obtain ⟨r3, rfl, h⟩ := h
      show rr pgX zX3_mend 66 _ [.int r3] _ _ _
      refine rr_istore (lv' := [(5, .int r3), (4, .int r2), (0, .ref 46), (1, .int v1), (2, .int v2), (3, .int v3)]) dX3_mend_66 (by decide) rfl rfl ?_
      refine rr_iload dX3_mend_68 0 rfl rfl ?_
      refine rr_if_eq (tgt := 82) dX3_mend_70 (by decide) rfl ⟨fun hc => ?_, fun hc => ?_⟩
      · have h := h.1 hc
        refine rr_iload_n dX3_mend_82 rfl 3 rfl rfl ?_
        refine rr_istore_n (lv' := [(1, .int v1), (5, .int r3), (4, .int r2), (0, .ref 46), (2, .int v2), (3, .int v3)]) dX3_mend_83 rfl (by decide) rfl rfl ?_
        refine rr_iload dX3_mend_84 1 rfl rfl ?_
        refine rr_if_ne (tgt := 98) dX3_mend_86 (by decide) rfl ⟨fun hc => ?_, fun hc => ?_⟩
        · have h := h.1 hc
          refine rr_iload_n dX3_mend_98 rfl 4 rfl rfl ?_
          refine rr_istore_n (lv' := [(2, .int v2), (1, .int v1), (5, .int r3), (4, .int r2), (0, .ref 46), (3, .int v3)]) dX3_mend_99 rfl (by decide) rfl rfl ?_
          refine rr_iinc (k := 5) (v := (v3 + (-1 : Int32))) (lv' := [(3, .int (v3 + (-1 : Int32))), (2, .int v2), (1, .int v1), (5, .int r3), (4, .int r2), (0, .ref 46)]) dX3_mend_100 rfl rfl (by decide) rfl rfl ?_
          refine rr_goto (tgt := 17) dX3_mend_103 (by decide) ?_
          exact rr.sub [5, 2, 1, 0] rfl h
        · have h := h.2 hc
          refine rr_iload dX3_mend_89 2 rfl rfl ?_
          refine rr_if_ne (tgt := 98) dX3_mend_91 (by decide) rfl ⟨fun hc => ?_, fun hc => ?_⟩
          · have h := h.1 hc
            refine rr_iload_n dX3_mend_98 rfl 4 rfl rfl ?_
            refine rr_istore_n (lv' := [(2, .int v2), (1, .int v1), (5, .int r3), (4, .int r2), (0, .ref 46), (3, .int v3)]) dX3_mend_99 rfl (by decide) rfl rfl ?_
            refine rr_iinc (k := 5) (v := (v3 + (-1 : Int32))) (lv' := [(3, .int (v3 + (-1 : Int32))), (2, .int v2), (1, .int v1), (5, .int r3), (4, .int r2), (0, .ref 46)]) dX3_mend_100 rfl rfl (by decide) rfl rfl ?_
            refine rr_goto (tgt := 17) dX3_mend_103 (by decide) ?_
            exact rr.sub [5, 2, 1, 0] rfl h
          · have h := h.2 hc
            refine rr_iload_n dX3_mend_94 rfl 5 rfl rfl ?_
            refine rr_goto (tgt := 99) dX3_mend_95 (by decide) ?_
            refine rr_istore_n (lv' := [(2, .int v3), (1, .int v1), (5, .int r3), (4, .int r2), (0, .ref 46), (3, .int v3)]) dX3_mend_99 rfl (by decide) rfl rfl ?_
            refine rr_iinc (k := 5) (v := (v3 + (-1 : Int32))) (lv' := [(3, .int (v3 + (-1 : Int32))), (2, .int v3), (1, .int v1), (5, .int r3), (4, .int r2), (0, .ref 46)]) dX3_mend_100 rfl rfl (by decide) rfl rfl ?_
            refine rr_goto (tgt := 17) dX3_mend_103 (by decide) ?_
            exact rr.sub [5, 2, 1, 0] rfl h
      · have h := h.2 hc
        refine rr_iload dX3_mend_73 1 rfl rfl ?_
        refine rr_if_eq (tgt := 82) dX3_mend_75 (by decide) rfl ⟨fun hc => ?_, fun hc => ?_⟩
        · have h := h.1 hc
          refine rr_iload_n dX3_mend_82 rfl 3 rfl rfl ?_
          refine rr_istore_n (lv' := [(1, .int v1), (5, .int r3), (4, .int r2), (0, .ref 46), (2, .int v2), (3, .int v3)]) dX3_mend_83 rfl (by decide) rfl rfl ?_
          refine rr_iload dX3_mend_84 1 rfl rfl ?_
          refine rr_if_ne (tgt := 98) dX3_mend_86 (by decide) rfl ⟨fun hc => ?_, fun hc => ?_⟩
          · have h := h.1 hc
            refine rr_iload_n dX3_mend_98 rfl 4 rfl rfl ?_
            refine rr_istore_n (lv' := [(2, .int v2), (1, .int v1), (5, .int r3), (4, .int r2), (0, .ref 46), (3, .int v3)]) dX3_mend_99 rfl (by decide) rfl rfl ?_
            refine rr_iinc (k := 5) (v := (v3 + (-1 : Int32))) (lv' := [(3, .int (v3 + (-1 : Int32))), (2, .int v2), (1, .int v1), (5, .int r3), (4, .int r2), (0, .ref 46)]) dX3_mend_100 rfl rfl (by decide) rfl rfl ?_
            refine rr_goto (tgt := 17) dX3_mend_103 (by decide) ?_
            exact rr.sub [5, 2, 1, 0] rfl h
          · have h := h.2 hc
            refine rr_iload dX3_mend_89 2 rfl rfl ?_
            refine rr_if_ne (tgt := 98) dX3_mend_91 (by decide) rfl ⟨fun hc => ?_, fun hc => ?_⟩
            · have h := h.1 hc
              refine rr_iload_n dX3_mend_98 rfl 4 rfl rfl ?_
              refine rr_istore_n (lv' := [(2, .int v2), (1, .int v1), (5, .int r3), (4, .int r2), (0, .ref 46), (3, .int v3)]) dX3_mend_99 rfl (by decide) rfl rfl ?_
              refine rr_iinc (k := 5) (v := (v3 + (-1 : Int32))) (lv' := [(3, .int (v3 + (-1 : Int32))), (2, .int v2), (1, .int v1), (5, .int r3), (4, .int r2), (0, .ref 46)]) dX3_mend_100 rfl rfl (by decide) rfl rfl ?_
              refine rr_goto (tgt := 17) dX3_mend_103 (by decide) ?_
              exact rr.sub [5, 2, 1, 0] rfl h
            · have h := h.2 hc
              refine rr_iload_n dX3_mend_94 rfl 5 rfl rfl ?_
              refine rr_goto (tgt := 99) dX3_mend_95 (by decide) ?_
              refine rr_istore_n (lv' := [(2, .int v3), (1, .int v1), (5, .int r3), (4, .int r2), (0, .ref 46), (3, .int v3)]) dX3_mend_99 rfl (by decide) rfl rfl ?_
              refine rr_iinc (k := 5) (v := (v3 + (-1 : Int32))) (lv' := [(3, .int (v3 + (-1 : Int32))), (2, .int v3), (1, .int v1), (5, .int r3), (4, .int r2), (0, .ref 46)]) dX3_mend_100 rfl rfl (by decide) rfl rfl ?_
              refine rr_goto (tgt := 17) dX3_mend_103 (by decide) ?_
              exact rr.sub [5, 2, 1, 0] rfl h
        · have h := h.2 hc
          refine rr_iload_n dX3_mend_78 rfl 5 rfl rfl ?_
          refine rr_goto (tgt := 83) dX3_mend_79 (by decide) ?_
          refine rr_istore_n (lv' := [(1, .int v3), (5, .int r3), (4, .int r2), (0, .ref 46), (2, .int v2), (3, .int v3)]) dX3_mend_83 rfl (by decide) rfl rfl ?_
          refine rr_iload dX3_mend_84 1 rfl rfl ?_
          refine rr_if_ne (tgt := 98) dX3_mend_86 (by decide) rfl ⟨fun hc => ?_, fun hc => ?_⟩
          · have h := h.1 hc
            refine rr_iload_n dX3_mend_98 rfl 4 rfl rfl ?_
            refine rr_istore_n (lv' := [(2, .int v2), (1, .int v3), (5, .int r3), (4, .int r2), (0, .ref 46), (3, .int v3)]) dX3_mend_99 rfl (by decide) rfl rfl ?_
            refine rr_iinc (k := 5) (v := (v3 + (-1 : Int32))) (lv' := [(3, .int (v3 + (-1 : Int32))), (2, .int v2), (1, .int v3), (5, .int r3), (4, .int r2), (0, .ref 46)]) dX3_mend_100 rfl rfl (by decide) rfl rfl ?_
            refine rr_goto (tgt := 17) dX3_mend_103 (by decide) ?_
            exact rr.sub [5, 2, 1, 0] rfl h
          · have h := h.2 hc
            refine rr_iload dX3_mend_89 2 rfl rfl ?_
            refine rr_if_ne (tgt := 98) dX3_mend_91 (by decide) rfl ⟨fun hc => ?_, fun hc => ?_⟩
            · have h := h.1 hc
              refine rr_iload_n dX3_mend_98 rfl 4 rfl rfl ?_
              refine rr_istore_n (lv' := [(2, .int v2), (1, .int v3), (5, .int r3), (4, .int r2), (0, .ref 46), (3, .int v3)]) dX3_mend_99 rfl (by decide) rfl rfl ?_
              refine rr_iinc (k := 5) (v := (v3 + (-1 : Int32))) (lv' := [(3, .int (v3 + (-1 : Int32))), (2, .int v2), (1, .int v3), (5, .int r3), (4, .int r2), (0, .ref 46)]) dX3_mend_100 rfl rfl (by decide) rfl rfl ?_
              refine rr_goto (tgt := 17) dX3_mend_103 (by decide) ?_
              exact rr.sub [5, 2, 1, 0] rfl h
            · have h := h.2 hc
              refine rr_iload_n dX3_mend_94 rfl 5 rfl rfl ?_
              refine rr_goto (tgt := 99) dX3_mend_95 (by decide) ?_
              refine rr_istore_n (lv' := [(2, .int v3), (1, .int v3), (5, .int r3), (4, .int r2), (0, .ref 46), (3, .int v3)]) dX3_mend_99 rfl (by decide) rfl rfl ?_
              refine rr_iinc (k := 5) (v := (v3 + (-1 : Int32))) (lv' := [(3, .int (v3 + (-1 : Int32))), (2, .int v3), (1, .int v3), (5, .int r3), (4, .int r2), (0, .ref 46)]) dX3_mend_100 rfl rfl (by decide) rfl rfl ?_
              refine rr_goto (tgt := 17) dX3_mend_103 (by decide) ?_
              exact rr.sub [5, 2, 1, 0] rfl h

theorem e_X8_blank {I : tg_I} {J : tg_J} {P : Option Value → tg_I → tg_J → Prop} (v1 : Int32) (v2 : Int32) (v3 : Int32) (h :
  call pgX zX2_fits [.int v1, .int v2, .int v3] I J (fun vr I1 J1 => ∃ r1 : Int32, vr = some (.int r1) ∧
  ((¬ r1 = 0 →
   call pgX zX1_start [.ref 1, .int v1, .int v2, .int v3] I1 J1 (fun vr I2 J2 => vr = none ∧
    (call pgX zX8_forget [.ref 0] I2 J2 (fun vr I3 J3 => vr = none ∧
    (P (some (.int (I3 2 7))) I3 J3))))) ∧
  (r1 = 0 →
   P (some (.int (-1 : Int32))) I1 J1)))) : call pgX zX8_blank [.ref 0, .int v1, .int v2, .int v3] I J P := by
  refine call_of (by decide +kernel) (fun _ => Nat.le_of_ble_eq_true rfl) ?_
  show rr pgX zX8_blank 0 [(0, .ref 0), (1, .int v1), (2, .int v2), (3, .int v3)] [] I J P
  refine rr_iload_n dX8_blank_0 rfl 1 rfl rfl ?_
  refine rr_iload_n dX8_blank_1 rfl 2 rfl rfl ?_
  refine rr_iload_n dX8_blank_2 rfl 3 rfl rfl ?_
  refine rr_S [.int v1, .int v2, .int v3] [] dX8_blank_3 kX2_fits mX8_62 ⟨by decide, by decide⟩ rfl rfl (Nat.le_of_ble_eq_true rfl) rfl (h.mono fun vr I1 J1 h => ?_)
  obtain ⟨r1, rfl, h⟩ := h
  show rr pgX zX8_blank 6 _ [.int r1] _ _ _
  refine rr_if_ne (tgt := 11) dX8_blank_6 (by decide) rfl ⟨fun hc => ?_, fun hc => ?_⟩
  · have h := h.1 hc
    refine rr_aload_n dX8_blank_11 rfl 0 rfl rfl ?_
    refine rr_getR dX8_blank_12 fX8_12 (by decide) rfl rfl rfl ?_
    refine rr_iload_n dX8_blank_15 rfl 1 rfl rfl ?_
    refine rr_iload_n dX8_blank_16 rfl 2 rfl rfl ?_
    refine rr_iload_n dX8_blank_17 rfl 3 rfl rfl ?_
    refine rr_V [.int v1, .int v2, .int v3] [] dX8_blank_18 kX1_start mX8_58 ⟨by decide, by decide⟩ (by decide) rfl rfl rfl (Nat.le_of_ble_eq_true rfl) rfl (h.mono fun vr I2 J2 h => ?_)
    obtain ⟨rfl, h⟩ := h
    show rr pgX zX8_blank 21 _ [] _ _ _
    refine rr_aload_n dX8_blank_21 rfl 0 rfl rfl ?_
    refine rr_V [] [] dX8_blank_22 kX8_forget mX8_68 ⟨by decide, by decide⟩ (by decide) rfl rfl rfl (Nat.le_of_ble_eq_true rfl) rfl (h.mono fun vr I3 J3 h => ?_)
    obtain ⟨rfl, h⟩ := h
    show rr pgX zX8_blank 25 _ [] _ _ _
    refine rr_aload_n dX8_blank_25 rfl 0 rfl rfl ?_
    refine rr_getR dX8_blank_26 fX8_12 (by decide) rfl rfl rfl ?_
    refine rr_getR dX8_blank_29 fX8_71 (by decide) rfl rfl rfl ?_
    refine rr_getI dX8_blank_32 fX8_75 (by decide) rfl rfl rfl ?_
    exact rr_iret dX8_blank_35 rfl h
  · have h := h.2 hc
    refine rr_iconst (v := (-1 : Int32)) dX8_blank_9 (by decide) rfl ?_
    exact rr_iret dX8_blank_10 rfl h

theorem e_X8_edit {I : tg_I} {J : tg_J} {P : Option Value → tg_I → tg_J → Prop} (v1 : Int32) (v2 : Int32) (h :
  call pgX zX2_holds [.ref 2, .int v1] I J (fun vr I1 J1 => ∃ r1 : Int32, vr = some (.int r1) ∧
  ((¬ r1 = 0 →
   call pgX zX0_size [.ref 9] I1 J1 (fun vr I2 J2 => ∃ r2 : Int32, vr = some (.int r2) ∧
    ((r2 < (I2 2 7) →
     P (some (.int (-2 : Int32))) I2 J2) ∧
    (¬ r2 < (I2 2 7) →
     call pgX zX0_has [.ref 8, .int v1] I2 J2 (fun vr I3 J3 => ∃ r3 : Int32, vr = some (.int r3) ∧
      ((¬ r3 = v2 →
       call pgX zX0_put [.ref 8, .int v1, .int v2] I3 J3 (fun vr I4 J4 => vr = none ∧
        (call pgX zX0_size [.ref 8] I4 J4 (fun vr I5 J5 => ∃ r4 : Int32, vr = some (.int r4) ∧
        (P (some (.int r4)) I5 J5))))) ∧
      (r3 = v2 →
       P (some (.int (-2 : Int32))) I3 J3))))))) ∧
  (r1 = 0 →
   P (some (.int (-1 : Int32))) I1 J1)))) : call pgX zX8_edit [.ref 0, .int v1, .int v2] I J P := by
  refine call_of (by decide +kernel) (fun _ => Nat.le_of_ble_eq_true rfl) ?_
  show rr pgX zX8_edit 0 [(0, .ref 0), (1, .int v1), (2, .int v2)] [] I J P
  refine rr_aload_n dX8_edit_0 rfl 0 rfl rfl ?_
  refine rr_getR dX8_edit_1 fX8_12 (by decide) rfl rfl rfl ?_
  refine rr_getR dX8_edit_4 fX8_71 (by decide) rfl rfl rfl ?_
  refine rr_iload_n dX8_edit_7 rfl 1 rfl rfl ?_
  refine rr_V [.int v1] [] dX8_edit_8 kX2_holds mX8_79 ⟨by decide, by decide⟩ (by decide) rfl rfl rfl (Nat.le_of_ble_eq_true rfl) rfl (h.mono fun vr I1 J1 h => ?_)
  obtain ⟨r1, rfl, h⟩ := h
  show rr pgX zX8_edit 11 _ [.int r1] _ _ _
  refine rr_if_ne (tgt := 16) dX8_edit_11 (by decide) rfl ⟨fun hc => ?_, fun hc => ?_⟩
  · have h := h.1 hc
    refine rr_aload_n dX8_edit_16 rfl 0 rfl rfl ?_
    refine rr_getR dX8_edit_17 fX8_12 (by decide) rfl rfl rfl ?_
    refine rr_getR dX8_edit_20 fX8_83 (by decide) rfl rfl rfl ?_
    refine rr_V [] [] dX8_edit_23 kX0_size mX8_86 ⟨by decide, by decide⟩ (by decide) rfl rfl rfl (Nat.le_of_ble_eq_true rfl) rfl (h.mono fun vr I2 J2 h => ?_)
    obtain ⟨r2, rfl, h⟩ := h
    show rr pgX zX8_edit 26 _ [.int r2] _ _ _
    refine rr_aload_n dX8_edit_26 rfl 0 rfl rfl ?_
    refine rr_getR dX8_edit_27 fX8_12 (by decide) rfl rfl rfl ?_
    refine rr_getR dX8_edit_30 fX8_71 (by decide) rfl rfl rfl ?_
    refine rr_getI dX8_edit_33 fX8_75 (by decide) rfl rfl rfl ?_
    refine rr_icmp_lt (tgt := 54) dX8_edit_36 (by decide) rfl ⟨fun hc => ?_, fun hc => ?_⟩
    · have h := h.1 hc
      refine rr_bipush (v := (-2 : Int32)) dX8_edit_54 (by decide) rfl ?_
      exact rr_iret dX8_edit_56 rfl h
    · have h := h.2 hc
      refine rr_aload_n dX8_edit_39 rfl 0 rfl rfl ?_
      refine rr_getR dX8_edit_40 fX8_12 (by decide) rfl rfl rfl ?_
      refine rr_getR dX8_edit_43 fX8_90 (by decide) rfl rfl rfl ?_
      refine rr_iload_n dX8_edit_46 rfl 1 rfl rfl ?_
      refine rr_V [.int v1] [] dX8_edit_47 kX0_has mX8_93 ⟨by decide, by decide⟩ (by decide) rfl rfl rfl (Nat.le_of_ble_eq_true rfl) rfl (h.mono fun vr I3 J3 h => ?_)
      obtain ⟨r3, rfl, h⟩ := h
      show rr pgX zX8_edit 50 _ [.int r3] _ _ _
      refine rr_iload_n dX8_edit_50 rfl 2 rfl rfl ?_
      refine rr_icmp_ne (tgt := 57) dX8_edit_51 (by decide) rfl ⟨fun hc => ?_, fun hc => ?_⟩
      · have h := h.1 hc
        refine rr_aload_n dX8_edit_57 rfl 0 rfl rfl ?_
        refine rr_getR dX8_edit_58 fX8_12 (by decide) rfl rfl rfl ?_
        refine rr_getR dX8_edit_61 fX8_90 (by decide) rfl rfl rfl ?_
        refine rr_iload_n dX8_edit_64 rfl 1 rfl rfl ?_
        refine rr_iload_n dX8_edit_65 rfl 2 rfl rfl ?_
        refine rr_V [.int v1, .int v2] [] dX8_edit_66 kX0_put mX8_96 ⟨by decide, by decide⟩ (by decide) rfl rfl rfl (Nat.le_of_ble_eq_true rfl) rfl (h.mono fun vr I4 J4 h => ?_)
        obtain ⟨rfl, h⟩ := h
        show rr pgX zX8_edit 69 _ [] _ _ _
        refine rr_aload_n dX8_edit_69 rfl 0 rfl rfl ?_
        refine rr_getR dX8_edit_70 fX8_12 (by decide) rfl rfl rfl ?_
        refine rr_getR dX8_edit_73 fX8_90 (by decide) rfl rfl rfl ?_
        refine rr_V [] [] dX8_edit_76 kX0_size mX8_86 ⟨by decide, by decide⟩ (by decide) rfl rfl rfl (Nat.le_of_ble_eq_true rfl) rfl (h.mono fun vr I5 J5 h => ?_)
        obtain ⟨r4, rfl, h⟩ := h
        show rr pgX zX8_edit 79 _ [.int r4] _ _ _
        exact rr_iret dX8_edit_79 rfl h
      · have h := h.2 hc
        refine rr_bipush (v := (-2 : Int32)) dX8_edit_54 (by decide) rfl ?_
        exact rr_iret dX8_edit_56 rfl h
  · have h := h.2 hc
    refine rr_iconst (v := (-1 : Int32)) dX8_edit_14 (by decide) rfl ?_
    exact rr_iret dX8_edit_15 rfl h

theorem e_X8_make {I : tg_I} {J : tg_J} {P : Option Value → tg_I → tg_J → Prop} (v1 : Int32) (v2 : Int32) (v3 : Int32) (v4 : Int32) (v5 : Int32) (v6 : Int32) (h :
  call pgX zX2_fits [.int v1, .int v2, .int v4] I J (fun vr I1 J1 => ∃ r1 : Int32, vr = some (.int r1) ∧
  ((r1 = 0 →
   P (some (.int (-1 : Int32))) I1 J1) ∧
  (¬ r1 = 0 →
   (v6 < (1 : Int32) →
     P (some (.int (-1 : Int32))) I1 J1) ∧
    (¬ v6 < (1 : Int32) →
     (v6 ≤ (3 : Int32) →
       call pgX zX3_prepare [.ref 46, .int v1, .int v2, .int v4] I1 J1 (fun vr I2 J2 => vr = none ∧
        ((v3 < 0 →
         P (some (.int (-1 : Int32))) I2 J2) ∧
        (¬ v3 < 0 →
         call pgX zX0_size [.ref 61] I2 J2 (fun vr I3 J3 => ∃ r2 : Int32, vr = some (.int r2) ∧
          ((v3 ≤ r2 →
           call pgX zX3_draw [.ref 46, .int v3, .int v5] I3 J3 (fun vr I4 J4 => vr = none ∧
            (call pgX zX3_mendToClear [.ref 46, .int v6] I4 J4 (fun vr I5 J5 => ∃ r3 : Int32, vr = some (.int r3) ∧
            ((¬ r3 = 0 →
             call pgX zX1_start [.ref 1, .int v1, .int v2, .int v4] I5 J5 (fun vr I6 J6 => vr = none ∧
              (call pgX zX0_copy [.ref 8, .ref 54] I6 J6 (fun vr I7 J7 => vr = none ∧
              (call pgX zX8_forget [.ref 0] I7 J7 (fun vr I8 J8 => vr = none ∧
              (P (some (.int (1 : Int32))) I8 J8))))))) ∧
            (r3 = 0 →
             P (some (.int (0 : Int32))) I5 J5)))))) ∧
          (¬ v3 ≤ r2 →
           P (some (.int (-1 : Int32))) I3 J3))))))) ∧
      (¬ v6 ≤ (3 : Int32) →
       P (some (.int (-1 : Int32))) I1 J1)))))) : call pgX zX8_make [.ref 0, .int v1, .int v2, .int v3, .int v4, .int v5, .int v6] I J P := by
  refine call_of (by decide +kernel) (fun _ => Nat.le_of_ble_eq_true rfl) ?_
  show rr pgX zX8_make 0 [(0, .ref 0), (1, .int v1), (2, .int v2), (3, .int v3), (4, .int v4), (5, .int v5), (6, .int v6)] [] I J P
  refine rr_iload_n dX8_make_0 rfl 1 rfl rfl ?_
  refine rr_iload_n dX8_make_1 rfl 2 rfl rfl ?_
  refine rr_iload dX8_make_2 4 rfl rfl ?_
  refine rr_S [.int v1, .int v2, .int v4] [] dX8_make_4 kX2_fits mX8_62 ⟨by decide, by decide⟩ rfl rfl (Nat.le_of_ble_eq_true rfl) rfl (h.mono fun vr I1 J1 h => ?_)
  obtain ⟨r1, rfl, h⟩ := h
  show rr pgX zX8_make 7 _ [.int r1] _ _ _
  refine rr_if_eq (tgt := 22) dX8_make_7 (by decide) rfl ⟨fun hc => ?_, fun hc => ?_⟩
  · have h := h.1 hc
    refine rr_iconst (v := (-1 : Int32)) dX8_make_22 (by decide) rfl ?_
    exact rr_iret dX8_make_23 rfl h
  · have h := h.2 hc
    refine rr_iload dX8_make_10 6 rfl rfl ?_
    refine rr_iconst (v := (1 : Int32)) dX8_make_12 (by decide) rfl ?_
    refine rr_icmp_lt (tgt := 22) dX8_make_13 (by decide) rfl ⟨fun hc => ?_, fun hc => ?_⟩
    · have h := h.1 hc
      refine rr_iconst (v := (-1 : Int32)) dX8_make_22 (by decide) rfl ?_
      exact rr_iret dX8_make_23 rfl h
    · have h := h.2 hc
      refine rr_iload dX8_make_16 6 rfl rfl ?_
      refine rr_iconst (v := (3 : Int32)) dX8_make_18 (by decide) rfl ?_
      refine rr_icmp_le (tgt := 24) dX8_make_19 (by decide) rfl ⟨fun hc => ?_, fun hc => ?_⟩
      · have h := h.1 hc
        refine rr_aload_n dX8_make_24 rfl 0 rfl rfl ?_
        refine rr_getR dX8_make_25 fX8_44 (by decide) rfl rfl rfl ?_
        refine rr_iload_n dX8_make_28 rfl 1 rfl rfl ?_
        refine rr_iload_n dX8_make_29 rfl 2 rfl rfl ?_
        refine rr_iload dX8_make_30 4 rfl rfl ?_
        refine rr_V [.int v1, .int v2, .int v4] [] dX8_make_32 kX3_prepare mX8_100 ⟨by decide, by decide⟩ (by decide) rfl rfl rfl (Nat.le_of_ble_eq_true rfl) rfl (h.mono fun vr I2 J2 h => ?_)
        obtain ⟨rfl, h⟩ := h
        show rr pgX zX8_make 35 _ [] _ _ _
        refine rr_iload_n dX8_make_35 rfl 3 rfl rfl ?_
        refine rr_if_lt (tgt := 53) dX8_make_36 (by decide) rfl ⟨fun hc => ?_, fun hc => ?_⟩
        · have h := h.1 hc
          refine rr_iconst (v := (-1 : Int32)) dX8_make_53 (by decide) rfl ?_
          exact rr_iret dX8_make_54 rfl h
        · have h := h.2 hc
          refine rr_iload_n dX8_make_39 rfl 3 rfl rfl ?_
          refine rr_aload_n dX8_make_40 rfl 0 rfl rfl ?_
          refine rr_getR dX8_make_41 fX8_44 (by decide) rfl rfl rfl ?_
          refine rr_getR dX8_make_44 fX8_103 (by decide) rfl rfl rfl ?_
          refine rr_V [] [.int v3] dX8_make_47 kX0_size mX8_86 ⟨by decide, by decide⟩ (by decide) rfl rfl rfl (Nat.le_of_ble_eq_true rfl) rfl (h.mono fun vr I3 J3 h => ?_)
          obtain ⟨r2, rfl, h⟩ := h
          show rr pgX zX8_make 50 _ [.int r2, .int v3] _ _ _
          refine rr_icmp_le (tgt := 55) dX8_make_50 (by decide) rfl ⟨fun hc => ?_, fun hc => ?_⟩
          · have h := h.1 hc
            refine rr_aload_n dX8_make_55 rfl 0 rfl rfl ?_
            refine rr_getR dX8_make_56 fX8_44 (by decide) rfl rfl rfl ?_
            refine rr_iload_n dX8_make_59 rfl 3 rfl rfl ?_
            refine rr_iload dX8_make_60 5 rfl rfl ?_
            refine rr_V [.int v3, .int v5] [] dX8_make_62 kX3_draw mX8_106 ⟨by decide, by decide⟩ (by decide) rfl rfl rfl (Nat.le_of_ble_eq_true rfl) rfl (h.mono fun vr I4 J4 h => ?_)
            obtain ⟨rfl, h⟩ := h
            show rr pgX zX8_make 65 _ [] _ _ _
            refine rr_aload_n dX8_make_65 rfl 0 rfl rfl ?_
            refine rr_getR dX8_make_66 fX8_44 (by decide) rfl rfl rfl ?_
            refine rr_iload dX8_make_69 6 rfl rfl ?_
            refine rr_V [.int v6] [] dX8_make_71 kX3_mendToClear mX8_110 ⟨by decide, by decide⟩ (by decide) rfl rfl rfl (Nat.le_of_ble_eq_true rfl) rfl (h.mono fun vr I5 J5 h => ?_)
            obtain ⟨r3, rfl, h⟩ := h
            show rr pgX zX8_make 74 _ [.int r3] _ _ _
            refine rr_if_ne (tgt := 79) dX8_make_74 (by decide) rfl ⟨fun hc => ?_, fun hc => ?_⟩
            · have h := h.1 hc
              refine rr_aload_n dX8_make_79 rfl 0 rfl rfl ?_
              refine rr_getR dX8_make_80 fX8_12 (by decide) rfl rfl rfl ?_
              refine rr_iload_n dX8_make_83 rfl 1 rfl rfl ?_
              refine rr_iload_n dX8_make_84 rfl 2 rfl rfl ?_
              refine rr_iload dX8_make_85 4 rfl rfl ?_
              refine rr_V [.int v1, .int v2, .int v4] [] dX8_make_87 kX1_start mX8_58 ⟨by decide, by decide⟩ (by decide) rfl rfl rfl (Nat.le_of_ble_eq_true rfl) rfl (h.mono fun vr I6 J6 h => ?_)
              obtain ⟨rfl, h⟩ := h
              show rr pgX zX8_make 90 _ [] _ _ _
              refine rr_aload_n dX8_make_90 rfl 0 rfl rfl ?_
              refine rr_getR dX8_make_91 fX8_12 (by decide) rfl rfl rfl ?_
              refine rr_getR dX8_make_94 fX8_90 (by decide) rfl rfl rfl ?_
              refine rr_aload_n dX8_make_97 rfl 0 rfl rfl ?_
              refine rr_getR dX8_make_98 fX8_44 (by decide) rfl rfl rfl ?_
              refine rr_getR dX8_make_101 fX8_113 (by decide) rfl rfl rfl ?_
              refine rr_getR dX8_make_104 fX8_90 (by decide) rfl rfl rfl ?_
              refine rr_V [.ref 54] [] dX8_make_107 kX0_copy mX8_114 ⟨by decide, by decide⟩ (by decide) rfl rfl rfl (Nat.le_of_ble_eq_true rfl) rfl (h.mono fun vr I7 J7 h => ?_)
              obtain ⟨rfl, h⟩ := h
              show rr pgX zX8_make 110 _ [] _ _ _
              refine rr_aload_n dX8_make_110 rfl 0 rfl rfl ?_
              refine rr_V [] [] dX8_make_111 kX8_forget mX8_68 ⟨by decide, by decide⟩ (by decide) rfl rfl rfl (Nat.le_of_ble_eq_true rfl) rfl (h.mono fun vr I8 J8 h => ?_)
              obtain ⟨rfl, h⟩ := h
              show rr pgX zX8_make 114 _ [] _ _ _
              refine rr_iconst (v := (1 : Int32)) dX8_make_114 (by decide) rfl ?_
              exact rr_iret dX8_make_115 rfl h
            · have h := h.2 hc
              refine rr_iconst (v := (0 : Int32)) dX8_make_77 (by decide) rfl ?_
              exact rr_iret dX8_make_78 rfl h
          · have h := h.2 hc
            refine rr_iconst (v := (-1 : Int32)) dX8_make_53 (by decide) rfl ?_
            exact rr_iret dX8_make_54 rfl h
      · have h := h.2 hc
        refine rr_iconst (v := (-1 : Int32)) dX8_make_22 (by decide) rfl ?_
        exact rr_iret dX8_make_23 rfl h

theorem e_X8_mended {I : tg_I} {J : tg_J} {P : Option Value → tg_I → tg_J → Prop} (h :
  P (some (.int (I 46 2))) I J) : call pgX zX8_mended [.ref 0] I J P := by
  refine call_of (by decide +kernel) (fun _ => Nat.le_of_ble_eq_true rfl) ?_
  show rr pgX zX8_mended 0 [(0, .ref 0)] [] I J P
  refine rr_aload_n dX8_mended_0 rfl 0 rfl rfl ?_
  refine rr_getR dX8_mended_1 fX8_44 (by decide) rfl rfl rfl ?_
  refine rr_getI dX8_mended_4 fX8_118 (by decide) rfl rfl rfl ?_
  exact rr_iret dX8_mended_7 rfl h

theorem e_X8_count {I : tg_I} {J : tg_J} {P : Option Value → tg_I → tg_J → Prop} (v1 : Int32) (h :
  (Int32.toInt v1 < 0 ∨ 7 < Int32.toInt v1 →
   P (some (.int (-1 : Int32))) I J) ∧ (v1 = 0 →
   P (some (.int (I 2 4))) I J) ∧ (v1 = 1 →
   P (some (.int (I 2 5))) I J) ∧ (v1 = 2 →
   P (some (.int (I 2 6))) I J) ∧ (v1 = 3 →
   call pgX zX0_size [.ref 8] I J (fun vr I1 J1 => ∃ r1 : Int32, vr = some (.int r1) ∧
      (P (some (.int r1)) I1 J1))) ∧ (v1 = 4 →
   call pgX zX0_size [.ref 10] I J (fun vr I2 J2 => ∃ r2 : Int32, vr = some (.int r2) ∧
      (P (some (.int r2)) I2 J2))) ∧ (v1 = 5 →
   call pgX zX0_size [.ref 12] I J (fun vr I3 J3 => ∃ r3 : Int32, vr = some (.int r3) ∧
      (P (some (.int r3)) I3 J3))) ∧ (v1 = 6 →
   call pgX zX0_size [.ref 11] I J (fun vr I4 J4 => ∃ r4 : Int32, vr = some (.int r4) ∧
      (P (some (.int r4)) I4 J4))) ∧ (v1 = 7 →
   P (some (.int (I 15 1))) I J)) : call pgX zX8_count [.ref 0, .int v1] I J P := by
  refine call_of (by decide +kernel) (fun _ => Nat.le_of_ble_eq_true rfl) ?_
  show rr pgX zX8_count 0 [(0, .ref 0), (1, .int v1)] [] I J P
  refine rr_iload_n dX8_count_0 rfl 1 rfl rfl ?_
  by_cases hs : Int32.toInt v1 < 0 ∨ 7 < Int32.toInt v1
  · refine rr_tableOut (tgt := 133) dX8_count_1 hs (by decide) ?_
    have h := h.1 hs
    refine rr_iconst (v := (-1 : Int32)) dX8_count_133 (by decide) rfl ?_
    exact rr_iret dX8_count_134 rfl h
  · rcases sw_7 v1 hs with hc | hc | hc | hc | hc | hc | hc | hc
    · have h := h.2.1 hc
      refine rr_tableIn (tgt := 48) dX8_count_1 (by rw [hc]; decide) (by rw [hc]; decide) (by rw [hc]; rfl) (by decide) ?_
      refine rr_aload_n dX8_count_48 rfl 0 rfl rfl ?_
      refine rr_getR dX8_count_49 fX8_12 (by decide) rfl rfl rfl ?_
      refine rr_getR dX8_count_52 fX8_71 (by decide) rfl rfl rfl ?_
      refine rr_getI dX8_count_55 fX8_121 (by decide) rfl rfl rfl ?_
      exact rr_iret dX8_count_58 rfl h
    · have h := h.2.2.1 hc
      refine rr_tableIn (tgt := 59) dX8_count_1 (by rw [hc]; decide) (by rw [hc]; decide) (by rw [hc]; rfl) (by decide) ?_
      refine rr_aload_n dX8_count_59 rfl 0 rfl rfl ?_
      refine rr_getR dX8_count_60 fX8_12 (by decide) rfl rfl rfl ?_
      refine rr_getR dX8_count_63 fX8_71 (by decide) rfl rfl rfl ?_
      refine rr_getI dX8_count_66 fX8_124 (by decide) rfl rfl rfl ?_
      exact rr_iret dX8_count_69 rfl h
    · have h := h.2.2.2.1 hc
      refine rr_tableIn (tgt := 70) dX8_count_1 (by rw [hc]; decide) (by rw [hc]; decide) (by rw [hc]; rfl) (by decide) ?_
      refine rr_aload_n dX8_count_70 rfl 0 rfl rfl ?_
      refine rr_getR dX8_count_71 fX8_12 (by decide) rfl rfl rfl ?_
      refine rr_getR dX8_count_74 fX8_71 (by decide) rfl rfl rfl ?_
      refine rr_getI dX8_count_77 fX8_127 (by decide) rfl rfl rfl ?_
      exact rr_iret dX8_count_80 rfl h
    · have h := h.2.2.2.2.1 hc
      refine rr_tableIn (tgt := 81) dX8_count_1 (by rw [hc]; decide) (by rw [hc]; decide) (by rw [hc]; rfl) (by decide) ?_
      refine rr_aload_n dX8_count_81 rfl 0 rfl rfl ?_
      refine rr_getR dX8_count_82 fX8_12 (by decide) rfl rfl rfl ?_
      refine rr_getR dX8_count_85 fX8_90 (by decide) rfl rfl rfl ?_
      refine rr_V [] [] dX8_count_88 kX0_size mX8_86 ⟨by decide, by decide⟩ (by decide) rfl rfl rfl (Nat.le_of_ble_eq_true rfl) rfl (h.mono fun vr I1 J1 h => ?_)
      obtain ⟨r1, rfl, h⟩ := h
      show rr pgX zX8_count 91 _ [.int r1] _ _ _
      exact rr_iret dX8_count_91 rfl h
    · have h := h.2.2.2.2.2.1 hc
      refine rr_tableIn (tgt := 92) dX8_count_1 (by rw [hc]; decide) (by rw [hc]; decide) (by rw [hc]; rfl) (by decide) ?_
      refine rr_aload_n dX8_count_92 rfl 0 rfl rfl ?_
      refine rr_getR dX8_count_93 fX8_12 (by decide) rfl rfl rfl ?_
      refine rr_getR dX8_count_96 fX8_130 (by decide) rfl rfl rfl ?_
      refine rr_V [] [] dX8_count_99 kX0_size mX8_86 ⟨by decide, by decide⟩ (by decide) rfl rfl rfl (Nat.le_of_ble_eq_true rfl) rfl (h.mono fun vr I2 J2 h => ?_)
      obtain ⟨r2, rfl, h⟩ := h
      show rr pgX zX8_count 102 _ [.int r2] _ _ _
      exact rr_iret dX8_count_102 rfl h
    · have h := h.2.2.2.2.2.2.1 hc
      refine rr_tableIn (tgt := 103) dX8_count_1 (by rw [hc]; decide) (by rw [hc]; decide) (by rw [hc]; rfl) (by decide) ?_
      refine rr_aload_n dX8_count_103 rfl 0 rfl rfl ?_
      refine rr_getR dX8_count_104 fX8_12 (by decide) rfl rfl rfl ?_
      refine rr_getR dX8_count_107 fX8_133 (by decide) rfl rfl rfl ?_
      refine rr_V [] [] dX8_count_110 kX0_size mX8_86 ⟨by decide, by decide⟩ (by decide) rfl rfl rfl (Nat.le_of_ble_eq_true rfl) rfl (h.mono fun vr I3 J3 h => ?_)
      obtain ⟨r3, rfl, h⟩ := h
      show rr pgX zX8_count 113 _ [.int r3] _ _ _
      exact rr_iret dX8_count_113 rfl h
    · have h := h.2.2.2.2.2.2.2.1 hc
      refine rr_tableIn (tgt := 114) dX8_count_1 (by rw [hc]; decide) (by rw [hc]; decide) (by rw [hc]; rfl) (by decide) ?_
      refine rr_aload_n dX8_count_114 rfl 0 rfl rfl ?_
      refine rr_getR dX8_count_115 fX8_12 (by decide) rfl rfl rfl ?_
      refine rr_getR dX8_count_118 fX8_136 (by decide) rfl rfl rfl ?_
      refine rr_V [] [] dX8_count_121 kX0_size mX8_86 ⟨by decide, by decide⟩ (by decide) rfl rfl rfl (Nat.le_of_ble_eq_true rfl) rfl (h.mono fun vr I4 J4 h => ?_)
      obtain ⟨r4, rfl, h⟩ := h
      show rr pgX zX8_count 124 _ [.int r4] _ _ _
      exact rr_iret dX8_count_124 rfl h
    · have h := h.2.2.2.2.2.2.2.2 hc
      refine rr_tableIn (tgt := 125) dX8_count_1 (by rw [hc]; decide) (by rw [hc]; decide) (by rw [hc]; rfl) (by decide) ?_
      refine rr_aload_n dX8_count_125 rfl 0 rfl rfl ?_
      refine rr_getR dX8_count_126 fX8_19 (by decide) rfl rfl rfl ?_
      refine rr_getI dX8_count_129 fX8_139 (by decide) rfl rfl rfl ?_
      exact rr_iret dX8_count_132 rfl h

theorem e_X8_neighbour {I : tg_I} {J : tg_J} {P : Option Value → tg_I → tg_J → Prop} (v1 : Int32) (v2 : Int32) (h :
  call pgX zX2_holds [.ref 2, .int v1] I J (fun vr I1 J1 => ∃ r1 : Int32, vr = some (.int r1) ∧
  ((r1 = 0 →
   P (some (.int (-1 : Int32))) I1 J1) ∧
  (¬ r1 = 0 →
   (v2 < 0 →
     P (some (.int (-1 : Int32))) I1 J1) ∧
    (¬ v2 < 0 →
     vp_in v1 100 ∧
      ((v2 < (I1 6 (Int32.toNatClampNeg v1)) →
       vp_in ((v1 * (8 : Int32)) + v2) 800 ∧
        (P (some (.int (I1 5 (Int32.toNatClampNeg ((v1 * (8 : Int32)) + v2))))) I1 J1)) ∧
      (¬ v2 < (I1 6 (Int32.toNatClampNeg v1)) →
       P (some (.int (-1 : Int32))) I1 J1))))))) : call pgX zX8_neighbour [.ref 0, .int v1, .int v2] I J P := by
  refine call_of (by decide +kernel) (fun _ => Nat.le_of_ble_eq_true rfl) ?_
  show rr pgX zX8_neighbour 0 [(0, .ref 0), (1, .int v1), (2, .int v2)] [] I J P
  refine rr_aload_n dX8_neighbour_0 rfl 0 rfl rfl ?_
  refine rr_getR dX8_neighbour_1 fX8_12 (by decide) rfl rfl rfl ?_
  refine rr_getR dX8_neighbour_4 fX8_71 (by decide) rfl rfl rfl ?_
  refine rr_iload_n dX8_neighbour_7 rfl 1 rfl rfl ?_
  refine rr_V [.int v1] [] dX8_neighbour_8 kX2_holds mX8_79 ⟨by decide, by decide⟩ (by decide) rfl rfl rfl (Nat.le_of_ble_eq_true rfl) rfl (h.mono fun vr I1 J1 h => ?_)
  obtain ⟨r1, rfl, h⟩ := h
  show rr pgX zX8_neighbour 11 _ [.int r1] _ _ _
  refine rr_if_eq (tgt := 34) dX8_neighbour_11 (by decide) rfl ⟨fun hc => ?_, fun hc => ?_⟩
  · have h := h.1 hc
    refine rr_iconst (v := (-1 : Int32)) dX8_neighbour_34 (by decide) rfl ?_
    exact rr_iret dX8_neighbour_35 rfl h
  · have h := h.2 hc
    refine rr_iload_n dX8_neighbour_14 rfl 2 rfl rfl ?_
    refine rr_if_lt (tgt := 34) dX8_neighbour_15 (by decide) rfl ⟨fun hc => ?_, fun hc => ?_⟩
    · have h := h.1 hc
      refine rr_iconst (v := (-1 : Int32)) dX8_neighbour_34 (by decide) rfl ?_
      exact rr_iret dX8_neighbour_35 rfl h
    · have h := h.2 hc
      refine rr_iload_n dX8_neighbour_18 rfl 2 rfl rfl ?_
      refine rr_aload_n dX8_neighbour_19 rfl 0 rfl rfl ?_
      refine rr_getR dX8_neighbour_20 fX8_12 (by decide) rfl rfl rfl ?_
      refine rr_getR dX8_neighbour_23 fX8_71 (by decide) rfl rfl rfl ?_
      refine rr_getR dX8_neighbour_26 fX8_141 (by decide) rfl rfl rfl ?_
      refine rr_iload_n dX8_neighbour_29 rfl 1 rfl rfl ?_
      refine rr_iald dX8_neighbour_30 (by decide) rfl rfl ⟨h.1, ?_⟩
      have h := h.2
      refine rr_icmp_lt (tgt := 36) dX8_neighbour_31 (by decide) rfl ⟨fun hc => ?_, fun hc => ?_⟩
      · have h := h.1 hc
        refine rr_aload_n dX8_neighbour_36 rfl 0 rfl rfl ?_
        refine rr_getR dX8_neighbour_37 fX8_12 (by decide) rfl rfl rfl ?_
        refine rr_getR dX8_neighbour_40 fX8_71 (by decide) rfl rfl rfl ?_
        refine rr_getR dX8_neighbour_43 fX8_145 (by decide) rfl rfl rfl ?_
        refine rr_iload_n dX8_neighbour_46 rfl 1 rfl rfl ?_
        refine rr_bipush (v := (8 : Int32)) dX8_neighbour_47 (by decide) rfl ?_
        refine rr_imul dX8_neighbour_49 rfl ?_
        refine rr_iload_n dX8_neighbour_50 rfl 2 rfl rfl ?_
        refine rr_iadd dX8_neighbour_51 rfl ?_
        refine rr_iald dX8_neighbour_52 (by decide) rfl rfl ⟨h.1, ?_⟩
        have h := h.2
        exact rr_iret dX8_neighbour_53 rfl h
      · have h := h.2 hc
        refine rr_iconst (v := (-1 : Int32)) dX8_neighbour_34 (by decide) rfl ?_
        exact rr_iret dX8_neighbour_35 rfl h

theorem e_X8_mined {I : tg_I} {J : tg_J} {P : Option Value → tg_I → tg_J → Prop} (v1 : Int32) (h :
  call pgX zX2_holds [.ref 2, .int v1] I J (fun vr I1 J1 => ∃ r1 : Int32, vr = some (.int r1) ∧
  ((r1 = 0 →
   P (some (.int (0 : Int32))) I1 J1) ∧
  (¬ r1 = 0 →
   call pgX zX0_has [.ref 8, .int v1] I1 J1 (fun vr I2 J2 => ∃ r2 : Int32, vr = some (.int r2) ∧
    ((r2 = 0 →
     P (some (.int (0 : Int32))) I2 J2) ∧
    (¬ r2 = 0 →
     P (some (.int (1 : Int32))) I2 J2))))))) : call pgX zX8_mined [.ref 0, .int v1] I J P := by
  refine call_of (by decide +kernel) (fun _ => Nat.le_of_ble_eq_true rfl) ?_
  show rr pgX zX8_mined 0 [(0, .ref 0), (1, .int v1)] [] I J P
  refine rr_aload_n dX8_mined_0 rfl 0 rfl rfl ?_
  refine rr_getR dX8_mined_1 fX8_12 (by decide) rfl rfl rfl ?_
  refine rr_getR dX8_mined_4 fX8_71 (by decide) rfl rfl rfl ?_
  refine rr_iload_n dX8_mined_7 rfl 1 rfl rfl ?_
  refine rr_V [.int v1] [] dX8_mined_8 kX2_holds mX8_79 ⟨by decide, by decide⟩ (by decide) rfl rfl rfl (Nat.le_of_ble_eq_true rfl) rfl (h.mono fun vr I1 J1 h => ?_)
  obtain ⟨r1, rfl, h⟩ := h
  show rr pgX zX8_mined 11 _ [.int r1] _ _ _
  refine rr_if_eq (tgt := 32) dX8_mined_11 (by decide) rfl ⟨fun hc => ?_, fun hc => ?_⟩
  · have h := h.1 hc
    refine rr_iconst (v := (0 : Int32)) dX8_mined_32 (by decide) rfl ?_
    exact rr_zret dX8_mined_33 rfl rfl h
  · have h := h.2 hc
    refine rr_aload_n dX8_mined_14 rfl 0 rfl rfl ?_
    refine rr_getR dX8_mined_15 fX8_12 (by decide) rfl rfl rfl ?_
    refine rr_getR dX8_mined_18 fX8_90 (by decide) rfl rfl rfl ?_
    refine rr_iload_n dX8_mined_21 rfl 1 rfl rfl ?_
    refine rr_V [.int v1] [] dX8_mined_22 kX0_has mX8_93 ⟨by decide, by decide⟩ (by decide) rfl rfl rfl (Nat.le_of_ble_eq_true rfl) rfl (h.mono fun vr I2 J2 h => ?_)
    obtain ⟨r2, rfl, h⟩ := h
    show rr pgX zX8_mined 25 _ [.int r2] _ _ _
    refine rr_if_eq (tgt := 32) dX8_mined_25 (by decide) rfl ⟨fun hc => ?_, fun hc => ?_⟩
    · have h := h.1 hc
      refine rr_iconst (v := (0 : Int32)) dX8_mined_32 (by decide) rfl ?_
      exact rr_zret dX8_mined_33 rfl rfl h
    · have h := h.2 hc
      refine rr_iconst (v := (1 : Int32)) dX8_mined_28 (by decide) rfl ?_
      refine rr_goto (tgt := 33) dX8_mined_29 (by decide) ?_
      exact rr_zret dX8_mined_33 rfl rfl h

theorem e_X8_open {I : tg_I} {J : tg_J} {P : Option Value → tg_I → tg_J → Prop} (v1 : Int32) (h :
  call pgX zX2_holds [.ref 2, .int v1] I J (fun vr I1 J1 => ∃ r1 : Int32, vr = some (.int r1) ∧
  ((¬ r1 = 0 →
   call pgX zX0_has [.ref 9, .int v1] I1 J1 (fun vr I2 J2 => ∃ r2 : Int32, vr = some (.int r2) ∧
    ((r2 = 0 →
     P (some (.int (-2 : Int32))) I2 J2) ∧
    (¬ r2 = 0 →
     call pgX zX0_has [.ref 12, .int v1] I2 J2 (fun vr I3 J3 => ∃ r3 : Int32, vr = some (.int r3) ∧
      ((r3 = 0 →
       ((I3 15 1) < (200 : Int32) →
         call pgX zX4_keep [.ref 15, .ref 1] I3 J3 (fun vr I4 J4 => vr = none ∧
          (call pgX zX1_uncover [.ref 1, .int v1] I4 J4 (fun vr I5 J5 => vr = none ∧
          (call pgX zX0_has [.ref 8, .int v1] I5 J5 (fun vr I6 J6 => ∃ r4 : Int32, vr = some (.int r4) ∧
          ((r4 = 0 →
           call pgX zX1_number [.ref 1, .int v1] I6 J6 (fun vr I7 J7 => ∃ r5 : Int32, vr = some (.int r5) ∧
            (P (some (.int r5)) I7 J7))) ∧
          (¬ r4 = 0 →
           P (some (.int (-5 : Int32))) I6 J6)))))))) ∧
        (¬ (I3 15 1) < (200 : Int32) →
         P (some (.int (-4 : Int32))) I3 J3)) ∧
      (¬ r3 = 0 →
       P (some (.int (-2 : Int32))) I3 J3))))))) ∧
  (r1 = 0 →
   P (some (.int (-1 : Int32))) I1 J1)))) : call pgX zX8_open [.ref 0, .int v1] I J P := by
  refine call_of (by decide +kernel) (fun _ => Nat.le_of_ble_eq_true rfl) ?_
  show rr pgX zX8_open 0 [(0, .ref 0), (1, .int v1)] [] I J P
  refine rr_aload_n dX8_open_0 rfl 0 rfl rfl ?_
  refine rr_getR dX8_open_1 fX8_12 (by decide) rfl rfl rfl ?_
  refine rr_getR dX8_open_4 fX8_71 (by decide) rfl rfl rfl ?_
  refine rr_iload_n dX8_open_7 rfl 1 rfl rfl ?_
  refine rr_V [.int v1] [] dX8_open_8 kX2_holds mX8_79 ⟨by decide, by decide⟩ (by decide) rfl rfl rfl (Nat.le_of_ble_eq_true rfl) rfl (h.mono fun vr I1 J1 h => ?_)
  obtain ⟨r1, rfl, h⟩ := h
  show rr pgX zX8_open 11 _ [.int r1] _ _ _
  refine rr_if_ne (tgt := 16) dX8_open_11 (by decide) rfl ⟨fun hc => ?_, fun hc => ?_⟩
  · have h := h.1 hc
    refine rr_aload_n dX8_open_16 rfl 0 rfl rfl ?_
    refine rr_getR dX8_open_17 fX8_12 (by decide) rfl rfl rfl ?_
    refine rr_getR dX8_open_20 fX8_83 (by decide) rfl rfl rfl ?_
    refine rr_iload_n dX8_open_23 rfl 1 rfl rfl ?_
    refine rr_V [.int v1] [] dX8_open_24 kX0_has mX8_93 ⟨by decide, by decide⟩ (by decide) rfl rfl rfl (Nat.le_of_ble_eq_true rfl) rfl (h.mono fun vr I2 J2 h => ?_)
    obtain ⟨r2, rfl, h⟩ := h
    show rr pgX zX8_open 27 _ [.int r2] _ _ _
    refine rr_if_eq (tgt := 44) dX8_open_27 (by decide) rfl ⟨fun hc => ?_, fun hc => ?_⟩
    · have h := h.1 hc
      refine rr_bipush (v := (-2 : Int32)) dX8_open_44 (by decide) rfl ?_
      exact rr_iret dX8_open_46 rfl h
    · have h := h.2 hc
      refine rr_aload_n dX8_open_30 rfl 0 rfl rfl ?_
      refine rr_getR dX8_open_31 fX8_12 (by decide) rfl rfl rfl ?_
      refine rr_getR dX8_open_34 fX8_133 (by decide) rfl rfl rfl ?_
      refine rr_iload_n dX8_open_37 rfl 1 rfl rfl ?_
      refine rr_V [.int v1] [] dX8_open_38 kX0_has mX8_93 ⟨by decide, by decide⟩ (by decide) rfl rfl rfl (Nat.le_of_ble_eq_true rfl) rfl (h.mono fun vr I3 J3 h => ?_)
      obtain ⟨r3, rfl, h⟩ := h
      show rr pgX zX8_open 41 _ [.int r3] _ _ _
      refine rr_if_eq (tgt := 47) dX8_open_41 (by decide) rfl ⟨fun hc => ?_, fun hc => ?_⟩
      · have h := h.1 hc
        refine rr_aload_n dX8_open_47 rfl 0 rfl rfl ?_
        refine rr_getR dX8_open_48 fX8_19 (by decide) rfl rfl rfl ?_
        refine rr_getI dX8_open_51 fX8_139 (by decide) rfl rfl rfl ?_
        refine rr_sipush (v := (200 : Int32)) dX8_open_54 (by decide) rfl ?_
        refine rr_icmp_lt (tgt := 63) dX8_open_57 (by decide) rfl ⟨fun hc => ?_, fun hc => ?_⟩
        · have h := h.1 hc
          refine rr_aload_n dX8_open_63 rfl 0 rfl rfl ?_
          refine rr_getR dX8_open_64 fX8_19 (by decide) rfl rfl rfl ?_
          refine rr_aload_n dX8_open_67 rfl 0 rfl rfl ?_
          refine rr_getR dX8_open_68 fX8_12 (by decide) rfl rfl rfl ?_
          refine rr_V [.ref 1] [] dX8_open_71 kX4_keep mX8_148 ⟨by decide, by decide⟩ (by decide) rfl rfl rfl (Nat.le_of_ble_eq_true rfl) rfl (h.mono fun vr I4 J4 h => ?_)
          obtain ⟨rfl, h⟩ := h
          show rr pgX zX8_open 74 _ [] _ _ _
          refine rr_aload_n dX8_open_74 rfl 0 rfl rfl ?_
          refine rr_getR dX8_open_75 fX8_12 (by decide) rfl rfl rfl ?_
          refine rr_iload_n dX8_open_78 rfl 1 rfl rfl ?_
          refine rr_V [.int v1] [] dX8_open_79 kX1_uncover mX8_152 ⟨by decide, by decide⟩ (by decide) rfl rfl rfl (Nat.le_of_ble_eq_true rfl) rfl (h.mono fun vr I5 J5 h => ?_)
          obtain ⟨rfl, h⟩ := h
          show rr pgX zX8_open 82 _ [] _ _ _
          refine rr_aload_n dX8_open_82 rfl 0 rfl rfl ?_
          refine rr_getR dX8_open_83 fX8_12 (by decide) rfl rfl rfl ?_
          refine rr_getR dX8_open_86 fX8_90 (by decide) rfl rfl rfl ?_
          refine rr_iload_n dX8_open_89 rfl 1 rfl rfl ?_
          refine rr_V [.int v1] [] dX8_open_90 kX0_has mX8_93 ⟨by decide, by decide⟩ (by decide) rfl rfl rfl (Nat.le_of_ble_eq_true rfl) rfl (h.mono fun vr I6 J6 h => ?_)
          obtain ⟨r4, rfl, h⟩ := h
          show rr pgX zX8_open 93 _ [.int r4] _ _ _
          refine rr_if_eq (tgt := 101) dX8_open_93 (by decide) rfl ⟨fun hc => ?_, fun hc => ?_⟩
          · have h := h.1 hc
            refine rr_aload_n dX8_open_101 rfl 0 rfl rfl ?_
            refine rr_getR dX8_open_102 fX8_12 (by decide) rfl rfl rfl ?_
            refine rr_iload_n dX8_open_105 rfl 1 rfl rfl ?_
            refine rr_V [.int v1] [] dX8_open_106 kX1_number mX8_156 ⟨by decide, by decide⟩ (by decide) rfl rfl rfl (Nat.le_of_ble_eq_true rfl) rfl (h.mono fun vr I7 J7 h => ?_)
            obtain ⟨r5, rfl, h⟩ := h
            show rr pgX zX8_open 109 _ [.int r5] _ _ _
            exact rr_iret dX8_open_109 rfl h
          · have h := h.2 hc
            refine rr_bipush (v := (-5 : Int32)) dX8_open_96 (by decide) rfl ?_
            refine rr_goto (tgt := 109) dX8_open_98 (by decide) ?_
            exact rr_iret dX8_open_109 rfl h
        · have h := h.2 hc
          refine rr_bipush (v := (-4 : Int32)) dX8_open_60 (by decide) rfl ?_
          exact rr_iret dX8_open_62 rfl h
      · have h := h.2 hc
        refine rr_bipush (v := (-2 : Int32)) dX8_open_44 (by decide) rfl ?_
        exact rr_iret dX8_open_46 rfl h
  · have h := h.2 hc
    refine rr_iconst (v := (-1 : Int32)) dX8_open_14 (by decide) rfl ?_
    exact rr_iret dX8_open_15 rfl h

theorem e_X8_flag {I : tg_I} {J : tg_J} {P : Option Value → tg_I → tg_J → Prop} (v1 : Int32) (h :
  call pgX zX2_holds [.ref 2, .int v1] I J (fun vr I1 J1 => ∃ r1 : Int32, vr = some (.int r1) ∧
  ((¬ r1 = 0 →
   call pgX zX0_has [.ref 9, .int v1] I1 J1 (fun vr I2 J2 => ∃ r2 : Int32, vr = some (.int r2) ∧
    ((¬ r2 = 0 →
     ((I2 15 1) < (200 : Int32) →
       call pgX zX4_keep [.ref 15, .ref 1] I2 J2 (fun vr I3 J3 => vr = none ∧
        (call pgX zX0_has [.ref 12, .int v1] I3 J3 (fun vr I4 J4 => ∃ r3 : Int32, vr = some (.int r3) ∧
        ((¬ r3 = 0 →
         call pgX zX0_put [.ref 12, .int v1, .int (0 : Int32)] I4 J4 (fun vr I5 J5 => vr = none ∧
          (call pgX zX0_has [.ref 12, .int v1] I5 J5 (fun vr I6 J6 => ∃ r4 : Int32, vr = some (.int r4) ∧
          ((r4 = 0 →
           P (some (.int (0 : Int32))) I6 J6) ∧
          (¬ r4 = 0 →
           P (some (.int (1 : Int32))) I6 J6)))))) ∧
        (r3 = 0 →
         call pgX zX0_put [.ref 12, .int v1, .int (1 : Int32)] I4 J4 (fun vr I7 J7 => vr = none ∧
          (call pgX zX0_has [.ref 12, .int v1] I7 J7 (fun vr I8 J8 => ∃ r5 : Int32, vr = some (.int r5) ∧
          ((r5 = 0 →
           P (some (.int (0 : Int32))) I8 J8) ∧
          (¬ r5 = 0 →
           P (some (.int (1 : Int32))) I8 J8))))))))))) ∧
      (¬ (I2 15 1) < (200 : Int32) →
       P (some (.int (-4 : Int32))) I2 J2)) ∧
    (r2 = 0 →
     P (some (.int (-2 : Int32))) I2 J2)))) ∧
  (r1 = 0 →
   P (some (.int (-1 : Int32))) I1 J1)))) : call pgX zX8_flag [.ref 0, .int v1] I J P := by
  refine call_of (by decide +kernel) (fun _ => Nat.le_of_ble_eq_true rfl) ?_
  show rr pgX zX8_flag 0 [(0, .ref 0), (1, .int v1)] [] I J P
  refine rr_aload_n dX8_flag_0 rfl 0 rfl rfl ?_
  refine rr_getR dX8_flag_1 fX8_12 (by decide) rfl rfl rfl ?_
  refine rr_getR dX8_flag_4 fX8_71 (by decide) rfl rfl rfl ?_
  refine rr_iload_n dX8_flag_7 rfl 1 rfl rfl ?_
  refine rr_V [.int v1] [] dX8_flag_8 kX2_holds mX8_79 ⟨by decide, by decide⟩ (by decide) rfl rfl rfl (Nat.le_of_ble_eq_true rfl) rfl (h.mono fun vr I1 J1 h => ?_)
  obtain ⟨r1, rfl, h⟩ := h
  show rr pgX zX8_flag 11 _ [.int r1] _ _ _
  refine rr_if_ne (tgt := 16) dX8_flag_11 (by decide) rfl ⟨fun hc => ?_, fun hc => ?_⟩
  · have h := h.1 hc
    refine rr_aload_n dX8_flag_16 rfl 0 rfl rfl ?_
    refine rr_getR dX8_flag_17 fX8_12 (by decide) rfl rfl rfl ?_
    refine rr_getR dX8_flag_20 fX8_83 (by decide) rfl rfl rfl ?_
    refine rr_iload_n dX8_flag_23 rfl 1 rfl rfl ?_
    refine rr_V [.int v1] [] dX8_flag_24 kX0_has mX8_93 ⟨by decide, by decide⟩ (by decide) rfl rfl rfl (Nat.le_of_ble_eq_true rfl) rfl (h.mono fun vr I2 J2 h => ?_)
    obtain ⟨r2, rfl, h⟩ := h
    show rr pgX zX8_flag 27 _ [.int r2] _ _ _
    refine rr_if_ne (tgt := 33) dX8_flag_27 (by decide) rfl ⟨fun hc => ?_, fun hc => ?_⟩
    · have h := h.1 hc
      refine rr_aload_n dX8_flag_33 rfl 0 rfl rfl ?_
      refine rr_getR dX8_flag_34 fX8_19 (by decide) rfl rfl rfl ?_
      refine rr_getI dX8_flag_37 fX8_139 (by decide) rfl rfl rfl ?_
      refine rr_sipush (v := (200 : Int32)) dX8_flag_40 (by decide) rfl ?_
      refine rr_icmp_lt (tgt := 49) dX8_flag_43 (by decide) rfl ⟨fun hc => ?_, fun hc => ?_⟩
      · have h := h.1 hc
        refine rr_aload_n dX8_flag_49 rfl 0 rfl rfl ?_
        refine rr_getR dX8_flag_50 fX8_19 (by decide) rfl rfl rfl ?_
        refine rr_aload_n dX8_flag_53 rfl 0 rfl rfl ?_
        refine rr_getR dX8_flag_54 fX8_12 (by decide) rfl rfl rfl ?_
        refine rr_V [.ref 1] [] dX8_flag_57 kX4_keep mX8_148 ⟨by decide, by decide⟩ (by decide) rfl rfl rfl (Nat.le_of_ble_eq_true rfl) rfl (h.mono fun vr I3 J3 h => ?_)
        obtain ⟨rfl, h⟩ := h
        show rr pgX zX8_flag 60 _ [] _ _ _
        refine rr_aload_n dX8_flag_60 rfl 0 rfl rfl ?_
        refine rr_getR dX8_flag_61 fX8_12 (by decide) rfl rfl rfl ?_
        refine rr_getR dX8_flag_64 fX8_133 (by decide) rfl rfl rfl ?_
        refine rr_iload_n dX8_flag_67 rfl 1 rfl rfl ?_
        refine rr_aload_n dX8_flag_68 rfl 0 rfl rfl ?_
        refine rr_getR dX8_flag_69 fX8_12 (by decide) rfl rfl rfl ?_
        refine rr_getR dX8_flag_72 fX8_133 (by decide) rfl rfl rfl ?_
        refine rr_iload_n dX8_flag_75 rfl 1 rfl rfl ?_
        refine rr_V [.int v1] [.int v1, .ref 12] dX8_flag_76 kX0_has mX8_93 ⟨by decide, by decide⟩ (by decide) rfl rfl rfl (Nat.le_of_ble_eq_true rfl) rfl (h.mono fun vr I4 J4 h => ?_)
        obtain ⟨r3, rfl, h⟩ := h
        show rr pgX zX8_flag 79 _ [.int r3, .int v1, .ref 12] _ _ _
        refine rr_if_ne (tgt := 86) dX8_flag_79 (by decide) rfl ⟨fun hc => ?_, fun hc => ?_⟩
        · have h := h.1 hc
          refine rr_iconst (v := (0 : Int32)) dX8_flag_86 (by decide) rfl ?_
          refine rr_V [.int v1, .int (0 : Int32)] [] dX8_flag_87 kX0_put mX8_96 ⟨by decide, by decide⟩ (by decide) rfl rfl rfl (Nat.le_of_ble_eq_true rfl) rfl (h.mono fun vr I5 J5 h => ?_)
          obtain ⟨rfl, h⟩ := h
          show rr pgX zX8_flag 90 _ [] _ _ _
          refine rr_aload_n dX8_flag_90 rfl 0 rfl rfl ?_
          refine rr_getR dX8_flag_91 fX8_12 (by decide) rfl rfl rfl ?_
          refine rr_getR dX8_flag_94 fX8_133 (by decide) rfl rfl rfl ?_
          refine rr_iload_n dX8_flag_97 rfl 1 rfl rfl ?_
          refine rr_V [.int v1] [] dX8_flag_98 kX0_has mX8_93 ⟨by decide, by decide⟩ (by decide) rfl rfl rfl (Nat.le_of_ble_eq_true rfl) rfl (h.mono fun vr I6 J6 h => ?_)
          obtain ⟨r4, rfl, h⟩ := h
          show rr pgX zX8_flag 101 _ [.int r4] _ _ _
          refine rr_if_eq (tgt := 108) dX8_flag_101 (by decide) rfl ⟨fun hc => ?_, fun hc => ?_⟩
          · have h := h.1 hc
            refine rr_iconst (v := (0 : Int32)) dX8_flag_108 (by decide) rfl ?_
            exact rr_iret dX8_flag_109 rfl h
          · have h := h.2 hc
            refine rr_iconst (v := (1 : Int32)) dX8_flag_104 (by decide) rfl ?_
            refine rr_goto (tgt := 109) dX8_flag_105 (by decide) ?_
            exact rr_iret dX8_flag_109 rfl h
        · have h := h.2 hc
          refine rr_iconst (v := (1 : Int32)) dX8_flag_82 (by decide) rfl ?_
          refine rr_goto (tgt := 87) dX8_flag_83 (by decide) ?_
          refine rr_V [.int v1, .int (1 : Int32)] [] dX8_flag_87 kX0_put mX8_96 ⟨by decide, by decide⟩ (by decide) rfl rfl rfl (Nat.le_of_ble_eq_true rfl) rfl (h.mono fun vr I7 J7 h => ?_)
          obtain ⟨rfl, h⟩ := h
          show rr pgX zX8_flag 90 _ [] _ _ _
          refine rr_aload_n dX8_flag_90 rfl 0 rfl rfl ?_
          refine rr_getR dX8_flag_91 fX8_12 (by decide) rfl rfl rfl ?_
          refine rr_getR dX8_flag_94 fX8_133 (by decide) rfl rfl rfl ?_
          refine rr_iload_n dX8_flag_97 rfl 1 rfl rfl ?_
          refine rr_V [.int v1] [] dX8_flag_98 kX0_has mX8_93 ⟨by decide, by decide⟩ (by decide) rfl rfl rfl (Nat.le_of_ble_eq_true rfl) rfl (h.mono fun vr I8 J8 h => ?_)
          obtain ⟨r5, rfl, h⟩ := h
          show rr pgX zX8_flag 101 _ [.int r5] _ _ _
          refine rr_if_eq (tgt := 108) dX8_flag_101 (by decide) rfl ⟨fun hc => ?_, fun hc => ?_⟩
          · have h := h.1 hc
            refine rr_iconst (v := (0 : Int32)) dX8_flag_108 (by decide) rfl ?_
            exact rr_iret dX8_flag_109 rfl h
          · have h := h.2 hc
            refine rr_iconst (v := (1 : Int32)) dX8_flag_104 (by decide) rfl ?_
            refine rr_goto (tgt := 109) dX8_flag_105 (by decide) ?_
            exact rr_iret dX8_flag_109 rfl h
      · have h := h.2 hc
        refine rr_bipush (v := (-4 : Int32)) dX8_flag_46 (by decide) rfl ?_
        exact rr_iret dX8_flag_48 rfl h
    · have h := h.2 hc
      refine rr_bipush (v := (-2 : Int32)) dX8_flag_30 (by decide) rfl ?_
      exact rr_iret dX8_flag_32 rfl h
  · have h := h.2 hc
    refine rr_iconst (v := (-1 : Int32)) dX8_flag_14 (by decide) rfl ?_
    exact rr_iret dX8_flag_15 rfl h

theorem e_X8_chord {I : tg_I} {J : tg_J} {P : Option Value → tg_I → tg_J → Prop} (v1 : Int32) (h :
  call pgX zX2_holds [.ref 2, .int v1] I J (fun vr I1 J1 => ∃ r1 : Int32, vr = some (.int r1) ∧
  ((¬ r1 = 0 →
   call pgX zX0_has [.ref 10, .int v1] I1 J1 (fun vr I2 J2 => ∃ r2 : Int32, vr = some (.int r2) ∧
    ((r2 = 0 →
     P (some (.int (-2 : Int32))) I2 J2) ∧
    (¬ r2 = 0 →
     call pgX zX1_marked [.ref 1, .int v1] I2 J2 (fun vr I3 J3 => ∃ r3 : Int32, vr = some (.int r3) ∧
      (call pgX zX1_number [.ref 1, .int v1] I3 J3 (fun vr I4 J4 => ∃ r4 : Int32, vr = some (.int r4) ∧
      ((r3 = r4 →
       ((I4 15 1) < (200 : Int32) →
         call pgX zX4_keep [.ref 15, .ref 1] I4 J4 (fun vr I5 J5 => vr = none ∧
          (call pgX zX0_size [.ref 9] I5 J5 (fun vr I6 J6 => ∃ r5 : Int32, vr = some (.int r5) ∧
          (call pgX zX1_uncoverAround [.ref 1, .int v1] I6 J6 (fun vr I7 J7 => vr = none ∧
          (call pgX zX0_size [.ref 9] I7 J7 (fun vr I8 J8 => ∃ r6 : Int32, vr = some (.int r6) ∧
          (P (some (.int (r5 - r6))) I8 J8))))))))) ∧
        (¬ (I4 15 1) < (200 : Int32) →
         P (some (.int (-4 : Int32))) I4 J4)) ∧
      (¬ r3 = r4 →
       P (some (.int (-2 : Int32))) I4 J4))))))))) ∧
  (r1 = 0 →
   P (some (.int (-1 : Int32))) I1 J1)))) : call pgX zX8_chord [.ref 0, .int v1] I J P := by
  refine call_of (by decide +kernel) (fun _ => Nat.le_of_ble_eq_true rfl) ?_
  show rr pgX zX8_chord 0 [(0, .ref 0), (1, .int v1)] [] I J P
  refine rr_aload_n dX8_chord_0 rfl 0 rfl rfl ?_
  refine rr_getR dX8_chord_1 fX8_12 (by decide) rfl rfl rfl ?_
  refine rr_getR dX8_chord_4 fX8_71 (by decide) rfl rfl rfl ?_
  refine rr_iload_n dX8_chord_7 rfl 1 rfl rfl ?_
  refine rr_V [.int v1] [] dX8_chord_8 kX2_holds mX8_79 ⟨by decide, by decide⟩ (by decide) rfl rfl rfl (Nat.le_of_ble_eq_true rfl) rfl (h.mono fun vr I1 J1 h => ?_)
  obtain ⟨r1, rfl, h⟩ := h
  show rr pgX zX8_chord 11 _ [.int r1] _ _ _
  refine rr_if_ne (tgt := 16) dX8_chord_11 (by decide) rfl ⟨fun hc => ?_, fun hc => ?_⟩
  · have h := h.1 hc
    refine rr_aload_n dX8_chord_16 rfl 0 rfl rfl ?_
    refine rr_getR dX8_chord_17 fX8_12 (by decide) rfl rfl rfl ?_
    refine rr_getR dX8_chord_20 fX8_130 (by decide) rfl rfl rfl ?_
    refine rr_iload_n dX8_chord_23 rfl 1 rfl rfl ?_
    refine rr_V [.int v1] [] dX8_chord_24 kX0_has mX8_93 ⟨by decide, by decide⟩ (by decide) rfl rfl rfl (Nat.le_of_ble_eq_true rfl) rfl (h.mono fun vr I2 J2 h => ?_)
    obtain ⟨r2, rfl, h⟩ := h
    show rr pgX zX8_chord 27 _ [.int r2] _ _ _
    refine rr_if_eq (tgt := 49) dX8_chord_27 (by decide) rfl ⟨fun hc => ?_, fun hc => ?_⟩
    · have h := h.1 hc
      refine rr_bipush (v := (-2 : Int32)) dX8_chord_49 (by decide) rfl ?_
      exact rr_iret dX8_chord_51 rfl h
    · have h := h.2 hc
      refine rr_aload_n dX8_chord_30 rfl 0 rfl rfl ?_
      refine rr_getR dX8_chord_31 fX8_12 (by decide) rfl rfl rfl ?_
      refine rr_iload_n dX8_chord_34 rfl 1 rfl rfl ?_
      refine rr_V [.int v1] [] dX8_chord_35 kX1_marked mX8_160 ⟨by decide, by decide⟩ (by decide) rfl rfl rfl (Nat.le_of_ble_eq_true rfl) rfl (h.mono fun vr I3 J3 h => ?_)
      obtain ⟨r3, rfl, h⟩ := h
      show rr pgX zX8_chord 38 _ [.int r3] _ _ _
      refine rr_aload_n dX8_chord_38 rfl 0 rfl rfl ?_
      refine rr_getR dX8_chord_39 fX8_12 (by decide) rfl rfl rfl ?_
      refine rr_iload_n dX8_chord_42 rfl 1 rfl rfl ?_
      refine rr_V [.int v1] [.int r3] dX8_chord_43 kX1_number mX8_156 ⟨by decide, by decide⟩ (by decide) rfl rfl rfl (Nat.le_of_ble_eq_true rfl) rfl (h.mono fun vr I4 J4 h => ?_)
      obtain ⟨r4, rfl, h⟩ := h
      show rr pgX zX8_chord 46 _ [.int r4, .int r3] _ _ _
      refine rr_icmp_eq (tgt := 52) dX8_chord_46 (by decide) rfl ⟨fun hc => ?_, fun hc => ?_⟩
      · have h := h.1 hc
        refine rr_aload_n dX8_chord_52 rfl 0 rfl rfl ?_
        refine rr_getR dX8_chord_53 fX8_19 (by decide) rfl rfl rfl ?_
        refine rr_getI dX8_chord_56 fX8_139 (by decide) rfl rfl rfl ?_
        refine rr_sipush (v := (200 : Int32)) dX8_chord_59 (by decide) rfl ?_
        refine rr_icmp_lt (tgt := 68) dX8_chord_62 (by decide) rfl ⟨fun hc => ?_, fun hc => ?_⟩
        · have h := h.1 hc
          refine rr_aload_n dX8_chord_68 rfl 0 rfl rfl ?_
          refine rr_getR dX8_chord_69 fX8_19 (by decide) rfl rfl rfl ?_
          refine rr_aload_n dX8_chord_72 rfl 0 rfl rfl ?_
          refine rr_getR dX8_chord_73 fX8_12 (by decide) rfl rfl rfl ?_
          refine rr_V [.ref 1] [] dX8_chord_76 kX4_keep mX8_148 ⟨by decide, by decide⟩ (by decide) rfl rfl rfl (Nat.le_of_ble_eq_true rfl) rfl (h.mono fun vr I5 J5 h => ?_)
          obtain ⟨rfl, h⟩ := h
          show rr pgX zX8_chord 79 _ [] _ _ _
          refine rr_aload_n dX8_chord_79 rfl 0 rfl rfl ?_
          refine rr_getR dX8_chord_80 fX8_12 (by decide) rfl rfl rfl ?_
          refine rr_getR dX8_chord_83 fX8_83 (by decide) rfl rfl rfl ?_
          refine rr_V [] [] dX8_chord_86 kX0_size mX8_86 ⟨by decide, by decide⟩ (by decide) rfl rfl rfl (Nat.le_of_ble_eq_true rfl) rfl (h.mono fun vr I6 J6 h => ?_)
          obtain ⟨r5, rfl, h⟩ := h
          show rr pgX zX8_chord 89 _ [.int r5] _ _ _
          refine rr_istore_n (lv' := [(2, .int r5), (0, .ref 0), (1, .int v1)]) dX8_chord_89 rfl (by decide) rfl rfl ?_
          refine rr_aload_n dX8_chord_90 rfl 1 rfl rfl ?_
          refine rr_getR dX8_chord_91 fX8_12 (by decide) rfl rfl rfl ?_
          refine rr_iload_n dX8_chord_94 rfl 2 rfl rfl ?_
          refine rr_V [.int v1] [] dX8_chord_95 kX1_uncoverAround mX8_163 ⟨by decide, by decide⟩ (by decide) rfl rfl rfl (Nat.le_of_ble_eq_true rfl) rfl (h.mono fun vr I7 J7 h => ?_)
          obtain ⟨rfl, h⟩ := h
          show rr pgX zX8_chord 98 _ [] _ _ _
          refine rr_iload_n dX8_chord_98 rfl 0 rfl rfl ?_
          refine rr_aload_n dX8_chord_99 rfl 1 rfl rfl ?_
          refine rr_getR dX8_chord_100 fX8_12 (by decide) rfl rfl rfl ?_
          refine rr_getR dX8_chord_103 fX8_83 (by decide) rfl rfl rfl ?_
          refine rr_V [] [.int r5] dX8_chord_106 kX0_size mX8_86 ⟨by decide, by decide⟩ (by decide) rfl rfl rfl (Nat.le_of_ble_eq_true rfl) rfl (h.mono fun vr I8 J8 h => ?_)
          obtain ⟨r6, rfl, h⟩ := h
          show rr pgX zX8_chord 109 _ [.int r6, .int r5] _ _ _
          refine rr_isub dX8_chord_109 rfl ?_
          exact rr_iret dX8_chord_110 rfl h
        · have h := h.2 hc
          refine rr_bipush (v := (-4 : Int32)) dX8_chord_65 (by decide) rfl ?_
          exact rr_iret dX8_chord_67 rfl h
      · have h := h.2 hc
        refine rr_bipush (v := (-2 : Int32)) dX8_chord_49 (by decide) rfl ?_
        exact rr_iret dX8_chord_51 rfl h
  · have h := h.2 hc
    refine rr_iconst (v := (-1 : Int32)) dX8_chord_14 (by decide) rfl ?_
    exact rr_iret dX8_chord_15 rfl h

theorem e_X8_undo {I : tg_I} {J : tg_J} {P : Option Value → tg_I → tg_J → Prop} (h :
  call pgX zX4_takeBack [.ref 15, .ref 1] I J (fun vr I1 J1 => ∃ r1 : Int32, vr = some (.int r1) ∧
  ((r1 = 0 →
   P (some (.int (-2 : Int32))) I1 J1) ∧
  (¬ r1 = 0 →
   P (some (.int (1 : Int32))) I1 J1)))) : call pgX zX8_undo [.ref 0] I J P := by
  refine call_of (by decide +kernel) (fun _ => Nat.le_of_ble_eq_true rfl) ?_
  show rr pgX zX8_undo 0 [(0, .ref 0)] [] I J P
  refine rr_aload_n dX8_undo_0 rfl 0 rfl rfl ?_
  refine rr_getR dX8_undo_1 fX8_19 (by decide) rfl rfl rfl ?_
  refine rr_aload_n dX8_undo_4 rfl 0 rfl rfl ?_
  refine rr_getR dX8_undo_5 fX8_12 (by decide) rfl rfl rfl ?_
  refine rr_V [.ref 1] [] dX8_undo_8 kX4_takeBack mX8_166 ⟨by decide, by decide⟩ (by decide) rfl rfl rfl (Nat.le_of_ble_eq_true rfl) rfl (h.mono fun vr I1 J1 h => ?_)
  obtain ⟨r1, rfl, h⟩ := h
  show rr pgX zX8_undo 11 _ [.int r1] _ _ _
  refine rr_if_eq (tgt := 18) dX8_undo_11 (by decide) rfl ⟨fun hc => ?_, fun hc => ?_⟩
  · have h := h.1 hc
    refine rr_bipush (v := (-2 : Int32)) dX8_undo_18 (by decide) rfl ?_
    exact rr_iret dX8_undo_20 rfl h
  · have h := h.2 hc
    refine rr_iconst (v := (1 : Int32)) dX8_undo_14 (by decide) rfl ?_
    refine rr_goto (tgt := 20) dX8_undo_15 (by decide) ?_
    exact rr_iret dX8_undo_20 rfl h

theorem e_X8_shown {I : tg_I} {J : tg_J} {P : Option Value → tg_I → tg_J → Prop} (v1 : Int32) (h :
  call pgX zX2_holds [.ref 2, .int v1] I J (fun vr I1 J1 => ∃ r1 : Int32, vr = some (.int r1) ∧
  ((¬ r1 = 0 →
   call pgX zX0_has [.ref 10, .int v1] I1 J1 (fun vr I2 J2 => ∃ r2 : Int32, vr = some (.int r2) ∧
    ((r2 = 0 →
     call pgX zX0_has [.ref 11, .int v1] I2 J2 (fun vr I3 J3 => ∃ r3 : Int32, vr = some (.int r3) ∧
      ((r3 = 0 →
       call pgX zX0_has [.ref 12, .int v1] I3 J3 (fun vr I4 J4 => ∃ r4 : Int32, vr = some (.int r4) ∧
        ((r4 = 0 →
         P (some (.int (9 : Int32))) I4 J4) ∧
        (¬ r4 = 0 →
         P (some (.int (10 : Int32))) I4 J4)))) ∧
      (¬ r3 = 0 →
       P (some (.int (11 : Int32))) I3 J3)))) ∧
    (¬ r2 = 0 →
     call pgX zX1_number [.ref 1, .int v1] I2 J2 (fun vr I5 J5 => ∃ r5 : Int32, vr = some (.int r5) ∧
      (P (some (.int r5)) I5 J5)))))) ∧
  (r1 = 0 →
   P (some (.int (-1 : Int32))) I1 J1)))) : call pgX zX8_shown [.ref 0, .int v1] I J P := by
  refine call_of (by decide +kernel) (fun _ => Nat.le_of_ble_eq_true rfl) ?_
  show rr pgX zX8_shown 0 [(0, .ref 0), (1, .int v1)] [] I J P
  refine rr_aload_n dX8_shown_0 rfl 0 rfl rfl ?_
  refine rr_getR dX8_shown_1 fX8_12 (by decide) rfl rfl rfl ?_
  refine rr_getR dX8_shown_4 fX8_71 (by decide) rfl rfl rfl ?_
  refine rr_iload_n dX8_shown_7 rfl 1 rfl rfl ?_
  refine rr_V [.int v1] [] dX8_shown_8 kX2_holds mX8_79 ⟨by decide, by decide⟩ (by decide) rfl rfl rfl (Nat.le_of_ble_eq_true rfl) rfl (h.mono fun vr I1 J1 h => ?_)
  obtain ⟨r1, rfl, h⟩ := h
  show rr pgX zX8_shown 11 _ [.int r1] _ _ _
  refine rr_if_ne (tgt := 16) dX8_shown_11 (by decide) rfl ⟨fun hc => ?_, fun hc => ?_⟩
  · have h := h.1 hc
    refine rr_aload_n dX8_shown_16 rfl 0 rfl rfl ?_
    refine rr_getR dX8_shown_17 fX8_12 (by decide) rfl rfl rfl ?_
    refine rr_getR dX8_shown_20 fX8_130 (by decide) rfl rfl rfl ?_
    refine rr_iload_n dX8_shown_23 rfl 1 rfl rfl ?_
    refine rr_V [.int v1] [] dX8_shown_24 kX0_has mX8_93 ⟨by decide, by decide⟩ (by decide) rfl rfl rfl (Nat.le_of_ble_eq_true rfl) rfl (h.mono fun vr I2 J2 h => ?_)
    obtain ⟨r2, rfl, h⟩ := h
    show rr pgX zX8_shown 27 _ [.int r2] _ _ _
    refine rr_if_eq (tgt := 39) dX8_shown_27 (by decide) rfl ⟨fun hc => ?_, fun hc => ?_⟩
    · have h := h.1 hc
      refine rr_aload_n dX8_shown_39 rfl 0 rfl rfl ?_
      refine rr_getR dX8_shown_40 fX8_12 (by decide) rfl rfl rfl ?_
      refine rr_getR dX8_shown_43 fX8_136 (by decide) rfl rfl rfl ?_
      refine rr_iload_n dX8_shown_46 rfl 1 rfl rfl ?_
      refine rr_V [.int v1] [] dX8_shown_47 kX0_has mX8_93 ⟨by decide, by decide⟩ (by decide) rfl rfl rfl (Nat.le_of_ble_eq_true rfl) rfl (h.mono fun vr I3 J3 h => ?_)
      obtain ⟨r3, rfl, h⟩ := h
      show rr pgX zX8_shown 50 _ [.int r3] _ _ _
      refine rr_if_eq (tgt := 56) dX8_shown_50 (by decide) rfl ⟨fun hc => ?_, fun hc => ?_⟩
      · have h := h.1 hc
        refine rr_aload_n dX8_shown_56 rfl 0 rfl rfl ?_
        refine rr_getR dX8_shown_57 fX8_12 (by decide) rfl rfl rfl ?_
        refine rr_getR dX8_shown_60 fX8_133 (by decide) rfl rfl rfl ?_
        refine rr_iload_n dX8_shown_63 rfl 1 rfl rfl ?_
        refine rr_V [.int v1] [] dX8_shown_64 kX0_has mX8_93 ⟨by decide, by decide⟩ (by decide) rfl rfl rfl (Nat.le_of_ble_eq_true rfl) rfl (h.mono fun vr I4 J4 h => ?_)
        obtain ⟨r4, rfl, h⟩ := h
        show rr pgX zX8_shown 67 _ [.int r4] _ _ _
        refine rr_if_eq (tgt := 75) dX8_shown_67 (by decide) rfl ⟨fun hc => ?_, fun hc => ?_⟩
        · have h := h.1 hc
          refine rr_bipush (v := (9 : Int32)) dX8_shown_75 (by decide) rfl ?_
          exact rr_iret dX8_shown_77 rfl h
        · have h := h.2 hc
          refine rr_bipush (v := (10 : Int32)) dX8_shown_70 (by decide) rfl ?_
          refine rr_goto (tgt := 77) dX8_shown_72 (by decide) ?_
          exact rr_iret dX8_shown_77 rfl h
      · have h := h.2 hc
        refine rr_bipush (v := (11 : Int32)) dX8_shown_53 (by decide) rfl ?_
        exact rr_iret dX8_shown_55 rfl h
    · have h := h.2 hc
      refine rr_aload_n dX8_shown_30 rfl 0 rfl rfl ?_
      refine rr_getR dX8_shown_31 fX8_12 (by decide) rfl rfl rfl ?_
      refine rr_iload_n dX8_shown_34 rfl 1 rfl rfl ?_
      refine rr_V [.int v1] [] dX8_shown_35 kX1_number mX8_156 ⟨by decide, by decide⟩ (by decide) rfl rfl rfl (Nat.le_of_ble_eq_true rfl) rfl (h.mono fun vr I5 J5 h => ?_)
      obtain ⟨r5, rfl, h⟩ := h
      show rr pgX zX8_shown 38 _ [.int r5] _ _ _
      exact rr_iret dX8_shown_38 rfl h
  · have h := h.2 hc
    refine rr_iconst (v := (-1 : Int32)) dX8_shown_14 (by decide) rfl ?_
    exact rr_iret dX8_shown_15 rfl h

theorem e_X8_solved {I : tg_I} {J : tg_J} {P : Option Value → tg_I → tg_J → Prop} (h :
  call pgX zX1_cleared [.ref 1] I J (fun vr I1 J1 => ∃ r1 : Int32, vr = some (.int r1) ∧
  (narrow .boolean (.int r1) = .int r1 ∧ P (some (.int r1)) I1 J1))) : call pgX zX8_solved [.ref 0] I J P := by
  refine call_of (by decide +kernel) (fun _ => Nat.le_of_ble_eq_true rfl) ?_
  show rr pgX zX8_solved 0 [(0, .ref 0)] [] I J P
  refine rr_aload_n dX8_solved_0 rfl 0 rfl rfl ?_
  refine rr_getR dX8_solved_1 fX8_12 (by decide) rfl rfl rfl ?_
  refine rr_V [] [] dX8_solved_4 kX1_cleared mX8_170 ⟨by decide, by decide⟩ (by decide) rfl rfl rfl (Nat.le_of_ble_eq_true rfl) rfl (h.mono fun vr I1 J1 h => ?_)
  obtain ⟨r1, rfl, h⟩ := h
  show rr pgX zX8_solved 7 _ [.int r1] _ _ _
  exact rr_zret dX8_solved_7 rfl h.1 h.2

theorem e_X8_clicks {I : tg_I} {J : tg_J} {P : Option Value → tg_I → tg_J → Prop} (h :
  call pgX zX1_leastOpenings [.ref 1] I J (fun vr I1 J1 => ∃ r1 : Int32, vr = some (.int r1) ∧
  (P (some (.int r1)) I1 J1))) : call pgX zX8_clicks [.ref 0] I J P := by
  refine call_of (by decide +kernel) (fun _ => Nat.le_of_ble_eq_true rfl) ?_
  show rr pgX zX8_clicks 0 [(0, .ref 0)] [] I J P
  refine rr_aload_n dX8_clicks_0 rfl 0 rfl rfl ?_
  refine rr_getR dX8_clicks_1 fX8_12 (by decide) rfl rfl rfl ?_
  refine rr_V [] [] dX8_clicks_4 kX1_leastOpenings mX8_174 ⟨by decide, by decide⟩ (by decide) rfl rfl rfl (Nat.le_of_ble_eq_true rfl) rfl (h.mono fun vr I1 J1 h => ?_)
  obtain ⟨r1, rfl, h⟩ := h
  show rr pgX zX8_clicks 7 _ [.int r1] _ _ _
  exact rr_iret dX8_clicks_7 rfl h

def l_X8_hint_29 (I : tg_I) (J : tg_J) (P : Option Value → tg_I → tg_J → Prop) (v1 : Int32) (v2 : Int32) : Prop := rr pgX zX8_hint 29 [(0, .ref 0), (1, .int v1), (2, .int v2)] [] I J P
theorem e_X8_hint {I : tg_I} {J : tg_J} {P : Option Value → tg_I → tg_J → Prop} (v1 : Int32) (h :
  (v1 < (1 : Int32) →
   P (some (.int (-1 : Int32))) I J) ∧
  (¬ v1 < (1 : Int32) →
   (v1 ≤ (3 : Int32) →
     call pgX zX8_forgetHint [.ref 0] I J (fun vr I1 J1 => vr = none ∧
      (call pgX zX6_begin [.ref 39, .ref 1] I1 J1 (fun vr I2 J2 => vr = none ∧
      (l_X8_hint_29 I2 J2 P v1 ((0 : Int32))))))) ∧
    (¬ v1 ≤ (3 : Int32) →
     P (some (.int (-1 : Int32))) I J))) : call pgX zX8_hint [.ref 0, .int v1] I J P := by
  refine call_of (by decide +kernel) (fun _ => Nat.le_of_ble_eq_true rfl) ?_
  show rr pgX zX8_hint 0 [(0, .ref 0), (1, .int v1)] [] I J P
  refine rr_iload_n dX8_hint_0 rfl 1 rfl rfl ?_
  refine rr_iconst (v := (1 : Int32)) dX8_hint_1 (by decide) rfl ?_
  refine rr_icmp_lt (tgt := 10) dX8_hint_2 (by decide) rfl ⟨fun hc => ?_, fun hc => ?_⟩
  · have h := h.1 hc
    refine rr_iconst (v := (-1 : Int32)) dX8_hint_10 (by decide) rfl ?_
    exact rr_iret dX8_hint_11 rfl h
  · have h := h.2 hc
    refine rr_iload_n dX8_hint_5 rfl 1 rfl rfl ?_
    refine rr_iconst (v := (3 : Int32)) dX8_hint_6 (by decide) rfl ?_
    refine rr_icmp_le (tgt := 12) dX8_hint_7 (by decide) rfl ⟨fun hc => ?_, fun hc => ?_⟩
    · have h := h.1 hc
      refine rr_aload_n dX8_hint_12 rfl 0 rfl rfl ?_
      refine rr_V [] [] dX8_hint_13 kX8_forgetHint mX8_177 ⟨by decide, by decide⟩ (by decide) rfl rfl rfl (Nat.le_of_ble_eq_true rfl) rfl (h.mono fun vr I1 J1 h => ?_)
      obtain ⟨rfl, h⟩ := h
      show rr pgX zX8_hint 16 _ [] _ _ _
      refine rr_aload_n dX8_hint_16 rfl 0 rfl rfl ?_
      refine rr_getR dX8_hint_17 fX8_35 (by decide) rfl rfl rfl ?_
      refine rr_aload_n dX8_hint_20 rfl 0 rfl rfl ?_
      refine rr_getR dX8_hint_21 fX8_12 (by decide) rfl rfl rfl ?_
      refine rr_V [.ref 1] [] dX8_hint_24 kX6_begin mX8_180 ⟨by decide, by decide⟩ (by decide) rfl rfl rfl (Nat.le_of_ble_eq_true rfl) rfl (h.mono fun vr I2 J2 h => ?_)
      obtain ⟨rfl, h⟩ := h
      show rr pgX zX8_hint 27 _ [] _ _ _
      refine rr_iconst (v := (0 : Int32)) dX8_hint_27 (by decide) rfl ?_
      refine rr_istore_n (lv' := [(2, .int (0 : Int32)), (0, .ref 0), (1, .int v1)]) dX8_hint_28 rfl (by decide) rfl rfl ?_
      exact rr.sub [1, 2, 0] rfl h
    · have h := h.2 hc
      refine rr_iconst (v := (-1 : Int32)) dX8_hint_10 (by decide) rfl ?_
      exact rr_iret dX8_hint_11 rfl h
theorem s_X8_hint_29 {I : tg_I} {J : tg_J} {P : Option Value → tg_I → tg_J → Prop} (v1 : Int32) (v2 : Int32) (h :
  ((100 : Int32) < v2 →
   P (some (.int (0 : Int32))) I J) ∧
  (¬ (100 : Int32) < v2 →
   call pgX zX6_find [.ref 39, .int v1] I J (fun vr I1 J1 => ∃ r1 : Int32, vr = some (.int r1) ∧
    ((r1 = 0 →
     P (some (.int (0 : Int32))) I1 J1) ∧
    (¬ r1 = 0 →
     call pgX zX6_firstNews [.ref 39] I1 J1 (fun vr I2 J2 => ∃ r2 : Int32, vr = some (.int r2) ∧
      ((r2 < 0 →
       call pgX zX6_accept [.ref 39] I2 J2 (fun vr I3 J3 => vr = none ∧
        (l_X8_hint_29 I3 J3 P v1 ((v2 + (1 : Int32)))))) ∧
      (¬ r2 < 0 →
       ∀ I4, I4 = u2 I2 0 7 (I2 39 3) →
        call pgX zX0_copy [.ref 62, .ref 41] I4 J2 (fun vr I5 J4 => vr = none ∧
        (((I5 39 2) = 0 →
         P (some (.int ((((2 : Int32) * r2) + (0 : Int32)) + (1 : Int32)))) I5 J4) ∧
        (¬ (I5 39 2) = 0 →
         P (some (.int ((((2 : Int32) * r2) + (1 : Int32)) + (1 : Int32)))) I5 J4))))))))))) : l_X8_hint_29 I J P v1 v2 := by
  show rr pgX zX8_hint 29 [(0, .ref 0), (1, .int v1), (2, .int v2)] [] I J P
  refine rr_iload_n dX8_hint_29 rfl 2 rfl rfl ?_
  refine rr_bipush (v := (100 : Int32)) dX8_hint_30 (by decide) rfl ?_
  refine rr_icmp_gt (tgt := 118) dX8_hint_32 (by decide) rfl ⟨fun hc => ?_, fun hc => ?_⟩
  · have h := h.1 hc
    refine rr_iconst (v := (0 : Int32)) dX8_hint_118 (by decide) rfl ?_
    exact rr_iret dX8_hint_119 rfl h
  · have h := h.2 hc
    refine rr_aload_n dX8_hint_35 rfl 0 rfl rfl ?_
    refine rr_getR dX8_hint_36 fX8_35 (by decide) rfl rfl rfl ?_
    refine rr_iload_n dX8_hint_39 rfl 1 rfl rfl ?_
    refine rr_V [.int v1] [] dX8_hint_40 kX6_find mX8_183 ⟨by decide, by decide⟩ (by decide) rfl rfl rfl (Nat.le_of_ble_eq_true rfl) rfl (h.mono fun vr I1 J1 h => ?_)
    obtain ⟨r1, rfl, h⟩ := h
    show rr pgX zX8_hint 43 _ [.int r1] _ _ _
    refine rr_if_eq (tgt := 118) dX8_hint_43 (by decide) rfl ⟨fun hc => ?_, fun hc => ?_⟩
    · have h := h.1 hc
      refine rr_iconst (v := (0 : Int32)) dX8_hint_118 (by decide) rfl ?_
      exact rr_iret dX8_hint_119 rfl h
    · have h := h.2 hc
      refine rr_aload_n dX8_hint_46 rfl 0 rfl rfl ?_
      refine rr_getR dX8_hint_47 fX8_35 (by decide) rfl rfl rfl ?_
      refine rr_V [] [] dX8_hint_50 kX6_firstNews mX8_186 ⟨by decide, by decide⟩ (by decide) rfl rfl rfl (Nat.le_of_ble_eq_true rfl) rfl (h.mono fun vr I2 J2 h => ?_)
      obtain ⟨r2, rfl, h⟩ := h
      show rr pgX zX8_hint 53 _ [.int r2] _ _ _
      refine rr_istore_n (lv' := [(3, .int r2), (0, .ref 0), (1, .int v1), (2, .int v2)]) dX8_hint_53 rfl (by decide) rfl rfl ?_
      refine rr_iload_n dX8_hint_54 rfl 0 rfl rfl ?_
      refine rr_if_lt (tgt := 105) dX8_hint_55 (by decide) rfl ⟨fun hc => ?_, fun hc => ?_⟩
      · have h := h.1 hc
        refine rr_aload_n dX8_hint_105 rfl 1 rfl rfl ?_
        refine rr_getR dX8_hint_106 fX8_35 (by decide) rfl rfl rfl ?_
        refine rr_V [] [] dX8_hint_109 kX6_accept mX8_202 ⟨by decide, by decide⟩ (by decide) rfl rfl rfl (Nat.le_of_ble_eq_true rfl) rfl (h.mono fun vr I3 J3 h => ?_)
        obtain ⟨rfl, h⟩ := h
        show rr pgX zX8_hint 112 _ [] _ _ _
        refine rr_iinc (k := 3) (v := (v2 + (1 : Int32))) (lv' := [(2, .int (v2 + (1 : Int32))), (3, .int r2), (0, .ref 0), (1, .int v1)]) dX8_hint_112 rfl rfl (by decide) rfl rfl ?_
        refine rr_goto (tgt := 29) dX8_hint_115 (by decide) ?_
        exact rr.sub [2, 3, 0] rfl h
      · have h := h.2 hc
        refine rr_aload_n dX8_hint_58 rfl 1 rfl rfl ?_
        refine rr_aload_n dX8_hint_59 rfl 1 rfl rfl ?_
        refine rr_getR dX8_hint_60 fX8_35 (by decide) rfl rfl rfl ?_
        refine rr_getI dX8_hint_63 fX8_189 (by decide) rfl rfl rfl ?_
        refine rr_putI dX8_hint_66 pX8_192 (by decide) rfl rfl rfl ?_
        refine rr_letI (fun I4 hI4 => ?_)
        have h := h I4 hI4
        refine rr_aload_n dX8_hint_69 rfl 1 rfl rfl ?_
        refine rr_getR dX8_hint_70 fX8_51 (by decide) rfl rfl rfl ?_
        refine rr_aload_n dX8_hint_73 rfl 1 rfl rfl ?_
        refine rr_getR dX8_hint_74 fX8_35 (by decide) rfl rfl rfl ?_
        refine rr_getR dX8_hint_77 fX8_195 (by decide) rfl rfl rfl ?_
        refine rr_V [.ref 41] [] dX8_hint_80 kX0_copy mX8_114 ⟨by decide, by decide⟩ (by decide) rfl rfl rfl (Nat.le_of_ble_eq_true rfl) rfl (h.mono fun vr I5 J4 h => ?_)
        obtain ⟨rfl, h⟩ := h
        show rr pgX zX8_hint 83 _ [] _ _ _
        refine rr_iconst (v := (2 : Int32)) dX8_hint_83 (by decide) rfl ?_
        refine rr_iload_n dX8_hint_84 rfl 0 rfl rfl ?_
        refine rr_imul dX8_hint_85 rfl ?_
        refine rr_aload_n dX8_hint_86 rfl 1 rfl rfl ?_
        refine rr_getR dX8_hint_87 fX8_35 (by decide) rfl rfl rfl ?_
        refine rr_getI dX8_hint_90 fX8_198 (by decide) rfl rfl rfl ?_
        refine rr_if_eq (tgt := 100) dX8_hint_93 (by decide) rfl ⟨fun hc => ?_, fun hc => ?_⟩
        · have h := h.1 hc
          refine rr_iconst (v := (0 : Int32)) dX8_hint_100 (by decide) rfl ?_
          refine rr_iadd dX8_hint_101 rfl ?_
          refine rr_iconst (v := (1 : Int32)) dX8_hint_102 (by decide) rfl ?_
          refine rr_iadd dX8_hint_103 rfl ?_
          exact rr_iret dX8_hint_104 rfl h
        · have h := h.2 hc
          refine rr_iconst (v := (1 : Int32)) dX8_hint_96 (by decide) rfl ?_
          refine rr_goto (tgt := 101) dX8_hint_97 (by decide) ?_
          refine rr_iadd dX8_hint_101 rfl ?_
          refine rr_iconst (v := (1 : Int32)) dX8_hint_102 (by decide) rfl ?_
          refine rr_iadd dX8_hint_103 rfl ?_
          exact rr_iret dX8_hint_104 rfl h

theorem e_X8_kind {I : tg_I} {J : tg_J} {P : Option Value → tg_I → tg_J → Prop} (h :
  P (some (.int (I 0 7))) I J) : call pgX zX8_kind [.ref 0] I J P := by
  refine call_of (by decide +kernel) (fun _ => Nat.le_of_ble_eq_true rfl) ?_
  show rr pgX zX8_kind 0 [(0, .ref 0)] [] I J P
  refine rr_aload_n dX8_kind_0 rfl 0 rfl rfl ?_
  refine rr_getI dX8_kind_1 fX8_192 (by decide) rfl rfl rfl ?_
  exact rr_iret dX8_kind_4 rfl h

theorem e_X8_reason {I : tg_I} {J : tg_J} {P : Option Value → tg_I → tg_J → Prop} (v1 : Int32) (h :
  call pgX zX0_nth [.ref 62, .int v1, .int (100 : Int32)] I J (fun vr I1 J1 => ∃ r1 : Int32, vr = some (.int r1) ∧
  (P (some (.int r1)) I1 J1))) : call pgX zX8_reason [.ref 0, .int v1] I J P := by
  refine call_of (by decide +kernel) (fun _ => Nat.le_of_ble_eq_true rfl) ?_
  show rr pgX zX8_reason 0 [(0, .ref 0), (1, .int v1)] [] I J P
  refine rr_aload_n dX8_reason_0 rfl 0 rfl rfl ?_
  refine rr_getR dX8_reason_1 fX8_51 (by decide) rfl rfl rfl ?_
  refine rr_iload_n dX8_reason_4 rfl 1 rfl rfl ?_
  refine rr_bipush (v := (100 : Int32)) dX8_reason_5 (by decide) rfl ?_
  refine rr_V [.int v1, .int (100 : Int32)] [] dX8_reason_7 kX0_nth mX8_205 ⟨by decide, by decide⟩ (by decide) rfl rfl rfl (Nat.le_of_ble_eq_true rfl) rfl (h.mono fun vr I1 J1 h => ?_)
  obtain ⟨r1, rfl, h⟩ := h
  show rr pgX zX8_reason 10 _ [.int r1] _ _ _
  exact rr_iret dX8_reason_10 rfl h

theorem e_X8_total {I : tg_I} {J : tg_J} {P : Option Value → tg_I → tg_J → Prop} (h :
  call pgX zX0_has [.ref 62, .int (100 : Int32)] I J (fun vr I1 J1 => ∃ r1 : Int32, vr = some (.int r1) ∧
  (narrow .boolean (.int r1) = .int r1 ∧ P (some (.int r1)) I1 J1))) : call pgX zX8_total [.ref 0] I J P := by
  refine call_of (by decide +kernel) (fun _ => Nat.le_of_ble_eq_true rfl) ?_
  show rr pgX zX8_total 0 [(0, .ref 0)] [] I J P
  refine rr_aload_n dX8_total_0 rfl 0 rfl rfl ?_
  refine rr_getR dX8_total_1 fX8_51 (by decide) rfl rfl rfl ?_
  refine rr_bipush (v := (100 : Int32)) dX8_total_4 (by decide) rfl ?_
  refine rr_V [.int (100 : Int32)] [] dX8_total_6 kX0_has mX8_93 ⟨by decide, by decide⟩ (by decide) rfl rfl rfl (Nat.le_of_ble_eq_true rfl) rfl (h.mono fun vr I1 J1 h => ?_)
  obtain ⟨r1, rfl, h⟩ := h
  show rr pgX zX8_total 9 _ [.int r1] _ _ _
  exact rr_zret dX8_total_9 rfl h.1 h.2

theorem e_X8_take {I : tg_I} {J : tg_J} {P : Option Value → tg_I → tg_J → Prop} (h :
  call pgX zX0_copy [.ref 63, .ref 62] I J (fun vr I1 J1 => vr = none ∧
  (call pgX zX0_size [.ref 63] I1 J1 (fun vr I2 J2 => ∃ r1 : Int32, vr = some (.int r1) ∧
  (call pgX zX0_has [.ref 63, .int (100 : Int32)] I2 J2 (fun vr I3 J3 => ∃ r2 : Int32, vr = some (.int r2) ∧
  ((r2 = 0 →
   P (some (.int (r1 - (0 : Int32)))) I3 J3) ∧
  (¬ r2 = 0 →
   P (some (.int (r1 - (1 : Int32)))) I3 J3)))))))) : call pgX zX8_take [.ref 0] I J P := by
  refine call_of (by decide +kernel) (fun _ => Nat.le_of_ble_eq_true rfl) ?_
  show rr pgX zX8_take 0 [(0, .ref 0)] [] I J P
  refine rr_aload_n dX8_take_0 rfl 0 rfl rfl ?_
  refine rr_getR dX8_take_1 fX8_55 (by decide) rfl rfl rfl ?_
  refine rr_aload_n dX8_take_4 rfl 0 rfl rfl ?_
  refine rr_getR dX8_take_5 fX8_51 (by decide) rfl rfl rfl ?_
  refine rr_V [.ref 62] [] dX8_take_8 kX0_copy mX8_114 ⟨by decide, by decide⟩ (by decide) rfl rfl rfl (Nat.le_of_ble_eq_true rfl) rfl (h.mono fun vr I1 J1 h => ?_)
  obtain ⟨rfl, h⟩ := h
  show rr pgX zX8_take 11 _ [] _ _ _
  refine rr_aload_n dX8_take_11 rfl 0 rfl rfl ?_
  refine rr_getR dX8_take_12 fX8_55 (by decide) rfl rfl rfl ?_
  refine rr_V [] [] dX8_take_15 kX0_size mX8_86 ⟨by decide, by decide⟩ (by decide) rfl rfl rfl (Nat.le_of_ble_eq_true rfl) rfl (h.mono fun vr I2 J2 h => ?_)
  obtain ⟨r1, rfl, h⟩ := h
  show rr pgX zX8_take 18 _ [.int r1] _ _ _
  refine rr_aload_n dX8_take_18 rfl 0 rfl rfl ?_
  refine rr_getR dX8_take_19 fX8_55 (by decide) rfl rfl rfl ?_
  refine rr_bipush (v := (100 : Int32)) dX8_take_22 (by decide) rfl ?_
  refine rr_V [.int (100 : Int32)] [.int r1] dX8_take_24 kX0_has mX8_93 ⟨by decide, by decide⟩ (by decide) rfl rfl rfl (Nat.le_of_ble_eq_true rfl) rfl (h.mono fun vr I3 J3 h => ?_)
  obtain ⟨r2, rfl, h⟩ := h
  show rr pgX zX8_take 27 _ [.int r2, .int r1] _ _ _
  refine rr_if_eq (tgt := 34) dX8_take_27 (by decide) rfl ⟨fun hc => ?_, fun hc => ?_⟩
  · have h := h.1 hc
    refine rr_iconst (v := (0 : Int32)) dX8_take_34 (by decide) rfl ?_
    refine rr_isub dX8_take_35 rfl ?_
    exact rr_iret dX8_take_36 rfl h
  · have h := h.2 hc
    refine rr_iconst (v := (1 : Int32)) dX8_take_30 (by decide) rfl ?_
    refine rr_goto (tgt := 35) dX8_take_31 (by decide) ?_
    refine rr_isub dX8_take_35 rfl ?_
    exact rr_iret dX8_take_36 rfl h

theorem e_X8_tell {I : tg_I} {J : tg_J} {P : Option Value → tg_I → tg_J → Prop} (v1 : Int32) (v2 : Int32) (h :
  call pgX zX2_holds [.ref 2, .int v1] I J (fun vr I1 J1 => ∃ r1 : Int32, vr = some (.int r1) ∧
  ((r1 = 0 →
   P (some (.int (-1 : Int32))) I1 J1) ∧
  (¬ r1 = 0 →
   call pgX zX8_putTold [.ref 0, .int v1, .int v2] I1 J1 (fun vr I2 J2 => ∃ r2 : Int32, vr = some (.int r2) ∧
    (P (some (.int r2)) I2 J2)))))) : call pgX zX8_tell [.ref 0, .int v1, .int v2] I J P := by
  refine call_of (by decide +kernel) (fun _ => Nat.le_of_ble_eq_true rfl) ?_
  show rr pgX zX8_tell 0 [(0, .ref 0), (1, .int v1), (2, .int v2)] [] I J P
  refine rr_aload_n dX8_tell_0 rfl 0 rfl rfl ?_
  refine rr_getR dX8_tell_1 fX8_12 (by decide) rfl rfl rfl ?_
  refine rr_getR dX8_tell_4 fX8_71 (by decide) rfl rfl rfl ?_
  refine rr_iload_n dX8_tell_7 rfl 1 rfl rfl ?_
  refine rr_V [.int v1] [] dX8_tell_8 kX2_holds mX8_79 ⟨by decide, by decide⟩ (by decide) rfl rfl rfl (Nat.le_of_ble_eq_true rfl) rfl (h.mono fun vr I1 J1 h => ?_)
  obtain ⟨r1, rfl, h⟩ := h
  show rr pgX zX8_tell 11 _ [.int r1] _ _ _
  refine rr_if_eq (tgt := 23) dX8_tell_11 (by decide) rfl ⟨fun hc => ?_, fun hc => ?_⟩
  · have h := h.1 hc
    refine rr_iconst (v := (-1 : Int32)) dX8_tell_23 (by decide) rfl ?_
    exact rr_iret dX8_tell_24 rfl h
  · have h := h.2 hc
    refine rr_aload_n dX8_tell_14 rfl 0 rfl rfl ?_
    refine rr_iload_n dX8_tell_15 rfl 1 rfl rfl ?_
    refine rr_iload_n dX8_tell_16 rfl 2 rfl rfl ?_
    refine rr_V [.int v1, .int v2] [] dX8_tell_17 kX8_putTold mX8_209 ⟨by decide, by decide⟩ (by decide) rfl rfl rfl (Nat.le_of_ble_eq_true rfl) rfl (h.mono fun vr I2 J2 h => ?_)
    obtain ⟨r2, rfl, h⟩ := h
    show rr pgX zX8_tell 20 _ [.int r2] _ _ _
    refine rr_goto (tgt := 24) dX8_tell_20 (by decide) ?_
    exact rr_iret dX8_tell_24 rfl h

theorem e_X8_name {I : tg_I} {J : tg_J} {P : Option Value → tg_I → tg_J → Prop} (v1 : Int32) (h :
  call pgX zX8_putTold [.ref 0, .int (100 : Int32), .int v1] I J (fun vr I1 J1 => ∃ r1 : Int32, vr = some (.int r1) ∧
  (P (some (.int r1)) I1 J1))) : call pgX zX8_name [.ref 0, .int v1] I J P := by
  refine call_of (by decide +kernel) (fun _ => Nat.le_of_ble_eq_true rfl) ?_
  show rr pgX zX8_name 0 [(0, .ref 0), (1, .int v1)] [] I J P
  refine rr_aload_n dX8_name_0 rfl 0 rfl rfl ?_
  refine rr_bipush (v := (100 : Int32)) dX8_name_1 (by decide) rfl ?_
  refine rr_iload_n dX8_name_3 rfl 1 rfl rfl ?_
  refine rr_V [.int (100 : Int32), .int v1] [] dX8_name_4 kX8_putTold mX8_209 ⟨by decide, by decide⟩ (by decide) rfl rfl rfl (Nat.le_of_ble_eq_true rfl) rfl (h.mono fun vr I1 J1 h => ?_)
  obtain ⟨r1, rfl, h⟩ := h
  show rr pgX zX8_name 7 _ [.int r1] _ _ _
  exact rr_iret dX8_name_7 rfl h

theorem e_X8_check {I : tg_I} {J : tg_J} {P : Option Value → tg_I → tg_J → Prop} (v1 : Int32) (v2 : Int32) (h :
  call pgX zX2_holds [.ref 2, .int v1] I J (fun vr I1 J1 => ∃ r1 : Int32, vr = some (.int r1) ∧
  ((r1 = 0 →
   P (some (.int (-1 : Int32))) I1 J1) ∧
  (¬ r1 = 0 →
   (v2 < 0 →
     P (some (.int (-1 : Int32))) I1 J1) ∧
    (¬ v2 < 0 →
     (v2 ≤ (1 : Int32) →
       call pgX zX0_has [.ref 9, .int v1] I1 J1 (fun vr I2 J2 => ∃ r2 : Int32, vr = some (.int r2) ∧
        ((¬ r2 = 0 →
         call pgX zX5_studyTold [.ref 17, .ref 1, .ref 63, .int v1] I2 J2 (fun vr I3 J3 => ∃ r3 : Int32, vr = some (.int r3) ∧
          ((¬ r3 = 0 →
           call pgX zX0_has [.ref 63, .int (100 : Int32)] I3 J3 (fun vr I4 J4 => ∃ r4 : Int32, vr = some (.int r4) ∧
            ((¬ v2 = (1 : Int32) →
             call pgX zX5_fitsOpposite [.ref 17, .ref 1, .int r4, .int (0 : Int32)] I4 J4 (fun vr I5 J5 => ∃ r5 : Int32, vr = some (.int r5) ∧
              ((r5 = 0 →
               P (some (.int (1 : Int32))) I5 J5) ∧
              (¬ r5 = 0 →
               P (some (.int (0 : Int32))) I5 J5)))) ∧
            (v2 = (1 : Int32) →
             call pgX zX5_fitsOpposite [.ref 17, .ref 1, .int r4, .int (1 : Int32)] I4 J4 (fun vr I6 J6 => ∃ r6 : Int32, vr = some (.int r6) ∧
              ((r6 = 0 →
               P (some (.int (1 : Int32))) I6 J6) ∧
              (¬ r6 = 0 →
               P (some (.int (0 : Int32))) I6 J6))))))) ∧
          (r3 = 0 →
           P (some (.int (-3 : Int32))) I3 J3)))) ∧
        (r2 = 0 →
         P (some (.int (-2 : Int32))) I2 J2)))) ∧
      (¬ v2 ≤ (1 : Int32) →
       P (some (.int (-1 : Int32))) I1 J1)))))) : call pgX zX8_check [.ref 0, .int v1, .int v2] I J P := by
  refine call_of (by decide +kernel) (fun _ => Nat.le_of_ble_eq_true rfl) ?_
  show rr pgX zX8_check 0 [(0, .ref 0), (1, .int v1), (2, .int v2)] [] I J P
  refine rr_aload_n dX8_check_0 rfl 0 rfl rfl ?_
  refine rr_getR dX8_check_1 fX8_12 (by decide) rfl rfl rfl ?_
  refine rr_getR dX8_check_4 fX8_71 (by decide) rfl rfl rfl ?_
  refine rr_iload_n dX8_check_7 rfl 1 rfl rfl ?_
  refine rr_V [.int v1] [] dX8_check_8 kX2_holds mX8_79 ⟨by decide, by decide⟩ (by decide) rfl rfl rfl (Nat.le_of_ble_eq_true rfl) rfl (h.mono fun vr I1 J1 h => ?_)
  obtain ⟨r1, rfl, h⟩ := h
  show rr pgX zX8_check 11 _ [.int r1] _ _ _
  refine rr_if_eq (tgt := 23) dX8_check_11 (by decide) rfl ⟨fun hc => ?_, fun hc => ?_⟩
  · have h := h.1 hc
    refine rr_iconst (v := (-1 : Int32)) dX8_check_23 (by decide) rfl ?_
    exact rr_iret dX8_check_24 rfl h
  · have h := h.2 hc
    refine rr_iload_n dX8_check_14 rfl 2 rfl rfl ?_
    refine rr_if_lt (tgt := 23) dX8_check_15 (by decide) rfl ⟨fun hc => ?_, fun hc => ?_⟩
    · have h := h.1 hc
      refine rr_iconst (v := (-1 : Int32)) dX8_check_23 (by decide) rfl ?_
      exact rr_iret dX8_check_24 rfl h
    · have h := h.2 hc
      refine rr_iload_n dX8_check_18 rfl 2 rfl rfl ?_
      refine rr_iconst (v := (1 : Int32)) dX8_check_19 (by decide) rfl ?_
      refine rr_icmp_le (tgt := 25) dX8_check_20 (by decide) rfl ⟨fun hc => ?_, fun hc => ?_⟩
      · have h := h.1 hc
        refine rr_aload_n dX8_check_25 rfl 0 rfl rfl ?_
        refine rr_getR dX8_check_26 fX8_12 (by decide) rfl rfl rfl ?_
        refine rr_getR dX8_check_29 fX8_83 (by decide) rfl rfl rfl ?_
        refine rr_iload_n dX8_check_32 rfl 1 rfl rfl ?_
        refine rr_V [.int v1] [] dX8_check_33 kX0_has mX8_93 ⟨by decide, by decide⟩ (by decide) rfl rfl rfl (Nat.le_of_ble_eq_true rfl) rfl (h.mono fun vr I2 J2 h => ?_)
        obtain ⟨r2, rfl, h⟩ := h
        show rr pgX zX8_check 36 _ [.int r2] _ _ _
        refine rr_if_ne (tgt := 42) dX8_check_36 (by decide) rfl ⟨fun hc => ?_, fun hc => ?_⟩
        · have h := h.1 hc
          refine rr_aload_n dX8_check_42 rfl 0 rfl rfl ?_
          refine rr_getR dX8_check_43 fX8_26 (by decide) rfl rfl rfl ?_
          refine rr_aload_n dX8_check_46 rfl 0 rfl rfl ?_
          refine rr_getR dX8_check_47 fX8_12 (by decide) rfl rfl rfl ?_
          refine rr_aload_n dX8_check_50 rfl 0 rfl rfl ?_
          refine rr_getR dX8_check_51 fX8_55 (by decide) rfl rfl rfl ?_
          refine rr_iload_n dX8_check_54 rfl 1 rfl rfl ?_
          refine rr_V [.ref 1, .ref 63, .int v1] [] dX8_check_55 kX5_studyTold mX8_213 ⟨by decide, by decide⟩ (by decide) rfl rfl rfl (Nat.le_of_ble_eq_true rfl) rfl (h.mono fun vr I3 J3 h => ?_)
          obtain ⟨r3, rfl, h⟩ := h
          show rr pgX zX8_check 58 _ [.int r3] _ _ _
          refine rr_if_ne (tgt := 64) dX8_check_58 (by decide) rfl ⟨fun hc => ?_, fun hc => ?_⟩
          · have h := h.1 hc
            refine rr_aload_n dX8_check_64 rfl 0 rfl rfl ?_
            refine rr_getR dX8_check_65 fX8_26 (by decide) rfl rfl rfl ?_
            refine rr_aload_n dX8_check_68 rfl 0 rfl rfl ?_
            refine rr_getR dX8_check_69 fX8_12 (by decide) rfl rfl rfl ?_
            refine rr_aload_n dX8_check_72 rfl 0 rfl rfl ?_
            refine rr_getR dX8_check_73 fX8_55 (by decide) rfl rfl rfl ?_
            refine rr_bipush (v := (100 : Int32)) dX8_check_76 (by decide) rfl ?_
            refine rr_V [.int (100 : Int32)] [.ref 1, .ref 17] dX8_check_78 kX0_has mX8_93 ⟨by decide, by decide⟩ (by decide) rfl rfl rfl (Nat.le_of_ble_eq_true rfl) rfl (h.mono fun vr I4 J4 h => ?_)
            obtain ⟨r4, rfl, h⟩ := h
            show rr pgX zX8_check 81 _ [.int r4, .ref 1, .ref 17] _ _ _
            refine rr_iload_n dX8_check_81 rfl 2 rfl rfl ?_
            refine rr_iconst (v := (1 : Int32)) dX8_check_82 (by decide) rfl ?_
            refine rr_icmp_ne (tgt := 90) dX8_check_83 (by decide) rfl ⟨fun hc => ?_, fun hc => ?_⟩
            · have h := h.1 hc
              refine rr_iconst (v := (0 : Int32)) dX8_check_90 (by decide) rfl ?_
              refine rr_V [.ref 1, .int r4, .int (0 : Int32)] [] dX8_check_91 kX5_fitsOpposite mX8_217 ⟨by decide, by decide⟩ (by decide) rfl rfl rfl (Nat.le_of_ble_eq_true rfl) rfl (h.mono fun vr I5 J5 h => ?_)
              obtain ⟨r5, rfl, h⟩ := h
              show rr pgX zX8_check 94 _ [.int r5] _ _ _
              refine rr_if_eq (tgt := 101) dX8_check_94 (by decide) rfl ⟨fun hc => ?_, fun hc => ?_⟩
              · have h := h.1 hc
                refine rr_iconst (v := (1 : Int32)) dX8_check_101 (by decide) rfl ?_
                exact rr_iret dX8_check_102 rfl h
              · have h := h.2 hc
                refine rr_iconst (v := (0 : Int32)) dX8_check_97 (by decide) rfl ?_
                refine rr_goto (tgt := 102) dX8_check_98 (by decide) ?_
                exact rr_iret dX8_check_102 rfl h
            · have h := h.2 hc
              refine rr_iconst (v := (1 : Int32)) dX8_check_86 (by decide) rfl ?_
              refine rr_goto (tgt := 91) dX8_check_87 (by decide) ?_
              refine rr_V [.ref 1, .int r4, .int (1 : Int32)] [] dX8_check_91 kX5_fitsOpposite mX8_217 ⟨by decide, by decide⟩ (by decide) rfl rfl rfl (Nat.le_of_ble_eq_true rfl) rfl (h.mono fun vr I6 J6 h => ?_)
              obtain ⟨r6, rfl, h⟩ := h
              show rr pgX zX8_check 94 _ [.int r6] _ _ _
              refine rr_if_eq (tgt := 101) dX8_check_94 (by decide) rfl ⟨fun hc => ?_, fun hc => ?_⟩
              · have h := h.1 hc
                refine rr_iconst (v := (1 : Int32)) dX8_check_101 (by decide) rfl ?_
                exact rr_iret dX8_check_102 rfl h
              · have h := h.2 hc
                refine rr_iconst (v := (0 : Int32)) dX8_check_97 (by decide) rfl ?_
                refine rr_goto (tgt := 102) dX8_check_98 (by decide) ?_
                exact rr_iret dX8_check_102 rfl h
          · have h := h.2 hc
            refine rr_bipush (v := (-3 : Int32)) dX8_check_61 (by decide) rfl ?_
            exact rr_iret dX8_check_63 rfl h
        · have h := h.2 hc
          refine rr_bipush (v := (-2 : Int32)) dX8_check_39 (by decide) rfl ?_
          exact rr_iret dX8_check_41 rfl h
      · have h := h.2 hc
        refine rr_iconst (v := (-1 : Int32)) dX8_check_23 (by decide) rfl ?_
        exact rr_iret dX8_check_24 rfl h

theorem e_X8_ways {I : tg_I} {J : tg_J} {P : Option Value → tg_I → tg_J → Prop} (h :
  call pgX zX5_gather [.ref 17, .ref 1] I J (fun vr I1 J1 => ∃ r1 : Int32, vr = some (.int r1) ∧
  ((¬ r1 = 0 →
   call pgX zX5_study [.ref 17, .ref 1] I1 J1 (fun vr I2 J2 => vr = none ∧
    (call pgX zX5_countAll [.ref 17, .ref 1] I2 J2 (fun vr I3 J3 => ∃ r2 : Int32, vr = some (.int r2) ∧
    (P (some (.int r2)) I3 J3))))) ∧
  (r1 = 0 →
   P (some (.int (-3 : Int32))) I1 J1)))) : call pgX zX8_ways [.ref 0] I J P := by
  refine call_of (by decide +kernel) (fun _ => Nat.le_of_ble_eq_true rfl) ?_
  show rr pgX zX8_ways 0 [(0, .ref 0)] [] I J P
  refine rr_aload_n dX8_ways_0 rfl 0 rfl rfl ?_
  refine rr_getR dX8_ways_1 fX8_26 (by decide) rfl rfl rfl ?_
  refine rr_aload_n dX8_ways_4 rfl 0 rfl rfl ?_
  refine rr_getR dX8_ways_5 fX8_12 (by decide) rfl rfl rfl ?_
  refine rr_V [.ref 1] [] dX8_ways_8 kX5_gather mX8_221 ⟨by decide, by decide⟩ (by decide) rfl rfl rfl (Nat.le_of_ble_eq_true rfl) rfl (h.mono fun vr I1 J1 h => ?_)
  obtain ⟨r1, rfl, h⟩ := h
  show rr pgX zX8_ways 11 _ [.int r1] _ _ _
  refine rr_if_ne (tgt := 17) dX8_ways_11 (by decide) rfl ⟨fun hc => ?_, fun hc => ?_⟩
  · have h := h.1 hc
    refine rr_aload_n dX8_ways_17 rfl 0 rfl rfl ?_
    refine rr_getR dX8_ways_18 fX8_26 (by decide) rfl rfl rfl ?_
    refine rr_aload_n dX8_ways_21 rfl 0 rfl rfl ?_
    refine rr_getR dX8_ways_22 fX8_12 (by decide) rfl rfl rfl ?_
    refine rr_V [.ref 1] [] dX8_ways_25 kX5_study mX8_224 ⟨by decide, by decide⟩ (by decide) rfl rfl rfl (Nat.le_of_ble_eq_true rfl) rfl (h.mono fun vr I2 J2 h => ?_)
    obtain ⟨rfl, h⟩ := h
    show rr pgX zX8_ways 28 _ [] _ _ _
    refine rr_aload_n dX8_ways_28 rfl 0 rfl rfl ?_
    refine rr_getR dX8_ways_29 fX8_26 (by decide) rfl rfl rfl ?_
    refine rr_aload_n dX8_ways_32 rfl 0 rfl rfl ?_
    refine rr_getR dX8_ways_33 fX8_12 (by decide) rfl rfl rfl ?_
    refine rr_V [.ref 1] [] dX8_ways_36 kX5_countAll mX8_227 ⟨by decide, by decide⟩ (by decide) rfl rfl rfl (Nat.le_of_ble_eq_true rfl) rfl (h.mono fun vr I3 J3 h => ?_)
    obtain ⟨r2, rfl, h⟩ := h
    show rr pgX zX8_ways 39 _ [.int r2] _ _ _
    exact rr_iret dX8_ways_39 rfl h
  · have h := h.2 hc
    refine rr_bipush (v := (-3 : Int32)) dX8_ways_14 (by decide) rfl ?_
    exact rr_iret dX8_ways_16 rfl h

theorem e_X8_with {I : tg_I} {J : tg_J} {P : Option Value → tg_I → tg_J → Prop} (v1 : Int32) (h :
  call pgX zX2_holds [.ref 2, .int v1] I J (fun vr I1 J1 => ∃ r1 : Int32, vr = some (.int r1) ∧
  ((¬ r1 = 0 →
   call pgX zX0_has [.ref 9, .int v1] I1 J1 (fun vr I2 J2 => ∃ r2 : Int32, vr = some (.int r2) ∧
    ((¬ r2 = 0 →
     call pgX zX5_gather [.ref 17, .ref 1] I2 J2 (fun vr I3 J3 => ∃ r3 : Int32, vr = some (.int r3) ∧
      ((¬ r3 = 0 →
       call pgX zX5_study [.ref 17, .ref 1] I3 J3 (fun vr I4 J4 => vr = none ∧
        (call pgX zX5_countHolding [.ref 17, .ref 1, .int v1] I4 J4 (fun vr I5 J5 => ∃ r4 : Int32, vr = some (.int r4) ∧
        (P (some (.int r4)) I5 J5))))) ∧
      (r3 = 0 →
       P (some (.int (-3 : Int32))) I3 J3)))) ∧
    (r2 = 0 →
     P (some (.int (-2 : Int32))) I2 J2)))) ∧
  (r1 = 0 →
   P (some (.int (-1 : Int32))) I1 J1)))) : call pgX zX8_with [.ref 0, .int v1] I J P := by
  refine call_of (by decide +kernel) (fun _ => Nat.le_of_ble_eq_true rfl) ?_
  show rr pgX zX8_with 0 [(0, .ref 0), (1, .int v1)] [] I J P
  refine rr_aload_n dX8_with_0 rfl 0 rfl rfl ?_
  refine rr_getR dX8_with_1 fX8_12 (by decide) rfl rfl rfl ?_
  refine rr_getR dX8_with_4 fX8_71 (by decide) rfl rfl rfl ?_
  refine rr_iload_n dX8_with_7 rfl 1 rfl rfl ?_
  refine rr_V [.int v1] [] dX8_with_8 kX2_holds mX8_79 ⟨by decide, by decide⟩ (by decide) rfl rfl rfl (Nat.le_of_ble_eq_true rfl) rfl (h.mono fun vr I1 J1 h => ?_)
  obtain ⟨r1, rfl, h⟩ := h
  show rr pgX zX8_with 11 _ [.int r1] _ _ _
  refine rr_if_ne (tgt := 16) dX8_with_11 (by decide) rfl ⟨fun hc => ?_, fun hc => ?_⟩
  · have h := h.1 hc
    refine rr_aload_n dX8_with_16 rfl 0 rfl rfl ?_
    refine rr_getR dX8_with_17 fX8_12 (by decide) rfl rfl rfl ?_
    refine rr_getR dX8_with_20 fX8_83 (by decide) rfl rfl rfl ?_
    refine rr_iload_n dX8_with_23 rfl 1 rfl rfl ?_
    refine rr_V [.int v1] [] dX8_with_24 kX0_has mX8_93 ⟨by decide, by decide⟩ (by decide) rfl rfl rfl (Nat.le_of_ble_eq_true rfl) rfl (h.mono fun vr I2 J2 h => ?_)
    obtain ⟨r2, rfl, h⟩ := h
    show rr pgX zX8_with 27 _ [.int r2] _ _ _
    refine rr_if_ne (tgt := 33) dX8_with_27 (by decide) rfl ⟨fun hc => ?_, fun hc => ?_⟩
    · have h := h.1 hc
      refine rr_aload_n dX8_with_33 rfl 0 rfl rfl ?_
      refine rr_getR dX8_with_34 fX8_26 (by decide) rfl rfl rfl ?_
      refine rr_aload_n dX8_with_37 rfl 0 rfl rfl ?_
      refine rr_getR dX8_with_38 fX8_12 (by decide) rfl rfl rfl ?_
      refine rr_V [.ref 1] [] dX8_with_41 kX5_gather mX8_221 ⟨by decide, by decide⟩ (by decide) rfl rfl rfl (Nat.le_of_ble_eq_true rfl) rfl (h.mono fun vr I3 J3 h => ?_)
      obtain ⟨r3, rfl, h⟩ := h
      show rr pgX zX8_with 44 _ [.int r3] _ _ _
      refine rr_if_ne (tgt := 50) dX8_with_44 (by decide) rfl ⟨fun hc => ?_, fun hc => ?_⟩
      · have h := h.1 hc
        refine rr_aload_n dX8_with_50 rfl 0 rfl rfl ?_
        refine rr_getR dX8_with_51 fX8_26 (by decide) rfl rfl rfl ?_
        refine rr_aload_n dX8_with_54 rfl 0 rfl rfl ?_
        refine rr_getR dX8_with_55 fX8_12 (by decide) rfl rfl rfl ?_
        refine rr_V [.ref 1] [] dX8_with_58 kX5_study mX8_224 ⟨by decide, by decide⟩ (by decide) rfl rfl rfl (Nat.le_of_ble_eq_true rfl) rfl (h.mono fun vr I4 J4 h => ?_)
        obtain ⟨rfl, h⟩ := h
        show rr pgX zX8_with 61 _ [] _ _ _
        refine rr_aload_n dX8_with_61 rfl 0 rfl rfl ?_
        refine rr_getR dX8_with_62 fX8_26 (by decide) rfl rfl rfl ?_
        refine rr_aload_n dX8_with_65 rfl 0 rfl rfl ?_
        refine rr_getR dX8_with_66 fX8_12 (by decide) rfl rfl rfl ?_
        refine rr_iload_n dX8_with_69 rfl 1 rfl rfl ?_
        refine rr_V [.ref 1, .int v1] [] dX8_with_70 kX5_countHolding mX8_231 ⟨by decide, by decide⟩ (by decide) rfl rfl rfl (Nat.le_of_ble_eq_true rfl) rfl (h.mono fun vr I5 J5 h => ?_)
        obtain ⟨r4, rfl, h⟩ := h
        show rr pgX zX8_with 73 _ [.int r4] _ _ _
        exact rr_iret dX8_with_73 rfl h
      · have h := h.2 hc
        refine rr_bipush (v := (-3 : Int32)) dX8_with_47 (by decide) rfl ?_
        exact rr_iret dX8_with_49 rfl h
    · have h := h.2 hc
      refine rr_bipush (v := (-2 : Int32)) dX8_with_30 (by decide) rfl ?_
      exact rr_iret dX8_with_32 rfl h
  · have h := h.2 hc
    refine rr_iconst (v := (-1 : Int32)) dX8_with_14 (by decide) rfl ?_
    exact rr_iret dX8_with_15 rfl h

theorem e_X8_putTold {I : tg_I} {J : tg_J} {P : Option Value → tg_I → tg_J → Prop} (v1 : Int32) (v2 : Int32) (h :
  call pgX zX0_has [.ref 63, .int v1] I J (fun vr I1 J1 => ∃ r1 : Int32, vr = some (.int r1) ∧
  ((¬ r1 = v2 →
   call pgX zX0_put [.ref 63, .int v1, .int v2] I1 J1 (fun vr I2 J2 => vr = none ∧
    (P (some (.int (1 : Int32))) I2 J2))) ∧
  (r1 = v2 →
   P (some (.int (0 : Int32))) I1 J1)))) : call pgX zX8_putTold [.ref 0, .int v1, .int v2] I J P := by
  refine call_of (by decide +kernel) (fun _ => Nat.le_of_ble_eq_true rfl) ?_
  show rr pgX zX8_putTold 0 [(0, .ref 0), (1, .int v1), (2, .int v2)] [] I J P
  refine rr_aload_n dX8_putTold_0 rfl 0 rfl rfl ?_
  refine rr_getR dX8_putTold_1 fX8_55 (by decide) rfl rfl rfl ?_
  refine rr_iload_n dX8_putTold_4 rfl 1 rfl rfl ?_
  refine rr_V [.int v1] [] dX8_putTold_5 kX0_has mX8_93 ⟨by decide, by decide⟩ (by decide) rfl rfl rfl (Nat.le_of_ble_eq_true rfl) rfl (h.mono fun vr I1 J1 h => ?_)
  obtain ⟨r1, rfl, h⟩ := h
  show rr pgX zX8_putTold 8 _ [.int r1] _ _ _
  refine rr_iload_n dX8_putTold_8 rfl 2 rfl rfl ?_
  refine rr_icmp_ne (tgt := 14) dX8_putTold_9 (by decide) rfl ⟨fun hc => ?_, fun hc => ?_⟩
  · have h := h.1 hc
    refine rr_aload_n dX8_putTold_14 rfl 0 rfl rfl ?_
    refine rr_getR dX8_putTold_15 fX8_55 (by decide) rfl rfl rfl ?_
    refine rr_iload_n dX8_putTold_18 rfl 1 rfl rfl ?_
    refine rr_iload_n dX8_putTold_19 rfl 2 rfl rfl ?_
    refine rr_V [.int v1, .int v2] [] dX8_putTold_20 kX0_put mX8_96 ⟨by decide, by decide⟩ (by decide) rfl rfl rfl (Nat.le_of_ble_eq_true rfl) rfl (h.mono fun vr I2 J2 h => ?_)
    obtain ⟨rfl, h⟩ := h
    show rr pgX zX8_putTold 23 _ [] _ _ _
    refine rr_iconst (v := (1 : Int32)) dX8_putTold_23 (by decide) rfl ?_
    exact rr_iret dX8_putTold_24 rfl h
  · have h := h.2 hc
    refine rr_iconst (v := (0 : Int32)) dX8_putTold_12 (by decide) rfl ?_
    exact rr_iret dX8_putTold_13 rfl h

theorem e_X8_forget {I : tg_I} {J : tg_J} {P : Option Value → tg_I → tg_J → Prop} (h :
  ∀ I1, I1 = u2 I 15 1 (0 : Int32) →
  call pgX zX0_clear [.ref 63] I1 J (fun vr I2 J1 => vr = none ∧
  (call pgX zX8_forgetHint [.ref 0] I2 J1 (fun vr I3 J2 => vr = none ∧
  (P none I3 J2))))) : call pgX zX8_forget [.ref 0] I J P := by
  refine call_of (by decide +kernel) (fun _ => Nat.le_of_ble_eq_true rfl) ?_
  show rr pgX zX8_forget 0 [(0, .ref 0)] [] I J P
  refine rr_aload_n dX8_forget_0 rfl 0 rfl rfl ?_
  refine rr_getR dX8_forget_1 fX8_19 (by decide) rfl rfl rfl ?_
  refine rr_iconst (v := (0 : Int32)) dX8_forget_4 (by decide) rfl ?_
  refine rr_putI dX8_forget_5 pX8_139 (by decide) rfl rfl rfl ?_
  refine rr_letI (fun I1 hI1 => ?_)
  have h := h I1 hI1
  refine rr_aload_n dX8_forget_8 rfl 0 rfl rfl ?_
  refine rr_getR dX8_forget_9 fX8_55 (by decide) rfl rfl rfl ?_
  refine rr_V [] [] dX8_forget_12 kX0_clear mX8_235 ⟨by decide, by decide⟩ (by decide) rfl rfl rfl (Nat.le_of_ble_eq_true rfl) rfl (h.mono fun vr I2 J1 h => ?_)
  obtain ⟨rfl, h⟩ := h
  show rr pgX zX8_forget 15 _ [] _ _ _
  refine rr_aload_n dX8_forget_15 rfl 0 rfl rfl ?_
  refine rr_V [] [] dX8_forget_16 kX8_forgetHint mX8_177 ⟨by decide, by decide⟩ (by decide) rfl rfl rfl (Nat.le_of_ble_eq_true rfl) rfl (h.mono fun vr I3 J2 h => ?_)
  obtain ⟨rfl, h⟩ := h
  show rr pgX zX8_forget 19 _ [] _ _ _
  exact rr_vret dX8_forget_19 rfl h

theorem e_X8_forgetHint {I : tg_I} {J : tg_J} {P : Option Value → tg_I → tg_J → Prop} (h :
  ∀ I1, I1 = u2 I 0 7 (0 : Int32) →
  call pgX zX0_clear [.ref 62] I1 J (fun vr I2 J1 => vr = none ∧
  (P none I2 J1))) : call pgX zX8_forgetHint [.ref 0] I J P := by
  refine call_of (by decide +kernel) (fun _ => Nat.le_of_ble_eq_true rfl) ?_
  show rr pgX zX8_forgetHint 0 [(0, .ref 0)] [] I J P
  refine rr_aload_n dX8_forgetHint_0 rfl 0 rfl rfl ?_
  refine rr_iconst (v := (0 : Int32)) dX8_forgetHint_1 (by decide) rfl ?_
  refine rr_putI dX8_forgetHint_2 pX8_192 (by decide) rfl rfl rfl ?_
  refine rr_letI (fun I1 hI1 => ?_)
  have h := h I1 hI1
  refine rr_aload_n dX8_forgetHint_5 rfl 0 rfl rfl ?_
  refine rr_getR dX8_forgetHint_6 fX8_51 (by decide) rfl rfl rfl ?_
  refine rr_V [] [] dX8_forgetHint_9 kX0_clear mX8_235 ⟨by decide, by decide⟩ (by decide) rfl rfl rfl (Nat.le_of_ble_eq_true rfl) rfl (h.mono fun vr I2 J1 h => ?_)
  obtain ⟨rfl, h⟩ := h
  show rr pgX zX8_forgetHint 12 _ [] _ _ _
  exact rr_vret dX8_forgetHint_12 rfl h
