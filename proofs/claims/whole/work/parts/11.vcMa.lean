theorem e_X9_join {I : tg_I} {J : tg_J} {P : Option Value → tg_I → tg_J → Prop} (v1 : Int32) (v2 : Int32) (v3 : Int32) (h :
  ((I 0 2) = (1 : Int32) →
   ¬ (I 0 1) = 0 ∧
    (∀ x1, x1 = ((v2 + (I 0 1)) - (v2 + (I 0 1)) / (I 0 1) * (I 0 1)) →
    ¬ (I 0 0) = 0 ∧
    (∀ x2, x2 = ((v3 + (I 0 0)) - (v3 + (I 0 0)) / (I 0 0) * (I 0 0)) →
    (x1 < 0 →
     P none I J) ∧
    (¬ x1 < 0 →
     ((I 0 1) ≤ x1 →
       P none I J) ∧
      (¬ (I 0 1) ≤ x1 →
       (x2 < 0 →
         P none I J) ∧
        (¬ x2 < 0 →
         ((I 0 0) ≤ x2 →
           P none I J) ∧
          (¬ (I 0 0) ≤ x2 →
           (((x1 * (I 0 0)) + x2) = v1 →
             P none I J) ∧
            (¬ ((x1 * (I 0 0)) + x2) = v1 →
             vp_in ((((100 : Int32) * v1) + (x1 * (I 0 0))) + x2) 10000 ∧ ∀ I1, I1 = u2 I 1 (Int32.toNatClampNeg ((((100 : Int32) * v1) + (x1 * (I 0 0))) + x2)) (vp_nar .boolean (1 : Int32)) →
              P none I1 J)))))))) ∧
  (¬ (I 0 2) = (1 : Int32) →
   (¬ (I 0 2) = (3 : Int32) →
     (v2 < 0 →
       P none I J) ∧
      (¬ v2 < 0 →
       ((I 0 1) ≤ v2 →
         P none I J) ∧
        (¬ (I 0 1) ≤ v2 →
         (v3 < 0 →
           P none I J) ∧
          (¬ v3 < 0 →
           ((I 0 0) ≤ v3 →
             P none I J) ∧
            (¬ (I 0 0) ≤ v3 →
             (((v2 * (I 0 0)) + v3) = v1 →
               P none I J) ∧
              (¬ ((v2 * (I 0 0)) + v3) = v1 →
               vp_in ((((100 : Int32) * v1) + (v2 * (I 0 0))) + v3) 10000 ∧ ∀ I2, I2 = u2 I 1 (Int32.toNatClampNeg ((((100 : Int32) * v1) + (v2 * (I 0 0))) + v3)) (vp_nar .boolean (1 : Int32)) →
                P none I2 J)))))) ∧
    ((I 0 2) = (3 : Int32) →
     ¬ (I 0 1) = 0 ∧
      (∀ x3, x3 = ((v2 + (I 0 1)) - (v2 + (I 0 1)) / (I 0 1) * (I 0 1)) →
      ¬ (I 0 0) = 0 ∧
      (∀ x4, x4 = ((v3 + (I 0 0)) - (v3 + (I 0 0)) / (I 0 0) * (I 0 0)) →
      (x3 < 0 →
       P none I J) ∧
      (¬ x3 < 0 →
       ((I 0 1) ≤ x3 →
         P none I J) ∧
        (¬ (I 0 1) ≤ x3 →
         (x4 < 0 →
           P none I J) ∧
          (¬ x4 < 0 →
           ((I 0 0) ≤ x4 →
             P none I J) ∧
            (¬ (I 0 0) ≤ x4 →
             (((x3 * (I 0 0)) + x4) = v1 →
               P none I J) ∧
              (¬ ((x3 * (I 0 0)) + x4) = v1 →
               vp_in ((((100 : Int32) * v1) + (x3 * (I 0 0))) + x4) 10000 ∧ ∀ I3, I3 = u2 I 1 (Int32.toNatClampNeg ((((100 : Int32) * v1) + (x3 * (I 0 0))) + x4)) (vp_nar .boolean (1 : Int32)) →
                P none I3 J)))))))))) : call pgM zX9_join [.ref 0, .int v1, .int v2, .int v3] I J P := by
  refine call_of (by decide +kernel) (fun _ => Nat.le_of_ble_eq_true rfl) ?_
  show rr pgM zX9_join 0 [(0, .ref 0), (1, .int v1), (2, .int v2), (3, .int v3)] [] I J P
  refine rr_aload_n dX9_join_0 rfl 0 rfl rfl ?_
  refine rr_getI dX9_join_1 fX9_104 (by decide) rfl rfl rfl ?_
  refine rr_iconst (v := (1 : Int32)) dX9_join_4 (by decide) rfl ?_
  refine rr_icmp_eq (tgt := 16) dX9_join_5 (by decide) rfl ⟨fun hc => ?_, fun hc => ?_⟩
  · have h := h.1 hc
    refine rr_iconst (v := (1 : Int32)) dX9_join_16 (by decide) rfl ?_
    refine rr_goto (tgt := 21) dX9_join_17 (by decide) ?_
    refine rr_istore (lv' := [(4, .int (1 : Int32)), (0, .ref 0), (1, .int v1), (2, .int v2), (3, .int v3)]) dX9_join_21 (by decide) rfl rfl ?_
    refine rr_iload dX9_join_23 0 rfl rfl ?_
    refine rr_if_eq (tgt := 42) dX9_join_25 (by decide) rfl ⟨fun hc => absurd hc (by decide), fun _ => ?_⟩
    refine rr_iload_n dX9_join_28 rfl 3 rfl rfl ?_
    refine rr_aload_n dX9_join_29 rfl 1 rfl rfl ?_
    refine rr_getI dX9_join_30 fX9_13 (by decide) rfl rfl rfl ?_
    refine rr_iadd dX9_join_33 rfl ?_
    refine rr_aload_n dX9_join_34 rfl 1 rfl rfl ?_
    refine rr_getI dX9_join_35 fX9_13 (by decide) rfl rfl rfl ?_
    refine rr_irem dX9_join_38 h.1 rfl ?_
    have h := h.2
    refine rr_goto (tgt := 43) dX9_join_39 (by decide) ?_
    refine rr_letTi (fun x1 hx1 => ?_)
    have h := h x1 hx1
    refine rr_istore (lv' := [(5, .int x1), (4, .int (1 : Int32)), (0, .ref 0), (1, .int v1), (2, .int v2), (3, .int v3)]) dX9_join_43 (by decide) rfl rfl ?_
    refine rr_iload dX9_join_45 1 rfl rfl ?_
    refine rr_if_eq (tgt := 64) dX9_join_47 (by decide) rfl ⟨fun hc => absurd hc (by decide), fun _ => ?_⟩
    refine rr_iload_n dX9_join_50 rfl 5 rfl rfl ?_
    refine rr_aload_n dX9_join_51 rfl 2 rfl rfl ?_
    refine rr_getI dX9_join_52 fX9_7 (by decide) rfl rfl rfl ?_
    refine rr_iadd dX9_join_55 rfl ?_
    refine rr_aload_n dX9_join_56 rfl 2 rfl rfl ?_
    refine rr_getI dX9_join_57 fX9_7 (by decide) rfl rfl rfl ?_
    refine rr_irem dX9_join_60 h.1 rfl ?_
    have h := h.2
    refine rr_goto (tgt := 65) dX9_join_61 (by decide) ?_
    refine rr_letTi (fun x2 hx2 => ?_)
    have h := h x2 hx2
    refine rr_istore (lv' := [(6, .int x2), (5, .int x1), (4, .int (1 : Int32)), (0, .ref 0), (1, .int v1), (2, .int v2), (3, .int v3)]) dX9_join_65 (by decide) rfl rfl ?_
    refine rr_iload dX9_join_67 1 rfl rfl ?_
    refine rr_if_lt (tgt := 130) dX9_join_69 (by decide) rfl ⟨fun hc => ?_, fun hc => ?_⟩
    · have h := h.1 hc
      exact rr_vret dX9_join_130 rfl h
    · have h := h.2 hc
      refine rr_iload dX9_join_72 1 rfl rfl ?_
      refine rr_aload_n dX9_join_74 rfl 3 rfl rfl ?_
      refine rr_getI dX9_join_75 fX9_13 (by decide) rfl rfl rfl ?_
      refine rr_icmp_ge (tgt := 130) dX9_join_78 (by decide) rfl ⟨fun hc => ?_, fun hc => ?_⟩
      · have h := h.1 hc
        exact rr_vret dX9_join_130 rfl h
      · have h := h.2 hc
        refine rr_iload dX9_join_81 0 rfl rfl ?_
        refine rr_if_lt (tgt := 130) dX9_join_83 (by decide) rfl ⟨fun hc => ?_, fun hc => ?_⟩
        · have h := h.1 hc
          exact rr_vret dX9_join_130 rfl h
        · have h := h.2 hc
          refine rr_iload dX9_join_86 0 rfl rfl ?_
          refine rr_aload_n dX9_join_88 rfl 3 rfl rfl ?_
          refine rr_getI dX9_join_89 fX9_7 (by decide) rfl rfl rfl ?_
          refine rr_icmp_ge (tgt := 130) dX9_join_92 (by decide) rfl ⟨fun hc => ?_, fun hc => ?_⟩
          · have h := h.1 hc
            exact rr_vret dX9_join_130 rfl h
          · have h := h.2 hc
            refine rr_iload dX9_join_95 1 rfl rfl ?_
            refine rr_aload_n dX9_join_97 rfl 3 rfl rfl ?_
            refine rr_getI dX9_join_98 fX9_7 (by decide) rfl rfl rfl ?_
            refine rr_imul dX9_join_101 rfl ?_
            refine rr_iload dX9_join_102 0 rfl rfl ?_
            refine rr_iadd dX9_join_104 rfl ?_
            refine rr_iload_n dX9_join_105 rfl 4 rfl rfl ?_
            refine rr_icmp_eq (tgt := 130) dX9_join_106 (by decide) rfl ⟨fun hc => ?_, fun hc => ?_⟩
            · have h := h.1 hc
              exact rr_vret dX9_join_130 rfl h
            · have h := h.2 hc
              refine rr_aload_n dX9_join_109 rfl 3 rfl rfl ?_
              refine rr_getR dX9_join_110 fX9_19 (by decide) rfl rfl rfl ?_
              refine rr_bipush (v := (100 : Int32)) dX9_join_113 (by decide) rfl ?_
              refine rr_iload_n dX9_join_115 rfl 4 rfl rfl ?_
              refine rr_imul dX9_join_116 rfl ?_
              refine rr_iload dX9_join_117 1 rfl rfl ?_
              refine rr_aload_n dX9_join_119 rfl 3 rfl rfl ?_
              refine rr_getI dX9_join_120 fX9_7 (by decide) rfl rfl rfl ?_
              refine rr_imul dX9_join_123 rfl ?_
              refine rr_iadd dX9_join_124 rfl ?_
              refine rr_iload dX9_join_125 0 rfl rfl ?_
              refine rr_iadd dX9_join_127 rfl ?_
              refine rr_iconst (v := (1 : Int32)) dX9_join_128 (by decide) rfl ?_
              refine rr_zast dX9_join_129 (by decide) rfl rfl ⟨h.1, ?_⟩
              refine rr_letI (fun I1 hI1 => ?_)
              have h := h.2 I1 hI1
              exact rr_vret dX9_join_130 rfl h
  · have h := h.2 hc
    refine rr_aload_n dX9_join_8 rfl 0 rfl rfl ?_
    refine rr_getI dX9_join_9 fX9_104 (by decide) rfl rfl rfl ?_
    refine rr_iconst (v := (3 : Int32)) dX9_join_12 (by decide) rfl ?_
    refine rr_icmp_ne (tgt := 20) dX9_join_13 (by decide) rfl ⟨fun hc => ?_, fun hc => ?_⟩
    · have h := h.1 hc
      refine rr_iconst (v := (0 : Int32)) dX9_join_20 (by decide) rfl ?_
      refine rr_istore (lv' := [(4, .int (0 : Int32)), (0, .ref 0), (1, .int v1), (2, .int v2), (3, .int v3)]) dX9_join_21 (by decide) rfl rfl ?_
      refine rr_iload dX9_join_23 0 rfl rfl ?_
      refine rr_if_eq (tgt := 42) dX9_join_25 (by decide) rfl ⟨fun _ => ?_, fun hc => absurd hc (by decide)⟩
      refine rr_iload_n dX9_join_42 rfl 3 rfl rfl ?_
      refine rr_istore (lv' := [(5, .int v2), (4, .int (0 : Int32)), (0, .ref 0), (1, .int v1), (2, .int v2), (3, .int v3)]) dX9_join_43 (by decide) rfl rfl ?_
      refine rr_iload dX9_join_45 1 rfl rfl ?_
      refine rr_if_eq (tgt := 64) dX9_join_47 (by decide) rfl ⟨fun _ => ?_, fun hc => absurd hc (by decide)⟩
      refine rr_iload_n dX9_join_64 rfl 5 rfl rfl ?_
      refine rr_istore (lv' := [(6, .int v3), (5, .int v2), (4, .int (0 : Int32)), (0, .ref 0), (1, .int v1), (2, .int v2), (3, .int v3)]) dX9_join_65 (by decide) rfl rfl ?_
      refine rr_iload dX9_join_67 1 rfl rfl ?_
      refine rr_if_lt (tgt := 130) dX9_join_69 (by decide) rfl ⟨fun hc => ?_, fun hc => ?_⟩
      · have h := h.1 hc
        exact rr_vret dX9_join_130 rfl h
      · have h := h.2 hc
        refine rr_iload dX9_join_72 1 rfl rfl ?_
        refine rr_aload_n dX9_join_74 rfl 3 rfl rfl ?_
        refine rr_getI dX9_join_75 fX9_13 (by decide) rfl rfl rfl ?_
        refine rr_icmp_ge (tgt := 130) dX9_join_78 (by decide) rfl ⟨fun hc => ?_, fun hc => ?_⟩
        · have h := h.1 hc
          exact rr_vret dX9_join_130 rfl h
        · have h := h.2 hc
          refine rr_iload dX9_join_81 0 rfl rfl ?_
          refine rr_if_lt (tgt := 130) dX9_join_83 (by decide) rfl ⟨fun hc => ?_, fun hc => ?_⟩
          · have h := h.1 hc
            exact rr_vret dX9_join_130 rfl h
          · have h := h.2 hc
            refine rr_iload dX9_join_86 0 rfl rfl ?_
            refine rr_aload_n dX9_join_88 rfl 3 rfl rfl ?_
            refine rr_getI dX9_join_89 fX9_7 (by decide) rfl rfl rfl ?_
            refine rr_icmp_ge (tgt := 130) dX9_join_92 (by decide) rfl ⟨fun hc => ?_, fun hc => ?_⟩
            · have h := h.1 hc
              exact rr_vret dX9_join_130 rfl h
            · have h := h.2 hc
              refine rr_iload dX9_join_95 1 rfl rfl ?_
              refine rr_aload_n dX9_join_97 rfl 3 rfl rfl ?_
              refine rr_getI dX9_join_98 fX9_7 (by decide) rfl rfl rfl ?_
              refine rr_imul dX9_join_101 rfl ?_
              refine rr_iload dX9_join_102 0 rfl rfl ?_
              refine rr_iadd dX9_join_104 rfl ?_
              refine rr_iload_n dX9_join_105 rfl 4 rfl rfl ?_
              refine rr_icmp_eq (tgt := 130) dX9_join_106 (by decide) rfl ⟨fun hc => ?_, fun hc => ?_⟩
              · have h := h.1 hc
                exact rr_vret dX9_join_130 rfl h
              · have h := h.2 hc
                refine rr_aload_n dX9_join_109 rfl 3 rfl rfl ?_
                refine rr_getR dX9_join_110 fX9_19 (by decide) rfl rfl rfl ?_
                refine rr_bipush (v := (100 : Int32)) dX9_join_113 (by decide) rfl ?_
                refine rr_iload_n dX9_join_115 rfl 4 rfl rfl ?_
                refine rr_imul dX9_join_116 rfl ?_
                refine rr_iload dX9_join_117 1 rfl rfl ?_
                refine rr_aload_n dX9_join_119 rfl 3 rfl rfl ?_
                refine rr_getI dX9_join_120 fX9_7 (by decide) rfl rfl rfl ?_
                refine rr_imul dX9_join_123 rfl ?_
                refine rr_iadd dX9_join_124 rfl ?_
                refine rr_iload dX9_join_125 0 rfl rfl ?_
                refine rr_iadd dX9_join_127 rfl ?_
                refine rr_iconst (v := (1 : Int32)) dX9_join_128 (by decide) rfl ?_
                refine rr_zast dX9_join_129 (by decide) rfl rfl ⟨h.1, ?_⟩
                refine rr_letI (fun I2 hI2 => ?_)
                have h := h.2 I2 hI2
                exact rr_vret dX9_join_130 rfl h
    · have h := h.2 hc
      refine rr_iconst (v := (1 : Int32)) dX9_join_16 (by decide) rfl ?_
      refine rr_goto (tgt := 21) dX9_join_17 (by decide) ?_
      refine rr_istore (lv' := [(4, .int (1 : Int32)), (0, .ref 0), (1, .int v1), (2, .int v2), (3, .int v3)]) dX9_join_21 (by decide) rfl rfl ?_
      refine rr_iload dX9_join_23 0 rfl rfl ?_
      refine rr_if_eq (tgt := 42) dX9_join_25 (by decide) rfl ⟨fun hc => absurd hc (by decide), fun _ => ?_⟩
      refine rr_iload_n dX9_join_28 rfl 3 rfl rfl ?_
      refine rr_aload_n dX9_join_29 rfl 1 rfl rfl ?_
      refine rr_getI dX9_join_30 fX9_13 (by decide) rfl rfl rfl ?_
      refine rr_iadd dX9_join_33 rfl ?_
      refine rr_aload_n dX9_join_34 rfl 1 rfl rfl ?_
      refine rr_getI dX9_join_35 fX9_13 (by decide) rfl rfl rfl ?_
      refine rr_irem dX9_join_38 h.1 rfl ?_
      have h := h.2
      refine rr_goto (tgt := 43) dX9_join_39 (by decide) ?_
      refine rr_letTi (fun x3 hx3 => ?_)
      have h := h x3 hx3
      refine rr_istore (lv' := [(5, .int x3), (4, .int (1 : Int32)), (0, .ref 0), (1, .int v1), (2, .int v2), (3, .int v3)]) dX9_join_43 (by decide) rfl rfl ?_
      refine rr_iload dX9_join_45 1 rfl rfl ?_
      refine rr_if_eq (tgt := 64) dX9_join_47 (by decide) rfl ⟨fun hc => absurd hc (by decide), fun _ => ?_⟩
      refine rr_iload_n dX9_join_50 rfl 5 rfl rfl ?_
      refine rr_aload_n dX9_join_51 rfl 2 rfl rfl ?_
      refine rr_getI dX9_join_52 fX9_7 (by decide) rfl rfl rfl ?_
      refine rr_iadd dX9_join_55 rfl ?_
      refine rr_aload_n dX9_join_56 rfl 2 rfl rfl ?_
      refine rr_getI dX9_join_57 fX9_7 (by decide) rfl rfl rfl ?_
      refine rr_irem dX9_join_60 h.1 rfl ?_
      have h := h.2
      refine rr_goto (tgt := 65) dX9_join_61 (by decide) ?_
      refine rr_letTi (fun x4 hx4 => ?_)
      have h := h x4 hx4
      refine rr_istore (lv' := [(6, .int x4), (5, .int x3), (4, .int (1 : Int32)), (0, .ref 0), (1, .int v1), (2, .int v2), (3, .int v3)]) dX9_join_65 (by decide) rfl rfl ?_
      refine rr_iload dX9_join_67 1 rfl rfl ?_
      refine rr_if_lt (tgt := 130) dX9_join_69 (by decide) rfl ⟨fun hc => ?_, fun hc => ?_⟩
      · have h := h.1 hc
        exact rr_vret dX9_join_130 rfl h
      · have h := h.2 hc
        refine rr_iload dX9_join_72 1 rfl rfl ?_
        refine rr_aload_n dX9_join_74 rfl 3 rfl rfl ?_
        refine rr_getI dX9_join_75 fX9_13 (by decide) rfl rfl rfl ?_
        refine rr_icmp_ge (tgt := 130) dX9_join_78 (by decide) rfl ⟨fun hc => ?_, fun hc => ?_⟩
        · have h := h.1 hc
          exact rr_vret dX9_join_130 rfl h
        · have h := h.2 hc
          refine rr_iload dX9_join_81 0 rfl rfl ?_
          refine rr_if_lt (tgt := 130) dX9_join_83 (by decide) rfl ⟨fun hc => ?_, fun hc => ?_⟩
          · have h := h.1 hc
            exact rr_vret dX9_join_130 rfl h
          · have h := h.2 hc
            refine rr_iload dX9_join_86 0 rfl rfl ?_
            refine rr_aload_n dX9_join_88 rfl 3 rfl rfl ?_
            refine rr_getI dX9_join_89 fX9_7 (by decide) rfl rfl rfl ?_
            refine rr_icmp_ge (tgt := 130) dX9_join_92 (by decide) rfl ⟨fun hc => ?_, fun hc => ?_⟩
            · have h := h.1 hc
              exact rr_vret dX9_join_130 rfl h
            · have h := h.2 hc
              refine rr_iload dX9_join_95 1 rfl rfl ?_
              refine rr_aload_n dX9_join_97 rfl 3 rfl rfl ?_
              refine rr_getI dX9_join_98 fX9_7 (by decide) rfl rfl rfl ?_
              refine rr_imul dX9_join_101 rfl ?_
              refine rr_iload dX9_join_102 0 rfl rfl ?_
              refine rr_iadd dX9_join_104 rfl ?_
              refine rr_iload_n dX9_join_105 rfl 4 rfl rfl ?_
              refine rr_icmp_eq (tgt := 130) dX9_join_106 (by decide) rfl ⟨fun hc => ?_, fun hc => ?_⟩
              · have h := h.1 hc
                exact rr_vret dX9_join_130 rfl h
              · have h := h.2 hc
                refine rr_aload_n dX9_join_109 rfl 3 rfl rfl ?_
                refine rr_getR dX9_join_110 fX9_19 (by decide) rfl rfl rfl ?_
                refine rr_bipush (v := (100 : Int32)) dX9_join_113 (by decide) rfl ?_
                refine rr_iload_n dX9_join_115 rfl 4 rfl rfl ?_
                refine rr_imul dX9_join_116 rfl ?_
                refine rr_iload dX9_join_117 1 rfl rfl ?_
                refine rr_aload_n dX9_join_119 rfl 3 rfl rfl ?_
                refine rr_getI dX9_join_120 fX9_7 (by decide) rfl rfl rfl ?_
                refine rr_imul dX9_join_123 rfl ?_
                refine rr_iadd dX9_join_124 rfl ?_
                refine rr_iload dX9_join_125 0 rfl rfl ?_
                refine rr_iadd dX9_join_127 rfl ?_
                refine rr_iconst (v := (1 : Int32)) dX9_join_128 (by decide) rfl ?_
                refine rr_zast dX9_join_129 (by decide) rfl rfl ⟨h.1, ?_⟩
                refine rr_letI (fun I3 hI3 => ?_)
                have h := h.2 I3 hI3
                exact rr_vret dX9_join_130 rfl h

def l_X9_layOut_25 (I : tg_I) (J : tg_J) (P : Option Value → tg_I → tg_J → Prop) (v1 : Int32) (v3 : Int32) (v4 : Int32) : Prop := rr pgM zX9_layOut 25 [(0, .ref 0), (1, .int v1), (3, .int v3), (4, .int v4)] [] I J P
def l_X9_layOut_50 (I : tg_I) (J : tg_J) (P : Option Value → tg_I → tg_J → Prop) (v1 : Int32) (v3 : Int32) (v4 : Int32) : Prop := rr pgM zX9_layOut 50 [(0, .ref 0), (1, .int v1), (3, .int v3), (4, .int v4)] [] I J P
def l_X9_layOut_122 (I : tg_I) (J : tg_J) (P : Option Value → tg_I → tg_J → Prop) (v1 : Int32) (v3 : Int32) (v4 : Int32) (v5 : Int32) (v6 : Int32) (v8 : Int32) (v9 : Int32) : Prop := rr pgM zX9_layOut 122 [(0, .ref 0), (1, .int v1), (3, .int v3), (4, .int v4), (5, .int v5), (6, .int v6), (8, .int v8), (9, .int v9)] [] I J P
theorem e_X9_layOut {I : tg_I} {J : tg_J} {P : Option Value → tg_I → tg_J → Prop} (v1 : Int32) (v2 : Int32) (v3 : Int32) (h :
  ∀ I1, I1 = u2 I 0 0 v1 →
  ∀ I2, I2 = u2 I1 0 1 v2 →
  ∀ I3, I3 = u2 I2 0 2 v3 →
  ∀ I4, I4 = u2 I3 0 3 (v1 * v2) →
  l_X9_layOut_25 I4 J P v1 v3 ((0 : Int32))) : call pgM zX9_layOut [.ref 0, .int v1, .int v2, .int v3] I J P := by
  refine call_of (by decide +kernel) (fun _ => Nat.le_of_ble_eq_true rfl) ?_
  show rr pgM zX9_layOut 0 [(0, .ref 0), (1, .int v1), (2, .int v2), (3, .int v3)] [] I J P
  refine rr_aload_n dX9_layOut_0 rfl 0 rfl rfl ?_
  refine rr_iload_n dX9_layOut_1 rfl 1 rfl rfl ?_
  refine rr_putI dX9_layOut_2 pX9_7 (by decide) rfl rfl rfl ?_
  refine rr_letI (fun I1 hI1 => ?_)
  have h := h I1 hI1
  refine rr_aload_n dX9_layOut_5 rfl 0 rfl rfl ?_
  refine rr_iload_n dX9_layOut_6 rfl 2 rfl rfl ?_
  refine rr_putI dX9_layOut_7 pX9_13 (by decide) rfl rfl rfl ?_
  refine rr_letI (fun I2 hI2 => ?_)
  have h := h I2 hI2
  refine rr_aload_n dX9_layOut_10 rfl 0 rfl rfl ?_
  refine rr_iload_n dX9_layOut_11 rfl 3 rfl rfl ?_
  refine rr_putI dX9_layOut_12 pX9_104 (by decide) rfl rfl rfl ?_
  refine rr_letI (fun I3 hI3 => ?_)
  have h := h I3 hI3
  refine rr_aload_n dX9_layOut_15 rfl 0 rfl rfl ?_
  refine rr_iload_n dX9_layOut_16 rfl 1 rfl rfl ?_
  refine rr_iload_n dX9_layOut_17 rfl 2 rfl rfl ?_
  refine rr_imul dX9_layOut_18 rfl ?_
  refine rr_putI dX9_layOut_19 pX9_16 (by decide) rfl rfl rfl ?_
  refine rr_letI (fun I4 hI4 => ?_)
  have h := h I4 hI4
  refine rr_iconst (v := (0 : Int32)) dX9_layOut_22 (by decide) rfl ?_
  refine rr_istore (lv' := [(4, .int (0 : Int32)), (0, .ref 0), (1, .int v1), (2, .int v2), (3, .int v3)]) dX9_layOut_23 (by decide) rfl rfl ?_
  exact rr.sub [1, 2, 4, 0] rfl h
theorem s_X9_layOut_25 {I : tg_I} {J : tg_J} {P : Option Value → tg_I → tg_J → Prop} (v1 : Int32) (v3 : Int32) (v4 : Int32) (h :
  ((10000 : Int32) ≤ v4 →
   l_X9_layOut_50 I J P v1 v3 ((0 : Int32))) ∧
  (¬ (10000 : Int32) ≤ v4 →
   vp_in v4 10000 ∧ ∀ I1, I1 = u2 I 1 (Int32.toNatClampNeg v4) (vp_nar .boolean (0 : Int32)) →
    l_X9_layOut_25 I1 J P v1 v3 ((v4 + (1 : Int32))))) : l_X9_layOut_25 I J P v1 v3 v4 := by
  show rr pgM zX9_layOut 25 [(0, .ref 0), (1, .int v1), (3, .int v3), (4, .int v4)] [] I J P
  refine rr_iload dX9_layOut_25 3 rfl rfl ?_
  refine rr_sipush (v := (10000 : Int32)) dX9_layOut_27 (by decide) rfl ?_
  refine rr_icmp_ge (tgt := 47) dX9_layOut_30 (by decide) rfl ⟨fun hc => ?_, fun hc => ?_⟩
  · have h := h.1 hc
    refine rr_iconst (v := (0 : Int32)) dX9_layOut_47 (by decide) rfl ?_
    refine rr_istore (lv' := [(4, .int (0 : Int32)), (0, .ref 0), (1, .int v1), (3, .int v3)]) dX9_layOut_48 (by decide) rfl rfl ?_
    exact rr.sub [1, 2, 3, 0] rfl h
  · have h := h.2 hc
    refine rr_aload_n dX9_layOut_33 rfl 0 rfl rfl ?_
    refine rr_getR dX9_layOut_34 fX9_19 (by decide) rfl rfl rfl ?_
    refine rr_iload dX9_layOut_37 3 rfl rfl ?_
    refine rr_iconst (v := (0 : Int32)) dX9_layOut_39 (by decide) rfl ?_
    refine rr_zast dX9_layOut_40 (by decide) rfl rfl ⟨h.1, ?_⟩
    refine rr_letI (fun I1 hI1 => ?_)
    have h := h.2 I1 hI1
    refine rr_iinc (k := 3) (v := (v4 + (1 : Int32))) (lv' := [(4, .int (v4 + (1 : Int32))), (0, .ref 0), (1, .int v1), (3, .int v3)]) dX9_layOut_41 rfl rfl (by decide) rfl rfl ?_
    refine rr_goto (tgt := 25) dX9_layOut_44 (by decide) ?_
    exact rr.sub [1, 2, 3, 0] rfl h
theorem s_X9_layOut_50 {I : tg_I} {J : tg_J} {P : Option Value → tg_I → tg_J → Prop} (v1 : Int32) (v3 : Int32) (v4 : Int32) (h :
  ((I 0 3) ≤ v4 →
   P none I J) ∧
  (¬ (I 0 3) ≤ v4 →
   ¬ v1 = 0 ∧
    (¬ v1 = 0 ∧
    ((v3 < (2 : Int32) →
     ∀ x1, x1 = ((v4 - v4 / v1 * v1) - (1 : Int32)) →
      (v3 < (2 : Int32) →
       ∀ x2, x2 = ((v4 - v4 / v1 * v1) + (1 : Int32)) →
        l_X9_layOut_122 I J P v1 v3 v4 ((v4 / v1)) ((v4 - v4 / v1 * v1)) x2 x1) ∧
      (¬ v3 < (2 : Int32) →
       (¬ ((v4 / v1) - (v4 / v1) / (2 : Int32) * (2 : Int32)) = (1 : Int32) →
         l_X9_layOut_122 I J P v1 v3 v4 ((v4 / v1)) ((v4 - v4 / v1 * v1)) ((v4 - v4 / v1 * v1)) x1) ∧
        (((v4 / v1) - (v4 / v1) / (2 : Int32) * (2 : Int32)) = (1 : Int32) →
         ∀ x3, x3 = ((v4 - v4 / v1 * v1) + (1 : Int32)) →
          l_X9_layOut_122 I J P v1 v3 v4 ((v4 / v1)) ((v4 - v4 / v1 * v1)) x3 x1))) ∧
    (¬ v3 < (2 : Int32) →
     (¬ ((v4 / v1) - (v4 / v1) / (2 : Int32) * (2 : Int32)) = 0 →
       (v3 < (2 : Int32) →
         ∀ x4, x4 = ((v4 - v4 / v1 * v1) + (1 : Int32)) →
          l_X9_layOut_122 I J P v1 v3 v4 ((v4 / v1)) ((v4 - v4 / v1 * v1)) x4 ((v4 - v4 / v1 * v1))) ∧
        (¬ v3 < (2 : Int32) →
         (¬ ((v4 / v1) - (v4 / v1) / (2 : Int32) * (2 : Int32)) = (1 : Int32) →
           l_X9_layOut_122 I J P v1 v3 v4 ((v4 / v1)) ((v4 - v4 / v1 * v1)) ((v4 - v4 / v1 * v1)) ((v4 - v4 / v1 * v1))) ∧
          (((v4 / v1) - (v4 / v1) / (2 : Int32) * (2 : Int32)) = (1 : Int32) →
           ∀ x5, x5 = ((v4 - v4 / v1 * v1) + (1 : Int32)) →
            l_X9_layOut_122 I J P v1 v3 v4 ((v4 / v1)) ((v4 - v4 / v1 * v1)) x5 ((v4 - v4 / v1 * v1))))) ∧
      (((v4 / v1) - (v4 / v1) / (2 : Int32) * (2 : Int32)) = 0 →
       ∀ x6, x6 = ((v4 - v4 / v1 * v1) - (1 : Int32)) →
        (v3 < (2 : Int32) →
         ∀ x7, x7 = ((v4 - v4 / v1 * v1) + (1 : Int32)) →
          l_X9_layOut_122 I J P v1 v3 v4 ((v4 / v1)) ((v4 - v4 / v1 * v1)) x7 x6) ∧
        (¬ v3 < (2 : Int32) →
         (¬ ((v4 / v1) - (v4 / v1) / (2 : Int32) * (2 : Int32)) = (1 : Int32) →
           l_X9_layOut_122 I J P v1 v3 v4 ((v4 / v1)) ((v4 - v4 / v1 * v1)) ((v4 - v4 / v1 * v1)) x6) ∧
          (((v4 / v1) - (v4 / v1) / (2 : Int32) * (2 : Int32)) = (1 : Int32) →
           ∀ x8, x8 = ((v4 - v4 / v1 * v1) + (1 : Int32)) →
            l_X9_layOut_122 I J P v1 v3 v4 ((v4 / v1)) ((v4 - v4 / v1 * v1)) x8 x6)))))))) : l_X9_layOut_50 I J P v1 v3 v4 := by
  show rr pgM zX9_layOut 50 [(0, .ref 0), (1, .int v1), (3, .int v3), (4, .int v4)] [] I J P
  refine rr_iload dX9_layOut_50 3 rfl rfl ?_
  refine rr_aload_n dX9_layOut_52 rfl 0 rfl rfl ?_
  refine rr_getI dX9_layOut_53 fX9_16 (by decide) rfl rfl rfl ?_
  refine rr_icmp_ge (tgt := 189) dX9_layOut_56 (by decide) rfl ⟨fun hc => ?_, fun hc => ?_⟩
  · have h := h.1 hc
    exact rr_vret dX9_layOut_189 rfl h
  · have h := h.2 hc
    refine rr_iload dX9_layOut_59 3 rfl rfl ?_
    refine rr_iload_n dX9_layOut_61 rfl 1 rfl rfl ?_
    refine rr_idiv dX9_layOut_62 h.1 rfl ?_
    have h := h.2
    refine rr_istore (lv' := [(5, .int (v4 / v1)), (0, .ref 0), (1, .int v1), (3, .int v3), (4, .int v4)]) dX9_layOut_63 (by decide) rfl rfl ?_
    refine rr_iload dX9_layOut_65 4 rfl rfl ?_
    refine rr_iload_n dX9_layOut_67 rfl 2 rfl rfl ?_
    refine rr_irem dX9_layOut_68 h.1 rfl ?_
    have h := h.2
    refine rr_istore (lv' := [(6, .int (v4 - v4 / v1 * v1)), (5, .int (v4 / v1)), (0, .ref 0), (1, .int v1), (3, .int v3), (4, .int v4)]) dX9_layOut_69 (by decide) rfl rfl ?_
    refine rr_iload_n dX9_layOut_71 rfl 4 rfl rfl ?_
    refine rr_iconst (v := (2 : Int32)) dX9_layOut_72 (by decide) rfl ?_
    refine rr_icmp_lt (tgt := 83) dX9_layOut_73 (by decide) rfl ⟨fun hc => ?_, fun hc => ?_⟩
    · have h := h.1 hc
      refine rr_iload dX9_layOut_83 0 rfl rfl ?_
      refine rr_iconst (v := (1 : Int32)) dX9_layOut_85 (by decide) rfl ?_
      refine rr_isub dX9_layOut_86 rfl ?_
      refine rr_goto (tgt := 92) dX9_layOut_87 (by decide) ?_
      refine rr_letTi (fun x1 hx1 => ?_)
      have h := h x1 hx1
      refine rr_istore (lv' := [(7, .int x1), (6, .int (v4 - v4 / v1 * v1)), (5, .int (v4 / v1)), (0, .ref 0), (1, .int v1), (3, .int v3), (4, .int v4)]) dX9_layOut_92 (by decide) rfl rfl ?_
      refine rr_iload_n dX9_layOut_94 rfl 5 rfl rfl ?_
      refine rr_iconst (v := (2 : Int32)) dX9_layOut_95 (by decide) rfl ?_
      refine rr_icmp_lt (tgt := 107) dX9_layOut_96 (by decide) rfl ⟨fun hc => ?_, fun hc => ?_⟩
      · have h := h.1 hc
        refine rr_iload dX9_layOut_107 1 rfl rfl ?_
        refine rr_iconst (v := (1 : Int32)) dX9_layOut_109 (by decide) rfl ?_
        refine rr_iadd dX9_layOut_110 rfl ?_
        refine rr_goto (tgt := 116) dX9_layOut_111 (by decide) ?_
        refine rr_letTi (fun x2 hx2 => ?_)
        have h := h x2 hx2
        refine rr_istore (lv' := [(8, .int x2), (7, .int x1), (6, .int (v4 - v4 / v1 * v1)), (5, .int (v4 / v1)), (0, .ref 0), (1, .int v1), (3, .int v3), (4, .int v4)]) dX9_layOut_116 (by decide) rfl rfl ?_
        refine rr_iload dX9_layOut_118 1 rfl rfl ?_
        refine rr_istore (lv' := [(9, .int x1), (8, .int x2), (7, .int x1), (6, .int (v4 - v4 / v1 * v1)), (5, .int (v4 / v1)), (0, .ref 0), (1, .int v1), (3, .int v3), (4, .int v4)]) dX9_layOut_120 (by decide) rfl rfl ?_
        exact rr.sub [5, 6, 7, 8, 4, 3, 1, 0] rfl h
      · have h := h.2 hc
        refine rr_iload dX9_layOut_99 2 rfl rfl ?_
        refine rr_iconst (v := (2 : Int32)) dX9_layOut_101 (by decide) rfl ?_
        refine rr_irem dX9_layOut_102 (by decide) rfl ?_
        refine rr_iconst (v := (1 : Int32)) dX9_layOut_103 (by decide) rfl ?_
        refine rr_icmp_ne (tgt := 114) dX9_layOut_104 (by decide) rfl ⟨fun hc => ?_, fun hc => ?_⟩
        · have h := h.1 hc
          refine rr_iload dX9_layOut_114 1 rfl rfl ?_
          refine rr_istore (lv' := [(8, .int (v4 - v4 / v1 * v1)), (7, .int x1), (6, .int (v4 - v4 / v1 * v1)), (5, .int (v4 / v1)), (0, .ref 0), (1, .int v1), (3, .int v3), (4, .int v4)]) dX9_layOut_116 (by decide) rfl rfl ?_
          refine rr_iload dX9_layOut_118 1 rfl rfl ?_
          refine rr_istore (lv' := [(9, .int x1), (8, .int (v4 - v4 / v1 * v1)), (7, .int x1), (6, .int (v4 - v4 / v1 * v1)), (5, .int (v4 / v1)), (0, .ref 0), (1, .int v1), (3, .int v3), (4, .int v4)]) dX9_layOut_120 (by decide) rfl rfl ?_
          exact rr.sub [5, 6, 7, 8, 4, 3, 1, 0] rfl h
        · have h := h.2 hc
          refine rr_iload dX9_layOut_107 1 rfl rfl ?_
          refine rr_iconst (v := (1 : Int32)) dX9_layOut_109 (by decide) rfl ?_
          refine rr_iadd dX9_layOut_110 rfl ?_
          refine rr_goto (tgt := 116) dX9_layOut_111 (by decide) ?_
          refine rr_letTi (fun x3 hx3 => ?_)
          have h := h x3 hx3
          refine rr_istore (lv' := [(8, .int x3), (7, .int x1), (6, .int (v4 - v4 / v1 * v1)), (5, .int (v4 / v1)), (0, .ref 0), (1, .int v1), (3, .int v3), (4, .int v4)]) dX9_layOut_116 (by decide) rfl rfl ?_
          refine rr_iload dX9_layOut_118 1 rfl rfl ?_
          refine rr_istore (lv' := [(9, .int x1), (8, .int x3), (7, .int x1), (6, .int (v4 - v4 / v1 * v1)), (5, .int (v4 / v1)), (0, .ref 0), (1, .int v1), (3, .int v3), (4, .int v4)]) dX9_layOut_120 (by decide) rfl rfl ?_
          exact rr.sub [5, 6, 7, 8, 4, 3, 1, 0] rfl h
    · have h := h.2 hc
      refine rr_iload dX9_layOut_76 1 rfl rfl ?_
      refine rr_iconst (v := (2 : Int32)) dX9_layOut_78 (by decide) rfl ?_
      refine rr_irem dX9_layOut_79 (by decide) rfl ?_
      refine rr_if_ne (tgt := 90) dX9_layOut_80 (by decide) rfl ⟨fun hc => ?_, fun hc => ?_⟩
      · have h := h.1 hc
        refine rr_iload dX9_layOut_90 0 rfl rfl ?_
        refine rr_istore (lv' := [(7, .int (v4 - v4 / v1 * v1)), (6, .int (v4 - v4 / v1 * v1)), (5, .int (v4 / v1)), (0, .ref 0), (1, .int v1), (3, .int v3), (4, .int v4)]) dX9_layOut_92 (by decide) rfl rfl ?_
        refine rr_iload_n dX9_layOut_94 rfl 5 rfl rfl ?_
        refine rr_iconst (v := (2 : Int32)) dX9_layOut_95 (by decide) rfl ?_
        refine rr_icmp_lt (tgt := 107) dX9_layOut_96 (by decide) rfl ⟨fun hc => ?_, fun hc => ?_⟩
        · have h := h.1 hc
          refine rr_iload dX9_layOut_107 1 rfl rfl ?_
          refine rr_iconst (v := (1 : Int32)) dX9_layOut_109 (by decide) rfl ?_
          refine rr_iadd dX9_layOut_110 rfl ?_
          refine rr_goto (tgt := 116) dX9_layOut_111 (by decide) ?_
          refine rr_letTi (fun x4 hx4 => ?_)
          have h := h x4 hx4
          refine rr_istore (lv' := [(8, .int x4), (7, .int (v4 - v4 / v1 * v1)), (6, .int (v4 - v4 / v1 * v1)), (5, .int (v4 / v1)), (0, .ref 0), (1, .int v1), (3, .int v3), (4, .int v4)]) dX9_layOut_116 (by decide) rfl rfl ?_
          refine rr_iload dX9_layOut_118 1 rfl rfl ?_
          refine rr_istore (lv' := [(9, .int (v4 - v4 / v1 * v1)), (8, .int x4), (7, .int (v4 - v4 / v1 * v1)), (6, .int (v4 - v4 / v1 * v1)), (5, .int (v4 / v1)), (0, .ref 0), (1, .int v1), (3, .int v3), (4, .int v4)]) dX9_layOut_120 (by decide) rfl rfl ?_
          exact rr.sub [5, 6, 7, 8, 4, 3, 1, 0] rfl h
        · have h := h.2 hc
          refine rr_iload dX9_layOut_99 2 rfl rfl ?_
          refine rr_iconst (v := (2 : Int32)) dX9_layOut_101 (by decide) rfl ?_
          refine rr_irem dX9_layOut_102 (by decide) rfl ?_
          refine rr_iconst (v := (1 : Int32)) dX9_layOut_103 (by decide) rfl ?_
          refine rr_icmp_ne (tgt := 114) dX9_layOut_104 (by decide) rfl ⟨fun hc => ?_, fun hc => ?_⟩
          · have h := h.1 hc
            refine rr_iload dX9_layOut_114 1 rfl rfl ?_
            refine rr_istore (lv' := [(8, .int (v4 - v4 / v1 * v1)), (7, .int (v4 - v4 / v1 * v1)), (6, .int (v4 - v4 / v1 * v1)), (5, .int (v4 / v1)), (0, .ref 0), (1, .int v1), (3, .int v3), (4, .int v4)]) dX9_layOut_116 (by decide) rfl rfl ?_
            refine rr_iload dX9_layOut_118 1 rfl rfl ?_
            refine rr_istore (lv' := [(9, .int (v4 - v4 / v1 * v1)), (8, .int (v4 - v4 / v1 * v1)), (7, .int (v4 - v4 / v1 * v1)), (6, .int (v4 - v4 / v1 * v1)), (5, .int (v4 / v1)), (0, .ref 0), (1, .int v1), (3, .int v3), (4, .int v4)]) dX9_layOut_120 (by decide) rfl rfl ?_
            exact rr.sub [5, 6, 7, 8, 4, 3, 1, 0] rfl h
          · have h := h.2 hc
            refine rr_iload dX9_layOut_107 1 rfl rfl ?_
            refine rr_iconst (v := (1 : Int32)) dX9_layOut_109 (by decide) rfl ?_
            refine rr_iadd dX9_layOut_110 rfl ?_
            refine rr_goto (tgt := 116) dX9_layOut_111 (by decide) ?_
            refine rr_letTi (fun x5 hx5 => ?_)
            have h := h x5 hx5
            refine rr_istore (lv' := [(8, .int x5), (7, .int (v4 - v4 / v1 * v1)), (6, .int (v4 - v4 / v1 * v1)), (5, .int (v4 / v1)), (0, .ref 0), (1, .int v1), (3, .int v3), (4, .int v4)]) dX9_layOut_116 (by decide) rfl rfl ?_
            refine rr_iload dX9_layOut_118 1 rfl rfl ?_
            refine rr_istore (lv' := [(9, .int (v4 - v4 / v1 * v1)), (8, .int x5), (7, .int (v4 - v4 / v1 * v1)), (6, .int (v4 - v4 / v1 * v1)), (5, .int (v4 / v1)), (0, .ref 0), (1, .int v1), (3, .int v3), (4, .int v4)]) dX9_layOut_120 (by decide) rfl rfl ?_
            exact rr.sub [5, 6, 7, 8, 4, 3, 1, 0] rfl h
      · have h := h.2 hc
        refine rr_iload dX9_layOut_83 0 rfl rfl ?_
        refine rr_iconst (v := (1 : Int32)) dX9_layOut_85 (by decide) rfl ?_
        refine rr_isub dX9_layOut_86 rfl ?_
        refine rr_goto (tgt := 92) dX9_layOut_87 (by decide) ?_
        refine rr_letTi (fun x6 hx6 => ?_)
        have h := h x6 hx6
        refine rr_istore (lv' := [(7, .int x6), (6, .int (v4 - v4 / v1 * v1)), (5, .int (v4 / v1)), (0, .ref 0), (1, .int v1), (3, .int v3), (4, .int v4)]) dX9_layOut_92 (by decide) rfl rfl ?_
        refine rr_iload_n dX9_layOut_94 rfl 5 rfl rfl ?_
        refine rr_iconst (v := (2 : Int32)) dX9_layOut_95 (by decide) rfl ?_
        refine rr_icmp_lt (tgt := 107) dX9_layOut_96 (by decide) rfl ⟨fun hc => ?_, fun hc => ?_⟩
        · have h := h.1 hc
          refine rr_iload dX9_layOut_107 1 rfl rfl ?_
          refine rr_iconst (v := (1 : Int32)) dX9_layOut_109 (by decide) rfl ?_
          refine rr_iadd dX9_layOut_110 rfl ?_
          refine rr_goto (tgt := 116) dX9_layOut_111 (by decide) ?_
          refine rr_letTi (fun x7 hx7 => ?_)
          have h := h x7 hx7
          refine rr_istore (lv' := [(8, .int x7), (7, .int x6), (6, .int (v4 - v4 / v1 * v1)), (5, .int (v4 / v1)), (0, .ref 0), (1, .int v1), (3, .int v3), (4, .int v4)]) dX9_layOut_116 (by decide) rfl rfl ?_
          refine rr_iload dX9_layOut_118 1 rfl rfl ?_
          refine rr_istore (lv' := [(9, .int x6), (8, .int x7), (7, .int x6), (6, .int (v4 - v4 / v1 * v1)), (5, .int (v4 / v1)), (0, .ref 0), (1, .int v1), (3, .int v3), (4, .int v4)]) dX9_layOut_120 (by decide) rfl rfl ?_
          exact rr.sub [5, 6, 7, 8, 4, 3, 1, 0] rfl h
        · have h := h.2 hc
          refine rr_iload dX9_layOut_99 2 rfl rfl ?_
          refine rr_iconst (v := (2 : Int32)) dX9_layOut_101 (by decide) rfl ?_
          refine rr_irem dX9_layOut_102 (by decide) rfl ?_
          refine rr_iconst (v := (1 : Int32)) dX9_layOut_103 (by decide) rfl ?_
          refine rr_icmp_ne (tgt := 114) dX9_layOut_104 (by decide) rfl ⟨fun hc => ?_, fun hc => ?_⟩
          · have h := h.1 hc
            refine rr_iload dX9_layOut_114 1 rfl rfl ?_
            refine rr_istore (lv' := [(8, .int (v4 - v4 / v1 * v1)), (7, .int x6), (6, .int (v4 - v4 / v1 * v1)), (5, .int (v4 / v1)), (0, .ref 0), (1, .int v1), (3, .int v3), (4, .int v4)]) dX9_layOut_116 (by decide) rfl rfl ?_
            refine rr_iload dX9_layOut_118 1 rfl rfl ?_
            refine rr_istore (lv' := [(9, .int x6), (8, .int (v4 - v4 / v1 * v1)), (7, .int x6), (6, .int (v4 - v4 / v1 * v1)), (5, .int (v4 / v1)), (0, .ref 0), (1, .int v1), (3, .int v3), (4, .int v4)]) dX9_layOut_120 (by decide) rfl rfl ?_
            exact rr.sub [5, 6, 7, 8, 4, 3, 1, 0] rfl h
          · have h := h.2 hc
            refine rr_iload dX9_layOut_107 1 rfl rfl ?_
            refine rr_iconst (v := (1 : Int32)) dX9_layOut_109 (by decide) rfl ?_
            refine rr_iadd dX9_layOut_110 rfl ?_
            refine rr_goto (tgt := 116) dX9_layOut_111 (by decide) ?_
            refine rr_letTi (fun x8 hx8 => ?_)
            have h := h x8 hx8
            refine rr_istore (lv' := [(8, .int x8), (7, .int x6), (6, .int (v4 - v4 / v1 * v1)), (5, .int (v4 / v1)), (0, .ref 0), (1, .int v1), (3, .int v3), (4, .int v4)]) dX9_layOut_116 (by decide) rfl rfl ?_
            refine rr_iload dX9_layOut_118 1 rfl rfl ?_
            refine rr_istore (lv' := [(9, .int x6), (8, .int x8), (7, .int x6), (6, .int (v4 - v4 / v1 * v1)), (5, .int (v4 / v1)), (0, .ref 0), (1, .int v1), (3, .int v3), (4, .int v4)]) dX9_layOut_120 (by decide) rfl rfl ?_
            exact rr.sub [5, 6, 7, 8, 4, 3, 1, 0] rfl h
theorem s_X9_layOut_122 {I : tg_I} {J : tg_J} {P : Option Value → tg_I → tg_J → Prop} (v1 : Int32) (v3 : Int32) (v4 : Int32) (v5 : Int32) (v6 : Int32) (v8 : Int32) (v9 : Int32) (h :
  (v8 < v9 →
   call pgM zX9_join [.ref 0, .int v4, .int v5, .int (v6 - (1 : Int32))] I J (fun vr I1 J1 => vr = none ∧
    (call pgM zX9_join [.ref 0, .int v4, .int v5, .int (v6 + (1 : Int32))] I1 J1 (fun vr I2 J2 => vr = none ∧
    (l_X9_layOut_50 I2 J2 P v1 v3 ((v4 + (1 : Int32)))))))) ∧
  (¬ v8 < v9 →
   call pgM zX9_join [.ref 0, .int v4, .int (v5 - (1 : Int32)), .int v9] I J (fun vr I3 J3 => vr = none ∧
    (call pgM zX9_join [.ref 0, .int v4, .int (v5 + (1 : Int32)), .int v9] I3 J3 (fun vr I4 J4 => vr = none ∧
    (l_X9_layOut_122 I4 J4 P v1 v3 v4 v5 v6 v8 ((v9 + (1 : Int32))))))))) : l_X9_layOut_122 I J P v1 v3 v4 v5 v6 v8 v9 := by
  show rr pgM zX9_layOut 122 [(0, .ref 0), (1, .int v1), (3, .int v3), (4, .int v4), (5, .int v5), (6, .int v6), (8, .int v8), (9, .int v9)] [] I J P
  refine rr_iload dX9_layOut_122 7 rfl rfl ?_
  refine rr_iload dX9_layOut_124 6 rfl rfl ?_
  refine rr_icmp_gt (tgt := 159) dX9_layOut_126 (by decide) rfl ⟨fun hc => ?_, fun hc => ?_⟩
  · have h := h.1 hc
    refine rr_aload_n dX9_layOut_159 rfl 0 rfl rfl ?_
    refine rr_iload dX9_layOut_160 3 rfl rfl ?_
    refine rr_iload dX9_layOut_162 4 rfl rfl ?_
    refine rr_iload dX9_layOut_164 5 rfl rfl ?_
    refine rr_iconst (v := (1 : Int32)) dX9_layOut_166 (by decide) rfl ?_
    refine rr_isub dX9_layOut_167 rfl ?_
    refine rr_V [.int v4, .int v5, .int (v6 - (1 : Int32))] [] dX9_layOut_168 kX9_join mX9_107 ⟨by decide, by decide⟩ (by decide) rfl rfl rfl (Nat.le_of_ble_eq_true rfl) rfl (h.mono fun vr I1 J1 h => ?_)
    obtain ⟨rfl, h⟩ := h
    show rr pgM zX9_layOut 171 _ [] _ _ _
    refine rr_aload_n dX9_layOut_171 rfl 0 rfl rfl ?_
    refine rr_iload dX9_layOut_172 3 rfl rfl ?_
    refine rr_iload dX9_layOut_174 4 rfl rfl ?_
    refine rr_iload dX9_layOut_176 5 rfl rfl ?_
    refine rr_iconst (v := (1 : Int32)) dX9_layOut_178 (by decide) rfl ?_
    refine rr_iadd dX9_layOut_179 rfl ?_
    refine rr_V [.int v4, .int v5, .int (v6 + (1 : Int32))] [] dX9_layOut_180 kX9_join mX9_107 ⟨by decide, by decide⟩ (by decide) rfl rfl rfl (Nat.le_of_ble_eq_true rfl) rfl (h.mono fun vr I2 J2 h => ?_)
    obtain ⟨rfl, h⟩ := h
    show rr pgM zX9_layOut 183 _ [] _ _ _
    refine rr_iinc (k := 3) (v := (v4 + (1 : Int32))) (lv' := [(4, .int (v4 + (1 : Int32))), (0, .ref 0), (1, .int v1), (3, .int v3), (5, .int v5), (6, .int v6), (8, .int v8), (9, .int v9)]) dX9_layOut_183 rfl rfl (by decide) rfl rfl ?_
    refine rr_goto (tgt := 50) dX9_layOut_186 (by decide) ?_
    exact rr.sub [1, 2, 3, 0] rfl h
  · have h := h.2 hc
    refine rr_aload_n dX9_layOut_129 rfl 0 rfl rfl ?_
    refine rr_iload dX9_layOut_130 3 rfl rfl ?_
    refine rr_iload dX9_layOut_132 4 rfl rfl ?_
    refine rr_iconst (v := (1 : Int32)) dX9_layOut_134 (by decide) rfl ?_
    refine rr_isub dX9_layOut_135 rfl ?_
    refine rr_iload dX9_layOut_136 7 rfl rfl ?_
    refine rr_V [.int v4, .int (v5 - (1 : Int32)), .int v9] [] dX9_layOut_138 kX9_join mX9_107 ⟨by decide, by decide⟩ (by decide) rfl rfl rfl (Nat.le_of_ble_eq_true rfl) rfl (h.mono fun vr I3 J3 h => ?_)
    obtain ⟨rfl, h⟩ := h
    show rr pgM zX9_layOut 141 _ [] _ _ _
    refine rr_aload_n dX9_layOut_141 rfl 0 rfl rfl ?_
    refine rr_iload dX9_layOut_142 3 rfl rfl ?_
    refine rr_iload dX9_layOut_144 4 rfl rfl ?_
    refine rr_iconst (v := (1 : Int32)) dX9_layOut_146 (by decide) rfl ?_
    refine rr_iadd dX9_layOut_147 rfl ?_
    refine rr_iload dX9_layOut_148 7 rfl rfl ?_
    refine rr_V [.int v4, .int (v5 + (1 : Int32)), .int v9] [] dX9_layOut_150 kX9_join mX9_107 ⟨by decide, by decide⟩ (by decide) rfl rfl rfl (Nat.le_of_ble_eq_true rfl) rfl (h.mono fun vr I4 J4 h => ?_)
    obtain ⟨rfl, h⟩ := h
    show rr pgM zX9_layOut 153 _ [] _ _ _
    refine rr_iinc (k := 7) (v := (v9 + (1 : Int32))) (lv' := [(9, .int (v9 + (1 : Int32))), (0, .ref 0), (1, .int v1), (3, .int v3), (4, .int v4), (5, .int v5), (6, .int v6), (8, .int v8)]) dX9_layOut_153 rfl rfl (by decide) rfl rfl ?_
    refine rr_goto (tgt := 122) dX9_layOut_156 (by decide) ?_
    exact rr.sub [1, 2, 3, 4, 5, 6, 7, 0] rfl h

theorem e_X9_isNear {I : tg_I} {J : tg_J} {P : Option Value → tg_I → tg_J → Prop} (v1 : Int32) (v2 : Int32) (h :
  vp_in (((100 : Int32) * v1) + v2) 10000 ∧
  (narrow .boolean (.int (I 1 (Int32.toNatClampNeg (((100 : Int32) * v1) + v2)))) = .int (I 1 (Int32.toNatClampNeg (((100 : Int32) * v1) + v2))) ∧ P (some (.int (I 1 (Int32.toNatClampNeg (((100 : Int32) * v1) + v2))))) I J)) : call pgM zX9_isNear [.ref 0, .int v1, .int v2] I J P := by
  refine call_of (by decide +kernel) (fun _ => Nat.le_of_ble_eq_true rfl) ?_
  show rr pgM zX9_isNear 0 [(0, .ref 0), (1, .int v1), (2, .int v2)] [] I J P
  refine rr_aload_n dX9_isNear_0 rfl 0 rfl rfl ?_
  refine rr_getR dX9_isNear_1 fX9_19 (by decide) rfl rfl rfl ?_
  refine rr_bipush (v := (100 : Int32)) dX9_isNear_4 (by decide) rfl ?_
  refine rr_iload_n dX9_isNear_6 rfl 1 rfl rfl ?_
  refine rr_imul dX9_isNear_7 rfl ?_
  refine rr_iload_n dX9_isNear_8 rfl 2 rfl rfl ?_
  refine rr_iadd dX9_isNear_9 rfl ?_
  refine rr_zald dX9_isNear_10 (by decide) rfl rfl ⟨h.1, ?_⟩
  have h := h.2
  exact rr_zret dX9_isNear_11 rfl h.1 h.2

theorem e_X9_isCell {I : tg_I} {J : tg_J} {P : Option Value → tg_I → tg_J → Prop} (v1 : Int32) (h :
  (v1 < 0 →
   P (some (.int (0 : Int32))) I J) ∧
  (¬ v1 < 0 →
   ((I 0 3) ≤ v1 →
     P (some (.int (0 : Int32))) I J) ∧
    (¬ (I 0 3) ≤ v1 →
     P (some (.int (1 : Int32))) I J))) : call pgM zX9_isCell [.ref 0, .int v1] I J P := by
  refine call_of (by decide +kernel) (fun _ => Nat.le_of_ble_eq_true rfl) ?_
  show rr pgM zX9_isCell 0 [(0, .ref 0), (1, .int v1)] [] I J P
  refine rr_iload_n dX9_isCell_0 rfl 1 rfl rfl ?_
  refine rr_if_lt (tgt := 16) dX9_isCell_1 (by decide) rfl ⟨fun hc => ?_, fun hc => ?_⟩
  · have h := h.1 hc
    refine rr_iconst (v := (0 : Int32)) dX9_isCell_16 (by decide) rfl ?_
    exact rr_zret dX9_isCell_17 rfl rfl h
  · have h := h.2 hc
    refine rr_iload_n dX9_isCell_4 rfl 1 rfl rfl ?_
    refine rr_aload_n dX9_isCell_5 rfl 0 rfl rfl ?_
    refine rr_getI dX9_isCell_6 fX9_16 (by decide) rfl rfl rfl ?_
    refine rr_icmp_ge (tgt := 16) dX9_isCell_9 (by decide) rfl ⟨fun hc => ?_, fun hc => ?_⟩
    · have h := h.1 hc
      refine rr_iconst (v := (0 : Int32)) dX9_isCell_16 (by decide) rfl ?_
      exact rr_zret dX9_isCell_17 rfl rfl h
    · have h := h.2 hc
      refine rr_iconst (v := (1 : Int32)) dX9_isCell_12 (by decide) rfl ?_
      refine rr_goto (tgt := 17) dX9_isCell_13 (by decide) ?_
      exact rr_zret dX9_isCell_17 rfl rfl h

theorem e_X9_isBoard {I : tg_I} {J : tg_J} {P : Option Value → tg_I → tg_J → Prop} (v0 : Int32) (v1 : Int32) (v2 : Int32) (h :
  (v0 < (1 : Int32) →
   P (some (.int (0 : Int32))) I J) ∧
  (¬ v0 < (1 : Int32) →
   ((10 : Int32) < v0 →
     P (some (.int (0 : Int32))) I J) ∧
    (¬ (10 : Int32) < v0 →
     (v1 < (1 : Int32) →
       P (some (.int (0 : Int32))) I J) ∧
      (¬ v1 < (1 : Int32) →
       ((10 : Int32) < v1 →
         P (some (.int (0 : Int32))) I J) ∧
        (¬ (10 : Int32) < v1 →
         (v2 < 0 →
           P (some (.int (0 : Int32))) I J) ∧
          (¬ v2 < 0 →
           ((3 : Int32) < v2 →
             P (some (.int (0 : Int32))) I J) ∧
            (¬ (3 : Int32) < v2 →
             (v2 < (3 : Int32) →
               P (some (.int (1 : Int32))) I J) ∧
              (¬ v2 < (3 : Int32) →
               (¬ (v1 - v1 / (2 : Int32) * (2 : Int32)) = 0 →
                 P (some (.int (0 : Int32))) I J) ∧
                ((v1 - v1 / (2 : Int32) * (2 : Int32)) = 0 →
                 P (some (.int (1 : Int32))) I J))))))))) : call pgM zX9_isBoard [.int v0, .int v1, .int v2] I J P := by
  refine call_of (by decide +kernel) (fun _ => Nat.le_of_ble_eq_true rfl) ?_
  show rr pgM zX9_isBoard 0 [(0, .int v0), (1, .int v1), (2, .int v2)] [] I J P
  refine rr_iload_n dX9_isBoard_0 rfl 0 rfl rfl ?_
  refine rr_iconst (v := (1 : Int32)) dX9_isBoard_1 (by decide) rfl ?_
  refine rr_icmp_lt (tgt := 46) dX9_isBoard_2 (by decide) rfl ⟨fun hc => ?_, fun hc => ?_⟩
  · have h := h.1 hc
    refine rr_iconst (v := (0 : Int32)) dX9_isBoard_46 (by decide) rfl ?_
    exact rr_zret dX9_isBoard_47 rfl rfl h
  · have h := h.2 hc
    refine rr_iload_n dX9_isBoard_5 rfl 0 rfl rfl ?_
    refine rr_bipush (v := (10 : Int32)) dX9_isBoard_6 (by decide) rfl ?_
    refine rr_icmp_gt (tgt := 46) dX9_isBoard_8 (by decide) rfl ⟨fun hc => ?_, fun hc => ?_⟩
    · have h := h.1 hc
      refine rr_iconst (v := (0 : Int32)) dX9_isBoard_46 (by decide) rfl ?_
      exact rr_zret dX9_isBoard_47 rfl rfl h
    · have h := h.2 hc
      refine rr_iload_n dX9_isBoard_11 rfl 1 rfl rfl ?_
      refine rr_iconst (v := (1 : Int32)) dX9_isBoard_12 (by decide) rfl ?_
      refine rr_icmp_lt (tgt := 46) dX9_isBoard_13 (by decide) rfl ⟨fun hc => ?_, fun hc => ?_⟩
      · have h := h.1 hc
        refine rr_iconst (v := (0 : Int32)) dX9_isBoard_46 (by decide) rfl ?_
        exact rr_zret dX9_isBoard_47 rfl rfl h
      · have h := h.2 hc
        refine rr_iload_n dX9_isBoard_16 rfl 1 rfl rfl ?_
        refine rr_bipush (v := (10 : Int32)) dX9_isBoard_17 (by decide) rfl ?_
        refine rr_icmp_gt (tgt := 46) dX9_isBoard_19 (by decide) rfl ⟨fun hc => ?_, fun hc => ?_⟩
        · have h := h.1 hc
          refine rr_iconst (v := (0 : Int32)) dX9_isBoard_46 (by decide) rfl ?_
          exact rr_zret dX9_isBoard_47 rfl rfl h
        · have h := h.2 hc
          refine rr_iload_n dX9_isBoard_22 rfl 2 rfl rfl ?_
          refine rr_if_lt (tgt := 46) dX9_isBoard_23 (by decide) rfl ⟨fun hc => ?_, fun hc => ?_⟩
          · have h := h.1 hc
            refine rr_iconst (v := (0 : Int32)) dX9_isBoard_46 (by decide) rfl ?_
            exact rr_zret dX9_isBoard_47 rfl rfl h
          · have h := h.2 hc
            refine rr_iload_n dX9_isBoard_26 rfl 2 rfl rfl ?_
            refine rr_iconst (v := (3 : Int32)) dX9_isBoard_27 (by decide) rfl ?_
            refine rr_icmp_gt (tgt := 46) dX9_isBoard_28 (by decide) rfl ⟨fun hc => ?_, fun hc => ?_⟩
            · have h := h.1 hc
              refine rr_iconst (v := (0 : Int32)) dX9_isBoard_46 (by decide) rfl ?_
              exact rr_zret dX9_isBoard_47 rfl rfl h
            · have h := h.2 hc
              refine rr_iload_n dX9_isBoard_31 rfl 2 rfl rfl ?_
              refine rr_iconst (v := (3 : Int32)) dX9_isBoard_32 (by decide) rfl ?_
              refine rr_icmp_lt (tgt := 42) dX9_isBoard_33 (by decide) rfl ⟨fun hc => ?_, fun hc => ?_⟩
              · have h := h.1 hc
                refine rr_iconst (v := (1 : Int32)) dX9_isBoard_42 (by decide) rfl ?_
                refine rr_goto (tgt := 47) dX9_isBoard_43 (by decide) ?_
                exact rr_zret dX9_isBoard_47 rfl rfl h
              · have h := h.2 hc
                refine rr_iload_n dX9_isBoard_36 rfl 1 rfl rfl ?_
                refine rr_iconst (v := (2 : Int32)) dX9_isBoard_37 (by decide) rfl ?_
                refine rr_irem dX9_isBoard_38 (by decide) rfl ?_
                refine rr_if_ne (tgt := 46) dX9_isBoard_39 (by decide) rfl ⟨fun hc => ?_, fun hc => ?_⟩
                · have h := h.1 hc
                  refine rr_iconst (v := (0 : Int32)) dX9_isBoard_46 (by decide) rfl ?_
                  exact rr_zret dX9_isBoard_47 rfl rfl h
                · have h := h.2 hc
                  refine rr_iconst (v := (1 : Int32)) dX9_isBoard_42 (by decide) rfl ?_
                  refine rr_goto (tgt := 47) dX9_isBoard_43 (by decide) ?_
                  exact rr_zret dX9_isBoard_47 rfl rfl h

def l_X9_hideAll_2 (I : tg_I) (J : tg_J) (P : Option Value → tg_I → tg_J → Prop) (v1 : Int32) : Prop := rr pgM zX9_hideAll 2 [(0, .ref 0), (1, .int v1)] [] I J P
theorem e_X9_hideAll {I : tg_I} {J : tg_J} {P : Option Value → tg_I → tg_J → Prop} (h :
  l_X9_hideAll_2 I J P ((0 : Int32))) : call pgM zX9_hideAll [.ref 0] I J P := by
  refine call_of (by decide +kernel) (fun _ => Nat.le_of_ble_eq_true rfl) ?_
  show rr pgM zX9_hideAll 0 [(0, .ref 0)] [] I J P
  refine rr_iconst (v := (0 : Int32)) dX9_hideAll_0 (by decide) rfl ?_
  refine rr_istore_n (lv' := [(1, .int (0 : Int32)), (0, .ref 0)]) dX9_hideAll_1 rfl (by decide) rfl rfl ?_
  exact rr.sub [1, 0] rfl h
theorem s_X9_hideAll_2 {I : tg_I} {J : tg_J} {P : Option Value → tg_I → tg_J → Prop} (v1 : Int32) (h :
  ((100 : Int32) ≤ v1 →
   P none I J) ∧
  (¬ (100 : Int32) ≤ v1 →
   vp_in v1 100 ∧ ∀ I1, I1 = u2 I 3 (Int32.toNatClampNeg v1) (0 : Int32) →
    vp_in v1 100 ∧ ∀ I2, I2 = u2 I1 4 (Int32.toNatClampNeg v1) (vp_nar .boolean (0 : Int32)) →
    l_X9_hideAll_2 I2 J P ((v1 + (1 : Int32))))) : l_X9_hideAll_2 I J P v1 := by
  show rr pgM zX9_hideAll 2 [(0, .ref 0), (1, .int v1)] [] I J P
  refine rr_iload_n dX9_hideAll_2 rfl 1 rfl rfl ?_
  refine rr_bipush (v := (100 : Int32)) dX9_hideAll_3 (by decide) rfl ?_
  refine rr_icmp_ge (tgt := 28) dX9_hideAll_5 (by decide) rfl ⟨fun hc => ?_, fun hc => ?_⟩
  · have h := h.1 hc
    exact rr_vret dX9_hideAll_28 rfl h
  · have h := h.2 hc
    refine rr_aload_n dX9_hideAll_8 rfl 0 rfl rfl ?_
    refine rr_getR dX9_hideAll_9 fX9_26 (by decide) rfl rfl rfl ?_
    refine rr_iload_n dX9_hideAll_12 rfl 1 rfl rfl ?_
    refine rr_iconst (v := (0 : Int32)) dX9_hideAll_13 (by decide) rfl ?_
    refine rr_iast dX9_hideAll_14 (by decide) rfl rfl ⟨h.1, ?_⟩
    refine rr_letI (fun I1 hI1 => ?_)
    have h := h.2 I1 hI1
    refine rr_aload_n dX9_hideAll_15 rfl 0 rfl rfl ?_
    refine rr_getR dX9_hideAll_16 fX9_30 (by decide) rfl rfl rfl ?_
    refine rr_iload_n dX9_hideAll_19 rfl 1 rfl rfl ?_
    refine rr_iconst (v := (0 : Int32)) dX9_hideAll_20 (by decide) rfl ?_
    refine rr_zast dX9_hideAll_21 (by decide) rfl rfl ⟨h.1, ?_⟩
    refine rr_letI (fun I2 hI2 => ?_)
    have h := h.2 I2 hI2
    refine rr_iinc (k := 1) (v := (v1 + (1 : Int32))) (lv' := [(1, .int (v1 + (1 : Int32))), (0, .ref 0)]) dX9_hideAll_22 rfl rfl (by decide) rfl rfl ?_
    refine rr_goto (tgt := 2) dX9_hideAll_25 (by decide) ?_
    exact rr.sub [1, 0] rfl h

def l_X9_forget_17 (I : tg_I) (J : tg_J) (P : Option Value → tg_I → tg_J → Prop) (v1 : Int32) : Prop := rr pgM zX9_forget 17 [(0, .ref 0), (1, .int v1)] [] I J P
theorem e_X9_forget {I : tg_I} {J : tg_J} {P : Option Value → tg_I → tg_J → Prop} (h :
  ∀ I1, I1 = u2 I 0 10 (0 : Int32) →
  ∀ I2, I2 = u2 I1 0 14 (-1 : Int32) →
  ∀ I3, I3 = u2 I2 0 16 (0 : Int32) →
  l_X9_forget_17 I3 J P ((0 : Int32))) : call pgM zX9_forget [.ref 0] I J P := by
  refine call_of (by decide +kernel) (fun _ => Nat.le_of_ble_eq_true rfl) ?_
  show rr pgM zX9_forget 0 [(0, .ref 0)] [] I J P
  refine rr_aload_n dX9_forget_0 rfl 0 rfl rfl ?_
  refine rr_iconst (v := (0 : Int32)) dX9_forget_1 (by decide) rfl ?_
  refine rr_putI dX9_forget_2 pX9_110 (by decide) rfl rfl rfl ?_
  refine rr_letI (fun I1 hI1 => ?_)
  have h := h I1 hI1
  refine rr_aload_n dX9_forget_5 rfl 0 rfl rfl ?_
  refine rr_iconst (v := (-1 : Int32)) dX9_forget_6 (by decide) rfl ?_
  refine rr_putI dX9_forget_7 pX9_45 (by decide) rfl rfl rfl ?_
  refine rr_letI (fun I2 hI2 => ?_)
  have h := h I2 hI2
  refine rr_aload_n dX9_forget_10 rfl 0 rfl rfl ?_
  refine rr_iconst (v := (0 : Int32)) dX9_forget_11 (by decide) rfl ?_
  refine rr_putI dX9_forget_12 pX9_113 (by decide) rfl rfl rfl ?_
  refine rr_letI (fun I3 hI3 => ?_)
  have h := h I3 hI3
  refine rr_iconst (v := (0 : Int32)) dX9_forget_15 (by decide) rfl ?_
  refine rr_istore_n (lv' := [(1, .int (0 : Int32)), (0, .ref 0)]) dX9_forget_16 rfl (by decide) rfl rfl ?_
  exact rr.sub [1, 0] rfl h
theorem s_X9_forget_17 {I : tg_I} {J : tg_J} {P : Option Value → tg_I → tg_J → Prop} (v1 : Int32) (h :
  ((101 : Int32) ≤ v1 →
   P none I J) ∧
  (¬ (101 : Int32) ≤ v1 →
   vp_in v1 101 ∧ ∀ I1, I1 = u2 I 9 (Int32.toNatClampNeg v1) (vp_nar .boolean (0 : Int32)) →
    vp_in v1 101 ∧ ∀ I2, I2 = u2 I1 10 (Int32.toNatClampNeg v1) (vp_nar .boolean (0 : Int32)) →
    l_X9_forget_17 I2 J P ((v1 + (1 : Int32))))) : l_X9_forget_17 I J P v1 := by
  show rr pgM zX9_forget 17 [(0, .ref 0), (1, .int v1)] [] I J P
  refine rr_iload_n dX9_forget_17 rfl 1 rfl rfl ?_
  refine rr_bipush (v := (101 : Int32)) dX9_forget_18 (by decide) rfl ?_
  refine rr_icmp_ge (tgt := 43) dX9_forget_20 (by decide) rfl ⟨fun hc => ?_, fun hc => ?_⟩
  · have h := h.1 hc
    exact rr_vret dX9_forget_43 rfl h
  · have h := h.2 hc
    refine rr_aload_n dX9_forget_23 rfl 0 rfl rfl ?_
    refine rr_getR dX9_forget_24 fX9_48 (by decide) rfl rfl rfl ?_
    refine rr_iload_n dX9_forget_27 rfl 1 rfl rfl ?_
    refine rr_iconst (v := (0 : Int32)) dX9_forget_28 (by decide) rfl ?_
    refine rr_zast dX9_forget_29 (by decide) rfl rfl ⟨h.1, ?_⟩
    refine rr_letI (fun I1 hI1 => ?_)
    have h := h.2 I1 hI1
    refine rr_aload_n dX9_forget_30 rfl 0 rfl rfl ?_
    refine rr_getR dX9_forget_31 fX9_51 (by decide) rfl rfl rfl ?_
    refine rr_iload_n dX9_forget_34 rfl 1 rfl rfl ?_
    refine rr_iconst (v := (0 : Int32)) dX9_forget_35 (by decide) rfl ?_
    refine rr_zast dX9_forget_36 (by decide) rfl rfl ⟨h.1, ?_⟩
    refine rr_letI (fun I2 hI2 => ?_)
    have h := h.2 I2 hI2
    refine rr_iinc (k := 1) (v := (v1 + (1 : Int32))) (lv' := [(1, .int (v1 + (1 : Int32))), (0, .ref 0)]) dX9_forget_37 rfl rfl (by decide) rfl rfl ?_
    refine rr_goto (tgt := 17) dX9_forget_40 (by decide) ?_
    exact rr.sub [1, 0] rfl h

def l_X9_blank_25 (I : tg_I) (J : tg_J) (P : Option Value → tg_I → tg_J → Prop) (v4 : Int32) : Prop := rr pgM zX9_blank 25 [(0, .ref 0), (4, .int v4)] [] I J P
theorem e_X9_blank {I : tg_I} {J : tg_J} {P : Option Value → tg_I → tg_J → Prop} (v1 : Int32) (v2 : Int32) (v3 : Int32) (h :
  call pgM zX9_isBoard [.int v1, .int v2, .int v3] I J (fun vr I1 J1 => ∃ r1 : Int32, vr = some (.int r1) ∧
  ((¬ r1 = 0 →
   call pgM zX9_layOut [.ref 0, .int v1, .int v2, .int v3] I1 J1 (fun vr I2 J2 => vr = none ∧
    (call pgM zX9_hideAll [.ref 0] I2 J2 (fun vr I3 J3 => vr = none ∧
    (l_X9_blank_25 I3 J3 P ((0 : Int32))))))) ∧
  (r1 = 0 →
   P (some (.int (-1 : Int32))) I1 J1)))) : call pgM zX9_blank [.ref 0, .int v1, .int v2, .int v3] I J P := by
  refine call_of (by decide +kernel) (fun _ => Nat.le_of_ble_eq_true rfl) ?_
  show rr pgM zX9_blank 0 [(0, .ref 0), (1, .int v1), (2, .int v2), (3, .int v3)] [] I J P
  refine rr_iload_n dX9_blank_0 rfl 1 rfl rfl ?_
  refine rr_iload_n dX9_blank_1 rfl 2 rfl rfl ?_
  refine rr_iload_n dX9_blank_2 rfl 3 rfl rfl ?_
  refine rr_S [.int v1, .int v2, .int v3] [] dX9_blank_3 kX9_isBoard mX9_116 ⟨by decide, by decide⟩ rfl rfl (Nat.le_of_ble_eq_true rfl) rfl (h.mono fun vr I1 J1 h => ?_)
  obtain ⟨r1, rfl, h⟩ := h
  show rr pgM zX9_blank 6 _ [.int r1] _ _ _
  refine rr_if_ne (tgt := 11) dX9_blank_6 (by decide) rfl ⟨fun hc => ?_, fun hc => ?_⟩
  · have h := h.1 hc
    refine rr_aload_n dX9_blank_11 rfl 0 rfl rfl ?_
    refine rr_iload_n dX9_blank_12 rfl 1 rfl rfl ?_
    refine rr_iload_n dX9_blank_13 rfl 2 rfl rfl ?_
    refine rr_iload_n dX9_blank_14 rfl 3 rfl rfl ?_
    refine rr_V [.int v1, .int v2, .int v3] [] dX9_blank_15 kX9_layOut mX9_100 ⟨by decide, by decide⟩ (by decide) rfl rfl rfl (Nat.le_of_ble_eq_true rfl) rfl (h.mono fun vr I2 J2 h => ?_)
    obtain ⟨rfl, h⟩ := h
    show rr pgM zX9_blank 18 _ [] _ _ _
    refine rr_aload_n dX9_blank_18 rfl 0 rfl rfl ?_
    refine rr_V [] [] dX9_blank_19 kX9_hideAll mX9_120 ⟨by decide, by decide⟩ (by decide) rfl rfl rfl (Nat.le_of_ble_eq_true rfl) rfl (h.mono fun vr I3 J3 h => ?_)
    obtain ⟨rfl, h⟩ := h
    show rr pgM zX9_blank 22 _ [] _ _ _
    refine rr_iconst (v := (0 : Int32)) dX9_blank_22 (by decide) rfl ?_
    refine rr_istore (lv' := [(4, .int (0 : Int32)), (0, .ref 0), (1, .int v1), (2, .int v2), (3, .int v3)]) dX9_blank_23 (by decide) rfl rfl ?_
    exact rr.sub [1, 0] rfl h
  · have h := h.2 hc
    refine rr_iconst (v := (-1 : Int32)) dX9_blank_9 (by decide) rfl ?_
    exact rr_iret dX9_blank_10 rfl h
theorem s_X9_blank_25 {I : tg_I} {J : tg_J} {P : Option Value → tg_I → tg_J → Prop} (v4 : Int32) (h :
  ((100 : Int32) ≤ v4 →
   call pgM zX9_forget [.ref 0] I J (fun vr I1 J1 => vr = none ∧
    (P (some (.int (I1 0 3))) I1 J1))) ∧
  (¬ (100 : Int32) ≤ v4 →
   vp_in v4 100 ∧ ∀ I2, I2 = u2 I 2 (Int32.toNatClampNeg v4) (vp_nar .boolean (0 : Int32)) →
    l_X9_blank_25 I2 J P ((v4 + (1 : Int32))))) : l_X9_blank_25 I J P v4 := by
  show rr pgM zX9_blank 25 [(0, .ref 0), (4, .int v4)] [] I J P
  refine rr_iload dX9_blank_25 1 rfl rfl ?_
  refine rr_bipush (v := (100 : Int32)) dX9_blank_27 (by decide) rfl ?_
  refine rr_icmp_ge (tgt := 46) dX9_blank_29 (by decide) rfl ⟨fun hc => ?_, fun hc => ?_⟩
  · have h := h.1 hc
    refine rr_aload_n dX9_blank_46 rfl 0 rfl rfl ?_
    refine rr_V [] [] dX9_blank_47 kX9_forget mX9_123 ⟨by decide, by decide⟩ (by decide) rfl rfl rfl (Nat.le_of_ble_eq_true rfl) rfl (h.mono fun vr I1 J1 h => ?_)
    obtain ⟨rfl, h⟩ := h
    show rr pgM zX9_blank 50 _ [] _ _ _
    refine rr_aload_n dX9_blank_50 rfl 0 rfl rfl ?_
    refine rr_getI dX9_blank_51 fX9_16 (by decide) rfl rfl rfl ?_
    exact rr_iret dX9_blank_54 rfl h
  · have h := h.2 hc
    refine rr_aload_n dX9_blank_32 rfl 0 rfl rfl ?_
    refine rr_getR dX9_blank_33 fX9_23 (by decide) rfl rfl rfl ?_
    refine rr_iload dX9_blank_36 1 rfl rfl ?_
    refine rr_iconst (v := (0 : Int32)) dX9_blank_38 (by decide) rfl ?_
    refine rr_zast dX9_blank_39 (by decide) rfl rfl ⟨h.1, ?_⟩
    refine rr_letI (fun I2 hI2 => ?_)
    have h := h.2 I2 hI2
    refine rr_iinc (k := 1) (v := (v4 + (1 : Int32))) (lv' := [(4, .int (v4 + (1 : Int32))), (0, .ref 0)]) dX9_blank_40 rfl rfl (by decide) rfl rfl ?_
    refine rr_goto (tgt := 25) dX9_blank_43 (by decide) ?_
    exact rr.sub [1, 0] rfl h

def l_X9_mines_4 (I : tg_I) (J : tg_J) (P : Option Value → tg_I → tg_J → Prop) (v1 : Int32) (v2 : Int32) : Prop := rr pgM zX9_mines 4 [(0, .ref 0), (1, .int v1), (2, .int v2)] [] I J P
theorem e_X9_mines {I : tg_I} {J : tg_J} {P : Option Value → tg_I → tg_J → Prop} (h :
  l_X9_mines_4 I J P ((0 : Int32)) ((0 : Int32))) : call pgM zX9_mines [.ref 0] I J P := by
  refine call_of (by decide +kernel) (fun _ => Nat.le_of_ble_eq_true rfl) ?_
  show rr pgM zX9_mines 0 [(0, .ref 0)] [] I J P
  refine rr_iconst (v := (0 : Int32)) dX9_mines_0 (by decide) rfl ?_
  refine rr_istore_n (lv' := [(1, .int (0 : Int32)), (0, .ref 0)]) dX9_mines_1 rfl (by decide) rfl rfl ?_
  refine rr_iconst (v := (0 : Int32)) dX9_mines_2 (by decide) rfl ?_
  refine rr_istore_n (lv' := [(2, .int (0 : Int32)), (1, .int (0 : Int32)), (0, .ref 0)]) dX9_mines_3 rfl (by decide) rfl rfl ?_
  exact rr.sub [2, 1, 0] rfl h
theorem s_X9_mines_4 {I : tg_I} {J : tg_J} {P : Option Value → tg_I → tg_J → Prop} (v1 : Int32) (v2 : Int32) (h :
  ((I 0 3) ≤ v2 →
   P (some (.int v1)) I J) ∧
  (¬ (I 0 3) ≤ v2 →
   vp_in v2 100 ∧
    (((I 2 (Int32.toNatClampNeg v2)) = 0 →
     l_X9_mines_4 I J P ((v1 + (0 : Int32))) ((v2 + (1 : Int32)))) ∧
    (¬ (I 2 (Int32.toNatClampNeg v2)) = 0 →
     l_X9_mines_4 I J P ((v1 + (1 : Int32))) ((v2 + (1 : Int32))))))) : l_X9_mines_4 I J P v1 v2 := by
  show rr pgM zX9_mines 4 [(0, .ref 0), (1, .int v1), (2, .int v2)] [] I J P
  refine rr_iload_n dX9_mines_4 rfl 2 rfl rfl ?_
  refine rr_aload_n dX9_mines_5 rfl 0 rfl rfl ?_
  refine rr_getI dX9_mines_6 fX9_16 (by decide) rfl rfl rfl ?_
  refine rr_icmp_ge (tgt := 35) dX9_mines_9 (by decide) rfl ⟨fun hc => ?_, fun hc => ?_⟩
  · have h := h.1 hc
    refine rr_iload_n dX9_mines_35 rfl 1 rfl rfl ?_
    exact rr_iret dX9_mines_36 rfl h
  · have h := h.2 hc
    refine rr_iload_n dX9_mines_12 rfl 1 rfl rfl ?_
    refine rr_aload_n dX9_mines_13 rfl 0 rfl rfl ?_
    refine rr_getR dX9_mines_14 fX9_23 (by decide) rfl rfl rfl ?_
    refine rr_iload_n dX9_mines_17 rfl 2 rfl rfl ?_
    refine rr_zald dX9_mines_18 (by decide) rfl rfl ⟨h.1, ?_⟩
    have h := h.2
    refine rr_if_eq (tgt := 26) dX9_mines_19 (by decide) rfl ⟨fun hc => ?_, fun hc => ?_⟩
    · have h := h.1 hc
      refine rr_iconst (v := (0 : Int32)) dX9_mines_26 (by decide) rfl ?_
      refine rr_iadd dX9_mines_27 rfl ?_
      refine rr_istore_n (lv' := [(1, .int (v1 + (0 : Int32))), (0, .ref 0), (2, .int v2)]) dX9_mines_28 rfl (by decide) rfl rfl ?_
      refine rr_iinc (k := 2) (v := (v2 + (1 : Int32))) (lv' := [(2, .int (v2 + (1 : Int32))), (1, .int (v1 + (0 : Int32))), (0, .ref 0)]) dX9_mines_29 rfl rfl (by decide) rfl rfl ?_
      refine rr_goto (tgt := 4) dX9_mines_32 (by decide) ?_
      exact rr.sub [2, 1, 0] rfl h
    · have h := h.2 hc
      refine rr_iconst (v := (1 : Int32)) dX9_mines_22 (by decide) rfl ?_
      refine rr_goto (tgt := 27) dX9_mines_23 (by decide) ?_
      refine rr_iadd dX9_mines_27 rfl ?_
      refine rr_istore_n (lv' := [(1, .int (v1 + (1 : Int32))), (0, .ref 0), (2, .int v2)]) dX9_mines_28 rfl (by decide) rfl rfl ?_
      refine rr_iinc (k := 2) (v := (v2 + (1 : Int32))) (lv' := [(2, .int (v2 + (1 : Int32))), (1, .int (v1 + (1 : Int32))), (0, .ref 0)]) dX9_mines_29 rfl rfl (by decide) rfl rfl ?_
      refine rr_goto (tgt := 4) dX9_mines_32 (by decide) ?_
      exact rr.sub [2, 1, 0] rfl h

def l_X9_inState_4 (I : tg_I) (J : tg_J) (P : Option Value → tg_I → tg_J → Prop) (v1 : Int32) (v2 : Int32) (v3 : Int32) : Prop := rr pgM zX9_inState 4 [(0, .ref 0), (1, .int v1), (2, .int v2), (3, .int v3)] [] I J P
theorem e_X9_inState {I : tg_I} {J : tg_J} {P : Option Value → tg_I → tg_J → Prop} (v1 : Int32) (h :
  l_X9_inState_4 I J P v1 ((0 : Int32)) ((0 : Int32))) : call pgM zX9_inState [.ref 0, .int v1] I J P := by
  refine call_of (by decide +kernel) (fun _ => Nat.le_of_ble_eq_true rfl) ?_
  show rr pgM zX9_inState 0 [(0, .ref 0), (1, .int v1)] [] I J P
  refine rr_iconst (v := (0 : Int32)) dX9_inState_0 (by decide) rfl ?_
  refine rr_istore_n (lv' := [(2, .int (0 : Int32)), (0, .ref 0), (1, .int v1)]) dX9_inState_1 rfl (by decide) rfl rfl ?_
  refine rr_iconst (v := (0 : Int32)) dX9_inState_2 (by decide) rfl ?_
  refine rr_istore_n (lv' := [(3, .int (0 : Int32)), (2, .int (0 : Int32)), (0, .ref 0), (1, .int v1)]) dX9_inState_3 rfl (by decide) rfl rfl ?_
  exact rr.sub [2, 3, 1, 0] rfl h
theorem s_X9_inState_4 {I : tg_I} {J : tg_J} {P : Option Value → tg_I → tg_J → Prop} (v1 : Int32) (v2 : Int32) (v3 : Int32) (h :
  ((I 0 3) ≤ v3 →
   P (some (.int v2)) I J) ∧
  (¬ (I 0 3) ≤ v3 →
   vp_in v3 100 ∧
    ((¬ (I 3 (Int32.toNatClampNeg v3)) = v1 →
     l_X9_inState_4 I J P v1 ((v2 + (0 : Int32))) ((v3 + (1 : Int32)))) ∧
    ((I 3 (Int32.toNatClampNeg v3)) = v1 →
     l_X9_inState_4 I J P v1 ((v2 + (1 : Int32))) ((v3 + (1 : Int32))))))) : l_X9_inState_4 I J P v1 v2 v3 := by
  show rr pgM zX9_inState 4 [(0, .ref 0), (1, .int v1), (2, .int v2), (3, .int v3)] [] I J P
  refine rr_iload_n dX9_inState_4 rfl 3 rfl rfl ?_
  refine rr_aload_n dX9_inState_5 rfl 0 rfl rfl ?_
  refine rr_getI dX9_inState_6 fX9_16 (by decide) rfl rfl rfl ?_
  refine rr_icmp_ge (tgt := 36) dX9_inState_9 (by decide) rfl ⟨fun hc => ?_, fun hc => ?_⟩
  · have h := h.1 hc
    refine rr_iload_n dX9_inState_36 rfl 2 rfl rfl ?_
    exact rr_iret dX9_inState_37 rfl h
  · have h := h.2 hc
    refine rr_iload_n dX9_inState_12 rfl 2 rfl rfl ?_
    refine rr_aload_n dX9_inState_13 rfl 0 rfl rfl ?_
    refine rr_getR dX9_inState_14 fX9_26 (by decide) rfl rfl rfl ?_
    refine rr_iload_n dX9_inState_17 rfl 3 rfl rfl ?_
    refine rr_iald dX9_inState_18 (by decide) rfl rfl ⟨h.1, ?_⟩
    have h := h.2
    refine rr_iload_n dX9_inState_19 rfl 1 rfl rfl ?_
    refine rr_icmp_ne (tgt := 27) dX9_inState_20 (by decide) rfl ⟨fun hc => ?_, fun hc => ?_⟩
    · have h := h.1 hc
      refine rr_iconst (v := (0 : Int32)) dX9_inState_27 (by decide) rfl ?_
      refine rr_iadd dX9_inState_28 rfl ?_
      refine rr_istore_n (lv' := [(2, .int (v2 + (0 : Int32))), (0, .ref 0), (1, .int v1), (3, .int v3)]) dX9_inState_29 rfl (by decide) rfl rfl ?_
      refine rr_iinc (k := 3) (v := (v3 + (1 : Int32))) (lv' := [(3, .int (v3 + (1 : Int32))), (2, .int (v2 + (0 : Int32))), (0, .ref 0), (1, .int v1)]) dX9_inState_30 rfl rfl (by decide) rfl rfl ?_
      refine rr_goto (tgt := 4) dX9_inState_33 (by decide) ?_
      exact rr.sub [2, 3, 1, 0] rfl h
    · have h := h.2 hc
      refine rr_iconst (v := (1 : Int32)) dX9_inState_23 (by decide) rfl ?_
      refine rr_goto (tgt := 28) dX9_inState_24 (by decide) ?_
      refine rr_iadd dX9_inState_28 rfl ?_
      refine rr_istore_n (lv' := [(2, .int (v2 + (1 : Int32))), (0, .ref 0), (1, .int v1), (3, .int v3)]) dX9_inState_29 rfl (by decide) rfl rfl ?_
      refine rr_iinc (k := 3) (v := (v3 + (1 : Int32))) (lv' := [(3, .int (v3 + (1 : Int32))), (2, .int (v2 + (1 : Int32))), (0, .ref 0), (1, .int v1)]) dX9_inState_30 rfl rfl (by decide) rfl rfl ?_
      refine rr_goto (tgt := 4) dX9_inState_33 (by decide) ?_
      exact rr.sub [2, 3, 1, 0] rfl h

theorem e_X9_edit {I : tg_I} {J : tg_J} {P : Option Value → tg_I → tg_J → Prop} (v1 : Int32) (v2 : Int32) (h :
  call pgM zX9_isCell [.ref 0, .int v1] I J (fun vr I1 J1 => ∃ r1 : Int32, vr = some (.int r1) ∧
  ((¬ r1 = 0 →
   call pgM zX9_inState [.ref 0, .int (0 : Int32)] I1 J1 (fun vr I2 J2 => ∃ r2 : Int32, vr = some (.int r2) ∧
    ((r2 < (I2 0 3) →
     P (some (.int (-2 : Int32))) I2 J2) ∧
    (¬ r2 < (I2 0 3) →
     vp_in v1 100 ∧
      ((¬ (I2 2 (Int32.toNatClampNeg v1)) = v2 →
       vp_in v1 100 ∧ ∀ I3, I3 = u2 I2 2 (Int32.toNatClampNeg v1) (vp_nar .boolean v2) →
        call pgM zX9_mines [.ref 0] I3 J2 (fun vr I4 J3 => ∃ r3 : Int32, vr = some (.int r3) ∧
        (P (some (.int r3)) I4 J3))) ∧
      ((I2 2 (Int32.toNatClampNeg v1)) = v2 →
       P (some (.int (-2 : Int32))) I2 J2)))))) ∧
  (r1 = 0 →
   P (some (.int (-1 : Int32))) I1 J1)))) : call pgM zX9_edit [.ref 0, .int v1, .int v2] I J P := by
  refine call_of (by decide +kernel) (fun _ => Nat.le_of_ble_eq_true rfl) ?_
  show rr pgM zX9_edit 0 [(0, .ref 0), (1, .int v1), (2, .int v2)] [] I J P
  refine rr_aload_n dX9_edit_0 rfl 0 rfl rfl ?_
  refine rr_iload_n dX9_edit_1 rfl 1 rfl rfl ?_
  refine rr_V [.int v1] [] dX9_edit_2 kX9_isCell mX9_126 ⟨by decide, by decide⟩ (by decide) rfl rfl rfl (Nat.le_of_ble_eq_true rfl) rfl (h.mono fun vr I1 J1 h => ?_)
  obtain ⟨r1, rfl, h⟩ := h
  show rr pgM zX9_edit 5 _ [.int r1] _ _ _
  refine rr_if_ne (tgt := 10) dX9_edit_5 (by decide) rfl ⟨fun hc => ?_, fun hc => ?_⟩
  · have h := h.1 hc
    refine rr_aload_n dX9_edit_10 rfl 0 rfl rfl ?_
    refine rr_iconst (v := (0 : Int32)) dX9_edit_11 (by decide) rfl ?_
    refine rr_V [.int (0 : Int32)] [] dX9_edit_12 kX9_inState mX9_130 ⟨by decide, by decide⟩ (by decide) rfl rfl rfl (Nat.le_of_ble_eq_true rfl) rfl (h.mono fun vr I2 J2 h => ?_)
    obtain ⟨r2, rfl, h⟩ := h
    show rr pgM zX9_edit 15 _ [.int r2] _ _ _
    refine rr_aload_n dX9_edit_15 rfl 0 rfl rfl ?_
    refine rr_getI dX9_edit_16 fX9_16 (by decide) rfl rfl rfl ?_
    refine rr_icmp_lt (tgt := 32) dX9_edit_19 (by decide) rfl ⟨fun hc => ?_, fun hc => ?_⟩
    · have h := h.1 hc
      refine rr_bipush (v := (-2 : Int32)) dX9_edit_32 (by decide) rfl ?_
      exact rr_iret dX9_edit_34 rfl h
    · have h := h.2 hc
      refine rr_aload_n dX9_edit_22 rfl 0 rfl rfl ?_
      refine rr_getR dX9_edit_23 fX9_23 (by decide) rfl rfl rfl ?_
      refine rr_iload_n dX9_edit_26 rfl 1 rfl rfl ?_
      refine rr_zald dX9_edit_27 (by decide) rfl rfl ⟨h.1, ?_⟩
      have h := h.2
      refine rr_iload_n dX9_edit_28 rfl 2 rfl rfl ?_
      refine rr_icmp_ne (tgt := 35) dX9_edit_29 (by decide) rfl ⟨fun hc => ?_, fun hc => ?_⟩
      · have h := h.1 hc
        refine rr_aload_n dX9_edit_35 rfl 0 rfl rfl ?_
        refine rr_getR dX9_edit_36 fX9_23 (by decide) rfl rfl rfl ?_
        refine rr_iload_n dX9_edit_39 rfl 1 rfl rfl ?_
        refine rr_iload_n dX9_edit_40 rfl 2 rfl rfl ?_
        refine rr_zast dX9_edit_41 (by decide) rfl rfl ⟨h.1, ?_⟩
        refine rr_letI (fun I3 hI3 => ?_)
        have h := h.2 I3 hI3
        refine rr_aload_n dX9_edit_42 rfl 0 rfl rfl ?_
        refine rr_V [] [] dX9_edit_43 kX9_mines mX9_134 ⟨by decide, by decide⟩ (by decide) rfl rfl rfl (Nat.le_of_ble_eq_true rfl) rfl (h.mono fun vr I4 J3 h => ?_)
        obtain ⟨r3, rfl, h⟩ := h
        show rr pgM zX9_edit 46 _ [.int r3] _ _ _
        exact rr_iret dX9_edit_46 rfl h
      · have h := h.2 hc
        refine rr_bipush (v := (-2 : Int32)) dX9_edit_32 (by decide) rfl ?_
        exact rr_iret dX9_edit_34 rfl h
  · have h := h.2 hc
    refine rr_iconst (v := (-1 : Int32)) dX9_edit_8 (by decide) rfl ?_
    exact rr_iret dX9_edit_9 rfl h

def l_X9_numberOf_4 (I : tg_I) (J : tg_J) (P : Option Value → tg_I → tg_J → Prop) (v1 : Int32) (v2 : Int32) (v3 : Int32) : Prop := rr pgM zX9_numberOf 4 [(0, .ref 0), (1, .int v1), (2, .int v2), (3, .int v3)] [] I J P
theorem e_X9_numberOf {I : tg_I} {J : tg_J} {P : Option Value → tg_I → tg_J → Prop} (v1 : Int32) (h :
  l_X9_numberOf_4 I J P v1 ((0 : Int32)) ((0 : Int32))) : call pgM zX9_numberOf [.ref 0, .int v1] I J P := by
  refine call_of (by decide +kernel) (fun _ => Nat.le_of_ble_eq_true rfl) ?_
  show rr pgM zX9_numberOf 0 [(0, .ref 0), (1, .int v1)] [] I J P
  refine rr_iconst (v := (0 : Int32)) dX9_numberOf_0 (by decide) rfl ?_
  refine rr_istore_n (lv' := [(2, .int (0 : Int32)), (0, .ref 0), (1, .int v1)]) dX9_numberOf_1 rfl (by decide) rfl rfl ?_
  refine rr_iconst (v := (0 : Int32)) dX9_numberOf_2 (by decide) rfl ?_
  refine rr_istore_n (lv' := [(3, .int (0 : Int32)), (2, .int (0 : Int32)), (0, .ref 0), (1, .int v1)]) dX9_numberOf_3 rfl (by decide) rfl rfl ?_
  exact rr.sub [2, 3, 1, 0] rfl h
theorem s_X9_numberOf_4 {I : tg_I} {J : tg_J} {P : Option Value → tg_I → tg_J → Prop} (v1 : Int32) (v2 : Int32) (v3 : Int32) (h :
  ((I 0 3) ≤ v3 →
   P (some (.int v2)) I J) ∧
  (¬ (I 0 3) ≤ v3 →
   call pgM zX9_isNear [.ref 0, .int v1, .int v3] I J (fun vr I1 J1 => ∃ r1 : Int32, vr = some (.int r1) ∧
    ((r1 = 0 →
     l_X9_numberOf_4 I1 J1 P v1 ((v2 + (0 : Int32))) ((v3 + (1 : Int32)))) ∧
    (¬ r1 = 0 →
     vp_in v3 100 ∧
      (((I1 2 (Int32.toNatClampNeg v3)) = 0 →
       l_X9_numberOf_4 I1 J1 P v1 ((v2 + (0 : Int32))) ((v3 + (1 : Int32)))) ∧
      (¬ (I1 2 (Int32.toNatClampNeg v3)) = 0 →
       l_X9_numberOf_4 I1 J1 P v1 ((v2 + (1 : Int32))) ((v3 + (1 : Int32)))))))))) : l_X9_numberOf_4 I J P v1 v2 v3 := by
  show rr pgM zX9_numberOf 4 [(0, .ref 0), (1, .int v1), (2, .int v2), (3, .int v3)] [] I J P
  refine rr_iload_n dX9_numberOf_4 rfl 3 rfl rfl ?_
  refine rr_aload_n dX9_numberOf_5 rfl 0 rfl rfl ?_
  refine rr_getI dX9_numberOf_6 fX9_16 (by decide) rfl rfl rfl ?_
  refine rr_icmp_ge (tgt := 44) dX9_numberOf_9 (by decide) rfl ⟨fun hc => ?_, fun hc => ?_⟩
  · have h := h.1 hc
    refine rr_iload_n dX9_numberOf_44 rfl 2 rfl rfl ?_
    exact rr_iret dX9_numberOf_45 rfl h
  · have h := h.2 hc
    refine rr_iload_n dX9_numberOf_12 rfl 2 rfl rfl ?_
    refine rr_aload_n dX9_numberOf_13 rfl 0 rfl rfl ?_
    refine rr_iload_n dX9_numberOf_14 rfl 1 rfl rfl ?_
    refine rr_iload_n dX9_numberOf_15 rfl 3 rfl rfl ?_
    refine rr_V [.int v1, .int v3] [.int v2] dX9_numberOf_16 kX9_isNear mX9_138 ⟨by decide, by decide⟩ (by decide) rfl rfl rfl (Nat.le_of_ble_eq_true rfl) rfl (h.mono fun vr I1 J1 h => ?_)
    obtain ⟨r1, rfl, h⟩ := h
    show rr pgM zX9_numberOf 19 _ [.int r1, .int v2] _ _ _
    refine rr_if_eq (tgt := 35) dX9_numberOf_19 (by decide) rfl ⟨fun hc => ?_, fun hc => ?_⟩
    · have h := h.1 hc
      refine rr_iconst (v := (0 : Int32)) dX9_numberOf_35 (by decide) rfl ?_
      refine rr_iadd dX9_numberOf_36 rfl ?_
      refine rr_istore_n (lv' := [(2, .int (v2 + (0 : Int32))), (0, .ref 0), (1, .int v1), (3, .int v3)]) dX9_numberOf_37 rfl (by decide) rfl rfl ?_
      refine rr_iinc (k := 3) (v := (v3 + (1 : Int32))) (lv' := [(3, .int (v3 + (1 : Int32))), (2, .int (v2 + (0 : Int32))), (0, .ref 0), (1, .int v1)]) dX9_numberOf_38 rfl rfl (by decide) rfl rfl ?_
      refine rr_goto (tgt := 4) dX9_numberOf_41 (by decide) ?_
      exact rr.sub [2, 3, 1, 0] rfl h
    · have h := h.2 hc
      refine rr_aload_n dX9_numberOf_22 rfl 0 rfl rfl ?_
      refine rr_getR dX9_numberOf_23 fX9_23 (by decide) rfl rfl rfl ?_
      refine rr_iload_n dX9_numberOf_26 rfl 3 rfl rfl ?_
      refine rr_zald dX9_numberOf_27 (by decide) rfl rfl ⟨h.1, ?_⟩
      have h := h.2
      refine rr_if_eq (tgt := 35) dX9_numberOf_28 (by decide) rfl ⟨fun hc => ?_, fun hc => ?_⟩
      · have h := h.1 hc
        refine rr_iconst (v := (0 : Int32)) dX9_numberOf_35 (by decide) rfl ?_
        refine rr_iadd dX9_numberOf_36 rfl ?_
        refine rr_istore_n (lv' := [(2, .int (v2 + (0 : Int32))), (0, .ref 0), (1, .int v1), (3, .int v3)]) dX9_numberOf_37 rfl (by decide) rfl rfl ?_
        refine rr_iinc (k := 3) (v := (v3 + (1 : Int32))) (lv' := [(3, .int (v3 + (1 : Int32))), (2, .int (v2 + (0 : Int32))), (0, .ref 0), (1, .int v1)]) dX9_numberOf_38 rfl rfl (by decide) rfl rfl ?_
        refine rr_goto (tgt := 4) dX9_numberOf_41 (by decide) ?_
        exact rr.sub [2, 3, 1, 0] rfl h
      · have h := h.2 hc
        refine rr_iconst (v := (1 : Int32)) dX9_numberOf_31 (by decide) rfl ?_
        refine rr_goto (tgt := 36) dX9_numberOf_32 (by decide) ?_
        refine rr_iadd dX9_numberOf_36 rfl ?_
        refine rr_istore_n (lv' := [(2, .int (v2 + (1 : Int32))), (0, .ref 0), (1, .int v1), (3, .int v3)]) dX9_numberOf_37 rfl (by decide) rfl rfl ?_
        refine rr_iinc (k := 3) (v := (v3 + (1 : Int32))) (lv' := [(3, .int (v3 + (1 : Int32))), (2, .int (v2 + (1 : Int32))), (0, .ref 0), (1, .int v1)]) dX9_numberOf_38 rfl rfl (by decide) rfl rfl ?_
        refine rr_goto (tgt := 4) dX9_numberOf_41 (by decide) ?_
        exact rr.sub [2, 3, 1, 0] rfl h

def l_X9_nearState_5 (I : tg_I) (J : tg_J) (P : Option Value → tg_I → tg_J → Prop) (v1 : Int32) (v2 : Int32) (v3 : Int32) (v4 : Int32) : Prop := rr pgM zX9_nearState 5 [(0, .ref 0), (1, .int v1), (2, .int v2), (3, .int v3), (4, .int v4)] [] I J P
theorem e_X9_nearState {I : tg_I} {J : tg_J} {P : Option Value → tg_I → tg_J → Prop} (v1 : Int32) (v2 : Int32) (h :
  l_X9_nearState_5 I J P v1 v2 ((0 : Int32)) ((0 : Int32))) : call pgM zX9_nearState [.ref 0, .int v1, .int v2] I J P := by
  refine call_of (by decide +kernel) (fun _ => Nat.le_of_ble_eq_true rfl) ?_
  show rr pgM zX9_nearState 0 [(0, .ref 0), (1, .int v1), (2, .int v2)] [] I J P
  refine rr_iconst (v := (0 : Int32)) dX9_nearState_0 (by decide) rfl ?_
  refine rr_istore_n (lv' := [(3, .int (0 : Int32)), (0, .ref 0), (1, .int v1), (2, .int v2)]) dX9_nearState_1 rfl (by decide) rfl rfl ?_
  refine rr_iconst (v := (0 : Int32)) dX9_nearState_2 (by decide) rfl ?_
  refine rr_istore (lv' := [(4, .int (0 : Int32)), (3, .int (0 : Int32)), (0, .ref 0), (1, .int v1), (2, .int v2)]) dX9_nearState_3 (by decide) rfl rfl ?_
  exact rr.sub [2, 3, 4, 1, 0] rfl h
theorem s_X9_nearState_5 {I : tg_I} {J : tg_J} {P : Option Value → tg_I → tg_J → Prop} (v1 : Int32) (v2 : Int32) (v3 : Int32) (v4 : Int32) (h :
  ((I 0 3) ≤ v4 →
   P (some (.int v3)) I J) ∧
  (¬ (I 0 3) ≤ v4 →
   call pgM zX9_isNear [.ref 0, .int v1, .int v4] I J (fun vr I1 J1 => ∃ r1 : Int32, vr = some (.int r1) ∧
    ((r1 = 0 →
     l_X9_nearState_5 I1 J1 P v1 v2 ((v3 + (0 : Int32))) ((v4 + (1 : Int32)))) ∧
    (¬ r1 = 0 →
     vp_in v4 100 ∧
      ((¬ (I1 3 (Int32.toNatClampNeg v4)) = v2 →
       l_X9_nearState_5 I1 J1 P v1 v2 ((v3 + (0 : Int32))) ((v4 + (1 : Int32)))) ∧
      ((I1 3 (Int32.toNatClampNeg v4)) = v2 →
       l_X9_nearState_5 I1 J1 P v1 v2 ((v3 + (1 : Int32))) ((v4 + (1 : Int32)))))))))) : l_X9_nearState_5 I J P v1 v2 v3 v4 := by
  show rr pgM zX9_nearState 5 [(0, .ref 0), (1, .int v1), (2, .int v2), (3, .int v3), (4, .int v4)] [] I J P
  refine rr_iload dX9_nearState_5 4 rfl rfl ?_
  refine rr_aload_n dX9_nearState_7 rfl 0 rfl rfl ?_
  refine rr_getI dX9_nearState_8 fX9_16 (by decide) rfl rfl rfl ?_
  refine rr_icmp_ge (tgt := 49) dX9_nearState_11 (by decide) rfl ⟨fun hc => ?_, fun hc => ?_⟩
  · have h := h.1 hc
    refine rr_iload_n dX9_nearState_49 rfl 3 rfl rfl ?_
    exact rr_iret dX9_nearState_50 rfl h
  · have h := h.2 hc
    refine rr_iload_n dX9_nearState_14 rfl 3 rfl rfl ?_
    refine rr_aload_n dX9_nearState_15 rfl 0 rfl rfl ?_
    refine rr_iload_n dX9_nearState_16 rfl 1 rfl rfl ?_
    refine rr_iload dX9_nearState_17 4 rfl rfl ?_
    refine rr_V [.int v1, .int v4] [.int v3] dX9_nearState_19 kX9_isNear mX9_138 ⟨by decide, by decide⟩ (by decide) rfl rfl rfl (Nat.le_of_ble_eq_true rfl) rfl (h.mono fun vr I1 J1 h => ?_)
    obtain ⟨r1, rfl, h⟩ := h
    show rr pgM zX9_nearState 22 _ [.int r1, .int v3] _ _ _
    refine rr_if_eq (tgt := 40) dX9_nearState_22 (by decide) rfl ⟨fun hc => ?_, fun hc => ?_⟩
    · have h := h.1 hc
      refine rr_iconst (v := (0 : Int32)) dX9_nearState_40 (by decide) rfl ?_
      refine rr_iadd dX9_nearState_41 rfl ?_
      refine rr_istore_n (lv' := [(3, .int (v3 + (0 : Int32))), (0, .ref 0), (1, .int v1), (2, .int v2), (4, .int v4)]) dX9_nearState_42 rfl (by decide) rfl rfl ?_
      refine rr_iinc (k := 4) (v := (v4 + (1 : Int32))) (lv' := [(4, .int (v4 + (1 : Int32))), (3, .int (v3 + (0 : Int32))), (0, .ref 0), (1, .int v1), (2, .int v2)]) dX9_nearState_43 rfl rfl (by decide) rfl rfl ?_
      refine rr_goto (tgt := 5) dX9_nearState_46 (by decide) ?_
      exact rr.sub [2, 3, 4, 1, 0] rfl h
    · have h := h.2 hc
      refine rr_aload_n dX9_nearState_25 rfl 0 rfl rfl ?_
      refine rr_getR dX9_nearState_26 fX9_26 (by decide) rfl rfl rfl ?_
      refine rr_iload dX9_nearState_29 4 rfl rfl ?_
      refine rr_iald dX9_nearState_31 (by decide) rfl rfl ⟨h.1, ?_⟩
      have h := h.2
      refine rr_iload_n dX9_nearState_32 rfl 2 rfl rfl ?_
      refine rr_icmp_ne (tgt := 40) dX9_nearState_33 (by decide) rfl ⟨fun hc => ?_, fun hc => ?_⟩
      · have h := h.1 hc
        refine rr_iconst (v := (0 : Int32)) dX9_nearState_40 (by decide) rfl ?_
        refine rr_iadd dX9_nearState_41 rfl ?_
        refine rr_istore_n (lv' := [(3, .int (v3 + (0 : Int32))), (0, .ref 0), (1, .int v1), (2, .int v2), (4, .int v4)]) dX9_nearState_42 rfl (by decide) rfl rfl ?_
        refine rr_iinc (k := 4) (v := (v4 + (1 : Int32))) (lv' := [(4, .int (v4 + (1 : Int32))), (3, .int (v3 + (0 : Int32))), (0, .ref 0), (1, .int v1), (2, .int v2)]) dX9_nearState_43 rfl rfl (by decide) rfl rfl ?_
        refine rr_goto (tgt := 5) dX9_nearState_46 (by decide) ?_
        exact rr.sub [2, 3, 4, 1, 0] rfl h
      · have h := h.2 hc
        refine rr_iconst (v := (1 : Int32)) dX9_nearState_36 (by decide) rfl ?_
        refine rr_goto (tgt := 41) dX9_nearState_37 (by decide) ?_
        refine rr_iadd dX9_nearState_41 rfl ?_
        refine rr_istore_n (lv' := [(3, .int (v3 + (1 : Int32))), (0, .ref 0), (1, .int v1), (2, .int v2), (4, .int v4)]) dX9_nearState_42 rfl (by decide) rfl rfl ?_
        refine rr_iinc (k := 4) (v := (v4 + (1 : Int32))) (lv' := [(4, .int (v4 + (1 : Int32))), (3, .int (v3 + (1 : Int32))), (0, .ref 0), (1, .int v1), (2, .int v2)]) dX9_nearState_43 rfl rfl (by decide) rfl rfl ?_
        refine rr_goto (tgt := 5) dX9_nearState_46 (by decide) ?_
        exact rr.sub [2, 3, 4, 1, 0] rfl h

def l_X9_isSolved_4 (I : tg_I) (J : tg_J) (P : Option Value → tg_I → tg_J → Prop) (v1 : Int32) (v2 : Int32) : Prop := rr pgM zX9_isSolved 4 [(0, .ref 0), (1, .int v1), (2, .int v2)] [] I J P
theorem e_X9_isSolved {I : tg_I} {J : tg_J} {P : Option Value → tg_I → tg_J → Prop} (h :
  l_X9_isSolved_4 I J P ((1 : Int32)) ((0 : Int32))) : call pgM zX9_isSolved [.ref 0] I J P := by
  refine call_of (by decide +kernel) (fun _ => Nat.le_of_ble_eq_true rfl) ?_
  show rr pgM zX9_isSolved 0 [(0, .ref 0)] [] I J P
  refine rr_iconst (v := (1 : Int32)) dX9_isSolved_0 (by decide) rfl ?_
  refine rr_istore_n (lv' := [(1, .int (1 : Int32)), (0, .ref 0)]) dX9_isSolved_1 rfl (by decide) rfl rfl ?_
  refine rr_iconst (v := (0 : Int32)) dX9_isSolved_2 (by decide) rfl ?_
  refine rr_istore_n (lv' := [(2, .int (0 : Int32)), (1, .int (1 : Int32)), (0, .ref 0)]) dX9_isSolved_3 rfl (by decide) rfl rfl ?_
  exact rr.sub [2, 1, 0] rfl h
theorem s_X9_isSolved_4 {I : tg_I} {J : tg_J} {P : Option Value → tg_I → tg_J → Prop} (v1 : Int32) (v2 : Int32) (h :
  ((I 0 3) ≤ v2 →
   narrow .boolean (.int v1) = .int v1 ∧ P (some (.int v1)) I J) ∧
  (¬ (I 0 3) ≤ v2 →
   (v1 = 0 →
     l_X9_isSolved_4 I J P ((0 : Int32)) ((v2 + (1 : Int32)))) ∧
    (¬ v1 = 0 →
     vp_in v2 100 ∧
      ((¬ (I 2 (Int32.toNatClampNeg v2)) = 0 →
       l_X9_isSolved_4 I J P ((1 : Int32)) ((v2 + (1 : Int32)))) ∧
      ((I 2 (Int32.toNatClampNeg v2)) = 0 →
       vp_in v2 100 ∧
        (((I 3 (Int32.toNatClampNeg v2)) = 0 →
         l_X9_isSolved_4 I J P ((0 : Int32)) ((v2 + (1 : Int32)))) ∧
        (¬ (I 3 (Int32.toNatClampNeg v2)) = 0 →
         l_X9_isSolved_4 I J P ((1 : Int32)) ((v2 + (1 : Int32)))))))))) : l_X9_isSolved_4 I J P v1 v2 := by
  show rr pgM zX9_isSolved 4 [(0, .ref 0), (1, .int v1), (2, .int v2)] [] I J P
  refine rr_iload_n dX9_isSolved_4 rfl 2 rfl rfl ?_
  refine rr_aload_n dX9_isSolved_5 rfl 0 rfl rfl ?_
  refine rr_getI dX9_isSolved_6 fX9_16 (by decide) rfl rfl rfl ?_
  refine rr_icmp_ge (tgt := 46) dX9_isSolved_9 (by decide) rfl ⟨fun hc => ?_, fun hc => ?_⟩
  · have h := h.1 hc
    refine rr_iload_n dX9_isSolved_46 rfl 1 rfl rfl ?_
    exact rr_zret dX9_isSolved_47 rfl h.1 h.2
  · have h := h.2 hc
    refine rr_iload_n dX9_isSolved_12 rfl 1 rfl rfl ?_
    refine rr_if_eq (tgt := 38) dX9_isSolved_13 (by decide) rfl ⟨fun hc => ?_, fun hc => ?_⟩
    · have h := h.1 hc
      refine rr_iconst (v := (0 : Int32)) dX9_isSolved_38 (by decide) rfl ?_
      refine rr_istore_n (lv' := [(1, .int (0 : Int32)), (0, .ref 0), (2, .int v2)]) dX9_isSolved_39 rfl (by decide) rfl rfl ?_
      refine rr_iinc (k := 2) (v := (v2 + (1 : Int32))) (lv' := [(2, .int (v2 + (1 : Int32))), (1, .int (0 : Int32)), (0, .ref 0)]) dX9_isSolved_40 rfl rfl (by decide) rfl rfl ?_
      refine rr_goto (tgt := 4) dX9_isSolved_43 (by decide) ?_
      exact rr.sub [2, 1, 0] rfl h
    · have h := h.2 hc
      refine rr_aload_n dX9_isSolved_16 rfl 0 rfl rfl ?_
      refine rr_getR dX9_isSolved_17 fX9_23 (by decide) rfl rfl rfl ?_
      refine rr_iload_n dX9_isSolved_20 rfl 2 rfl rfl ?_
      refine rr_zald dX9_isSolved_21 (by decide) rfl rfl ⟨h.1, ?_⟩
      have h := h.2
      refine rr_if_ne (tgt := 34) dX9_isSolved_22 (by decide) rfl ⟨fun hc => ?_, fun hc => ?_⟩
      · have h := h.1 hc
        refine rr_iconst (v := (1 : Int32)) dX9_isSolved_34 (by decide) rfl ?_
        refine rr_goto (tgt := 39) dX9_isSolved_35 (by decide) ?_
        refine rr_istore_n (lv' := [(1, .int (1 : Int32)), (0, .ref 0), (2, .int v2)]) dX9_isSolved_39 rfl (by decide) rfl rfl ?_
        refine rr_iinc (k := 2) (v := (v2 + (1 : Int32))) (lv' := [(2, .int (v2 + (1 : Int32))), (1, .int (1 : Int32)), (0, .ref 0)]) dX9_isSolved_40 rfl rfl (by decide) rfl rfl ?_
        refine rr_goto (tgt := 4) dX9_isSolved_43 (by decide) ?_
        exact rr.sub [2, 1, 0] rfl h
      · have h := h.2 hc
        refine rr_aload_n dX9_isSolved_25 rfl 0 rfl rfl ?_
        refine rr_getR dX9_isSolved_26 fX9_26 (by decide) rfl rfl rfl ?_
        refine rr_iload_n dX9_isSolved_29 rfl 2 rfl rfl ?_
        refine rr_iald dX9_isSolved_30 (by decide) rfl rfl ⟨h.1, ?_⟩
        have h := h.2
        refine rr_if_eq (tgt := 38) dX9_isSolved_31 (by decide) rfl ⟨fun hc => ?_, fun hc => ?_⟩
        · have h := h.1 hc
          refine rr_iconst (v := (0 : Int32)) dX9_isSolved_38 (by decide) rfl ?_
          refine rr_istore_n (lv' := [(1, .int (0 : Int32)), (0, .ref 0), (2, .int v2)]) dX9_isSolved_39 rfl (by decide) rfl rfl ?_
          refine rr_iinc (k := 2) (v := (v2 + (1 : Int32))) (lv' := [(2, .int (v2 + (1 : Int32))), (1, .int (0 : Int32)), (0, .ref 0)]) dX9_isSolved_40 rfl rfl (by decide) rfl rfl ?_
          refine rr_goto (tgt := 4) dX9_isSolved_43 (by decide) ?_
          exact rr.sub [2, 1, 0] rfl h
        · have h := h.2 hc
          refine rr_iconst (v := (1 : Int32)) dX9_isSolved_34 (by decide) rfl ?_
          refine rr_goto (tgt := 39) dX9_isSolved_35 (by decide) ?_
          refine rr_istore_n (lv' := [(1, .int (1 : Int32)), (0, .ref 0), (2, .int v2)]) dX9_isSolved_39 rfl (by decide) rfl rfl ?_
          refine rr_iinc (k := 2) (v := (v2 + (1 : Int32))) (lv' := [(2, .int (v2 + (1 : Int32))), (1, .int (1 : Int32)), (0, .ref 0)]) dX9_isSolved_40 rfl rfl (by decide) rfl rfl ?_
          refine rr_goto (tgt := 4) dX9_isSolved_43 (by decide) ?_
          exact rr.sub [2, 1, 0] rfl h

def l_X9_uncover_42 (I : tg_I) (J : tg_J) (P : Option Value → tg_I → tg_J → Prop) (v2 : Int32) (v3 : Int32) : Prop := rr pgM zX9_uncover 42 [(0, .ref 0), (2, .int v2), (3, .int v3)] [] I J P
def l_X9_uncover_63 (I : tg_I) (J : tg_J) (P : Option Value → tg_I → tg_J → Prop) (v2 : Int32) (v3 : Int32) (v4 : Int32) : Prop := rr pgM zX9_uncover 63 [(0, .ref 0), (2, .int v2), (3, .int v3), (4, .int v4)] [] I J P
theorem e_X9_uncover {I : tg_I} {J : tg_J} {P : Option Value → tg_I → tg_J → Prop} (v1 : Int32) (h :
  vp_in v1 100 ∧
  (((I 2 (Int32.toNatClampNeg v1)) = 0 →
   vp_in (0 : Int32) 100 ∧ ∀ I1, I1 = u2 I 23 (Int32.toNatClampNeg (0 : Int32)) v1 →
    vp_in v1 100 ∧ ∀ I2, I2 = u2 I1 3 (Int32.toNatClampNeg v1) (1 : Int32) →
    vp_in v1 100 ∧ ∀ I3, I3 = u2 I2 4 (Int32.toNatClampNeg v1) (vp_nar .boolean (0 : Int32)) →
    l_X9_uncover_42 I3 J P ((1 : Int32)) ((0 : Int32))) ∧
  (¬ (I 2 (Int32.toNatClampNeg v1)) = 0 →
   vp_in v1 100 ∧ ∀ I4, I4 = u2 I 3 (Int32.toNatClampNeg v1) (2 : Int32) →
    P none I4 J))) : call pgM zX9_uncover [.ref 0, .int v1] I J P := by
  refine call_of (by decide +kernel) (fun _ => Nat.le_of_ble_eq_true rfl) ?_
  show rr pgM zX9_uncover 0 [(0, .ref 0), (1, .int v1)] [] I J P
  refine rr_aload_n dX9_uncover_0 rfl 0 rfl rfl ?_
  refine rr_getR dX9_uncover_1 fX9_23 (by decide) rfl rfl rfl ?_
  refine rr_iload_n dX9_uncover_4 rfl 1 rfl rfl ?_
  refine rr_zald dX9_uncover_5 (by decide) rfl rfl ⟨h.1, ?_⟩
  have h := h.2
  refine rr_if_eq (tgt := 17) dX9_uncover_6 (by decide) rfl ⟨fun hc => ?_, fun hc => ?_⟩
  · have h := h.1 hc
    refine rr_iconst (v := (1 : Int32)) dX9_uncover_17 (by decide) rfl ?_
    refine rr_istore_n (lv' := [(2, .int (1 : Int32)), (0, .ref 0), (1, .int v1)]) dX9_uncover_18 rfl (by decide) rfl rfl ?_
    refine rr_aload_n dX9_uncover_19 rfl 1 rfl rfl ?_
    refine rr_getR dX9_uncover_20 fX9_91 (by decide) rfl rfl rfl ?_
    refine rr_iconst (v := (0 : Int32)) dX9_uncover_23 (by decide) rfl ?_
    refine rr_iload_n dX9_uncover_24 rfl 2 rfl rfl ?_
    refine rr_iast dX9_uncover_25 (by decide) rfl rfl ⟨h.1, ?_⟩
    refine rr_letI (fun I1 hI1 => ?_)
    have h := h.2 I1 hI1
    refine rr_aload_n dX9_uncover_26 rfl 1 rfl rfl ?_
    refine rr_getR dX9_uncover_27 fX9_26 (by decide) rfl rfl rfl ?_
    refine rr_iload_n dX9_uncover_30 rfl 2 rfl rfl ?_
    refine rr_iconst (v := (1 : Int32)) dX9_uncover_31 (by decide) rfl ?_
    refine rr_iast dX9_uncover_32 (by decide) rfl rfl ⟨h.1, ?_⟩
    refine rr_letI (fun I2 hI2 => ?_)
    have h := h.2 I2 hI2
    refine rr_aload_n dX9_uncover_33 rfl 1 rfl rfl ?_
    refine rr_getR dX9_uncover_34 fX9_30 (by decide) rfl rfl rfl ?_
    refine rr_iload_n dX9_uncover_37 rfl 2 rfl rfl ?_
    refine rr_iconst (v := (0 : Int32)) dX9_uncover_38 (by decide) rfl ?_
    refine rr_zast dX9_uncover_39 (by decide) rfl rfl ⟨h.1, ?_⟩
    refine rr_letI (fun I3 hI3 => ?_)
    have h := h.2 I3 hI3
    refine rr_iconst (v := (0 : Int32)) dX9_uncover_40 (by decide) rfl ?_
    refine rr_istore_n (lv' := [(3, .int (0 : Int32)), (2, .int (1 : Int32)), (0, .ref 0), (1, .int v1)]) dX9_uncover_41 rfl (by decide) rfl rfl ?_
    exact rr.sub [2, 1, 0] rfl h
  · have h := h.2 hc
    refine rr_aload_n dX9_uncover_9 rfl 0 rfl rfl ?_
    refine rr_getR dX9_uncover_10 fX9_26 (by decide) rfl rfl rfl ?_
    refine rr_iload_n dX9_uncover_13 rfl 1 rfl rfl ?_
    refine rr_iconst (v := (2 : Int32)) dX9_uncover_14 (by decide) rfl ?_
    refine rr_iast dX9_uncover_15 (by decide) rfl rfl ⟨h.1, ?_⟩
    refine rr_letI (fun I4 hI4 => ?_)
    have h := h.2 I4 hI4
    exact rr_vret dX9_uncover_16 rfl h
theorem s_X9_uncover_42 {I : tg_I} {J : tg_J} {P : Option Value → tg_I → tg_J → Prop} (v2 : Int32) (v3 : Int32) (h :
  (v2 ≤ v3 →
   P none I J) ∧
  (¬ v2 ≤ v3 →
   vp_in v3 100 ∧
    (call pgM zX9_numberOf [.ref 0, .int (I 23 (Int32.toNatClampNeg v3))] I J (fun vr I1 J1 => ∃ r1 : Int32, vr = some (.int r1) ∧
    ((¬ r1 = 0 →
     l_X9_uncover_42 I1 J1 P v2 ((v3 + (1 : Int32)))) ∧
    (r1 = 0 →
     l_X9_uncover_63 I1 J1 P v2 v3 ((0 : Int32)))))))) : l_X9_uncover_42 I J P v2 v3 := by
  show rr pgM zX9_uncover 42 [(0, .ref 0), (2, .int v2), (3, .int v3)] [] I J P
  refine rr_iload_n dX9_uncover_42 rfl 2 rfl rfl ?_
  refine rr_iload_n dX9_uncover_43 rfl 1 rfl rfl ?_
  refine rr_icmp_ge (tgt := 136) dX9_uncover_44 (by decide) rfl ⟨fun hc => ?_, fun hc => ?_⟩
  · have h := h.1 hc
    exact rr_vret dX9_uncover_136 rfl h
  · have h := h.2 hc
    refine rr_aload_n dX9_uncover_47 rfl 0 rfl rfl ?_
    refine rr_aload_n dX9_uncover_48 rfl 0 rfl rfl ?_
    refine rr_getR dX9_uncover_49 fX9_91 (by decide) rfl rfl rfl ?_
    refine rr_iload_n dX9_uncover_52 rfl 2 rfl rfl ?_
    refine rr_iald dX9_uncover_53 (by decide) rfl rfl ⟨h.1, ?_⟩
    have h := h.2
    refine rr_V [.int (I 23 (Int32.toNatClampNeg v3))] [] dX9_uncover_54 kX9_numberOf mX9_142 ⟨by decide, by decide⟩ (by decide) rfl rfl rfl (Nat.le_of_ble_eq_true rfl) rfl (h.mono fun vr I1 J1 h => ?_)
    obtain ⟨r1, rfl, h⟩ := h
    show rr pgM zX9_uncover 57 _ [.int r1] _ _ _
    refine rr_if_ne (tgt := 130) dX9_uncover_57 (by decide) rfl ⟨fun hc => ?_, fun hc => ?_⟩
    · have h := h.1 hc
      refine rr_iinc (k := 2) (v := (v3 + (1 : Int32))) (lv' := [(3, .int (v3 + (1 : Int32))), (0, .ref 0), (2, .int v2)]) dX9_uncover_130 rfl rfl (by decide) rfl rfl ?_
      refine rr_goto (tgt := 42) dX9_uncover_133 (by decide) ?_
      exact rr.sub [1, 2, 0] rfl h
    · have h := h.2 hc
      refine rr_iconst (v := (0 : Int32)) dX9_uncover_60 (by decide) rfl ?_
      refine rr_istore (lv' := [(4, .int (0 : Int32)), (0, .ref 0), (2, .int v2), (3, .int v3)]) dX9_uncover_61 (by decide) rfl rfl ?_
      exact rr.sub [1, 2, 3, 0] rfl h
theorem s_X9_uncover_63 {I : tg_I} {J : tg_J} {P : Option Value → tg_I → tg_J → Prop} (v2 : Int32) (v3 : Int32) (v4 : Int32) (h :
  ((I 0 3) ≤ v4 →
   l_X9_uncover_42 I J P v2 ((v3 + (1 : Int32)))) ∧
  (¬ (I 0 3) ≤ v4 →
   vp_in v3 100 ∧
    (call pgM zX9_isNear [.ref 0, .int (I 23 (Int32.toNatClampNeg v3)), .int v4] I J (fun vr I1 J1 => ∃ r1 : Int32, vr = some (.int r1) ∧
    ((r1 = 0 →
     l_X9_uncover_63 I1 J1 P v2 v3 ((v4 + (1 : Int32)))) ∧
    (¬ r1 = 0 →
     vp_in v4 100 ∧
      ((¬ (I1 3 (Int32.toNatClampNeg v4)) = 0 →
       l_X9_uncover_63 I1 J1 P v2 v3 ((v4 + (1 : Int32)))) ∧
      ((I1 3 (Int32.toNatClampNeg v4)) = 0 →
       vp_in v4 100 ∧ ∀ I2, I2 = u2 I1 3 (Int32.toNatClampNeg v4) (1 : Int32) →
        vp_in v4 100 ∧ ∀ I3, I3 = u2 I2 4 (Int32.toNatClampNeg v4) (vp_nar .boolean (0 : Int32)) →
        vp_in v2 100 ∧ ∀ I4, I4 = u2 I3 23 (Int32.toNatClampNeg v2) v4 →
        l_X9_uncover_63 I4 J1 P ((v2 + (1 : Int32))) v3 ((v4 + (1 : Int32))))))))))) : l_X9_uncover_63 I J P v2 v3 v4 := by
  show rr pgM zX9_uncover 63 [(0, .ref 0), (2, .int v2), (3, .int v3), (4, .int v4)] [] I J P
  refine rr_iload dX9_uncover_63 3 rfl rfl ?_
  refine rr_aload_n dX9_uncover_65 rfl 0 rfl rfl ?_
  refine rr_getI dX9_uncover_66 fX9_16 (by decide) rfl rfl rfl ?_
  refine rr_icmp_ge (tgt := 130) dX9_uncover_69 (by decide) rfl ⟨fun hc => ?_, fun hc => ?_⟩
  · have h := h.1 hc
    refine rr_iinc (k := 2) (v := (v3 + (1 : Int32))) (lv' := [(3, .int (v3 + (1 : Int32))), (0, .ref 0), (2, .int v2), (4, .int v4)]) dX9_uncover_130 rfl rfl (by decide) rfl rfl ?_
    refine rr_goto (tgt := 42) dX9_uncover_133 (by decide) ?_
    exact rr.sub [1, 2, 0] rfl h
  · have h := h.2 hc
    refine rr_aload_n dX9_uncover_72 rfl 0 rfl rfl ?_
    refine rr_aload_n dX9_uncover_73 rfl 0 rfl rfl ?_
    refine rr_getR dX9_uncover_74 fX9_91 (by decide) rfl rfl rfl ?_
    refine rr_iload_n dX9_uncover_77 rfl 2 rfl rfl ?_
    refine rr_iald dX9_uncover_78 (by decide) rfl rfl ⟨h.1, ?_⟩
    have h := h.2
    refine rr_iload dX9_uncover_79 3 rfl rfl ?_
    refine rr_V [.int (I 23 (Int32.toNatClampNeg v3)), .int v4] [] dX9_uncover_81 kX9_isNear mX9_138 ⟨by decide, by decide⟩ (by decide) rfl rfl rfl (Nat.le_of_ble_eq_true rfl) rfl (h.mono fun vr I1 J1 h => ?_)
    obtain ⟨r1, rfl, h⟩ := h
    show rr pgM zX9_uncover 84 _ [.int r1] _ _ _
    refine rr_if_eq (tgt := 124) dX9_uncover_84 (by decide) rfl ⟨fun hc => ?_, fun hc => ?_⟩
    · have h := h.1 hc
      refine rr_iinc (k := 3) (v := (v4 + (1 : Int32))) (lv' := [(4, .int (v4 + (1 : Int32))), (0, .ref 0), (2, .int v2), (3, .int v3)]) dX9_uncover_124 rfl rfl (by decide) rfl rfl ?_
      refine rr_goto (tgt := 63) dX9_uncover_127 (by decide) ?_
      exact rr.sub [1, 2, 3, 0] rfl h
    · have h := h.2 hc
      refine rr_aload_n dX9_uncover_87 rfl 0 rfl rfl ?_
      refine rr_getR dX9_uncover_88 fX9_26 (by decide) rfl rfl rfl ?_
      refine rr_iload dX9_uncover_91 3 rfl rfl ?_
      refine rr_iald dX9_uncover_93 (by decide) rfl rfl ⟨h.1, ?_⟩
      have h := h.2
      refine rr_if_ne (tgt := 124) dX9_uncover_94 (by decide) rfl ⟨fun hc => ?_, fun hc => ?_⟩
      · have h := h.1 hc
        refine rr_iinc (k := 3) (v := (v4 + (1 : Int32))) (lv' := [(4, .int (v4 + (1 : Int32))), (0, .ref 0), (2, .int v2), (3, .int v3)]) dX9_uncover_124 rfl rfl (by decide) rfl rfl ?_
        refine rr_goto (tgt := 63) dX9_uncover_127 (by decide) ?_
        exact rr.sub [1, 2, 3, 0] rfl h
      · have h := h.2 hc
        refine rr_aload_n dX9_uncover_97 rfl 0 rfl rfl ?_
        refine rr_getR dX9_uncover_98 fX9_26 (by decide) rfl rfl rfl ?_
        refine rr_iload dX9_uncover_101 3 rfl rfl ?_
        refine rr_iconst (v := (1 : Int32)) dX9_uncover_103 (by decide) rfl ?_
        refine rr_iast dX9_uncover_104 (by decide) rfl rfl ⟨h.1, ?_⟩
        refine rr_letI (fun I2 hI2 => ?_)
        have h := h.2 I2 hI2
        refine rr_aload_n dX9_uncover_105 rfl 0 rfl rfl ?_
        refine rr_getR dX9_uncover_106 fX9_30 (by decide) rfl rfl rfl ?_
        refine rr_iload dX9_uncover_109 3 rfl rfl ?_
        refine rr_iconst (v := (0 : Int32)) dX9_uncover_111 (by decide) rfl ?_
        refine rr_zast dX9_uncover_112 (by decide) rfl rfl ⟨h.1, ?_⟩
        refine rr_letI (fun I3 hI3 => ?_)
        have h := h.2 I3 hI3
        refine rr_aload_n dX9_uncover_113 rfl 0 rfl rfl ?_
        refine rr_getR dX9_uncover_114 fX9_91 (by decide) rfl rfl rfl ?_
        refine rr_iload_n dX9_uncover_117 rfl 1 rfl rfl ?_
        refine rr_iload dX9_uncover_118 3 rfl rfl ?_
        refine rr_iast dX9_uncover_120 (by decide) rfl rfl ⟨h.1, ?_⟩
        refine rr_letI (fun I4 hI4 => ?_)
        have h := h.2 I4 hI4
        refine rr_iinc (k := 1) (v := (v2 + (1 : Int32))) (lv' := [(2, .int (v2 + (1 : Int32))), (0, .ref 0), (3, .int v3), (4, .int v4)]) dX9_uncover_121 rfl rfl (by decide) rfl rfl ?_
        refine rr_iinc (k := 3) (v := (v4 + (1 : Int32))) (lv' := [(4, .int (v4 + (1 : Int32))), (2, .int (v2 + (1 : Int32))), (0, .ref 0), (3, .int v3)]) dX9_uncover_124 rfl rfl (by decide) rfl rfl ?_
        refine rr_goto (tgt := 63) dX9_uncover_127 (by decide) ?_
        exact rr.sub [2, 1, 3, 0] rfl h

def l_X9_keepBoard_2 (I : tg_I) (J : tg_J) (P : Option Value → tg_I → tg_J → Prop) (v1 : Int32) : Prop := rr pgM zX9_keepBoard 2 [(0, .ref 0), (1, .int v1)] [] I J P
theorem e_X9_keepBoard {I : tg_I} {J : tg_J} {P : Option Value → tg_I → tg_J → Prop} (h :
  l_X9_keepBoard_2 I J P ((0 : Int32))) : call pgM zX9_keepBoard [.ref 0] I J P := by
  refine call_of (by decide +kernel) (fun _ => Nat.le_of_ble_eq_true rfl) ?_
  show rr pgM zX9_keepBoard 0 [(0, .ref 0)] [] I J P
  refine rr_iconst (v := (0 : Int32)) dX9_keepBoard_0 (by decide) rfl ?_
  refine rr_istore_n (lv' := [(1, .int (0 : Int32)), (0, .ref 0)]) dX9_keepBoard_1 rfl (by decide) rfl rfl ?_
  exact rr.sub [1, 0] rfl h
theorem s_X9_keepBoard_2 {I : tg_I} {J : tg_J} {P : Option Value → tg_I → tg_J → Prop} (v1 : Int32) (h :
  ((100 : Int32) ≤ v1 →
   P none I J) ∧
  (¬ (100 : Int32) ≤ v1 →
   vp_in v1 100 ∧
    (vp_in v1 100 ∧ ∀ I1, I1 = u2 I 6 (Int32.toNatClampNeg v1) (vp_nar .boolean (I 2 (Int32.toNatClampNeg v1))) →
    vp_in v1 100 ∧
    (vp_in v1 100 ∧ ∀ I2, I2 = u2 I1 7 (Int32.toNatClampNeg v1) (I1 3 (Int32.toNatClampNeg v1)) →
    vp_in v1 100 ∧
    (vp_in v1 100 ∧ ∀ I3, I3 = u2 I2 8 (Int32.toNatClampNeg v1) (vp_nar .boolean (I2 4 (Int32.toNatClampNeg v1))) →
    l_X9_keepBoard_2 I3 J P ((v1 + (1 : Int32)))))))) : l_X9_keepBoard_2 I J P v1 := by
  show rr pgM zX9_keepBoard 2 [(0, .ref 0), (1, .int v1)] [] I J P
  refine rr_iload_n dX9_keepBoard_2 rfl 1 rfl rfl ?_
  refine rr_bipush (v := (100 : Int32)) dX9_keepBoard_3 (by decide) rfl ?_
  refine rr_icmp_ge (tgt := 50) dX9_keepBoard_5 (by decide) rfl ⟨fun hc => ?_, fun hc => ?_⟩
  · have h := h.1 hc
    exact rr_vret dX9_keepBoard_50 rfl h
  · have h := h.2 hc
    refine rr_aload_n dX9_keepBoard_8 rfl 0 rfl rfl ?_
    refine rr_getR dX9_keepBoard_9 fX9_36 (by decide) rfl rfl rfl ?_
    refine rr_iload_n dX9_keepBoard_12 rfl 1 rfl rfl ?_
    refine rr_aload_n dX9_keepBoard_13 rfl 0 rfl rfl ?_
    refine rr_getR dX9_keepBoard_14 fX9_23 (by decide) rfl rfl rfl ?_
    refine rr_iload_n dX9_keepBoard_17 rfl 1 rfl rfl ?_
    refine rr_zald dX9_keepBoard_18 (by decide) rfl rfl ⟨h.1, ?_⟩
    have h := h.2
    refine rr_zast dX9_keepBoard_19 (by decide) rfl rfl ⟨h.1, ?_⟩
    refine rr_letI (fun I1 hI1 => ?_)
    have h := h.2 I1 hI1
    refine rr_aload_n dX9_keepBoard_20 rfl 0 rfl rfl ?_
    refine rr_getR dX9_keepBoard_21 fX9_39 (by decide) rfl rfl rfl ?_
    refine rr_iload_n dX9_keepBoard_24 rfl 1 rfl rfl ?_
    refine rr_aload_n dX9_keepBoard_25 rfl 0 rfl rfl ?_
    refine rr_getR dX9_keepBoard_26 fX9_26 (by decide) rfl rfl rfl ?_
    refine rr_iload_n dX9_keepBoard_29 rfl 1 rfl rfl ?_
    refine rr_iald dX9_keepBoard_30 (by decide) rfl rfl ⟨h.1, ?_⟩
    have h := h.2
    refine rr_iast dX9_keepBoard_31 (by decide) rfl rfl ⟨h.1, ?_⟩
    refine rr_letI (fun I2 hI2 => ?_)
    have h := h.2 I2 hI2
    refine rr_aload_n dX9_keepBoard_32 rfl 0 rfl rfl ?_
    refine rr_getR dX9_keepBoard_33 fX9_42 (by decide) rfl rfl rfl ?_
    refine rr_iload_n dX9_keepBoard_36 rfl 1 rfl rfl ?_
    refine rr_aload_n dX9_keepBoard_37 rfl 0 rfl rfl ?_
    refine rr_getR dX9_keepBoard_38 fX9_30 (by decide) rfl rfl rfl ?_
    refine rr_iload_n dX9_keepBoard_41 rfl 1 rfl rfl ?_
    refine rr_zald dX9_keepBoard_42 (by decide) rfl rfl ⟨h.1, ?_⟩
    have h := h.2
    refine rr_zast dX9_keepBoard_43 (by decide) rfl rfl ⟨h.1, ?_⟩
    refine rr_letI (fun I3 hI3 => ?_)
    have h := h.2 I3 hI3
    refine rr_iinc (k := 1) (v := (v1 + (1 : Int32))) (lv' := [(1, .int (v1 + (1 : Int32))), (0, .ref 0)]) dX9_keepBoard_44 rfl rfl (by decide) rfl rfl ?_
    refine rr_goto (tgt := 2) dX9_keepBoard_47 (by decide) ?_
    exact rr.sub [1, 0] rfl h

def l_X9_bringBack_2 (I : tg_I) (J : tg_J) (P : Option Value → tg_I → tg_J → Prop) (v1 : Int32) : Prop := rr pgM zX9_bringBack 2 [(0, .ref 0), (1, .int v1)] [] I J P
theorem e_X9_bringBack {I : tg_I} {J : tg_J} {P : Option Value → tg_I → tg_J → Prop} (h :
  l_X9_bringBack_2 I J P ((0 : Int32))) : call pgM zX9_bringBack [.ref 0] I J P := by
  refine call_of (by decide +kernel) (fun _ => Nat.le_of_ble_eq_true rfl) ?_
  show rr pgM zX9_bringBack 0 [(0, .ref 0)] [] I J P
  refine rr_iconst (v := (0 : Int32)) dX9_bringBack_0 (by decide) rfl ?_
  refine rr_istore_n (lv' := [(1, .int (0 : Int32)), (0, .ref 0)]) dX9_bringBack_1 rfl (by decide) rfl rfl ?_
  exact rr.sub [1, 0] rfl h
theorem s_X9_bringBack_2 {I : tg_I} {J : tg_J} {P : Option Value → tg_I → tg_J → Prop} (v1 : Int32) (h :
  ((100 : Int32) ≤ v1 →
   P none I J) ∧
  (¬ (100 : Int32) ≤ v1 →
   vp_in v1 100 ∧
    (vp_in v1 100 ∧ ∀ I1, I1 = u2 I 2 (Int32.toNatClampNeg v1) (vp_nar .boolean (I 6 (Int32.toNatClampNeg v1))) →
    vp_in v1 100 ∧
    (vp_in v1 100 ∧ ∀ I2, I2 = u2 I1 3 (Int32.toNatClampNeg v1) (I1 7 (Int32.toNatClampNeg v1)) →
    vp_in v1 100 ∧
    (vp_in v1 100 ∧ ∀ I3, I3 = u2 I2 4 (Int32.toNatClampNeg v1) (vp_nar .boolean (I2 8 (Int32.toNatClampNeg v1))) →
    l_X9_bringBack_2 I3 J P ((v1 + (1 : Int32)))))))) : l_X9_bringBack_2 I J P v1 := by
  show rr pgM zX9_bringBack 2 [(0, .ref 0), (1, .int v1)] [] I J P
  refine rr_iload_n dX9_bringBack_2 rfl 1 rfl rfl ?_
  refine rr_bipush (v := (100 : Int32)) dX9_bringBack_3 (by decide) rfl ?_
  refine rr_icmp_ge (tgt := 50) dX9_bringBack_5 (by decide) rfl ⟨fun hc => ?_, fun hc => ?_⟩
  · have h := h.1 hc
    exact rr_vret dX9_bringBack_50 rfl h
  · have h := h.2 hc
    refine rr_aload_n dX9_bringBack_8 rfl 0 rfl rfl ?_
    refine rr_getR dX9_bringBack_9 fX9_23 (by decide) rfl rfl rfl ?_
    refine rr_iload_n dX9_bringBack_12 rfl 1 rfl rfl ?_
    refine rr_aload_n dX9_bringBack_13 rfl 0 rfl rfl ?_
    refine rr_getR dX9_bringBack_14 fX9_36 (by decide) rfl rfl rfl ?_
    refine rr_iload_n dX9_bringBack_17 rfl 1 rfl rfl ?_
    refine rr_zald dX9_bringBack_18 (by decide) rfl rfl ⟨h.1, ?_⟩
    have h := h.2
    refine rr_zast dX9_bringBack_19 (by decide) rfl rfl ⟨h.1, ?_⟩
    refine rr_letI (fun I1 hI1 => ?_)
    have h := h.2 I1 hI1
    refine rr_aload_n dX9_bringBack_20 rfl 0 rfl rfl ?_
    refine rr_getR dX9_bringBack_21 fX9_26 (by decide) rfl rfl rfl ?_
    refine rr_iload_n dX9_bringBack_24 rfl 1 rfl rfl ?_
    refine rr_aload_n dX9_bringBack_25 rfl 0 rfl rfl ?_
    refine rr_getR dX9_bringBack_26 fX9_39 (by decide) rfl rfl rfl ?_
    refine rr_iload_n dX9_bringBack_29 rfl 1 rfl rfl ?_
    refine rr_iald dX9_bringBack_30 (by decide) rfl rfl ⟨h.1, ?_⟩
    have h := h.2
    refine rr_iast dX9_bringBack_31 (by decide) rfl rfl ⟨h.1, ?_⟩
    refine rr_letI (fun I2 hI2 => ?_)
    have h := h.2 I2 hI2
    refine rr_aload_n dX9_bringBack_32 rfl 0 rfl rfl ?_
    refine rr_getR dX9_bringBack_33 fX9_30 (by decide) rfl rfl rfl ?_
    refine rr_iload_n dX9_bringBack_36 rfl 1 rfl rfl ?_
    refine rr_aload_n dX9_bringBack_37 rfl 0 rfl rfl ?_
    refine rr_getR dX9_bringBack_38 fX9_42 (by decide) rfl rfl rfl ?_
    refine rr_iload_n dX9_bringBack_41 rfl 1 rfl rfl ?_
    refine rr_zald dX9_bringBack_42 (by decide) rfl rfl ⟨h.1, ?_⟩
    have h := h.2
    refine rr_zast dX9_bringBack_43 (by decide) rfl rfl ⟨h.1, ?_⟩
    refine rr_letI (fun I3 hI3 => ?_)
    have h := h.2 I3 hI3
    refine rr_iinc (k := 1) (v := (v1 + (1 : Int32))) (lv' := [(1, .int (v1 + (1 : Int32))), (0, .ref 0)]) dX9_bringBack_44 rfl rfl (by decide) rfl rfl ?_
    refine rr_goto (tgt := 2) dX9_bringBack_47 (by decide) ?_
    exact rr.sub [1, 0] rfl h

theorem e_X9_canBeMined {I : tg_I} {J : tg_J} {P : Option Value → tg_I → tg_J → Prop} (v1 : Int32) (v2 : Int32) (h :
  (v1 = v2 →
   P (some (.int (0 : Int32))) I J) ∧
  (¬ v1 = v2 →
   call pgM zX9_isNear [.ref 0, .int v2, .int v1] I J (fun vr I1 J1 => ∃ r1 : Int32, vr = some (.int r1) ∧
    ((¬ r1 = 0 →
     P (some (.int (0 : Int32))) I1 J1) ∧
    (r1 = 0 →
     P (some (.int (1 : Int32))) I1 J1))))) : call pgM zX9_canBeMined [.ref 0, .int v1, .int v2] I J P := by
  refine call_of (by decide +kernel) (fun _ => Nat.le_of_ble_eq_true rfl) ?_
  show rr pgM zX9_canBeMined 0 [(0, .ref 0), (1, .int v1), (2, .int v2)] [] I J P
  refine rr_iload_n dX9_canBeMined_0 rfl 1 rfl rfl ?_
  refine rr_iload_n dX9_canBeMined_1 rfl 2 rfl rfl ?_
  refine rr_icmp_eq (tgt := 18) dX9_canBeMined_2 (by decide) rfl ⟨fun hc => ?_, fun hc => ?_⟩
  · have h := h.1 hc
    refine rr_iconst (v := (0 : Int32)) dX9_canBeMined_18 (by decide) rfl ?_
    exact rr_zret dX9_canBeMined_19 rfl rfl h
  · have h := h.2 hc
    refine rr_aload_n dX9_canBeMined_5 rfl 0 rfl rfl ?_
    refine rr_iload_n dX9_canBeMined_6 rfl 2 rfl rfl ?_
    refine rr_iload_n dX9_canBeMined_7 rfl 1 rfl rfl ?_
    refine rr_V [.int v2, .int v1] [] dX9_canBeMined_8 kX9_isNear mX9_138 ⟨by decide, by decide⟩ (by decide) rfl rfl rfl (Nat.le_of_ble_eq_true rfl) rfl (h.mono fun vr I1 J1 h => ?_)
    obtain ⟨r1, rfl, h⟩ := h
    show rr pgM zX9_canBeMined 11 _ [.int r1] _ _ _
    refine rr_if_ne (tgt := 18) dX9_canBeMined_11 (by decide) rfl ⟨fun hc => ?_, fun hc => ?_⟩
    · have h := h.1 hc
      refine rr_iconst (v := (0 : Int32)) dX9_canBeMined_18 (by decide) rfl ?_
      exact rr_zret dX9_canBeMined_19 rfl rfl h
    · have h := h.2 hc
      refine rr_iconst (v := (1 : Int32)) dX9_canBeMined_14 (by decide) rfl ?_
      refine rr_goto (tgt := 19) dX9_canBeMined_15 (by decide) ?_
      exact rr_zret dX9_canBeMined_19 rfl rfl h

def l_X9_drawMines_9 (I : tg_I) (J : tg_J) (P : Option Value → tg_I → tg_J → Prop) (v1 : Int32) (v2 : Int32) (v4 : Int32) (v5 : Int32) : Prop := rr pgM zX9_drawMines 9 [(0, .ref 0), (1, .int v1), (2, .int v2), (4, .int v4), (5, .int v5)] [] I J P
def l_X9_drawMines_35 (I : tg_I) (J : tg_J) (P : Option Value → tg_I → tg_J → Prop) (v1 : Int32) (v2 : Int32) (v4 : Int32) (v5 : Int32) (v6 : Int32) (v7 : Int32) : Prop := rr pgM zX9_drawMines 35 [(0, .ref 0), (1, .int v1), (2, .int v2), (4, .int v4), (5, .int v5), (6, .int v6), (7, .int v7)] [] I J P
def l_X9_drawMines_96 (I : tg_I) (J : tg_J) (P : Option Value → tg_I → tg_J → Prop) (v1 : Int32) (v2 : Int32) (v4 : Int32) (v5 : Int32) (v7 : Int32) (v8 : Int32) (v9 : Int32) : Prop := rr pgM zX9_drawMines 96 [(0, .ref 0), (1, .int v1), (2, .int v2), (4, .int v4), (5, .int v5), (7, .int v7), (8, .int v8), (9, .int v9)] [] I J P
theorem e_X9_drawMines {I : tg_I} {J : tg_J} {P : Option Value → tg_I → tg_J → Prop} (v1 : Int32) (v2 : Int32) (v3 : Int32) (h :
  ∀ x1, x1 = (v3 &&& (2147483647 : Int32)) →
  l_X9_drawMines_9 I J P v1 v2 x1 ((0 : Int32))) : call pgM zX9_drawMines [.ref 0, .int v1, .int v2, .int v3] I J P := by
  refine call_of (by decide +kernel) (fun _ => Nat.le_of_ble_eq_true rfl) ?_
  show rr pgM zX9_drawMines 0 [(0, .ref 0), (1, .int v1), (2, .int v2), (3, .int v3)] [] I J P
  refine rr_iload_n dX9_drawMines_0 rfl 3 rfl rfl ?_
  refine rr_ldc dX9_drawMines_1 qX9_145 rfl ?_
  refine rr_iand dX9_drawMines_3 rfl ?_
  refine rr_letTi (fun x1 hx1 => ?_)
  have h := h x1 hx1
  refine rr_istore (lv' := [(4, .int x1), (0, .ref 0), (1, .int v1), (2, .int v2), (3, .int v3)]) dX9_drawMines_4 (by decide) rfl rfl ?_
  refine rr_iconst (v := (0 : Int32)) dX9_drawMines_6 (by decide) rfl ?_
  refine rr_istore (lv' := [(5, .int (0 : Int32)), (4, .int x1), (0, .ref 0), (1, .int v1), (2, .int v2), (3, .int v3)]) dX9_drawMines_7 (by decide) rfl rfl ?_
  exact rr.sub [2, 3, 4, 1, 0] rfl h
theorem s_X9_drawMines_9 {I : tg_I} {J : tg_J} {P : Option Value → tg_I → tg_J → Prop} (v1 : Int32) (v2 : Int32) (v4 : Int32) (v5 : Int32) (h :
  (v1 ≤ v5 →
   P none I J) ∧
  (¬ v1 ≤ v5 →
   ∀ x1, x1 = ((((1103515245 : Int32) * v4) + (12345 : Int32)) &&& (2147483647 : Int32)) →
    l_X9_drawMines_35 I J P v1 v2 x1 v5 ((0 : Int32)) ((0 : Int32)))) : l_X9_drawMines_9 I J P v1 v2 v4 v5 := by
  show rr pgM zX9_drawMines 9 [(0, .ref 0), (1, .int v1), (2, .int v2), (4, .int v4), (5, .int v5)] [] I J P
  refine rr_iload dX9_drawMines_9 4 rfl rfl ?_
  refine rr_iload_n dX9_drawMines_11 rfl 1 rfl rfl ?_
  refine rr_icmp_ge (tgt := 162) dX9_drawMines_12 (by decide) rfl ⟨fun hc => ?_, fun hc => ?_⟩
  · have h := h.1 hc
    exact rr_vret dX9_drawMines_162 rfl h
  · have h := h.2 hc
    refine rr_ldc dX9_drawMines_15 qX9_146 rfl ?_
    refine rr_iload dX9_drawMines_17 3 rfl rfl ?_
    refine rr_imul dX9_drawMines_19 rfl ?_
    refine rr_sipush (v := (12345 : Int32)) dX9_drawMines_20 (by decide) rfl ?_
    refine rr_iadd dX9_drawMines_23 rfl ?_
    refine rr_ldc dX9_drawMines_24 qX9_145 rfl ?_
    refine rr_iand dX9_drawMines_26 rfl ?_
    refine rr_letTi (fun x1 hx1 => ?_)
    have h := h x1 hx1
    refine rr_istore (lv' := [(4, .int x1), (0, .ref 0), (1, .int v1), (2, .int v2), (5, .int v5)]) dX9_drawMines_27 (by decide) rfl rfl ?_
    refine rr_iconst (v := (0 : Int32)) dX9_drawMines_29 (by decide) rfl ?_
    refine rr_istore (lv' := [(6, .int (0 : Int32)), (4, .int x1), (0, .ref 0), (1, .int v1), (2, .int v2), (5, .int v5)]) dX9_drawMines_30 (by decide) rfl rfl ?_
    refine rr_iconst (v := (0 : Int32)) dX9_drawMines_32 (by decide) rfl ?_
    refine rr_istore (lv' := [(7, .int (0 : Int32)), (6, .int (0 : Int32)), (4, .int x1), (0, .ref 0), (1, .int v1), (2, .int v2), (5, .int v5)]) dX9_drawMines_33 (by decide) rfl rfl ?_
    exact rr.sub [3, 4, 5, 2, 6, 1, 0] rfl h
theorem s_X9_drawMines_35 {I : tg_I} {J : tg_J} {P : Option Value → tg_I → tg_J → Prop} (v1 : Int32) (v2 : Int32) (v4 : Int32) (v5 : Int32) (v6 : Int32) (v7 : Int32) (h :
  ((I 0 3) ≤ v7 →
   ¬ v6 = 0 ∧
    (∀ x1, x1 = ((v4 / (65536 : Int32)) - (v4 / (65536 : Int32)) / v6 * v6) →
    l_X9_drawMines_96 I J P v1 v2 v4 v5 x1 ((-1 : Int32)) ((0 : Int32)))) ∧
  (¬ (I 0 3) ≤ v7 →
   call pgM zX9_canBeMined [.ref 0, .int v7, .int v2] I J (fun vr I1 J1 => ∃ r1 : Int32, vr = some (.int r1) ∧
    ((r1 = 0 →
     l_X9_drawMines_35 I1 J1 P v1 v2 v4 v5 ((v6 + (0 : Int32))) ((v7 + (1 : Int32)))) ∧
    (¬ r1 = 0 →
     vp_in v7 100 ∧
      ((¬ (I1 2 (Int32.toNatClampNeg v7)) = 0 →
       l_X9_drawMines_35 I1 J1 P v1 v2 v4 v5 ((v6 + (0 : Int32))) ((v7 + (1 : Int32)))) ∧
      ((I1 2 (Int32.toNatClampNeg v7)) = 0 →
       l_X9_drawMines_35 I1 J1 P v1 v2 v4 v5 ((v6 + (1 : Int32))) ((v7 + (1 : Int32)))))))))) : l_X9_drawMines_35 I J P v1 v2 v4 v5 v6 v7 := by
  show rr pgM zX9_drawMines 35 [(0, .ref 0), (1, .int v1), (2, .int v2), (4, .int v4), (5, .int v5), (6, .int v6), (7, .int v7)] [] I J P
  refine rr_iload dX9_drawMines_35 6 rfl rfl ?_
  refine rr_aload_n dX9_drawMines_37 rfl 0 rfl rfl ?_
  refine rr_getI dX9_drawMines_38 fX9_16 (by decide) rfl rfl rfl ?_
  refine rr_icmp_ge (tgt := 80) dX9_drawMines_41 (by decide) rfl ⟨fun hc => ?_, fun hc => ?_⟩
  · have h := h.1 hc
    refine rr_iload dX9_drawMines_80 3 rfl rfl ?_
    refine rr_ldc dX9_drawMines_82 qX9_150 rfl ?_
    refine rr_idiv dX9_drawMines_84 (by decide) rfl ?_
    refine rr_iload dX9_drawMines_85 5 rfl rfl ?_
    refine rr_irem dX9_drawMines_87 h.1 rfl ?_
    have h := h.2
    refine rr_letTi (fun x1 hx1 => ?_)
    have h := h x1 hx1
    refine rr_istore (lv' := [(7, .int x1), (0, .ref 0), (1, .int v1), (2, .int v2), (4, .int v4), (5, .int v5), (6, .int v6)]) dX9_drawMines_88 (by decide) rfl rfl ?_
    refine rr_iconst (v := (-1 : Int32)) dX9_drawMines_90 (by decide) rfl ?_
    refine rr_istore (lv' := [(8, .int (-1 : Int32)), (7, .int x1), (0, .ref 0), (1, .int v1), (2, .int v2), (4, .int v4), (5, .int v5), (6, .int v6)]) dX9_drawMines_91 (by decide) rfl rfl ?_
    refine rr_iconst (v := (0 : Int32)) dX9_drawMines_93 (by decide) rfl ?_
    refine rr_istore (lv' := [(9, .int (0 : Int32)), (8, .int (-1 : Int32)), (7, .int x1), (0, .ref 0), (1, .int v1), (2, .int v2), (4, .int v4), (5, .int v5), (6, .int v6)]) dX9_drawMines_94 (by decide) rfl rfl ?_
    exact rr.sub [3, 4, 5, 6, 7, 2, 1, 0] rfl h
  · have h := h.2 hc
    refine rr_iload dX9_drawMines_44 5 rfl rfl ?_
    refine rr_aload_n dX9_drawMines_46 rfl 0 rfl rfl ?_
    refine rr_iload dX9_drawMines_47 6 rfl rfl ?_
    refine rr_iload_n dX9_drawMines_49 rfl 2 rfl rfl ?_
    refine rr_V [.int v7, .int v2] [.int v6] dX9_drawMines_50 kX9_canBeMined mX9_147 ⟨by decide, by decide⟩ (by decide) rfl rfl rfl (Nat.le_of_ble_eq_true rfl) rfl (h.mono fun vr I1 J1 h => ?_)
    obtain ⟨r1, rfl, h⟩ := h
    show rr pgM zX9_drawMines 53 _ [.int r1, .int v6] _ _ _
    refine rr_if_eq (tgt := 70) dX9_drawMines_53 (by decide) rfl ⟨fun hc => ?_, fun hc => ?_⟩
    · have h := h.1 hc
      refine rr_iconst (v := (0 : Int32)) dX9_drawMines_70 (by decide) rfl ?_
      refine rr_iadd dX9_drawMines_71 rfl ?_
      refine rr_istore (lv' := [(6, .int (v6 + (0 : Int32))), (0, .ref 0), (1, .int v1), (2, .int v2), (4, .int v4), (5, .int v5), (7, .int v7)]) dX9_drawMines_72 (by decide) rfl rfl ?_
      refine rr_iinc (k := 6) (v := (v7 + (1 : Int32))) (lv' := [(7, .int (v7 + (1 : Int32))), (6, .int (v6 + (0 : Int32))), (0, .ref 0), (1, .int v1), (2, .int v2), (4, .int v4), (5, .int v5)]) dX9_drawMines_74 rfl rfl (by decide) rfl rfl ?_
      refine rr_goto (tgt := 35) dX9_drawMines_77 (by decide) ?_
      exact rr.sub [2, 3, 4, 5, 6, 1, 0] rfl h
    · have h := h.2 hc
      refine rr_aload_n dX9_drawMines_56 rfl 0 rfl rfl ?_
      refine rr_getR dX9_drawMines_57 fX9_23 (by decide) rfl rfl rfl ?_
      refine rr_iload dX9_drawMines_60 6 rfl rfl ?_
      refine rr_zald dX9_drawMines_62 (by decide) rfl rfl ⟨h.1, ?_⟩
      have h := h.2
      refine rr_if_ne (tgt := 70) dX9_drawMines_63 (by decide) rfl ⟨fun hc => ?_, fun hc => ?_⟩
      · have h := h.1 hc
        refine rr_iconst (v := (0 : Int32)) dX9_drawMines_70 (by decide) rfl ?_
        refine rr_iadd dX9_drawMines_71 rfl ?_
        refine rr_istore (lv' := [(6, .int (v6 + (0 : Int32))), (0, .ref 0), (1, .int v1), (2, .int v2), (4, .int v4), (5, .int v5), (7, .int v7)]) dX9_drawMines_72 (by decide) rfl rfl ?_
        refine rr_iinc (k := 6) (v := (v7 + (1 : Int32))) (lv' := [(7, .int (v7 + (1 : Int32))), (6, .int (v6 + (0 : Int32))), (0, .ref 0), (1, .int v1), (2, .int v2), (4, .int v4), (5, .int v5)]) dX9_drawMines_74 rfl rfl (by decide) rfl rfl ?_
        refine rr_goto (tgt := 35) dX9_drawMines_77 (by decide) ?_
        exact rr.sub [2, 3, 4, 5, 6, 1, 0] rfl h
      · have h := h.2 hc
        refine rr_iconst (v := (1 : Int32)) dX9_drawMines_66 (by decide) rfl ?_
        refine rr_goto (tgt := 71) dX9_drawMines_67 (by decide) ?_
        refine rr_iadd dX9_drawMines_71 rfl ?_
        refine rr_istore (lv' := [(6, .int (v6 + (1 : Int32))), (0, .ref 0), (1, .int v1), (2, .int v2), (4, .int v4), (5, .int v5), (7, .int v7)]) dX9_drawMines_72 (by decide) rfl rfl ?_
        refine rr_iinc (k := 6) (v := (v7 + (1 : Int32))) (lv' := [(7, .int (v7 + (1 : Int32))), (6, .int (v6 + (1 : Int32))), (0, .ref 0), (1, .int v1), (2, .int v2), (4, .int v4), (5, .int v5)]) dX9_drawMines_74 rfl rfl (by decide) rfl rfl ?_
        refine rr_goto (tgt := 35) dX9_drawMines_77 (by decide) ?_
        exact rr.sub [2, 3, 4, 5, 6, 1, 0] rfl h
theorem s_X9_drawMines_96 {I : tg_I} {J : tg_J} {P : Option Value → tg_I → tg_J → Prop} (v1 : Int32) (v2 : Int32) (v4 : Int32) (v5 : Int32) (v7 : Int32) (v8 : Int32) (v9 : Int32) (h :
  ((I 0 3) ≤ v9 →
   vp_in v8 100 ∧ ∀ I1, I1 = u2 I 2 (Int32.toNatClampNeg v8) (vp_nar .boolean (1 : Int32)) →
    l_X9_drawMines_9 I1 J P v1 v2 v4 ((v5 + (1 : Int32)))) ∧
  (¬ (I 0 3) ≤ v9 →
   call pgM zX9_canBeMined [.ref 0, .int v9, .int v2] I J (fun vr I2 J1 => ∃ r1 : Int32, vr = some (.int r1) ∧
    ((r1 = 0 →
     l_X9_drawMines_96 I2 J1 P v1 v2 v4 v5 v7 v8 ((v9 + (1 : Int32)))) ∧
    (¬ r1 = 0 →
     vp_in v9 100 ∧
      ((¬ (I2 2 (Int32.toNatClampNeg v9)) = 0 →
       l_X9_drawMines_96 I2 J1 P v1 v2 v4 v5 v7 v8 ((v9 + (1 : Int32)))) ∧
      ((I2 2 (Int32.toNatClampNeg v9)) = 0 →
       (¬ v7 = 0 →
         l_X9_drawMines_96 I2 J1 P v1 v2 v4 v5 ((v7 + (-1 : Int32))) v8 ((v9 + (1 : Int32)))) ∧
        (v7 = 0 →
         l_X9_drawMines_96 I2 J1 P v1 v2 v4 v5 ((v7 + (-1 : Int32))) v9 ((v9 + (1 : Int32))))))))))) : l_X9_drawMines_96 I J P v1 v2 v4 v5 v7 v8 v9 := by
  show rr pgM zX9_drawMines 96 [(0, .ref 0), (1, .int v1), (2, .int v2), (4, .int v4), (5, .int v5), (7, .int v7), (8, .int v8), (9, .int v9)] [] I J P
  refine rr_iload dX9_drawMines_96 7 rfl rfl ?_
  refine rr_aload_n dX9_drawMines_98 rfl 0 rfl rfl ?_
  refine rr_getI dX9_drawMines_99 fX9_16 (by decide) rfl rfl rfl ?_
  refine rr_icmp_ge (tgt := 148) dX9_drawMines_102 (by decide) rfl ⟨fun hc => ?_, fun hc => ?_⟩
  · have h := h.1 hc
    refine rr_aload_n dX9_drawMines_148 rfl 0 rfl rfl ?_
    refine rr_getR dX9_drawMines_149 fX9_23 (by decide) rfl rfl rfl ?_
    refine rr_iload dX9_drawMines_152 6 rfl rfl ?_
    refine rr_iconst (v := (1 : Int32)) dX9_drawMines_154 (by decide) rfl ?_
    refine rr_zast dX9_drawMines_155 (by decide) rfl rfl ⟨h.1, ?_⟩
    refine rr_letI (fun I1 hI1 => ?_)
    have h := h.2 I1 hI1
    refine rr_iinc (k := 4) (v := (v5 + (1 : Int32))) (lv' := [(5, .int (v5 + (1 : Int32))), (0, .ref 0), (1, .int v1), (2, .int v2), (4, .int v4), (7, .int v7), (8, .int v8), (9, .int v9)]) dX9_drawMines_156 rfl rfl (by decide) rfl rfl ?_
    refine rr_goto (tgt := 9) dX9_drawMines_159 (by decide) ?_
    exact rr.sub [1, 2, 3, 4, 0] rfl h
  · have h := h.2 hc
    refine rr_aload_n dX9_drawMines_105 rfl 0 rfl rfl ?_
    refine rr_iload dX9_drawMines_106 7 rfl rfl ?_
    refine rr_iload_n dX9_drawMines_108 rfl 2 rfl rfl ?_
    refine rr_V [.int v9, .int v2] [] dX9_drawMines_109 kX9_canBeMined mX9_147 ⟨by decide, by decide⟩ (by decide) rfl rfl rfl (Nat.le_of_ble_eq_true rfl) rfl (h.mono fun vr I2 J1 h => ?_)
    obtain ⟨r1, rfl, h⟩ := h
    show rr pgM zX9_drawMines 112 _ [.int r1] _ _ _
    refine rr_if_eq (tgt := 142) dX9_drawMines_112 (by decide) rfl ⟨fun hc => ?_, fun hc => ?_⟩
    · have h := h.1 hc
      refine rr_iinc (k := 7) (v := (v9 + (1 : Int32))) (lv' := [(9, .int (v9 + (1 : Int32))), (0, .ref 0), (1, .int v1), (2, .int v2), (4, .int v4), (5, .int v5), (7, .int v7), (8, .int v8)]) dX9_drawMines_142 rfl rfl (by decide) rfl rfl ?_
      refine rr_goto (tgt := 96) dX9_drawMines_145 (by decide) ?_
      exact rr.sub [1, 2, 3, 4, 5, 6, 7, 0] rfl h
    · have h := h.2 hc
      refine rr_aload_n dX9_drawMines_115 rfl 0 rfl rfl ?_
      refine rr_getR dX9_drawMines_116 fX9_23 (by decide) rfl rfl rfl ?_
      refine rr_iload dX9_drawMines_119 7 rfl rfl ?_
      refine rr_zald dX9_drawMines_121 (by decide) rfl rfl ⟨h.1, ?_⟩
      have h := h.2
      refine rr_if_ne (tgt := 142) dX9_drawMines_122 (by decide) rfl ⟨fun hc => ?_, fun hc => ?_⟩
      · have h := h.1 hc
        refine rr_iinc (k := 7) (v := (v9 + (1 : Int32))) (lv' := [(9, .int (v9 + (1 : Int32))), (0, .ref 0), (1, .int v1), (2, .int v2), (4, .int v4), (5, .int v5), (7, .int v7), (8, .int v8)]) dX9_drawMines_142 rfl rfl (by decide) rfl rfl ?_
        refine rr_goto (tgt := 96) dX9_drawMines_145 (by decide) ?_
        exact rr.sub [1, 2, 3, 4, 5, 6, 7, 0] rfl h
      · have h := h.2 hc
        refine rr_iload dX9_drawMines_125 5 rfl rfl ?_
        refine rr_if_ne (tgt := 135) dX9_drawMines_127 (by decide) rfl ⟨fun hc => ?_, fun hc => ?_⟩
        · have h := h.1 hc
          refine rr_iload dX9_drawMines_135 6 rfl rfl ?_
          refine rr_istore (lv' := [(8, .int v8), (0, .ref 0), (1, .int v1), (2, .int v2), (4, .int v4), (5, .int v5), (7, .int v7), (9, .int v9)]) dX9_drawMines_137 (by decide) rfl rfl ?_
          refine rr_iinc (k := 6) (v := (v7 + (-1 : Int32))) (lv' := [(7, .int (v7 + (-1 : Int32))), (8, .int v8), (0, .ref 0), (1, .int v1), (2, .int v2), (4, .int v4), (5, .int v5), (9, .int v9)]) dX9_drawMines_139 rfl rfl (by decide) rfl rfl ?_
          refine rr_iinc (k := 7) (v := (v9 + (1 : Int32))) (lv' := [(9, .int (v9 + (1 : Int32))), (7, .int (v7 + (-1 : Int32))), (8, .int v8), (0, .ref 0), (1, .int v1), (2, .int v2), (4, .int v4), (5, .int v5)]) dX9_drawMines_142 rfl rfl (by decide) rfl rfl ?_
          refine rr_goto (tgt := 96) dX9_drawMines_145 (by decide) ?_
          exact rr.sub [3, 4, 5, 6, 7, 1, 2, 0] rfl h
        · have h := h.2 hc
          refine rr_iload dX9_drawMines_130 7 rfl rfl ?_
          refine rr_goto (tgt := 137) dX9_drawMines_132 (by decide) ?_
          refine rr_istore (lv' := [(8, .int v9), (0, .ref 0), (1, .int v1), (2, .int v2), (4, .int v4), (5, .int v5), (7, .int v7), (9, .int v9)]) dX9_drawMines_137 (by decide) rfl rfl ?_
          refine rr_iinc (k := 6) (v := (v7 + (-1 : Int32))) (lv' := [(7, .int (v7 + (-1 : Int32))), (8, .int v9), (0, .ref 0), (1, .int v1), (2, .int v2), (4, .int v4), (5, .int v5), (9, .int v9)]) dX9_drawMines_139 rfl rfl (by decide) rfl rfl ?_
          refine rr_iinc (k := 7) (v := (v9 + (1 : Int32))) (lv' := [(9, .int (v9 + (1 : Int32))), (7, .int (v7 + (-1 : Int32))), (8, .int v9), (0, .ref 0), (1, .int v1), (2, .int v2), (4, .int v4), (5, .int v5)]) dX9_drawMines_142 rfl rfl (by decide) rfl rfl ?_
          refine rr_goto (tgt := 96) dX9_drawMines_145 (by decide) ?_
          exact rr.sub [3, 4, 5, 6, 7, 1, 2, 0] rfl h

def l_X9_plays_11 (I : tg_I) (J : tg_J) (P : Option Value → tg_I → tg_J → Prop) (v2 : Int32) (v3 : Int32) : Prop := rr pgM zX9_plays 11 [(0, .ref 0), (2, .int v2), (3, .int v3)] [] I J P
theorem e_X9_plays {I : tg_I} {J : tg_J} {P : Option Value → tg_I → tg_J → Prop} (v1 : Int32) (v2 : Int32) (h :
  call pgM zX9_hideAll [.ref 0] I J (fun vr I1 J1 => vr = none ∧
  (call pgM zX9_uncover [.ref 0, .int v1] I1 J1 (fun vr I2 J2 => vr = none ∧
  (l_X9_plays_11 I2 J2 P v2 ((1 : Int32))))))) : call pgM zX9_plays [.ref 0, .int v1, .int v2] I J P := by
  refine call_of (by decide +kernel) (fun _ => Nat.le_of_ble_eq_true rfl) ?_
  show rr pgM zX9_plays 0 [(0, .ref 0), (1, .int v1), (2, .int v2)] [] I J P
  refine rr_aload_n dX9_plays_0 rfl 0 rfl rfl ?_
  refine rr_V [] [] dX9_plays_1 kX9_hideAll mX9_120 ⟨by decide, by decide⟩ (by decide) rfl rfl rfl (Nat.le_of_ble_eq_true rfl) rfl (h.mono fun vr I1 J1 h => ?_)
  obtain ⟨rfl, h⟩ := h
  show rr pgM zX9_plays 4 _ [] _ _ _
  refine rr_aload_n dX9_plays_4 rfl 0 rfl rfl ?_
  refine rr_iload_n dX9_plays_5 rfl 1 rfl rfl ?_
  refine rr_V [.int v1] [] dX9_plays_6 kX9_uncover mX9_151 ⟨by decide, by decide⟩ (by decide) rfl rfl rfl (Nat.le_of_ble_eq_true rfl) rfl (h.mono fun vr I2 J2 h => ?_)
  obtain ⟨rfl, h⟩ := h
  show rr pgM zX9_plays 9 _ [] _ _ _
  refine rr_iconst (v := (1 : Int32)) dX9_plays_9 (by decide) rfl ?_
  refine rr_istore_n (lv' := [(3, .int (1 : Int32)), (0, .ref 0), (1, .int v1), (2, .int v2)]) dX9_plays_10 rfl (by decide) rfl rfl ?_
  exact rr.sub [1, 3, 0] rfl h
theorem s_X9_plays_11 {I : tg_I} {J : tg_J} {P : Option Value → tg_I → tg_J → Prop} (v2 : Int32) (v3 : Int32) (h :
  (v3 = 0 →
   call pgM zX9_isSolved [.ref 0] I J (fun vr I1 J1 => ∃ r1 : Int32, vr = some (.int r1) ∧
    (narrow .boolean (.int r1) = .int r1 ∧ P (some (.int r1)) I1 J1))) ∧
  (¬ v3 = 0 →
   call pgM zX9_isSolved [.ref 0] I J (fun vr I2 J2 => ∃ r2 : Int32, vr = some (.int r2) ∧
    ((¬ r2 = 0 →
     call pgM zX9_isSolved [.ref 0] I2 J2 (fun vr I3 J3 => ∃ r3 : Int32, vr = some (.int r3) ∧
      (narrow .boolean (.int r3) = .int r3 ∧ P (some (.int r3)) I3 J3))) ∧
    (r2 = 0 →
     call pgM zX9_find [.ref 0, .int v2] I2 J2 (fun vr I4 J4 => vr = none ∧
      (((I4 0 23) < 0 →
       l_X9_plays_11 I4 J4 P v2 ((0 : Int32))) ∧
      (¬ (I4 0 23) < 0 →
       vp_in (I4 0 23) 100 ∧
        ((¬ (I4 13 (Int32.toNatClampNeg (I4 0 23))) = 0 →
         vp_in (I4 0 23) 100 ∧ ∀ I5, I5 = u2 I4 4 (Int32.toNatClampNeg (I4 0 23)) (vp_nar .boolean (1 : Int32)) →
          l_X9_plays_11 I5 J4 P v2 ((1 : Int32))) ∧
        ((I4 13 (Int32.toNatClampNeg (I4 0 23))) = 0 →
         call pgM zX9_uncover [.ref 0, .int (I4 0 23)] I4 J4 (fun vr I6 J5 => vr = none ∧
          (l_X9_plays_11 I6 J5 P v2 ((1 : Int32)))))))))))))) : l_X9_plays_11 I J P v2 v3 := by
  show rr pgM zX9_plays 11 [(0, .ref 0), (2, .int v2), (3, .int v3)] [] I J P
  refine rr_iload_n dX9_plays_11 rfl 2 rfl rfl ?_
  refine rr_if_eq (tgt := 84) dX9_plays_12 (by decide) rfl ⟨fun hc => ?_, fun hc => ?_⟩
  · have h := h.1 hc
    refine rr_aload_n dX9_plays_84 rfl 0 rfl rfl ?_
    refine rr_V [] [] dX9_plays_85 kX9_isSolved mX9_155 ⟨by decide, by decide⟩ (by decide) rfl rfl rfl (Nat.le_of_ble_eq_true rfl) rfl (h.mono fun vr I1 J1 h => ?_)
    obtain ⟨r1, rfl, h⟩ := h
    show rr pgM zX9_plays 88 _ [.int r1] _ _ _
    exact rr_zret dX9_plays_88 rfl h.1 h.2
  · have h := h.2 hc
    refine rr_aload_n dX9_plays_15 rfl 0 rfl rfl ?_
    refine rr_V [] [] dX9_plays_16 kX9_isSolved mX9_155 ⟨by decide, by decide⟩ (by decide) rfl rfl rfl (Nat.le_of_ble_eq_true rfl) rfl (h.mono fun vr I2 J2 h => ?_)
    obtain ⟨r2, rfl, h⟩ := h
    show rr pgM zX9_plays 19 _ [.int r2] _ _ _
    refine rr_if_ne (tgt := 84) dX9_plays_19 (by decide) rfl ⟨fun hc => ?_, fun hc => ?_⟩
    · have h := h.1 hc
      refine rr_aload_n dX9_plays_84 rfl 0 rfl rfl ?_
      refine rr_V [] [] dX9_plays_85 kX9_isSolved mX9_155 ⟨by decide, by decide⟩ (by decide) rfl rfl rfl (Nat.le_of_ble_eq_true rfl) rfl (h.mono fun vr I3 J3 h => ?_)
      obtain ⟨r3, rfl, h⟩ := h
      show rr pgM zX9_plays 88 _ [.int r3] _ _ _
      exact rr_zret dX9_plays_88 rfl h.1 h.2
    · have h := h.2 hc
      refine rr_aload_n dX9_plays_22 rfl 0 rfl rfl ?_
      refine rr_iload_n dX9_plays_23 rfl 1 rfl rfl ?_
      refine rr_V [.int v2] [] dX9_plays_24 kX9_find mX9_159 ⟨by decide, by decide⟩ (by decide) rfl rfl rfl (Nat.le_of_ble_eq_true rfl) rfl (h.mono fun vr I4 J4 h => ?_)
      obtain ⟨rfl, h⟩ := h
      show rr pgM zX9_plays 27 _ [] _ _ _
      refine rr_aload_n dX9_plays_27 rfl 0 rfl rfl ?_
      refine rr_getI dX9_plays_28 fX9_162 (by decide) rfl rfl rfl ?_
      refine rr_if_lt (tgt := 38) dX9_plays_31 (by decide) rfl ⟨fun hc => ?_, fun hc => ?_⟩
      · have h := h.1 hc
        refine rr_iconst (v := (0 : Int32)) dX9_plays_38 (by decide) rfl ?_
        refine rr_istore_n (lv' := [(3, .int (0 : Int32)), (0, .ref 0), (2, .int v2)]) dX9_plays_39 rfl (by decide) rfl rfl ?_
        refine rr_iload_n dX9_plays_40 rfl 0 rfl rfl ?_
        refine rr_if_eq (tgt := 67) dX9_plays_41 (by decide) rfl ⟨fun _ => ?_, fun hc => absurd hc (by decide)⟩
        refine rr_iload_n dX9_plays_67 rfl 0 rfl rfl ?_
        refine rr_if_eq (tgt := 11) dX9_plays_68 (by decide) rfl ⟨fun _ => ?_, fun hc => absurd hc (by decide)⟩
        exact rr.sub [1, 2, 0] rfl h
      · have h := h.2 hc
        refine rr_iconst (v := (1 : Int32)) dX9_plays_34 (by decide) rfl ?_
        refine rr_goto (tgt := 39) dX9_plays_35 (by decide) ?_
        refine rr_istore_n (lv' := [(3, .int (1 : Int32)), (0, .ref 0), (2, .int v2)]) dX9_plays_39 rfl (by decide) rfl rfl ?_
        refine rr_iload_n dX9_plays_40 rfl 0 rfl rfl ?_
        refine rr_if_eq (tgt := 67) dX9_plays_41 (by decide) rfl ⟨fun hc => absurd hc (by decide), fun _ => ?_⟩
        refine rr_aload_n dX9_plays_44 rfl 1 rfl rfl ?_
        refine rr_getR dX9_plays_45 fX9_60 (by decide) rfl rfl rfl ?_
        refine rr_aload_n dX9_plays_48 rfl 1 rfl rfl ?_
        refine rr_getI dX9_plays_49 fX9_162 (by decide) rfl rfl rfl ?_
        refine rr_iald dX9_plays_52 (by decide) rfl rfl ⟨h.1, ?_⟩
        have h := h.2
        refine rr_if_ne (tgt := 67) dX9_plays_53 (by decide) rfl ⟨fun hc => ?_, fun hc => ?_⟩
        · have h := h.1 hc
          refine rr_iload_n dX9_plays_67 rfl 0 rfl rfl ?_
          refine rr_if_eq (tgt := 11) dX9_plays_68 (by decide) rfl ⟨fun hc => absurd hc (by decide), fun _ => ?_⟩
          refine rr_aload_n dX9_plays_71 rfl 1 rfl rfl ?_
          refine rr_getR dX9_plays_72 fX9_30 (by decide) rfl rfl rfl ?_
          refine rr_aload_n dX9_plays_75 rfl 1 rfl rfl ?_
          refine rr_getI dX9_plays_76 fX9_162 (by decide) rfl rfl rfl ?_
          refine rr_iconst (v := (1 : Int32)) dX9_plays_79 (by decide) rfl ?_
          refine rr_zast dX9_plays_80 (by decide) rfl rfl ⟨h.1, ?_⟩
          refine rr_letI (fun I5 hI5 => ?_)
          have h := h.2 I5 hI5
          refine rr_goto (tgt := 11) dX9_plays_81 (by decide) ?_
          exact rr.sub [1, 2, 0] rfl h
        · have h := h.2 hc
          refine rr_aload_n dX9_plays_56 rfl 1 rfl rfl ?_
          refine rr_aload_n dX9_plays_57 rfl 1 rfl rfl ?_
          refine rr_getI dX9_plays_58 fX9_162 (by decide) rfl rfl rfl ?_
          refine rr_V [.int (I4 0 23)] [] dX9_plays_61 kX9_uncover mX9_151 ⟨by decide, by decide⟩ (by decide) rfl rfl rfl (Nat.le_of_ble_eq_true rfl) rfl (h.mono fun vr I6 J5 h => ?_)
          obtain ⟨rfl, h⟩ := h
          show rr pgM zX9_plays 64 _ [] _ _ _
          refine rr_goto (tgt := 11) dX9_plays_64 (by decide) ?_
          exact rr.sub [1, 2, 0] rfl h

def l_X9_mends_11 (I : tg_I) (J : tg_J) (P : Option Value → tg_I → tg_J → Prop) (v1 : Int32) (v2 : Int32) (v3 : Int32) : Prop := rr pgM zX9_mends 11 [(0, .ref 0), (1, .int v1), (2, .int v2), (3, .int v3)] [] I J P
theorem e_X9_mends {I : tg_I} {J : tg_J} {P : Option Value → tg_I → tg_J → Prop} (h :
  l_X9_mends_11 I J P ((-1 : Int32)) ((-1 : Int32)) (((I 0 3) - (1 : Int32)))) : call pgM zX9_mends [.ref 0] I J P := by
  refine call_of (by decide +kernel) (fun _ => Nat.le_of_ble_eq_true rfl) ?_
  show rr pgM zX9_mends 0 [(0, .ref 0)] [] I J P
  refine rr_iconst (v := (-1 : Int32)) dX9_mends_0 (by decide) rfl ?_
  refine rr_istore_n (lv' := [(1, .int (-1 : Int32)), (0, .ref 0)]) dX9_mends_1 rfl (by decide) rfl rfl ?_
  refine rr_iconst (v := (-1 : Int32)) dX9_mends_2 (by decide) rfl ?_
  refine rr_istore_n (lv' := [(2, .int (-1 : Int32)), (1, .int (-1 : Int32)), (0, .ref 0)]) dX9_mends_3 rfl (by decide) rfl rfl ?_
  refine rr_aload_n dX9_mends_4 rfl 2 rfl rfl ?_
  refine rr_getI dX9_mends_5 fX9_16 (by decide) rfl rfl rfl ?_
  refine rr_iconst (v := (1 : Int32)) dX9_mends_8 (by decide) rfl ?_
  refine rr_isub dX9_mends_9 rfl ?_
  refine rr_istore_n (lv' := [(3, .int ((I 0 3) - (1 : Int32))), (2, .int (-1 : Int32)), (1, .int (-1 : Int32)), (0, .ref 0)]) dX9_mends_10 rfl (by decide) rfl rfl ?_
  exact rr.sub [3, 2, 1, 0] rfl h
theorem s_X9_mends_11 {I : tg_I} {J : tg_J} {P : Option Value → tg_I → tg_J → Prop} (v1 : Int32) (v2 : Int32) (v3 : Int32) (h :
  (v3 < 0 →
   (v1 < 0 →
     P (some (.int (0 : Int32))) I J) ∧
    (¬ v1 < 0 →
     (0 ≤ v2 →
       vp_in v1 100 ∧ ∀ I1, I1 = u2 I 2 (Int32.toNatClampNeg v1) (vp_nar .boolean (0 : Int32)) →
        vp_in v2 100 ∧ ∀ I2, I2 = u2 I1 2 (Int32.toNatClampNeg v2) (vp_nar .boolean (1 : Int32)) →
        P (some (.int (1 : Int32))) I2 J) ∧
      (¬ 0 ≤ v2 →
       P (some (.int (0 : Int32))) I J))) ∧
  (¬ v3 < 0 →
   call pgM zX9_nearState [.ref 0, .int v3, .int (1 : Int32)] I J (fun vr I3 J1 => ∃ r1 : Int32, vr = some (.int r1) ∧
    ((r1 ≤ 0 →
     vp_in v3 100 ∧
      ((¬ (I3 3 (Int32.toNatClampNeg v3)) = 0 →
       vp_in v3 100 ∧
        ((¬ (I3 3 (Int32.toNatClampNeg v3)) = 0 →
         l_X9_mends_11 I3 J1 P v1 v2 ((v3 + (-1 : Int32)))) ∧
        ((I3 3 (Int32.toNatClampNeg v3)) = 0 →
         vp_in v3 100 ∧
          ((¬ (I3 2 (Int32.toNatClampNeg v3)) = 0 →
           l_X9_mends_11 I3 J1 P v1 v2 ((v3 + (-1 : Int32)))) ∧
          ((I3 2 (Int32.toNatClampNeg v3)) = 0 →
           l_X9_mends_11 I3 J1 P v1 v3 ((v3 + (-1 : Int32)))))))) ∧
      ((I3 3 (Int32.toNatClampNeg v3)) = 0 →
       vp_in v3 100 ∧
        (((I3 2 (Int32.toNatClampNeg v3)) = 0 →
         vp_in v3 100 ∧
          ((¬ (I3 3 (Int32.toNatClampNeg v3)) = 0 →
           l_X9_mends_11 I3 J1 P v1 v2 ((v3 + (-1 : Int32)))) ∧
          ((I3 3 (Int32.toNatClampNeg v3)) = 0 →
           vp_in v3 100 ∧
            ((¬ (I3 2 (Int32.toNatClampNeg v3)) = 0 →
             l_X9_mends_11 I3 J1 P v1 v2 ((v3 + (-1 : Int32)))) ∧
            ((I3 2 (Int32.toNatClampNeg v3)) = 0 →
             l_X9_mends_11 I3 J1 P v1 v3 ((v3 + (-1 : Int32)))))))) ∧
        (¬ (I3 2 (Int32.toNatClampNeg v3)) = 0 →
         vp_in v3 100 ∧
          ((¬ (I3 3 (Int32.toNatClampNeg v3)) = 0 →
           l_X9_mends_11 I3 J1 P v1 v2 ((v3 + (-1 : Int32)))) ∧
          ((I3 3 (Int32.toNatClampNeg v3)) = 0 →
           vp_in v3 100 ∧
            ((¬ (I3 2 (Int32.toNatClampNeg v3)) = 0 →
             l_X9_mends_11 I3 J1 P v1 v2 ((v3 + (-1 : Int32)))) ∧
            ((I3 2 (Int32.toNatClampNeg v3)) = 0 →
             l_X9_mends_11 I3 J1 P v1 v3 ((v3 + (-1 : Int32)))))))))))) ∧
    (¬ r1 ≤ 0 →
     vp_in v3 100 ∧
      ((¬ (I3 3 (Int32.toNatClampNeg v3)) = 0 →
       vp_in v3 100 ∧
        ((¬ (I3 3 (Int32.toNatClampNeg v3)) = 0 →
         l_X9_mends_11 I3 J1 P v1 v2 ((v3 + (-1 : Int32)))) ∧
        ((I3 3 (Int32.toNatClampNeg v3)) = 0 →
         vp_in v3 100 ∧
          ((¬ (I3 2 (Int32.toNatClampNeg v3)) = 0 →
           l_X9_mends_11 I3 J1 P v1 v2 ((v3 + (-1 : Int32)))) ∧
          ((I3 2 (Int32.toNatClampNeg v3)) = 0 →
           l_X9_mends_11 I3 J1 P v1 v2 ((v3 + (-1 : Int32)))))))) ∧
      ((I3 3 (Int32.toNatClampNeg v3)) = 0 →
       vp_in v3 100 ∧
        (((I3 2 (Int32.toNatClampNeg v3)) = 0 →
         vp_in v3 100 ∧
          ((¬ (I3 3 (Int32.toNatClampNeg v3)) = 0 →
           l_X9_mends_11 I3 J1 P v1 v2 ((v3 + (-1 : Int32)))) ∧
          ((I3 3 (Int32.toNatClampNeg v3)) = 0 →
           vp_in v3 100 ∧
            ((¬ (I3 2 (Int32.toNatClampNeg v3)) = 0 →
             l_X9_mends_11 I3 J1 P v1 v2 ((v3 + (-1 : Int32)))) ∧
            ((I3 2 (Int32.toNatClampNeg v3)) = 0 →
             l_X9_mends_11 I3 J1 P v1 v2 ((v3 + (-1 : Int32)))))))) ∧
        (¬ (I3 2 (Int32.toNatClampNeg v3)) = 0 →
         vp_in v3 100 ∧
          ((¬ (I3 3 (Int32.toNatClampNeg v3)) = 0 →
           l_X9_mends_11 I3 J1 P v3 v2 ((v3 + (-1 : Int32)))) ∧
          ((I3 3 (Int32.toNatClampNeg v3)) = 0 →
           vp_in v3 100 ∧
            ((¬ (I3 2 (Int32.toNatClampNeg v3)) = 0 →
             l_X9_mends_11 I3 J1 P v3 v2 ((v3 + (-1 : Int32)))) ∧
            ((I3 2 (Int32.toNatClampNeg v3)) = 0 →
             l_X9_mends_11 I3 J1 P v3 v2 ((v3 + (-1 : Int32)))))))))))))))) : l_X9_mends_11 I J P v1 v2 v3 := by
  show rr pgM zX9_mends 11 [(0, .ref 0), (1, .int v1), (2, .int v2), (3, .int v3)] [] I J P
  refine rr_iload_n dX9_mends_11 rfl 3 rfl rfl ?_
  refine rr_if_lt (tgt := 95) dX9_mends_12 (by decide) rfl ⟨fun hc => ?_, fun hc => ?_⟩
  · have h := h.1 hc
    refine rr_iload_n dX9_mends_95 rfl 1 rfl rfl ?_
    refine rr_if_lt (tgt := 103) dX9_mends_96 (by decide) rfl ⟨fun hc => ?_, fun hc => ?_⟩
    · have h := h.1 hc
      refine rr_iconst (v := (0 : Int32)) dX9_mends_103 (by decide) rfl ?_
      exact rr_zret dX9_mends_104 rfl rfl h
    · have h := h.2 hc
      refine rr_iload_n dX9_mends_99 rfl 2 rfl rfl ?_
      refine rr_if_ge (tgt := 105) dX9_mends_100 (by decide) rfl ⟨fun hc => ?_, fun hc => ?_⟩
      · have h := h.1 hc
        refine rr_aload_n dX9_mends_105 rfl 0 rfl rfl ?_
        refine rr_getR dX9_mends_106 fX9_23 (by decide) rfl rfl rfl ?_
        refine rr_iload_n dX9_mends_109 rfl 1 rfl rfl ?_
        refine rr_iconst (v := (0 : Int32)) dX9_mends_110 (by decide) rfl ?_
        refine rr_zast dX9_mends_111 (by decide) rfl rfl ⟨h.1, ?_⟩
        refine rr_letI (fun I1 hI1 => ?_)
        have h := h.2 I1 hI1
        refine rr_aload_n dX9_mends_112 rfl 0 rfl rfl ?_
        refine rr_getR dX9_mends_113 fX9_23 (by decide) rfl rfl rfl ?_
        refine rr_iload_n dX9_mends_116 rfl 2 rfl rfl ?_
        refine rr_iconst (v := (1 : Int32)) dX9_mends_117 (by decide) rfl ?_
        refine rr_zast dX9_mends_118 (by decide) rfl rfl ⟨h.1, ?_⟩
        refine rr_letI (fun I2 hI2 => ?_)
        have h := h.2 I2 hI2
        refine rr_iconst (v := (1 : Int32)) dX9_mends_119 (by decide) rfl ?_
        exact rr_zret dX9_mends_120 rfl rfl h
      · have h := h.2 hc
        refine rr_iconst (v := (0 : Int32)) dX9_mends_103 (by decide) rfl ?_
        exact rr_zret dX9_mends_104 rfl rfl h
  · have h := h.2 hc
    refine rr_aload_n dX9_mends_15 rfl 0 rfl rfl ?_
    refine rr_iload_n dX9_mends_16 rfl 3 rfl rfl ?_
    refine rr_iconst (v := (1 : Int32)) dX9_mends_17 (by decide) rfl ?_
    refine rr_V [.int v3, .int (1 : Int32)] [] dX9_mends_18 kX9_nearState mX9_165 ⟨by decide, by decide⟩ (by decide) rfl rfl rfl (Nat.le_of_ble_eq_true rfl) rfl (h.mono fun vr I3 J1 h => ?_)
    obtain ⟨r1, rfl, h⟩ := h
    show rr pgM zX9_mends 21 _ [.int r1] _ _ _
    refine rr_if_le (tgt := 28) dX9_mends_21 (by decide) rfl ⟨fun hc => ?_, fun hc => ?_⟩
    · have h := h.1 hc
      refine rr_iconst (v := (0 : Int32)) dX9_mends_28 (by decide) rfl ?_
      refine rr_istore (lv' := [(4, .int (0 : Int32)), (0, .ref 0), (1, .int v1), (2, .int v2), (3, .int v3)]) dX9_mends_29 (by decide) rfl rfl ?_
      refine rr_aload_n dX9_mends_31 rfl 1 rfl rfl ?_
      refine rr_getR dX9_mends_32 fX9_26 (by decide) rfl rfl rfl ?_
      refine rr_iload_n dX9_mends_35 rfl 4 rfl rfl ?_
      refine rr_iald dX9_mends_36 (by decide) rfl rfl ⟨h.1, ?_⟩
      have h := h.2
      refine rr_if_ne (tgt := 58) dX9_mends_37 (by decide) rfl ⟨fun hc => ?_, fun hc => ?_⟩
      · have h := h.1 hc
        refine rr_iload_n dX9_mends_58 rfl 2 rfl rfl ?_
        refine rr_istore_n (lv' := [(1, .int v1), (4, .int (0 : Int32)), (0, .ref 0), (2, .int v2), (3, .int v3)]) dX9_mends_59 rfl (by decide) rfl rfl ?_
        refine rr_aload_n dX9_mends_60 rfl 2 rfl rfl ?_
        refine rr_getR dX9_mends_61 fX9_26 (by decide) rfl rfl rfl ?_
        refine rr_iload_n dX9_mends_64 rfl 4 rfl rfl ?_
        refine rr_iald dX9_mends_65 (by decide) rfl rfl ⟨h.1, ?_⟩
        have h := h.2
        refine rr_if_ne (tgt := 87) dX9_mends_66 (by decide) rfl ⟨fun hc => ?_, fun hc => ?_⟩
        · have h := h.1 hc
          refine rr_iload_n dX9_mends_87 rfl 3 rfl rfl ?_
          refine rr_istore_n (lv' := [(2, .int v2), (1, .int v1), (4, .int (0 : Int32)), (0, .ref 0), (3, .int v3)]) dX9_mends_88 rfl (by decide) rfl rfl ?_
          refine rr_iinc (k := 4) (v := (v3 + (-1 : Int32))) (lv' := [(3, .int (v3 + (-1 : Int32))), (2, .int v2), (1, .int v1), (4, .int (0 : Int32)), (0, .ref 0)]) dX9_mends_89 rfl rfl (by decide) rfl rfl ?_
          refine rr_goto (tgt := 11) dX9_mends_92 (by decide) ?_
          exact rr.sub [4, 2, 1, 0] rfl h
        · have h := h.2 hc
          refine rr_aload_n dX9_mends_69 rfl 2 rfl rfl ?_
          refine rr_getR dX9_mends_70 fX9_23 (by decide) rfl rfl rfl ?_
          refine rr_iload_n dX9_mends_73 rfl 4 rfl rfl ?_
          refine rr_zald dX9_mends_74 (by decide) rfl rfl ⟨h.1, ?_⟩
          have h := h.2
          refine rr_if_ne (tgt := 87) dX9_mends_75 (by decide) rfl ⟨fun hc => ?_, fun hc => ?_⟩
          · have h := h.1 hc
            refine rr_iload_n dX9_mends_87 rfl 3 rfl rfl ?_
            refine rr_istore_n (lv' := [(2, .int v2), (1, .int v1), (4, .int (0 : Int32)), (0, .ref 0), (3, .int v3)]) dX9_mends_88 rfl (by decide) rfl rfl ?_
            refine rr_iinc (k := 4) (v := (v3 + (-1 : Int32))) (lv' := [(3, .int (v3 + (-1 : Int32))), (2, .int v2), (1, .int v1), (4, .int (0 : Int32)), (0, .ref 0)]) dX9_mends_89 rfl rfl (by decide) rfl rfl ?_
            refine rr_goto (tgt := 11) dX9_mends_92 (by decide) ?_
            exact rr.sub [4, 2, 1, 0] rfl h
          · have h := h.2 hc
            refine rr_iload dX9_mends_78 1 rfl rfl ?_
            refine rr_if_ne (tgt := 87) dX9_mends_80 (by decide) rfl ⟨fun hc => absurd hc (by decide), fun _ => ?_⟩
            refine rr_iload_n dX9_mends_83 rfl 4 rfl rfl ?_
            refine rr_goto (tgt := 88) dX9_mends_84 (by decide) ?_
            refine rr_istore_n (lv' := [(2, .int v3), (1, .int v1), (4, .int (0 : Int32)), (0, .ref 0), (3, .int v3)]) dX9_mends_88 rfl (by decide) rfl rfl ?_
            refine rr_iinc (k := 4) (v := (v3 + (-1 : Int32))) (lv' := [(3, .int (v3 + (-1 : Int32))), (2, .int v3), (1, .int v1), (4, .int (0 : Int32)), (0, .ref 0)]) dX9_mends_89 rfl rfl (by decide) rfl rfl ?_
            refine rr_goto (tgt := 11) dX9_mends_92 (by decide) ?_
            exact rr.sub [4, 2, 1, 0] rfl h
      · have h := h.2 hc
        refine rr_aload_n dX9_mends_40 rfl 1 rfl rfl ?_
        refine rr_getR dX9_mends_41 fX9_23 (by decide) rfl rfl rfl ?_
        refine rr_iload_n dX9_mends_44 rfl 4 rfl rfl ?_
        refine rr_zald dX9_mends_45 (by decide) rfl rfl ⟨h.1, ?_⟩
        have h := h.2
        refine rr_if_eq (tgt := 58) dX9_mends_46 (by decide) rfl ⟨fun hc => ?_, fun hc => ?_⟩
        · have h := h.1 hc
          refine rr_iload_n dX9_mends_58 rfl 2 rfl rfl ?_
          refine rr_istore_n (lv' := [(1, .int v1), (4, .int (0 : Int32)), (0, .ref 0), (2, .int v2), (3, .int v3)]) dX9_mends_59 rfl (by decide) rfl rfl ?_
          refine rr_aload_n dX9_mends_60 rfl 2 rfl rfl ?_
          refine rr_getR dX9_mends_61 fX9_26 (by decide) rfl rfl rfl ?_
          refine rr_iload_n dX9_mends_64 rfl 4 rfl rfl ?_
          refine rr_iald dX9_mends_65 (by decide) rfl rfl ⟨h.1, ?_⟩
          have h := h.2
          refine rr_if_ne (tgt := 87) dX9_mends_66 (by decide) rfl ⟨fun hc => ?_, fun hc => ?_⟩
          · have h := h.1 hc
            refine rr_iload_n dX9_mends_87 rfl 3 rfl rfl ?_
            refine rr_istore_n (lv' := [(2, .int v2), (1, .int v1), (4, .int (0 : Int32)), (0, .ref 0), (3, .int v3)]) dX9_mends_88 rfl (by decide) rfl rfl ?_
            refine rr_iinc (k := 4) (v := (v3 + (-1 : Int32))) (lv' := [(3, .int (v3 + (-1 : Int32))), (2, .int v2), (1, .int v1), (4, .int (0 : Int32)), (0, .ref 0)]) dX9_mends_89 rfl rfl (by decide) rfl rfl ?_
            refine rr_goto (tgt := 11) dX9_mends_92 (by decide) ?_
            exact rr.sub [4, 2, 1, 0] rfl h
          · have h := h.2 hc
            refine rr_aload_n dX9_mends_69 rfl 2 rfl rfl ?_
            refine rr_getR dX9_mends_70 fX9_23 (by decide) rfl rfl rfl ?_
            refine rr_iload_n dX9_mends_73 rfl 4 rfl rfl ?_
            refine rr_zald dX9_mends_74 (by decide) rfl rfl ⟨h.1, ?_⟩
            have h := h.2
            refine rr_if_ne (tgt := 87) dX9_mends_75 (by decide) rfl ⟨fun hc => ?_, fun hc => ?_⟩
            · have h := h.1 hc
              refine rr_iload_n dX9_mends_87 rfl 3 rfl rfl ?_
              refine rr_istore_n (lv' := [(2, .int v2), (1, .int v1), (4, .int (0 : Int32)), (0, .ref 0), (3, .int v3)]) dX9_mends_88 rfl (by decide) rfl rfl ?_
              refine rr_iinc (k := 4) (v := (v3 + (-1 : Int32))) (lv' := [(3, .int (v3 + (-1 : Int32))), (2, .int v2), (1, .int v1), (4, .int (0 : Int32)), (0, .ref 0)]) dX9_mends_89 rfl rfl (by decide) rfl rfl ?_
              refine rr_goto (tgt := 11) dX9_mends_92 (by decide) ?_
              exact rr.sub [4, 2, 1, 0] rfl h
            · have h := h.2 hc
              refine rr_iload dX9_mends_78 1 rfl rfl ?_
              refine rr_if_ne (tgt := 87) dX9_mends_80 (by decide) rfl ⟨fun hc => absurd hc (by decide), fun _ => ?_⟩
              refine rr_iload_n dX9_mends_83 rfl 4 rfl rfl ?_
              refine rr_goto (tgt := 88) dX9_mends_84 (by decide) ?_
              refine rr_istore_n (lv' := [(2, .int v3), (1, .int v1), (4, .int (0 : Int32)), (0, .ref 0), (3, .int v3)]) dX9_mends_88 rfl (by decide) rfl rfl ?_
              refine rr_iinc (k := 4) (v := (v3 + (-1 : Int32))) (lv' := [(3, .int (v3 + (-1 : Int32))), (2, .int v3), (1, .int v1), (4, .int (0 : Int32)), (0, .ref 0)]) dX9_mends_89 rfl rfl (by decide) rfl rfl ?_
              refine rr_goto (tgt := 11) dX9_mends_92 (by decide) ?_
              exact rr.sub [4, 2, 1, 0] rfl h
        · have h := h.2 hc
          refine rr_iload dX9_mends_49 0 rfl rfl ?_
          refine rr_if_eq (tgt := 58) dX9_mends_51 (by decide) rfl ⟨fun _ => ?_, fun hc => absurd hc (by decide)⟩
          refine rr_iload_n dX9_mends_58 rfl 2 rfl rfl ?_
          refine rr_istore_n (lv' := [(1, .int v1), (4, .int (0 : Int32)), (0, .ref 0), (2, .int v2), (3, .int v3)]) dX9_mends_59 rfl (by decide) rfl rfl ?_
          refine rr_aload_n dX9_mends_60 rfl 2 rfl rfl ?_
          refine rr_getR dX9_mends_61 fX9_26 (by decide) rfl rfl rfl ?_
          refine rr_iload_n dX9_mends_64 rfl 4 rfl rfl ?_
          refine rr_iald dX9_mends_65 (by decide) rfl rfl ⟨h.1, ?_⟩
          have h := h.2
          refine rr_if_ne (tgt := 87) dX9_mends_66 (by decide) rfl ⟨fun hc => ?_, fun hc => ?_⟩
          · have h := h.1 hc
            refine rr_iload_n dX9_mends_87 rfl 3 rfl rfl ?_
            refine rr_istore_n (lv' := [(2, .int v2), (1, .int v1), (4, .int (0 : Int32)), (0, .ref 0), (3, .int v3)]) dX9_mends_88 rfl (by decide) rfl rfl ?_
            refine rr_iinc (k := 4) (v := (v3 + (-1 : Int32))) (lv' := [(3, .int (v3 + (-1 : Int32))), (2, .int v2), (1, .int v1), (4, .int (0 : Int32)), (0, .ref 0)]) dX9_mends_89 rfl rfl (by decide) rfl rfl ?_
            refine rr_goto (tgt := 11) dX9_mends_92 (by decide) ?_
            exact rr.sub [4, 2, 1, 0] rfl h
          · have h := h.2 hc
            refine rr_aload_n dX9_mends_69 rfl 2 rfl rfl ?_
            refine rr_getR dX9_mends_70 fX9_23 (by decide) rfl rfl rfl ?_
            refine rr_iload_n dX9_mends_73 rfl 4 rfl rfl ?_
            refine rr_zald dX9_mends_74 (by decide) rfl rfl ⟨h.1, ?_⟩
            have h := h.2
            refine rr_if_ne (tgt := 87) dX9_mends_75 (by decide) rfl ⟨fun hc => ?_, fun hc => ?_⟩
            · have h := h.1 hc
              refine rr_iload_n dX9_mends_87 rfl 3 rfl rfl ?_
              refine rr_istore_n (lv' := [(2, .int v2), (1, .int v1), (4, .int (0 : Int32)), (0, .ref 0), (3, .int v3)]) dX9_mends_88 rfl (by decide) rfl rfl ?_
              refine rr_iinc (k := 4) (v := (v3 + (-1 : Int32))) (lv' := [(3, .int (v3 + (-1 : Int32))), (2, .int v2), (1, .int v1), (4, .int (0 : Int32)), (0, .ref 0)]) dX9_mends_89 rfl rfl (by decide) rfl rfl ?_
              refine rr_goto (tgt := 11) dX9_mends_92 (by decide) ?_
              exact rr.sub [4, 2, 1, 0] rfl h
            · have h := h.2 hc
              refine rr_iload dX9_mends_78 1 rfl rfl ?_
              refine rr_if_ne (tgt := 87) dX9_mends_80 (by decide) rfl ⟨fun hc => absurd hc (by decide), fun _ => ?_⟩
              refine rr_iload_n dX9_mends_83 rfl 4 rfl rfl ?_
              refine rr_goto (tgt := 88) dX9_mends_84 (by decide) ?_
              refine rr_istore_n (lv' := [(2, .int v3), (1, .int v1), (4, .int (0 : Int32)), (0, .ref 0), (3, .int v3)]) dX9_mends_88 rfl (by decide) rfl rfl ?_
              refine rr_iinc (k := 4) (v := (v3 + (-1 : Int32))) (lv' := [(3, .int (v3 + (-1 : Int32))), (2, .int v3), (1, .int v1), (4, .int (0 : Int32)), (0, .ref 0)]) dX9_mends_89 rfl rfl (by decide) rfl rfl ?_
              refine rr_goto (tgt := 11) dX9_mends_92 (by decide) ?_
              exact rr.sub [4, 2, 1, 0] rfl h
    · have h := h.2 hc
      refine rr_iconst (v := (1 : Int32)) dX9_mends_24 (by decide) rfl ?_
      refine rr_goto (tgt := 29) dX9_mends_25 (by decide) ?_
      refine rr_istore (lv' := [(4, .int (1 : Int32)), (0, .ref 0), (1, .int v1), (2, .int v2), (3, .int v3)]) dX9_mends_29 (by decide) rfl rfl ?_
      refine rr_aload_n dX9_mends_31 rfl 1 rfl rfl ?_
      refine rr_getR dX9_mends_32 fX9_26 (by decide) rfl rfl rfl ?_
      refine rr_iload_n dX9_mends_35 rfl 4 rfl rfl ?_
      refine rr_iald dX9_mends_36 (by decide) rfl rfl ⟨h.1, ?_⟩
      have h := h.2
      refine rr_if_ne (tgt := 58) dX9_mends_37 (by decide) rfl ⟨fun hc => ?_, fun hc => ?_⟩
      · have h := h.1 hc
        refine rr_iload_n dX9_mends_58 rfl 2 rfl rfl ?_
        refine rr_istore_n (lv' := [(1, .int v1), (4, .int (1 : Int32)), (0, .ref 0), (2, .int v2), (3, .int v3)]) dX9_mends_59 rfl (by decide) rfl rfl ?_
        refine rr_aload_n dX9_mends_60 rfl 2 rfl rfl ?_
        refine rr_getR dX9_mends_61 fX9_26 (by decide) rfl rfl rfl ?_
        refine rr_iload_n dX9_mends_64 rfl 4 rfl rfl ?_
        refine rr_iald dX9_mends_65 (by decide) rfl rfl ⟨h.1, ?_⟩
        have h := h.2
        refine rr_if_ne (tgt := 87) dX9_mends_66 (by decide) rfl ⟨fun hc => ?_, fun hc => ?_⟩
        · have h := h.1 hc
          refine rr_iload_n dX9_mends_87 rfl 3 rfl rfl ?_
          refine rr_istore_n (lv' := [(2, .int v2), (1, .int v1), (4, .int (1 : Int32)), (0, .ref 0), (3, .int v3)]) dX9_mends_88 rfl (by decide) rfl rfl ?_
          refine rr_iinc (k := 4) (v := (v3 + (-1 : Int32))) (lv' := [(3, .int (v3 + (-1 : Int32))), (2, .int v2), (1, .int v1), (4, .int (1 : Int32)), (0, .ref 0)]) dX9_mends_89 rfl rfl (by decide) rfl rfl ?_
          refine rr_goto (tgt := 11) dX9_mends_92 (by decide) ?_
          exact rr.sub [4, 2, 1, 0] rfl h
        · have h := h.2 hc
          refine rr_aload_n dX9_mends_69 rfl 2 rfl rfl ?_
          refine rr_getR dX9_mends_70 fX9_23 (by decide) rfl rfl rfl ?_
          refine rr_iload_n dX9_mends_73 rfl 4 rfl rfl ?_
          refine rr_zald dX9_mends_74 (by decide) rfl rfl ⟨h.1, ?_⟩
          have h := h.2
          refine rr_if_ne (tgt := 87) dX9_mends_75 (by decide) rfl ⟨fun hc => ?_, fun hc => ?_⟩
          · have h := h.1 hc
            refine rr_iload_n dX9_mends_87 rfl 3 rfl rfl ?_
            refine rr_istore_n (lv' := [(2, .int v2), (1, .int v1), (4, .int (1 : Int32)), (0, .ref 0), (3, .int v3)]) dX9_mends_88 rfl (by decide) rfl rfl ?_
            refine rr_iinc (k := 4) (v := (v3 + (-1 : Int32))) (lv' := [(3, .int (v3 + (-1 : Int32))), (2, .int v2), (1, .int v1), (4, .int (1 : Int32)), (0, .ref 0)]) dX9_mends_89 rfl rfl (by decide) rfl rfl ?_
            refine rr_goto (tgt := 11) dX9_mends_92 (by decide) ?_
            exact rr.sub [4, 2, 1, 0] rfl h
          · have h := h.2 hc
            refine rr_iload dX9_mends_78 1 rfl rfl ?_
            refine rr_if_ne (tgt := 87) dX9_mends_80 (by decide) rfl ⟨fun _ => ?_, fun hc => absurd hc (by decide)⟩
            refine rr_iload_n dX9_mends_87 rfl 3 rfl rfl ?_
            refine rr_istore_n (lv' := [(2, .int v2), (1, .int v1), (4, .int (1 : Int32)), (0, .ref 0), (3, .int v3)]) dX9_mends_88 rfl (by decide) rfl rfl ?_
            refine rr_iinc (k := 4) (v := (v3 + (-1 : Int32))) (lv' := [(3, .int (v3 + (-1 : Int32))), (2, .int v2), (1, .int v1), (4, .int (1 : Int32)), (0, .ref 0)]) dX9_mends_89 rfl rfl (by decide) rfl rfl ?_
            refine rr_goto (tgt := 11) dX9_mends_92 (by decide) ?_
            exact rr.sub [4, 2, 1, 0] rfl h
      · have h := h.2 hc
        refine rr_aload_n dX9_mends_40 rfl 1 rfl rfl ?_
        refine rr_getR dX9_mends_41 fX9_23 (by decide) rfl rfl rfl ?_
        refine rr_iload_n dX9_mends_44 rfl 4 rfl rfl ?_
        refine rr_zald dX9_mends_45 (by decide) rfl rfl ⟨h.1, ?_⟩
        have h := h.2
        refine rr_if_eq (tgt := 58) dX9_mends_46 (by decide) rfl ⟨fun hc => ?_, fun hc => ?_⟩
        · have h := h.1 hc
          refine rr_iload_n dX9_mends_58 rfl 2 rfl rfl ?_
          refine rr_istore_n (lv' := [(1, .int v1), (4, .int (1 : Int32)), (0, .ref 0), (2, .int v2), (3, .int v3)]) dX9_mends_59 rfl (by decide) rfl rfl ?_
          refine rr_aload_n dX9_mends_60 rfl 2 rfl rfl ?_
          refine rr_getR dX9_mends_61 fX9_26 (by decide) rfl rfl rfl ?_
          refine rr_iload_n dX9_mends_64 rfl 4 rfl rfl ?_
          refine rr_iald dX9_mends_65 (by decide) rfl rfl ⟨h.1, ?_⟩
          have h := h.2
          refine rr_if_ne (tgt := 87) dX9_mends_66 (by decide) rfl ⟨fun hc => ?_, fun hc => ?_⟩
          · have h := h.1 hc
            refine rr_iload_n dX9_mends_87 rfl 3 rfl rfl ?_
            refine rr_istore_n (lv' := [(2, .int v2), (1, .int v1), (4, .int (1 : Int32)), (0, .ref 0), (3, .int v3)]) dX9_mends_88 rfl (by decide) rfl rfl ?_
            refine rr_iinc (k := 4) (v := (v3 + (-1 : Int32))) (lv' := [(3, .int (v3 + (-1 : Int32))), (2, .int v2), (1, .int v1), (4, .int (1 : Int32)), (0, .ref 0)]) dX9_mends_89 rfl rfl (by decide) rfl rfl ?_
            refine rr_goto (tgt := 11) dX9_mends_92 (by decide) ?_
            exact rr.sub [4, 2, 1, 0] rfl h
          · have h := h.2 hc
            refine rr_aload_n dX9_mends_69 rfl 2 rfl rfl ?_
            refine rr_getR dX9_mends_70 fX9_23 (by decide) rfl rfl rfl ?_
            refine rr_iload_n dX9_mends_73 rfl 4 rfl rfl ?_
            refine rr_zald dX9_mends_74 (by decide) rfl rfl ⟨h.1, ?_⟩
            have h := h.2
            refine rr_if_ne (tgt := 87) dX9_mends_75 (by decide) rfl ⟨fun hc => ?_, fun hc => ?_⟩
            · have h := h.1 hc
              refine rr_iload_n dX9_mends_87 rfl 3 rfl rfl ?_
              refine rr_istore_n (lv' := [(2, .int v2), (1, .int v1), (4, .int (1 : Int32)), (0, .ref 0), (3, .int v3)]) dX9_mends_88 rfl (by decide) rfl rfl ?_
              refine rr_iinc (k := 4) (v := (v3 + (-1 : Int32))) (lv' := [(3, .int (v3 + (-1 : Int32))), (2, .int v2), (1, .int v1), (4, .int (1 : Int32)), (0, .ref 0)]) dX9_mends_89 rfl rfl (by decide) rfl rfl ?_
              refine rr_goto (tgt := 11) dX9_mends_92 (by decide) ?_
              exact rr.sub [4, 2, 1, 0] rfl h
            · have h := h.2 hc
              refine rr_iload dX9_mends_78 1 rfl rfl ?_
              refine rr_if_ne (tgt := 87) dX9_mends_80 (by decide) rfl ⟨fun _ => ?_, fun hc => absurd hc (by decide)⟩
              refine rr_iload_n dX9_mends_87 rfl 3 rfl rfl ?_
              refine rr_istore_n (lv' := [(2, .int v2), (1, .int v1), (4, .int (1 : Int32)), (0, .ref 0), (3, .int v3)]) dX9_mends_88 rfl (by decide) rfl rfl ?_
              refine rr_iinc (k := 4) (v := (v3 + (-1 : Int32))) (lv' := [(3, .int (v3 + (-1 : Int32))), (2, .int v2), (1, .int v1), (4, .int (1 : Int32)), (0, .ref 0)]) dX9_mends_89 rfl rfl (by decide) rfl rfl ?_
              refine rr_goto (tgt := 11) dX9_mends_92 (by decide) ?_
              exact rr.sub [4, 2, 1, 0] rfl h
        · have h := h.2 hc
          refine rr_iload dX9_mends_49 0 rfl rfl ?_
          refine rr_if_eq (tgt := 58) dX9_mends_51 (by decide) rfl ⟨fun hc => absurd hc (by decide), fun _ => ?_⟩
          refine rr_iload_n dX9_mends_54 rfl 4 rfl rfl ?_
          refine rr_goto (tgt := 59) dX9_mends_55 (by decide) ?_
          refine rr_istore_n (lv' := [(1, .int v3), (4, .int (1 : Int32)), (0, .ref 0), (2, .int v2), (3, .int v3)]) dX9_mends_59 rfl (by decide) rfl rfl ?_
          refine rr_aload_n dX9_mends_60 rfl 2 rfl rfl ?_
          refine rr_getR dX9_mends_61 fX9_26 (by decide) rfl rfl rfl ?_
          refine rr_iload_n dX9_mends_64 rfl 4 rfl rfl ?_
          refine rr_iald dX9_mends_65 (by decide) rfl rfl ⟨h.1, ?_⟩
          have h := h.2
          refine rr_if_ne (tgt := 87) dX9_mends_66 (by decide) rfl ⟨fun hc => ?_, fun hc => ?_⟩
          · have h := h.1 hc
            refine rr_iload_n dX9_mends_87 rfl 3 rfl rfl ?_
            refine rr_istore_n (lv' := [(2, .int v2), (1, .int v3), (4, .int (1 : Int32)), (0, .ref 0), (3, .int v3)]) dX9_mends_88 rfl (by decide) rfl rfl ?_
            refine rr_iinc (k := 4) (v := (v3 + (-1 : Int32))) (lv' := [(3, .int (v3 + (-1 : Int32))), (2, .int v2), (1, .int v3), (4, .int (1 : Int32)), (0, .ref 0)]) dX9_mends_89 rfl rfl (by decide) rfl rfl ?_
            refine rr_goto (tgt := 11) dX9_mends_92 (by decide) ?_
            exact rr.sub [4, 2, 1, 0] rfl h
          · have h := h.2 hc
            refine rr_aload_n dX9_mends_69 rfl 2 rfl rfl ?_
            refine rr_getR dX9_mends_70 fX9_23 (by decide) rfl rfl rfl ?_
            refine rr_iload_n dX9_mends_73 rfl 4 rfl rfl ?_
            refine rr_zald dX9_mends_74 (by decide) rfl rfl ⟨h.1, ?_⟩
            have h := h.2
            refine rr_if_ne (tgt := 87) dX9_mends_75 (by decide) rfl ⟨fun hc => ?_, fun hc => ?_⟩
            · have h := h.1 hc
              refine rr_iload_n dX9_mends_87 rfl 3 rfl rfl ?_
              refine rr_istore_n (lv' := [(2, .int v2), (1, .int v3), (4, .int (1 : Int32)), (0, .ref 0), (3, .int v3)]) dX9_mends_88 rfl (by decide) rfl rfl ?_
              refine rr_iinc (k := 4) (v := (v3 + (-1 : Int32))) (lv' := [(3, .int (v3 + (-1 : Int32))), (2, .int v2), (1, .int v3), (4, .int (1 : Int32)), (0, .ref 0)]) dX9_mends_89 rfl rfl (by decide) rfl rfl ?_
              refine rr_goto (tgt := 11) dX9_mends_92 (by decide) ?_
              exact rr.sub [4, 2, 1, 0] rfl h
            · have h := h.2 hc
              refine rr_iload dX9_mends_78 1 rfl rfl ?_
              refine rr_if_ne (tgt := 87) dX9_mends_80 (by decide) rfl ⟨fun _ => ?_, fun hc => absurd hc (by decide)⟩
              refine rr_iload_n dX9_mends_87 rfl 3 rfl rfl ?_
              refine rr_istore_n (lv' := [(2, .int v2), (1, .int v3), (4, .int (1 : Int32)), (0, .ref 0), (3, .int v3)]) dX9_mends_88 rfl (by decide) rfl rfl ?_
              refine rr_iinc (k := 4) (v := (v3 + (-1 : Int32))) (lv' := [(3, .int (v3 + (-1 : Int32))), (2, .int v2), (1, .int v3), (4, .int (1 : Int32)), (0, .ref 0)]) dX9_mends_89 rfl rfl (by decide) rfl rfl ?_
              refine rr_goto (tgt := 11) dX9_mends_92 (by decide) ?_
              exact rr.sub [4, 2, 1, 0] rfl h

def l_X9_make_55 (I : tg_I) (J : tg_J) (P : Option Value → tg_I → tg_J → Prop) (v3 : Int32) (v5 : Int32) (v6 : Int32) (v7 : Int32) (v8 : Int32) (v9 : Int32) (v10 : Int32) (v11 : Int32) (v12 : Int32) : Prop := rr pgM zX9_make 55 [(0, .ref 0), (3, .int v3), (5, .int v5), (6, .int v6), (7, .int v7), (8, .int v8), (9, .int v9), (10, .int v10), (11, .int v11), (12, .int v12)] [] I J P
def l_X9_make_132 (I : tg_I) (J : tg_J) (P : Option Value → tg_I → tg_J → Prop) (v3 : Int32) (v5 : Int32) (v6 : Int32) (v7 : Int32) (v8 : Int32) (v9 : Int32) (v10 : Int32) (v12 : Int32) : Prop := rr pgM zX9_make 132 [(0, .ref 0), (3, .int v3), (5, .int v5), (6, .int v6), (7, .int v7), (8, .int v8), (9, .int v9), (10, .int v10), (12, .int v12)] [] I J P
def l_X9_make_180 (I : tg_I) (J : tg_J) (P : Option Value → tg_I → tg_J → Prop) (v6 : Int32) (v7 : Int32) (v8 : Int32) (v9 : Int32) (v10 : Int32) (v12 : Int32) (v13 : Int32) : Prop := rr pgM zX9_make 180 [(0, .ref 0), (6, .int v6), (7, .int v7), (8, .int v8), (9, .int v9), (10, .int v10), (12, .int v12), (13, .int v13)] [] I J P
theorem e_X9_make {I : tg_I} {J : tg_J} {P : Option Value → tg_I → tg_J → Prop} (v1 : Int32) (v2 : Int32) (v3 : Int32) (v4 : Int32) (v5 : Int32) (v6 : Int32) (h :
  call pgM zX9_isBoard [.int v1, .int v2, .int v4] I J (fun vr I1 J1 => ∃ r1 : Int32, vr = some (.int r1) ∧
  ((¬ r1 = 0 →
   call pgM zX9_layOut [.ref 0, .int v1, .int v2, .int v4] I1 J1 (fun vr I2 J2 => vr = none ∧
    (∀ x1, x1 = (((v2 / (2 : Int32)) * v1) + (v1 / (2 : Int32))) →
    l_X9_make_55 I2 J2 P v3 v5 v6 ((I1 0 0)) ((I1 0 1)) ((I1 0 2)) x1 ((0 : Int32)) ((0 : Int32))))) ∧
  (r1 = 0 →
   P (some (.int (-1 : Int32))) I1 J1)))) : call pgM zX9_make [.ref 0, .int v1, .int v2, .int v3, .int v4, .int v5, .int v6] I J P := by
  refine call_of (by decide +kernel) (fun _ => Nat.le_of_ble_eq_true rfl) ?_
  show rr pgM zX9_make 0 [(0, .ref 0), (1, .int v1), (2, .int v2), (3, .int v3), (4, .int v4), (5, .int v5), (6, .int v6)] [] I J P
  refine rr_iload_n dX9_make_0 rfl 1 rfl rfl ?_
  refine rr_iload_n dX9_make_1 rfl 2 rfl rfl ?_
  refine rr_iload dX9_make_2 4 rfl rfl ?_
  refine rr_S [.int v1, .int v2, .int v4] [] dX9_make_4 kX9_isBoard mX9_116 ⟨by decide, by decide⟩ rfl rfl (Nat.le_of_ble_eq_true rfl) rfl (h.mono fun vr I1 J1 h => ?_)
  obtain ⟨r1, rfl, h⟩ := h
  show rr pgM zX9_make 7 _ [.int r1] _ _ _
  refine rr_if_ne (tgt := 12) dX9_make_7 (by decide) rfl ⟨fun hc => ?_, fun hc => ?_⟩
  · have h := h.1 hc
    refine rr_aload_n dX9_make_12 rfl 0 rfl rfl ?_
    refine rr_getI dX9_make_13 fX9_7 (by decide) rfl rfl rfl ?_
    refine rr_istore (lv' := [(7, .int (I1 0 0)), (0, .ref 0), (1, .int v1), (2, .int v2), (3, .int v3), (4, .int v4), (5, .int v5), (6, .int v6)]) dX9_make_16 (by decide) rfl rfl ?_
    refine rr_aload_n dX9_make_18 rfl 1 rfl rfl ?_
    refine rr_getI dX9_make_19 fX9_13 (by decide) rfl rfl rfl ?_
    refine rr_istore (lv' := [(8, .int (I1 0 1)), (7, .int (I1 0 0)), (0, .ref 0), (1, .int v1), (2, .int v2), (3, .int v3), (4, .int v4), (5, .int v5), (6, .int v6)]) dX9_make_22 (by decide) rfl rfl ?_
    refine rr_aload_n dX9_make_24 rfl 2 rfl rfl ?_
    refine rr_getI dX9_make_25 fX9_104 (by decide) rfl rfl rfl ?_
    refine rr_istore (lv' := [(9, .int (I1 0 2)), (8, .int (I1 0 1)), (7, .int (I1 0 0)), (0, .ref 0), (1, .int v1), (2, .int v2), (3, .int v3), (4, .int v4), (5, .int v5), (6, .int v6)]) dX9_make_28 (by decide) rfl rfl ?_
    refine rr_aload_n dX9_make_30 rfl 3 rfl rfl ?_
    refine rr_iload_n dX9_make_31 rfl 4 rfl rfl ?_
    refine rr_iload_n dX9_make_32 rfl 5 rfl rfl ?_
    refine rr_iload dX9_make_33 7 rfl rfl ?_
    refine rr_V [.int v1, .int v2, .int v4] [] dX9_make_35 kX9_layOut mX9_100 ⟨by decide, by decide⟩ (by decide) rfl rfl rfl (Nat.le_of_ble_eq_true rfl) rfl (h.mono fun vr I2 J2 h => ?_)
    obtain ⟨rfl, h⟩ := h
    show rr pgM zX9_make 38 _ [] _ _ _
    refine rr_iload_n dX9_make_38 rfl 5 rfl rfl ?_
    refine rr_iconst (v := (2 : Int32)) dX9_make_39 (by decide) rfl ?_
    refine rr_idiv dX9_make_40 (by decide) rfl ?_
    refine rr_iload_n dX9_make_41 rfl 4 rfl rfl ?_
    refine rr_imul dX9_make_42 rfl ?_
    refine rr_iload_n dX9_make_43 rfl 4 rfl rfl ?_
    refine rr_iconst (v := (2 : Int32)) dX9_make_44 (by decide) rfl ?_
    refine rr_idiv dX9_make_45 (by decide) rfl ?_
    refine rr_iadd dX9_make_46 rfl ?_
    refine rr_letTi (fun x1 hx1 => ?_)
    have h := h x1 hx1
    refine rr_istore (lv' := [(10, .int x1), (9, .int (I1 0 2)), (8, .int (I1 0 1)), (7, .int (I1 0 0)), (0, .ref 0), (1, .int v1), (2, .int v2), (3, .int v3), (4, .int v4), (5, .int v5), (6, .int v6)]) dX9_make_47 (by decide) rfl rfl ?_
    refine rr_iconst (v := (0 : Int32)) dX9_make_49 (by decide) rfl ?_
    refine rr_istore (lv' := [(11, .int (0 : Int32)), (10, .int x1), (9, .int (I1 0 2)), (8, .int (I1 0 1)), (7, .int (I1 0 0)), (0, .ref 0), (1, .int v1), (2, .int v2), (3, .int v3), (4, .int v4), (5, .int v5), (6, .int v6)]) dX9_make_50 (by decide) rfl rfl ?_
    refine rr_iconst (v := (0 : Int32)) dX9_make_52 (by decide) rfl ?_
    refine rr_istore (lv' := [(12, .int (0 : Int32)), (11, .int (0 : Int32)), (10, .int x1), (9, .int (I1 0 2)), (8, .int (I1 0 1)), (7, .int (I1 0 0)), (0, .ref 0), (1, .int v1), (2, .int v2), (3, .int v3), (4, .int v4), (5, .int v5), (6, .int v6)]) dX9_make_53 (by decide) rfl rfl ?_
    exact rr.sub [6, 9, 11, 12, 5, 4, 3, 2, 1, 0] rfl h
  · have h := h.2 hc
    refine rr_iconst (v := (-1 : Int32)) dX9_make_10 (by decide) rfl ?_
    exact rr_iret dX9_make_11 rfl h
theorem s_X9_make_55 {I : tg_I} {J : tg_J} {P : Option Value → tg_I → tg_J → Prop} (v3 : Int32) (v5 : Int32) (v6 : Int32) (v7 : Int32) (v8 : Int32) (v9 : Int32) (v10 : Int32) (v11 : Int32) (v12 : Int32) (h :
  ((I 0 3) ≤ v12 →
   (v3 < 0 →
     call pgM zX9_layOut [.ref 0, .int v7, .int v8, .int v9] I J (fun vr I1 J1 => vr = none ∧
      (P (some (.int (-1 : Int32))) I1 J1))) ∧
    (¬ v3 < 0 →
     (v11 < v3 →
       call pgM zX9_layOut [.ref 0, .int v7, .int v8, .int v9] I J (fun vr I2 J2 => vr = none ∧
        (P (some (.int (-1 : Int32))) I2 J2))) ∧
      (¬ v11 < v3 →
       (v6 < (1 : Int32) →
         call pgM zX9_layOut [.ref 0, .int v7, .int v8, .int v9] I J (fun vr I3 J3 => vr = none ∧
          (P (some (.int (-1 : Int32))) I3 J3))) ∧
        (¬ v6 < (1 : Int32) →
         (v6 ≤ (3 : Int32) →
           call pgM zX9_keepBoard [.ref 0] I J (fun vr I4 J4 => vr = none ∧
            (l_X9_make_132 I4 J4 P v3 v5 v6 v7 v8 v9 v10 ((0 : Int32))))) ∧
          (¬ v6 ≤ (3 : Int32) →
           call pgM zX9_layOut [.ref 0, .int v7, .int v8, .int v9] I J (fun vr I5 J5 => vr = none ∧
            (P (some (.int (-1 : Int32))) I5 J5))))))) ∧
  (¬ (I 0 3) ≤ v12 →
   call pgM zX9_canBeMined [.ref 0, .int v12, .int v10] I J (fun vr I6 J6 => ∃ r1 : Int32, vr = some (.int r1) ∧
    ((r1 = 0 →
     l_X9_make_55 I6 J6 P v3 v5 v6 v7 v8 v9 v10 ((v11 + (0 : Int32))) ((v12 + (1 : Int32)))) ∧
    (¬ r1 = 0 →
     l_X9_make_55 I6 J6 P v3 v5 v6 v7 v8 v9 v10 ((v11 + (1 : Int32))) ((v12 + (1 : Int32)))))))) : l_X9_make_55 I J P v3 v5 v6 v7 v8 v9 v10 v11 v12 := by
  show rr pgM zX9_make 55 [(0, .ref 0), (3, .int v3), (5, .int v5), (6, .int v6), (7, .int v7), (8, .int v8), (9, .int v9), (10, .int v10), (11, .int v11), (12, .int v12)] [] I J P
  refine rr_iload dX9_make_55 9 rfl rfl ?_
  refine rr_aload_n dX9_make_57 rfl 0 rfl rfl ?_
  refine rr_getI dX9_make_58 fX9_16 (by decide) rfl rfl rfl ?_
  refine rr_icmp_ge (tgt := 91) dX9_make_61 (by decide) rfl ⟨fun hc => ?_, fun hc => ?_⟩
  · have h := h.1 hc
    refine rr_iload_n dX9_make_91 rfl 1 rfl rfl ?_
    refine rr_if_lt (tgt := 113) dX9_make_92 (by decide) rfl ⟨fun hc => ?_, fun hc => ?_⟩
    · have h := h.1 hc
      refine rr_aload_n dX9_make_113 rfl 0 rfl rfl ?_
      refine rr_iload dX9_make_114 4 rfl rfl ?_
      refine rr_iload dX9_make_116 5 rfl rfl ?_
      refine rr_iload dX9_make_118 6 rfl rfl ?_
      refine rr_V [.int v7, .int v8, .int v9] [] dX9_make_120 kX9_layOut mX9_100 ⟨by decide, by decide⟩ (by decide) rfl rfl rfl (Nat.le_of_ble_eq_true rfl) rfl (h.mono fun vr I1 J1 h => ?_)
      obtain ⟨rfl, h⟩ := h
      show rr pgM zX9_make 123 _ [] _ _ _
      refine rr_iconst (v := (-1 : Int32)) dX9_make_123 (by decide) rfl ?_
      exact rr_iret dX9_make_124 rfl h
    · have h := h.2 hc
      refine rr_iload_n dX9_make_95 rfl 1 rfl rfl ?_
      refine rr_iload dX9_make_96 8 rfl rfl ?_
      refine rr_icmp_gt (tgt := 113) dX9_make_98 (by decide) rfl ⟨fun hc => ?_, fun hc => ?_⟩
      · have h := h.1 hc
        refine rr_aload_n dX9_make_113 rfl 0 rfl rfl ?_
        refine rr_iload dX9_make_114 4 rfl rfl ?_
        refine rr_iload dX9_make_116 5 rfl rfl ?_
        refine rr_iload dX9_make_118 6 rfl rfl ?_
        refine rr_V [.int v7, .int v8, .int v9] [] dX9_make_120 kX9_layOut mX9_100 ⟨by decide, by decide⟩ (by decide) rfl rfl rfl (Nat.le_of_ble_eq_true rfl) rfl (h.mono fun vr I2 J2 h => ?_)
        obtain ⟨rfl, h⟩ := h
        show rr pgM zX9_make 123 _ [] _ _ _
        refine rr_iconst (v := (-1 : Int32)) dX9_make_123 (by decide) rfl ?_
        exact rr_iret dX9_make_124 rfl h
      · have h := h.2 hc
        refine rr_iload dX9_make_101 3 rfl rfl ?_
        refine rr_iconst (v := (1 : Int32)) dX9_make_103 (by decide) rfl ?_
        refine rr_icmp_lt (tgt := 113) dX9_make_104 (by decide) rfl ⟨fun hc => ?_, fun hc => ?_⟩
        · have h := h.1 hc
          refine rr_aload_n dX9_make_113 rfl 0 rfl rfl ?_
          refine rr_iload dX9_make_114 4 rfl rfl ?_
          refine rr_iload dX9_make_116 5 rfl rfl ?_
          refine rr_iload dX9_make_118 6 rfl rfl ?_
          refine rr_V [.int v7, .int v8, .int v9] [] dX9_make_120 kX9_layOut mX9_100 ⟨by decide, by decide⟩ (by decide) rfl rfl rfl (Nat.le_of_ble_eq_true rfl) rfl (h.mono fun vr I3 J3 h => ?_)
          obtain ⟨rfl, h⟩ := h
          show rr pgM zX9_make 123 _ [] _ _ _
          refine rr_iconst (v := (-1 : Int32)) dX9_make_123 (by decide) rfl ?_
          exact rr_iret dX9_make_124 rfl h
        · have h := h.2 hc
          refine rr_iload dX9_make_107 3 rfl rfl ?_
          refine rr_iconst (v := (3 : Int32)) dX9_make_109 (by decide) rfl ?_
          refine rr_icmp_le (tgt := 125) dX9_make_110 (by decide) rfl ⟨fun hc => ?_, fun hc => ?_⟩
          · have h := h.1 hc
            refine rr_aload_n dX9_make_125 rfl 0 rfl rfl ?_
            refine rr_V [] [] dX9_make_126 kX9_keepBoard mX9_169 ⟨by decide, by decide⟩ (by decide) rfl rfl rfl (Nat.le_of_ble_eq_true rfl) rfl (h.mono fun vr I4 J4 h => ?_)
            obtain ⟨rfl, h⟩ := h
            show rr pgM zX9_make 129 _ [] _ _ _
            refine rr_iconst (v := (0 : Int32)) dX9_make_129 (by decide) rfl ?_
            refine rr_istore (lv' := [(12, .int (0 : Int32)), (0, .ref 0), (3, .int v3), (5, .int v5), (6, .int v6), (7, .int v7), (8, .int v8), (9, .int v9), (10, .int v10), (11, .int v11)]) dX9_make_130 (by decide) rfl rfl ?_
            exact rr.sub [1, 2, 3, 4, 5, 6, 7, 8, 0] rfl h
          · have h := h.2 hc
            refine rr_aload_n dX9_make_113 rfl 0 rfl rfl ?_
            refine rr_iload dX9_make_114 4 rfl rfl ?_
            refine rr_iload dX9_make_116 5 rfl rfl ?_
            refine rr_iload dX9_make_118 6 rfl rfl ?_
            refine rr_V [.int v7, .int v8, .int v9] [] dX9_make_120 kX9_layOut mX9_100 ⟨by decide, by decide⟩ (by decide) rfl rfl rfl (Nat.le_of_ble_eq_true rfl) rfl (h.mono fun vr I5 J5 h => ?_)
            obtain ⟨rfl, h⟩ := h
            show rr pgM zX9_make 123 _ [] _ _ _
            refine rr_iconst (v := (-1 : Int32)) dX9_make_123 (by decide) rfl ?_
            exact rr_iret dX9_make_124 rfl h
  · have h := h.2 hc
    refine rr_iload dX9_make_64 8 rfl rfl ?_
    refine rr_aload_n dX9_make_66 rfl 0 rfl rfl ?_
    refine rr_iload dX9_make_67 9 rfl rfl ?_
    refine rr_iload dX9_make_69 7 rfl rfl ?_
    refine rr_V [.int v12, .int v10] [.int v11] dX9_make_71 kX9_canBeMined mX9_147 ⟨by decide, by decide⟩ (by decide) rfl rfl rfl (Nat.le_of_ble_eq_true rfl) rfl (h.mono fun vr I6 J6 h => ?_)
    obtain ⟨r1, rfl, h⟩ := h
    show rr pgM zX9_make 74 _ [.int r1, .int v11] _ _ _
    refine rr_if_eq (tgt := 81) dX9_make_74 (by decide) rfl ⟨fun hc => ?_, fun hc => ?_⟩
    · have h := h.1 hc
      refine rr_iconst (v := (0 : Int32)) dX9_make_81 (by decide) rfl ?_
      refine rr_iadd dX9_make_82 rfl ?_
      refine rr_istore (lv' := [(11, .int (v11 + (0 : Int32))), (0, .ref 0), (3, .int v3), (5, .int v5), (6, .int v6), (7, .int v7), (8, .int v8), (9, .int v9), (10, .int v10), (12, .int v12)]) dX9_make_83 (by decide) rfl rfl ?_
      refine rr_iinc (k := 9) (v := (v12 + (1 : Int32))) (lv' := [(12, .int (v12 + (1 : Int32))), (11, .int (v11 + (0 : Int32))), (0, .ref 0), (3, .int v3), (5, .int v5), (6, .int v6), (7, .int v7), (8, .int v8), (9, .int v9), (10, .int v10)]) dX9_make_85 rfl rfl (by decide) rfl rfl ?_
      refine rr_goto (tgt := 55) dX9_make_88 (by decide) ?_
      exact rr.sub [2, 3, 4, 5, 6, 7, 8, 9, 1, 0] rfl h
    · have h := h.2 hc
      refine rr_iconst (v := (1 : Int32)) dX9_make_77 (by decide) rfl ?_
      refine rr_goto (tgt := 82) dX9_make_78 (by decide) ?_
      refine rr_iadd dX9_make_82 rfl ?_
      refine rr_istore (lv' := [(11, .int (v11 + (1 : Int32))), (0, .ref 0), (3, .int v3), (5, .int v5), (6, .int v6), (7, .int v7), (8, .int v8), (9, .int v9), (10, .int v10), (12, .int v12)]) dX9_make_83 (by decide) rfl rfl ?_
      refine rr_iinc (k := 9) (v := (v12 + (1 : Int32))) (lv' := [(12, .int (v12 + (1 : Int32))), (11, .int (v11 + (1 : Int32))), (0, .ref 0), (3, .int v3), (5, .int v5), (6, .int v6), (7, .int v7), (8, .int v8), (9, .int v9), (10, .int v10)]) dX9_make_85 rfl rfl (by decide) rfl rfl ?_
      refine rr_goto (tgt := 55) dX9_make_88 (by decide) ?_
      exact rr.sub [2, 3, 4, 5, 6, 7, 8, 9, 1, 0] rfl h
theorem s_X9_make_132 {I : tg_I} {J : tg_J} {P : Option Value → tg_I → tg_J → Prop} (v3 : Int32) (v5 : Int32) (v6 : Int32) (v7 : Int32) (v8 : Int32) (v9 : Int32) (v10 : Int32) (v12 : Int32) (h :
  ((100 : Int32) ≤ v12 →
   call pgM zX9_drawMines [.ref 0, .int v3, .int v10, .int v5] I J (fun vr I1 J1 => vr = none ∧
    (∀ I2, I2 = u2 I1 0 8 (0 : Int32) →
    call pgM zX9_plays [.ref 0, .int v10, .int v6] I2 J1 (fun vr I3 J2 => ∃ r1 : Int32, vr = some (.int r1) ∧
    (l_X9_make_180 I3 J2 P v6 v7 v8 v9 v10 r1 ((1 : Int32))))))) ∧
  (¬ (100 : Int32) ≤ v12 →
   vp_in v12 100 ∧ ∀ I4, I4 = u2 I 2 (Int32.toNatClampNeg v12) (vp_nar .boolean (0 : Int32)) →
    l_X9_make_132 I4 J P v3 v5 v6 v7 v8 v9 v10 ((v12 + (1 : Int32))))) : l_X9_make_132 I J P v3 v5 v6 v7 v8 v9 v10 v12 := by
  show rr pgM zX9_make 132 [(0, .ref 0), (3, .int v3), (5, .int v5), (6, .int v6), (7, .int v7), (8, .int v8), (9, .int v9), (10, .int v10), (12, .int v12)] [] I J P
  refine rr_iload dX9_make_132 8 rfl rfl ?_
  refine rr_bipush (v := (100 : Int32)) dX9_make_134 (by decide) rfl ?_
  refine rr_icmp_ge (tgt := 153) dX9_make_136 (by decide) rfl ⟨fun hc => ?_, fun hc => ?_⟩
  · have h := h.1 hc
    refine rr_aload_n dX9_make_153 rfl 0 rfl rfl ?_
    refine rr_iload_n dX9_make_154 rfl 1 rfl rfl ?_
    refine rr_iload dX9_make_155 7 rfl rfl ?_
    refine rr_iload dX9_make_157 2 rfl rfl ?_
    refine rr_V [.int v3, .int v10, .int v5] [] dX9_make_159 kX9_drawMines mX9_172 ⟨by decide, by decide⟩ (by decide) rfl rfl rfl (Nat.le_of_ble_eq_true rfl) rfl (h.mono fun vr I1 J1 h => ?_)
    obtain ⟨rfl, h⟩ := h
    show rr pgM zX9_make 162 _ [] _ _ _
    refine rr_aload_n dX9_make_162 rfl 0 rfl rfl ?_
    refine rr_iconst (v := (0 : Int32)) dX9_make_163 (by decide) rfl ?_
    refine rr_putI dX9_make_164 pX9_175 (by decide) rfl rfl rfl ?_
    refine rr_letI (fun I2 hI2 => ?_)
    have h := h I2 hI2
    refine rr_aload_n dX9_make_167 rfl 0 rfl rfl ?_
    refine rr_iload dX9_make_168 7 rfl rfl ?_
    refine rr_iload dX9_make_170 3 rfl rfl ?_
    refine rr_V [.int v10, .int v6] [] dX9_make_172 kX9_plays mX9_178 ⟨by decide, by decide⟩ (by decide) rfl rfl rfl (Nat.le_of_ble_eq_true rfl) rfl (h.mono fun vr I3 J2 h => ?_)
    obtain ⟨r1, rfl, h⟩ := h
    show rr pgM zX9_make 175 _ [.int r1] _ _ _
    refine rr_istore (lv' := [(12, .int r1), (0, .ref 0), (3, .int v3), (5, .int v5), (6, .int v6), (7, .int v7), (8, .int v8), (9, .int v9), (10, .int v10)]) dX9_make_175 (by decide) rfl rfl ?_
    refine rr_iconst (v := (1 : Int32)) dX9_make_177 (by decide) rfl ?_
    refine rr_istore (lv' := [(13, .int (1 : Int32)), (12, .int r1), (0, .ref 0), (3, .int v3), (5, .int v5), (6, .int v6), (7, .int v7), (8, .int v8), (9, .int v9), (10, .int v10)]) dX9_make_178 (by decide) rfl rfl ?_
    exact rr.sub [2, 5, 6, 7, 8, 9, 1, 0] rfl h
  · have h := h.2 hc
    refine rr_aload_n dX9_make_139 rfl 0 rfl rfl ?_
    refine rr_getR dX9_make_140 fX9_23 (by decide) rfl rfl rfl ?_
    refine rr_iload dX9_make_143 8 rfl rfl ?_
    refine rr_iconst (v := (0 : Int32)) dX9_make_145 (by decide) rfl ?_
    refine rr_zast dX9_make_146 (by decide) rfl rfl ⟨h.1, ?_⟩
    refine rr_letI (fun I4 hI4 => ?_)
    have h := h.2 I4 hI4
    refine rr_iinc (k := 8) (v := (v12 + (1 : Int32))) (lv' := [(12, .int (v12 + (1 : Int32))), (0, .ref 0), (3, .int v3), (5, .int v5), (6, .int v6), (7, .int v7), (8, .int v8), (9, .int v9), (10, .int v10)]) dX9_make_147 rfl rfl (by decide) rfl rfl ?_
    refine rr_goto (tgt := 132) dX9_make_150 (by decide) ?_
    exact rr.sub [1, 2, 3, 4, 5, 6, 7, 8, 0] rfl h
theorem s_X9_make_180 {I : tg_I} {J : tg_J} {P : Option Value → tg_I → tg_J → Prop} (v6 : Int32) (v7 : Int32) (v8 : Int32) (v9 : Int32) (v10 : Int32) (v12 : Int32) (v13 : Int32) (h :
  (¬ v12 = 0 →
   (¬ v12 = 0 →
     call pgM zX9_hideAll [.ref 0] I J (fun vr I1 J1 => vr = none ∧
      (call pgM zX9_forget [.ref 0] I1 J1 (fun vr I2 J2 => vr = none ∧
      (P (some (.int (1 : Int32))) I2 J2))))) ∧
    (v12 = 0 →
     call pgM zX9_layOut [.ref 0, .int v7, .int v8, .int v9] I J (fun vr I3 J3 => vr = none ∧
      (call pgM zX9_bringBack [.ref 0] I3 J3 (fun vr I4 J4 => vr = none ∧
      (P (some (.int (0 : Int32))) I4 J4)))))) ∧
  (v12 = 0 →
   (v13 = 0 →
     (¬ v12 = 0 →
       call pgM zX9_hideAll [.ref 0] I J (fun vr I5 J5 => vr = none ∧
        (call pgM zX9_forget [.ref 0] I5 J5 (fun vr I6 J6 => vr = none ∧
        (P (some (.int (1 : Int32))) I6 J6))))) ∧
      (v12 = 0 →
       call pgM zX9_layOut [.ref 0, .int v7, .int v8, .int v9] I J (fun vr I7 J7 => vr = none ∧
        (call pgM zX9_bringBack [.ref 0] I7 J7 (fun vr I8 J8 => vr = none ∧
        (P (some (.int (0 : Int32))) I8 J8)))))) ∧
    (¬ v13 = 0 →
     ((40 : Int32) ≤ (I 0 8) →
       l_X9_make_180 I J P v6 v7 v8 v9 v10 v12 ((0 : Int32))) ∧
      (¬ (40 : Int32) ≤ (I 0 8) →
       call pgM zX9_mends [.ref 0] I J (fun vr I9 J9 => ∃ r1 : Int32, vr = some (.int r1) ∧
        ((r1 = 0 →
         l_X9_make_180 I9 J9 P v6 v7 v8 v9 v10 v12 ((0 : Int32))) ∧
        (¬ r1 = 0 →
         ∀ I10, I10 = u2 I9 0 8 ((I9 0 8) + (1 : Int32)) →
          call pgM zX9_plays [.ref 0, .int v10, .int v6] I10 J9 (fun vr I11 J10 => ∃ r2 : Int32, vr = some (.int r2) ∧
          (l_X9_make_180 I11 J10 P v6 v7 v8 v9 v10 r2 ((1 : Int32))))))))))) : l_X9_make_180 I J P v6 v7 v8 v9 v10 v12 v13 := by
  show rr pgM zX9_make 180 [(0, .ref 0), (6, .int v6), (7, .int v7), (8, .int v8), (9, .int v9), (10, .int v10), (12, .int v12), (13, .int v13)] [] I J P
  refine rr_iload dX9_make_180 6 rfl rfl ?_
  refine rr_if_ne (tgt := 241) dX9_make_182 (by decide) rfl ⟨fun hc => ?_, fun hc => ?_⟩
  · have h := h.1 hc
    refine rr_iload dX9_make_241 6 rfl rfl ?_
    refine rr_if_ne (tgt := 262) dX9_make_243 (by decide) rfl ⟨fun hc => ?_, fun hc => ?_⟩
    · have h := h.1 hc
      refine rr_aload_n dX9_make_262 rfl 0 rfl rfl ?_
      refine rr_V [] [] dX9_make_263 kX9_hideAll mX9_120 ⟨by decide, by decide⟩ (by decide) rfl rfl rfl (Nat.le_of_ble_eq_true rfl) rfl (h.mono fun vr I1 J1 h => ?_)
      obtain ⟨rfl, h⟩ := h
      show rr pgM zX9_make 266 _ [] _ _ _
      refine rr_aload_n dX9_make_266 rfl 0 rfl rfl ?_
      refine rr_V [] [] dX9_make_267 kX9_forget mX9_123 ⟨by decide, by decide⟩ (by decide) rfl rfl rfl (Nat.le_of_ble_eq_true rfl) rfl (h.mono fun vr I2 J2 h => ?_)
      obtain ⟨rfl, h⟩ := h
      show rr pgM zX9_make 270 _ [] _ _ _
      refine rr_iconst (v := (1 : Int32)) dX9_make_270 (by decide) rfl ?_
      exact rr_iret dX9_make_271 rfl h
    · have h := h.2 hc
      refine rr_aload_n dX9_make_246 rfl 0 rfl rfl ?_
      refine rr_iload dX9_make_247 2 rfl rfl ?_
      refine rr_iload dX9_make_249 3 rfl rfl ?_
      refine rr_iload dX9_make_251 4 rfl rfl ?_
      refine rr_V [.int v7, .int v8, .int v9] [] dX9_make_253 kX9_layOut mX9_100 ⟨by decide, by decide⟩ (by decide) rfl rfl rfl (Nat.le_of_ble_eq_true rfl) rfl (h.mono fun vr I3 J3 h => ?_)
      obtain ⟨rfl, h⟩ := h
      show rr pgM zX9_make 256 _ [] _ _ _
      refine rr_aload_n dX9_make_256 rfl 0 rfl rfl ?_
      refine rr_V [] [] dX9_make_257 kX9_bringBack mX9_183 ⟨by decide, by decide⟩ (by decide) rfl rfl rfl (Nat.le_of_ble_eq_true rfl) rfl (h.mono fun vr I4 J4 h => ?_)
      obtain ⟨rfl, h⟩ := h
      show rr pgM zX9_make 260 _ [] _ _ _
      refine rr_iconst (v := (0 : Int32)) dX9_make_260 (by decide) rfl ?_
      exact rr_iret dX9_make_261 rfl h
  · have h := h.2 hc
    refine rr_iload dX9_make_185 7 rfl rfl ?_
    refine rr_if_eq (tgt := 241) dX9_make_187 (by decide) rfl ⟨fun hc => ?_, fun hc => ?_⟩
    · have h := h.1 hc
      refine rr_iload dX9_make_241 6 rfl rfl ?_
      refine rr_if_ne (tgt := 262) dX9_make_243 (by decide) rfl ⟨fun hc => ?_, fun hc => ?_⟩
      · have h := h.1 hc
        refine rr_aload_n dX9_make_262 rfl 0 rfl rfl ?_
        refine rr_V [] [] dX9_make_263 kX9_hideAll mX9_120 ⟨by decide, by decide⟩ (by decide) rfl rfl rfl (Nat.le_of_ble_eq_true rfl) rfl (h.mono fun vr I5 J5 h => ?_)
        obtain ⟨rfl, h⟩ := h
        show rr pgM zX9_make 266 _ [] _ _ _
        refine rr_aload_n dX9_make_266 rfl 0 rfl rfl ?_
        refine rr_V [] [] dX9_make_267 kX9_forget mX9_123 ⟨by decide, by decide⟩ (by decide) rfl rfl rfl (Nat.le_of_ble_eq_true rfl) rfl (h.mono fun vr I6 J6 h => ?_)
        obtain ⟨rfl, h⟩ := h
        show rr pgM zX9_make 270 _ [] _ _ _
        refine rr_iconst (v := (1 : Int32)) dX9_make_270 (by decide) rfl ?_
        exact rr_iret dX9_make_271 rfl h
      · have h := h.2 hc
        refine rr_aload_n dX9_make_246 rfl 0 rfl rfl ?_
        refine rr_iload dX9_make_247 2 rfl rfl ?_
        refine rr_iload dX9_make_249 3 rfl rfl ?_
        refine rr_iload dX9_make_251 4 rfl rfl ?_
        refine rr_V [.int v7, .int v8, .int v9] [] dX9_make_253 kX9_layOut mX9_100 ⟨by decide, by decide⟩ (by decide) rfl rfl rfl (Nat.le_of_ble_eq_true rfl) rfl (h.mono fun vr I7 J7 h => ?_)
        obtain ⟨rfl, h⟩ := h
        show rr pgM zX9_make 256 _ [] _ _ _
        refine rr_aload_n dX9_make_256 rfl 0 rfl rfl ?_
        refine rr_V [] [] dX9_make_257 kX9_bringBack mX9_183 ⟨by decide, by decide⟩ (by decide) rfl rfl rfl (Nat.le_of_ble_eq_true rfl) rfl (h.mono fun vr I8 J8 h => ?_)
        obtain ⟨rfl, h⟩ := h
        show rr pgM zX9_make 260 _ [] _ _ _
        refine rr_iconst (v := (0 : Int32)) dX9_make_260 (by decide) rfl ?_
        exact rr_iret dX9_make_261 rfl h
    · have h := h.2 hc
      refine rr_aload_n dX9_make_190 rfl 0 rfl rfl ?_
      refine rr_getI dX9_make_191 fX9_175 (by decide) rfl rfl rfl ?_
      refine rr_bipush (v := (40 : Int32)) dX9_make_194 (by decide) rfl ?_
      refine rr_icmp_ge (tgt := 210) dX9_make_196 (by decide) rfl ⟨fun hc => ?_, fun hc => ?_⟩
      · have h := h.1 hc
        refine rr_iconst (v := (0 : Int32)) dX9_make_210 (by decide) rfl ?_
        refine rr_istore (lv' := [(13, .int (0 : Int32)), (0, .ref 0), (6, .int v6), (7, .int v7), (8, .int v8), (9, .int v9), (10, .int v10), (12, .int v12)]) dX9_make_211 (by decide) rfl rfl ?_
        refine rr_iload dX9_make_213 0 rfl rfl ?_
        refine rr_if_eq (tgt := 180) dX9_make_215 (by decide) rfl ⟨fun _ => ?_, fun hc => absurd hc (by decide)⟩
        exact rr.sub [1, 2, 3, 4, 5, 6, 7, 0] rfl h
      · have h := h.2 hc
        refine rr_aload_n dX9_make_199 rfl 0 rfl rfl ?_
        refine rr_V [] [] dX9_make_200 kX9_mends mX9_181 ⟨by decide, by decide⟩ (by decide) rfl rfl rfl (Nat.le_of_ble_eq_true rfl) rfl (h.mono fun vr I9 J9 h => ?_)
        obtain ⟨r1, rfl, h⟩ := h
        show rr pgM zX9_make 203 _ [.int r1] _ _ _
        refine rr_if_eq (tgt := 210) dX9_make_203 (by decide) rfl ⟨fun hc => ?_, fun hc => ?_⟩
        · have h := h.1 hc
          refine rr_iconst (v := (0 : Int32)) dX9_make_210 (by decide) rfl ?_
          refine rr_istore (lv' := [(13, .int (0 : Int32)), (0, .ref 0), (6, .int v6), (7, .int v7), (8, .int v8), (9, .int v9), (10, .int v10), (12, .int v12)]) dX9_make_211 (by decide) rfl rfl ?_
          refine rr_iload dX9_make_213 0 rfl rfl ?_
          refine rr_if_eq (tgt := 180) dX9_make_215 (by decide) rfl ⟨fun _ => ?_, fun hc => absurd hc (by decide)⟩
          exact rr.sub [1, 2, 3, 4, 5, 6, 7, 0] rfl h
        · have h := h.2 hc
          refine rr_iconst (v := (1 : Int32)) dX9_make_206 (by decide) rfl ?_
          refine rr_goto (tgt := 211) dX9_make_207 (by decide) ?_
          refine rr_istore (lv' := [(13, .int (1 : Int32)), (0, .ref 0), (6, .int v6), (7, .int v7), (8, .int v8), (9, .int v9), (10, .int v10), (12, .int v12)]) dX9_make_211 (by decide) rfl rfl ?_
          refine rr_iload dX9_make_213 0 rfl rfl ?_
          refine rr_if_eq (tgt := 180) dX9_make_215 (by decide) rfl ⟨fun hc => absurd hc (by decide), fun _ => ?_⟩
          refine rr_aload_n dX9_make_218 rfl 1 rfl rfl ?_
          refine rr_dup dX9_make_219 rfl rfl ?_
          refine rr_getI dX9_make_220 fX9_175 (by decide) rfl rfl rfl ?_
          refine rr_iconst (v := (1 : Int32)) dX9_make_223 (by decide) rfl ?_
          refine rr_iadd dX9_make_224 rfl ?_
          refine rr_putI dX9_make_225 pX9_175 (by decide) rfl rfl rfl ?_
          refine rr_letI (fun I10 hI10 => ?_)
          have h := h I10 hI10
          refine rr_aload_n dX9_make_228 rfl 1 rfl rfl ?_
          refine rr_iload dX9_make_229 6 rfl rfl ?_
          refine rr_iload dX9_make_231 2 rfl rfl ?_
          refine rr_V [.int v10, .int v6] [] dX9_make_233 kX9_plays mX9_178 ⟨by decide, by decide⟩ (by decide) rfl rfl rfl (Nat.le_of_ble_eq_true rfl) rfl (h.mono fun vr I11 J10 h => ?_)
          obtain ⟨r2, rfl, h⟩ := h
          show rr pgM zX9_make 236 _ [.int r2] _ _ _
          refine rr_istore (lv' := [(12, .int r2), (13, .int (1 : Int32)), (0, .ref 0), (6, .int v6), (7, .int v7), (8, .int v8), (9, .int v9), (10, .int v10)]) dX9_make_236 (by decide) rfl rfl ?_
          refine rr_goto (tgt := 180) dX9_make_238 (by decide) ?_
          exact rr.sub [2, 3, 4, 5, 6, 7, 0, 1] rfl h

theorem e_X9_mended {I : tg_I} {J : tg_J} {P : Option Value → tg_I → tg_J → Prop} (h :
  P (some (.int (I 0 8))) I J) : call pgM zX9_mended [.ref 0] I J P := by
  refine call_of (by decide +kernel) (fun _ => Nat.le_of_ble_eq_true rfl) ?_
  show rr pgM zX9_mended 0 [(0, .ref 0)] [] I J P
  refine rr_aload_n dX9_mended_0 rfl 0 rfl rfl ?_
  refine rr_getI dX9_mended_1 fX9_175 (by decide) rfl rfl rfl ?_
  exact rr_iret dX9_mended_4 rfl h

def l_X9_count_4 (I : tg_I) (J : tg_J) (P : Option Value → tg_I → tg_J → Prop) (v1 : Int32) (v2 : Int32) (v3 : Int32) : Prop := rr pgM zX9_count 4 [(0, .ref 0), (1, .int v1), (2, .int v2), (3, .int v3)] [] I J P
theorem e_X9_count {I : tg_I} {J : tg_J} {P : Option Value → tg_I → tg_J → Prop} (v1 : Int32) (h :
  l_X9_count_4 I J P v1 ((0 : Int32)) ((0 : Int32))) : call pgM zX9_count [.ref 0, .int v1] I J P := by
  refine call_of (by decide +kernel) (fun _ => Nat.le_of_ble_eq_true rfl) ?_
  show rr pgM zX9_count 0 [(0, .ref 0), (1, .int v1)] [] I J P
  refine rr_iconst (v := (0 : Int32)) dX9_count_0 (by decide) rfl ?_
  refine rr_istore_n (lv' := [(2, .int (0 : Int32)), (0, .ref 0), (1, .int v1)]) dX9_count_1 rfl (by decide) rfl rfl ?_
  refine rr_iconst (v := (0 : Int32)) dX9_count_2 (by decide) rfl ?_
  refine rr_istore_n (lv' := [(3, .int (0 : Int32)), (2, .int (0 : Int32)), (0, .ref 0), (1, .int v1)]) dX9_count_3 rfl (by decide) rfl rfl ?_
  exact rr.sub [2, 3, 1, 0] rfl h
theorem s_X9_count_4 {I : tg_I} {J : tg_J} {P : Option Value → tg_I → tg_J → Prop} (v1 : Int32) (v2 : Int32) (v3 : Int32) (h :
  ((I 0 3) ≤ v3 →
   (Int32.toInt v1 < 0 ∨ 7 < Int32.toInt v1 →
     P (some (.int (-1 : Int32))) I J) ∧ (v1 = 0 →
     P (some (.int (I 0 0))) I J) ∧ (v1 = 1 →
     P (some (.int (I 0 1))) I J) ∧ (v1 = 2 →
     P (some (.int (I 0 2))) I J) ∧ (v1 = 3 →
     call pgM zX9_mines [.ref 0] I J (fun vr I1 J1 => ∃ r1 : Int32, vr = some (.int r1) ∧
        (P (some (.int r1)) I1 J1))) ∧ (v1 = 4 →
     call pgM zX9_inState [.ref 0, .int (1 : Int32)] I J (fun vr I2 J2 => ∃ r2 : Int32, vr = some (.int r2) ∧
        (P (some (.int r2)) I2 J2))) ∧ (v1 = 5 →
     P (some (.int v2)) I J) ∧ (v1 = 6 →
     call pgM zX9_inState [.ref 0, .int (2 : Int32)] I J (fun vr I3 J3 => ∃ r3 : Int32, vr = some (.int r3) ∧
        (P (some (.int r3)) I3 J3))) ∧ (v1 = 7 →
     P (some (.int (I 0 10))) I J)) ∧
  (¬ (I 0 3) ≤ v3 →
   vp_in v3 100 ∧
    (((I 4 (Int32.toNatClampNeg v3)) = 0 →
     l_X9_count_4 I J P v1 ((v2 + (0 : Int32))) ((v3 + (1 : Int32)))) ∧
    (¬ (I 4 (Int32.toNatClampNeg v3)) = 0 →
     l_X9_count_4 I J P v1 ((v2 + (1 : Int32))) ((v3 + (1 : Int32))))))) : l_X9_count_4 I J P v1 v2 v3 := by
  show rr pgM zX9_count 4 [(0, .ref 0), (1, .int v1), (2, .int v2), (3, .int v3)] [] I J P
  refine rr_iload_n dX9_count_4 rfl 3 rfl rfl ?_
  refine rr_aload_n dX9_count_5 rfl 0 rfl rfl ?_
  refine rr_getI dX9_count_6 fX9_16 (by decide) rfl rfl rfl ?_
  refine rr_icmp_ge (tgt := 35) dX9_count_9 (by decide) rfl ⟨fun hc => ?_, fun hc => ?_⟩
  · have h := h.1 hc
    refine rr_iload_n dX9_count_35 rfl 1 rfl rfl ?_
    by_cases hs : Int32.toInt v1 < 0 ∨ 7 < Int32.toInt v1
    · refine rr_tableOut (tgt := 123) dX9_count_36 hs (by decide) ?_
      have h := h.1 hs
      refine rr_iconst (v := (-1 : Int32)) dX9_count_123 (by decide) rfl ?_
      exact rr_iret dX9_count_124 rfl h
    · rcases sw_7 v1 hs with hc | hc | hc | hc | hc | hc | hc | hc
      · have h := h.2.1 hc
        refine rr_tableIn (tgt := 84) dX9_count_36 (by rw [hc]; decide) (by rw [hc]; decide) (by rw [hc]; rfl) (by decide) ?_
        refine rr_aload_n dX9_count_84 rfl 0 rfl rfl ?_
        refine rr_getI dX9_count_85 fX9_7 (by decide) rfl rfl rfl ?_
        exact rr_iret dX9_count_88 rfl h
      · have h := h.2.2.1 hc
        refine rr_tableIn (tgt := 89) dX9_count_36 (by rw [hc]; decide) (by rw [hc]; decide) (by rw [hc]; rfl) (by decide) ?_
        refine rr_aload_n dX9_count_89 rfl 0 rfl rfl ?_
        refine rr_getI dX9_count_90 fX9_13 (by decide) rfl rfl rfl ?_
        exact rr_iret dX9_count_93 rfl h
      · have h := h.2.2.2.1 hc
        refine rr_tableIn (tgt := 94) dX9_count_36 (by rw [hc]; decide) (by rw [hc]; decide) (by rw [hc]; rfl) (by decide) ?_
        refine rr_aload_n dX9_count_94 rfl 0 rfl rfl ?_
        refine rr_getI dX9_count_95 fX9_104 (by decide) rfl rfl rfl ?_
        exact rr_iret dX9_count_98 rfl h
      · have h := h.2.2.2.2.1 hc
        refine rr_tableIn (tgt := 99) dX9_count_36 (by rw [hc]; decide) (by rw [hc]; decide) (by rw [hc]; rfl) (by decide) ?_
        refine rr_aload_n dX9_count_99 rfl 0 rfl rfl ?_
        refine rr_V [] [] dX9_count_100 kX9_mines mX9_134 ⟨by decide, by decide⟩ (by decide) rfl rfl rfl (Nat.le_of_ble_eq_true rfl) rfl (h.mono fun vr I1 J1 h => ?_)
        obtain ⟨r1, rfl, h⟩ := h
        show rr pgM zX9_count 103 _ [.int r1] _ _ _
        exact rr_iret dX9_count_103 rfl h
      · have h := h.2.2.2.2.2.1 hc
        refine rr_tableIn (tgt := 104) dX9_count_36 (by rw [hc]; decide) (by rw [hc]; decide) (by rw [hc]; rfl) (by decide) ?_
        refine rr_aload_n dX9_count_104 rfl 0 rfl rfl ?_
        refine rr_iconst (v := (1 : Int32)) dX9_count_105 (by decide) rfl ?_
        refine rr_V [.int (1 : Int32)] [] dX9_count_106 kX9_inState mX9_130 ⟨by decide, by decide⟩ (by decide) rfl rfl rfl (Nat.le_of_ble_eq_true rfl) rfl (h.mono fun vr I2 J2 h => ?_)
        obtain ⟨r2, rfl, h⟩ := h
        show rr pgM zX9_count 109 _ [.int r2] _ _ _
        exact rr_iret dX9_count_109 rfl h
      · have h := h.2.2.2.2.2.2.1 hc
        refine rr_tableIn (tgt := 110) dX9_count_36 (by rw [hc]; decide) (by rw [hc]; decide) (by rw [hc]; rfl) (by decide) ?_
        refine rr_iload_n dX9_count_110 rfl 2 rfl rfl ?_
        exact rr_iret dX9_count_111 rfl h
      · have h := h.2.2.2.2.2.2.2.1 hc
        refine rr_tableIn (tgt := 112) dX9_count_36 (by rw [hc]; decide) (by rw [hc]; decide) (by rw [hc]; rfl) (by decide) ?_
        refine rr_aload_n dX9_count_112 rfl 0 rfl rfl ?_
        refine rr_iconst (v := (2 : Int32)) dX9_count_113 (by decide) rfl ?_
        refine rr_V [.int (2 : Int32)] [] dX9_count_114 kX9_inState mX9_130 ⟨by decide, by decide⟩ (by decide) rfl rfl rfl (Nat.le_of_ble_eq_true rfl) rfl (h.mono fun vr I3 J3 h => ?_)
        obtain ⟨r3, rfl, h⟩ := h
        show rr pgM zX9_count 117 _ [.int r3] _ _ _
        exact rr_iret dX9_count_117 rfl h
      · have h := h.2.2.2.2.2.2.2.2 hc
        refine rr_tableIn (tgt := 118) dX9_count_36 (by rw [hc]; decide) (by rw [hc]; decide) (by rw [hc]; rfl) (by decide) ?_
        refine rr_aload_n dX9_count_118 rfl 0 rfl rfl ?_
        refine rr_getI dX9_count_119 fX9_110 (by decide) rfl rfl rfl ?_
        exact rr_iret dX9_count_122 rfl h
  · have h := h.2 hc
    refine rr_iload_n dX9_count_12 rfl 2 rfl rfl ?_
    refine rr_aload_n dX9_count_13 rfl 0 rfl rfl ?_
    refine rr_getR dX9_count_14 fX9_30 (by decide) rfl rfl rfl ?_
    refine rr_iload_n dX9_count_17 rfl 3 rfl rfl ?_
    refine rr_zald dX9_count_18 (by decide) rfl rfl ⟨h.1, ?_⟩
    have h := h.2
    refine rr_if_eq (tgt := 26) dX9_count_19 (by decide) rfl ⟨fun hc => ?_, fun hc => ?_⟩
    · have h := h.1 hc
      refine rr_iconst (v := (0 : Int32)) dX9_count_26 (by decide) rfl ?_
      refine rr_iadd dX9_count_27 rfl ?_
      refine rr_istore_n (lv' := [(2, .int (v2 + (0 : Int32))), (0, .ref 0), (1, .int v1), (3, .int v3)]) dX9_count_28 rfl (by decide) rfl rfl ?_
      refine rr_iinc (k := 3) (v := (v3 + (1 : Int32))) (lv' := [(3, .int (v3 + (1 : Int32))), (2, .int (v2 + (0 : Int32))), (0, .ref 0), (1, .int v1)]) dX9_count_29 rfl rfl (by decide) rfl rfl ?_
      refine rr_goto (tgt := 4) dX9_count_32 (by decide) ?_
      exact rr.sub [2, 3, 1, 0] rfl h
    · have h := h.2 hc
      refine rr_iconst (v := (1 : Int32)) dX9_count_22 (by decide) rfl ?_
      refine rr_goto (tgt := 27) dX9_count_23 (by decide) ?_
      refine rr_iadd dX9_count_27 rfl ?_
      refine rr_istore_n (lv' := [(2, .int (v2 + (1 : Int32))), (0, .ref 0), (1, .int v1), (3, .int v3)]) dX9_count_28 rfl (by decide) rfl rfl ?_
      refine rr_iinc (k := 3) (v := (v3 + (1 : Int32))) (lv' := [(3, .int (v3 + (1 : Int32))), (2, .int (v2 + (1 : Int32))), (0, .ref 0), (1, .int v1)]) dX9_count_29 rfl rfl (by decide) rfl rfl ?_
      refine rr_goto (tgt := 4) dX9_count_32 (by decide) ?_
      exact rr.sub [2, 3, 1, 0] rfl h

def l_X9_neighbour_18 (I : tg_I) (J : tg_J) (P : Option Value → tg_I → tg_J → Prop) (v1 : Int32) (v2 : Int32) (v3 : Int32) (v4 : Int32) (v5 : Int32) : Prop := rr pgM zX9_neighbour 18 [(0, .ref 0), (1, .int v1), (2, .int v2), (3, .int v3), (4, .int v4), (5, .int v5)] [] I J P
theorem e_X9_neighbour {I : tg_I} {J : tg_J} {P : Option Value → tg_I → tg_J → Prop} (v1 : Int32) (v2 : Int32) (h :
  call pgM zX9_isCell [.ref 0, .int v1] I J (fun vr I1 J1 => ∃ r1 : Int32, vr = some (.int r1) ∧
  ((¬ r1 = 0 →
   l_X9_neighbour_18 I1 J1 P v1 v2 ((-1 : Int32)) ((0 : Int32)) ((0 : Int32))) ∧
  (r1 = 0 →
   P (some (.int (-1 : Int32))) I1 J1)))) : call pgM zX9_neighbour [.ref 0, .int v1, .int v2] I J P := by
  refine call_of (by decide +kernel) (fun _ => Nat.le_of_ble_eq_true rfl) ?_
  show rr pgM zX9_neighbour 0 [(0, .ref 0), (1, .int v1), (2, .int v2)] [] I J P
  refine rr_aload_n dX9_neighbour_0 rfl 0 rfl rfl ?_
  refine rr_iload_n dX9_neighbour_1 rfl 1 rfl rfl ?_
  refine rr_V [.int v1] [] dX9_neighbour_2 kX9_isCell mX9_126 ⟨by decide, by decide⟩ (by decide) rfl rfl rfl (Nat.le_of_ble_eq_true rfl) rfl (h.mono fun vr I1 J1 h => ?_)
  obtain ⟨r1, rfl, h⟩ := h
  show rr pgM zX9_neighbour 5 _ [.int r1] _ _ _
  refine rr_if_ne (tgt := 10) dX9_neighbour_5 (by decide) rfl ⟨fun hc => ?_, fun hc => ?_⟩
  · have h := h.1 hc
    refine rr_iconst (v := (-1 : Int32)) dX9_neighbour_10 (by decide) rfl ?_
    refine rr_istore_n (lv' := [(3, .int (-1 : Int32)), (0, .ref 0), (1, .int v1), (2, .int v2)]) dX9_neighbour_11 rfl (by decide) rfl rfl ?_
    refine rr_iconst (v := (0 : Int32)) dX9_neighbour_12 (by decide) rfl ?_
    refine rr_istore (lv' := [(4, .int (0 : Int32)), (3, .int (-1 : Int32)), (0, .ref 0), (1, .int v1), (2, .int v2)]) dX9_neighbour_13 (by decide) rfl rfl ?_
    refine rr_iconst (v := (0 : Int32)) dX9_neighbour_15 (by decide) rfl ?_
    refine rr_istore (lv' := [(5, .int (0 : Int32)), (4, .int (0 : Int32)), (3, .int (-1 : Int32)), (0, .ref 0), (1, .int v1), (2, .int v2)]) dX9_neighbour_16 (by decide) rfl rfl ?_
    exact rr.sub [3, 4, 5, 2, 1, 0] rfl h
  · have h := h.2 hc
    refine rr_iconst (v := (-1 : Int32)) dX9_neighbour_8 (by decide) rfl ?_
    exact rr_iret dX9_neighbour_9 rfl h
theorem s_X9_neighbour_18 {I : tg_I} {J : tg_J} {P : Option Value → tg_I → tg_J → Prop} (v1 : Int32) (v2 : Int32) (v3 : Int32) (v4 : Int32) (v5 : Int32) (h :
  ((I 0 3) ≤ v5 →
   P (some (.int v3)) I J) ∧
  (¬ (I 0 3) ≤ v5 →
   call pgM zX9_isNear [.ref 0, .int v1, .int v5] I J (fun vr I1 J1 => ∃ r1 : Int32, vr = some (.int r1) ∧
    ((r1 = 0 →
     l_X9_neighbour_18 I1 J1 P v1 v2 v3 v4 ((v5 + (1 : Int32)))) ∧
    (¬ r1 = 0 →
     (¬ v4 = v2 →
       l_X9_neighbour_18 I1 J1 P v1 v2 v3 ((v4 + (1 : Int32))) ((v5 + (1 : Int32)))) ∧
      (v4 = v2 →
       l_X9_neighbour_18 I1 J1 P v1 v2 v5 ((v4 + (1 : Int32))) ((v5 + (1 : Int32))))))))) : l_X9_neighbour_18 I J P v1 v2 v3 v4 v5 := by
  show rr pgM zX9_neighbour 18 [(0, .ref 0), (1, .int v1), (2, .int v2), (3, .int v3), (4, .int v4), (5, .int v5)] [] I J P
  refine rr_iload dX9_neighbour_18 5 rfl rfl ?_
  refine rr_aload_n dX9_neighbour_20 rfl 0 rfl rfl ?_
  refine rr_getI dX9_neighbour_21 fX9_16 (by decide) rfl rfl rfl ?_
  refine rr_icmp_ge (tgt := 59) dX9_neighbour_24 (by decide) rfl ⟨fun hc => ?_, fun hc => ?_⟩
  · have h := h.1 hc
    refine rr_iload_n dX9_neighbour_59 rfl 3 rfl rfl ?_
    exact rr_iret dX9_neighbour_60 rfl h
  · have h := h.2 hc
    refine rr_aload_n dX9_neighbour_27 rfl 0 rfl rfl ?_
    refine rr_iload_n dX9_neighbour_28 rfl 1 rfl rfl ?_
    refine rr_iload dX9_neighbour_29 5 rfl rfl ?_
    refine rr_V [.int v1, .int v5] [] dX9_neighbour_31 kX9_isNear mX9_138 ⟨by decide, by decide⟩ (by decide) rfl rfl rfl (Nat.le_of_ble_eq_true rfl) rfl (h.mono fun vr I1 J1 h => ?_)
    obtain ⟨r1, rfl, h⟩ := h
    show rr pgM zX9_neighbour 34 _ [.int r1] _ _ _
    refine rr_if_eq (tgt := 53) dX9_neighbour_34 (by decide) rfl ⟨fun hc => ?_, fun hc => ?_⟩
    · have h := h.1 hc
      refine rr_iinc (k := 5) (v := (v5 + (1 : Int32))) (lv' := [(5, .int (v5 + (1 : Int32))), (0, .ref 0), (1, .int v1), (2, .int v2), (3, .int v3), (4, .int v4)]) dX9_neighbour_53 rfl rfl (by decide) rfl rfl ?_
      refine rr_goto (tgt := 18) dX9_neighbour_56 (by decide) ?_
      exact rr.sub [1, 2, 3, 4, 5, 0] rfl h
    · have h := h.2 hc
      refine rr_iload dX9_neighbour_37 4 rfl rfl ?_
      refine rr_iload_n dX9_neighbour_39 rfl 2 rfl rfl ?_
      refine rr_icmp_ne (tgt := 48) dX9_neighbour_40 (by decide) rfl ⟨fun hc => ?_, fun hc => ?_⟩
      · have h := h.1 hc
        refine rr_iload_n dX9_neighbour_48 rfl 3 rfl rfl ?_
        refine rr_istore_n (lv' := [(3, .int v3), (0, .ref 0), (1, .int v1), (2, .int v2), (4, .int v4), (5, .int v5)]) dX9_neighbour_49 rfl (by decide) rfl rfl ?_
        refine rr_iinc (k := 4) (v := (v4 + (1 : Int32))) (lv' := [(4, .int (v4 + (1 : Int32))), (3, .int v3), (0, .ref 0), (1, .int v1), (2, .int v2), (5, .int v5)]) dX9_neighbour_50 rfl rfl (by decide) rfl rfl ?_
        refine rr_iinc (k := 5) (v := (v5 + (1 : Int32))) (lv' := [(5, .int (v5 + (1 : Int32))), (4, .int (v4 + (1 : Int32))), (3, .int v3), (0, .ref 0), (1, .int v1), (2, .int v2)]) dX9_neighbour_53 rfl rfl (by decide) rfl rfl ?_
        refine rr_goto (tgt := 18) dX9_neighbour_56 (by decide) ?_
        exact rr.sub [3, 4, 5, 2, 1, 0] rfl h
      · have h := h.2 hc
        refine rr_iload dX9_neighbour_43 5 rfl rfl ?_
        refine rr_goto (tgt := 49) dX9_neighbour_45 (by decide) ?_
        refine rr_istore_n (lv' := [(3, .int v5), (0, .ref 0), (1, .int v1), (2, .int v2), (4, .int v4), (5, .int v5)]) dX9_neighbour_49 rfl (by decide) rfl rfl ?_
        refine rr_iinc (k := 4) (v := (v4 + (1 : Int32))) (lv' := [(4, .int (v4 + (1 : Int32))), (3, .int v5), (0, .ref 0), (1, .int v1), (2, .int v2), (5, .int v5)]) dX9_neighbour_50 rfl rfl (by decide) rfl rfl ?_
        refine rr_iinc (k := 5) (v := (v5 + (1 : Int32))) (lv' := [(5, .int (v5 + (1 : Int32))), (4, .int (v4 + (1 : Int32))), (3, .int v5), (0, .ref 0), (1, .int v1), (2, .int v2)]) dX9_neighbour_53 rfl rfl (by decide) rfl rfl ?_
        refine rr_goto (tgt := 18) dX9_neighbour_56 (by decide) ?_
        exact rr.sub [3, 4, 5, 2, 1, 0] rfl h

theorem e_X9_mined {I : tg_I} {J : tg_J} {P : Option Value → tg_I → tg_J → Prop} (v1 : Int32) (h :
  call pgM zX9_isCell [.ref 0, .int v1] I J (fun vr I1 J1 => ∃ r1 : Int32, vr = some (.int r1) ∧
  ((r1 = 0 →
   P (some (.int (0 : Int32))) I1 J1) ∧
  (¬ r1 = 0 →
   vp_in v1 100 ∧
    (((I1 2 (Int32.toNatClampNeg v1)) = 0 →
     P (some (.int (0 : Int32))) I1 J1) ∧
    (¬ (I1 2 (Int32.toNatClampNeg v1)) = 0 →
     P (some (.int (1 : Int32))) I1 J1)))))) : call pgM zX9_mined [.ref 0, .int v1] I J P := by
  refine call_of (by decide +kernel) (fun _ => Nat.le_of_ble_eq_true rfl) ?_
  show rr pgM zX9_mined 0 [(0, .ref 0), (1, .int v1)] [] I J P
  refine rr_aload_n dX9_mined_0 rfl 0 rfl rfl ?_
  refine rr_iload_n dX9_mined_1 rfl 1 rfl rfl ?_
  refine rr_V [.int v1] [] dX9_mined_2 kX9_isCell mX9_126 ⟨by decide, by decide⟩ (by decide) rfl rfl rfl (Nat.le_of_ble_eq_true rfl) rfl (h.mono fun vr I1 J1 h => ?_)
  obtain ⟨r1, rfl, h⟩ := h
  show rr pgM zX9_mined 5 _ [.int r1] _ _ _
  refine rr_if_eq (tgt := 21) dX9_mined_5 (by decide) rfl ⟨fun hc => ?_, fun hc => ?_⟩
  · have h := h.1 hc
    refine rr_iconst (v := (0 : Int32)) dX9_mined_21 (by decide) rfl ?_
    exact rr_zret dX9_mined_22 rfl rfl h
  · have h := h.2 hc
    refine rr_aload_n dX9_mined_8 rfl 0 rfl rfl ?_
    refine rr_getR dX9_mined_9 fX9_23 (by decide) rfl rfl rfl ?_
    refine rr_iload_n dX9_mined_12 rfl 1 rfl rfl ?_
    refine rr_zald dX9_mined_13 (by decide) rfl rfl ⟨h.1, ?_⟩
    have h := h.2
    refine rr_if_eq (tgt := 21) dX9_mined_14 (by decide) rfl ⟨fun hc => ?_, fun hc => ?_⟩
    · have h := h.1 hc
      refine rr_iconst (v := (0 : Int32)) dX9_mined_21 (by decide) rfl ?_
      exact rr_zret dX9_mined_22 rfl rfl h
    · have h := h.2 hc
      refine rr_iconst (v := (1 : Int32)) dX9_mined_17 (by decide) rfl ?_
      refine rr_goto (tgt := 22) dX9_mined_18 (by decide) ?_
      exact rr_zret dX9_mined_22 rfl rfl h

def l_X9_move_2 (I : tg_I) (J : tg_J) (P : Option Value → tg_I → tg_J → Prop) (v1 : Int32) : Prop := rr pgM zX9_move 2 [(0, .ref 0), (1, .int v1)] [] I J P
theorem e_X9_move {I : tg_I} {J : tg_J} {P : Option Value → tg_I → tg_J → Prop} (h :
  l_X9_move_2 I J P ((0 : Int32))) : call pgM zX9_move [.ref 0] I J P := by
  refine call_of (by decide +kernel) (fun _ => Nat.le_of_ble_eq_true rfl) ?_
  show rr pgM zX9_move 0 [(0, .ref 0)] [] I J P
  refine rr_iconst (v := (0 : Int32)) dX9_move_0 (by decide) rfl ?_
  refine rr_istore_n (lv' := [(1, .int (0 : Int32)), (0, .ref 0)]) dX9_move_1 rfl (by decide) rfl rfl ?_
  exact rr.sub [1, 0] rfl h
theorem s_X9_move_2 {I : tg_I} {J : tg_J} {P : Option Value → tg_I → tg_J → Prop} (v1 : Int32) (h :
  ((I 0 3) ≤ v1 →
   ∀ I1, I1 = u2 I 0 10 ((I 0 10) + (1 : Int32)) →
    P none I1 J) ∧
  (¬ (I 0 3) ≤ v1 →
   vp_in v1 100 ∧
    (vp_in v1 100 ∧
    (((I 4 (Int32.toNatClampNeg v1)) = 0 →
     vp_in (((100 : Int32) * (I 0 10)) + v1) 20000 ∧ ∀ I2, I2 = u2 I 5 (Int32.toNatClampNeg (((100 : Int32) * (I 0 10)) + v1)) ((I 3 (Int32.toNatClampNeg v1)) + (0 : Int32)) →
      l_X9_move_2 I2 J P ((v1 + (1 : Int32)))) ∧
    (¬ (I 4 (Int32.toNatClampNeg v1)) = 0 →
     vp_in (((100 : Int32) * (I 0 10)) + v1) 20000 ∧ ∀ I3, I3 = u2 I 5 (Int32.toNatClampNeg (((100 : Int32) * (I 0 10)) + v1)) ((I 3 (Int32.toNatClampNeg v1)) + (4 : Int32)) →
      l_X9_move_2 I3 J P ((v1 + (1 : Int32)))))))) : l_X9_move_2 I J P v1 := by
  show rr pgM zX9_move 2 [(0, .ref 0), (1, .int v1)] [] I J P
  refine rr_iload_n dX9_move_2 rfl 1 rfl rfl ?_
  refine rr_aload_n dX9_move_3 rfl 0 rfl rfl ?_
  refine rr_getI dX9_move_4 fX9_16 (by decide) rfl rfl rfl ?_
  refine rr_icmp_ge (tgt := 51) dX9_move_7 (by decide) rfl ⟨fun hc => ?_, fun hc => ?_⟩
  · have h := h.1 hc
    refine rr_aload_n dX9_move_51 rfl 0 rfl rfl ?_
    refine rr_dup dX9_move_52 rfl rfl ?_
    refine rr_getI dX9_move_53 fX9_110 (by decide) rfl rfl rfl ?_
    refine rr_iconst (v := (1 : Int32)) dX9_move_56 (by decide) rfl ?_
    refine rr_iadd dX9_move_57 rfl ?_
    refine rr_putI dX9_move_58 pX9_110 (by decide) rfl rfl rfl ?_
    refine rr_letI (fun I1 hI1 => ?_)
    have h := h I1 hI1
    exact rr_vret dX9_move_61 rfl h
  · have h := h.2 hc
    refine rr_aload_n dX9_move_10 rfl 0 rfl rfl ?_
    refine rr_getR dX9_move_11 fX9_33 (by decide) rfl rfl rfl ?_
    refine rr_bipush (v := (100 : Int32)) dX9_move_14 (by decide) rfl ?_
    refine rr_aload_n dX9_move_16 rfl 0 rfl rfl ?_
    refine rr_getI dX9_move_17 fX9_110 (by decide) rfl rfl rfl ?_
    refine rr_imul dX9_move_20 rfl ?_
    refine rr_iload_n dX9_move_21 rfl 1 rfl rfl ?_
    refine rr_iadd dX9_move_22 rfl ?_
    refine rr_aload_n dX9_move_23 rfl 0 rfl rfl ?_
    refine rr_getR dX9_move_24 fX9_26 (by decide) rfl rfl rfl ?_
    refine rr_iload_n dX9_move_27 rfl 1 rfl rfl ?_
    refine rr_iald dX9_move_28 (by decide) rfl rfl ⟨h.1, ?_⟩
    have h := h.2
    refine rr_aload_n dX9_move_29 rfl 0 rfl rfl ?_
    refine rr_getR dX9_move_30 fX9_30 (by decide) rfl rfl rfl ?_
    refine rr_iload_n dX9_move_33 rfl 1 rfl rfl ?_
    refine rr_zald dX9_move_34 (by decide) rfl rfl ⟨h.1, ?_⟩
    have h := h.2
    refine rr_if_eq (tgt := 42) dX9_move_35 (by decide) rfl ⟨fun hc => ?_, fun hc => ?_⟩
    · have h := h.1 hc
      refine rr_iconst (v := (0 : Int32)) dX9_move_42 (by decide) rfl ?_
      refine rr_iadd dX9_move_43 rfl ?_
      refine rr_iast dX9_move_44 (by decide) rfl rfl ⟨h.1, ?_⟩
      refine rr_letI (fun I2 hI2 => ?_)
      have h := h.2 I2 hI2
      refine rr_iinc (k := 1) (v := (v1 + (1 : Int32))) (lv' := [(1, .int (v1 + (1 : Int32))), (0, .ref 0)]) dX9_move_45 rfl rfl (by decide) rfl rfl ?_
      refine rr_goto (tgt := 2) dX9_move_48 (by decide) ?_
      exact rr.sub [1, 0] rfl h
    · have h := h.2 hc
      refine rr_iconst (v := (4 : Int32)) dX9_move_38 (by decide) rfl ?_
      refine rr_goto (tgt := 43) dX9_move_39 (by decide) ?_
      refine rr_iadd dX9_move_43 rfl ?_
      refine rr_iast dX9_move_44 (by decide) rfl rfl ⟨h.1, ?_⟩
      refine rr_letI (fun I3 hI3 => ?_)
      have h := h.2 I3 hI3
      refine rr_iinc (k := 1) (v := (v1 + (1 : Int32))) (lv' := [(1, .int (v1 + (1 : Int32))), (0, .ref 0)]) dX9_move_45 rfl rfl (by decide) rfl rfl ?_
      refine rr_goto (tgt := 2) dX9_move_48 (by decide) ?_
      exact rr.sub [1, 0] rfl h

theorem e_X9_open {I : tg_I} {J : tg_J} {P : Option Value → tg_I → tg_J → Prop} (v1 : Int32) (h :
  call pgM zX9_isCell [.ref 0, .int v1] I J (fun vr I1 J1 => ∃ r1 : Int32, vr = some (.int r1) ∧
  ((¬ r1 = 0 →
   vp_in v1 100 ∧
    ((¬ (I1 3 (Int32.toNatClampNeg v1)) = 0 →
     P (some (.int (-2 : Int32))) I1 J1) ∧
    ((I1 3 (Int32.toNatClampNeg v1)) = 0 →
     vp_in v1 100 ∧
      (((I1 4 (Int32.toNatClampNeg v1)) = 0 →
       (¬ (I1 0 10) = (200 : Int32) →
         call pgM zX9_move [.ref 0] I1 J1 (fun vr I2 J2 => vr = none ∧
          (call pgM zX9_uncover [.ref 0, .int v1] I2 J2 (fun vr I3 J3 => vr = none ∧
          (vp_in v1 100 ∧
          (((I3 2 (Int32.toNatClampNeg v1)) = 0 →
           call pgM zX9_numberOf [.ref 0, .int v1] I3 J3 (fun vr I4 J4 => ∃ r2 : Int32, vr = some (.int r2) ∧
            (P (some (.int r2)) I4 J4))) ∧
          (¬ (I3 2 (Int32.toNatClampNeg v1)) = 0 →
           P (some (.int (-5 : Int32))) I3 J3))))))) ∧
        ((I1 0 10) = (200 : Int32) →
         P (some (.int (-4 : Int32))) I1 J1)) ∧
      (¬ (I1 4 (Int32.toNatClampNeg v1)) = 0 →
       P (some (.int (-2 : Int32))) I1 J1))))) ∧
  (r1 = 0 →
   P (some (.int (-1 : Int32))) I1 J1)))) : call pgM zX9_open [.ref 0, .int v1] I J P := by
  refine call_of (by decide +kernel) (fun _ => Nat.le_of_ble_eq_true rfl) ?_
  show rr pgM zX9_open 0 [(0, .ref 0), (1, .int v1)] [] I J P
  refine rr_aload_n dX9_open_0 rfl 0 rfl rfl ?_
  refine rr_iload_n dX9_open_1 rfl 1 rfl rfl ?_
  refine rr_V [.int v1] [] dX9_open_2 kX9_isCell mX9_126 ⟨by decide, by decide⟩ (by decide) rfl rfl rfl (Nat.le_of_ble_eq_true rfl) rfl (h.mono fun vr I1 J1 h => ?_)
  obtain ⟨r1, rfl, h⟩ := h
  show rr pgM zX9_open 5 _ [.int r1] _ _ _
  refine rr_if_ne (tgt := 10) dX9_open_5 (by decide) rfl ⟨fun hc => ?_, fun hc => ?_⟩
  · have h := h.1 hc
    refine rr_aload_n dX9_open_10 rfl 0 rfl rfl ?_
    refine rr_getR dX9_open_11 fX9_26 (by decide) rfl rfl rfl ?_
    refine rr_iload_n dX9_open_14 rfl 1 rfl rfl ?_
    refine rr_iald dX9_open_15 (by decide) rfl rfl ⟨h.1, ?_⟩
    have h := h.2
    refine rr_if_ne (tgt := 28) dX9_open_16 (by decide) rfl ⟨fun hc => ?_, fun hc => ?_⟩
    · have h := h.1 hc
      refine rr_bipush (v := (-2 : Int32)) dX9_open_28 (by decide) rfl ?_
      exact rr_iret dX9_open_30 rfl h
    · have h := h.2 hc
      refine rr_aload_n dX9_open_19 rfl 0 rfl rfl ?_
      refine rr_getR dX9_open_20 fX9_30 (by decide) rfl rfl rfl ?_
      refine rr_iload_n dX9_open_23 rfl 1 rfl rfl ?_
      refine rr_zald dX9_open_24 (by decide) rfl rfl ⟨h.1, ?_⟩
      have h := h.2
      refine rr_if_eq (tgt := 31) dX9_open_25 (by decide) rfl ⟨fun hc => ?_, fun hc => ?_⟩
      · have h := h.1 hc
        refine rr_aload_n dX9_open_31 rfl 0 rfl rfl ?_
        refine rr_getI dX9_open_32 fX9_110 (by decide) rfl rfl rfl ?_
        refine rr_sipush (v := (200 : Int32)) dX9_open_35 (by decide) rfl ?_
        refine rr_icmp_ne (tgt := 44) dX9_open_38 (by decide) rfl ⟨fun hc => ?_, fun hc => ?_⟩
        · have h := h.1 hc
          refine rr_aload_n dX9_open_44 rfl 0 rfl rfl ?_
          refine rr_V [] [] dX9_open_45 kX9_move mX9_186 ⟨by decide, by decide⟩ (by decide) rfl rfl rfl (Nat.le_of_ble_eq_true rfl) rfl (h.mono fun vr I2 J2 h => ?_)
          obtain ⟨rfl, h⟩ := h
          show rr pgM zX9_open 48 _ [] _ _ _
          refine rr_aload_n dX9_open_48 rfl 0 rfl rfl ?_
          refine rr_iload_n dX9_open_49 rfl 1 rfl rfl ?_
          refine rr_V [.int v1] [] dX9_open_50 kX9_uncover mX9_151 ⟨by decide, by decide⟩ (by decide) rfl rfl rfl (Nat.le_of_ble_eq_true rfl) rfl (h.mono fun vr I3 J3 h => ?_)
          obtain ⟨rfl, h⟩ := h
          show rr pgM zX9_open 53 _ [] _ _ _
          refine rr_aload_n dX9_open_53 rfl 0 rfl rfl ?_
          refine rr_getR dX9_open_54 fX9_23 (by decide) rfl rfl rfl ?_
          refine rr_iload_n dX9_open_57 rfl 1 rfl rfl ?_
          refine rr_zald dX9_open_58 (by decide) rfl rfl ⟨h.1, ?_⟩
          have h := h.2
          refine rr_if_eq (tgt := 67) dX9_open_59 (by decide) rfl ⟨fun hc => ?_, fun hc => ?_⟩
          · have h := h.1 hc
            refine rr_aload_n dX9_open_67 rfl 0 rfl rfl ?_
            refine rr_iload_n dX9_open_68 rfl 1 rfl rfl ?_
            refine rr_V [.int v1] [] dX9_open_69 kX9_numberOf mX9_142 ⟨by decide, by decide⟩ (by decide) rfl rfl rfl (Nat.le_of_ble_eq_true rfl) rfl (h.mono fun vr I4 J4 h => ?_)
            obtain ⟨r2, rfl, h⟩ := h
            show rr pgM zX9_open 72 _ [.int r2] _ _ _
            exact rr_iret dX9_open_72 rfl h
          · have h := h.2 hc
            refine rr_bipush (v := (-5 : Int32)) dX9_open_62 (by decide) rfl ?_
            refine rr_goto (tgt := 72) dX9_open_64 (by decide) ?_
            exact rr_iret dX9_open_72 rfl h
        · have h := h.2 hc
          refine rr_bipush (v := (-4 : Int32)) dX9_open_41 (by decide) rfl ?_
          exact rr_iret dX9_open_43 rfl h
      · have h := h.2 hc
        refine rr_bipush (v := (-2 : Int32)) dX9_open_28 (by decide) rfl ?_
        exact rr_iret dX9_open_30 rfl h
  · have h := h.2 hc
    refine rr_iconst (v := (-1 : Int32)) dX9_open_8 (by decide) rfl ?_
    exact rr_iret dX9_open_9 rfl h

theorem e_X9_flag {I : tg_I} {J : tg_J} {P : Option Value → tg_I → tg_J → Prop} (v1 : Int32) (h :
  call pgM zX9_isCell [.ref 0, .int v1] I J (fun vr I1 J1 => ∃ r1 : Int32, vr = some (.int r1) ∧
  ((¬ r1 = 0 →
   vp_in v1 100 ∧
    (((I1 3 (Int32.toNatClampNeg v1)) = 0 →
     (¬ (I1 0 10) = (200 : Int32) →
       call pgM zX9_move [.ref 0] I1 J1 (fun vr I2 J2 => vr = none ∧
        (vp_in v1 100 ∧
        ((¬ (I2 4 (Int32.toNatClampNeg v1)) = 0 →
         vp_in v1 100 ∧ ∀ I3, I3 = u2 I2 4 (Int32.toNatClampNeg v1) (vp_nar .boolean (0 : Int32)) →
          vp_in v1 100 ∧
          (((I3 4 (Int32.toNatClampNeg v1)) = 0 →
           P (some (.int (0 : Int32))) I3 J2) ∧
          (¬ (I3 4 (Int32.toNatClampNeg v1)) = 0 →
           P (some (.int (1 : Int32))) I3 J2))) ∧
        ((I2 4 (Int32.toNatClampNeg v1)) = 0 →
         vp_in v1 100 ∧ ∀ I4, I4 = u2 I2 4 (Int32.toNatClampNeg v1) (vp_nar .boolean (1 : Int32)) →
          vp_in v1 100 ∧
          (((I4 4 (Int32.toNatClampNeg v1)) = 0 →
           P (some (.int (0 : Int32))) I4 J2) ∧
          (¬ (I4 4 (Int32.toNatClampNeg v1)) = 0 →
           P (some (.int (1 : Int32))) I4 J2))))))) ∧
      ((I1 0 10) = (200 : Int32) →
       P (some (.int (-4 : Int32))) I1 J1)) ∧
    (¬ (I1 3 (Int32.toNatClampNeg v1)) = 0 →
     P (some (.int (-2 : Int32))) I1 J1))) ∧
  (r1 = 0 →
   P (some (.int (-1 : Int32))) I1 J1)))) : call pgM zX9_flag [.ref 0, .int v1] I J P := by
  refine call_of (by decide +kernel) (fun _ => Nat.le_of_ble_eq_true rfl) ?_
  show rr pgM zX9_flag 0 [(0, .ref 0), (1, .int v1)] [] I J P
  refine rr_aload_n dX9_flag_0 rfl 0 rfl rfl ?_
  refine rr_iload_n dX9_flag_1 rfl 1 rfl rfl ?_
  refine rr_V [.int v1] [] dX9_flag_2 kX9_isCell mX9_126 ⟨by decide, by decide⟩ (by decide) rfl rfl rfl (Nat.le_of_ble_eq_true rfl) rfl (h.mono fun vr I1 J1 h => ?_)
  obtain ⟨r1, rfl, h⟩ := h
  show rr pgM zX9_flag 5 _ [.int r1] _ _ _
  refine rr_if_ne (tgt := 10) dX9_flag_5 (by decide) rfl ⟨fun hc => ?_, fun hc => ?_⟩
  · have h := h.1 hc
    refine rr_aload_n dX9_flag_10 rfl 0 rfl rfl ?_
    refine rr_getR dX9_flag_11 fX9_26 (by decide) rfl rfl rfl ?_
    refine rr_iload_n dX9_flag_14 rfl 1 rfl rfl ?_
    refine rr_iald dX9_flag_15 (by decide) rfl rfl ⟨h.1, ?_⟩
    have h := h.2
    refine rr_if_eq (tgt := 22) dX9_flag_16 (by decide) rfl ⟨fun hc => ?_, fun hc => ?_⟩
    · have h := h.1 hc
      refine rr_aload_n dX9_flag_22 rfl 0 rfl rfl ?_
      refine rr_getI dX9_flag_23 fX9_110 (by decide) rfl rfl rfl ?_
      refine rr_sipush (v := (200 : Int32)) dX9_flag_26 (by decide) rfl ?_
      refine rr_icmp_ne (tgt := 35) dX9_flag_29 (by decide) rfl ⟨fun hc => ?_, fun hc => ?_⟩
      · have h := h.1 hc
        refine rr_aload_n dX9_flag_35 rfl 0 rfl rfl ?_
        refine rr_V [] [] dX9_flag_36 kX9_move mX9_186 ⟨by decide, by decide⟩ (by decide) rfl rfl rfl (Nat.le_of_ble_eq_true rfl) rfl (h.mono fun vr I2 J2 h => ?_)
        obtain ⟨rfl, h⟩ := h
        show rr pgM zX9_flag 39 _ [] _ _ _
        refine rr_aload_n dX9_flag_39 rfl 0 rfl rfl ?_
        refine rr_getR dX9_flag_40 fX9_30 (by decide) rfl rfl rfl ?_
        refine rr_iload_n dX9_flag_43 rfl 1 rfl rfl ?_
        refine rr_aload_n dX9_flag_44 rfl 0 rfl rfl ?_
        refine rr_getR dX9_flag_45 fX9_30 (by decide) rfl rfl rfl ?_
        refine rr_iload_n dX9_flag_48 rfl 1 rfl rfl ?_
        refine rr_zald dX9_flag_49 (by decide) rfl rfl ⟨h.1, ?_⟩
        have h := h.2
        refine rr_if_ne (tgt := 57) dX9_flag_50 (by decide) rfl ⟨fun hc => ?_, fun hc => ?_⟩
        · have h := h.1 hc
          refine rr_iconst (v := (0 : Int32)) dX9_flag_57 (by decide) rfl ?_
          refine rr_zast dX9_flag_58 (by decide) rfl rfl ⟨h.1, ?_⟩
          refine rr_letI (fun I3 hI3 => ?_)
          have h := h.2 I3 hI3
          refine rr_aload_n dX9_flag_59 rfl 0 rfl rfl ?_
          refine rr_getR dX9_flag_60 fX9_30 (by decide) rfl rfl rfl ?_
          refine rr_iload_n dX9_flag_63 rfl 1 rfl rfl ?_
          refine rr_zald dX9_flag_64 (by decide) rfl rfl ⟨h.1, ?_⟩
          have h := h.2
          refine rr_if_eq (tgt := 72) dX9_flag_65 (by decide) rfl ⟨fun hc => ?_, fun hc => ?_⟩
          · have h := h.1 hc
            refine rr_iconst (v := (0 : Int32)) dX9_flag_72 (by decide) rfl ?_
            exact rr_iret dX9_flag_73 rfl h
          · have h := h.2 hc
            refine rr_iconst (v := (1 : Int32)) dX9_flag_68 (by decide) rfl ?_
            refine rr_goto (tgt := 73) dX9_flag_69 (by decide) ?_
            exact rr_iret dX9_flag_73 rfl h
        · have h := h.2 hc
          refine rr_iconst (v := (1 : Int32)) dX9_flag_53 (by decide) rfl ?_
          refine rr_goto (tgt := 58) dX9_flag_54 (by decide) ?_
          refine rr_zast dX9_flag_58 (by decide) rfl rfl ⟨h.1, ?_⟩
          refine rr_letI (fun I4 hI4 => ?_)
          have h := h.2 I4 hI4
          refine rr_aload_n dX9_flag_59 rfl 0 rfl rfl ?_
          refine rr_getR dX9_flag_60 fX9_30 (by decide) rfl rfl rfl ?_
          refine rr_iload_n dX9_flag_63 rfl 1 rfl rfl ?_
          refine rr_zald dX9_flag_64 (by decide) rfl rfl ⟨h.1, ?_⟩
          have h := h.2
          refine rr_if_eq (tgt := 72) dX9_flag_65 (by decide) rfl ⟨fun hc => ?_, fun hc => ?_⟩
          · have h := h.1 hc
            refine rr_iconst (v := (0 : Int32)) dX9_flag_72 (by decide) rfl ?_
            exact rr_iret dX9_flag_73 rfl h
          · have h := h.2 hc
            refine rr_iconst (v := (1 : Int32)) dX9_flag_68 (by decide) rfl ?_
            refine rr_goto (tgt := 73) dX9_flag_69 (by decide) ?_
            exact rr_iret dX9_flag_73 rfl h
      · have h := h.2 hc
        refine rr_bipush (v := (-4 : Int32)) dX9_flag_32 (by decide) rfl ?_
        exact rr_iret dX9_flag_34 rfl h
    · have h := h.2 hc
      refine rr_bipush (v := (-2 : Int32)) dX9_flag_19 (by decide) rfl ?_
      exact rr_iret dX9_flag_21 rfl h
  · have h := h.2 hc
    refine rr_iconst (v := (-1 : Int32)) dX9_flag_8 (by decide) rfl ?_
    exact rr_iret dX9_flag_9 rfl h

def l_X9_flagsNear_4 (I : tg_I) (J : tg_J) (P : Option Value → tg_I → tg_J → Prop) (v1 : Int32) (v2 : Int32) (v3 : Int32) : Prop := rr pgM zX9_flagsNear 4 [(0, .ref 0), (1, .int v1), (2, .int v2), (3, .int v3)] [] I J P
theorem e_X9_flagsNear {I : tg_I} {J : tg_J} {P : Option Value → tg_I → tg_J → Prop} (v1 : Int32) (h :
  l_X9_flagsNear_4 I J P v1 ((0 : Int32)) ((0 : Int32))) : call pgM zX9_flagsNear [.ref 0, .int v1] I J P := by
  refine call_of (by decide +kernel) (fun _ => Nat.le_of_ble_eq_true rfl) ?_
  show rr pgM zX9_flagsNear 0 [(0, .ref 0), (1, .int v1)] [] I J P
  refine rr_iconst (v := (0 : Int32)) dX9_flagsNear_0 (by decide) rfl ?_
  refine rr_istore_n (lv' := [(2, .int (0 : Int32)), (0, .ref 0), (1, .int v1)]) dX9_flagsNear_1 rfl (by decide) rfl rfl ?_
  refine rr_iconst (v := (0 : Int32)) dX9_flagsNear_2 (by decide) rfl ?_
  refine rr_istore_n (lv' := [(3, .int (0 : Int32)), (2, .int (0 : Int32)), (0, .ref 0), (1, .int v1)]) dX9_flagsNear_3 rfl (by decide) rfl rfl ?_
  exact rr.sub [2, 3, 1, 0] rfl h
theorem s_X9_flagsNear_4 {I : tg_I} {J : tg_J} {P : Option Value → tg_I → tg_J → Prop} (v1 : Int32) (v2 : Int32) (v3 : Int32) (h :
  ((I 0 3) ≤ v3 →
   P (some (.int v2)) I J) ∧
  (¬ (I 0 3) ≤ v3 →
   call pgM zX9_isNear [.ref 0, .int v1, .int v3] I J (fun vr I1 J1 => ∃ r1 : Int32, vr = some (.int r1) ∧
    ((r1 = 0 →
     l_X9_flagsNear_4 I1 J1 P v1 ((v2 + (0 : Int32))) ((v3 + (1 : Int32)))) ∧
    (¬ r1 = 0 →
     vp_in v3 100 ∧
      (((I1 4 (Int32.toNatClampNeg v3)) = 0 →
       l_X9_flagsNear_4 I1 J1 P v1 ((v2 + (0 : Int32))) ((v3 + (1 : Int32)))) ∧
      (¬ (I1 4 (Int32.toNatClampNeg v3)) = 0 →
       l_X9_flagsNear_4 I1 J1 P v1 ((v2 + (1 : Int32))) ((v3 + (1 : Int32)))))))))) : l_X9_flagsNear_4 I J P v1 v2 v3 := by
  show rr pgM zX9_flagsNear 4 [(0, .ref 0), (1, .int v1), (2, .int v2), (3, .int v3)] [] I J P
  refine rr_iload_n dX9_flagsNear_4 rfl 3 rfl rfl ?_
  refine rr_aload_n dX9_flagsNear_5 rfl 0 rfl rfl ?_
  refine rr_getI dX9_flagsNear_6 fX9_16 (by decide) rfl rfl rfl ?_
  refine rr_icmp_ge (tgt := 44) dX9_flagsNear_9 (by decide) rfl ⟨fun hc => ?_, fun hc => ?_⟩
  · have h := h.1 hc
    refine rr_iload_n dX9_flagsNear_44 rfl 2 rfl rfl ?_
    exact rr_iret dX9_flagsNear_45 rfl h
  · have h := h.2 hc
    refine rr_iload_n dX9_flagsNear_12 rfl 2 rfl rfl ?_
    refine rr_aload_n dX9_flagsNear_13 rfl 0 rfl rfl ?_
    refine rr_iload_n dX9_flagsNear_14 rfl 1 rfl rfl ?_
    refine rr_iload_n dX9_flagsNear_15 rfl 3 rfl rfl ?_
    refine rr_V [.int v1, .int v3] [.int v2] dX9_flagsNear_16 kX9_isNear mX9_138 ⟨by decide, by decide⟩ (by decide) rfl rfl rfl (Nat.le_of_ble_eq_true rfl) rfl (h.mono fun vr I1 J1 h => ?_)
    obtain ⟨r1, rfl, h⟩ := h
    show rr pgM zX9_flagsNear 19 _ [.int r1, .int v2] _ _ _
    refine rr_if_eq (tgt := 35) dX9_flagsNear_19 (by decide) rfl ⟨fun hc => ?_, fun hc => ?_⟩
    · have h := h.1 hc
      refine rr_iconst (v := (0 : Int32)) dX9_flagsNear_35 (by decide) rfl ?_
      refine rr_iadd dX9_flagsNear_36 rfl ?_
      refine rr_istore_n (lv' := [(2, .int (v2 + (0 : Int32))), (0, .ref 0), (1, .int v1), (3, .int v3)]) dX9_flagsNear_37 rfl (by decide) rfl rfl ?_
      refine rr_iinc (k := 3) (v := (v3 + (1 : Int32))) (lv' := [(3, .int (v3 + (1 : Int32))), (2, .int (v2 + (0 : Int32))), (0, .ref 0), (1, .int v1)]) dX9_flagsNear_38 rfl rfl (by decide) rfl rfl ?_
      refine rr_goto (tgt := 4) dX9_flagsNear_41 (by decide) ?_
      exact rr.sub [2, 3, 1, 0] rfl h
    · have h := h.2 hc
      refine rr_aload_n dX9_flagsNear_22 rfl 0 rfl rfl ?_
      refine rr_getR dX9_flagsNear_23 fX9_30 (by decide) rfl rfl rfl ?_
      refine rr_iload_n dX9_flagsNear_26 rfl 3 rfl rfl ?_
      refine rr_zald dX9_flagsNear_27 (by decide) rfl rfl ⟨h.1, ?_⟩
      have h := h.2
      refine rr_if_eq (tgt := 35) dX9_flagsNear_28 (by decide) rfl ⟨fun hc => ?_, fun hc => ?_⟩
      · have h := h.1 hc
        refine rr_iconst (v := (0 : Int32)) dX9_flagsNear_35 (by decide) rfl ?_
        refine rr_iadd dX9_flagsNear_36 rfl ?_
        refine rr_istore_n (lv' := [(2, .int (v2 + (0 : Int32))), (0, .ref 0), (1, .int v1), (3, .int v3)]) dX9_flagsNear_37 rfl (by decide) rfl rfl ?_
        refine rr_iinc (k := 3) (v := (v3 + (1 : Int32))) (lv' := [(3, .int (v3 + (1 : Int32))), (2, .int (v2 + (0 : Int32))), (0, .ref 0), (1, .int v1)]) dX9_flagsNear_38 rfl rfl (by decide) rfl rfl ?_
        refine rr_goto (tgt := 4) dX9_flagsNear_41 (by decide) ?_
        exact rr.sub [2, 3, 1, 0] rfl h
      · have h := h.2 hc
        refine rr_iconst (v := (1 : Int32)) dX9_flagsNear_31 (by decide) rfl ?_
        refine rr_goto (tgt := 36) dX9_flagsNear_32 (by decide) ?_
        refine rr_iadd dX9_flagsNear_36 rfl ?_
        refine rr_istore_n (lv' := [(2, .int (v2 + (1 : Int32))), (0, .ref 0), (1, .int v1), (3, .int v3)]) dX9_flagsNear_37 rfl (by decide) rfl rfl ?_
        refine rr_iinc (k := 3) (v := (v3 + (1 : Int32))) (lv' := [(3, .int (v3 + (1 : Int32))), (2, .int (v2 + (1 : Int32))), (0, .ref 0), (1, .int v1)]) dX9_flagsNear_38 rfl rfl (by decide) rfl rfl ?_
        refine rr_goto (tgt := 4) dX9_flagsNear_41 (by decide) ?_
        exact rr.sub [2, 3, 1, 0] rfl h

def l_X9_chord_79 (I : tg_I) (J : tg_J) (P : Option Value → tg_I → tg_J → Prop) (v1 : Int32) (v2 : Int32) (v3 : Int32) (v4 : Int32) : Prop := rr pgM zX9_chord 79 [(0, .ref 0), (1, .int v1), (2, .int v2), (3, .int v3), (4, .int v4)] [] I J P
theorem e_X9_chord {I : tg_I} {J : tg_J} {P : Option Value → tg_I → tg_J → Prop} (v1 : Int32) (h :
  call pgM zX9_isCell [.ref 0, .int v1] I J (fun vr I1 J1 => ∃ r1 : Int32, vr = some (.int r1) ∧
  ((¬ r1 = 0 →
   vp_in v1 100 ∧
    ((¬ (I1 3 (Int32.toNatClampNeg v1)) = (1 : Int32) →
     P (some (.int (-2 : Int32))) I1 J1) ∧
    ((I1 3 (Int32.toNatClampNeg v1)) = (1 : Int32) →
     call pgM zX9_flagsNear [.ref 0, .int v1] I1 J1 (fun vr I2 J2 => ∃ r2 : Int32, vr = some (.int r2) ∧
      (call pgM zX9_nearState [.ref 0, .int v1, .int (2 : Int32)] I2 J2 (fun vr I3 J3 => ∃ r3 : Int32, vr = some (.int r3) ∧
      (call pgM zX9_numberOf [.ref 0, .int v1] I3 J3 (fun vr I4 J4 => ∃ r4 : Int32, vr = some (.int r4) ∧
      (((r2 + r3) = r4 →
       (¬ (I4 0 10) = (200 : Int32) →
         call pgM zX9_move [.ref 0] I4 J4 (fun vr I5 J5 => vr = none ∧
          (call pgM zX9_inState [.ref 0, .int (0 : Int32)] I5 J5 (fun vr I6 J6 => ∃ r5 : Int32, vr = some (.int r5) ∧
          (∀ x1, x1 = ((100 : Int32) * ((I6 0 10) - (1 : Int32))) →
          l_X9_chord_79 I6 J6 P v1 r5 x1 ((0 : Int32))))))) ∧
        ((I4 0 10) = (200 : Int32) →
         P (some (.int (-4 : Int32))) I4 J4)) ∧
      (¬ (r2 + r3) = r4 →
       P (some (.int (-2 : Int32))) I4 J4)))))))))) ∧
  (r1 = 0 →
   P (some (.int (-1 : Int32))) I1 J1)))) : call pgM zX9_chord [.ref 0, .int v1] I J P := by
  refine call_of (by decide +kernel) (fun _ => Nat.le_of_ble_eq_true rfl) ?_
  show rr pgM zX9_chord 0 [(0, .ref 0), (1, .int v1)] [] I J P
  refine rr_aload_n dX9_chord_0 rfl 0 rfl rfl ?_
  refine rr_iload_n dX9_chord_1 rfl 1 rfl rfl ?_
  refine rr_V [.int v1] [] dX9_chord_2 kX9_isCell mX9_126 ⟨by decide, by decide⟩ (by decide) rfl rfl rfl (Nat.le_of_ble_eq_true rfl) rfl (h.mono fun vr I1 J1 h => ?_)
  obtain ⟨r1, rfl, h⟩ := h
  show rr pgM zX9_chord 5 _ [.int r1] _ _ _
  refine rr_if_ne (tgt := 10) dX9_chord_5 (by decide) rfl ⟨fun hc => ?_, fun hc => ?_⟩
  · have h := h.1 hc
    refine rr_aload_n dX9_chord_10 rfl 0 rfl rfl ?_
    refine rr_getR dX9_chord_11 fX9_26 (by decide) rfl rfl rfl ?_
    refine rr_iload_n dX9_chord_14 rfl 1 rfl rfl ?_
    refine rr_iald dX9_chord_15 (by decide) rfl rfl ⟨h.1, ?_⟩
    have h := h.2
    refine rr_iconst (v := (1 : Int32)) dX9_chord_16 (by decide) rfl ?_
    refine rr_icmp_ne (tgt := 40) dX9_chord_17 (by decide) rfl ⟨fun hc => ?_, fun hc => ?_⟩
    · have h := h.1 hc
      refine rr_bipush (v := (-2 : Int32)) dX9_chord_40 (by decide) rfl ?_
      exact rr_iret dX9_chord_42 rfl h
    · have h := h.2 hc
      refine rr_aload_n dX9_chord_20 rfl 0 rfl rfl ?_
      refine rr_iload_n dX9_chord_21 rfl 1 rfl rfl ?_
      refine rr_V [.int v1] [] dX9_chord_22 kX9_flagsNear mX9_189 ⟨by decide, by decide⟩ (by decide) rfl rfl rfl (Nat.le_of_ble_eq_true rfl) rfl (h.mono fun vr I2 J2 h => ?_)
      obtain ⟨r2, rfl, h⟩ := h
      show rr pgM zX9_chord 25 _ [.int r2] _ _ _
      refine rr_aload_n dX9_chord_25 rfl 0 rfl rfl ?_
      refine rr_iload_n dX9_chord_26 rfl 1 rfl rfl ?_
      refine rr_iconst (v := (2 : Int32)) dX9_chord_27 (by decide) rfl ?_
      refine rr_V [.int v1, .int (2 : Int32)] [.int r2] dX9_chord_28 kX9_nearState mX9_165 ⟨by decide, by decide⟩ (by decide) rfl rfl rfl (Nat.le_of_ble_eq_true rfl) rfl (h.mono fun vr I3 J3 h => ?_)
      obtain ⟨r3, rfl, h⟩ := h
      show rr pgM zX9_chord 31 _ [.int r3, .int r2] _ _ _
      refine rr_iadd dX9_chord_31 rfl ?_
      refine rr_aload_n dX9_chord_32 rfl 0 rfl rfl ?_
      refine rr_iload_n dX9_chord_33 rfl 1 rfl rfl ?_
      refine rr_V [.int v1] [.int (r2 + r3)] dX9_chord_34 kX9_numberOf mX9_142 ⟨by decide, by decide⟩ (by decide) rfl rfl rfl (Nat.le_of_ble_eq_true rfl) rfl (h.mono fun vr I4 J4 h => ?_)
      obtain ⟨r4, rfl, h⟩ := h
      show rr pgM zX9_chord 37 _ [.int r4, .int (r2 + r3)] _ _ _
      refine rr_icmp_eq (tgt := 43) dX9_chord_37 (by decide) rfl ⟨fun hc => ?_, fun hc => ?_⟩
      · have h := h.1 hc
        refine rr_aload_n dX9_chord_43 rfl 0 rfl rfl ?_
        refine rr_getI dX9_chord_44 fX9_110 (by decide) rfl rfl rfl ?_
        refine rr_sipush (v := (200 : Int32)) dX9_chord_47 (by decide) rfl ?_
        refine rr_icmp_ne (tgt := 56) dX9_chord_50 (by decide) rfl ⟨fun hc => ?_, fun hc => ?_⟩
        · have h := h.1 hc
          refine rr_aload_n dX9_chord_56 rfl 0 rfl rfl ?_
          refine rr_V [] [] dX9_chord_57 kX9_move mX9_186 ⟨by decide, by decide⟩ (by decide) rfl rfl rfl (Nat.le_of_ble_eq_true rfl) rfl (h.mono fun vr I5 J5 h => ?_)
          obtain ⟨rfl, h⟩ := h
          show rr pgM zX9_chord 60 _ [] _ _ _
          refine rr_aload_n dX9_chord_60 rfl 0 rfl rfl ?_
          refine rr_iconst (v := (0 : Int32)) dX9_chord_61 (by decide) rfl ?_
          refine rr_V [.int (0 : Int32)] [] dX9_chord_62 kX9_inState mX9_130 ⟨by decide, by decide⟩ (by decide) rfl rfl rfl (Nat.le_of_ble_eq_true rfl) rfl (h.mono fun vr I6 J6 h => ?_)
          obtain ⟨r5, rfl, h⟩ := h
          show rr pgM zX9_chord 65 _ [.int r5] _ _ _
          refine rr_istore_n (lv' := [(2, .int r5), (0, .ref 0), (1, .int v1)]) dX9_chord_65 rfl (by decide) rfl rfl ?_
          refine rr_bipush (v := (100 : Int32)) dX9_chord_66 (by decide) rfl ?_
          refine rr_aload_n dX9_chord_68 rfl 1 rfl rfl ?_
          refine rr_getI dX9_chord_69 fX9_110 (by decide) rfl rfl rfl ?_
          refine rr_iconst (v := (1 : Int32)) dX9_chord_72 (by decide) rfl ?_
          refine rr_isub dX9_chord_73 rfl ?_
          refine rr_imul dX9_chord_74 rfl ?_
          refine rr_letTi (fun x1 hx1 => ?_)
          have h := h x1 hx1
          refine rr_istore_n (lv' := [(3, .int x1), (2, .int r5), (0, .ref 0), (1, .int v1)]) dX9_chord_75 rfl (by decide) rfl rfl ?_
          refine rr_iconst (v := (0 : Int32)) dX9_chord_76 (by decide) rfl ?_
          refine rr_istore (lv' := [(4, .int (0 : Int32)), (3, .int x1), (2, .int r5), (0, .ref 0), (1, .int v1)]) dX9_chord_77 (by decide) rfl rfl ?_
          exact rr.sub [3, 4, 2, 1, 0] rfl h
        · have h := h.2 hc
          refine rr_bipush (v := (-4 : Int32)) dX9_chord_53 (by decide) rfl ?_
          exact rr_iret dX9_chord_55 rfl h
      · have h := h.2 hc
        refine rr_bipush (v := (-2 : Int32)) dX9_chord_40 (by decide) rfl ?_
        exact rr_iret dX9_chord_42 rfl h
  · have h := h.2 hc
    refine rr_iconst (v := (-1 : Int32)) dX9_chord_8 (by decide) rfl ?_
    exact rr_iret dX9_chord_9 rfl h
theorem s_X9_chord_79 {I : tg_I} {J : tg_J} {P : Option Value → tg_I → tg_J → Prop} (v1 : Int32) (v2 : Int32) (v3 : Int32) (v4 : Int32) (h :
  ((I 0 3) ≤ v4 →
   call pgM zX9_inState [.ref 0, .int (0 : Int32)] I J (fun vr I1 J1 => ∃ r1 : Int32, vr = some (.int r1) ∧
    (P (some (.int (v2 - r1))) I1 J1))) ∧
  (¬ (I 0 3) ≤ v4 →
   call pgM zX9_isNear [.ref 0, .int v1, .int v4] I J (fun vr I2 J2 => ∃ r2 : Int32, vr = some (.int r2) ∧
    ((r2 = 0 →
     l_X9_chord_79 I2 J2 P v1 v2 v3 ((v4 + (1 : Int32)))) ∧
    (¬ r2 = 0 →
     vp_in (v3 + v4) 20000 ∧
      ((¬ (I2 5 (Int32.toNatClampNeg (v3 + v4))) = 0 →
       l_X9_chord_79 I2 J2 P v1 v2 v3 ((v4 + (1 : Int32)))) ∧
      ((I2 5 (Int32.toNatClampNeg (v3 + v4))) = 0 →
       vp_in v4 100 ∧
        ((¬ (I2 3 (Int32.toNatClampNeg v4)) = 0 →
         l_X9_chord_79 I2 J2 P v1 v2 v3 ((v4 + (1 : Int32)))) ∧
        ((I2 3 (Int32.toNatClampNeg v4)) = 0 →
         call pgM zX9_uncover [.ref 0, .int v4] I2 J2 (fun vr I3 J3 => vr = none ∧
          (l_X9_chord_79 I3 J3 P v1 v2 v3 ((v4 + (1 : Int32)))))))))))))) : l_X9_chord_79 I J P v1 v2 v3 v4 := by
  show rr pgM zX9_chord 79 [(0, .ref 0), (1, .int v1), (2, .int v2), (3, .int v3), (4, .int v4)] [] I J P
  refine rr_iload dX9_chord_79 4 rfl rfl ?_
  refine rr_aload_n dX9_chord_81 rfl 0 rfl rfl ?_
  refine rr_getI dX9_chord_82 fX9_16 (by decide) rfl rfl rfl ?_
  refine rr_icmp_ge (tgt := 132) dX9_chord_85 (by decide) rfl ⟨fun hc => ?_, fun hc => ?_⟩
  · have h := h.1 hc
    refine rr_iload_n dX9_chord_132 rfl 2 rfl rfl ?_
    refine rr_aload_n dX9_chord_133 rfl 0 rfl rfl ?_
    refine rr_iconst (v := (0 : Int32)) dX9_chord_134 (by decide) rfl ?_
    refine rr_V [.int (0 : Int32)] [.int v2] dX9_chord_135 kX9_inState mX9_130 ⟨by decide, by decide⟩ (by decide) rfl rfl rfl (Nat.le_of_ble_eq_true rfl) rfl (h.mono fun vr I1 J1 h => ?_)
    obtain ⟨r1, rfl, h⟩ := h
    show rr pgM zX9_chord 138 _ [.int r1, .int v2] _ _ _
    refine rr_isub dX9_chord_138 rfl ?_
    exact rr_iret dX9_chord_139 rfl h
  · have h := h.2 hc
    refine rr_aload_n dX9_chord_88 rfl 0 rfl rfl ?_
    refine rr_iload_n dX9_chord_89 rfl 1 rfl rfl ?_
    refine rr_iload dX9_chord_90 4 rfl rfl ?_
    refine rr_V [.int v1, .int v4] [] dX9_chord_92 kX9_isNear mX9_138 ⟨by decide, by decide⟩ (by decide) rfl rfl rfl (Nat.le_of_ble_eq_true rfl) rfl (h.mono fun vr I2 J2 h => ?_)
    obtain ⟨r2, rfl, h⟩ := h
    show rr pgM zX9_chord 95 _ [.int r2] _ _ _
    refine rr_if_eq (tgt := 126) dX9_chord_95 (by decide) rfl ⟨fun hc => ?_, fun hc => ?_⟩
    · have h := h.1 hc
      refine rr_iinc (k := 4) (v := (v4 + (1 : Int32))) (lv' := [(4, .int (v4 + (1 : Int32))), (0, .ref 0), (1, .int v1), (2, .int v2), (3, .int v3)]) dX9_chord_126 rfl rfl (by decide) rfl rfl ?_
      refine rr_goto (tgt := 79) dX9_chord_129 (by decide) ?_
      exact rr.sub [1, 2, 3, 4, 0] rfl h
    · have h := h.2 hc
      refine rr_aload_n dX9_chord_98 rfl 0 rfl rfl ?_
      refine rr_getR dX9_chord_99 fX9_33 (by decide) rfl rfl rfl ?_
      refine rr_iload_n dX9_chord_102 rfl 3 rfl rfl ?_
      refine rr_iload dX9_chord_103 4 rfl rfl ?_
      refine rr_iadd dX9_chord_105 rfl ?_
      refine rr_iald dX9_chord_106 (by decide) rfl rfl ⟨h.1, ?_⟩
      have h := h.2
      refine rr_if_ne (tgt := 126) dX9_chord_107 (by decide) rfl ⟨fun hc => ?_, fun hc => ?_⟩
      · have h := h.1 hc
        refine rr_iinc (k := 4) (v := (v4 + (1 : Int32))) (lv' := [(4, .int (v4 + (1 : Int32))), (0, .ref 0), (1, .int v1), (2, .int v2), (3, .int v3)]) dX9_chord_126 rfl rfl (by decide) rfl rfl ?_
        refine rr_goto (tgt := 79) dX9_chord_129 (by decide) ?_
        exact rr.sub [1, 2, 3, 4, 0] rfl h
      · have h := h.2 hc
        refine rr_aload_n dX9_chord_110 rfl 0 rfl rfl ?_
        refine rr_getR dX9_chord_111 fX9_26 (by decide) rfl rfl rfl ?_
        refine rr_iload dX9_chord_114 4 rfl rfl ?_
        refine rr_iald dX9_chord_116 (by decide) rfl rfl ⟨h.1, ?_⟩
        have h := h.2
        refine rr_if_ne (tgt := 126) dX9_chord_117 (by decide) rfl ⟨fun hc => ?_, fun hc => ?_⟩
        · have h := h.1 hc
          refine rr_iinc (k := 4) (v := (v4 + (1 : Int32))) (lv' := [(4, .int (v4 + (1 : Int32))), (0, .ref 0), (1, .int v1), (2, .int v2), (3, .int v3)]) dX9_chord_126 rfl rfl (by decide) rfl rfl ?_
          refine rr_goto (tgt := 79) dX9_chord_129 (by decide) ?_
          exact rr.sub [1, 2, 3, 4, 0] rfl h
        · have h := h.2 hc
          refine rr_aload_n dX9_chord_120 rfl 0 rfl rfl ?_
          refine rr_iload dX9_chord_121 4 rfl rfl ?_
          refine rr_V [.int v4] [] dX9_chord_123 kX9_uncover mX9_151 ⟨by decide, by decide⟩ (by decide) rfl rfl rfl (Nat.le_of_ble_eq_true rfl) rfl (h.mono fun vr I3 J3 h => ?_)
          obtain ⟨rfl, h⟩ := h
          show rr pgM zX9_chord 126 _ [] _ _ _
          refine rr_iinc (k := 4) (v := (v4 + (1 : Int32))) (lv' := [(4, .int (v4 + (1 : Int32))), (0, .ref 0), (1, .int v1), (2, .int v2), (3, .int v3)]) dX9_chord_126 rfl rfl (by decide) rfl rfl ?_
          refine rr_goto (tgt := 79) dX9_chord_129 (by decide) ?_
          exact rr.sub [1, 2, 3, 4, 0] rfl h

def l_X9_undo_22 (I : tg_I) (J : tg_J) (P : Option Value → tg_I → tg_J → Prop) (v1 : Int32) : Prop := rr pgM zX9_undo 22 [(0, .ref 0), (1, .int v1)] [] I J P
theorem e_X9_undo {I : tg_I} {J : tg_J} {P : Option Value → tg_I → tg_J → Prop} (h :
  (¬ (I 0 10) = 0 →
   ∀ I1, I1 = u2 I 0 10 ((I 0 10) - (1 : Int32)) →
    l_X9_undo_22 I1 J P ((0 : Int32))) ∧
  ((I 0 10) = 0 →
   P (some (.int (-2 : Int32))) I J)) : call pgM zX9_undo [.ref 0] I J P := by
  refine call_of (by decide +kernel) (fun _ => Nat.le_of_ble_eq_true rfl) ?_
  show rr pgM zX9_undo 0 [(0, .ref 0)] [] I J P
  refine rr_aload_n dX9_undo_0 rfl 0 rfl rfl ?_
  refine rr_getI dX9_undo_1 fX9_110 (by decide) rfl rfl rfl ?_
  refine rr_if_ne (tgt := 10) dX9_undo_4 (by decide) rfl ⟨fun hc => ?_, fun hc => ?_⟩
  · have h := h.1 hc
    refine rr_aload_n dX9_undo_10 rfl 0 rfl rfl ?_
    refine rr_dup dX9_undo_11 rfl rfl ?_
    refine rr_getI dX9_undo_12 fX9_110 (by decide) rfl rfl rfl ?_
    refine rr_iconst (v := (1 : Int32)) dX9_undo_15 (by decide) rfl ?_
    refine rr_isub dX9_undo_16 rfl ?_
    refine rr_putI dX9_undo_17 pX9_110 (by decide) rfl rfl rfl ?_
    refine rr_letI (fun I1 hI1 => ?_)
    have h := h I1 hI1
    refine rr_iconst (v := (0 : Int32)) dX9_undo_20 (by decide) rfl ?_
    refine rr_istore_n (lv' := [(1, .int (0 : Int32)), (0, .ref 0)]) dX9_undo_21 rfl (by decide) rfl rfl ?_
    exact rr.sub [1, 0] rfl h
  · have h := h.2 hc
    refine rr_bipush (v := (-2 : Int32)) dX9_undo_7 (by decide) rfl ?_
    exact rr_iret dX9_undo_9 rfl h
theorem s_X9_undo_22 {I : tg_I} {J : tg_J} {P : Option Value → tg_I → tg_J → Prop} (v1 : Int32) (h :
  ((I 0 3) ≤ v1 →
   P (some (.int (1 : Int32))) I J) ∧
  (¬ (I 0 3) ≤ v1 →
   vp_in (((100 : Int32) * (I 0 10)) + v1) 20000 ∧
    (vp_in v1 100 ∧ ∀ I1, I1 = u2 I 3 (Int32.toNatClampNeg v1) ((I 5 (Int32.toNatClampNeg (((100 : Int32) * (I 0 10)) + v1))) - (I 5 (Int32.toNatClampNeg (((100 : Int32) * (I 0 10)) + v1))) / (4 : Int32) * (4 : Int32)) →
    vp_in (((100 : Int32) * (I1 0 10)) + v1) 20000 ∧
    (((I1 5 (Int32.toNatClampNeg (((100 : Int32) * (I1 0 10)) + v1))) < (4 : Int32) →
     vp_in v1 100 ∧ ∀ I2, I2 = u2 I1 4 (Int32.toNatClampNeg v1) (vp_nar .boolean (0 : Int32)) →
      l_X9_undo_22 I2 J P ((v1 + (1 : Int32)))) ∧
    (¬ (I1 5 (Int32.toNatClampNeg (((100 : Int32) * (I1 0 10)) + v1))) < (4 : Int32) →
     vp_in v1 100 ∧ ∀ I3, I3 = u2 I1 4 (Int32.toNatClampNeg v1) (vp_nar .boolean (1 : Int32)) →
      l_X9_undo_22 I3 J P ((v1 + (1 : Int32)))))))) : l_X9_undo_22 I J P v1 := by
  show rr pgM zX9_undo 22 [(0, .ref 0), (1, .int v1)] [] I J P
  refine rr_iload_n dX9_undo_22 rfl 1 rfl rfl ?_
  refine rr_aload_n dX9_undo_23 rfl 0 rfl rfl ?_
  refine rr_getI dX9_undo_24 fX9_16 (by decide) rfl rfl rfl ?_
  refine rr_icmp_ge (tgt := 87) dX9_undo_27 (by decide) rfl ⟨fun hc => ?_, fun hc => ?_⟩
  · have h := h.1 hc
    refine rr_iconst (v := (1 : Int32)) dX9_undo_87 (by decide) rfl ?_
    exact rr_iret dX9_undo_88 rfl h
  · have h := h.2 hc
    refine rr_aload_n dX9_undo_30 rfl 0 rfl rfl ?_
    refine rr_getR dX9_undo_31 fX9_26 (by decide) rfl rfl rfl ?_
    refine rr_iload_n dX9_undo_34 rfl 1 rfl rfl ?_
    refine rr_aload_n dX9_undo_35 rfl 0 rfl rfl ?_
    refine rr_getR dX9_undo_36 fX9_33 (by decide) rfl rfl rfl ?_
    refine rr_bipush (v := (100 : Int32)) dX9_undo_39 (by decide) rfl ?_
    refine rr_aload_n dX9_undo_41 rfl 0 rfl rfl ?_
    refine rr_getI dX9_undo_42 fX9_110 (by decide) rfl rfl rfl ?_
    refine rr_imul dX9_undo_45 rfl ?_
    refine rr_iload_n dX9_undo_46 rfl 1 rfl rfl ?_
    refine rr_iadd dX9_undo_47 rfl ?_
    refine rr_iald dX9_undo_48 (by decide) rfl rfl ⟨h.1, ?_⟩
    have h := h.2
    refine rr_iconst (v := (4 : Int32)) dX9_undo_49 (by decide) rfl ?_
    refine rr_irem dX9_undo_50 (by decide) rfl ?_
    refine rr_iast dX9_undo_51 (by decide) rfl rfl ⟨h.1, ?_⟩
    refine rr_letI (fun I1 hI1 => ?_)
    have h := h.2 I1 hI1
    refine rr_aload_n dX9_undo_52 rfl 0 rfl rfl ?_
    refine rr_getR dX9_undo_53 fX9_30 (by decide) rfl rfl rfl ?_
    refine rr_iload_n dX9_undo_56 rfl 1 rfl rfl ?_
    refine rr_aload_n dX9_undo_57 rfl 0 rfl rfl ?_
    refine rr_getR dX9_undo_58 fX9_33 (by decide) rfl rfl rfl ?_
    refine rr_bipush (v := (100 : Int32)) dX9_undo_61 (by decide) rfl ?_
    refine rr_aload_n dX9_undo_63 rfl 0 rfl rfl ?_
    refine rr_getI dX9_undo_64 fX9_110 (by decide) rfl rfl rfl ?_
    refine rr_imul dX9_undo_67 rfl ?_
    refine rr_iload_n dX9_undo_68 rfl 1 rfl rfl ?_
    refine rr_iadd dX9_undo_69 rfl ?_
    refine rr_iald dX9_undo_70 (by decide) rfl rfl ⟨h.1, ?_⟩
    have h := h.2
    refine rr_iconst (v := (4 : Int32)) dX9_undo_71 (by decide) rfl ?_
    refine rr_icmp_lt (tgt := 79) dX9_undo_72 (by decide) rfl ⟨fun hc => ?_, fun hc => ?_⟩
    · have h := h.1 hc
      refine rr_iconst (v := (0 : Int32)) dX9_undo_79 (by decide) rfl ?_
      refine rr_zast dX9_undo_80 (by decide) rfl rfl ⟨h.1, ?_⟩
      refine rr_letI (fun I2 hI2 => ?_)
      have h := h.2 I2 hI2
      refine rr_iinc (k := 1) (v := (v1 + (1 : Int32))) (lv' := [(1, .int (v1 + (1 : Int32))), (0, .ref 0)]) dX9_undo_81 rfl rfl (by decide) rfl rfl ?_
      refine rr_goto (tgt := 22) dX9_undo_84 (by decide) ?_
      exact rr.sub [1, 0] rfl h
    · have h := h.2 hc
      refine rr_iconst (v := (1 : Int32)) dX9_undo_75 (by decide) rfl ?_
      refine rr_goto (tgt := 80) dX9_undo_76 (by decide) ?_
      refine rr_zast dX9_undo_80 (by decide) rfl rfl ⟨h.1, ?_⟩
      refine rr_letI (fun I3 hI3 => ?_)
      have h := h.2 I3 hI3
      refine rr_iinc (k := 1) (v := (v1 + (1 : Int32))) (lv' := [(1, .int (v1 + (1 : Int32))), (0, .ref 0)]) dX9_undo_81 rfl rfl (by decide) rfl rfl ?_
      refine rr_goto (tgt := 22) dX9_undo_84 (by decide) ?_
      exact rr.sub [1, 0] rfl h

theorem e_X9_shown {I : tg_I} {J : tg_J} {P : Option Value → tg_I → tg_J → Prop} (v1 : Int32) (h :
  call pgM zX9_isCell [.ref 0, .int v1] I J (fun vr I1 J1 => ∃ r1 : Int32, vr = some (.int r1) ∧
  ((¬ r1 = 0 →
   vp_in v1 100 ∧
    ((¬ (I1 3 (Int32.toNatClampNeg v1)) = 0 →
     vp_in v1 100 ∧
      ((¬ (I1 3 (Int32.toNatClampNeg v1)) = (1 : Int32) →
       P (some (.int (11 : Int32))) I1 J1) ∧
      ((I1 3 (Int32.toNatClampNeg v1)) = (1 : Int32) →
       call pgM zX9_numberOf [.ref 0, .int v1] I1 J1 (fun vr I2 J2 => ∃ r2 : Int32, vr = some (.int r2) ∧
        (P (some (.int r2)) I2 J2))))) ∧
    ((I1 3 (Int32.toNatClampNeg v1)) = 0 →
     vp_in v1 100 ∧
      (((I1 4 (Int32.toNatClampNeg v1)) = 0 →
       P (some (.int (9 : Int32))) I1 J1) ∧
      (¬ (I1 4 (Int32.toNatClampNeg v1)) = 0 →
       P (some (.int (10 : Int32))) I1 J1))))) ∧
  (r1 = 0 →
   P (some (.int (-1 : Int32))) I1 J1)))) : call pgM zX9_shown [.ref 0, .int v1] I J P := by
  refine call_of (by decide +kernel) (fun _ => Nat.le_of_ble_eq_true rfl) ?_
  show rr pgM zX9_shown 0 [(0, .ref 0), (1, .int v1)] [] I J P
  refine rr_aload_n dX9_shown_0 rfl 0 rfl rfl ?_
  refine rr_iload_n dX9_shown_1 rfl 1 rfl rfl ?_
  refine rr_V [.int v1] [] dX9_shown_2 kX9_isCell mX9_126 ⟨by decide, by decide⟩ (by decide) rfl rfl rfl (Nat.le_of_ble_eq_true rfl) rfl (h.mono fun vr I1 J1 h => ?_)
  obtain ⟨r1, rfl, h⟩ := h
  show rr pgM zX9_shown 5 _ [.int r1] _ _ _
  refine rr_if_ne (tgt := 10) dX9_shown_5 (by decide) rfl ⟨fun hc => ?_, fun hc => ?_⟩
  · have h := h.1 hc
    refine rr_aload_n dX9_shown_10 rfl 0 rfl rfl ?_
    refine rr_getR dX9_shown_11 fX9_26 (by decide) rfl rfl rfl ?_
    refine rr_iload_n dX9_shown_14 rfl 1 rfl rfl ?_
    refine rr_iald dX9_shown_15 (by decide) rfl rfl ⟨h.1, ?_⟩
    have h := h.2
    refine rr_if_ne (tgt := 36) dX9_shown_16 (by decide) rfl ⟨fun hc => ?_, fun hc => ?_⟩
    · have h := h.1 hc
      refine rr_aload_n dX9_shown_36 rfl 0 rfl rfl ?_
      refine rr_getR dX9_shown_37 fX9_26 (by decide) rfl rfl rfl ?_
      refine rr_iload_n dX9_shown_40 rfl 1 rfl rfl ?_
      refine rr_iald dX9_shown_41 (by decide) rfl rfl ⟨h.1, ?_⟩
      have h := h.2
      refine rr_iconst (v := (1 : Int32)) dX9_shown_42 (by decide) rfl ?_
      refine rr_icmp_ne (tgt := 54) dX9_shown_43 (by decide) rfl ⟨fun hc => ?_, fun hc => ?_⟩
      · have h := h.1 hc
        refine rr_bipush (v := (11 : Int32)) dX9_shown_54 (by decide) rfl ?_
        exact rr_iret dX9_shown_56 rfl h
      · have h := h.2 hc
        refine rr_aload_n dX9_shown_46 rfl 0 rfl rfl ?_
        refine rr_iload_n dX9_shown_47 rfl 1 rfl rfl ?_
        refine rr_V [.int v1] [] dX9_shown_48 kX9_numberOf mX9_142 ⟨by decide, by decide⟩ (by decide) rfl rfl rfl (Nat.le_of_ble_eq_true rfl) rfl (h.mono fun vr I2 J2 h => ?_)
        obtain ⟨r2, rfl, h⟩ := h
        show rr pgM zX9_shown 51 _ [.int r2] _ _ _
        refine rr_goto (tgt := 56) dX9_shown_51 (by decide) ?_
        exact rr_iret dX9_shown_56 rfl h
    · have h := h.2 hc
      refine rr_aload_n dX9_shown_19 rfl 0 rfl rfl ?_
      refine rr_getR dX9_shown_20 fX9_30 (by decide) rfl rfl rfl ?_
      refine rr_iload_n dX9_shown_23 rfl 1 rfl rfl ?_
      refine rr_zald dX9_shown_24 (by decide) rfl rfl ⟨h.1, ?_⟩
      have h := h.2
      refine rr_if_eq (tgt := 33) dX9_shown_25 (by decide) rfl ⟨fun hc => ?_, fun hc => ?_⟩
      · have h := h.1 hc
        refine rr_bipush (v := (9 : Int32)) dX9_shown_33 (by decide) rfl ?_
        exact rr_iret dX9_shown_35 rfl h
      · have h := h.2 hc
        refine rr_bipush (v := (10 : Int32)) dX9_shown_28 (by decide) rfl ?_
        refine rr_goto (tgt := 35) dX9_shown_30 (by decide) ?_
        exact rr_iret dX9_shown_35 rfl h
  · have h := h.2 hc
    refine rr_iconst (v := (-1 : Int32)) dX9_shown_8 (by decide) rfl ?_
    exact rr_iret dX9_shown_9 rfl h

theorem e_X9_solved {I : tg_I} {J : tg_J} {P : Option Value → tg_I → tg_J → Prop} (h :
  call pgM zX9_isSolved [.ref 0] I J (fun vr I1 J1 => ∃ r1 : Int32, vr = some (.int r1) ∧
  (narrow .boolean (.int r1) = .int r1 ∧ P (some (.int r1)) I1 J1))) : call pgM zX9_solved [.ref 0] I J P := by
  refine call_of (by decide +kernel) (fun _ => Nat.le_of_ble_eq_true rfl) ?_
  show rr pgM zX9_solved 0 [(0, .ref 0)] [] I J P
  refine rr_aload_n dX9_solved_0 rfl 0 rfl rfl ?_
  refine rr_V [] [] dX9_solved_1 kX9_isSolved mX9_155 ⟨by decide, by decide⟩ (by decide) rfl rfl rfl (Nat.le_of_ble_eq_true rfl) rfl (h.mono fun vr I1 J1 h => ?_)
  obtain ⟨r1, rfl, h⟩ := h
  show rr pgM zX9_solved 4 _ [.int r1] _ _ _
  exact rr_zret dX9_solved_4 rfl h.1 h.2

theorem e_X9_isBare {I : tg_I} {J : tg_J} {P : Option Value → tg_I → tg_J → Prop} (v1 : Int32) (h :
  vp_in v1 100 ∧
  ((¬ (I 3 (Int32.toNatClampNeg v1)) = 0 →
   P (some (.int (0 : Int32))) I J) ∧
  ((I 3 (Int32.toNatClampNeg v1)) = 0 →
   vp_in v1 100 ∧
    ((¬ (I 2 (Int32.toNatClampNeg v1)) = 0 →
     P (some (.int (0 : Int32))) I J) ∧
    ((I 2 (Int32.toNatClampNeg v1)) = 0 →
     call pgM zX9_numberOf [.ref 0, .int v1] I J (fun vr I1 J1 => ∃ r1 : Int32, vr = some (.int r1) ∧
      ((¬ r1 = 0 →
       P (some (.int (0 : Int32))) I1 J1) ∧
      (r1 = 0 →
       P (some (.int (1 : Int32))) I1 J1)))))))) : call pgM zX9_isBare [.ref 0, .int v1] I J P := by
  refine call_of (by decide +kernel) (fun _ => Nat.le_of_ble_eq_true rfl) ?_
  show rr pgM zX9_isBare 0 [(0, .ref 0), (1, .int v1)] [] I J P
  refine rr_aload_n dX9_isBare_0 rfl 0 rfl rfl ?_
  refine rr_getR dX9_isBare_1 fX9_26 (by decide) rfl rfl rfl ?_
  refine rr_iload_n dX9_isBare_4 rfl 1 rfl rfl ?_
  refine rr_iald dX9_isBare_5 (by decide) rfl rfl ⟨h.1, ?_⟩
  have h := h.2
  refine rr_if_ne (tgt := 30) dX9_isBare_6 (by decide) rfl ⟨fun hc => ?_, fun hc => ?_⟩
  · have h := h.1 hc
    refine rr_iconst (v := (0 : Int32)) dX9_isBare_30 (by decide) rfl ?_
    exact rr_zret dX9_isBare_31 rfl rfl h
  · have h := h.2 hc
    refine rr_aload_n dX9_isBare_9 rfl 0 rfl rfl ?_
    refine rr_getR dX9_isBare_10 fX9_23 (by decide) rfl rfl rfl ?_
    refine rr_iload_n dX9_isBare_13 rfl 1 rfl rfl ?_
    refine rr_zald dX9_isBare_14 (by decide) rfl rfl ⟨h.1, ?_⟩
    have h := h.2
    refine rr_if_ne (tgt := 30) dX9_isBare_15 (by decide) rfl ⟨fun hc => ?_, fun hc => ?_⟩
    · have h := h.1 hc
      refine rr_iconst (v := (0 : Int32)) dX9_isBare_30 (by decide) rfl ?_
      exact rr_zret dX9_isBare_31 rfl rfl h
    · have h := h.2 hc
      refine rr_aload_n dX9_isBare_18 rfl 0 rfl rfl ?_
      refine rr_iload_n dX9_isBare_19 rfl 1 rfl rfl ?_
      refine rr_V [.int v1] [] dX9_isBare_20 kX9_numberOf mX9_142 ⟨by decide, by decide⟩ (by decide) rfl rfl rfl (Nat.le_of_ble_eq_true rfl) rfl (h.mono fun vr I1 J1 h => ?_)
      obtain ⟨r1, rfl, h⟩ := h
      show rr pgM zX9_isBare 23 _ [.int r1] _ _ _
      refine rr_if_ne (tgt := 30) dX9_isBare_23 (by decide) rfl ⟨fun hc => ?_, fun hc => ?_⟩
      · have h := h.1 hc
        refine rr_iconst (v := (0 : Int32)) dX9_isBare_30 (by decide) rfl ?_
        exact rr_zret dX9_isBare_31 rfl rfl h
      · have h := h.2 hc
        refine rr_iconst (v := (1 : Int32)) dX9_isBare_26 (by decide) rfl ?_
        refine rr_goto (tgt := 31) dX9_isBare_27 (by decide) ?_
        exact rr_zret dX9_isBare_31 rfl rfl h
