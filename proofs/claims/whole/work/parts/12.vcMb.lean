def l_X9_clicks_4 (I : tg_I) (J : tg_J) (P : Option Value → tg_I → tg_J → Prop) (v1 : Int32) (v2 : Int32) : Prop := rr pgM zX9_clicks 4 [(0, .ref 0), (1, .int v1), (2, .int v2)] [] I J P
def l_X9_clicks_39 (I : tg_I) (J : tg_J) (P : Option Value → tg_I → tg_J → Prop) (v1 : Int32) (v2 : Int32) : Prop := rr pgM zX9_clicks 39 [(0, .ref 0), (1, .int v1), (2, .int v2)] [] I J P
def l_X9_clicks_147 (I : tg_I) (J : tg_J) (P : Option Value → tg_I → tg_J → Prop) (v1 : Int32) (v2 : Int32) : Prop := rr pgM zX9_clicks 147 [(0, .ref 0), (1, .int v1), (2, .int v2)] [] I J P
def l_X9_clicks_49 (I : tg_I) (J : tg_J) (P : Option Value → tg_I → tg_J → Prop) (v1 : Int32) (v2 : Int32) (v3 : Int32) : Prop := rr pgM zX9_clicks 49 [(0, .ref 0), (1, .int v1), (2, .int v2), (3, .int v3)] [] I J P
def l_X9_clicks_191 (I : tg_I) (J : tg_J) (P : Option Value → tg_I → tg_J → Prop) (v1 : Int32) (v2 : Int32) (v3 : Int32) (v4 : Int32) : Prop := rr pgM zX9_clicks 191 [(0, .ref 0), (1, .int v1), (2, .int v2), (3, .int v3), (4, .int v4)] [] I J P
def l_X9_clicks_60 (I : tg_I) (J : tg_J) (P : Option Value → tg_I → tg_J → Prop) (v1 : Int32) (v2 : Int32) (v3 : Int32) (v4 : Int32) : Prop := rr pgM zX9_clicks 60 [(0, .ref 0), (1, .int v1), (2, .int v2), (3, .int v3), (4, .int v4)] [] I J P
theorem e_X9_clicks {I : tg_I} {J : tg_J} {P : Option Value → tg_I → tg_J → Prop} (h :
  l_X9_clicks_4 I J P ((0 : Int32)) ((0 : Int32))) : call pgM zX9_clicks [.ref 0] I J P := by
  refine call_of (by decide +kernel) (fun _ => Nat.le_of_ble_eq_true rfl) ?_
  show rr pgM zX9_clicks 0 [(0, .ref 0)] [] I J P
  refine rr_iconst (v := (0 : Int32)) dX9_clicks_0 (by decide) rfl ?_
  refine rr_istore_n (lv' := [(1, .int (0 : Int32)), (0, .ref 0)]) dX9_clicks_1 rfl (by decide) rfl rfl ?_
  refine rr_iconst (v := (0 : Int32)) dX9_clicks_2 (by decide) rfl ?_
  refine rr_istore_n (lv' := [(2, .int (0 : Int32)), (1, .int (0 : Int32)), (0, .ref 0)]) dX9_clicks_3 rfl (by decide) rfl rfl ?_
  exact rr.sub [2, 1, 0] rfl h
theorem s_X9_clicks_4 {I : tg_I} {J : tg_J} {P : Option Value → tg_I → tg_J → Prop} (v1 : Int32) (v2 : Int32) (h :
  ((I 0 3) ≤ v2 →
   l_X9_clicks_39 I J P v1 ((0 : Int32))) ∧
  (¬ (I 0 3) ≤ v2 →
   call pgM zX9_isBare [.ref 0, .int v2] I J (fun vr I1 J1 => ∃ r1 : Int32, vr = some (.int r1) ∧
    ((r1 = 0 →
     vp_in v2 100 ∧ ∀ I2, I2 = u2 I1 16 (Int32.toNatClampNeg v2) (-1 : Int32) →
      l_X9_clicks_4 I2 J1 P v1 ((v2 + (1 : Int32)))) ∧
    (¬ r1 = 0 →
     vp_in v2 100 ∧ ∀ I3, I3 = u2 I1 16 (Int32.toNatClampNeg v2) v2 →
      l_X9_clicks_4 I3 J1 P v1 ((v2 + (1 : Int32)))))))) : l_X9_clicks_4 I J P v1 v2 := by
  show rr pgM zX9_clicks 4 [(0, .ref 0), (1, .int v1), (2, .int v2)] [] I J P
  refine rr_iload_n dX9_clicks_4 rfl 2 rfl rfl ?_
  refine rr_aload_n dX9_clicks_5 rfl 0 rfl rfl ?_
  refine rr_getI dX9_clicks_6 fX9_16 (by decide) rfl rfl rfl ?_
  refine rr_icmp_ge (tgt := 37) dX9_clicks_9 (by decide) rfl ⟨fun hc => ?_, fun hc => ?_⟩
  · have h := h.1 hc
    refine rr_iconst (v := (0 : Int32)) dX9_clicks_37 (by decide) rfl ?_
    refine rr_istore_n (lv' := [(2, .int (0 : Int32)), (0, .ref 0), (1, .int v1)]) dX9_clicks_38 rfl (by decide) rfl rfl ?_
    exact rr.sub [1, 2, 0] rfl h
  · have h := h.2 hc
    refine rr_aload_n dX9_clicks_12 rfl 0 rfl rfl ?_
    refine rr_getR dX9_clicks_13 fX9_69 (by decide) rfl rfl rfl ?_
    refine rr_iload_n dX9_clicks_16 rfl 2 rfl rfl ?_
    refine rr_aload_n dX9_clicks_17 rfl 0 rfl rfl ?_
    refine rr_iload_n dX9_clicks_18 rfl 2 rfl rfl ?_
    refine rr_V [.int v2] [.int v2, .ref 16] dX9_clicks_19 kX9_isBare mX9_192 ⟨by decide, by decide⟩ (by decide) rfl rfl rfl (Nat.le_of_ble_eq_true rfl) rfl (h.mono fun vr I1 J1 h => ?_)
    obtain ⟨r1, rfl, h⟩ := h
    show rr pgM zX9_clicks 22 _ [.int r1, .int v2, .ref 16] _ _ _
    refine rr_if_eq (tgt := 29) dX9_clicks_22 (by decide) rfl ⟨fun hc => ?_, fun hc => ?_⟩
    · have h := h.1 hc
      refine rr_iconst (v := (-1 : Int32)) dX9_clicks_29 (by decide) rfl ?_
      refine rr_iast dX9_clicks_30 (by decide) rfl rfl ⟨h.1, ?_⟩
      refine rr_letI (fun I2 hI2 => ?_)
      have h := h.2 I2 hI2
      refine rr_iinc (k := 2) (v := (v2 + (1 : Int32))) (lv' := [(2, .int (v2 + (1 : Int32))), (0, .ref 0), (1, .int v1)]) dX9_clicks_31 rfl rfl (by decide) rfl rfl ?_
      refine rr_goto (tgt := 4) dX9_clicks_34 (by decide) ?_
      exact rr.sub [1, 2, 0] rfl h
    · have h := h.2 hc
      refine rr_iload_n dX9_clicks_25 rfl 2 rfl rfl ?_
      refine rr_goto (tgt := 30) dX9_clicks_26 (by decide) ?_
      refine rr_iast dX9_clicks_30 (by decide) rfl rfl ⟨h.1, ?_⟩
      refine rr_letI (fun I3 hI3 => ?_)
      have h := h.2 I3 hI3
      refine rr_iinc (k := 2) (v := (v2 + (1 : Int32))) (lv' := [(2, .int (v2 + (1 : Int32))), (0, .ref 0), (1, .int v1)]) dX9_clicks_31 rfl rfl (by decide) rfl rfl ?_
      refine rr_goto (tgt := 4) dX9_clicks_34 (by decide) ?_
      exact rr.sub [1, 2, 0] rfl h
theorem s_X9_clicks_39 {I : tg_I} {J : tg_J} {P : Option Value → tg_I → tg_J → Prop} (v1 : Int32) (v2 : Int32) (h :
  ((I 0 3) ≤ v2 →
   l_X9_clicks_147 I J P v1 ((0 : Int32))) ∧
  (¬ (I 0 3) ≤ v2 →
   l_X9_clicks_49 I J P v1 v2 ((0 : Int32)))) : l_X9_clicks_39 I J P v1 v2 := by
  show rr pgM zX9_clicks 39 [(0, .ref 0), (1, .int v1), (2, .int v2)] [] I J P
  refine rr_iload_n dX9_clicks_39 rfl 2 rfl rfl ?_
  refine rr_aload_n dX9_clicks_40 rfl 0 rfl rfl ?_
  refine rr_getI dX9_clicks_41 fX9_16 (by decide) rfl rfl rfl ?_
  refine rr_icmp_ge (tgt := 145) dX9_clicks_44 (by decide) rfl ⟨fun hc => ?_, fun hc => ?_⟩
  · have h := h.1 hc
    refine rr_iconst (v := (0 : Int32)) dX9_clicks_145 (by decide) rfl ?_
    refine rr_istore_n (lv' := [(2, .int (0 : Int32)), (0, .ref 0), (1, .int v1)]) dX9_clicks_146 rfl (by decide) rfl rfl ?_
    exact rr.sub [1, 2, 0] rfl h
  · have h := h.2 hc
    refine rr_iconst (v := (0 : Int32)) dX9_clicks_47 (by decide) rfl ?_
    refine rr_istore_n (lv' := [(3, .int (0 : Int32)), (0, .ref 0), (1, .int v1), (2, .int v2)]) dX9_clicks_48 rfl (by decide) rfl rfl ?_
    exact rr.sub [1, 2, 3, 0] rfl h
theorem s_X9_clicks_147 {I : tg_I} {J : tg_J} {P : Option Value → tg_I → tg_J → Prop} (v1 : Int32) (v2 : Int32) (h :
  ((I 0 3) ≤ v2 →
   P (some (.int v1)) I J) ∧
  (¬ (I 0 3) ≤ v2 →
   vp_in v2 100 ∧
    ((¬ (I 3 (Int32.toNatClampNeg v2)) = 0 →
     l_X9_clicks_191 I J P v1 v2 ((0 : Int32)) ((0 : Int32))) ∧
    ((I 3 (Int32.toNatClampNeg v2)) = 0 →
     vp_in v2 100 ∧
      ((¬ (I 2 (Int32.toNatClampNeg v2)) = 0 →
       l_X9_clicks_191 I J P v1 v2 ((0 : Int32)) ((0 : Int32))) ∧
      ((I 2 (Int32.toNatClampNeg v2)) = 0 →
       vp_in v2 100 ∧
        ((0 ≤ (I 16 (Int32.toNatClampNeg v2)) →
         l_X9_clicks_191 I J P v1 v2 ((0 : Int32)) ((0 : Int32))) ∧
        (¬ 0 ≤ (I 16 (Int32.toNatClampNeg v2)) →
         l_X9_clicks_191 I J P v1 v2 ((1 : Int32)) ((0 : Int32)))))))))) : l_X9_clicks_147 I J P v1 v2 := by
  show rr pgM zX9_clicks 147 [(0, .ref 0), (1, .int v1), (2, .int v2)] [] I J P
  refine rr_iload_n dX9_clicks_147 rfl 2 rfl rfl ?_
  refine rr_aload_n dX9_clicks_148 rfl 0 rfl rfl ?_
  refine rr_getI dX9_clicks_149 fX9_16 (by decide) rfl rfl rfl ?_
  refine rr_icmp_ge (tgt := 264) dX9_clicks_152 (by decide) rfl ⟨fun hc => ?_, fun hc => ?_⟩
  · have h := h.1 hc
    refine rr_iload_n dX9_clicks_264 rfl 1 rfl rfl ?_
    exact rr_iret dX9_clicks_265 rfl h
  · have h := h.2 hc
    refine rr_aload_n dX9_clicks_155 rfl 0 rfl rfl ?_
    refine rr_getR dX9_clicks_156 fX9_26 (by decide) rfl rfl rfl ?_
    refine rr_iload_n dX9_clicks_159 rfl 2 rfl rfl ?_
    refine rr_iald dX9_clicks_160 (by decide) rfl rfl ⟨h.1, ?_⟩
    have h := h.2
    refine rr_if_ne (tgt := 186) dX9_clicks_161 (by decide) rfl ⟨fun hc => ?_, fun hc => ?_⟩
    · have h := h.1 hc
      refine rr_iconst (v := (0 : Int32)) dX9_clicks_186 (by decide) rfl ?_
      refine rr_istore_n (lv' := [(3, .int (0 : Int32)), (0, .ref 0), (1, .int v1), (2, .int v2)]) dX9_clicks_187 rfl (by decide) rfl rfl ?_
      refine rr_iconst (v := (0 : Int32)) dX9_clicks_188 (by decide) rfl ?_
      refine rr_istore (lv' := [(4, .int (0 : Int32)), (3, .int (0 : Int32)), (0, .ref 0), (1, .int v1), (2, .int v2)]) dX9_clicks_189 (by decide) rfl rfl ?_
      exact rr.sub [2, 3, 4, 1, 0] rfl h
    · have h := h.2 hc
      refine rr_aload_n dX9_clicks_164 rfl 0 rfl rfl ?_
      refine rr_getR dX9_clicks_165 fX9_23 (by decide) rfl rfl rfl ?_
      refine rr_iload_n dX9_clicks_168 rfl 2 rfl rfl ?_
      refine rr_zald dX9_clicks_169 (by decide) rfl rfl ⟨h.1, ?_⟩
      have h := h.2
      refine rr_if_ne (tgt := 186) dX9_clicks_170 (by decide) rfl ⟨fun hc => ?_, fun hc => ?_⟩
      · have h := h.1 hc
        refine rr_iconst (v := (0 : Int32)) dX9_clicks_186 (by decide) rfl ?_
        refine rr_istore_n (lv' := [(3, .int (0 : Int32)), (0, .ref 0), (1, .int v1), (2, .int v2)]) dX9_clicks_187 rfl (by decide) rfl rfl ?_
        refine rr_iconst (v := (0 : Int32)) dX9_clicks_188 (by decide) rfl ?_
        refine rr_istore (lv' := [(4, .int (0 : Int32)), (3, .int (0 : Int32)), (0, .ref 0), (1, .int v1), (2, .int v2)]) dX9_clicks_189 (by decide) rfl rfl ?_
        exact rr.sub [2, 3, 4, 1, 0] rfl h
      · have h := h.2 hc
        refine rr_aload_n dX9_clicks_173 rfl 0 rfl rfl ?_
        refine rr_getR dX9_clicks_174 fX9_69 (by decide) rfl rfl rfl ?_
        refine rr_iload_n dX9_clicks_177 rfl 2 rfl rfl ?_
        refine rr_iald dX9_clicks_178 (by decide) rfl rfl ⟨h.1, ?_⟩
        have h := h.2
        refine rr_if_ge (tgt := 186) dX9_clicks_179 (by decide) rfl ⟨fun hc => ?_, fun hc => ?_⟩
        · have h := h.1 hc
          refine rr_iconst (v := (0 : Int32)) dX9_clicks_186 (by decide) rfl ?_
          refine rr_istore_n (lv' := [(3, .int (0 : Int32)), (0, .ref 0), (1, .int v1), (2, .int v2)]) dX9_clicks_187 rfl (by decide) rfl rfl ?_
          refine rr_iconst (v := (0 : Int32)) dX9_clicks_188 (by decide) rfl ?_
          refine rr_istore (lv' := [(4, .int (0 : Int32)), (3, .int (0 : Int32)), (0, .ref 0), (1, .int v1), (2, .int v2)]) dX9_clicks_189 (by decide) rfl rfl ?_
          exact rr.sub [2, 3, 4, 1, 0] rfl h
        · have h := h.2 hc
          refine rr_iconst (v := (1 : Int32)) dX9_clicks_182 (by decide) rfl ?_
          refine rr_goto (tgt := 187) dX9_clicks_183 (by decide) ?_
          refine rr_istore_n (lv' := [(3, .int (1 : Int32)), (0, .ref 0), (1, .int v1), (2, .int v2)]) dX9_clicks_187 rfl (by decide) rfl rfl ?_
          refine rr_iconst (v := (0 : Int32)) dX9_clicks_188 (by decide) rfl ?_
          refine rr_istore (lv' := [(4, .int (0 : Int32)), (3, .int (1 : Int32)), (0, .ref 0), (1, .int v1), (2, .int v2)]) dX9_clicks_189 (by decide) rfl rfl ?_
          exact rr.sub [2, 3, 4, 1, 0] rfl h
theorem s_X9_clicks_49 {I : tg_I} {J : tg_J} {P : Option Value → tg_I → tg_J → Prop} (v1 : Int32) (v2 : Int32) (v3 : Int32) (h :
  ((I 0 3) ≤ v3 →
   l_X9_clicks_39 I J P v1 ((v2 + (1 : Int32)))) ∧
  (¬ (I 0 3) ≤ v3 →
   l_X9_clicks_60 I J P v1 v2 v3 ((0 : Int32)))) : l_X9_clicks_49 I J P v1 v2 v3 := by
  show rr pgM zX9_clicks 49 [(0, .ref 0), (1, .int v1), (2, .int v2), (3, .int v3)] [] I J P
  refine rr_iload_n dX9_clicks_49 rfl 3 rfl rfl ?_
  refine rr_aload_n dX9_clicks_50 rfl 0 rfl rfl ?_
  refine rr_getI dX9_clicks_51 fX9_16 (by decide) rfl rfl rfl ?_
  refine rr_icmp_ge (tgt := 139) dX9_clicks_54 (by decide) rfl ⟨fun hc => ?_, fun hc => ?_⟩
  · have h := h.1 hc
    refine rr_iinc (k := 2) (v := (v2 + (1 : Int32))) (lv' := [(2, .int (v2 + (1 : Int32))), (0, .ref 0), (1, .int v1), (3, .int v3)]) dX9_clicks_139 rfl rfl (by decide) rfl rfl ?_
    refine rr_goto (tgt := 39) dX9_clicks_142 (by decide) ?_
    exact rr.sub [1, 2, 0] rfl h
  · have h := h.2 hc
    refine rr_iconst (v := (0 : Int32)) dX9_clicks_57 (by decide) rfl ?_
    refine rr_istore (lv' := [(4, .int (0 : Int32)), (0, .ref 0), (1, .int v1), (2, .int v2), (3, .int v3)]) dX9_clicks_58 (by decide) rfl rfl ?_
    exact rr.sub [1, 2, 3, 4, 0] rfl h
theorem s_X9_clicks_191 {I : tg_I} {J : tg_J} {P : Option Value → tg_I → tg_J → Prop} (v1 : Int32) (v2 : Int32) (v3 : Int32) (v4 : Int32) (h :
  ((I 0 3) ≤ v4 →
   vp_in v2 100 ∧
    (((I 16 (Int32.toNatClampNeg v2)) = v2 →
     l_X9_clicks_147 I J P ((v1 + (1 : Int32))) ((v2 + (1 : Int32)))) ∧
    (¬ (I 16 (Int32.toNatClampNeg v2)) = v2 →
     (v3 = 0 →
       l_X9_clicks_147 I J P ((v1 + (0 : Int32))) ((v2 + (1 : Int32)))) ∧
      (¬ v3 = 0 →
       l_X9_clicks_147 I J P ((v1 + (1 : Int32))) ((v2 + (1 : Int32))))))) ∧
  (¬ (I 0 3) ≤ v4 →
   (v3 = 0 →
     l_X9_clicks_191 I J P v1 v2 ((0 : Int32)) ((v4 + (1 : Int32)))) ∧
    (¬ v3 = 0 →
     call pgM zX9_isNear [.ref 0, .int v2, .int v4] I J (fun vr I1 J1 => ∃ r1 : Int32, vr = some (.int r1) ∧
      ((r1 = 0 →
       l_X9_clicks_191 I1 J1 P v1 v2 ((1 : Int32)) ((v4 + (1 : Int32)))) ∧
      (¬ r1 = 0 →
       vp_in v4 100 ∧
        ((0 ≤ (I1 16 (Int32.toNatClampNeg v4)) →
         l_X9_clicks_191 I1 J1 P v1 v2 ((0 : Int32)) ((v4 + (1 : Int32)))) ∧
        (¬ 0 ≤ (I1 16 (Int32.toNatClampNeg v4)) →
         l_X9_clicks_191 I1 J1 P v1 v2 ((1 : Int32)) ((v4 + (1 : Int32))))))))))) : l_X9_clicks_191 I J P v1 v2 v3 v4 := by
  show rr pgM zX9_clicks 191 [(0, .ref 0), (1, .int v1), (2, .int v2), (3, .int v3), (4, .int v4)] [] I J P
  refine rr_iload dX9_clicks_191 4 rfl rfl ?_
  refine rr_aload_n dX9_clicks_193 rfl 0 rfl rfl ?_
  refine rr_getI dX9_clicks_194 fX9_16 (by decide) rfl rfl rfl ?_
  refine rr_icmp_ge (tgt := 236) dX9_clicks_197 (by decide) rfl ⟨fun hc => ?_, fun hc => ?_⟩
  · have h := h.1 hc
    refine rr_iload_n dX9_clicks_236 rfl 1 rfl rfl ?_
    refine rr_aload_n dX9_clicks_237 rfl 0 rfl rfl ?_
    refine rr_getR dX9_clicks_238 fX9_69 (by decide) rfl rfl rfl ?_
    refine rr_iload_n dX9_clicks_241 rfl 2 rfl rfl ?_
    refine rr_iald dX9_clicks_242 (by decide) rfl rfl ⟨h.1, ?_⟩
    have h := h.2
    refine rr_iload_n dX9_clicks_243 rfl 2 rfl rfl ?_
    refine rr_icmp_eq (tgt := 251) dX9_clicks_244 (by decide) rfl ⟨fun hc => ?_, fun hc => ?_⟩
    · have h := h.1 hc
      refine rr_iconst (v := (1 : Int32)) dX9_clicks_251 (by decide) rfl ?_
      refine rr_goto (tgt := 256) dX9_clicks_252 (by decide) ?_
      refine rr_iadd dX9_clicks_256 rfl ?_
      refine rr_istore_n (lv' := [(1, .int (v1 + (1 : Int32))), (0, .ref 0), (2, .int v2), (3, .int v3), (4, .int v4)]) dX9_clicks_257 rfl (by decide) rfl rfl ?_
      refine rr_iinc (k := 2) (v := (v2 + (1 : Int32))) (lv' := [(2, .int (v2 + (1 : Int32))), (1, .int (v1 + (1 : Int32))), (0, .ref 0), (3, .int v3), (4, .int v4)]) dX9_clicks_258 rfl rfl (by decide) rfl rfl ?_
      refine rr_goto (tgt := 147) dX9_clicks_261 (by decide) ?_
      exact rr.sub [2, 1, 0] rfl h
    · have h := h.2 hc
      refine rr_iload_n dX9_clicks_247 rfl 3 rfl rfl ?_
      refine rr_if_eq (tgt := 255) dX9_clicks_248 (by decide) rfl ⟨fun hc => ?_, fun hc => ?_⟩
      · have h := h.1 hc
        refine rr_iconst (v := (0 : Int32)) dX9_clicks_255 (by decide) rfl ?_
        refine rr_iadd dX9_clicks_256 rfl ?_
        refine rr_istore_n (lv' := [(1, .int (v1 + (0 : Int32))), (0, .ref 0), (2, .int v2), (3, .int v3), (4, .int v4)]) dX9_clicks_257 rfl (by decide) rfl rfl ?_
        refine rr_iinc (k := 2) (v := (v2 + (1 : Int32))) (lv' := [(2, .int (v2 + (1 : Int32))), (1, .int (v1 + (0 : Int32))), (0, .ref 0), (3, .int v3), (4, .int v4)]) dX9_clicks_258 rfl rfl (by decide) rfl rfl ?_
        refine rr_goto (tgt := 147) dX9_clicks_261 (by decide) ?_
        exact rr.sub [2, 1, 0] rfl h
      · have h := h.2 hc
        refine rr_iconst (v := (1 : Int32)) dX9_clicks_251 (by decide) rfl ?_
        refine rr_goto (tgt := 256) dX9_clicks_252 (by decide) ?_
        refine rr_iadd dX9_clicks_256 rfl ?_
        refine rr_istore_n (lv' := [(1, .int (v1 + (1 : Int32))), (0, .ref 0), (2, .int v2), (3, .int v3), (4, .int v4)]) dX9_clicks_257 rfl (by decide) rfl rfl ?_
        refine rr_iinc (k := 2) (v := (v2 + (1 : Int32))) (lv' := [(2, .int (v2 + (1 : Int32))), (1, .int (v1 + (1 : Int32))), (0, .ref 0), (3, .int v3), (4, .int v4)]) dX9_clicks_258 rfl rfl (by decide) rfl rfl ?_
        refine rr_goto (tgt := 147) dX9_clicks_261 (by decide) ?_
        exact rr.sub [2, 1, 0] rfl h
  · have h := h.2 hc
    refine rr_iload_n dX9_clicks_200 rfl 3 rfl rfl ?_
    refine rr_if_eq (tgt := 228) dX9_clicks_201 (by decide) rfl ⟨fun hc => ?_, fun hc => ?_⟩
    · have h := h.1 hc
      refine rr_iconst (v := (0 : Int32)) dX9_clicks_228 (by decide) rfl ?_
      refine rr_istore_n (lv' := [(3, .int (0 : Int32)), (0, .ref 0), (1, .int v1), (2, .int v2), (4, .int v4)]) dX9_clicks_229 rfl (by decide) rfl rfl ?_
      refine rr_iinc (k := 4) (v := (v4 + (1 : Int32))) (lv' := [(4, .int (v4 + (1 : Int32))), (3, .int (0 : Int32)), (0, .ref 0), (1, .int v1), (2, .int v2)]) dX9_clicks_230 rfl rfl (by decide) rfl rfl ?_
      refine rr_goto (tgt := 191) dX9_clicks_233 (by decide) ?_
      exact rr.sub [2, 3, 4, 1, 0] rfl h
    · have h := h.2 hc
      refine rr_aload_n dX9_clicks_204 rfl 0 rfl rfl ?_
      refine rr_iload_n dX9_clicks_205 rfl 2 rfl rfl ?_
      refine rr_iload dX9_clicks_206 4 rfl rfl ?_
      refine rr_V [.int v2, .int v4] [] dX9_clicks_208 kX9_isNear mX9_138 ⟨by decide, by decide⟩ (by decide) rfl rfl rfl (Nat.le_of_ble_eq_true rfl) rfl (h.mono fun vr I1 J1 h => ?_)
      obtain ⟨r1, rfl, h⟩ := h
      show rr pgM zX9_clicks 211 _ [.int r1] _ _ _
      refine rr_if_eq (tgt := 224) dX9_clicks_211 (by decide) rfl ⟨fun hc => ?_, fun hc => ?_⟩
      · have h := h.1 hc
        refine rr_iconst (v := (1 : Int32)) dX9_clicks_224 (by decide) rfl ?_
        refine rr_goto (tgt := 229) dX9_clicks_225 (by decide) ?_
        refine rr_istore_n (lv' := [(3, .int (1 : Int32)), (0, .ref 0), (1, .int v1), (2, .int v2), (4, .int v4)]) dX9_clicks_229 rfl (by decide) rfl rfl ?_
        refine rr_iinc (k := 4) (v := (v4 + (1 : Int32))) (lv' := [(4, .int (v4 + (1 : Int32))), (3, .int (1 : Int32)), (0, .ref 0), (1, .int v1), (2, .int v2)]) dX9_clicks_230 rfl rfl (by decide) rfl rfl ?_
        refine rr_goto (tgt := 191) dX9_clicks_233 (by decide) ?_
        exact rr.sub [2, 3, 4, 1, 0] rfl h
      · have h := h.2 hc
        refine rr_aload_n dX9_clicks_214 rfl 0 rfl rfl ?_
        refine rr_getR dX9_clicks_215 fX9_69 (by decide) rfl rfl rfl ?_
        refine rr_iload dX9_clicks_218 4 rfl rfl ?_
        refine rr_iald dX9_clicks_220 (by decide) rfl rfl ⟨h.1, ?_⟩
        have h := h.2
        refine rr_if_ge (tgt := 228) dX9_clicks_221 (by decide) rfl ⟨fun hc => ?_, fun hc => ?_⟩
        · have h := h.1 hc
          refine rr_iconst (v := (0 : Int32)) dX9_clicks_228 (by decide) rfl ?_
          refine rr_istore_n (lv' := [(3, .int (0 : Int32)), (0, .ref 0), (1, .int v1), (2, .int v2), (4, .int v4)]) dX9_clicks_229 rfl (by decide) rfl rfl ?_
          refine rr_iinc (k := 4) (v := (v4 + (1 : Int32))) (lv' := [(4, .int (v4 + (1 : Int32))), (3, .int (0 : Int32)), (0, .ref 0), (1, .int v1), (2, .int v2)]) dX9_clicks_230 rfl rfl (by decide) rfl rfl ?_
          refine rr_goto (tgt := 191) dX9_clicks_233 (by decide) ?_
          exact rr.sub [2, 3, 4, 1, 0] rfl h
        · have h := h.2 hc
          refine rr_iconst (v := (1 : Int32)) dX9_clicks_224 (by decide) rfl ?_
          refine rr_goto (tgt := 229) dX9_clicks_225 (by decide) ?_
          refine rr_istore_n (lv' := [(3, .int (1 : Int32)), (0, .ref 0), (1, .int v1), (2, .int v2), (4, .int v4)]) dX9_clicks_229 rfl (by decide) rfl rfl ?_
          refine rr_iinc (k := 4) (v := (v4 + (1 : Int32))) (lv' := [(4, .int (v4 + (1 : Int32))), (3, .int (1 : Int32)), (0, .ref 0), (1, .int v1), (2, .int v2)]) dX9_clicks_230 rfl rfl (by decide) rfl rfl ?_
          refine rr_goto (tgt := 191) dX9_clicks_233 (by decide) ?_
          exact rr.sub [2, 3, 4, 1, 0] rfl h
theorem s_X9_clicks_60 {I : tg_I} {J : tg_J} {P : Option Value → tg_I → tg_J → Prop} (v1 : Int32) (v2 : Int32) (v3 : Int32) (v4 : Int32) (h :
  ((I 0 3) ≤ v4 →
   l_X9_clicks_49 I J P v1 v2 ((v3 + (1 : Int32)))) ∧
  (¬ (I 0 3) ≤ v4 →
   call pgM zX9_isNear [.ref 0, .int v3, .int v4] I J (fun vr I1 J1 => ∃ r1 : Int32, vr = some (.int r1) ∧
    ((r1 = 0 →
     l_X9_clicks_60 I1 J1 P v1 v2 v3 ((v4 + (1 : Int32)))) ∧
    (¬ r1 = 0 →
     vp_in v3 100 ∧
      (((I1 16 (Int32.toNatClampNeg v3)) < 0 →
       l_X9_clicks_60 I1 J1 P v1 v2 v3 ((v4 + (1 : Int32)))) ∧
      (¬ (I1 16 (Int32.toNatClampNeg v3)) < 0 →
       vp_in v4 100 ∧
        (((I1 16 (Int32.toNatClampNeg v4)) < 0 →
         l_X9_clicks_60 I1 J1 P v1 v2 v3 ((v4 + (1 : Int32)))) ∧
        (¬ (I1 16 (Int32.toNatClampNeg v4)) < 0 →
         vp_in v4 100 ∧
          (vp_in v3 100 ∧
          (((I1 16 (Int32.toNatClampNeg v3)) ≤ (I1 16 (Int32.toNatClampNeg v4)) →
           l_X9_clicks_60 I1 J1 P v1 v2 v3 ((v4 + (1 : Int32)))) ∧
          (¬ (I1 16 (Int32.toNatClampNeg v3)) ≤ (I1 16 (Int32.toNatClampNeg v4)) →
           vp_in v4 100 ∧
            (vp_in v3 100 ∧ ∀ I2, I2 = u2 I1 16 (Int32.toNatClampNeg v3) (I1 16 (Int32.toNatClampNeg v4)) →
            l_X9_clicks_60 I2 J1 P v1 v2 v3 ((v4 + (1 : Int32)))))))))))))))) : l_X9_clicks_60 I J P v1 v2 v3 v4 := by
  show rr pgM zX9_clicks 60 [(0, .ref 0), (1, .int v1), (2, .int v2), (3, .int v3), (4, .int v4)] [] I J P
  refine rr_iload dX9_clicks_60 4 rfl rfl ?_
  refine rr_aload_n dX9_clicks_62 rfl 0 rfl rfl ?_
  refine rr_getI dX9_clicks_63 fX9_16 (by decide) rfl rfl rfl ?_
  refine rr_icmp_ge (tgt := 133) dX9_clicks_66 (by decide) rfl ⟨fun hc => ?_, fun hc => ?_⟩
  · have h := h.1 hc
    refine rr_iinc (k := 3) (v := (v3 + (1 : Int32))) (lv' := [(3, .int (v3 + (1 : Int32))), (0, .ref 0), (1, .int v1), (2, .int v2), (4, .int v4)]) dX9_clicks_133 rfl rfl (by decide) rfl rfl ?_
    refine rr_goto (tgt := 49) dX9_clicks_136 (by decide) ?_
    exact rr.sub [1, 2, 3, 0] rfl h
  · have h := h.2 hc
    refine rr_aload_n dX9_clicks_69 rfl 0 rfl rfl ?_
    refine rr_iload_n dX9_clicks_70 rfl 3 rfl rfl ?_
    refine rr_iload dX9_clicks_71 4 rfl rfl ?_
    refine rr_V [.int v3, .int v4] [] dX9_clicks_73 kX9_isNear mX9_138 ⟨by decide, by decide⟩ (by decide) rfl rfl rfl (Nat.le_of_ble_eq_true rfl) rfl (h.mono fun vr I1 J1 h => ?_)
    obtain ⟨r1, rfl, h⟩ := h
    show rr pgM zX9_clicks 76 _ [.int r1] _ _ _
    refine rr_if_eq (tgt := 127) dX9_clicks_76 (by decide) rfl ⟨fun hc => ?_, fun hc => ?_⟩
    · have h := h.1 hc
      refine rr_iinc (k := 4) (v := (v4 + (1 : Int32))) (lv' := [(4, .int (v4 + (1 : Int32))), (0, .ref 0), (1, .int v1), (2, .int v2), (3, .int v3)]) dX9_clicks_127 rfl rfl (by decide) rfl rfl ?_
      refine rr_goto (tgt := 60) dX9_clicks_130 (by decide) ?_
      exact rr.sub [1, 2, 3, 4, 0] rfl h
    · have h := h.2 hc
      refine rr_aload_n dX9_clicks_79 rfl 0 rfl rfl ?_
      refine rr_getR dX9_clicks_80 fX9_69 (by decide) rfl rfl rfl ?_
      refine rr_iload_n dX9_clicks_83 rfl 3 rfl rfl ?_
      refine rr_iald dX9_clicks_84 (by decide) rfl rfl ⟨h.1, ?_⟩
      have h := h.2
      refine rr_if_lt (tgt := 127) dX9_clicks_85 (by decide) rfl ⟨fun hc => ?_, fun hc => ?_⟩
      · have h := h.1 hc
        refine rr_iinc (k := 4) (v := (v4 + (1 : Int32))) (lv' := [(4, .int (v4 + (1 : Int32))), (0, .ref 0), (1, .int v1), (2, .int v2), (3, .int v3)]) dX9_clicks_127 rfl rfl (by decide) rfl rfl ?_
        refine rr_goto (tgt := 60) dX9_clicks_130 (by decide) ?_
        exact rr.sub [1, 2, 3, 4, 0] rfl h
      · have h := h.2 hc
        refine rr_aload_n dX9_clicks_88 rfl 0 rfl rfl ?_
        refine rr_getR dX9_clicks_89 fX9_69 (by decide) rfl rfl rfl ?_
        refine rr_iload dX9_clicks_92 4 rfl rfl ?_
        refine rr_iald dX9_clicks_94 (by decide) rfl rfl ⟨h.1, ?_⟩
        have h := h.2
        refine rr_if_lt (tgt := 127) dX9_clicks_95 (by decide) rfl ⟨fun hc => ?_, fun hc => ?_⟩
        · have h := h.1 hc
          refine rr_iinc (k := 4) (v := (v4 + (1 : Int32))) (lv' := [(4, .int (v4 + (1 : Int32))), (0, .ref 0), (1, .int v1), (2, .int v2), (3, .int v3)]) dX9_clicks_127 rfl rfl (by decide) rfl rfl ?_
          refine rr_goto (tgt := 60) dX9_clicks_130 (by decide) ?_
          exact rr.sub [1, 2, 3, 4, 0] rfl h
        · have h := h.2 hc
          refine rr_aload_n dX9_clicks_98 rfl 0 rfl rfl ?_
          refine rr_getR dX9_clicks_99 fX9_69 (by decide) rfl rfl rfl ?_
          refine rr_iload dX9_clicks_102 4 rfl rfl ?_
          refine rr_iald dX9_clicks_104 (by decide) rfl rfl ⟨h.1, ?_⟩
          have h := h.2
          refine rr_aload_n dX9_clicks_105 rfl 0 rfl rfl ?_
          refine rr_getR dX9_clicks_106 fX9_69 (by decide) rfl rfl rfl ?_
          refine rr_iload_n dX9_clicks_109 rfl 3 rfl rfl ?_
          refine rr_iald dX9_clicks_110 (by decide) rfl rfl ⟨h.1, ?_⟩
          have h := h.2
          refine rr_icmp_ge (tgt := 127) dX9_clicks_111 (by decide) rfl ⟨fun hc => ?_, fun hc => ?_⟩
          · have h := h.1 hc
            refine rr_iinc (k := 4) (v := (v4 + (1 : Int32))) (lv' := [(4, .int (v4 + (1 : Int32))), (0, .ref 0), (1, .int v1), (2, .int v2), (3, .int v3)]) dX9_clicks_127 rfl rfl (by decide) rfl rfl ?_
            refine rr_goto (tgt := 60) dX9_clicks_130 (by decide) ?_
            exact rr.sub [1, 2, 3, 4, 0] rfl h
          · have h := h.2 hc
            refine rr_aload_n dX9_clicks_114 rfl 0 rfl rfl ?_
            refine rr_getR dX9_clicks_115 fX9_69 (by decide) rfl rfl rfl ?_
            refine rr_iload_n dX9_clicks_118 rfl 3 rfl rfl ?_
            refine rr_aload_n dX9_clicks_119 rfl 0 rfl rfl ?_
            refine rr_getR dX9_clicks_120 fX9_69 (by decide) rfl rfl rfl ?_
            refine rr_iload dX9_clicks_123 4 rfl rfl ?_
            refine rr_iald dX9_clicks_125 (by decide) rfl rfl ⟨h.1, ?_⟩
            have h := h.2
            refine rr_iast dX9_clicks_126 (by decide) rfl rfl ⟨h.1, ?_⟩
            refine rr_letI (fun I2 hI2 => ?_)
            have h := h.2 I2 hI2
            refine rr_iinc (k := 4) (v := (v4 + (1 : Int32))) (lv' := [(4, .int (v4 + (1 : Int32))), (0, .ref 0), (1, .int v1), (2, .int v2), (3, .int v3)]) dX9_clicks_127 rfl rfl (by decide) rfl rfl ?_
            refine rr_goto (tgt := 60) dX9_clicks_130 (by decide) ?_
            exact rr.sub [1, 2, 3, 4, 0] rfl h

theorem e_X9_isUnsure {I : tg_I} {J : tg_J} {P : Option Value → tg_I → tg_J → Prop} (v1 : Int32) (v2 : Int32) (h :
  call pgM zX9_isNear [.ref 0, .int v1, .int v2] I J (fun vr I1 J1 => ∃ r1 : Int32, vr = some (.int r1) ∧
  ((r1 = 0 →
   P (some (.int (0 : Int32))) I1 J1) ∧
  (¬ r1 = 0 →
   vp_in v2 100 ∧
    ((¬ (I1 3 (Int32.toNatClampNeg v2)) = 0 →
     P (some (.int (0 : Int32))) I1 J1) ∧
    ((I1 3 (Int32.toNatClampNeg v2)) = 0 →
     vp_in v2 100 ∧
      ((0 ≤ (I1 11 (Int32.toNatClampNeg v2)) →
       P (some (.int (0 : Int32))) I1 J1) ∧
      (¬ 0 ≤ (I1 11 (Int32.toNatClampNeg v2)) →
       P (some (.int (1 : Int32))) I1 J1)))))))) : call pgM zX9_isUnsure [.ref 0, .int v1, .int v2] I J P := by
  refine call_of (by decide +kernel) (fun _ => Nat.le_of_ble_eq_true rfl) ?_
  show rr pgM zX9_isUnsure 0 [(0, .ref 0), (1, .int v1), (2, .int v2)] [] I J P
  refine rr_aload_n dX9_isUnsure_0 rfl 0 rfl rfl ?_
  refine rr_iload_n dX9_isUnsure_1 rfl 1 rfl rfl ?_
  refine rr_iload_n dX9_isUnsure_2 rfl 2 rfl rfl ?_
  refine rr_V [.int v1, .int v2] [] dX9_isUnsure_3 kX9_isNear mX9_138 ⟨by decide, by decide⟩ (by decide) rfl rfl rfl (Nat.le_of_ble_eq_true rfl) rfl (h.mono fun vr I1 J1 h => ?_)
  obtain ⟨r1, rfl, h⟩ := h
  show rr pgM zX9_isUnsure 6 _ [.int r1] _ _ _
  refine rr_if_eq (tgt := 31) dX9_isUnsure_6 (by decide) rfl ⟨fun hc => ?_, fun hc => ?_⟩
  · have h := h.1 hc
    refine rr_iconst (v := (0 : Int32)) dX9_isUnsure_31 (by decide) rfl ?_
    exact rr_zret dX9_isUnsure_32 rfl rfl h
  · have h := h.2 hc
    refine rr_aload_n dX9_isUnsure_9 rfl 0 rfl rfl ?_
    refine rr_getR dX9_isUnsure_10 fX9_26 (by decide) rfl rfl rfl ?_
    refine rr_iload_n dX9_isUnsure_13 rfl 2 rfl rfl ?_
    refine rr_iald dX9_isUnsure_14 (by decide) rfl rfl ⟨h.1, ?_⟩
    have h := h.2
    refine rr_if_ne (tgt := 31) dX9_isUnsure_15 (by decide) rfl ⟨fun hc => ?_, fun hc => ?_⟩
    · have h := h.1 hc
      refine rr_iconst (v := (0 : Int32)) dX9_isUnsure_31 (by decide) rfl ?_
      exact rr_zret dX9_isUnsure_32 rfl rfl h
    · have h := h.2 hc
      refine rr_aload_n dX9_isUnsure_18 rfl 0 rfl rfl ?_
      refine rr_getR dX9_isUnsure_19 fX9_54 (by decide) rfl rfl rfl ?_
      refine rr_iload_n dX9_isUnsure_22 rfl 2 rfl rfl ?_
      refine rr_iald dX9_isUnsure_23 (by decide) rfl rfl ⟨h.1, ?_⟩
      have h := h.2
      refine rr_if_ge (tgt := 31) dX9_isUnsure_24 (by decide) rfl ⟨fun hc => ?_, fun hc => ?_⟩
      · have h := h.1 hc
        refine rr_iconst (v := (0 : Int32)) dX9_isUnsure_31 (by decide) rfl ?_
        exact rr_zret dX9_isUnsure_32 rfl rfl h
      · have h := h.2 hc
        refine rr_iconst (v := (1 : Int32)) dX9_isUnsure_27 (by decide) rfl ?_
        refine rr_goto (tgt := 32) dX9_isUnsure_28 (by decide) ?_
        exact rr_zret dX9_isUnsure_32 rfl rfl h

def l_X9_unsure_4 (I : tg_I) (J : tg_J) (P : Option Value → tg_I → tg_J → Prop) (v1 : Int32) (v2 : Int32) (v3 : Int32) : Prop := rr pgM zX9_unsure 4 [(0, .ref 0), (1, .int v1), (2, .int v2), (3, .int v3)] [] I J P
theorem e_X9_unsure {I : tg_I} {J : tg_J} {P : Option Value → tg_I → tg_J → Prop} (v1 : Int32) (h :
  l_X9_unsure_4 I J P v1 ((0 : Int32)) ((0 : Int32))) : call pgM zX9_unsure [.ref 0, .int v1] I J P := by
  refine call_of (by decide +kernel) (fun _ => Nat.le_of_ble_eq_true rfl) ?_
  show rr pgM zX9_unsure 0 [(0, .ref 0), (1, .int v1)] [] I J P
  refine rr_iconst (v := (0 : Int32)) dX9_unsure_0 (by decide) rfl ?_
  refine rr_istore_n (lv' := [(2, .int (0 : Int32)), (0, .ref 0), (1, .int v1)]) dX9_unsure_1 rfl (by decide) rfl rfl ?_
  refine rr_iconst (v := (0 : Int32)) dX9_unsure_2 (by decide) rfl ?_
  refine rr_istore_n (lv' := [(3, .int (0 : Int32)), (2, .int (0 : Int32)), (0, .ref 0), (1, .int v1)]) dX9_unsure_3 rfl (by decide) rfl rfl ?_
  exact rr.sub [2, 3, 1, 0] rfl h
theorem s_X9_unsure_4 {I : tg_I} {J : tg_J} {P : Option Value → tg_I → tg_J → Prop} (v1 : Int32) (v2 : Int32) (v3 : Int32) (h :
  ((I 0 3) ≤ v3 →
   P (some (.int v2)) I J) ∧
  (¬ (I 0 3) ≤ v3 →
   call pgM zX9_isUnsure [.ref 0, .int v1, .int v3] I J (fun vr I1 J1 => ∃ r1 : Int32, vr = some (.int r1) ∧
    ((r1 = 0 →
     l_X9_unsure_4 I1 J1 P v1 ((v2 + (0 : Int32))) ((v3 + (1 : Int32)))) ∧
    (¬ r1 = 0 →
     l_X9_unsure_4 I1 J1 P v1 ((v2 + (1 : Int32))) ((v3 + (1 : Int32)))))))) : l_X9_unsure_4 I J P v1 v2 v3 := by
  show rr pgM zX9_unsure 4 [(0, .ref 0), (1, .int v1), (2, .int v2), (3, .int v3)] [] I J P
  refine rr_iload_n dX9_unsure_4 rfl 3 rfl rfl ?_
  refine rr_aload_n dX9_unsure_5 rfl 0 rfl rfl ?_
  refine rr_getI dX9_unsure_6 fX9_16 (by decide) rfl rfl rfl ?_
  refine rr_icmp_ge (tgt := 35) dX9_unsure_9 (by decide) rfl ⟨fun hc => ?_, fun hc => ?_⟩
  · have h := h.1 hc
    refine rr_iload_n dX9_unsure_35 rfl 2 rfl rfl ?_
    exact rr_iret dX9_unsure_36 rfl h
  · have h := h.2 hc
    refine rr_iload_n dX9_unsure_12 rfl 2 rfl rfl ?_
    refine rr_aload_n dX9_unsure_13 rfl 0 rfl rfl ?_
    refine rr_iload_n dX9_unsure_14 rfl 1 rfl rfl ?_
    refine rr_iload_n dX9_unsure_15 rfl 3 rfl rfl ?_
    refine rr_V [.int v1, .int v3] [.int v2] dX9_unsure_16 kX9_isUnsure mX9_195 ⟨by decide, by decide⟩ (by decide) rfl rfl rfl (Nat.le_of_ble_eq_true rfl) rfl (h.mono fun vr I1 J1 h => ?_)
    obtain ⟨r1, rfl, h⟩ := h
    show rr pgM zX9_unsure 19 _ [.int r1, .int v2] _ _ _
    refine rr_if_eq (tgt := 26) dX9_unsure_19 (by decide) rfl ⟨fun hc => ?_, fun hc => ?_⟩
    · have h := h.1 hc
      refine rr_iconst (v := (0 : Int32)) dX9_unsure_26 (by decide) rfl ?_
      refine rr_iadd dX9_unsure_27 rfl ?_
      refine rr_istore_n (lv' := [(2, .int (v2 + (0 : Int32))), (0, .ref 0), (1, .int v1), (3, .int v3)]) dX9_unsure_28 rfl (by decide) rfl rfl ?_
      refine rr_iinc (k := 3) (v := (v3 + (1 : Int32))) (lv' := [(3, .int (v3 + (1 : Int32))), (2, .int (v2 + (0 : Int32))), (0, .ref 0), (1, .int v1)]) dX9_unsure_29 rfl rfl (by decide) rfl rfl ?_
      refine rr_goto (tgt := 4) dX9_unsure_32 (by decide) ?_
      exact rr.sub [2, 3, 1, 0] rfl h
    · have h := h.2 hc
      refine rr_iconst (v := (1 : Int32)) dX9_unsure_22 (by decide) rfl ?_
      refine rr_goto (tgt := 27) dX9_unsure_23 (by decide) ?_
      refine rr_iadd dX9_unsure_27 rfl ?_
      refine rr_istore_n (lv' := [(2, .int (v2 + (1 : Int32))), (0, .ref 0), (1, .int v1), (3, .int v3)]) dX9_unsure_28 rfl (by decide) rfl rfl ?_
      refine rr_iinc (k := 3) (v := (v3 + (1 : Int32))) (lv' := [(3, .int (v3 + (1 : Int32))), (2, .int (v2 + (1 : Int32))), (0, .ref 0), (1, .int v1)]) dX9_unsure_29 rfl rfl (by decide) rfl rfl ?_
      refine rr_goto (tgt := 4) dX9_unsure_32 (by decide) ?_
      exact rr.sub [2, 3, 1, 0] rfl h

def l_X9_due_15 (I : tg_I) (J : tg_J) (P : Option Value → tg_I → tg_J → Prop) (v1 : Int32) (v2 : Int32) (v3 : Int32) : Prop := rr pgM zX9_due 15 [(0, .ref 0), (1, .int v1), (2, .int v2), (3, .int v3)] [] I J P
theorem e_X9_due {I : tg_I} {J : tg_J} {P : Option Value → tg_I → tg_J → Prop} (v1 : Int32) (h :
  call pgM zX9_numberOf [.ref 0, .int v1] I J (fun vr I1 J1 => ∃ r1 : Int32, vr = some (.int r1) ∧
  (call pgM zX9_nearState [.ref 0, .int v1, .int (2 : Int32)] I1 J1 (fun vr I2 J2 => ∃ r2 : Int32, vr = some (.int r2) ∧
  (l_X9_due_15 I2 J2 P v1 ((r1 - r2)) ((0 : Int32))))))) : call pgM zX9_due [.ref 0, .int v1] I J P := by
  refine call_of (by decide +kernel) (fun _ => Nat.le_of_ble_eq_true rfl) ?_
  show rr pgM zX9_due 0 [(0, .ref 0), (1, .int v1)] [] I J P
  refine rr_aload_n dX9_due_0 rfl 0 rfl rfl ?_
  refine rr_iload_n dX9_due_1 rfl 1 rfl rfl ?_
  refine rr_V [.int v1] [] dX9_due_2 kX9_numberOf mX9_142 ⟨by decide, by decide⟩ (by decide) rfl rfl rfl (Nat.le_of_ble_eq_true rfl) rfl (h.mono fun vr I1 J1 h => ?_)
  obtain ⟨r1, rfl, h⟩ := h
  show rr pgM zX9_due 5 _ [.int r1] _ _ _
  refine rr_aload_n dX9_due_5 rfl 0 rfl rfl ?_
  refine rr_iload_n dX9_due_6 rfl 1 rfl rfl ?_
  refine rr_iconst (v := (2 : Int32)) dX9_due_7 (by decide) rfl ?_
  refine rr_V [.int v1, .int (2 : Int32)] [.int r1] dX9_due_8 kX9_nearState mX9_165 ⟨by decide, by decide⟩ (by decide) rfl rfl rfl (Nat.le_of_ble_eq_true rfl) rfl (h.mono fun vr I2 J2 h => ?_)
  obtain ⟨r2, rfl, h⟩ := h
  show rr pgM zX9_due 11 _ [.int r2, .int r1] _ _ _
  refine rr_isub dX9_due_11 rfl ?_
  refine rr_istore_n (lv' := [(2, .int (r1 - r2)), (0, .ref 0), (1, .int v1)]) dX9_due_12 rfl (by decide) rfl rfl ?_
  refine rr_iconst (v := (0 : Int32)) dX9_due_13 (by decide) rfl ?_
  refine rr_istore_n (lv' := [(3, .int (0 : Int32)), (2, .int (r1 - r2)), (0, .ref 0), (1, .int v1)]) dX9_due_14 rfl (by decide) rfl rfl ?_
  exact rr.sub [2, 3, 1, 0] rfl h
theorem s_X9_due_15 {I : tg_I} {J : tg_J} {P : Option Value → tg_I → tg_J → Prop} (v1 : Int32) (v2 : Int32) (v3 : Int32) (h :
  ((I 0 3) ≤ v3 →
   P (some (.int v2)) I J) ∧
  (¬ (I 0 3) ≤ v3 →
   call pgM zX9_isNear [.ref 0, .int v1, .int v3] I J (fun vr I1 J1 => ∃ r1 : Int32, vr = some (.int r1) ∧
    ((r1 = 0 →
     l_X9_due_15 I1 J1 P v1 ((v2 - (0 : Int32))) ((v3 + (1 : Int32)))) ∧
    (¬ r1 = 0 →
     vp_in v3 100 ∧
      ((¬ (I1 11 (Int32.toNatClampNeg v3)) = (1 : Int32) →
       l_X9_due_15 I1 J1 P v1 ((v2 - (0 : Int32))) ((v3 + (1 : Int32)))) ∧
      ((I1 11 (Int32.toNatClampNeg v3)) = (1 : Int32) →
       l_X9_due_15 I1 J1 P v1 ((v2 - (1 : Int32))) ((v3 + (1 : Int32)))))))))) : l_X9_due_15 I J P v1 v2 v3 := by
  show rr pgM zX9_due 15 [(0, .ref 0), (1, .int v1), (2, .int v2), (3, .int v3)] [] I J P
  refine rr_iload_n dX9_due_15 rfl 3 rfl rfl ?_
  refine rr_aload_n dX9_due_16 rfl 0 rfl rfl ?_
  refine rr_getI dX9_due_17 fX9_16 (by decide) rfl rfl rfl ?_
  refine rr_icmp_ge (tgt := 56) dX9_due_20 (by decide) rfl ⟨fun hc => ?_, fun hc => ?_⟩
  · have h := h.1 hc
    refine rr_iload_n dX9_due_56 rfl 2 rfl rfl ?_
    exact rr_iret dX9_due_57 rfl h
  · have h := h.2 hc
    refine rr_iload_n dX9_due_23 rfl 2 rfl rfl ?_
    refine rr_aload_n dX9_due_24 rfl 0 rfl rfl ?_
    refine rr_iload_n dX9_due_25 rfl 1 rfl rfl ?_
    refine rr_iload_n dX9_due_26 rfl 3 rfl rfl ?_
    refine rr_V [.int v1, .int v3] [.int v2] dX9_due_27 kX9_isNear mX9_138 ⟨by decide, by decide⟩ (by decide) rfl rfl rfl (Nat.le_of_ble_eq_true rfl) rfl (h.mono fun vr I1 J1 h => ?_)
    obtain ⟨r1, rfl, h⟩ := h
    show rr pgM zX9_due 30 _ [.int r1, .int v2] _ _ _
    refine rr_if_eq (tgt := 47) dX9_due_30 (by decide) rfl ⟨fun hc => ?_, fun hc => ?_⟩
    · have h := h.1 hc
      refine rr_iconst (v := (0 : Int32)) dX9_due_47 (by decide) rfl ?_
      refine rr_isub dX9_due_48 rfl ?_
      refine rr_istore_n (lv' := [(2, .int (v2 - (0 : Int32))), (0, .ref 0), (1, .int v1), (3, .int v3)]) dX9_due_49 rfl (by decide) rfl rfl ?_
      refine rr_iinc (k := 3) (v := (v3 + (1 : Int32))) (lv' := [(3, .int (v3 + (1 : Int32))), (2, .int (v2 - (0 : Int32))), (0, .ref 0), (1, .int v1)]) dX9_due_50 rfl rfl (by decide) rfl rfl ?_
      refine rr_goto (tgt := 15) dX9_due_53 (by decide) ?_
      exact rr.sub [2, 3, 1, 0] rfl h
    · have h := h.2 hc
      refine rr_aload_n dX9_due_33 rfl 0 rfl rfl ?_
      refine rr_getR dX9_due_34 fX9_54 (by decide) rfl rfl rfl ?_
      refine rr_iload_n dX9_due_37 rfl 3 rfl rfl ?_
      refine rr_iald dX9_due_38 (by decide) rfl rfl ⟨h.1, ?_⟩
      have h := h.2
      refine rr_iconst (v := (1 : Int32)) dX9_due_39 (by decide) rfl ?_
      refine rr_icmp_ne (tgt := 47) dX9_due_40 (by decide) rfl ⟨fun hc => ?_, fun hc => ?_⟩
      · have h := h.1 hc
        refine rr_iconst (v := (0 : Int32)) dX9_due_47 (by decide) rfl ?_
        refine rr_isub dX9_due_48 rfl ?_
        refine rr_istore_n (lv' := [(2, .int (v2 - (0 : Int32))), (0, .ref 0), (1, .int v1), (3, .int v3)]) dX9_due_49 rfl (by decide) rfl rfl ?_
        refine rr_iinc (k := 3) (v := (v3 + (1 : Int32))) (lv' := [(3, .int (v3 + (1 : Int32))), (2, .int (v2 - (0 : Int32))), (0, .ref 0), (1, .int v1)]) dX9_due_50 rfl rfl (by decide) rfl rfl ?_
        refine rr_goto (tgt := 15) dX9_due_53 (by decide) ?_
        exact rr.sub [2, 3, 1, 0] rfl h
      · have h := h.2 hc
        refine rr_iconst (v := (1 : Int32)) dX9_due_43 (by decide) rfl ?_
        refine rr_goto (tgt := 48) dX9_due_44 (by decide) ?_
        refine rr_isub dX9_due_48 rfl ?_
        refine rr_istore_n (lv' := [(2, .int (v2 - (1 : Int32))), (0, .ref 0), (1, .int v1), (3, .int v3)]) dX9_due_49 rfl (by decide) rfl rfl ?_
        refine rr_iinc (k := 3) (v := (v3 + (1 : Int32))) (lv' := [(3, .int (v3 + (1 : Int32))), (2, .int (v2 - (1 : Int32))), (0, .ref 0), (1, .int v1)]) dX9_due_50 rfl rfl (by decide) rfl rfl ?_
        refine rr_goto (tgt := 15) dX9_due_53 (by decide) ?_
        exact rr.sub [2, 3, 1, 0] rfl h

def l_X9_clearGiven_2 (I : tg_I) (J : tg_J) (P : Option Value → tg_I → tg_J → Prop) (v1 : Int32) : Prop := rr pgM zX9_clearGiven 2 [(0, .ref 0), (1, .int v1)] [] I J P
def l_X9_clearGiven_23 (I : tg_I) (J : tg_J) (P : Option Value → tg_I → tg_J → Prop) (v1 : Int32) : Prop := rr pgM zX9_clearGiven 23 [(0, .ref 0), (1, .int v1)] [] I J P
theorem e_X9_clearGiven {I : tg_I} {J : tg_J} {P : Option Value → tg_I → tg_J → Prop} (h :
  l_X9_clearGiven_2 I J P ((0 : Int32))) : call pgM zX9_clearGiven [.ref 0] I J P := by
  refine call_of (by decide +kernel) (fun _ => Nat.le_of_ble_eq_true rfl) ?_
  show rr pgM zX9_clearGiven 0 [(0, .ref 0)] [] I J P
  refine rr_iconst (v := (0 : Int32)) dX9_clearGiven_0 (by decide) rfl ?_
  refine rr_istore_n (lv' := [(1, .int (0 : Int32)), (0, .ref 0)]) dX9_clearGiven_1 rfl (by decide) rfl rfl ?_
  exact rr.sub [1, 0] rfl h
theorem s_X9_clearGiven_2 {I : tg_I} {J : tg_J} {P : Option Value → tg_I → tg_J → Prop} (v1 : Int32) (h :
  ((100 : Int32) ≤ v1 →
   l_X9_clearGiven_23 I J P ((0 : Int32))) ∧
  (¬ (100 : Int32) ≤ v1 →
   vp_in v1 100 ∧ ∀ I1, I1 = u2 I 13 (Int32.toNatClampNeg v1) (-1 : Int32) →
    l_X9_clearGiven_2 I1 J P ((v1 + (1 : Int32))))) : l_X9_clearGiven_2 I J P v1 := by
  show rr pgM zX9_clearGiven 2 [(0, .ref 0), (1, .int v1)] [] I J P
  refine rr_iload_n dX9_clearGiven_2 rfl 1 rfl rfl ?_
  refine rr_bipush (v := (100 : Int32)) dX9_clearGiven_3 (by decide) rfl ?_
  refine rr_icmp_ge (tgt := 21) dX9_clearGiven_5 (by decide) rfl ⟨fun hc => ?_, fun hc => ?_⟩
  · have h := h.1 hc
    refine rr_iconst (v := (0 : Int32)) dX9_clearGiven_21 (by decide) rfl ?_
    refine rr_istore_n (lv' := [(1, .int (0 : Int32)), (0, .ref 0)]) dX9_clearGiven_22 rfl (by decide) rfl rfl ?_
    exact rr.sub [1, 0] rfl h
  · have h := h.2 hc
    refine rr_aload_n dX9_clearGiven_8 rfl 0 rfl rfl ?_
    refine rr_getR dX9_clearGiven_9 fX9_60 (by decide) rfl rfl rfl ?_
    refine rr_iload_n dX9_clearGiven_12 rfl 1 rfl rfl ?_
    refine rr_iconst (v := (-1 : Int32)) dX9_clearGiven_13 (by decide) rfl ?_
    refine rr_iast dX9_clearGiven_14 (by decide) rfl rfl ⟨h.1, ?_⟩
    refine rr_letI (fun I1 hI1 => ?_)
    have h := h.2 I1 hI1
    refine rr_iinc (k := 1) (v := (v1 + (1 : Int32))) (lv' := [(1, .int (v1 + (1 : Int32))), (0, .ref 0)]) dX9_clearGiven_15 rfl rfl (by decide) rfl rfl ?_
    refine rr_goto (tgt := 2) dX9_clearGiven_18 (by decide) ?_
    exact rr.sub [1, 0] rfl h
theorem s_X9_clearGiven_23 {I : tg_I} {J : tg_J} {P : Option Value → tg_I → tg_J → Prop} (v1 : Int32) (h :
  ((101 : Int32) ≤ v1 →
   P none I J) ∧
  (¬ (101 : Int32) ≤ v1 →
   vp_in v1 101 ∧ ∀ I1, I1 = u2 I 14 (Int32.toNatClampNeg v1) (vp_nar .boolean (0 : Int32)) →
    l_X9_clearGiven_23 I1 J P ((v1 + (1 : Int32))))) : l_X9_clearGiven_23 I J P v1 := by
  show rr pgM zX9_clearGiven 23 [(0, .ref 0), (1, .int v1)] [] I J P
  refine rr_iload_n dX9_clearGiven_23 rfl 1 rfl rfl ?_
  refine rr_bipush (v := (101 : Int32)) dX9_clearGiven_24 (by decide) rfl ?_
  refine rr_icmp_ge (tgt := 42) dX9_clearGiven_26 (by decide) rfl ⟨fun hc => ?_, fun hc => ?_⟩
  · have h := h.1 hc
    exact rr_vret dX9_clearGiven_42 rfl h
  · have h := h.2 hc
    refine rr_aload_n dX9_clearGiven_29 rfl 0 rfl rfl ?_
    refine rr_getR dX9_clearGiven_30 fX9_63 (by decide) rfl rfl rfl ?_
    refine rr_iload_n dX9_clearGiven_33 rfl 1 rfl rfl ?_
    refine rr_iconst (v := (0 : Int32)) dX9_clearGiven_34 (by decide) rfl ?_
    refine rr_zast dX9_clearGiven_35 (by decide) rfl rfl ⟨h.1, ?_⟩
    refine rr_letI (fun I1 hI1 => ?_)
    have h := h.2 I1 hI1
    refine rr_iinc (k := 1) (v := (v1 + (1 : Int32))) (lv' := [(1, .int (v1 + (1 : Int32))), (0, .ref 0)]) dX9_clearGiven_36 rfl rfl (by decide) rfl rfl ?_
    refine rr_goto (tgt := 23) dX9_clearGiven_39 (by decide) ?_
    exact rr.sub [1, 0] rfl h

def l_X9_becauseOf_9 (I : tg_I) (J : tg_J) (P : Option Value → tg_I → tg_J → Prop) (v1 : Int32) (v2 : Int32) : Prop := rr pgM zX9_becauseOf 9 [(0, .ref 0), (1, .int v1), (2, .int v2)] [] I J P
def l_X9_becauseOf_37 (I : tg_I) (J : tg_J) (P : Option Value → tg_I → tg_J → Prop) (v1 : Int32) (v2 : Int32) (v3 : Int32) : Prop := rr pgM zX9_becauseOf 37 [(0, .ref 0), (1, .int v1), (2, .int v2), (3, .int v3)] [] I J P
theorem e_X9_becauseOf {I : tg_I} {J : tg_J} {P : Option Value → tg_I → tg_J → Prop} (v1 : Int32) (h :
  vp_in v1 101 ∧ ∀ I1, I1 = u2 I 14 (Int32.toNatClampNeg v1) (vp_nar .boolean (1 : Int32)) →
  l_X9_becauseOf_9 I1 J P v1 ((0 : Int32))) : call pgM zX9_becauseOf [.ref 0, .int v1] I J P := by
  refine call_of (by decide +kernel) (fun _ => Nat.le_of_ble_eq_true rfl) ?_
  show rr pgM zX9_becauseOf 0 [(0, .ref 0), (1, .int v1)] [] I J P
  refine rr_aload_n dX9_becauseOf_0 rfl 0 rfl rfl ?_
  refine rr_getR dX9_becauseOf_1 fX9_63 (by decide) rfl rfl rfl ?_
  refine rr_iload_n dX9_becauseOf_4 rfl 1 rfl rfl ?_
  refine rr_iconst (v := (1 : Int32)) dX9_becauseOf_5 (by decide) rfl ?_
  refine rr_zast dX9_becauseOf_6 (by decide) rfl rfl ⟨h.1, ?_⟩
  refine rr_letI (fun I1 hI1 => ?_)
  have h := h.2 I1 hI1
  refine rr_iconst (v := (0 : Int32)) dX9_becauseOf_7 (by decide) rfl ?_
  refine rr_istore_n (lv' := [(2, .int (0 : Int32)), (0, .ref 0), (1, .int v1)]) dX9_becauseOf_8 rfl (by decide) rfl rfl ?_
  exact rr.sub [1, 2, 0] rfl h
theorem s_X9_becauseOf_9 {I : tg_I} {J : tg_J} {P : Option Value → tg_I → tg_J → Prop} (v1 : Int32) (v2 : Int32) (h :
  ((I 0 3) ≤ v2 →
   P none I J) ∧
  (¬ (I 0 3) ≤ v2 →
   call pgM zX9_isNear [.ref 0, .int v1, .int v2] I J (fun vr I1 J1 => ∃ r1 : Int32, vr = some (.int r1) ∧
    ((r1 = 0 →
     l_X9_becauseOf_9 I1 J1 P v1 ((v2 + (1 : Int32)))) ∧
    (¬ r1 = 0 →
     vp_in v2 100 ∧
      (((I1 11 (Int32.toNatClampNeg v2)) < 0 →
       l_X9_becauseOf_9 I1 J1 P v1 ((v2 + (1 : Int32)))) ∧
      (¬ (I1 11 (Int32.toNatClampNeg v2)) < 0 →
       l_X9_becauseOf_37 I1 J1 P v1 v2 ((0 : Int32))))))))) : l_X9_becauseOf_9 I J P v1 v2 := by
  show rr pgM zX9_becauseOf 9 [(0, .ref 0), (1, .int v1), (2, .int v2)] [] I J P
  refine rr_iload_n dX9_becauseOf_9 rfl 2 rfl rfl ?_
  refine rr_aload_n dX9_becauseOf_10 rfl 0 rfl rfl ?_
  refine rr_getI dX9_becauseOf_11 fX9_16 (by decide) rfl rfl rfl ?_
  refine rr_icmp_ge (tgt := 89) dX9_becauseOf_14 (by decide) rfl ⟨fun hc => ?_, fun hc => ?_⟩
  · have h := h.1 hc
    exact rr_vret dX9_becauseOf_89 rfl h
  · have h := h.2 hc
    refine rr_aload_n dX9_becauseOf_17 rfl 0 rfl rfl ?_
    refine rr_iload_n dX9_becauseOf_18 rfl 1 rfl rfl ?_
    refine rr_iload_n dX9_becauseOf_19 rfl 2 rfl rfl ?_
    refine rr_V [.int v1, .int v2] [] dX9_becauseOf_20 kX9_isNear mX9_138 ⟨by decide, by decide⟩ (by decide) rfl rfl rfl (Nat.le_of_ble_eq_true rfl) rfl (h.mono fun vr I1 J1 h => ?_)
    obtain ⟨r1, rfl, h⟩ := h
    show rr pgM zX9_becauseOf 23 _ [.int r1] _ _ _
    refine rr_if_eq (tgt := 83) dX9_becauseOf_23 (by decide) rfl ⟨fun hc => ?_, fun hc => ?_⟩
    · have h := h.1 hc
      refine rr_iinc (k := 2) (v := (v2 + (1 : Int32))) (lv' := [(2, .int (v2 + (1 : Int32))), (0, .ref 0), (1, .int v1)]) dX9_becauseOf_83 rfl rfl (by decide) rfl rfl ?_
      refine rr_goto (tgt := 9) dX9_becauseOf_86 (by decide) ?_
      exact rr.sub [1, 2, 0] rfl h
    · have h := h.2 hc
      refine rr_aload_n dX9_becauseOf_26 rfl 0 rfl rfl ?_
      refine rr_getR dX9_becauseOf_27 fX9_54 (by decide) rfl rfl rfl ?_
      refine rr_iload_n dX9_becauseOf_30 rfl 2 rfl rfl ?_
      refine rr_iald dX9_becauseOf_31 (by decide) rfl rfl ⟨h.1, ?_⟩
      have h := h.2
      refine rr_if_lt (tgt := 83) dX9_becauseOf_32 (by decide) rfl ⟨fun hc => ?_, fun hc => ?_⟩
      · have h := h.1 hc
        refine rr_iinc (k := 2) (v := (v2 + (1 : Int32))) (lv' := [(2, .int (v2 + (1 : Int32))), (0, .ref 0), (1, .int v1)]) dX9_becauseOf_83 rfl rfl (by decide) rfl rfl ?_
        refine rr_goto (tgt := 9) dX9_becauseOf_86 (by decide) ?_
        exact rr.sub [1, 2, 0] rfl h
      · have h := h.2 hc
        refine rr_iconst (v := (0 : Int32)) dX9_becauseOf_35 (by decide) rfl ?_
        refine rr_istore_n (lv' := [(3, .int (0 : Int32)), (0, .ref 0), (1, .int v1), (2, .int v2)]) dX9_becauseOf_36 rfl (by decide) rfl rfl ?_
        exact rr.sub [1, 2, 3, 0] rfl h
theorem s_X9_becauseOf_37 {I : tg_I} {J : tg_J} {P : Option Value → tg_I → tg_J → Prop} (v1 : Int32) (v2 : Int32) (v3 : Int32) (h :
  ((101 : Int32) ≤ v3 →
   l_X9_becauseOf_9 I J P v1 ((v2 + (1 : Int32)))) ∧
  (¬ (101 : Int32) ≤ v3 →
   vp_in v3 101 ∧
    ((¬ (I 14 (Int32.toNatClampNeg v3)) = 0 →
     vp_in v3 101 ∧ ∀ I1, I1 = u2 I 14 (Int32.toNatClampNeg v3) (vp_nar .boolean (1 : Int32)) →
      l_X9_becauseOf_37 I1 J P v1 v2 ((v3 + (1 : Int32)))) ∧
    ((I 14 (Int32.toNatClampNeg v3)) = 0 →
     vp_in (((101 : Int32) * v2) + v3) 10100 ∧
      (((I 12 (Int32.toNatClampNeg (((101 : Int32) * v2) + v3))) = 0 →
       vp_in v3 101 ∧ ∀ I2, I2 = u2 I 14 (Int32.toNatClampNeg v3) (vp_nar .boolean (0 : Int32)) →
        l_X9_becauseOf_37 I2 J P v1 v2 ((v3 + (1 : Int32)))) ∧
      (¬ (I 12 (Int32.toNatClampNeg (((101 : Int32) * v2) + v3))) = 0 →
       vp_in v3 101 ∧ ∀ I3, I3 = u2 I 14 (Int32.toNatClampNeg v3) (vp_nar .boolean (1 : Int32)) →
        l_X9_becauseOf_37 I3 J P v1 v2 ((v3 + (1 : Int32))))))))) : l_X9_becauseOf_37 I J P v1 v2 v3 := by
  show rr pgM zX9_becauseOf 37 [(0, .ref 0), (1, .int v1), (2, .int v2), (3, .int v3)] [] I J P
  refine rr_iload_n dX9_becauseOf_37 rfl 3 rfl rfl ?_
  refine rr_bipush (v := (101 : Int32)) dX9_becauseOf_38 (by decide) rfl ?_
  refine rr_icmp_ge (tgt := 83) dX9_becauseOf_40 (by decide) rfl ⟨fun hc => ?_, fun hc => ?_⟩
  · have h := h.1 hc
    refine rr_iinc (k := 2) (v := (v2 + (1 : Int32))) (lv' := [(2, .int (v2 + (1 : Int32))), (0, .ref 0), (1, .int v1), (3, .int v3)]) dX9_becauseOf_83 rfl rfl (by decide) rfl rfl ?_
    refine rr_goto (tgt := 9) dX9_becauseOf_86 (by decide) ?_
    exact rr.sub [1, 2, 0] rfl h
  · have h := h.2 hc
    refine rr_aload_n dX9_becauseOf_43 rfl 0 rfl rfl ?_
    refine rr_getR dX9_becauseOf_44 fX9_63 (by decide) rfl rfl rfl ?_
    refine rr_iload_n dX9_becauseOf_47 rfl 3 rfl rfl ?_
    refine rr_aload_n dX9_becauseOf_48 rfl 0 rfl rfl ?_
    refine rr_getR dX9_becauseOf_49 fX9_63 (by decide) rfl rfl rfl ?_
    refine rr_iload_n dX9_becauseOf_52 rfl 3 rfl rfl ?_
    refine rr_zald dX9_becauseOf_53 (by decide) rfl rfl ⟨h.1, ?_⟩
    have h := h.2
    refine rr_if_ne (tgt := 71) dX9_becauseOf_54 (by decide) rfl ⟨fun hc => ?_, fun hc => ?_⟩
    · have h := h.1 hc
      refine rr_iconst (v := (1 : Int32)) dX9_becauseOf_71 (by decide) rfl ?_
      refine rr_goto (tgt := 76) dX9_becauseOf_72 (by decide) ?_
      refine rr_zast dX9_becauseOf_76 (by decide) rfl rfl ⟨h.1, ?_⟩
      refine rr_letI (fun I1 hI1 => ?_)
      have h := h.2 I1 hI1
      refine rr_iinc (k := 3) (v := (v3 + (1 : Int32))) (lv' := [(3, .int (v3 + (1 : Int32))), (0, .ref 0), (1, .int v1), (2, .int v2)]) dX9_becauseOf_77 rfl rfl (by decide) rfl rfl ?_
      refine rr_goto (tgt := 37) dX9_becauseOf_80 (by decide) ?_
      exact rr.sub [1, 2, 3, 0] rfl h
    · have h := h.2 hc
      refine rr_aload_n dX9_becauseOf_57 rfl 0 rfl rfl ?_
      refine rr_getR dX9_becauseOf_58 fX9_57 (by decide) rfl rfl rfl ?_
      refine rr_bipush (v := (101 : Int32)) dX9_becauseOf_61 (by decide) rfl ?_
      refine rr_iload_n dX9_becauseOf_63 rfl 2 rfl rfl ?_
      refine rr_imul dX9_becauseOf_64 rfl ?_
      refine rr_iload_n dX9_becauseOf_65 rfl 3 rfl rfl ?_
      refine rr_iadd dX9_becauseOf_66 rfl ?_
      refine rr_zald dX9_becauseOf_67 (by decide) rfl rfl ⟨h.1, ?_⟩
      have h := h.2
      refine rr_if_eq (tgt := 75) dX9_becauseOf_68 (by decide) rfl ⟨fun hc => ?_, fun hc => ?_⟩
      · have h := h.1 hc
        refine rr_iconst (v := (0 : Int32)) dX9_becauseOf_75 (by decide) rfl ?_
        refine rr_zast dX9_becauseOf_76 (by decide) rfl rfl ⟨h.1, ?_⟩
        refine rr_letI (fun I2 hI2 => ?_)
        have h := h.2 I2 hI2
        refine rr_iinc (k := 3) (v := (v3 + (1 : Int32))) (lv' := [(3, .int (v3 + (1 : Int32))), (0, .ref 0), (1, .int v1), (2, .int v2)]) dX9_becauseOf_77 rfl rfl (by decide) rfl rfl ?_
        refine rr_goto (tgt := 37) dX9_becauseOf_80 (by decide) ?_
        exact rr.sub [1, 2, 3, 0] rfl h
      · have h := h.2 hc
        refine rr_iconst (v := (1 : Int32)) dX9_becauseOf_71 (by decide) rfl ?_
        refine rr_goto (tgt := 76) dX9_becauseOf_72 (by decide) ?_
        refine rr_zast dX9_becauseOf_76 (by decide) rfl rfl ⟨h.1, ?_⟩
        refine rr_letI (fun I3 hI3 => ?_)
        have h := h.2 I3 hI3
        refine rr_iinc (k := 3) (v := (v3 + (1 : Int32))) (lv' := [(3, .int (v3 + (1 : Int32))), (0, .ref 0), (1, .int v1), (2, .int v2)]) dX9_becauseOf_77 rfl rfl (by decide) rfl rfl ?_
        refine rr_goto (tgt := 37) dX9_becauseOf_80 (by decide) ?_
        exact rr.sub [1, 2, 3, 0] rfl h

def l_X9_ruleOne_2 (I : tg_I) (J : tg_J) (P : Option Value → tg_I → tg_J → Prop) (v1 : Int32) : Prop := rr pgM zX9_ruleOne 2 [(0, .ref 0), (1, .int v1)] [] I J P
def l_X9_ruleOne_68 (I : tg_I) (J : tg_J) (P : Option Value → tg_I → tg_J → Prop) (v1 : Int32) (v3 : Int32) (v4 : Int32) : Prop := rr pgM zX9_ruleOne 68 [(0, .ref 0), (1, .int v1), (3, .int v3), (4, .int v4)] [] I J P
theorem e_X9_ruleOne {I : tg_I} {J : tg_J} {P : Option Value → tg_I → tg_J → Prop} (h :
  l_X9_ruleOne_2 I J P ((0 : Int32))) : call pgM zX9_ruleOne [.ref 0] I J P := by
  refine call_of (by decide +kernel) (fun _ => Nat.le_of_ble_eq_true rfl) ?_
  show rr pgM zX9_ruleOne 0 [(0, .ref 0)] [] I J P
  refine rr_iconst (v := (0 : Int32)) dX9_ruleOne_0 (by decide) rfl ?_
  refine rr_istore_n (lv' := [(1, .int (0 : Int32)), (0, .ref 0)]) dX9_ruleOne_1 rfl (by decide) rfl rfl ?_
  exact rr.sub [1, 0] rfl h
theorem s_X9_ruleOne_2 {I : tg_I} {J : tg_J} {P : Option Value → tg_I → tg_J → Prop} (v1 : Int32) (h :
  ((I 0 3) ≤ v1 →
   P (some (.int (0 : Int32))) I J) ∧
  (¬ (I 0 3) ≤ v1 →
   vp_in v1 100 ∧
    ((¬ (I 3 (Int32.toNatClampNeg v1)) = (1 : Int32) →
     l_X9_ruleOne_2 I J P ((v1 + (1 : Int32)))) ∧
    ((I 3 (Int32.toNatClampNeg v1)) = (1 : Int32) →
     call pgM zX9_unsure [.ref 0, .int v1] I J (fun vr I1 J1 => ∃ r1 : Int32, vr = some (.int r1) ∧
      ((r1 ≤ 0 →
       l_X9_ruleOne_2 I1 J1 P ((v1 + (1 : Int32)))) ∧
      (¬ r1 ≤ 0 →
       call pgM zX9_due [.ref 0, .int v1] I1 J1 (fun vr I2 J2 => ∃ r2 : Int32, vr = some (.int r2) ∧
        ((r2 = 0 →
         call pgM zX9_due [.ref 0, .int v1] I2 J2 (fun vr I3 J3 => ∃ r3 : Int32, vr = some (.int r3) ∧
          ((¬ r3 = 0 →
           l_X9_ruleOne_68 I3 J3 P v1 ((1 : Int32)) ((0 : Int32))) ∧
          (r3 = 0 →
           l_X9_ruleOne_68 I3 J3 P v1 ((0 : Int32)) ((0 : Int32)))))) ∧
        (¬ r2 = 0 →
         call pgM zX9_due [.ref 0, .int v1] I2 J2 (fun vr I4 J4 => ∃ r4 : Int32, vr = some (.int r4) ∧
          ((¬ r4 = r1 →
           l_X9_ruleOne_2 I4 J4 P ((v1 + (1 : Int32)))) ∧
          (r4 = r1 →
           call pgM zX9_due [.ref 0, .int v1] I4 J4 (fun vr I5 J5 => ∃ r5 : Int32, vr = some (.int r5) ∧
            ((¬ r5 = 0 →
             l_X9_ruleOne_68 I5 J5 P v1 ((1 : Int32)) ((0 : Int32))) ∧
            (r5 = 0 →
             l_X9_ruleOne_68 I5 J5 P v1 ((0 : Int32)) ((0 : Int32)))))))))))))))))) : l_X9_ruleOne_2 I J P v1 := by
  show rr pgM zX9_ruleOne 2 [(0, .ref 0), (1, .int v1)] [] I J P
  refine rr_iload_n dX9_ruleOne_2 rfl 1 rfl rfl ?_
  refine rr_aload_n dX9_ruleOne_3 rfl 0 rfl rfl ?_
  refine rr_getI dX9_ruleOne_4 fX9_16 (by decide) rfl rfl rfl ?_
  refine rr_icmp_ge (tgt := 124) dX9_ruleOne_7 (by decide) rfl ⟨fun hc => ?_, fun hc => ?_⟩
  · have h := h.1 hc
    refine rr_iconst (v := (0 : Int32)) dX9_ruleOne_124 (by decide) rfl ?_
    exact rr_zret dX9_ruleOne_125 rfl rfl h
  · have h := h.2 hc
    refine rr_aload_n dX9_ruleOne_10 rfl 0 rfl rfl ?_
    refine rr_getR dX9_ruleOne_11 fX9_26 (by decide) rfl rfl rfl ?_
    refine rr_iload_n dX9_ruleOne_14 rfl 1 rfl rfl ?_
    refine rr_iald dX9_ruleOne_15 (by decide) rfl rfl ⟨h.1, ?_⟩
    have h := h.2
    refine rr_iconst (v := (1 : Int32)) dX9_ruleOne_16 (by decide) rfl ?_
    refine rr_icmp_ne (tgt := 28) dX9_ruleOne_17 (by decide) rfl ⟨fun hc => ?_, fun hc => ?_⟩
    · have h := h.1 hc
      refine rr_iconst (v := (0 : Int32)) dX9_ruleOne_28 (by decide) rfl ?_
      refine rr_istore_n (lv' := [(2, .int (0 : Int32)), (0, .ref 0), (1, .int v1)]) dX9_ruleOne_29 rfl (by decide) rfl rfl ?_
      refine rr_iload_n dX9_ruleOne_30 rfl 0 rfl rfl ?_
      refine rr_if_le (tgt := 118) dX9_ruleOne_31 (by decide) rfl ⟨fun _ => ?_, fun hc => absurd hc (by decide)⟩
      refine rr_iinc (k := 2) (v := (v1 + (1 : Int32))) (lv' := [(1, .int (v1 + (1 : Int32))), (2, .int (0 : Int32)), (0, .ref 0)]) dX9_ruleOne_118 rfl rfl (by decide) rfl rfl ?_
      refine rr_goto (tgt := 2) dX9_ruleOne_121 (by decide) ?_
      exact rr.sub [2, 0] rfl h
    · have h := h.2 hc
      refine rr_aload_n dX9_ruleOne_20 rfl 0 rfl rfl ?_
      refine rr_iload_n dX9_ruleOne_21 rfl 1 rfl rfl ?_
      refine rr_V [.int v1] [] dX9_ruleOne_22 kX9_unsure mX9_198 ⟨by decide, by decide⟩ (by decide) rfl rfl rfl (Nat.le_of_ble_eq_true rfl) rfl (h.mono fun vr I1 J1 h => ?_)
      obtain ⟨r1, rfl, h⟩ := h
      show rr pgM zX9_ruleOne 25 _ [.int r1] _ _ _
      refine rr_goto (tgt := 29) dX9_ruleOne_25 (by decide) ?_
      refine rr_istore_n (lv' := [(2, .int r1), (0, .ref 0), (1, .int v1)]) dX9_ruleOne_29 rfl (by decide) rfl rfl ?_
      refine rr_iload_n dX9_ruleOne_30 rfl 0 rfl rfl ?_
      refine rr_if_le (tgt := 118) dX9_ruleOne_31 (by decide) rfl ⟨fun hc => ?_, fun hc => ?_⟩
      · have h := h.1 hc
        refine rr_iinc (k := 2) (v := (v1 + (1 : Int32))) (lv' := [(1, .int (v1 + (1 : Int32))), (2, .int r1), (0, .ref 0)]) dX9_ruleOne_118 rfl rfl (by decide) rfl rfl ?_
        refine rr_goto (tgt := 2) dX9_ruleOne_121 (by decide) ?_
        exact rr.sub [2, 0] rfl h
      · have h := h.2 hc
        refine rr_aload_n dX9_ruleOne_34 rfl 1 rfl rfl ?_
        refine rr_iload_n dX9_ruleOne_35 rfl 2 rfl rfl ?_
        refine rr_V [.int v1] [] dX9_ruleOne_36 kX9_due mX9_201 ⟨by decide, by decide⟩ (by decide) rfl rfl rfl (Nat.le_of_ble_eq_true rfl) rfl (h.mono fun vr I2 J2 h => ?_)
        obtain ⟨r2, rfl, h⟩ := h
        show rr pgM zX9_ruleOne 39 _ [.int r2] _ _ _
        refine rr_if_eq (tgt := 51) dX9_ruleOne_39 (by decide) rfl ⟨fun hc => ?_, fun hc => ?_⟩
        · have h := h.1 hc
          refine rr_aload_n dX9_ruleOne_51 rfl 1 rfl rfl ?_
          refine rr_iload_n dX9_ruleOne_52 rfl 2 rfl rfl ?_
          refine rr_V [.int v1] [] dX9_ruleOne_53 kX9_due mX9_201 ⟨by decide, by decide⟩ (by decide) rfl rfl rfl (Nat.le_of_ble_eq_true rfl) rfl (h.mono fun vr I3 J3 h => ?_)
          obtain ⟨r3, rfl, h⟩ := h
          show rr pgM zX9_ruleOne 56 _ [.int r3] _ _ _
          refine rr_if_ne (tgt := 63) dX9_ruleOne_56 (by decide) rfl ⟨fun hc => ?_, fun hc => ?_⟩
          · have h := h.1 hc
            refine rr_iconst (v := (1 : Int32)) dX9_ruleOne_63 (by decide) rfl ?_
            refine rr_istore_n (lv' := [(3, .int (1 : Int32)), (2, .int r1), (0, .ref 0), (1, .int v1)]) dX9_ruleOne_64 rfl (by decide) rfl rfl ?_
            refine rr_iconst (v := (0 : Int32)) dX9_ruleOne_65 (by decide) rfl ?_
            refine rr_istore (lv' := [(4, .int (0 : Int32)), (3, .int (1 : Int32)), (2, .int r1), (0, .ref 0), (1, .int v1)]) dX9_ruleOne_66 (by decide) rfl rfl ?_
            exact rr.sub [3, 4, 1, 0] rfl h
          · have h := h.2 hc
            refine rr_iconst (v := (0 : Int32)) dX9_ruleOne_59 (by decide) rfl ?_
            refine rr_goto (tgt := 64) dX9_ruleOne_60 (by decide) ?_
            refine rr_istore_n (lv' := [(3, .int (0 : Int32)), (2, .int r1), (0, .ref 0), (1, .int v1)]) dX9_ruleOne_64 rfl (by decide) rfl rfl ?_
            refine rr_iconst (v := (0 : Int32)) dX9_ruleOne_65 (by decide) rfl ?_
            refine rr_istore (lv' := [(4, .int (0 : Int32)), (3, .int (0 : Int32)), (2, .int r1), (0, .ref 0), (1, .int v1)]) dX9_ruleOne_66 (by decide) rfl rfl ?_
            exact rr.sub [3, 4, 1, 0] rfl h
        · have h := h.2 hc
          refine rr_aload_n dX9_ruleOne_42 rfl 1 rfl rfl ?_
          refine rr_iload_n dX9_ruleOne_43 rfl 2 rfl rfl ?_
          refine rr_V [.int v1] [] dX9_ruleOne_44 kX9_due mX9_201 ⟨by decide, by decide⟩ (by decide) rfl rfl rfl (Nat.le_of_ble_eq_true rfl) rfl (h.mono fun vr I4 J4 h => ?_)
          obtain ⟨r4, rfl, h⟩ := h
          show rr pgM zX9_ruleOne 47 _ [.int r4] _ _ _
          refine rr_iload_n dX9_ruleOne_47 rfl 0 rfl rfl ?_
          refine rr_icmp_ne (tgt := 118) dX9_ruleOne_48 (by decide) rfl ⟨fun hc => ?_, fun hc => ?_⟩
          · have h := h.1 hc
            refine rr_iinc (k := 2) (v := (v1 + (1 : Int32))) (lv' := [(1, .int (v1 + (1 : Int32))), (2, .int r1), (0, .ref 0)]) dX9_ruleOne_118 rfl rfl (by decide) rfl rfl ?_
            refine rr_goto (tgt := 2) dX9_ruleOne_121 (by decide) ?_
            exact rr.sub [2, 0] rfl h
          · have h := h.2 hc
            refine rr_aload_n dX9_ruleOne_51 rfl 1 rfl rfl ?_
            refine rr_iload_n dX9_ruleOne_52 rfl 2 rfl rfl ?_
            refine rr_V [.int v1] [] dX9_ruleOne_53 kX9_due mX9_201 ⟨by decide, by decide⟩ (by decide) rfl rfl rfl (Nat.le_of_ble_eq_true rfl) rfl (h.mono fun vr I5 J5 h => ?_)
            obtain ⟨r5, rfl, h⟩ := h
            show rr pgM zX9_ruleOne 56 _ [.int r5] _ _ _
            refine rr_if_ne (tgt := 63) dX9_ruleOne_56 (by decide) rfl ⟨fun hc => ?_, fun hc => ?_⟩
            · have h := h.1 hc
              refine rr_iconst (v := (1 : Int32)) dX9_ruleOne_63 (by decide) rfl ?_
              refine rr_istore_n (lv' := [(3, .int (1 : Int32)), (2, .int r1), (0, .ref 0), (1, .int v1)]) dX9_ruleOne_64 rfl (by decide) rfl rfl ?_
              refine rr_iconst (v := (0 : Int32)) dX9_ruleOne_65 (by decide) rfl ?_
              refine rr_istore (lv' := [(4, .int (0 : Int32)), (3, .int (1 : Int32)), (2, .int r1), (0, .ref 0), (1, .int v1)]) dX9_ruleOne_66 (by decide) rfl rfl ?_
              exact rr.sub [3, 4, 1, 0] rfl h
            · have h := h.2 hc
              refine rr_iconst (v := (0 : Int32)) dX9_ruleOne_59 (by decide) rfl ?_
              refine rr_goto (tgt := 64) dX9_ruleOne_60 (by decide) ?_
              refine rr_istore_n (lv' := [(3, .int (0 : Int32)), (2, .int r1), (0, .ref 0), (1, .int v1)]) dX9_ruleOne_64 rfl (by decide) rfl rfl ?_
              refine rr_iconst (v := (0 : Int32)) dX9_ruleOne_65 (by decide) rfl ?_
              refine rr_istore (lv' := [(4, .int (0 : Int32)), (3, .int (0 : Int32)), (2, .int r1), (0, .ref 0), (1, .int v1)]) dX9_ruleOne_66 (by decide) rfl rfl ?_
              exact rr.sub [3, 4, 1, 0] rfl h
theorem s_X9_ruleOne_68 {I : tg_I} {J : tg_J} {P : Option Value → tg_I → tg_J → Prop} (v1 : Int32) (v3 : Int32) (v4 : Int32) (h :
  ((I 0 3) ≤ v4 →
   call pgM zX9_becauseOf [.ref 0, .int v1] I J (fun vr I1 J1 => vr = none ∧
    (P (some (.int (1 : Int32))) I1 J1))) ∧
  (¬ (I 0 3) ≤ v4 →
   call pgM zX9_isUnsure [.ref 0, .int v1, .int v4] I J (fun vr I2 J2 => ∃ r1 : Int32, vr = some (.int r1) ∧
    ((r1 = 0 →
     vp_in v4 100 ∧
      (vp_in v4 100 ∧ ∀ I3, I3 = u2 I2 13 (Int32.toNatClampNeg v4) (I2 13 (Int32.toNatClampNeg v4)) →
      l_X9_ruleOne_68 I3 J2 P v1 v3 ((v4 + (1 : Int32))))) ∧
    (¬ r1 = 0 →
     vp_in v4 100 ∧ ∀ I4, I4 = u2 I2 13 (Int32.toNatClampNeg v4) v3 →
      l_X9_ruleOne_68 I4 J2 P v1 v3 ((v4 + (1 : Int32)))))))) : l_X9_ruleOne_68 I J P v1 v3 v4 := by
  show rr pgM zX9_ruleOne 68 [(0, .ref 0), (1, .int v1), (3, .int v3), (4, .int v4)] [] I J P
  refine rr_iload dX9_ruleOne_68 3 rfl rfl ?_
  refine rr_aload_n dX9_ruleOne_70 rfl 0 rfl rfl ?_
  refine rr_getI dX9_ruleOne_71 fX9_16 (by decide) rfl rfl rfl ?_
  refine rr_icmp_ge (tgt := 111) dX9_ruleOne_74 (by decide) rfl ⟨fun hc => ?_, fun hc => ?_⟩
  · have h := h.1 hc
    refine rr_aload_n dX9_ruleOne_111 rfl 0 rfl rfl ?_
    refine rr_iload_n dX9_ruleOne_112 rfl 1 rfl rfl ?_
    refine rr_V [.int v1] [] dX9_ruleOne_113 kX9_becauseOf mX9_204 ⟨by decide, by decide⟩ (by decide) rfl rfl rfl (Nat.le_of_ble_eq_true rfl) rfl (h.mono fun vr I1 J1 h => ?_)
    obtain ⟨rfl, h⟩ := h
    show rr pgM zX9_ruleOne 116 _ [] _ _ _
    refine rr_iconst (v := (1 : Int32)) dX9_ruleOne_116 (by decide) rfl ?_
    exact rr_zret dX9_ruleOne_117 rfl rfl h
  · have h := h.2 hc
    refine rr_aload_n dX9_ruleOne_77 rfl 0 rfl rfl ?_
    refine rr_getR dX9_ruleOne_78 fX9_60 (by decide) rfl rfl rfl ?_
    refine rr_iload dX9_ruleOne_81 3 rfl rfl ?_
    refine rr_aload_n dX9_ruleOne_83 rfl 0 rfl rfl ?_
    refine rr_iload_n dX9_ruleOne_84 rfl 1 rfl rfl ?_
    refine rr_iload dX9_ruleOne_85 3 rfl rfl ?_
    refine rr_V [.int v1, .int v4] [.int v4, .ref 13] dX9_ruleOne_87 kX9_isUnsure mX9_195 ⟨by decide, by decide⟩ (by decide) rfl rfl rfl (Nat.le_of_ble_eq_true rfl) rfl (h.mono fun vr I2 J2 h => ?_)
    obtain ⟨r1, rfl, h⟩ := h
    show rr pgM zX9_ruleOne 90 _ [.int r1, .int v4, .ref 13] _ _ _
    refine rr_if_eq (tgt := 97) dX9_ruleOne_90 (by decide) rfl ⟨fun hc => ?_, fun hc => ?_⟩
    · have h := h.1 hc
      refine rr_aload_n dX9_ruleOne_97 rfl 0 rfl rfl ?_
      refine rr_getR dX9_ruleOne_98 fX9_60 (by decide) rfl rfl rfl ?_
      refine rr_iload dX9_ruleOne_101 3 rfl rfl ?_
      refine rr_iald dX9_ruleOne_103 (by decide) rfl rfl ⟨h.1, ?_⟩
      have h := h.2
      refine rr_iast dX9_ruleOne_104 (by decide) rfl rfl ⟨h.1, ?_⟩
      refine rr_letI (fun I3 hI3 => ?_)
      have h := h.2 I3 hI3
      refine rr_iinc (k := 3) (v := (v4 + (1 : Int32))) (lv' := [(4, .int (v4 + (1 : Int32))), (0, .ref 0), (1, .int v1), (3, .int v3)]) dX9_ruleOne_105 rfl rfl (by decide) rfl rfl ?_
      refine rr_goto (tgt := 68) dX9_ruleOne_108 (by decide) ?_
      exact rr.sub [1, 2, 3, 0] rfl h
    · have h := h.2 hc
      refine rr_iload_n dX9_ruleOne_93 rfl 2 rfl rfl ?_
      refine rr_goto (tgt := 104) dX9_ruleOne_94 (by decide) ?_
      refine rr_iast dX9_ruleOne_104 (by decide) rfl rfl ⟨h.1, ?_⟩
      refine rr_letI (fun I4 hI4 => ?_)
      have h := h.2 I4 hI4
      refine rr_iinc (k := 3) (v := (v4 + (1 : Int32))) (lv' := [(4, .int (v4 + (1 : Int32))), (0, .ref 0), (1, .int v1), (3, .int v3)]) dX9_ruleOne_105 rfl rfl (by decide) rfl rfl ?_
      refine rr_goto (tgt := 68) dX9_ruleOne_108 (by decide) ?_
      exact rr.sub [1, 2, 3, 0] rfl h

def l_X9_isWithin_5 (I : tg_I) (J : tg_J) (P : Option Value → tg_I → tg_J → Prop) (v1 : Int32) (v2 : Int32) (v3 : Int32) (v4 : Int32) : Prop := rr pgM zX9_isWithin 5 [(0, .ref 0), (1, .int v1), (2, .int v2), (3, .int v3), (4, .int v4)] [] I J P
theorem e_X9_isWithin {I : tg_I} {J : tg_J} {P : Option Value → tg_I → tg_J → Prop} (v1 : Int32) (v2 : Int32) (h :
  l_X9_isWithin_5 I J P v1 v2 ((1 : Int32)) ((0 : Int32))) : call pgM zX9_isWithin [.ref 0, .int v1, .int v2] I J P := by
  refine call_of (by decide +kernel) (fun _ => Nat.le_of_ble_eq_true rfl) ?_
  show rr pgM zX9_isWithin 0 [(0, .ref 0), (1, .int v1), (2, .int v2)] [] I J P
  refine rr_iconst (v := (1 : Int32)) dX9_isWithin_0 (by decide) rfl ?_
  refine rr_istore_n (lv' := [(3, .int (1 : Int32)), (0, .ref 0), (1, .int v1), (2, .int v2)]) dX9_isWithin_1 rfl (by decide) rfl rfl ?_
  refine rr_iconst (v := (0 : Int32)) dX9_isWithin_2 (by decide) rfl ?_
  refine rr_istore (lv' := [(4, .int (0 : Int32)), (3, .int (1 : Int32)), (0, .ref 0), (1, .int v1), (2, .int v2)]) dX9_isWithin_3 (by decide) rfl rfl ?_
  exact rr.sub [2, 3, 4, 1, 0] rfl h
theorem s_X9_isWithin_5 {I : tg_I} {J : tg_J} {P : Option Value → tg_I → tg_J → Prop} (v1 : Int32) (v2 : Int32) (v3 : Int32) (v4 : Int32) (h :
  ((I 0 3) ≤ v4 →
   narrow .boolean (.int v3) = .int v3 ∧ P (some (.int v3)) I J) ∧
  (¬ (I 0 3) ≤ v4 →
   (v3 = 0 →
     l_X9_isWithin_5 I J P v1 v2 ((0 : Int32)) ((v4 + (1 : Int32)))) ∧
    (¬ v3 = 0 →
     call pgM zX9_isUnsure [.ref 0, .int v1, .int v4] I J (fun vr I1 J1 => ∃ r1 : Int32, vr = some (.int r1) ∧
      ((r1 = 0 →
       l_X9_isWithin_5 I1 J1 P v1 v2 ((1 : Int32)) ((v4 + (1 : Int32)))) ∧
      (¬ r1 = 0 →
       call pgM zX9_isUnsure [.ref 0, .int v2, .int v4] I1 J1 (fun vr I2 J2 => ∃ r2 : Int32, vr = some (.int r2) ∧
        ((r2 = 0 →
         l_X9_isWithin_5 I2 J2 P v1 v2 ((0 : Int32)) ((v4 + (1 : Int32)))) ∧
        (¬ r2 = 0 →
         l_X9_isWithin_5 I2 J2 P v1 v2 ((1 : Int32)) ((v4 + (1 : Int32)))))))))))) : l_X9_isWithin_5 I J P v1 v2 v3 v4 := by
  show rr pgM zX9_isWithin 5 [(0, .ref 0), (1, .int v1), (2, .int v2), (3, .int v3), (4, .int v4)] [] I J P
  refine rr_iload dX9_isWithin_5 4 rfl rfl ?_
  refine rr_aload_n dX9_isWithin_7 rfl 0 rfl rfl ?_
  refine rr_getI dX9_isWithin_8 fX9_16 (by decide) rfl rfl rfl ?_
  refine rr_icmp_ge (tgt := 50) dX9_isWithin_11 (by decide) rfl ⟨fun hc => ?_, fun hc => ?_⟩
  · have h := h.1 hc
    refine rr_iload_n dX9_isWithin_50 rfl 3 rfl rfl ?_
    exact rr_zret dX9_isWithin_51 rfl h.1 h.2
  · have h := h.2 hc
    refine rr_iload_n dX9_isWithin_14 rfl 3 rfl rfl ?_
    refine rr_if_eq (tgt := 42) dX9_isWithin_15 (by decide) rfl ⟨fun hc => ?_, fun hc => ?_⟩
    · have h := h.1 hc
      refine rr_iconst (v := (0 : Int32)) dX9_isWithin_42 (by decide) rfl ?_
      refine rr_istore_n (lv' := [(3, .int (0 : Int32)), (0, .ref 0), (1, .int v1), (2, .int v2), (4, .int v4)]) dX9_isWithin_43 rfl (by decide) rfl rfl ?_
      refine rr_iinc (k := 4) (v := (v4 + (1 : Int32))) (lv' := [(4, .int (v4 + (1 : Int32))), (3, .int (0 : Int32)), (0, .ref 0), (1, .int v1), (2, .int v2)]) dX9_isWithin_44 rfl rfl (by decide) rfl rfl ?_
      refine rr_goto (tgt := 5) dX9_isWithin_47 (by decide) ?_
      exact rr.sub [2, 3, 4, 1, 0] rfl h
    · have h := h.2 hc
      refine rr_aload_n dX9_isWithin_18 rfl 0 rfl rfl ?_
      refine rr_iload_n dX9_isWithin_19 rfl 1 rfl rfl ?_
      refine rr_iload dX9_isWithin_20 4 rfl rfl ?_
      refine rr_V [.int v1, .int v4] [] dX9_isWithin_22 kX9_isUnsure mX9_195 ⟨by decide, by decide⟩ (by decide) rfl rfl rfl (Nat.le_of_ble_eq_true rfl) rfl (h.mono fun vr I1 J1 h => ?_)
      obtain ⟨r1, rfl, h⟩ := h
      show rr pgM zX9_isWithin 25 _ [.int r1] _ _ _
      refine rr_if_eq (tgt := 38) dX9_isWithin_25 (by decide) rfl ⟨fun hc => ?_, fun hc => ?_⟩
      · have h := h.1 hc
        refine rr_iconst (v := (1 : Int32)) dX9_isWithin_38 (by decide) rfl ?_
        refine rr_goto (tgt := 43) dX9_isWithin_39 (by decide) ?_
        refine rr_istore_n (lv' := [(3, .int (1 : Int32)), (0, .ref 0), (1, .int v1), (2, .int v2), (4, .int v4)]) dX9_isWithin_43 rfl (by decide) rfl rfl ?_
        refine rr_iinc (k := 4) (v := (v4 + (1 : Int32))) (lv' := [(4, .int (v4 + (1 : Int32))), (3, .int (1 : Int32)), (0, .ref 0), (1, .int v1), (2, .int v2)]) dX9_isWithin_44 rfl rfl (by decide) rfl rfl ?_
        refine rr_goto (tgt := 5) dX9_isWithin_47 (by decide) ?_
        exact rr.sub [2, 3, 4, 1, 0] rfl h
      · have h := h.2 hc
        refine rr_aload_n dX9_isWithin_28 rfl 0 rfl rfl ?_
        refine rr_iload_n dX9_isWithin_29 rfl 2 rfl rfl ?_
        refine rr_iload dX9_isWithin_30 4 rfl rfl ?_
        refine rr_V [.int v2, .int v4] [] dX9_isWithin_32 kX9_isUnsure mX9_195 ⟨by decide, by decide⟩ (by decide) rfl rfl rfl (Nat.le_of_ble_eq_true rfl) rfl (h.mono fun vr I2 J2 h => ?_)
        obtain ⟨r2, rfl, h⟩ := h
        show rr pgM zX9_isWithin 35 _ [.int r2] _ _ _
        refine rr_if_eq (tgt := 42) dX9_isWithin_35 (by decide) rfl ⟨fun hc => ?_, fun hc => ?_⟩
        · have h := h.1 hc
          refine rr_iconst (v := (0 : Int32)) dX9_isWithin_42 (by decide) rfl ?_
          refine rr_istore_n (lv' := [(3, .int (0 : Int32)), (0, .ref 0), (1, .int v1), (2, .int v2), (4, .int v4)]) dX9_isWithin_43 rfl (by decide) rfl rfl ?_
          refine rr_iinc (k := 4) (v := (v4 + (1 : Int32))) (lv' := [(4, .int (v4 + (1 : Int32))), (3, .int (0 : Int32)), (0, .ref 0), (1, .int v1), (2, .int v2)]) dX9_isWithin_44 rfl rfl (by decide) rfl rfl ?_
          refine rr_goto (tgt := 5) dX9_isWithin_47 (by decide) ?_
          exact rr.sub [2, 3, 4, 1, 0] rfl h
        · have h := h.2 hc
          refine rr_iconst (v := (1 : Int32)) dX9_isWithin_38 (by decide) rfl ?_
          refine rr_goto (tgt := 43) dX9_isWithin_39 (by decide) ?_
          refine rr_istore_n (lv' := [(3, .int (1 : Int32)), (0, .ref 0), (1, .int v1), (2, .int v2), (4, .int v4)]) dX9_isWithin_43 rfl (by decide) rfl rfl ?_
          refine rr_iinc (k := 4) (v := (v4 + (1 : Int32))) (lv' := [(4, .int (v4 + (1 : Int32))), (3, .int (1 : Int32)), (0, .ref 0), (1, .int v1), (2, .int v2)]) dX9_isWithin_44 rfl rfl (by decide) rfl rfl ?_
          refine rr_goto (tgt := 5) dX9_isWithin_47 (by decide) ?_
          exact rr.sub [2, 3, 4, 1, 0] rfl h

def l_X9_ruleTwo_2 (I : tg_I) (J : tg_J) (P : Option Value → tg_I → tg_J → Prop) (v1 : Int32) : Prop := rr pgM zX9_ruleTwo 2 [(0, .ref 0), (1, .int v1)] [] I J P
def l_X9_ruleTwo_32 (I : tg_I) (J : tg_J) (P : Option Value → tg_I → tg_J → Prop) (v1 : Int32) (v2 : Int32) (v3 : Int32) : Prop := rr pgM zX9_ruleTwo 32 [(0, .ref 0), (1, .int v1), (2, .int v2), (3, .int v3)] [] I J P
def l_X9_ruleTwo_109 (I : tg_I) (J : tg_J) (P : Option Value → tg_I → tg_J → Prop) (v1 : Int32) (v3 : Int32) (v5 : Int32) (v6 : Int32) : Prop := rr pgM zX9_ruleTwo 109 [(0, .ref 0), (1, .int v1), (3, .int v3), (5, .int v5), (6, .int v6)] [] I J P
theorem e_X9_ruleTwo {I : tg_I} {J : tg_J} {P : Option Value → tg_I → tg_J → Prop} (h :
  l_X9_ruleTwo_2 I J P ((0 : Int32))) : call pgM zX9_ruleTwo [.ref 0] I J P := by
  refine call_of (by decide +kernel) (fun _ => Nat.le_of_ble_eq_true rfl) ?_
  show rr pgM zX9_ruleTwo 0 [(0, .ref 0)] [] I J P
  refine rr_iconst (v := (0 : Int32)) dX9_ruleTwo_0 (by decide) rfl ?_
  refine rr_istore_n (lv' := [(1, .int (0 : Int32)), (0, .ref 0)]) dX9_ruleTwo_1 rfl (by decide) rfl rfl ?_
  exact rr.sub [1, 0] rfl h
theorem s_X9_ruleTwo_2 {I : tg_I} {J : tg_J} {P : Option Value → tg_I → tg_J → Prop} (v1 : Int32) (h :
  ((I 0 3) ≤ v1 →
   P (some (.int (0 : Int32))) I J) ∧
  (¬ (I 0 3) ≤ v1 →
   vp_in v1 100 ∧
    ((¬ (I 3 (Int32.toNatClampNeg v1)) = (1 : Int32) →
     l_X9_ruleTwo_32 I J P v1 ((0 : Int32)) ((0 : Int32))) ∧
    ((I 3 (Int32.toNatClampNeg v1)) = (1 : Int32) →
     call pgM zX9_unsure [.ref 0, .int v1] I J (fun vr I1 J1 => ∃ r1 : Int32, vr = some (.int r1) ∧
      (l_X9_ruleTwo_32 I1 J1 P v1 r1 ((0 : Int32)))))))) : l_X9_ruleTwo_2 I J P v1 := by
  show rr pgM zX9_ruleTwo 2 [(0, .ref 0), (1, .int v1)] [] I J P
  refine rr_iload_n dX9_ruleTwo_2 rfl 1 rfl rfl ?_
  refine rr_aload_n dX9_ruleTwo_3 rfl 0 rfl rfl ?_
  refine rr_getI dX9_ruleTwo_4 fX9_16 (by decide) rfl rfl rfl ?_
  refine rr_icmp_ge (tgt := 195) dX9_ruleTwo_7 (by decide) rfl ⟨fun hc => ?_, fun hc => ?_⟩
  · have h := h.1 hc
    refine rr_iconst (v := (0 : Int32)) dX9_ruleTwo_195 (by decide) rfl ?_
    exact rr_zret dX9_ruleTwo_196 rfl rfl h
  · have h := h.2 hc
    refine rr_aload_n dX9_ruleTwo_10 rfl 0 rfl rfl ?_
    refine rr_getR dX9_ruleTwo_11 fX9_26 (by decide) rfl rfl rfl ?_
    refine rr_iload_n dX9_ruleTwo_14 rfl 1 rfl rfl ?_
    refine rr_iald dX9_ruleTwo_15 (by decide) rfl rfl ⟨h.1, ?_⟩
    have h := h.2
    refine rr_iconst (v := (1 : Int32)) dX9_ruleTwo_16 (by decide) rfl ?_
    refine rr_icmp_ne (tgt := 28) dX9_ruleTwo_17 (by decide) rfl ⟨fun hc => ?_, fun hc => ?_⟩
    · have h := h.1 hc
      refine rr_iconst (v := (0 : Int32)) dX9_ruleTwo_28 (by decide) rfl ?_
      refine rr_istore_n (lv' := [(2, .int (0 : Int32)), (0, .ref 0), (1, .int v1)]) dX9_ruleTwo_29 rfl (by decide) rfl rfl ?_
      refine rr_iconst (v := (0 : Int32)) dX9_ruleTwo_30 (by decide) rfl ?_
      refine rr_istore_n (lv' := [(3, .int (0 : Int32)), (2, .int (0 : Int32)), (0, .ref 0), (1, .int v1)]) dX9_ruleTwo_31 rfl (by decide) rfl rfl ?_
      exact rr.sub [2, 3, 1, 0] rfl h
    · have h := h.2 hc
      refine rr_aload_n dX9_ruleTwo_20 rfl 0 rfl rfl ?_
      refine rr_iload_n dX9_ruleTwo_21 rfl 1 rfl rfl ?_
      refine rr_V [.int v1] [] dX9_ruleTwo_22 kX9_unsure mX9_198 ⟨by decide, by decide⟩ (by decide) rfl rfl rfl (Nat.le_of_ble_eq_true rfl) rfl (h.mono fun vr I1 J1 h => ?_)
      obtain ⟨r1, rfl, h⟩ := h
      show rr pgM zX9_ruleTwo 25 _ [.int r1] _ _ _
      refine rr_goto (tgt := 29) dX9_ruleTwo_25 (by decide) ?_
      refine rr_istore_n (lv' := [(2, .int r1), (0, .ref 0), (1, .int v1)]) dX9_ruleTwo_29 rfl (by decide) rfl rfl ?_
      refine rr_iconst (v := (0 : Int32)) dX9_ruleTwo_30 (by decide) rfl ?_
      refine rr_istore_n (lv' := [(3, .int (0 : Int32)), (2, .int r1), (0, .ref 0), (1, .int v1)]) dX9_ruleTwo_31 rfl (by decide) rfl rfl ?_
      exact rr.sub [2, 3, 1, 0] rfl h
theorem s_X9_ruleTwo_32 {I : tg_I} {J : tg_J} {P : Option Value → tg_I → tg_J → Prop} (v1 : Int32) (v2 : Int32) (v3 : Int32) (h :
  ((I 0 3) ≤ v3 →
   l_X9_ruleTwo_2 I J P ((v1 + (1 : Int32)))) ∧
  (¬ (I 0 3) ≤ v3 →
   (v2 ≤ 0 →
     l_X9_ruleTwo_2 I J P ((v1 + (1 : Int32)))) ∧
    (¬ v2 ≤ 0 →
     vp_in v3 100 ∧
      ((¬ (I 3 (Int32.toNatClampNeg v3)) = (1 : Int32) →
       l_X9_ruleTwo_32 I J P v1 v2 ((v3 + (1 : Int32)))) ∧
      ((I 3 (Int32.toNatClampNeg v3)) = (1 : Int32) →
       call pgM zX9_unsure [.ref 0, .int v3] I J (fun vr I1 J1 => ∃ r1 : Int32, vr = some (.int r1) ∧
        (((r1 - v2) ≤ 0 →
         l_X9_ruleTwo_32 I1 J1 P v1 v2 ((v3 + (1 : Int32)))) ∧
        (¬ (r1 - v2) ≤ 0 →
         call pgM zX9_isWithin [.ref 0, .int v1, .int v3] I1 J1 (fun vr I2 J2 => ∃ r2 : Int32, vr = some (.int r2) ∧
          ((r2 = 0 →
           l_X9_ruleTwo_32 I2 J2 P v1 v2 ((v3 + (1 : Int32)))) ∧
          (¬ r2 = 0 →
           call pgM zX9_due [.ref 0, .int v3] I2 J2 (fun vr I3 J3 => ∃ r3 : Int32, vr = some (.int r3) ∧
            (call pgM zX9_due [.ref 0, .int v1] I3 J3 (fun vr I4 J4 => ∃ r4 : Int32, vr = some (.int r4) ∧
            (((r3 - r4) = 0 →
             l_X9_ruleTwo_109 I4 J4 P v1 v3 ((r3 - r4)) ((0 : Int32))) ∧
            (¬ (r3 - r4) = 0 →
             (¬ (r3 - r4) = (r1 - v2) →
               l_X9_ruleTwo_32 I4 J4 P v1 v2 ((v3 + (1 : Int32)))) ∧
              ((r3 - r4) = (r1 - v2) →
               l_X9_ruleTwo_109 I4 J4 P v1 v3 ((r3 - r4)) ((0 : Int32))))))))))))))))))) : l_X9_ruleTwo_32 I J P v1 v2 v3 := by
  show rr pgM zX9_ruleTwo 32 [(0, .ref 0), (1, .int v1), (2, .int v2), (3, .int v3)] [] I J P
  refine rr_iload_n dX9_ruleTwo_32 rfl 3 rfl rfl ?_
  refine rr_aload_n dX9_ruleTwo_33 rfl 0 rfl rfl ?_
  refine rr_getI dX9_ruleTwo_34 fX9_16 (by decide) rfl rfl rfl ?_
  refine rr_icmp_ge (tgt := 189) dX9_ruleTwo_37 (by decide) rfl ⟨fun hc => ?_, fun hc => ?_⟩
  · have h := h.1 hc
    refine rr_iinc (k := 1) (v := (v1 + (1 : Int32))) (lv' := [(1, .int (v1 + (1 : Int32))), (0, .ref 0), (2, .int v2), (3, .int v3)]) dX9_ruleTwo_189 rfl rfl (by decide) rfl rfl ?_
    refine rr_goto (tgt := 2) dX9_ruleTwo_192 (by decide) ?_
    exact rr.sub [1, 0] rfl h
  · have h := h.2 hc
    refine rr_iload_n dX9_ruleTwo_40 rfl 2 rfl rfl ?_
    refine rr_if_le (tgt := 189) dX9_ruleTwo_41 (by decide) rfl ⟨fun hc => ?_, fun hc => ?_⟩
    · have h := h.1 hc
      refine rr_iinc (k := 1) (v := (v1 + (1 : Int32))) (lv' := [(1, .int (v1 + (1 : Int32))), (0, .ref 0), (2, .int v2), (3, .int v3)]) dX9_ruleTwo_189 rfl rfl (by decide) rfl rfl ?_
      refine rr_goto (tgt := 2) dX9_ruleTwo_192 (by decide) ?_
      exact rr.sub [1, 0] rfl h
    · have h := h.2 hc
      refine rr_aload_n dX9_ruleTwo_44 rfl 0 rfl rfl ?_
      refine rr_getR dX9_ruleTwo_45 fX9_26 (by decide) rfl rfl rfl ?_
      refine rr_iload_n dX9_ruleTwo_48 rfl 3 rfl rfl ?_
      refine rr_iald dX9_ruleTwo_49 (by decide) rfl rfl ⟨h.1, ?_⟩
      have h := h.2
      refine rr_iconst (v := (1 : Int32)) dX9_ruleTwo_50 (by decide) rfl ?_
      refine rr_icmp_ne (tgt := 64) dX9_ruleTwo_51 (by decide) rfl ⟨fun hc => ?_, fun hc => ?_⟩
      · have h := h.1 hc
        refine rr_iconst (v := (0 : Int32)) dX9_ruleTwo_64 (by decide) rfl ?_
        refine rr_istore (lv' := [(4, .int (0 : Int32)), (0, .ref 0), (1, .int v1), (2, .int v2), (3, .int v3)]) dX9_ruleTwo_65 (by decide) rfl rfl ?_
        refine rr_iload dX9_ruleTwo_67 0 rfl rfl ?_
        refine rr_if_le (tgt := 183) dX9_ruleTwo_69 (by decide) rfl ⟨fun _ => ?_, fun hc => absurd hc (by decide)⟩
        refine rr_iinc (k := 4) (v := (v3 + (1 : Int32))) (lv' := [(3, .int (v3 + (1 : Int32))), (4, .int (0 : Int32)), (0, .ref 0), (1, .int v1), (2, .int v2)]) dX9_ruleTwo_183 rfl rfl (by decide) rfl rfl ?_
        refine rr_goto (tgt := 32) dX9_ruleTwo_186 (by decide) ?_
        exact rr.sub [2, 3, 4, 0] rfl h
      · have h := h.2 hc
        refine rr_aload_n dX9_ruleTwo_54 rfl 0 rfl rfl ?_
        refine rr_iload_n dX9_ruleTwo_55 rfl 3 rfl rfl ?_
        refine rr_V [.int v3] [] dX9_ruleTwo_56 kX9_unsure mX9_198 ⟨by decide, by decide⟩ (by decide) rfl rfl rfl (Nat.le_of_ble_eq_true rfl) rfl (h.mono fun vr I1 J1 h => ?_)
        obtain ⟨r1, rfl, h⟩ := h
        show rr pgM zX9_ruleTwo 59 _ [.int r1] _ _ _
        refine rr_iload_n dX9_ruleTwo_59 rfl 2 rfl rfl ?_
        refine rr_isub dX9_ruleTwo_60 rfl ?_
        refine rr_goto (tgt := 65) dX9_ruleTwo_61 (by decide) ?_
        refine rr_istore (lv' := [(4, .int (r1 - v2)), (0, .ref 0), (1, .int v1), (2, .int v2), (3, .int v3)]) dX9_ruleTwo_65 (by decide) rfl rfl ?_
        refine rr_iload dX9_ruleTwo_67 0 rfl rfl ?_
        refine rr_if_le (tgt := 183) dX9_ruleTwo_69 (by decide) rfl ⟨fun hc => ?_, fun hc => ?_⟩
        · have h := h.1 hc
          refine rr_iinc (k := 4) (v := (v3 + (1 : Int32))) (lv' := [(3, .int (v3 + (1 : Int32))), (4, .int (r1 - v2)), (0, .ref 0), (1, .int v1), (2, .int v2)]) dX9_ruleTwo_183 rfl rfl (by decide) rfl rfl ?_
          refine rr_goto (tgt := 32) dX9_ruleTwo_186 (by decide) ?_
          exact rr.sub [2, 3, 4, 0] rfl h
        · have h := h.2 hc
          refine rr_aload_n dX9_ruleTwo_72 rfl 1 rfl rfl ?_
          refine rr_iload_n dX9_ruleTwo_73 rfl 2 rfl rfl ?_
          refine rr_iload_n dX9_ruleTwo_74 rfl 4 rfl rfl ?_
          refine rr_V [.int v1, .int v3] [] dX9_ruleTwo_75 kX9_isWithin mX9_207 ⟨by decide, by decide⟩ (by decide) rfl rfl rfl (Nat.le_of_ble_eq_true rfl) rfl (h.mono fun vr I2 J2 h => ?_)
          obtain ⟨r2, rfl, h⟩ := h
          show rr pgM zX9_ruleTwo 78 _ [.int r2] _ _ _
          refine rr_if_eq (tgt := 183) dX9_ruleTwo_78 (by decide) rfl ⟨fun hc => ?_, fun hc => ?_⟩
          · have h := h.1 hc
            refine rr_iinc (k := 4) (v := (v3 + (1 : Int32))) (lv' := [(3, .int (v3 + (1 : Int32))), (4, .int (r1 - v2)), (0, .ref 0), (1, .int v1), (2, .int v2)]) dX9_ruleTwo_183 rfl rfl (by decide) rfl rfl ?_
            refine rr_goto (tgt := 32) dX9_ruleTwo_186 (by decide) ?_
            exact rr.sub [2, 3, 4, 0] rfl h
          · have h := h.2 hc
            refine rr_aload_n dX9_ruleTwo_81 rfl 1 rfl rfl ?_
            refine rr_iload_n dX9_ruleTwo_82 rfl 4 rfl rfl ?_
            refine rr_V [.int v3] [] dX9_ruleTwo_83 kX9_due mX9_201 ⟨by decide, by decide⟩ (by decide) rfl rfl rfl (Nat.le_of_ble_eq_true rfl) rfl (h.mono fun vr I3 J3 h => ?_)
            obtain ⟨r3, rfl, h⟩ := h
            show rr pgM zX9_ruleTwo 86 _ [.int r3] _ _ _
            refine rr_aload_n dX9_ruleTwo_86 rfl 1 rfl rfl ?_
            refine rr_iload_n dX9_ruleTwo_87 rfl 2 rfl rfl ?_
            refine rr_V [.int v1] [.int r3] dX9_ruleTwo_88 kX9_due mX9_201 ⟨by decide, by decide⟩ (by decide) rfl rfl rfl (Nat.le_of_ble_eq_true rfl) rfl (h.mono fun vr I4 J4 h => ?_)
            obtain ⟨r4, rfl, h⟩ := h
            show rr pgM zX9_ruleTwo 91 _ [.int r4, .int r3] _ _ _
            refine rr_isub dX9_ruleTwo_91 rfl ?_
            refine rr_istore (lv' := [(5, .int (r3 - r4)), (4, .int (r1 - v2)), (0, .ref 0), (1, .int v1), (2, .int v2), (3, .int v3)]) dX9_ruleTwo_92 (by decide) rfl rfl ?_
            refine rr_iload dX9_ruleTwo_94 0 rfl rfl ?_
            refine rr_if_eq (tgt := 106) dX9_ruleTwo_96 (by decide) rfl ⟨fun hc => ?_, fun hc => ?_⟩
            · have h := h.1 hc
              refine rr_iconst (v := (0 : Int32)) dX9_ruleTwo_106 (by decide) rfl ?_
              refine rr_istore (lv' := [(6, .int (0 : Int32)), (5, .int (r3 - r4)), (4, .int (r1 - v2)), (0, .ref 0), (1, .int v1), (2, .int v2), (3, .int v3)]) dX9_ruleTwo_107 (by decide) rfl rfl ?_
              exact rr.sub [3, 4, 6, 1, 0] rfl h
            · have h := h.2 hc
              refine rr_iload dX9_ruleTwo_99 0 rfl rfl ?_
              refine rr_iload dX9_ruleTwo_101 1 rfl rfl ?_
              refine rr_icmp_ne (tgt := 183) dX9_ruleTwo_103 (by decide) rfl ⟨fun hc => ?_, fun hc => ?_⟩
              · have h := h.1 hc
                refine rr_iinc (k := 5) (v := (v3 + (1 : Int32))) (lv' := [(3, .int (v3 + (1 : Int32))), (5, .int (r3 - r4)), (4, .int (r1 - v2)), (0, .ref 0), (1, .int v1), (2, .int v2)]) dX9_ruleTwo_183 rfl rfl (by decide) rfl rfl ?_
                refine rr_goto (tgt := 32) dX9_ruleTwo_186 (by decide) ?_
                exact rr.sub [3, 4, 5, 0] rfl h
              · have h := h.2 hc
                refine rr_iconst (v := (0 : Int32)) dX9_ruleTwo_106 (by decide) rfl ?_
                refine rr_istore (lv' := [(6, .int (0 : Int32)), (5, .int (r3 - r4)), (4, .int (r1 - v2)), (0, .ref 0), (1, .int v1), (2, .int v2), (3, .int v3)]) dX9_ruleTwo_107 (by decide) rfl rfl ?_
                exact rr.sub [3, 4, 6, 1, 0] rfl h
theorem s_X9_ruleTwo_109 {I : tg_I} {J : tg_J} {P : Option Value → tg_I → tg_J → Prop} (v1 : Int32) (v3 : Int32) (v5 : Int32) (v6 : Int32) (h :
  ((I 0 3) ≤ v6 →
   call pgM zX9_becauseOf [.ref 0, .int v1] I J (fun vr I1 J1 => vr = none ∧
    (call pgM zX9_becauseOf [.ref 0, .int v3] I1 J1 (fun vr I2 J2 => vr = none ∧
    (P (some (.int (1 : Int32))) I2 J2))))) ∧
  (¬ (I 0 3) ≤ v6 →
   call pgM zX9_isUnsure [.ref 0, .int v3, .int v6] I J (fun vr I3 J3 => ∃ r1 : Int32, vr = some (.int r1) ∧
    ((r1 = 0 →
     vp_in v6 100 ∧
      (vp_in v6 100 ∧ ∀ I4, I4 = u2 I3 13 (Int32.toNatClampNeg v6) (I3 13 (Int32.toNatClampNeg v6)) →
      l_X9_ruleTwo_109 I4 J3 P v1 v3 v5 ((v6 + (1 : Int32))))) ∧
    (¬ r1 = 0 →
     call pgM zX9_isUnsure [.ref 0, .int v1, .int v6] I3 J3 (fun vr I5 J4 => ∃ r2 : Int32, vr = some (.int r2) ∧
      ((¬ r2 = 0 →
       vp_in v6 100 ∧
        (vp_in v6 100 ∧ ∀ I6, I6 = u2 I5 13 (Int32.toNatClampNeg v6) (I5 13 (Int32.toNatClampNeg v6)) →
        l_X9_ruleTwo_109 I6 J4 P v1 v3 v5 ((v6 + (1 : Int32))))) ∧
      (r2 = 0 →
       (¬ v5 = 0 →
         vp_in v6 100 ∧ ∀ I7, I7 = u2 I5 13 (Int32.toNatClampNeg v6) (1 : Int32) →
          l_X9_ruleTwo_109 I7 J4 P v1 v3 v5 ((v6 + (1 : Int32)))) ∧
        (v5 = 0 →
         vp_in v6 100 ∧ ∀ I8, I8 = u2 I5 13 (Int32.toNatClampNeg v6) (0 : Int32) →
          l_X9_ruleTwo_109 I8 J4 P v1 v3 v5 ((v6 + (1 : Int32)))))))))))) : l_X9_ruleTwo_109 I J P v1 v3 v5 v6 := by
  show rr pgM zX9_ruleTwo 109 [(0, .ref 0), (1, .int v1), (3, .int v3), (5, .int v5), (6, .int v6)] [] I J P
  refine rr_iload dX9_ruleTwo_109 4 rfl rfl ?_
  refine rr_aload_n dX9_ruleTwo_111 rfl 0 rfl rfl ?_
  refine rr_getI dX9_ruleTwo_112 fX9_16 (by decide) rfl rfl rfl ?_
  refine rr_icmp_ge (tgt := 171) dX9_ruleTwo_115 (by decide) rfl ⟨fun hc => ?_, fun hc => ?_⟩
  · have h := h.1 hc
    refine rr_aload_n dX9_ruleTwo_171 rfl 0 rfl rfl ?_
    refine rr_iload_n dX9_ruleTwo_172 rfl 1 rfl rfl ?_
    refine rr_V [.int v1] [] dX9_ruleTwo_173 kX9_becauseOf mX9_204 ⟨by decide, by decide⟩ (by decide) rfl rfl rfl (Nat.le_of_ble_eq_true rfl) rfl (h.mono fun vr I1 J1 h => ?_)
    obtain ⟨rfl, h⟩ := h
    show rr pgM zX9_ruleTwo 176 _ [] _ _ _
    refine rr_aload_n dX9_ruleTwo_176 rfl 0 rfl rfl ?_
    refine rr_iload_n dX9_ruleTwo_177 rfl 2 rfl rfl ?_
    refine rr_V [.int v3] [] dX9_ruleTwo_178 kX9_becauseOf mX9_204 ⟨by decide, by decide⟩ (by decide) rfl rfl rfl (Nat.le_of_ble_eq_true rfl) rfl (h.mono fun vr I2 J2 h => ?_)
    obtain ⟨rfl, h⟩ := h
    show rr pgM zX9_ruleTwo 181 _ [] _ _ _
    refine rr_iconst (v := (1 : Int32)) dX9_ruleTwo_181 (by decide) rfl ?_
    exact rr_zret dX9_ruleTwo_182 rfl rfl h
  · have h := h.2 hc
    refine rr_aload_n dX9_ruleTwo_118 rfl 0 rfl rfl ?_
    refine rr_getR dX9_ruleTwo_119 fX9_60 (by decide) rfl rfl rfl ?_
    refine rr_iload dX9_ruleTwo_122 4 rfl rfl ?_
    refine rr_aload_n dX9_ruleTwo_124 rfl 0 rfl rfl ?_
    refine rr_iload_n dX9_ruleTwo_125 rfl 2 rfl rfl ?_
    refine rr_iload dX9_ruleTwo_126 4 rfl rfl ?_
    refine rr_V [.int v3, .int v6] [.int v6, .ref 13] dX9_ruleTwo_128 kX9_isUnsure mX9_195 ⟨by decide, by decide⟩ (by decide) rfl rfl rfl (Nat.le_of_ble_eq_true rfl) rfl (h.mono fun vr I3 J3 h => ?_)
    obtain ⟨r1, rfl, h⟩ := h
    show rr pgM zX9_ruleTwo 131 _ [.int r1, .int v6, .ref 13] _ _ _
    refine rr_if_eq (tgt := 157) dX9_ruleTwo_131 (by decide) rfl ⟨fun hc => ?_, fun hc => ?_⟩
    · have h := h.1 hc
      refine rr_aload_n dX9_ruleTwo_157 rfl 0 rfl rfl ?_
      refine rr_getR dX9_ruleTwo_158 fX9_60 (by decide) rfl rfl rfl ?_
      refine rr_iload dX9_ruleTwo_161 4 rfl rfl ?_
      refine rr_iald dX9_ruleTwo_163 (by decide) rfl rfl ⟨h.1, ?_⟩
      have h := h.2
      refine rr_iast dX9_ruleTwo_164 (by decide) rfl rfl ⟨h.1, ?_⟩
      refine rr_letI (fun I4 hI4 => ?_)
      have h := h.2 I4 hI4
      refine rr_iinc (k := 4) (v := (v6 + (1 : Int32))) (lv' := [(6, .int (v6 + (1 : Int32))), (0, .ref 0), (1, .int v1), (3, .int v3), (5, .int v5)]) dX9_ruleTwo_165 rfl rfl (by decide) rfl rfl ?_
      refine rr_goto (tgt := 109) dX9_ruleTwo_168 (by decide) ?_
      exact rr.sub [1, 2, 3, 4, 0] rfl h
    · have h := h.2 hc
      refine rr_aload_n dX9_ruleTwo_134 rfl 0 rfl rfl ?_
      refine rr_iload_n dX9_ruleTwo_135 rfl 1 rfl rfl ?_
      refine rr_iload dX9_ruleTwo_136 4 rfl rfl ?_
      refine rr_V [.int v1, .int v6] [.int v6, .ref 13] dX9_ruleTwo_138 kX9_isUnsure mX9_195 ⟨by decide, by decide⟩ (by decide) rfl rfl rfl (Nat.le_of_ble_eq_true rfl) rfl (h.mono fun vr I5 J4 h => ?_)
      obtain ⟨r2, rfl, h⟩ := h
      show rr pgM zX9_ruleTwo 141 _ [.int r2, .int v6, .ref 13] _ _ _
      refine rr_if_ne (tgt := 157) dX9_ruleTwo_141 (by decide) rfl ⟨fun hc => ?_, fun hc => ?_⟩
      · have h := h.1 hc
        refine rr_aload_n dX9_ruleTwo_157 rfl 0 rfl rfl ?_
        refine rr_getR dX9_ruleTwo_158 fX9_60 (by decide) rfl rfl rfl ?_
        refine rr_iload dX9_ruleTwo_161 4 rfl rfl ?_
        refine rr_iald dX9_ruleTwo_163 (by decide) rfl rfl ⟨h.1, ?_⟩
        have h := h.2
        refine rr_iast dX9_ruleTwo_164 (by decide) rfl rfl ⟨h.1, ?_⟩
        refine rr_letI (fun I6 hI6 => ?_)
        have h := h.2 I6 hI6
        refine rr_iinc (k := 4) (v := (v6 + (1 : Int32))) (lv' := [(6, .int (v6 + (1 : Int32))), (0, .ref 0), (1, .int v1), (3, .int v3), (5, .int v5)]) dX9_ruleTwo_165 rfl rfl (by decide) rfl rfl ?_
        refine rr_goto (tgt := 109) dX9_ruleTwo_168 (by decide) ?_
        exact rr.sub [1, 2, 3, 4, 0] rfl h
      · have h := h.2 hc
        refine rr_iload dX9_ruleTwo_144 3 rfl rfl ?_
        refine rr_if_ne (tgt := 153) dX9_ruleTwo_146 (by decide) rfl ⟨fun hc => ?_, fun hc => ?_⟩
        · have h := h.1 hc
          refine rr_iconst (v := (1 : Int32)) dX9_ruleTwo_153 (by decide) rfl ?_
          refine rr_goto (tgt := 164) dX9_ruleTwo_154 (by decide) ?_
          refine rr_iast dX9_ruleTwo_164 (by decide) rfl rfl ⟨h.1, ?_⟩
          refine rr_letI (fun I7 hI7 => ?_)
          have h := h.2 I7 hI7
          refine rr_iinc (k := 4) (v := (v6 + (1 : Int32))) (lv' := [(6, .int (v6 + (1 : Int32))), (0, .ref 0), (1, .int v1), (3, .int v3), (5, .int v5)]) dX9_ruleTwo_165 rfl rfl (by decide) rfl rfl ?_
          refine rr_goto (tgt := 109) dX9_ruleTwo_168 (by decide) ?_
          exact rr.sub [1, 2, 3, 4, 0] rfl h
        · have h := h.2 hc
          refine rr_iconst (v := (0 : Int32)) dX9_ruleTwo_149 (by decide) rfl ?_
          refine rr_goto (tgt := 164) dX9_ruleTwo_150 (by decide) ?_
          refine rr_iast dX9_ruleTwo_164 (by decide) rfl rfl ⟨h.1, ?_⟩
          refine rr_letI (fun I8 hI8 => ?_)
          have h := h.2 I8 hI8
          refine rr_iinc (k := 4) (v := (v6 + (1 : Int32))) (lv' := [(6, .int (v6 + (1 : Int32))), (0, .ref 0), (1, .int v1), (3, .int v3), (5, .int v5)]) dX9_ruleTwo_165 rfl rfl (by decide) rfl rfl ?_
          refine rr_goto (tgt := 109) dX9_ruleTwo_168 (by decide) ?_
          exact rr.sub [1, 2, 3, 4, 0] rfl h

def l_X9_ruleThree_15 (I : tg_I) (J : tg_J) (P : Option Value → tg_I → tg_J → Prop) (v1 : Int32) : Prop := rr pgM zX9_ruleThree 15 [(0, .ref 0), (1, .int v1)] [] I J P
def l_X9_ruleThree_78 (I : tg_I) (J : tg_J) (P : Option Value → tg_I → tg_J → Prop) (v3 : Int32) : Prop := rr pgM zX9_ruleThree 78 [(0, .ref 0), (3, .int v3)] [] I J P
theorem e_X9_ruleThree {I : tg_I} {J : tg_J} {P : Option Value → tg_I → tg_J → Prop} (h :
  call pgM zX9_findParts [.ref 0] I J (fun vr I1 J1 => ∃ r1 : Int32, vr = some (.int r1) ∧
  ((¬ r1 = 0 →
   call pgM zX9_findWays [.ref 0] I1 J1 (fun vr I2 J2 => vr = none ∧
    (l_X9_ruleThree_15 I2 J2 P ((0 : Int32))))) ∧
  (r1 = 0 →
   P (some (.int (0 : Int32))) I1 J1)))) : call pgM zX9_ruleThree [.ref 0] I J P := by
  refine call_of (by decide +kernel) (fun _ => Nat.le_of_ble_eq_true rfl) ?_
  show rr pgM zX9_ruleThree 0 [(0, .ref 0)] [] I J P
  refine rr_aload_n dX9_ruleThree_0 rfl 0 rfl rfl ?_
  refine rr_V [] [] dX9_ruleThree_1 kX9_findParts mX9_210 ⟨by decide, by decide⟩ (by decide) rfl rfl rfl (Nat.le_of_ble_eq_true rfl) rfl (h.mono fun vr I1 J1 h => ?_)
  obtain ⟨r1, rfl, h⟩ := h
  show rr pgM zX9_ruleThree 4 _ [.int r1] _ _ _
  refine rr_if_ne (tgt := 9) dX9_ruleThree_4 (by decide) rfl ⟨fun hc => ?_, fun hc => ?_⟩
  · have h := h.1 hc
    refine rr_aload_n dX9_ruleThree_9 rfl 0 rfl rfl ?_
    refine rr_V [] [] dX9_ruleThree_10 kX9_findWays mX9_213 ⟨by decide, by decide⟩ (by decide) rfl rfl rfl (Nat.le_of_ble_eq_true rfl) rfl (h.mono fun vr I2 J2 h => ?_)
    obtain ⟨rfl, h⟩ := h
    show rr pgM zX9_ruleThree 13 _ [] _ _ _
    refine rr_iconst (v := (0 : Int32)) dX9_ruleThree_13 (by decide) rfl ?_
    refine rr_istore_n (lv' := [(1, .int (0 : Int32)), (0, .ref 0)]) dX9_ruleThree_14 rfl (by decide) rfl rfl ?_
    exact rr.sub [1, 0] rfl h
  · have h := h.2 hc
    refine rr_iconst (v := (0 : Int32)) dX9_ruleThree_7 (by decide) rfl ?_
    exact rr_zret dX9_ruleThree_8 rfl rfl h
theorem s_X9_ruleThree_15 {I : tg_I} {J : tg_J} {P : Option Value → tg_I → tg_J → Prop} (v1 : Int32) (h :
  ((I 0 3) ≤ v1 →
   P (some (.int (0 : Int32))) I J) ∧
  (¬ (I 0 3) ≤ v1 →
   vp_in v1 100 ∧
    ((¬ (I 3 (Int32.toNatClampNeg v1)) = 0 →
     l_X9_ruleThree_15 I J P ((v1 + (1 : Int32)))) ∧
    ((I 3 (Int32.toNatClampNeg v1)) = 0 →
     vp_in v1 100 ∧
      ((0 ≤ (I 11 (Int32.toNatClampNeg v1)) →
       l_X9_ruleThree_15 I J P ((v1 + (1 : Int32)))) ∧
      (¬ 0 ≤ (I 11 (Int32.toNatClampNeg v1)) →
       call pgM zX9_canBe [.ref 0, .int v1, .int (1 : Int32)] I J (fun vr I1 J1 => ∃ r1 : Int32, vr = some (.int r1) ∧
        ((r1 = 0 →
         (r1 = 0 →
           vp_in v1 100 ∧ ∀ I2, I2 = u2 I1 13 (Int32.toNatClampNeg v1) (0 : Int32) →
            l_X9_ruleThree_78 I2 J1 P ((0 : Int32))) ∧
          (¬ r1 = 0 →
           vp_in v1 100 ∧ ∀ I3, I3 = u2 I1 13 (Int32.toNatClampNeg v1) (1 : Int32) →
            l_X9_ruleThree_78 I3 J1 P ((0 : Int32)))) ∧
        (¬ r1 = 0 →
         call pgM zX9_canBe [.ref 0, .int v1, .int (0 : Int32)] I1 J1 (fun vr I4 J2 => ∃ r2 : Int32, vr = some (.int r2) ∧
          ((¬ r2 = 0 →
           l_X9_ruleThree_15 I4 J2 P ((v1 + (1 : Int32)))) ∧
          (r2 = 0 →
           (r1 = 0 →
             vp_in v1 100 ∧ ∀ I5, I5 = u2 I4 13 (Int32.toNatClampNeg v1) (0 : Int32) →
              l_X9_ruleThree_78 I5 J2 P ((0 : Int32))) ∧
            (¬ r1 = 0 →
             vp_in v1 100 ∧ ∀ I6, I6 = u2 I4 13 (Int32.toNatClampNeg v1) (1 : Int32) →
              l_X9_ruleThree_78 I6 J2 P ((0 : Int32))))))))))))))) : l_X9_ruleThree_15 I J P v1 := by
  show rr pgM zX9_ruleThree 15 [(0, .ref 0), (1, .int v1)] [] I J P
  refine rr_iload_n dX9_ruleThree_15 rfl 1 rfl rfl ?_
  refine rr_aload_n dX9_ruleThree_16 rfl 0 rfl rfl ?_
  refine rr_getI dX9_ruleThree_17 fX9_16 (by decide) rfl rfl rfl ?_
  refine rr_icmp_ge (tgt := 138) dX9_ruleThree_20 (by decide) rfl ⟨fun hc => ?_, fun hc => ?_⟩
  · have h := h.1 hc
    refine rr_iconst (v := (0 : Int32)) dX9_ruleThree_138 (by decide) rfl ?_
    exact rr_zret dX9_ruleThree_139 rfl rfl h
  · have h := h.2 hc
    refine rr_aload_n dX9_ruleThree_23 rfl 0 rfl rfl ?_
    refine rr_getR dX9_ruleThree_24 fX9_26 (by decide) rfl rfl rfl ?_
    refine rr_iload_n dX9_ruleThree_27 rfl 1 rfl rfl ?_
    refine rr_iald dX9_ruleThree_28 (by decide) rfl rfl ⟨h.1, ?_⟩
    have h := h.2
    refine rr_if_ne (tgt := 132) dX9_ruleThree_29 (by decide) rfl ⟨fun hc => ?_, fun hc => ?_⟩
    · have h := h.1 hc
      refine rr_iinc (k := 1) (v := (v1 + (1 : Int32))) (lv' := [(1, .int (v1 + (1 : Int32))), (0, .ref 0)]) dX9_ruleThree_132 rfl rfl (by decide) rfl rfl ?_
      refine rr_goto (tgt := 15) dX9_ruleThree_135 (by decide) ?_
      exact rr.sub [1, 0] rfl h
    · have h := h.2 hc
      refine rr_aload_n dX9_ruleThree_32 rfl 0 rfl rfl ?_
      refine rr_getR dX9_ruleThree_33 fX9_54 (by decide) rfl rfl rfl ?_
      refine rr_iload_n dX9_ruleThree_36 rfl 1 rfl rfl ?_
      refine rr_iald dX9_ruleThree_37 (by decide) rfl rfl ⟨h.1, ?_⟩
      have h := h.2
      refine rr_if_ge (tgt := 132) dX9_ruleThree_38 (by decide) rfl ⟨fun hc => ?_, fun hc => ?_⟩
      · have h := h.1 hc
        refine rr_iinc (k := 1) (v := (v1 + (1 : Int32))) (lv' := [(1, .int (v1 + (1 : Int32))), (0, .ref 0)]) dX9_ruleThree_132 rfl rfl (by decide) rfl rfl ?_
        refine rr_goto (tgt := 15) dX9_ruleThree_135 (by decide) ?_
        exact rr.sub [1, 0] rfl h
      · have h := h.2 hc
        refine rr_aload_n dX9_ruleThree_41 rfl 0 rfl rfl ?_
        refine rr_iload_n dX9_ruleThree_42 rfl 1 rfl rfl ?_
        refine rr_iconst (v := (1 : Int32)) dX9_ruleThree_43 (by decide) rfl ?_
        refine rr_V [.int v1, .int (1 : Int32)] [] dX9_ruleThree_44 kX9_canBe mX9_216 ⟨by decide, by decide⟩ (by decide) rfl rfl rfl (Nat.le_of_ble_eq_true rfl) rfl (h.mono fun vr I1 J1 h => ?_)
        obtain ⟨r1, rfl, h⟩ := h
        show rr pgM zX9_ruleThree 47 _ [.int r1] _ _ _
        refine rr_istore_n (lv' := [(2, .int r1), (0, .ref 0), (1, .int v1)]) dX9_ruleThree_47 rfl (by decide) rfl rfl ?_
        refine rr_iload_n dX9_ruleThree_48 rfl 0 rfl rfl ?_
        refine rr_if_eq (tgt := 61) dX9_ruleThree_49 (by decide) rfl ⟨fun hc => ?_, fun hc => ?_⟩
        · have h := h.1 hc
          refine rr_aload_n dX9_ruleThree_61 rfl 1 rfl rfl ?_
          refine rr_getR dX9_ruleThree_62 fX9_60 (by decide) rfl rfl rfl ?_
          refine rr_iload_n dX9_ruleThree_65 rfl 2 rfl rfl ?_
          refine rr_iload_n dX9_ruleThree_66 rfl 0 rfl rfl ?_
          refine rr_if_eq (tgt := 74) dX9_ruleThree_67 (by decide) rfl ⟨fun hc => ?_, fun hc => ?_⟩
          · have h := h.1 hc
            refine rr_iconst (v := (0 : Int32)) dX9_ruleThree_74 (by decide) rfl ?_
            refine rr_iast dX9_ruleThree_75 (by decide) rfl rfl ⟨h.1, ?_⟩
            refine rr_letI (fun I2 hI2 => ?_)
            have h := h.2 I2 hI2
            refine rr_iconst (v := (0 : Int32)) dX9_ruleThree_76 (by decide) rfl ?_
            refine rr_istore_n (lv' := [(3, .int (0 : Int32)), (2, .int r1), (0, .ref 0), (1, .int v1)]) dX9_ruleThree_77 rfl (by decide) rfl rfl ?_
            exact rr.sub [2, 0] rfl h
          · have h := h.2 hc
            refine rr_iconst (v := (1 : Int32)) dX9_ruleThree_70 (by decide) rfl ?_
            refine rr_goto (tgt := 75) dX9_ruleThree_71 (by decide) ?_
            refine rr_iast dX9_ruleThree_75 (by decide) rfl rfl ⟨h.1, ?_⟩
            refine rr_letI (fun I3 hI3 => ?_)
            have h := h.2 I3 hI3
            refine rr_iconst (v := (0 : Int32)) dX9_ruleThree_76 (by decide) rfl ?_
            refine rr_istore_n (lv' := [(3, .int (0 : Int32)), (2, .int r1), (0, .ref 0), (1, .int v1)]) dX9_ruleThree_77 rfl (by decide) rfl rfl ?_
            exact rr.sub [2, 0] rfl h
        · have h := h.2 hc
          refine rr_aload_n dX9_ruleThree_52 rfl 1 rfl rfl ?_
          refine rr_iload_n dX9_ruleThree_53 rfl 2 rfl rfl ?_
          refine rr_iconst (v := (0 : Int32)) dX9_ruleThree_54 (by decide) rfl ?_
          refine rr_V [.int v1, .int (0 : Int32)] [] dX9_ruleThree_55 kX9_canBe mX9_216 ⟨by decide, by decide⟩ (by decide) rfl rfl rfl (Nat.le_of_ble_eq_true rfl) rfl (h.mono fun vr I4 J2 h => ?_)
          obtain ⟨r2, rfl, h⟩ := h
          show rr pgM zX9_ruleThree 58 _ [.int r2] _ _ _
          refine rr_if_ne (tgt := 132) dX9_ruleThree_58 (by decide) rfl ⟨fun hc => ?_, fun hc => ?_⟩
          · have h := h.1 hc
            refine rr_iinc (k := 2) (v := (v1 + (1 : Int32))) (lv' := [(1, .int (v1 + (1 : Int32))), (2, .int r1), (0, .ref 0)]) dX9_ruleThree_132 rfl rfl (by decide) rfl rfl ?_
            refine rr_goto (tgt := 15) dX9_ruleThree_135 (by decide) ?_
            exact rr.sub [2, 0] rfl h
          · have h := h.2 hc
            refine rr_aload_n dX9_ruleThree_61 rfl 1 rfl rfl ?_
            refine rr_getR dX9_ruleThree_62 fX9_60 (by decide) rfl rfl rfl ?_
            refine rr_iload_n dX9_ruleThree_65 rfl 2 rfl rfl ?_
            refine rr_iload_n dX9_ruleThree_66 rfl 0 rfl rfl ?_
            refine rr_if_eq (tgt := 74) dX9_ruleThree_67 (by decide) rfl ⟨fun hc => ?_, fun hc => ?_⟩
            · have h := h.1 hc
              refine rr_iconst (v := (0 : Int32)) dX9_ruleThree_74 (by decide) rfl ?_
              refine rr_iast dX9_ruleThree_75 (by decide) rfl rfl ⟨h.1, ?_⟩
              refine rr_letI (fun I5 hI5 => ?_)
              have h := h.2 I5 hI5
              refine rr_iconst (v := (0 : Int32)) dX9_ruleThree_76 (by decide) rfl ?_
              refine rr_istore_n (lv' := [(3, .int (0 : Int32)), (2, .int r1), (0, .ref 0), (1, .int v1)]) dX9_ruleThree_77 rfl (by decide) rfl rfl ?_
              exact rr.sub [2, 0] rfl h
            · have h := h.2 hc
              refine rr_iconst (v := (1 : Int32)) dX9_ruleThree_70 (by decide) rfl ?_
              refine rr_goto (tgt := 75) dX9_ruleThree_71 (by decide) ?_
              refine rr_iast dX9_ruleThree_75 (by decide) rfl rfl ⟨h.1, ?_⟩
              refine rr_letI (fun I6 hI6 => ?_)
              have h := h.2 I6 hI6
              refine rr_iconst (v := (0 : Int32)) dX9_ruleThree_76 (by decide) rfl ?_
              refine rr_istore_n (lv' := [(3, .int (0 : Int32)), (2, .int r1), (0, .ref 0), (1, .int v1)]) dX9_ruleThree_77 rfl (by decide) rfl rfl ?_
              exact rr.sub [2, 0] rfl h
theorem s_X9_ruleThree_78 {I : tg_I} {J : tg_J} {P : Option Value → tg_I → tg_J → Prop} (v3 : Int32) (h :
  ((I 0 3) ≤ v3 →
   vp_in (100 : Int32) 101 ∧ ∀ I1, I1 = u2 I 14 (Int32.toNatClampNeg (100 : Int32)) (vp_nar .boolean (1 : Int32)) →
    P (some (.int (1 : Int32))) I1 J) ∧
  (¬ (I 0 3) ≤ v3 →
   vp_in v3 100 ∧
    ((¬ (I 3 (Int32.toNatClampNeg v3)) = (1 : Int32) →
     vp_in v3 101 ∧ ∀ I2, I2 = u2 I 14 (Int32.toNatClampNeg v3) (vp_nar .boolean (0 : Int32)) →
      l_X9_ruleThree_78 I2 J P ((v3 + (1 : Int32)))) ∧
    ((I 3 (Int32.toNatClampNeg v3)) = (1 : Int32) →
     call pgM zX9_nearState [.ref 0, .int v3, .int (0 : Int32)] I J (fun vr I3 J1 => ∃ r1 : Int32, vr = some (.int r1) ∧
      ((r1 ≤ 0 →
       vp_in v3 101 ∧ ∀ I4, I4 = u2 I3 14 (Int32.toNatClampNeg v3) (vp_nar .boolean (0 : Int32)) →
        l_X9_ruleThree_78 I4 J1 P ((v3 + (1 : Int32)))) ∧
      (¬ r1 ≤ 0 →
       vp_in v3 101 ∧ ∀ I5, I5 = u2 I3 14 (Int32.toNatClampNeg v3) (vp_nar .boolean (1 : Int32)) →
        l_X9_ruleThree_78 I5 J1 P ((v3 + (1 : Int32)))))))))) : l_X9_ruleThree_78 I J P v3 := by
  show rr pgM zX9_ruleThree 78 [(0, .ref 0), (3, .int v3)] [] I J P
  refine rr_iload_n dX9_ruleThree_78 rfl 1 rfl rfl ?_
  refine rr_aload_n dX9_ruleThree_79 rfl 0 rfl rfl ?_
  refine rr_getI dX9_ruleThree_80 fX9_16 (by decide) rfl rfl rfl ?_
  refine rr_icmp_ge (tgt := 122) dX9_ruleThree_83 (by decide) rfl ⟨fun hc => ?_, fun hc => ?_⟩
  · have h := h.1 hc
    refine rr_aload_n dX9_ruleThree_122 rfl 0 rfl rfl ?_
    refine rr_getR dX9_ruleThree_123 fX9_63 (by decide) rfl rfl rfl ?_
    refine rr_bipush (v := (100 : Int32)) dX9_ruleThree_126 (by decide) rfl ?_
    refine rr_iconst (v := (1 : Int32)) dX9_ruleThree_128 (by decide) rfl ?_
    refine rr_zast dX9_ruleThree_129 (by decide) rfl rfl ⟨h.1, ?_⟩
    refine rr_letI (fun I1 hI1 => ?_)
    have h := h.2 I1 hI1
    refine rr_iconst (v := (1 : Int32)) dX9_ruleThree_130 (by decide) rfl ?_
    exact rr_zret dX9_ruleThree_131 rfl rfl h
  · have h := h.2 hc
    refine rr_aload_n dX9_ruleThree_86 rfl 0 rfl rfl ?_
    refine rr_getR dX9_ruleThree_87 fX9_63 (by decide) rfl rfl rfl ?_
    refine rr_iload_n dX9_ruleThree_90 rfl 1 rfl rfl ?_
    refine rr_aload_n dX9_ruleThree_91 rfl 0 rfl rfl ?_
    refine rr_getR dX9_ruleThree_92 fX9_26 (by decide) rfl rfl rfl ?_
    refine rr_iload_n dX9_ruleThree_95 rfl 1 rfl rfl ?_
    refine rr_iald dX9_ruleThree_96 (by decide) rfl rfl ⟨h.1, ?_⟩
    have h := h.2
    refine rr_iconst (v := (1 : Int32)) dX9_ruleThree_97 (by decide) rfl ?_
    refine rr_icmp_ne (tgt := 114) dX9_ruleThree_98 (by decide) rfl ⟨fun hc => ?_, fun hc => ?_⟩
    · have h := h.1 hc
      refine rr_iconst (v := (0 : Int32)) dX9_ruleThree_114 (by decide) rfl ?_
      refine rr_zast dX9_ruleThree_115 (by decide) rfl rfl ⟨h.1, ?_⟩
      refine rr_letI (fun I2 hI2 => ?_)
      have h := h.2 I2 hI2
      refine rr_iinc (k := 1) (v := (v3 + (1 : Int32))) (lv' := [(3, .int (v3 + (1 : Int32))), (0, .ref 0)]) dX9_ruleThree_116 rfl rfl (by decide) rfl rfl ?_
      refine rr_goto (tgt := 78) dX9_ruleThree_119 (by decide) ?_
      exact rr.sub [1, 0] rfl h
    · have h := h.2 hc
      refine rr_aload_n dX9_ruleThree_101 rfl 0 rfl rfl ?_
      refine rr_iload_n dX9_ruleThree_102 rfl 1 rfl rfl ?_
      refine rr_iconst (v := (0 : Int32)) dX9_ruleThree_103 (by decide) rfl ?_
      refine rr_V [.int v3, .int (0 : Int32)] [.int v3, .ref 14] dX9_ruleThree_104 kX9_nearState mX9_165 ⟨by decide, by decide⟩ (by decide) rfl rfl rfl (Nat.le_of_ble_eq_true rfl) rfl (h.mono fun vr I3 J1 h => ?_)
      obtain ⟨r1, rfl, h⟩ := h
      show rr pgM zX9_ruleThree 107 _ [.int r1, .int v3, .ref 14] _ _ _
      refine rr_if_le (tgt := 114) dX9_ruleThree_107 (by decide) rfl ⟨fun hc => ?_, fun hc => ?_⟩
      · have h := h.1 hc
        refine rr_iconst (v := (0 : Int32)) dX9_ruleThree_114 (by decide) rfl ?_
        refine rr_zast dX9_ruleThree_115 (by decide) rfl rfl ⟨h.1, ?_⟩
        refine rr_letI (fun I4 hI4 => ?_)
        have h := h.2 I4 hI4
        refine rr_iinc (k := 1) (v := (v3 + (1 : Int32))) (lv' := [(3, .int (v3 + (1 : Int32))), (0, .ref 0)]) dX9_ruleThree_116 rfl rfl (by decide) rfl rfl ?_
        refine rr_goto (tgt := 78) dX9_ruleThree_119 (by decide) ?_
        exact rr.sub [1, 0] rfl h
      · have h := h.2 hc
        refine rr_iconst (v := (1 : Int32)) dX9_ruleThree_110 (by decide) rfl ?_
        refine rr_goto (tgt := 115) dX9_ruleThree_111 (by decide) ?_
        refine rr_zast dX9_ruleThree_115 (by decide) rfl rfl ⟨h.1, ?_⟩
        refine rr_letI (fun I5 hI5 => ?_)
        have h := h.2 I5 hI5
        refine rr_iinc (k := 1) (v := (v3 + (1 : Int32))) (lv' := [(3, .int (v3 + (1 : Int32))), (0, .ref 0)]) dX9_ruleThree_116 rfl rfl (by decide) rfl rfl ?_
        refine rr_goto (tgt := 78) dX9_ruleThree_119 (by decide) ?_
        exact rr.sub [1, 0] rfl h

theorem e_X9_rule {I : tg_I} {J : tg_J} {P : Option Value → tg_I → tg_J → Prop} (v1 : Int32) (h :
  call pgM zX9_clearGiven [.ref 0] I J (fun vr I1 J1 => vr = none ∧
  (call pgM zX9_ruleOne [.ref 0] I1 J1 (fun vr I2 J2 => ∃ r1 : Int32, vr = some (.int r1) ∧
  ((r1 = 0 →
   (v1 ≤ (1 : Int32) →
     (v1 ≤ (2 : Int32) →
       P (some (.int (0 : Int32))) I2 J2) ∧
      (¬ v1 ≤ (2 : Int32) →
       call pgM zX9_ruleThree [.ref 0] I2 J2 (fun vr I3 J3 => ∃ r2 : Int32, vr = some (.int r2) ∧
        ((r2 = 0 →
         P (some (.int (0 : Int32))) I3 J3) ∧
        (¬ r2 = 0 →
         P (some (.int (3 : Int32))) I3 J3))))) ∧
    (¬ v1 ≤ (1 : Int32) →
     call pgM zX9_ruleTwo [.ref 0] I2 J2 (fun vr I4 J4 => ∃ r3 : Int32, vr = some (.int r3) ∧
      ((r3 = 0 →
       (v1 ≤ (2 : Int32) →
         P (some (.int (0 : Int32))) I4 J4) ∧
        (¬ v1 ≤ (2 : Int32) →
         call pgM zX9_ruleThree [.ref 0] I4 J4 (fun vr I5 J5 => ∃ r4 : Int32, vr = some (.int r4) ∧
          ((r4 = 0 →
           P (some (.int (0 : Int32))) I5 J5) ∧
          (¬ r4 = 0 →
           P (some (.int (3 : Int32))) I5 J5))))) ∧
      (¬ r3 = 0 →
       P (some (.int (2 : Int32))) I4 J4))))) ∧
  (¬ r1 = 0 →
   P (some (.int (1 : Int32))) I2 J2)))))) : call pgM zX9_rule [.ref 0, .int v1] I J P := by
  refine call_of (by decide +kernel) (fun _ => Nat.le_of_ble_eq_true rfl) ?_
  show rr pgM zX9_rule 0 [(0, .ref 0), (1, .int v1)] [] I J P
  refine rr_aload_n dX9_rule_0 rfl 0 rfl rfl ?_
  refine rr_V [] [] dX9_rule_1 kX9_clearGiven mX9_219 ⟨by decide, by decide⟩ (by decide) rfl rfl rfl (Nat.le_of_ble_eq_true rfl) rfl (h.mono fun vr I1 J1 h => ?_)
  obtain ⟨rfl, h⟩ := h
  show rr pgM zX9_rule 4 _ [] _ _ _
  refine rr_aload_n dX9_rule_4 rfl 0 rfl rfl ?_
  refine rr_V [] [] dX9_rule_5 kX9_ruleOne mX9_222 ⟨by decide, by decide⟩ (by decide) rfl rfl rfl (Nat.le_of_ble_eq_true rfl) rfl (h.mono fun vr I2 J2 h => ?_)
  obtain ⟨r1, rfl, h⟩ := h
  show rr pgM zX9_rule 8 _ [.int r1] _ _ _
  refine rr_if_eq (tgt := 13) dX9_rule_8 (by decide) rfl ⟨fun hc => ?_, fun hc => ?_⟩
  · have h := h.1 hc
    refine rr_iload_n dX9_rule_13 rfl 1 rfl rfl ?_
    refine rr_iconst (v := (1 : Int32)) dX9_rule_14 (by decide) rfl ?_
    refine rr_icmp_le (tgt := 27) dX9_rule_15 (by decide) rfl ⟨fun hc => ?_, fun hc => ?_⟩
    · have h := h.1 hc
      refine rr_iload_n dX9_rule_27 rfl 1 rfl rfl ?_
      refine rr_iconst (v := (2 : Int32)) dX9_rule_28 (by decide) rfl ?_
      refine rr_icmp_le (tgt := 43) dX9_rule_29 (by decide) rfl ⟨fun hc => ?_, fun hc => ?_⟩
      · have h := h.1 hc
        refine rr_iconst (v := (0 : Int32)) dX9_rule_43 (by decide) rfl ?_
        exact rr_iret dX9_rule_44 rfl h
      · have h := h.2 hc
        refine rr_aload_n dX9_rule_32 rfl 0 rfl rfl ?_
        refine rr_V [] [] dX9_rule_33 kX9_ruleThree mX9_228 ⟨by decide, by decide⟩ (by decide) rfl rfl rfl (Nat.le_of_ble_eq_true rfl) rfl (h.mono fun vr I3 J3 h => ?_)
        obtain ⟨r2, rfl, h⟩ := h
        show rr pgM zX9_rule 36 _ [.int r2] _ _ _
        refine rr_if_eq (tgt := 43) dX9_rule_36 (by decide) rfl ⟨fun hc => ?_, fun hc => ?_⟩
        · have h := h.1 hc
          refine rr_iconst (v := (0 : Int32)) dX9_rule_43 (by decide) rfl ?_
          exact rr_iret dX9_rule_44 rfl h
        · have h := h.2 hc
          refine rr_iconst (v := (3 : Int32)) dX9_rule_39 (by decide) rfl ?_
          refine rr_goto (tgt := 44) dX9_rule_40 (by decide) ?_
          exact rr_iret dX9_rule_44 rfl h
    · have h := h.2 hc
      refine rr_aload_n dX9_rule_18 rfl 0 rfl rfl ?_
      refine rr_V [] [] dX9_rule_19 kX9_ruleTwo mX9_225 ⟨by decide, by decide⟩ (by decide) rfl rfl rfl (Nat.le_of_ble_eq_true rfl) rfl (h.mono fun vr I4 J4 h => ?_)
      obtain ⟨r3, rfl, h⟩ := h
      show rr pgM zX9_rule 22 _ [.int r3] _ _ _
      refine rr_if_eq (tgt := 27) dX9_rule_22 (by decide) rfl ⟨fun hc => ?_, fun hc => ?_⟩
      · have h := h.1 hc
        refine rr_iload_n dX9_rule_27 rfl 1 rfl rfl ?_
        refine rr_iconst (v := (2 : Int32)) dX9_rule_28 (by decide) rfl ?_
        refine rr_icmp_le (tgt := 43) dX9_rule_29 (by decide) rfl ⟨fun hc => ?_, fun hc => ?_⟩
        · have h := h.1 hc
          refine rr_iconst (v := (0 : Int32)) dX9_rule_43 (by decide) rfl ?_
          exact rr_iret dX9_rule_44 rfl h
        · have h := h.2 hc
          refine rr_aload_n dX9_rule_32 rfl 0 rfl rfl ?_
          refine rr_V [] [] dX9_rule_33 kX9_ruleThree mX9_228 ⟨by decide, by decide⟩ (by decide) rfl rfl rfl (Nat.le_of_ble_eq_true rfl) rfl (h.mono fun vr I5 J5 h => ?_)
          obtain ⟨r4, rfl, h⟩ := h
          show rr pgM zX9_rule 36 _ [.int r4] _ _ _
          refine rr_if_eq (tgt := 43) dX9_rule_36 (by decide) rfl ⟨fun hc => ?_, fun hc => ?_⟩
          · have h := h.1 hc
            refine rr_iconst (v := (0 : Int32)) dX9_rule_43 (by decide) rfl ?_
            exact rr_iret dX9_rule_44 rfl h
          · have h := h.2 hc
            refine rr_iconst (v := (3 : Int32)) dX9_rule_39 (by decide) rfl ?_
            refine rr_goto (tgt := 44) dX9_rule_40 (by decide) ?_
            exact rr_iret dX9_rule_44 rfl h
      · have h := h.2 hc
        refine rr_iconst (v := (2 : Int32)) dX9_rule_25 (by decide) rfl ?_
        exact rr_iret dX9_rule_26 rfl h
  · have h := h.2 hc
    refine rr_iconst (v := (1 : Int32)) dX9_rule_11 (by decide) rfl ?_
    exact rr_iret dX9_rule_12 rfl h

def l_X9_find_2 (I : tg_I) (J : tg_J) (P : Option Value → tg_I → tg_J → Prop) (v1 : Int32) (v2 : Int32) : Prop := rr pgM zX9_find 2 [(0, .ref 0), (1, .int v1), (2, .int v2)] [] I J P
def l_X9_find_35 (I : tg_I) (J : tg_J) (P : Option Value → tg_I → tg_J → Prop) (v1 : Int32) : Prop := rr pgM zX9_find 35 [(0, .ref 0), (1, .int v1)] [] I J P
def l_X9_find_49 (I : tg_I) (J : tg_J) (P : Option Value → tg_I → tg_J → Prop) (v1 : Int32) (v2 : Int32) : Prop := rr pgM zX9_find 49 [(0, .ref 0), (1, .int v1), (2, .int v2)] [] I J P
def l_X9_find_109 (I : tg_I) (J : tg_J) (P : Option Value → tg_I → tg_J → Prop) (v1 : Int32) (v2 : Int32) : Prop := rr pgM zX9_find 109 [(0, .ref 0), (1, .int v1), (2, .int v2)] [] I J P
def l_X9_find_140 (I : tg_I) (J : tg_J) (P : Option Value → tg_I → tg_J → Prop) (v1 : Int32) (v2 : Int32) (v3 : Int32) : Prop := rr pgM zX9_find 140 [(0, .ref 0), (1, .int v1), (2, .int v2), (3, .int v3)] [] I J P
theorem e_X9_find {I : tg_I} {J : tg_J} {P : Option Value → tg_I → tg_J → Prop} (v1 : Int32) (h :
  l_X9_find_2 I J P v1 ((0 : Int32))) : call pgM zX9_find [.ref 0, .int v1] I J P := by
  refine call_of (by decide +kernel) (fun _ => Nat.le_of_ble_eq_true rfl) ?_
  show rr pgM zX9_find 0 [(0, .ref 0), (1, .int v1)] [] I J P
  refine rr_iconst (v := (0 : Int32)) dX9_find_0 (by decide) rfl ?_
  refine rr_istore_n (lv' := [(2, .int (0 : Int32)), (0, .ref 0), (1, .int v1)]) dX9_find_1 rfl (by decide) rfl rfl ?_
  exact rr.sub [1, 2, 0] rfl h
theorem s_X9_find_2 {I : tg_I} {J : tg_J} {P : Option Value → tg_I → tg_J → Prop} (v1 : Int32) (v2 : Int32) (h :
  ((100 : Int32) ≤ v2 →
   ∀ I1, I1 = u2 I 0 23 (-1 : Int32) →
    call pgM zX9_rule [.ref 0, .int v1] I1 J (fun vr I2 J1 => ∃ r1 : Int32, vr = some (.int r1) ∧
    (∀ I3, I3 = u2 I2 0 24 r1 →
    l_X9_find_35 I3 J1 P v1))) ∧
  (¬ (100 : Int32) ≤ v2 →
   vp_in v2 100 ∧ ∀ I4, I4 = u2 I 11 (Int32.toNatClampNeg v2) (-1 : Int32) →
    l_X9_find_2 I4 J P v1 ((v2 + (1 : Int32))))) : l_X9_find_2 I J P v1 v2 := by
  show rr pgM zX9_find 2 [(0, .ref 0), (1, .int v1), (2, .int v2)] [] I J P
  refine rr_iload_n dX9_find_2 rfl 2 rfl rfl ?_
  refine rr_bipush (v := (100 : Int32)) dX9_find_3 (by decide) rfl ?_
  refine rr_icmp_ge (tgt := 21) dX9_find_5 (by decide) rfl ⟨fun hc => ?_, fun hc => ?_⟩
  · have h := h.1 hc
    refine rr_aload_n dX9_find_21 rfl 0 rfl rfl ?_
    refine rr_iconst (v := (-1 : Int32)) dX9_find_22 (by decide) rfl ?_
    refine rr_putI dX9_find_23 pX9_162 (by decide) rfl rfl rfl ?_
    refine rr_letI (fun I1 hI1 => ?_)
    have h := h I1 hI1
    refine rr_aload_n dX9_find_26 rfl 0 rfl rfl ?_
    refine rr_aload_n dX9_find_27 rfl 0 rfl rfl ?_
    refine rr_iload_n dX9_find_28 rfl 1 rfl rfl ?_
    refine rr_V [.int v1] [.ref 0] dX9_find_29 kX9_rule mX9_231 ⟨by decide, by decide⟩ (by decide) rfl rfl rfl (Nat.le_of_ble_eq_true rfl) rfl (h.mono fun vr I2 J1 h => ?_)
    obtain ⟨r1, rfl, h⟩ := h
    show rr pgM zX9_find 32 _ [.int r1, .ref 0] _ _ _
    refine rr_putI dX9_find_32 pX9_234 (by decide) rfl rfl rfl ?_
    refine rr_letI (fun I3 hI3 => ?_)
    have h := h I3 hI3
    exact rr.sub [0, 1] rfl h
  · have h := h.2 hc
    refine rr_aload_n dX9_find_8 rfl 0 rfl rfl ?_
    refine rr_getR dX9_find_9 fX9_54 (by decide) rfl rfl rfl ?_
    refine rr_iload_n dX9_find_12 rfl 2 rfl rfl ?_
    refine rr_iconst (v := (-1 : Int32)) dX9_find_13 (by decide) rfl ?_
    refine rr_iast dX9_find_14 (by decide) rfl rfl ⟨h.1, ?_⟩
    refine rr_letI (fun I4 hI4 => ?_)
    have h := h.2 I4 hI4
    refine rr_iinc (k := 2) (v := (v2 + (1 : Int32))) (lv' := [(2, .int (v2 + (1 : Int32))), (0, .ref 0), (1, .int v1)]) dX9_find_15 rfl rfl (by decide) rfl rfl ?_
    refine rr_goto (tgt := 2) dX9_find_18 (by decide) ?_
    exact rr.sub [1, 2, 0] rfl h
theorem s_X9_find_35 {I : tg_I} {J : tg_J} {P : Option Value → tg_I → tg_J → Prop} (v1 : Int32) (h :
  ((I 0 24) ≤ 0 →
   P none I J) ∧
  (¬ (I 0 24) ≤ 0 →
   l_X9_find_49 I J P v1 (((I 0 3) - (1 : Int32))))) : l_X9_find_35 I J P v1 := by
  show rr pgM zX9_find 35 [(0, .ref 0), (1, .int v1)] [] I J P
  refine rr_aload_n dX9_find_35 rfl 0 rfl rfl ?_
  refine rr_getI dX9_find_36 fX9_234 (by decide) rfl rfl rfl ?_
  refine rr_if_le (tgt := 187) dX9_find_39 (by decide) rfl ⟨fun hc => ?_, fun hc => ?_⟩
  · have h := h.1 hc
    exact rr_vret dX9_find_187 rfl h
  · have h := h.2 hc
    refine rr_aload_n dX9_find_42 rfl 0 rfl rfl ?_
    refine rr_getI dX9_find_43 fX9_16 (by decide) rfl rfl rfl ?_
    refine rr_iconst (v := (1 : Int32)) dX9_find_46 (by decide) rfl ?_
    refine rr_isub dX9_find_47 rfl ?_
    refine rr_istore_n (lv' := [(2, .int ((I 0 3) - (1 : Int32))), (0, .ref 0), (1, .int v1)]) dX9_find_48 rfl (by decide) rfl rfl ?_
    exact rr.sub [1, 2, 0] rfl h
theorem s_X9_find_49 {I : tg_I} {J : tg_J} {P : Option Value → tg_I → tg_J → Prop} (v1 : Int32) (v2 : Int32) (h :
  (v2 < 0 →
   ((I 0 23) < 0 →
     l_X9_find_109 I J P v1 ((0 : Int32))) ∧
    (¬ (I 0 23) < 0 →
     P none I J)) ∧
  (¬ v2 < 0 →
   vp_in v2 100 ∧
    (((I 13 (Int32.toNatClampNeg v2)) = 0 →
     ∀ I1, I1 = u2 I 0 23 v2 →
      l_X9_find_49 I1 J P v1 ((v2 + (-1 : Int32)))) ∧
    (¬ (I 13 (Int32.toNatClampNeg v2)) = 0 →
     vp_in v2 100 ∧
      ((¬ (I 13 (Int32.toNatClampNeg v2)) = (1 : Int32) →
       ∀ I2, I2 = u2 I 0 23 (I 0 23) →
        l_X9_find_49 I2 J P v1 ((v2 + (-1 : Int32)))) ∧
      ((I 13 (Int32.toNatClampNeg v2)) = (1 : Int32) →
       vp_in v2 100 ∧
        ((¬ (I 4 (Int32.toNatClampNeg v2)) = 0 →
         ∀ I3, I3 = u2 I 0 23 (I 0 23) →
          l_X9_find_49 I3 J P v1 ((v2 + (-1 : Int32)))) ∧
        ((I 4 (Int32.toNatClampNeg v2)) = 0 →
         ∀ I4, I4 = u2 I 0 23 v2 →
          l_X9_find_49 I4 J P v1 ((v2 + (-1 : Int32))))))))))) : l_X9_find_49 I J P v1 v2 := by
  show rr pgM zX9_find 49 [(0, .ref 0), (1, .int v1), (2, .int v2)] [] I J P
  refine rr_iload_n dX9_find_49 rfl 2 rfl rfl ?_
  refine rr_if_lt (tgt := 99) dX9_find_50 (by decide) rfl ⟨fun hc => ?_, fun hc => ?_⟩
  · have h := h.1 hc
    refine rr_aload_n dX9_find_99 rfl 0 rfl rfl ?_
    refine rr_getI dX9_find_100 fX9_162 (by decide) rfl rfl rfl ?_
    refine rr_if_lt (tgt := 107) dX9_find_103 (by decide) rfl ⟨fun hc => ?_, fun hc => ?_⟩
    · have h := h.1 hc
      refine rr_iconst (v := (0 : Int32)) dX9_find_107 (by decide) rfl ?_
      refine rr_istore_n (lv' := [(2, .int (0 : Int32)), (0, .ref 0), (1, .int v1)]) dX9_find_108 rfl (by decide) rfl rfl ?_
      exact rr.sub [1, 2, 0] rfl h
    · have h := h.2 hc
      exact rr_vret dX9_find_106 rfl h
  · have h := h.2 hc
    refine rr_aload_n dX9_find_53 rfl 0 rfl rfl ?_
    refine rr_aload_n dX9_find_54 rfl 0 rfl rfl ?_
    refine rr_getR dX9_find_55 fX9_60 (by decide) rfl rfl rfl ?_
    refine rr_iload_n dX9_find_58 rfl 2 rfl rfl ?_
    refine rr_iald dX9_find_59 (by decide) rfl rfl ⟨h.1, ?_⟩
    have h := h.2
    refine rr_if_eq (tgt := 82) dX9_find_60 (by decide) rfl ⟨fun hc => ?_, fun hc => ?_⟩
    · have h := h.1 hc
      refine rr_iload_n dX9_find_82 rfl 2 rfl rfl ?_
      refine rr_goto (tgt := 90) dX9_find_83 (by decide) ?_
      refine rr_putI dX9_find_90 pX9_162 (by decide) rfl rfl rfl ?_
      refine rr_letI (fun I1 hI1 => ?_)
      have h := h I1 hI1
      refine rr_iinc (k := 2) (v := (v2 + (-1 : Int32))) (lv' := [(2, .int (v2 + (-1 : Int32))), (0, .ref 0), (1, .int v1)]) dX9_find_93 rfl rfl (by decide) rfl rfl ?_
      refine rr_goto (tgt := 49) dX9_find_96 (by decide) ?_
      exact rr.sub [1, 2, 0] rfl h
    · have h := h.2 hc
      refine rr_aload_n dX9_find_63 rfl 0 rfl rfl ?_
      refine rr_getR dX9_find_64 fX9_60 (by decide) rfl rfl rfl ?_
      refine rr_iload_n dX9_find_67 rfl 2 rfl rfl ?_
      refine rr_iald dX9_find_68 (by decide) rfl rfl ⟨h.1, ?_⟩
      have h := h.2
      refine rr_iconst (v := (1 : Int32)) dX9_find_69 (by decide) rfl ?_
      refine rr_icmp_ne (tgt := 86) dX9_find_70 (by decide) rfl ⟨fun hc => ?_, fun hc => ?_⟩
      · have h := h.1 hc
        refine rr_aload_n dX9_find_86 rfl 0 rfl rfl ?_
        refine rr_getI dX9_find_87 fX9_162 (by decide) rfl rfl rfl ?_
        refine rr_putI dX9_find_90 pX9_162 (by decide) rfl rfl rfl ?_
        refine rr_letI (fun I2 hI2 => ?_)
        have h := h I2 hI2
        refine rr_iinc (k := 2) (v := (v2 + (-1 : Int32))) (lv' := [(2, .int (v2 + (-1 : Int32))), (0, .ref 0), (1, .int v1)]) dX9_find_93 rfl rfl (by decide) rfl rfl ?_
        refine rr_goto (tgt := 49) dX9_find_96 (by decide) ?_
        exact rr.sub [1, 2, 0] rfl h
      · have h := h.2 hc
        refine rr_aload_n dX9_find_73 rfl 0 rfl rfl ?_
        refine rr_getR dX9_find_74 fX9_30 (by decide) rfl rfl rfl ?_
        refine rr_iload_n dX9_find_77 rfl 2 rfl rfl ?_
        refine rr_zald dX9_find_78 (by decide) rfl rfl ⟨h.1, ?_⟩
        have h := h.2
        refine rr_if_ne (tgt := 86) dX9_find_79 (by decide) rfl ⟨fun hc => ?_, fun hc => ?_⟩
        · have h := h.1 hc
          refine rr_aload_n dX9_find_86 rfl 0 rfl rfl ?_
          refine rr_getI dX9_find_87 fX9_162 (by decide) rfl rfl rfl ?_
          refine rr_putI dX9_find_90 pX9_162 (by decide) rfl rfl rfl ?_
          refine rr_letI (fun I3 hI3 => ?_)
          have h := h I3 hI3
          refine rr_iinc (k := 2) (v := (v2 + (-1 : Int32))) (lv' := [(2, .int (v2 + (-1 : Int32))), (0, .ref 0), (1, .int v1)]) dX9_find_93 rfl rfl (by decide) rfl rfl ?_
          refine rr_goto (tgt := 49) dX9_find_96 (by decide) ?_
          exact rr.sub [1, 2, 0] rfl h
        · have h := h.2 hc
          refine rr_iload_n dX9_find_82 rfl 2 rfl rfl ?_
          refine rr_goto (tgt := 90) dX9_find_83 (by decide) ?_
          refine rr_putI dX9_find_90 pX9_162 (by decide) rfl rfl rfl ?_
          refine rr_letI (fun I4 hI4 => ?_)
          have h := h I4 hI4
          refine rr_iinc (k := 2) (v := (v2 + (-1 : Int32))) (lv' := [(2, .int (v2 + (-1 : Int32))), (0, .ref 0), (1, .int v1)]) dX9_find_93 rfl rfl (by decide) rfl rfl ?_
          refine rr_goto (tgt := 49) dX9_find_96 (by decide) ?_
          exact rr.sub [1, 2, 0] rfl h
theorem s_X9_find_109 {I : tg_I} {J : tg_J} {P : Option Value → tg_I → tg_J → Prop} (v1 : Int32) (v2 : Int32) (h :
  ((I 0 3) ≤ v2 →
   call pgM zX9_rule [.ref 0, .int v1] I J (fun vr I1 J1 => ∃ r1 : Int32, vr = some (.int r1) ∧
    (∀ I2, I2 = u2 I1 0 24 r1 →
    l_X9_find_35 I2 J1 P v1))) ∧
  (¬ (I 0 3) ≤ v2 →
   vp_in v2 100 ∧
    (((I 13 (Int32.toNatClampNeg v2)) < 0 →
     l_X9_find_109 I J P v1 ((v2 + (1 : Int32)))) ∧
    (¬ (I 13 (Int32.toNatClampNeg v2)) < 0 →
     vp_in v2 100 ∧
      (vp_in v2 100 ∧ ∀ I3, I3 = u2 I 11 (Int32.toNatClampNeg v2) (I 13 (Int32.toNatClampNeg v2)) →
      l_X9_find_140 I3 J P v1 v2 ((0 : Int32))))))) : l_X9_find_109 I J P v1 v2 := by
  show rr pgM zX9_find 109 [(0, .ref 0), (1, .int v1), (2, .int v2)] [] I J P
  refine rr_iload_n dX9_find_109 rfl 2 rfl rfl ?_
  refine rr_aload_n dX9_find_110 rfl 0 rfl rfl ?_
  refine rr_getI dX9_find_111 fX9_16 (by decide) rfl rfl rfl ?_
  refine rr_icmp_ge (tgt := 175) dX9_find_114 (by decide) rfl ⟨fun hc => ?_, fun hc => ?_⟩
  · have h := h.1 hc
    refine rr_aload_n dX9_find_175 rfl 0 rfl rfl ?_
    refine rr_aload_n dX9_find_176 rfl 0 rfl rfl ?_
    refine rr_iload_n dX9_find_177 rfl 1 rfl rfl ?_
    refine rr_V [.int v1] [.ref 0] dX9_find_178 kX9_rule mX9_231 ⟨by decide, by decide⟩ (by decide) rfl rfl rfl (Nat.le_of_ble_eq_true rfl) rfl (h.mono fun vr I1 J1 h => ?_)
    obtain ⟨r1, rfl, h⟩ := h
    show rr pgM zX9_find 181 _ [.int r1, .ref 0] _ _ _
    refine rr_putI dX9_find_181 pX9_234 (by decide) rfl rfl rfl ?_
    refine rr_letI (fun I2 hI2 => ?_)
    have h := h I2 hI2
    refine rr_goto (tgt := 35) dX9_find_184 (by decide) ?_
    exact rr.sub [0, 1] rfl h
  · have h := h.2 hc
    refine rr_aload_n dX9_find_117 rfl 0 rfl rfl ?_
    refine rr_getR dX9_find_118 fX9_60 (by decide) rfl rfl rfl ?_
    refine rr_iload_n dX9_find_121 rfl 2 rfl rfl ?_
    refine rr_iald dX9_find_122 (by decide) rfl rfl ⟨h.1, ?_⟩
    have h := h.2
    refine rr_if_lt (tgt := 169) dX9_find_123 (by decide) rfl ⟨fun hc => ?_, fun hc => ?_⟩
    · have h := h.1 hc
      refine rr_iinc (k := 2) (v := (v2 + (1 : Int32))) (lv' := [(2, .int (v2 + (1 : Int32))), (0, .ref 0), (1, .int v1)]) dX9_find_169 rfl rfl (by decide) rfl rfl ?_
      refine rr_goto (tgt := 109) dX9_find_172 (by decide) ?_
      exact rr.sub [1, 2, 0] rfl h
    · have h := h.2 hc
      refine rr_aload_n dX9_find_126 rfl 0 rfl rfl ?_
      refine rr_getR dX9_find_127 fX9_54 (by decide) rfl rfl rfl ?_
      refine rr_iload_n dX9_find_130 rfl 2 rfl rfl ?_
      refine rr_aload_n dX9_find_131 rfl 0 rfl rfl ?_
      refine rr_getR dX9_find_132 fX9_60 (by decide) rfl rfl rfl ?_
      refine rr_iload_n dX9_find_135 rfl 2 rfl rfl ?_
      refine rr_iald dX9_find_136 (by decide) rfl rfl ⟨h.1, ?_⟩
      have h := h.2
      refine rr_iast dX9_find_137 (by decide) rfl rfl ⟨h.1, ?_⟩
      refine rr_letI (fun I3 hI3 => ?_)
      have h := h.2 I3 hI3
      refine rr_iconst (v := (0 : Int32)) dX9_find_138 (by decide) rfl ?_
      refine rr_istore_n (lv' := [(3, .int (0 : Int32)), (0, .ref 0), (1, .int v1), (2, .int v2)]) dX9_find_139 rfl (by decide) rfl rfl ?_
      exact rr.sub [1, 2, 3, 0] rfl h
theorem s_X9_find_140 {I : tg_I} {J : tg_J} {P : Option Value → tg_I → tg_J → Prop} (v1 : Int32) (v2 : Int32) (v3 : Int32) (h :
  ((101 : Int32) ≤ v3 →
   l_X9_find_109 I J P v1 ((v2 + (1 : Int32)))) ∧
  (¬ (101 : Int32) ≤ v3 →
   vp_in v3 101 ∧
    (vp_in (((101 : Int32) * v2) + v3) 10100 ∧ ∀ I1, I1 = u2 I 12 (Int32.toNatClampNeg (((101 : Int32) * v2) + v3)) (vp_nar .boolean (I 14 (Int32.toNatClampNeg v3))) →
    l_X9_find_140 I1 J P v1 v2 ((v3 + (1 : Int32)))))) : l_X9_find_140 I J P v1 v2 v3 := by
  show rr pgM zX9_find 140 [(0, .ref 0), (1, .int v1), (2, .int v2), (3, .int v3)] [] I J P
  refine rr_iload_n dX9_find_140 rfl 3 rfl rfl ?_
  refine rr_bipush (v := (101 : Int32)) dX9_find_141 (by decide) rfl ?_
  refine rr_icmp_ge (tgt := 169) dX9_find_143 (by decide) rfl ⟨fun hc => ?_, fun hc => ?_⟩
  · have h := h.1 hc
    refine rr_iinc (k := 2) (v := (v2 + (1 : Int32))) (lv' := [(2, .int (v2 + (1 : Int32))), (0, .ref 0), (1, .int v1), (3, .int v3)]) dX9_find_169 rfl rfl (by decide) rfl rfl ?_
    refine rr_goto (tgt := 109) dX9_find_172 (by decide) ?_
    exact rr.sub [1, 2, 0] rfl h
  · have h := h.2 hc
    refine rr_aload_n dX9_find_146 rfl 0 rfl rfl ?_
    refine rr_getR dX9_find_147 fX9_57 (by decide) rfl rfl rfl ?_
    refine rr_bipush (v := (101 : Int32)) dX9_find_150 (by decide) rfl ?_
    refine rr_iload_n dX9_find_152 rfl 2 rfl rfl ?_
    refine rr_imul dX9_find_153 rfl ?_
    refine rr_iload_n dX9_find_154 rfl 3 rfl rfl ?_
    refine rr_iadd dX9_find_155 rfl ?_
    refine rr_aload_n dX9_find_156 rfl 0 rfl rfl ?_
    refine rr_getR dX9_find_157 fX9_63 (by decide) rfl rfl rfl ?_
    refine rr_iload_n dX9_find_160 rfl 3 rfl rfl ?_
    refine rr_zald dX9_find_161 (by decide) rfl rfl ⟨h.1, ?_⟩
    have h := h.2
    refine rr_zast dX9_find_162 (by decide) rfl rfl ⟨h.1, ?_⟩
    refine rr_letI (fun I1 hI1 => ?_)
    have h := h.2 I1 hI1
    refine rr_iinc (k := 3) (v := (v3 + (1 : Int32))) (lv' := [(3, .int (v3 + (1 : Int32))), (0, .ref 0), (1, .int v1), (2, .int v2)]) dX9_find_163 rfl rfl (by decide) rfl rfl ?_
    refine rr_goto (tgt := 140) dX9_find_166 (by decide) ?_
    exact rr.sub [1, 2, 3, 0] rfl h

def l_X9_hint_59 (I : tg_I) (J : tg_J) (P : Option Value → tg_I → tg_J → Prop) (v2 : Int32) : Prop := rr pgM zX9_hint 59 [(0, .ref 0), (2, .int v2)] [] I J P
theorem e_X9_hint {I : tg_I} {J : tg_J} {P : Option Value → tg_I → tg_J → Prop} (v1 : Int32) (h :
  (v1 < (1 : Int32) →
   P (some (.int (-1 : Int32))) I J) ∧
  (¬ v1 < (1 : Int32) →
   (v1 ≤ (3 : Int32) →
     call pgM zX9_find [.ref 0, .int v1] I J (fun vr I1 J1 => vr = none ∧
      (∀ I2, I2 = u2 I1 0 14 (I1 0 23) →
      ∀ I3, I3 = u2 I2 0 16 (I2 0 24) →
      (0 ≤ (I3 0 23) →
       vp_in (I3 0 23) 100 ∧
        (∀ I4, I4 = u2 I3 0 15 (I3 13 (Int32.toNatClampNeg (I3 0 23))) →
        l_X9_hint_59 I4 J1 P ((0 : Int32)))) ∧
      (¬ 0 ≤ (I3 0 23) →
       ∀ I5, I5 = u2 I3 0 15 (0 : Int32) →
        l_X9_hint_59 I5 J1 P ((0 : Int32)))))) ∧
    (¬ v1 ≤ (3 : Int32) →
     P (some (.int (-1 : Int32))) I J))) : call pgM zX9_hint [.ref 0, .int v1] I J P := by
  refine call_of (by decide +kernel) (fun _ => Nat.le_of_ble_eq_true rfl) ?_
  show rr pgM zX9_hint 0 [(0, .ref 0), (1, .int v1)] [] I J P
  refine rr_iload_n dX9_hint_0 rfl 1 rfl rfl ?_
  refine rr_iconst (v := (1 : Int32)) dX9_hint_1 (by decide) rfl ?_
  refine rr_icmp_lt (tgt := 10) dX9_hint_2 (by decide) rfl ⟨fun hc => ?_, fun hc => ?_⟩
  · have h := h.1 hc
    refine rr_iconst (v := (-1 : Int32)) dX9_hint_10 (by decide) rfl ?_
    exact rr_iret dX9_hint_11 rfl h
  · have h := h.2 hc
    refine rr_iload_n dX9_hint_5 rfl 1 rfl rfl ?_
    refine rr_iconst (v := (3 : Int32)) dX9_hint_6 (by decide) rfl ?_
    refine rr_icmp_le (tgt := 12) dX9_hint_7 (by decide) rfl ⟨fun hc => ?_, fun hc => ?_⟩
    · have h := h.1 hc
      refine rr_aload_n dX9_hint_12 rfl 0 rfl rfl ?_
      refine rr_iload_n dX9_hint_13 rfl 1 rfl rfl ?_
      refine rr_V [.int v1] [] dX9_hint_14 kX9_find mX9_159 ⟨by decide, by decide⟩ (by decide) rfl rfl rfl (Nat.le_of_ble_eq_true rfl) rfl (h.mono fun vr I1 J1 h => ?_)
      obtain ⟨rfl, h⟩ := h
      show rr pgM zX9_hint 17 _ [] _ _ _
      refine rr_aload_n dX9_hint_17 rfl 0 rfl rfl ?_
      refine rr_aload_n dX9_hint_18 rfl 0 rfl rfl ?_
      refine rr_getI dX9_hint_19 fX9_162 (by decide) rfl rfl rfl ?_
      refine rr_putI dX9_hint_22 pX9_45 (by decide) rfl rfl rfl ?_
      refine rr_letI (fun I2 hI2 => ?_)
      have h := h I2 hI2
      refine rr_aload_n dX9_hint_25 rfl 0 rfl rfl ?_
      refine rr_aload_n dX9_hint_26 rfl 0 rfl rfl ?_
      refine rr_getI dX9_hint_27 fX9_234 (by decide) rfl rfl rfl ?_
      refine rr_putI dX9_hint_30 pX9_113 (by decide) rfl rfl rfl ?_
      refine rr_letI (fun I3 hI3 => ?_)
      have h := h I3 hI3
      refine rr_aload_n dX9_hint_33 rfl 0 rfl rfl ?_
      refine rr_aload_n dX9_hint_34 rfl 0 rfl rfl ?_
      refine rr_getI dX9_hint_35 fX9_162 (by decide) rfl rfl rfl ?_
      refine rr_if_ge (tgt := 45) dX9_hint_38 (by decide) rfl ⟨fun hc => ?_, fun hc => ?_⟩
      · have h := h.1 hc
        refine rr_aload_n dX9_hint_45 rfl 0 rfl rfl ?_
        refine rr_getR dX9_hint_46 fX9_60 (by decide) rfl rfl rfl ?_
        refine rr_aload_n dX9_hint_49 rfl 0 rfl rfl ?_
        refine rr_getI dX9_hint_50 fX9_162 (by decide) rfl rfl rfl ?_
        refine rr_iald dX9_hint_53 (by decide) rfl rfl ⟨h.1, ?_⟩
        have h := h.2
        refine rr_putI dX9_hint_54 pX9_237 (by decide) rfl rfl rfl ?_
        refine rr_letI (fun I4 hI4 => ?_)
        have h := h I4 hI4
        refine rr_iconst (v := (0 : Int32)) dX9_hint_57 (by decide) rfl ?_
        refine rr_istore_n (lv' := [(2, .int (0 : Int32)), (0, .ref 0), (1, .int v1)]) dX9_hint_58 rfl (by decide) rfl rfl ?_
        exact rr.sub [1, 0] rfl h
      · have h := h.2 hc
        refine rr_iconst (v := (0 : Int32)) dX9_hint_41 (by decide) rfl ?_
        refine rr_goto (tgt := 54) dX9_hint_42 (by decide) ?_
        refine rr_putI dX9_hint_54 pX9_237 (by decide) rfl rfl rfl ?_
        refine rr_letI (fun I5 hI5 => ?_)
        have h := h I5 hI5
        refine rr_iconst (v := (0 : Int32)) dX9_hint_57 (by decide) rfl ?_
        refine rr_istore_n (lv' := [(2, .int (0 : Int32)), (0, .ref 0), (1, .int v1)]) dX9_hint_58 rfl (by decide) rfl rfl ?_
        exact rr.sub [1, 0] rfl h
    · have h := h.2 hc
      refine rr_iconst (v := (-1 : Int32)) dX9_hint_10 (by decide) rfl ?_
      exact rr_iret dX9_hint_11 rfl h
theorem s_X9_hint_59 {I : tg_I} {J : tg_J} {P : Option Value → tg_I → tg_J → Prop} (v2 : Int32) (h :
  ((101 : Int32) ≤ v2 →
   (0 ≤ (I 0 23) →
     P (some (.int ((((2 : Int32) * (I 0 14)) + (I 0 15)) + (1 : Int32)))) I J) ∧
    (¬ 0 ≤ (I 0 23) →
     P (some (.int (0 : Int32))) I J)) ∧
  (¬ (101 : Int32) ≤ v2 →
   ((I 0 23) < 0 →
     vp_in v2 101 ∧ ∀ I1, I1 = u2 I 9 (Int32.toNatClampNeg v2) (vp_nar .boolean (0 : Int32)) →
      l_X9_hint_59 I1 J P ((v2 + (1 : Int32)))) ∧
    (¬ (I 0 23) < 0 →
     vp_in v2 101 ∧
      (((I 14 (Int32.toNatClampNeg v2)) = 0 →
       vp_in v2 101 ∧ ∀ I2, I2 = u2 I 9 (Int32.toNatClampNeg v2) (vp_nar .boolean (0 : Int32)) →
        l_X9_hint_59 I2 J P ((v2 + (1 : Int32)))) ∧
      (¬ (I 14 (Int32.toNatClampNeg v2)) = 0 →
       vp_in v2 101 ∧ ∀ I3, I3 = u2 I 9 (Int32.toNatClampNeg v2) (vp_nar .boolean (1 : Int32)) →
        l_X9_hint_59 I3 J P ((v2 + (1 : Int32)))))))) : l_X9_hint_59 I J P v2 := by
  show rr pgM zX9_hint 59 [(0, .ref 0), (2, .int v2)] [] I J P
  refine rr_iload_n dX9_hint_59 rfl 1 rfl rfl ?_
  refine rr_bipush (v := (101 : Int32)) dX9_hint_60 (by decide) rfl ?_
  refine rr_icmp_ge (tgt := 98) dX9_hint_62 (by decide) rfl ⟨fun hc => ?_, fun hc => ?_⟩
  · have h := h.1 hc
    refine rr_aload_n dX9_hint_98 rfl 0 rfl rfl ?_
    refine rr_getI dX9_hint_99 fX9_162 (by decide) rfl rfl rfl ?_
    refine rr_if_ge (tgt := 109) dX9_hint_102 (by decide) rfl ⟨fun hc => ?_, fun hc => ?_⟩
    · have h := h.1 hc
      refine rr_iconst (v := (2 : Int32)) dX9_hint_109 (by decide) rfl ?_
      refine rr_aload_n dX9_hint_110 rfl 0 rfl rfl ?_
      refine rr_getI dX9_hint_111 fX9_45 (by decide) rfl rfl rfl ?_
      refine rr_imul dX9_hint_114 rfl ?_
      refine rr_aload_n dX9_hint_115 rfl 0 rfl rfl ?_
      refine rr_getI dX9_hint_116 fX9_237 (by decide) rfl rfl rfl ?_
      refine rr_iadd dX9_hint_119 rfl ?_
      refine rr_iconst (v := (1 : Int32)) dX9_hint_120 (by decide) rfl ?_
      refine rr_iadd dX9_hint_121 rfl ?_
      exact rr_iret dX9_hint_122 rfl h
    · have h := h.2 hc
      refine rr_iconst (v := (0 : Int32)) dX9_hint_105 (by decide) rfl ?_
      refine rr_goto (tgt := 122) dX9_hint_106 (by decide) ?_
      exact rr_iret dX9_hint_122 rfl h
  · have h := h.2 hc
    refine rr_aload_n dX9_hint_65 rfl 0 rfl rfl ?_
    refine rr_getR dX9_hint_66 fX9_48 (by decide) rfl rfl rfl ?_
    refine rr_iload_n dX9_hint_69 rfl 1 rfl rfl ?_
    refine rr_aload_n dX9_hint_70 rfl 0 rfl rfl ?_
    refine rr_getI dX9_hint_71 fX9_162 (by decide) rfl rfl rfl ?_
    refine rr_if_lt (tgt := 90) dX9_hint_74 (by decide) rfl ⟨fun hc => ?_, fun hc => ?_⟩
    · have h := h.1 hc
      refine rr_iconst (v := (0 : Int32)) dX9_hint_90 (by decide) rfl ?_
      refine rr_zast dX9_hint_91 (by decide) rfl rfl ⟨h.1, ?_⟩
      refine rr_letI (fun I1 hI1 => ?_)
      have h := h.2 I1 hI1
      refine rr_iinc (k := 1) (v := (v2 + (1 : Int32))) (lv' := [(2, .int (v2 + (1 : Int32))), (0, .ref 0)]) dX9_hint_92 rfl rfl (by decide) rfl rfl ?_
      refine rr_goto (tgt := 59) dX9_hint_95 (by decide) ?_
      exact rr.sub [1, 0] rfl h
    · have h := h.2 hc
      refine rr_aload_n dX9_hint_77 rfl 0 rfl rfl ?_
      refine rr_getR dX9_hint_78 fX9_63 (by decide) rfl rfl rfl ?_
      refine rr_iload_n dX9_hint_81 rfl 1 rfl rfl ?_
      refine rr_zald dX9_hint_82 (by decide) rfl rfl ⟨h.1, ?_⟩
      have h := h.2
      refine rr_if_eq (tgt := 90) dX9_hint_83 (by decide) rfl ⟨fun hc => ?_, fun hc => ?_⟩
      · have h := h.1 hc
        refine rr_iconst (v := (0 : Int32)) dX9_hint_90 (by decide) rfl ?_
        refine rr_zast dX9_hint_91 (by decide) rfl rfl ⟨h.1, ?_⟩
        refine rr_letI (fun I2 hI2 => ?_)
        have h := h.2 I2 hI2
        refine rr_iinc (k := 1) (v := (v2 + (1 : Int32))) (lv' := [(2, .int (v2 + (1 : Int32))), (0, .ref 0)]) dX9_hint_92 rfl rfl (by decide) rfl rfl ?_
        refine rr_goto (tgt := 59) dX9_hint_95 (by decide) ?_
        exact rr.sub [1, 0] rfl h
      · have h := h.2 hc
        refine rr_iconst (v := (1 : Int32)) dX9_hint_86 (by decide) rfl ?_
        refine rr_goto (tgt := 91) dX9_hint_87 (by decide) ?_
        refine rr_zast dX9_hint_91 (by decide) rfl rfl ⟨h.1, ?_⟩
        refine rr_letI (fun I3 hI3 => ?_)
        have h := h.2 I3 hI3
        refine rr_iinc (k := 1) (v := (v2 + (1 : Int32))) (lv' := [(2, .int (v2 + (1 : Int32))), (0, .ref 0)]) dX9_hint_92 rfl rfl (by decide) rfl rfl ?_
        refine rr_goto (tgt := 59) dX9_hint_95 (by decide) ?_
        exact rr.sub [1, 0] rfl h

theorem e_X9_kind {I : tg_I} {J : tg_J} {P : Option Value → tg_I → tg_J → Prop} (h :
  P (some (.int (I 0 16))) I J) : call pgM zX9_kind [.ref 0] I J P := by
  refine call_of (by decide +kernel) (fun _ => Nat.le_of_ble_eq_true rfl) ?_
  show rr pgM zX9_kind 0 [(0, .ref 0)] [] I J P
  refine rr_aload_n dX9_kind_0 rfl 0 rfl rfl ?_
  refine rr_getI dX9_kind_1 fX9_113 (by decide) rfl rfl rfl ?_
  exact rr_iret dX9_kind_4 rfl h

def l_X9_reason_7 (I : tg_I) (J : tg_J) (P : Option Value → tg_I → tg_J → Prop) (v1 : Int32) (v2 : Int32) (v3 : Int32) (v4 : Int32) : Prop := rr pgM zX9_reason 7 [(0, .ref 0), (1, .int v1), (2, .int v2), (3, .int v3), (4, .int v4)] [] I J P
theorem e_X9_reason {I : tg_I} {J : tg_J} {P : Option Value → tg_I → tg_J → Prop} (v1 : Int32) (h :
  l_X9_reason_7 I J P v1 ((0 : Int32)) ((-1 : Int32)) ((0 : Int32))) : call pgM zX9_reason [.ref 0, .int v1] I J P := by
  refine call_of (by decide +kernel) (fun _ => Nat.le_of_ble_eq_true rfl) ?_
  show rr pgM zX9_reason 0 [(0, .ref 0), (1, .int v1)] [] I J P
  refine rr_iconst (v := (0 : Int32)) dX9_reason_0 (by decide) rfl ?_
  refine rr_istore_n (lv' := [(2, .int (0 : Int32)), (0, .ref 0), (1, .int v1)]) dX9_reason_1 rfl (by decide) rfl rfl ?_
  refine rr_iconst (v := (-1 : Int32)) dX9_reason_2 (by decide) rfl ?_
  refine rr_istore_n (lv' := [(3, .int (-1 : Int32)), (2, .int (0 : Int32)), (0, .ref 0), (1, .int v1)]) dX9_reason_3 rfl (by decide) rfl rfl ?_
  refine rr_iconst (v := (0 : Int32)) dX9_reason_4 (by decide) rfl ?_
  refine rr_istore (lv' := [(4, .int (0 : Int32)), (3, .int (-1 : Int32)), (2, .int (0 : Int32)), (0, .ref 0), (1, .int v1)]) dX9_reason_5 (by decide) rfl rfl ?_
  exact rr.sub [3, 4, 2, 1, 0] rfl h
theorem s_X9_reason_7 {I : tg_I} {J : tg_J} {P : Option Value → tg_I → tg_J → Prop} (v1 : Int32) (v2 : Int32) (v3 : Int32) (v4 : Int32) (h :
  ((100 : Int32) ≤ v4 →
   P (some (.int v3)) I J) ∧
  (¬ (100 : Int32) ≤ v4 →
   vp_in v4 101 ∧
    (((I 9 (Int32.toNatClampNeg v4)) = 0 →
     l_X9_reason_7 I J P v1 v2 v3 ((v4 + (1 : Int32)))) ∧
    (¬ (I 9 (Int32.toNatClampNeg v4)) = 0 →
     (¬ v2 = v1 →
       l_X9_reason_7 I J P v1 ((v2 + (1 : Int32))) v3 ((v4 + (1 : Int32)))) ∧
      (v2 = v1 →
       l_X9_reason_7 I J P v1 ((v2 + (1 : Int32))) v4 ((v4 + (1 : Int32)))))))) : l_X9_reason_7 I J P v1 v2 v3 v4 := by
  show rr pgM zX9_reason 7 [(0, .ref 0), (1, .int v1), (2, .int v2), (3, .int v3), (4, .int v4)] [] I J P
  refine rr_iload dX9_reason_7 4 rfl rfl ?_
  refine rr_bipush (v := (100 : Int32)) dX9_reason_9 (by decide) rfl ?_
  refine rr_icmp_ge (tgt := 45) dX9_reason_11 (by decide) rfl ⟨fun hc => ?_, fun hc => ?_⟩
  · have h := h.1 hc
    refine rr_iload_n dX9_reason_45 rfl 3 rfl rfl ?_
    exact rr_iret dX9_reason_46 rfl h
  · have h := h.2 hc
    refine rr_aload_n dX9_reason_14 rfl 0 rfl rfl ?_
    refine rr_getR dX9_reason_15 fX9_48 (by decide) rfl rfl rfl ?_
    refine rr_iload dX9_reason_18 4 rfl rfl ?_
    refine rr_zald dX9_reason_20 (by decide) rfl rfl ⟨h.1, ?_⟩
    have h := h.2
    refine rr_if_eq (tgt := 39) dX9_reason_21 (by decide) rfl ⟨fun hc => ?_, fun hc => ?_⟩
    · have h := h.1 hc
      refine rr_iinc (k := 4) (v := (v4 + (1 : Int32))) (lv' := [(4, .int (v4 + (1 : Int32))), (0, .ref 0), (1, .int v1), (2, .int v2), (3, .int v3)]) dX9_reason_39 rfl rfl (by decide) rfl rfl ?_
      refine rr_goto (tgt := 7) dX9_reason_42 (by decide) ?_
      exact rr.sub [1, 2, 3, 4, 0] rfl h
    · have h := h.2 hc
      refine rr_iload_n dX9_reason_24 rfl 2 rfl rfl ?_
      refine rr_iload_n dX9_reason_25 rfl 1 rfl rfl ?_
      refine rr_icmp_ne (tgt := 34) dX9_reason_26 (by decide) rfl ⟨fun hc => ?_, fun hc => ?_⟩
      · have h := h.1 hc
        refine rr_iload_n dX9_reason_34 rfl 3 rfl rfl ?_
        refine rr_istore_n (lv' := [(3, .int v3), (0, .ref 0), (1, .int v1), (2, .int v2), (4, .int v4)]) dX9_reason_35 rfl (by decide) rfl rfl ?_
        refine rr_iinc (k := 3) (v := (v2 + (1 : Int32))) (lv' := [(2, .int (v2 + (1 : Int32))), (3, .int v3), (0, .ref 0), (1, .int v1), (4, .int v4)]) dX9_reason_36 rfl rfl (by decide) rfl rfl ?_
        refine rr_iinc (k := 4) (v := (v4 + (1 : Int32))) (lv' := [(4, .int (v4 + (1 : Int32))), (2, .int (v2 + (1 : Int32))), (3, .int v3), (0, .ref 0), (1, .int v1)]) dX9_reason_39 rfl rfl (by decide) rfl rfl ?_
        refine rr_goto (tgt := 7) dX9_reason_42 (by decide) ?_
        exact rr.sub [3, 4, 1, 2, 0] rfl h
      · have h := h.2 hc
        refine rr_iload dX9_reason_29 4 rfl rfl ?_
        refine rr_goto (tgt := 35) dX9_reason_31 (by decide) ?_
        refine rr_istore_n (lv' := [(3, .int v4), (0, .ref 0), (1, .int v1), (2, .int v2), (4, .int v4)]) dX9_reason_35 rfl (by decide) rfl rfl ?_
        refine rr_iinc (k := 3) (v := (v2 + (1 : Int32))) (lv' := [(2, .int (v2 + (1 : Int32))), (3, .int v4), (0, .ref 0), (1, .int v1), (4, .int v4)]) dX9_reason_36 rfl rfl (by decide) rfl rfl ?_
        refine rr_iinc (k := 4) (v := (v4 + (1 : Int32))) (lv' := [(4, .int (v4 + (1 : Int32))), (2, .int (v2 + (1 : Int32))), (3, .int v4), (0, .ref 0), (1, .int v1)]) dX9_reason_39 rfl rfl (by decide) rfl rfl ?_
        refine rr_goto (tgt := 7) dX9_reason_42 (by decide) ?_
        exact rr.sub [3, 4, 1, 2, 0] rfl h

theorem e_X9_total {I : tg_I} {J : tg_J} {P : Option Value → tg_I → tg_J → Prop} (h :
  vp_in (100 : Int32) 101 ∧
  (narrow .boolean (.int (I 9 (Int32.toNatClampNeg (100 : Int32)))) = .int (I 9 (Int32.toNatClampNeg (100 : Int32))) ∧ P (some (.int (I 9 (Int32.toNatClampNeg (100 : Int32))))) I J)) : call pgM zX9_total [.ref 0] I J P := by
  refine call_of (by decide +kernel) (fun _ => Nat.le_of_ble_eq_true rfl) ?_
  show rr pgM zX9_total 0 [(0, .ref 0)] [] I J P
  refine rr_aload_n dX9_total_0 rfl 0 rfl rfl ?_
  refine rr_getR dX9_total_1 fX9_48 (by decide) rfl rfl rfl ?_
  refine rr_bipush (v := (100 : Int32)) dX9_total_4 (by decide) rfl ?_
  refine rr_zald dX9_total_6 (by decide) rfl rfl ⟨h.1, ?_⟩
  have h := h.2
  exact rr_zret dX9_total_7 rfl h.1 h.2

def l_X9_take_4 (I : tg_I) (J : tg_J) (P : Option Value → tg_I → tg_J → Prop) (v1 : Int32) (v2 : Int32) : Prop := rr pgM zX9_take 4 [(0, .ref 0), (1, .int v1), (2, .int v2)] [] I J P
theorem e_X9_take {I : tg_I} {J : tg_J} {P : Option Value → tg_I → tg_J → Prop} (h :
  l_X9_take_4 I J P ((0 : Int32)) ((0 : Int32))) : call pgM zX9_take [.ref 0] I J P := by
  refine call_of (by decide +kernel) (fun _ => Nat.le_of_ble_eq_true rfl) ?_
  show rr pgM zX9_take 0 [(0, .ref 0)] [] I J P
  refine rr_iconst (v := (0 : Int32)) dX9_take_0 (by decide) rfl ?_
  refine rr_istore_n (lv' := [(1, .int (0 : Int32)), (0, .ref 0)]) dX9_take_1 rfl (by decide) rfl rfl ?_
  refine rr_iconst (v := (0 : Int32)) dX9_take_2 (by decide) rfl ?_
  refine rr_istore_n (lv' := [(2, .int (0 : Int32)), (1, .int (0 : Int32)), (0, .ref 0)]) dX9_take_3 rfl (by decide) rfl rfl ?_
  exact rr.sub [2, 1, 0] rfl h
theorem s_X9_take_4 {I : tg_I} {J : tg_J} {P : Option Value → tg_I → tg_J → Prop} (v1 : Int32) (v2 : Int32) (h :
  ((101 : Int32) ≤ v2 →
   P (some (.int v1)) I J) ∧
  (¬ (101 : Int32) ≤ v2 →
   vp_in v2 101 ∧
    (vp_in v2 101 ∧ ∀ I1, I1 = u2 I 10 (Int32.toNatClampNeg v2) (vp_nar .boolean (I 9 (Int32.toNatClampNeg v2))) →
    ((100 : Int32) ≤ v2 →
     l_X9_take_4 I1 J P ((v1 + (0 : Int32))) ((v2 + (1 : Int32)))) ∧
    (¬ (100 : Int32) ≤ v2 →
     vp_in v2 101 ∧
      (((I1 10 (Int32.toNatClampNeg v2)) = 0 →
       l_X9_take_4 I1 J P ((v1 + (0 : Int32))) ((v2 + (1 : Int32)))) ∧
      (¬ (I1 10 (Int32.toNatClampNeg v2)) = 0 →
       l_X9_take_4 I1 J P ((v1 + (1 : Int32))) ((v2 + (1 : Int32))))))))) : l_X9_take_4 I J P v1 v2 := by
  show rr pgM zX9_take 4 [(0, .ref 0), (1, .int v1), (2, .int v2)] [] I J P
  refine rr_iload_n dX9_take_4 rfl 2 rfl rfl ?_
  refine rr_bipush (v := (101 : Int32)) dX9_take_5 (by decide) rfl ?_
  refine rr_icmp_ge (tgt := 51) dX9_take_7 (by decide) rfl ⟨fun hc => ?_, fun hc => ?_⟩
  · have h := h.1 hc
    refine rr_iload_n dX9_take_51 rfl 1 rfl rfl ?_
    exact rr_iret dX9_take_52 rfl h
  · have h := h.2 hc
    refine rr_aload_n dX9_take_10 rfl 0 rfl rfl ?_
    refine rr_getR dX9_take_11 fX9_51 (by decide) rfl rfl rfl ?_
    refine rr_iload_n dX9_take_14 rfl 2 rfl rfl ?_
    refine rr_aload_n dX9_take_15 rfl 0 rfl rfl ?_
    refine rr_getR dX9_take_16 fX9_48 (by decide) rfl rfl rfl ?_
    refine rr_iload_n dX9_take_19 rfl 2 rfl rfl ?_
    refine rr_zald dX9_take_20 (by decide) rfl rfl ⟨h.1, ?_⟩
    have h := h.2
    refine rr_zast dX9_take_21 (by decide) rfl rfl ⟨h.1, ?_⟩
    refine rr_letI (fun I1 hI1 => ?_)
    have h := h.2 I1 hI1
    refine rr_iload_n dX9_take_22 rfl 1 rfl rfl ?_
    refine rr_iload_n dX9_take_23 rfl 2 rfl rfl ?_
    refine rr_bipush (v := (100 : Int32)) dX9_take_24 (by decide) rfl ?_
    refine rr_icmp_ge (tgt := 42) dX9_take_26 (by decide) rfl ⟨fun hc => ?_, fun hc => ?_⟩
    · have h := h.1 hc
      refine rr_iconst (v := (0 : Int32)) dX9_take_42 (by decide) rfl ?_
      refine rr_iadd dX9_take_43 rfl ?_
      refine rr_istore_n (lv' := [(1, .int (v1 + (0 : Int32))), (0, .ref 0), (2, .int v2)]) dX9_take_44 rfl (by decide) rfl rfl ?_
      refine rr_iinc (k := 2) (v := (v2 + (1 : Int32))) (lv' := [(2, .int (v2 + (1 : Int32))), (1, .int (v1 + (0 : Int32))), (0, .ref 0)]) dX9_take_45 rfl rfl (by decide) rfl rfl ?_
      refine rr_goto (tgt := 4) dX9_take_48 (by decide) ?_
      exact rr.sub [2, 1, 0] rfl h
    · have h := h.2 hc
      refine rr_aload_n dX9_take_29 rfl 0 rfl rfl ?_
      refine rr_getR dX9_take_30 fX9_51 (by decide) rfl rfl rfl ?_
      refine rr_iload_n dX9_take_33 rfl 2 rfl rfl ?_
      refine rr_zald dX9_take_34 (by decide) rfl rfl ⟨h.1, ?_⟩
      have h := h.2
      refine rr_if_eq (tgt := 42) dX9_take_35 (by decide) rfl ⟨fun hc => ?_, fun hc => ?_⟩
      · have h := h.1 hc
        refine rr_iconst (v := (0 : Int32)) dX9_take_42 (by decide) rfl ?_
        refine rr_iadd dX9_take_43 rfl ?_
        refine rr_istore_n (lv' := [(1, .int (v1 + (0 : Int32))), (0, .ref 0), (2, .int v2)]) dX9_take_44 rfl (by decide) rfl rfl ?_
        refine rr_iinc (k := 2) (v := (v2 + (1 : Int32))) (lv' := [(2, .int (v2 + (1 : Int32))), (1, .int (v1 + (0 : Int32))), (0, .ref 0)]) dX9_take_45 rfl rfl (by decide) rfl rfl ?_
        refine rr_goto (tgt := 4) dX9_take_48 (by decide) ?_
        exact rr.sub [2, 1, 0] rfl h
      · have h := h.2 hc
        refine rr_iconst (v := (1 : Int32)) dX9_take_38 (by decide) rfl ?_
        refine rr_goto (tgt := 43) dX9_take_39 (by decide) ?_
        refine rr_iadd dX9_take_43 rfl ?_
        refine rr_istore_n (lv' := [(1, .int (v1 + (1 : Int32))), (0, .ref 0), (2, .int v2)]) dX9_take_44 rfl (by decide) rfl rfl ?_
        refine rr_iinc (k := 2) (v := (v2 + (1 : Int32))) (lv' := [(2, .int (v2 + (1 : Int32))), (1, .int (v1 + (1 : Int32))), (0, .ref 0)]) dX9_take_45 rfl rfl (by decide) rfl rfl ?_
        refine rr_goto (tgt := 4) dX9_take_48 (by decide) ?_
        exact rr.sub [2, 1, 0] rfl h

theorem e_X9_change {I : tg_I} {J : tg_J} {P : Option Value → tg_I → tg_J → Prop} (v1 : Int32) (v2 : Int32) (h :
  vp_in v1 101 ∧
  ((¬ (I 10 (Int32.toNatClampNeg v1)) = v2 →
   vp_in v1 101 ∧ ∀ I1, I1 = u2 I 10 (Int32.toNatClampNeg v1) (vp_nar .boolean v2) →
    P (some (.int (1 : Int32))) I1 J) ∧
  ((I 10 (Int32.toNatClampNeg v1)) = v2 →
   vp_in v1 101 ∧ ∀ I2, I2 = u2 I 10 (Int32.toNatClampNeg v1) (vp_nar .boolean v2) →
    P (some (.int (0 : Int32))) I2 J))) : call pgM zX9_change [.ref 0, .int v1, .int v2] I J P := by
  refine call_of (by decide +kernel) (fun _ => Nat.le_of_ble_eq_true rfl) ?_
  show rr pgM zX9_change 0 [(0, .ref 0), (1, .int v1), (2, .int v2)] [] I J P
  refine rr_aload_n dX9_change_0 rfl 0 rfl rfl ?_
  refine rr_getR dX9_change_1 fX9_51 (by decide) rfl rfl rfl ?_
  refine rr_iload_n dX9_change_4 rfl 1 rfl rfl ?_
  refine rr_zald dX9_change_5 (by decide) rfl rfl ⟨h.1, ?_⟩
  have h := h.2
  refine rr_iload_n dX9_change_6 rfl 2 rfl rfl ?_
  refine rr_icmp_ne (tgt := 14) dX9_change_7 (by decide) rfl ⟨fun hc => ?_, fun hc => ?_⟩
  · have h := h.1 hc
    refine rr_iconst (v := (1 : Int32)) dX9_change_14 (by decide) rfl ?_
    refine rr_istore_n (lv' := [(3, .int (1 : Int32)), (0, .ref 0), (1, .int v1), (2, .int v2)]) dX9_change_15 rfl (by decide) rfl rfl ?_
    refine rr_aload_n dX9_change_16 rfl 1 rfl rfl ?_
    refine rr_getR dX9_change_17 fX9_51 (by decide) rfl rfl rfl ?_
    refine rr_iload_n dX9_change_20 rfl 2 rfl rfl ?_
    refine rr_iload_n dX9_change_21 rfl 3 rfl rfl ?_
    refine rr_zast dX9_change_22 (by decide) rfl rfl ⟨h.1, ?_⟩
    refine rr_letI (fun I1 hI1 => ?_)
    have h := h.2 I1 hI1
    refine rr_iload_n dX9_change_23 rfl 0 rfl rfl ?_
    exact rr_iret dX9_change_24 rfl h
  · have h := h.2 hc
    refine rr_iconst (v := (0 : Int32)) dX9_change_10 (by decide) rfl ?_
    refine rr_goto (tgt := 15) dX9_change_11 (by decide) ?_
    refine rr_istore_n (lv' := [(3, .int (0 : Int32)), (0, .ref 0), (1, .int v1), (2, .int v2)]) dX9_change_15 rfl (by decide) rfl rfl ?_
    refine rr_aload_n dX9_change_16 rfl 1 rfl rfl ?_
    refine rr_getR dX9_change_17 fX9_51 (by decide) rfl rfl rfl ?_
    refine rr_iload_n dX9_change_20 rfl 2 rfl rfl ?_
    refine rr_iload_n dX9_change_21 rfl 3 rfl rfl ?_
    refine rr_zast dX9_change_22 (by decide) rfl rfl ⟨h.1, ?_⟩
    refine rr_letI (fun I2 hI2 => ?_)
    have h := h.2 I2 hI2
    refine rr_iload_n dX9_change_23 rfl 0 rfl rfl ?_
    exact rr_iret dX9_change_24 rfl h

theorem e_X9_tell {I : tg_I} {J : tg_J} {P : Option Value → tg_I → tg_J → Prop} (v1 : Int32) (v2 : Int32) (h :
  call pgM zX9_isCell [.ref 0, .int v1] I J (fun vr I1 J1 => ∃ r1 : Int32, vr = some (.int r1) ∧
  ((r1 = 0 →
   P (some (.int (-1 : Int32))) I1 J1) ∧
  (¬ r1 = 0 →
   call pgM zX9_change [.ref 0, .int v1, .int v2] I1 J1 (fun vr I2 J2 => ∃ r2 : Int32, vr = some (.int r2) ∧
    (P (some (.int r2)) I2 J2)))))) : call pgM zX9_tell [.ref 0, .int v1, .int v2] I J P := by
  refine call_of (by decide +kernel) (fun _ => Nat.le_of_ble_eq_true rfl) ?_
  show rr pgM zX9_tell 0 [(0, .ref 0), (1, .int v1), (2, .int v2)] [] I J P
  refine rr_aload_n dX9_tell_0 rfl 0 rfl rfl ?_
  refine rr_iload_n dX9_tell_1 rfl 1 rfl rfl ?_
  refine rr_V [.int v1] [] dX9_tell_2 kX9_isCell mX9_126 ⟨by decide, by decide⟩ (by decide) rfl rfl rfl (Nat.le_of_ble_eq_true rfl) rfl (h.mono fun vr I1 J1 h => ?_)
  obtain ⟨r1, rfl, h⟩ := h
  show rr pgM zX9_tell 5 _ [.int r1] _ _ _
  refine rr_if_eq (tgt := 17) dX9_tell_5 (by decide) rfl ⟨fun hc => ?_, fun hc => ?_⟩
  · have h := h.1 hc
    refine rr_iconst (v := (-1 : Int32)) dX9_tell_17 (by decide) rfl ?_
    exact rr_iret dX9_tell_18 rfl h
  · have h := h.2 hc
    refine rr_aload_n dX9_tell_8 rfl 0 rfl rfl ?_
    refine rr_iload_n dX9_tell_9 rfl 1 rfl rfl ?_
    refine rr_iload_n dX9_tell_10 rfl 2 rfl rfl ?_
    refine rr_V [.int v1, .int v2] [] dX9_tell_11 kX9_change mX9_240 ⟨by decide, by decide⟩ (by decide) rfl rfl rfl (Nat.le_of_ble_eq_true rfl) rfl (h.mono fun vr I2 J2 h => ?_)
    obtain ⟨r2, rfl, h⟩ := h
    show rr pgM zX9_tell 14 _ [.int r2] _ _ _
    refine rr_goto (tgt := 18) dX9_tell_14 (by decide) ?_
    exact rr_iret dX9_tell_18 rfl h

theorem e_X9_name {I : tg_I} {J : tg_J} {P : Option Value → tg_I → tg_J → Prop} (v1 : Int32) (h :
  call pgM zX9_change [.ref 0, .int (100 : Int32), .int v1] I J (fun vr I1 J1 => ∃ r1 : Int32, vr = some (.int r1) ∧
  (P (some (.int r1)) I1 J1))) : call pgM zX9_name [.ref 0, .int v1] I J P := by
  refine call_of (by decide +kernel) (fun _ => Nat.le_of_ble_eq_true rfl) ?_
  show rr pgM zX9_name 0 [(0, .ref 0), (1, .int v1)] [] I J P
  refine rr_aload_n dX9_name_0 rfl 0 rfl rfl ?_
  refine rr_bipush (v := (100 : Int32)) dX9_name_1 (by decide) rfl ?_
  refine rr_iload_n dX9_name_3 rfl 1 rfl rfl ?_
  refine rr_V [.int (100 : Int32), .int v1] [] dX9_name_4 kX9_change mX9_240 ⟨by decide, by decide⟩ (by decide) rfl rfl rfl (Nat.le_of_ble_eq_true rfl) rfl (h.mono fun vr I1 J1 h => ?_)
  obtain ⟨r1, rfl, h⟩ := h
  show rr pgM zX9_name 7 _ [.int r1] _ _ _
  exact rr_iret dX9_name_7 rfl h

def l_X9_bits_4 (I : tg_I) (J : tg_J) (P : Option Value → tg_I → tg_J → Prop) (v0 : Int32) (v1 : Int32) (v2 : Int32) : Prop := rr pgM zX9_bits 4 [(0, .int v0), (1, .int v1), (2, .int v2)] [] I J P
theorem e_X9_bits {I : tg_I} {J : tg_J} {P : Option Value → tg_I → tg_J → Prop} (v0 : Int32) (h :
  l_X9_bits_4 I J P v0 ((0 : Int32)) ((0 : Int32))) : call pgM zX9_bits [.int v0] I J P := by
  refine call_of (by decide +kernel) (fun _ => Nat.le_of_ble_eq_true rfl) ?_
  show rr pgM zX9_bits 0 [(0, .int v0)] [] I J P
  refine rr_iconst (v := (0 : Int32)) dX9_bits_0 (by decide) rfl ?_
  refine rr_istore_n (lv' := [(1, .int (0 : Int32)), (0, .int v0)]) dX9_bits_1 rfl (by decide) rfl rfl ?_
  refine rr_iconst (v := (0 : Int32)) dX9_bits_2 (by decide) rfl ?_
  refine rr_istore_n (lv' := [(2, .int (0 : Int32)), (1, .int (0 : Int32)), (0, .int v0)]) dX9_bits_3 rfl (by decide) rfl rfl ?_
  exact rr.sub [2, 1, 0] rfl h
theorem s_X9_bits_4 {I : tg_I} {J : tg_J} {P : Option Value → tg_I → tg_J → Prop} (v0 : Int32) (v1 : Int32) (v2 : Int32) (h :
  ((31 : Int32) ≤ v2 →
   P (some (.int v1)) I J) ∧
  (¬ (31 : Int32) ≤ v2 →
   ∀ x1, x1 = (v1 + ((v0 >>> (v2 &&& 31)) &&& (1 : Int32))) →
    l_X9_bits_4 I J P v0 x1 ((v2 + (1 : Int32))))) : l_X9_bits_4 I J P v0 v1 v2 := by
  show rr pgM zX9_bits 4 [(0, .int v0), (1, .int v1), (2, .int v2)] [] I J P
  refine rr_iload_n dX9_bits_4 rfl 2 rfl rfl ?_
  refine rr_bipush (v := (31 : Int32)) dX9_bits_5 (by decide) rfl ?_
  refine rr_icmp_ge (tgt := 24) dX9_bits_7 (by decide) rfl ⟨fun hc => ?_, fun hc => ?_⟩
  · have h := h.1 hc
    refine rr_iload_n dX9_bits_24 rfl 1 rfl rfl ?_
    exact rr_iret dX9_bits_25 rfl h
  · have h := h.2 hc
    refine rr_iload_n dX9_bits_10 rfl 1 rfl rfl ?_
    refine rr_iload_n dX9_bits_11 rfl 0 rfl rfl ?_
    refine rr_iload_n dX9_bits_12 rfl 2 rfl rfl ?_
    refine rr_ishr dX9_bits_13 rfl ?_
    refine rr_iconst (v := (1 : Int32)) dX9_bits_14 (by decide) rfl ?_
    refine rr_iand dX9_bits_15 rfl ?_
    refine rr_iadd dX9_bits_16 rfl ?_
    refine rr_letTi (fun x1 hx1 => ?_)
    have h := h x1 hx1
    refine rr_istore_n (lv' := [(1, .int x1), (0, .int v0), (2, .int v2)]) dX9_bits_17 rfl (by decide) rfl rfl ?_
    refine rr_iinc (k := 2) (v := (v2 + (1 : Int32))) (lv' := [(2, .int (v2 + (1 : Int32))), (1, .int x1), (0, .int v0)]) dX9_bits_18 rfl rfl (by decide) rfl rfl ?_
    refine rr_goto (tgt := 4) dX9_bits_21 (by decide) ?_
    exact rr.sub [2, 1, 0] rfl h

def l_X9_spokenOf_11 (I : tg_I) (J : tg_J) (P : Option Value → tg_I → tg_J → Prop) (v1 : Int32) (v2 : Int32) (v3 : Int32) : Prop := rr pgM zX9_spokenOf 11 [(0, .ref 0), (1, .int v1), (2, .int v2), (3, .int v3)] [] I J P
def l_X9_spokenOf_25 (I : tg_I) (J : tg_J) (P : Option Value → tg_I → tg_J → Prop) (v1 : Int32) (v2 : Int32) (v3 : Int32) (v4 : Int32) (v5 : Int32) : Prop := rr pgM zX9_spokenOf 25 [(0, .ref 0), (1, .int v1), (2, .int v2), (3, .int v3), (4, .int v4), (5, .int v5)] [] I J P
theorem e_X9_spokenOf {I : tg_I} {J : tg_J} {P : Option Value → tg_I → tg_J → Prop} (v1 : Int32) (h :
  vp_in (0 : Int32) 100 ∧ ∀ I1, I1 = u2 I 16 (Int32.toNatClampNeg (0 : Int32)) v1 →
  l_X9_spokenOf_11 I1 J P v1 ((1 : Int32)) ((0 : Int32))) : call pgM zX9_spokenOf [.ref 0, .int v1] I J P := by
  refine call_of (by decide +kernel) (fun _ => Nat.le_of_ble_eq_true rfl) ?_
  show rr pgM zX9_spokenOf 0 [(0, .ref 0), (1, .int v1)] [] I J P
  refine rr_iconst (v := (1 : Int32)) dX9_spokenOf_0 (by decide) rfl ?_
  refine rr_istore_n (lv' := [(2, .int (1 : Int32)), (0, .ref 0), (1, .int v1)]) dX9_spokenOf_1 rfl (by decide) rfl rfl ?_
  refine rr_aload_n dX9_spokenOf_2 rfl 1 rfl rfl ?_
  refine rr_getR dX9_spokenOf_3 fX9_69 (by decide) rfl rfl rfl ?_
  refine rr_iconst (v := (0 : Int32)) dX9_spokenOf_6 (by decide) rfl ?_
  refine rr_iload_n dX9_spokenOf_7 rfl 2 rfl rfl ?_
  refine rr_iast dX9_spokenOf_8 (by decide) rfl rfl ⟨h.1, ?_⟩
  refine rr_letI (fun I1 hI1 => ?_)
  have h := h.2 I1 hI1
  refine rr_iconst (v := (0 : Int32)) dX9_spokenOf_9 (by decide) rfl ?_
  refine rr_istore_n (lv' := [(3, .int (0 : Int32)), (2, .int (1 : Int32)), (0, .ref 0), (1, .int v1)]) dX9_spokenOf_10 rfl (by decide) rfl rfl ?_
  exact rr.sub [2, 3, 1, 0] rfl h
theorem s_X9_spokenOf_11 {I : tg_I} {J : tg_J} {P : Option Value → tg_I → tg_J → Prop} (v1 : Int32) (v2 : Int32) (v3 : Int32) (h :
  ((I 0 3) ≤ v3 →
   P (some (.int v2)) I J) ∧
  (¬ (I 0 3) ≤ v3 →
   l_X9_spokenOf_25 I J P v1 v2 v3 ((0 : Int32)) ((0 : Int32)))) : l_X9_spokenOf_11 I J P v1 v2 v3 := by
  show rr pgM zX9_spokenOf 11 [(0, .ref 0), (1, .int v1), (2, .int v2), (3, .int v3)] [] I J P
  refine rr_iload_n dX9_spokenOf_11 rfl 3 rfl rfl ?_
  refine rr_aload_n dX9_spokenOf_12 rfl 0 rfl rfl ?_
  refine rr_getI dX9_spokenOf_13 fX9_16 (by decide) rfl rfl rfl ?_
  refine rr_icmp_ge (tgt := 118) dX9_spokenOf_16 (by decide) rfl ⟨fun hc => ?_, fun hc => ?_⟩
  · have h := h.1 hc
    refine rr_iload_n dX9_spokenOf_118 rfl 2 rfl rfl ?_
    exact rr_iret dX9_spokenOf_119 rfl h
  · have h := h.2 hc
    refine rr_iconst (v := (0 : Int32)) dX9_spokenOf_19 (by decide) rfl ?_
    refine rr_istore (lv' := [(4, .int (0 : Int32)), (0, .ref 0), (1, .int v1), (2, .int v2), (3, .int v3)]) dX9_spokenOf_20 (by decide) rfl rfl ?_
    refine rr_iconst (v := (0 : Int32)) dX9_spokenOf_22 (by decide) rfl ?_
    refine rr_istore (lv' := [(5, .int (0 : Int32)), (4, .int (0 : Int32)), (0, .ref 0), (1, .int v1), (2, .int v2), (3, .int v3)]) dX9_spokenOf_23 (by decide) rfl rfl ?_
    exact rr.sub [2, 3, 4, 5, 1, 0] rfl h
theorem s_X9_spokenOf_25 {I : tg_I} {J : tg_J} {P : Option Value → tg_I → tg_J → Prop} (v1 : Int32) (v2 : Int32) (v3 : Int32) (v4 : Int32) (v5 : Int32) (h :
  ((I 0 3) ≤ v5 →
   (v4 = 0 →
     l_X9_spokenOf_11 I J P v1 v2 ((v3 + (1 : Int32)))) ∧
    (¬ v4 = 0 →
     vp_in v3 100 ∧
      ((¬ (I 3 (Int32.toNatClampNeg v3)) = 0 →
       l_X9_spokenOf_11 I J P v1 v2 ((v3 + (1 : Int32)))) ∧
      ((I 3 (Int32.toNatClampNeg v3)) = 0 →
       (v3 = v1 →
         l_X9_spokenOf_11 I J P v1 v2 ((v3 + (1 : Int32)))) ∧
        (¬ v3 = v1 →
         vp_in v2 100 ∧ ∀ I1, I1 = u2 I 16 (Int32.toNatClampNeg v2) v3 →
          l_X9_spokenOf_11 I1 J P v1 ((v2 + (1 : Int32))) ((v3 + (1 : Int32)))))))) ∧
  (¬ (I 0 3) ≤ v5 →
   (¬ v4 = 0 →
     l_X9_spokenOf_25 I J P v1 v2 v3 ((1 : Int32)) ((v5 + (1 : Int32)))) ∧
    (v4 = 0 →
     vp_in v5 101 ∧
      (((I 10 (Int32.toNatClampNeg v5)) = 0 →
       l_X9_spokenOf_25 I J P v1 v2 v3 ((0 : Int32)) ((v5 + (1 : Int32)))) ∧
      (¬ (I 10 (Int32.toNatClampNeg v5)) = 0 →
       vp_in v5 100 ∧
        ((¬ (I 3 (Int32.toNatClampNeg v5)) = (1 : Int32) →
         l_X9_spokenOf_25 I J P v1 v2 v3 ((0 : Int32)) ((v5 + (1 : Int32)))) ∧
        ((I 3 (Int32.toNatClampNeg v5)) = (1 : Int32) →
         call pgM zX9_isNear [.ref 0, .int v5, .int v3] I J (fun vr I2 J1 => ∃ r1 : Int32, vr = some (.int r1) ∧
          ((r1 = 0 →
           l_X9_spokenOf_25 I2 J1 P v1 v2 v3 ((0 : Int32)) ((v5 + (1 : Int32)))) ∧
          (¬ r1 = 0 →
           l_X9_spokenOf_25 I2 J1 P v1 v2 v3 ((1 : Int32)) ((v5 + (1 : Int32))))))))))))) : l_X9_spokenOf_25 I J P v1 v2 v3 v4 v5 := by
  show rr pgM zX9_spokenOf 25 [(0, .ref 0), (1, .int v1), (2, .int v2), (3, .int v3), (4, .int v4), (5, .int v5)] [] I J P
  refine rr_iload dX9_spokenOf_25 5 rfl rfl ?_
  refine rr_aload_n dX9_spokenOf_27 rfl 0 rfl rfl ?_
  refine rr_getI dX9_spokenOf_28 fX9_16 (by decide) rfl rfl rfl ?_
  refine rr_icmp_ge (tgt := 83) dX9_spokenOf_31 (by decide) rfl ⟨fun hc => ?_, fun hc => ?_⟩
  · have h := h.1 hc
    refine rr_iload dX9_spokenOf_83 4 rfl rfl ?_
    refine rr_if_eq (tgt := 112) dX9_spokenOf_85 (by decide) rfl ⟨fun hc => ?_, fun hc => ?_⟩
    · have h := h.1 hc
      refine rr_iinc (k := 3) (v := (v3 + (1 : Int32))) (lv' := [(3, .int (v3 + (1 : Int32))), (0, .ref 0), (1, .int v1), (2, .int v2), (4, .int v4), (5, .int v5)]) dX9_spokenOf_112 rfl rfl (by decide) rfl rfl ?_
      refine rr_goto (tgt := 11) dX9_spokenOf_115 (by decide) ?_
      exact rr.sub [1, 2, 3, 0] rfl h
    · have h := h.2 hc
      refine rr_aload_n dX9_spokenOf_88 rfl 0 rfl rfl ?_
      refine rr_getR dX9_spokenOf_89 fX9_26 (by decide) rfl rfl rfl ?_
      refine rr_iload_n dX9_spokenOf_92 rfl 3 rfl rfl ?_
      refine rr_iald dX9_spokenOf_93 (by decide) rfl rfl ⟨h.1, ?_⟩
      have h := h.2
      refine rr_if_ne (tgt := 112) dX9_spokenOf_94 (by decide) rfl ⟨fun hc => ?_, fun hc => ?_⟩
      · have h := h.1 hc
        refine rr_iinc (k := 3) (v := (v3 + (1 : Int32))) (lv' := [(3, .int (v3 + (1 : Int32))), (0, .ref 0), (1, .int v1), (2, .int v2), (4, .int v4), (5, .int v5)]) dX9_spokenOf_112 rfl rfl (by decide) rfl rfl ?_
        refine rr_goto (tgt := 11) dX9_spokenOf_115 (by decide) ?_
        exact rr.sub [1, 2, 3, 0] rfl h
      · have h := h.2 hc
        refine rr_iload_n dX9_spokenOf_97 rfl 3 rfl rfl ?_
        refine rr_iload_n dX9_spokenOf_98 rfl 1 rfl rfl ?_
        refine rr_icmp_eq (tgt := 112) dX9_spokenOf_99 (by decide) rfl ⟨fun hc => ?_, fun hc => ?_⟩
        · have h := h.1 hc
          refine rr_iinc (k := 3) (v := (v3 + (1 : Int32))) (lv' := [(3, .int (v3 + (1 : Int32))), (0, .ref 0), (1, .int v1), (2, .int v2), (4, .int v4), (5, .int v5)]) dX9_spokenOf_112 rfl rfl (by decide) rfl rfl ?_
          refine rr_goto (tgt := 11) dX9_spokenOf_115 (by decide) ?_
          exact rr.sub [1, 2, 3, 0] rfl h
        · have h := h.2 hc
          refine rr_aload_n dX9_spokenOf_102 rfl 0 rfl rfl ?_
          refine rr_getR dX9_spokenOf_103 fX9_69 (by decide) rfl rfl rfl ?_
          refine rr_iload_n dX9_spokenOf_106 rfl 2 rfl rfl ?_
          refine rr_iload_n dX9_spokenOf_107 rfl 3 rfl rfl ?_
          refine rr_iast dX9_spokenOf_108 (by decide) rfl rfl ⟨h.1, ?_⟩
          refine rr_letI (fun I1 hI1 => ?_)
          have h := h.2 I1 hI1
          refine rr_iinc (k := 2) (v := (v2 + (1 : Int32))) (lv' := [(2, .int (v2 + (1 : Int32))), (0, .ref 0), (1, .int v1), (3, .int v3), (4, .int v4), (5, .int v5)]) dX9_spokenOf_109 rfl rfl (by decide) rfl rfl ?_
          refine rr_iinc (k := 3) (v := (v3 + (1 : Int32))) (lv' := [(3, .int (v3 + (1 : Int32))), (2, .int (v2 + (1 : Int32))), (0, .ref 0), (1, .int v1), (4, .int v4), (5, .int v5)]) dX9_spokenOf_112 rfl rfl (by decide) rfl rfl ?_
          refine rr_goto (tgt := 11) dX9_spokenOf_115 (by decide) ?_
          exact rr.sub [2, 3, 1, 0] rfl h
  · have h := h.2 hc
    refine rr_iload dX9_spokenOf_34 4 rfl rfl ?_
    refine rr_if_ne (tgt := 70) dX9_spokenOf_36 (by decide) rfl ⟨fun hc => ?_, fun hc => ?_⟩
    · have h := h.1 hc
      refine rr_iconst (v := (1 : Int32)) dX9_spokenOf_70 (by decide) rfl ?_
      refine rr_goto (tgt := 75) dX9_spokenOf_71 (by decide) ?_
      refine rr_istore (lv' := [(4, .int (1 : Int32)), (0, .ref 0), (1, .int v1), (2, .int v2), (3, .int v3), (5, .int v5)]) dX9_spokenOf_75 (by decide) rfl rfl ?_
      refine rr_iinc (k := 5) (v := (v5 + (1 : Int32))) (lv' := [(5, .int (v5 + (1 : Int32))), (4, .int (1 : Int32)), (0, .ref 0), (1, .int v1), (2, .int v2), (3, .int v3)]) dX9_spokenOf_77 rfl rfl (by decide) rfl rfl ?_
      refine rr_goto (tgt := 25) dX9_spokenOf_80 (by decide) ?_
      exact rr.sub [2, 3, 4, 5, 1, 0] rfl h
    · have h := h.2 hc
      refine rr_aload_n dX9_spokenOf_39 rfl 0 rfl rfl ?_
      refine rr_getR dX9_spokenOf_40 fX9_51 (by decide) rfl rfl rfl ?_
      refine rr_iload dX9_spokenOf_43 5 rfl rfl ?_
      refine rr_zald dX9_spokenOf_45 (by decide) rfl rfl ⟨h.1, ?_⟩
      have h := h.2
      refine rr_if_eq (tgt := 74) dX9_spokenOf_46 (by decide) rfl ⟨fun hc => ?_, fun hc => ?_⟩
      · have h := h.1 hc
        refine rr_iconst (v := (0 : Int32)) dX9_spokenOf_74 (by decide) rfl ?_
        refine rr_istore (lv' := [(4, .int (0 : Int32)), (0, .ref 0), (1, .int v1), (2, .int v2), (3, .int v3), (5, .int v5)]) dX9_spokenOf_75 (by decide) rfl rfl ?_
        refine rr_iinc (k := 5) (v := (v5 + (1 : Int32))) (lv' := [(5, .int (v5 + (1 : Int32))), (4, .int (0 : Int32)), (0, .ref 0), (1, .int v1), (2, .int v2), (3, .int v3)]) dX9_spokenOf_77 rfl rfl (by decide) rfl rfl ?_
        refine rr_goto (tgt := 25) dX9_spokenOf_80 (by decide) ?_
        exact rr.sub [2, 3, 4, 5, 1, 0] rfl h
      · have h := h.2 hc
        refine rr_aload_n dX9_spokenOf_49 rfl 0 rfl rfl ?_
        refine rr_getR dX9_spokenOf_50 fX9_26 (by decide) rfl rfl rfl ?_
        refine rr_iload dX9_spokenOf_53 5 rfl rfl ?_
        refine rr_iald dX9_spokenOf_55 (by decide) rfl rfl ⟨h.1, ?_⟩
        have h := h.2
        refine rr_iconst (v := (1 : Int32)) dX9_spokenOf_56 (by decide) rfl ?_
        refine rr_icmp_ne (tgt := 74) dX9_spokenOf_57 (by decide) rfl ⟨fun hc => ?_, fun hc => ?_⟩
        · have h := h.1 hc
          refine rr_iconst (v := (0 : Int32)) dX9_spokenOf_74 (by decide) rfl ?_
          refine rr_istore (lv' := [(4, .int (0 : Int32)), (0, .ref 0), (1, .int v1), (2, .int v2), (3, .int v3), (5, .int v5)]) dX9_spokenOf_75 (by decide) rfl rfl ?_
          refine rr_iinc (k := 5) (v := (v5 + (1 : Int32))) (lv' := [(5, .int (v5 + (1 : Int32))), (4, .int (0 : Int32)), (0, .ref 0), (1, .int v1), (2, .int v2), (3, .int v3)]) dX9_spokenOf_77 rfl rfl (by decide) rfl rfl ?_
          refine rr_goto (tgt := 25) dX9_spokenOf_80 (by decide) ?_
          exact rr.sub [2, 3, 4, 5, 1, 0] rfl h
        · have h := h.2 hc
          refine rr_aload_n dX9_spokenOf_60 rfl 0 rfl rfl ?_
          refine rr_iload dX9_spokenOf_61 5 rfl rfl ?_
          refine rr_iload_n dX9_spokenOf_63 rfl 3 rfl rfl ?_
          refine rr_V [.int v5, .int v3] [] dX9_spokenOf_64 kX9_isNear mX9_138 ⟨by decide, by decide⟩ (by decide) rfl rfl rfl (Nat.le_of_ble_eq_true rfl) rfl (h.mono fun vr I2 J1 h => ?_)
          obtain ⟨r1, rfl, h⟩ := h
          show rr pgM zX9_spokenOf 67 _ [.int r1] _ _ _
          refine rr_if_eq (tgt := 74) dX9_spokenOf_67 (by decide) rfl ⟨fun hc => ?_, fun hc => ?_⟩
          · have h := h.1 hc
            refine rr_iconst (v := (0 : Int32)) dX9_spokenOf_74 (by decide) rfl ?_
            refine rr_istore (lv' := [(4, .int (0 : Int32)), (0, .ref 0), (1, .int v1), (2, .int v2), (3, .int v3), (5, .int v5)]) dX9_spokenOf_75 (by decide) rfl rfl ?_
            refine rr_iinc (k := 5) (v := (v5 + (1 : Int32))) (lv' := [(5, .int (v5 + (1 : Int32))), (4, .int (0 : Int32)), (0, .ref 0), (1, .int v1), (2, .int v2), (3, .int v3)]) dX9_spokenOf_77 rfl rfl (by decide) rfl rfl ?_
            refine rr_goto (tgt := 25) dX9_spokenOf_80 (by decide) ?_
            exact rr.sub [2, 3, 4, 5, 1, 0] rfl h
          · have h := h.2 hc
            refine rr_iconst (v := (1 : Int32)) dX9_spokenOf_70 (by decide) rfl ?_
            refine rr_goto (tgt := 75) dX9_spokenOf_71 (by decide) ?_
            refine rr_istore (lv' := [(4, .int (1 : Int32)), (0, .ref 0), (1, .int v1), (2, .int v2), (3, .int v3), (5, .int v5)]) dX9_spokenOf_75 (by decide) rfl rfl ?_
            refine rr_iinc (k := 5) (v := (v5 + (1 : Int32))) (lv' := [(5, .int (v5 + (1 : Int32))), (4, .int (1 : Int32)), (0, .ref 0), (1, .int v1), (2, .int v2), (3, .int v3)]) dX9_spokenOf_77 rfl rfl (by decide) rfl rfl ?_
            refine rr_goto (tgt := 25) dX9_spokenOf_80 (by decide) ?_
            exact rr.sub [2, 3, 4, 5, 1, 0] rfl h

def l_X9_check_52 (I : tg_I) (J : tg_J) (P : Option Value → tg_I → tg_J → Prop) (v2 : Int32) (v3 : Int32) (v4 : Int32) (v5 : Int32) : Prop := rr pgM zX9_check 52 [(0, .ref 0), (2, .int v2), (3, .int v3), (4, .int v4), (5, .int v5)] [] I J P
def l_X9_check_192 (I : tg_I) (J : tg_J) (P : Option Value → tg_I → tg_J → Prop) (v2 : Int32) (v3 : Int32) (v4 : Int32) (v5 : Int32) (v6 : Int32) (v7 : Int32) : Prop := rr pgM zX9_check 192 [(0, .ref 0), (2, .int v2), (3, .int v3), (4, .int v4), (5, .int v5), (6, .int v6), (7, .int v7)] [] I J P
def l_X9_check_88 (I : tg_I) (J : tg_J) (P : Option Value → tg_I → tg_J → Prop) (v2 : Int32) (v3 : Int32) (v4 : Int32) (v5 : Int32) (v6 : Int32) (v7 : Int32) : Prop := rr pgM zX9_check 88 [(0, .ref 0), (2, .int v2), (3, .int v3), (4, .int v4), (5, .int v5), (6, .int v6), (7, .int v7)] [] I J P
def l_X9_check_218 (I : tg_I) (J : tg_J) (P : Option Value → tg_I → tg_J → Prop) (v2 : Int32) (v3 : Int32) (v4 : Int32) (v5 : Int32) (v6 : Int32) (v7 : Int32) (v8 : Int32) (v9 : Int32) : Prop := rr pgM zX9_check 218 [(0, .ref 0), (2, .int v2), (3, .int v3), (4, .int v4), (5, .int v5), (6, .int v6), (7, .int v7), (8, .int v8), (9, .int v9)] [] I J P
theorem e_X9_check {I : tg_I} {J : tg_J} {P : Option Value → tg_I → tg_J → Prop} (v1 : Int32) (v2 : Int32) (h :
  call pgM zX9_isCell [.ref 0, .int v1] I J (fun vr I1 J1 => ∃ r1 : Int32, vr = some (.int r1) ∧
  ((r1 = 0 →
   P (some (.int (-1 : Int32))) I1 J1) ∧
  (¬ r1 = 0 →
   (v2 < 0 →
     P (some (.int (-1 : Int32))) I1 J1) ∧
    (¬ v2 < 0 →
     (v2 ≤ (1 : Int32) →
       vp_in v1 100 ∧
        (((I1 3 (Int32.toNatClampNeg v1)) = 0 →
         call pgM zX9_spokenOf [.ref 0, .int v1] I1 J1 (fun vr I2 J2 => ∃ r2 : Int32, vr = some (.int r2) ∧
          ((r2 ≤ (14 : Int32) →
           l_X9_check_52 I2 J2 P v2 r2 ((0 : Int32)) ((0 : Int32))) ∧
          (¬ r2 ≤ (14 : Int32) →
           P (some (.int (-3 : Int32))) I2 J2)))) ∧
        (¬ (I1 3 (Int32.toNatClampNeg v1)) = 0 →
         P (some (.int (-2 : Int32))) I1 J1))) ∧
      (¬ v2 ≤ (1 : Int32) →
       P (some (.int (-1 : Int32))) I1 J1)))))) : call pgM zX9_check [.ref 0, .int v1, .int v2] I J P := by
  refine call_of (by decide +kernel) (fun _ => Nat.le_of_ble_eq_true rfl) ?_
  show rr pgM zX9_check 0 [(0, .ref 0), (1, .int v1), (2, .int v2)] [] I J P
  refine rr_aload_n dX9_check_0 rfl 0 rfl rfl ?_
  refine rr_iload_n dX9_check_1 rfl 1 rfl rfl ?_
  refine rr_V [.int v1] [] dX9_check_2 kX9_isCell mX9_126 ⟨by decide, by decide⟩ (by decide) rfl rfl rfl (Nat.le_of_ble_eq_true rfl) rfl (h.mono fun vr I1 J1 h => ?_)
  obtain ⟨r1, rfl, h⟩ := h
  show rr pgM zX9_check 5 _ [.int r1] _ _ _
  refine rr_if_eq (tgt := 17) dX9_check_5 (by decide) rfl ⟨fun hc => ?_, fun hc => ?_⟩
  · have h := h.1 hc
    refine rr_iconst (v := (-1 : Int32)) dX9_check_17 (by decide) rfl ?_
    exact rr_iret dX9_check_18 rfl h
  · have h := h.2 hc
    refine rr_iload_n dX9_check_8 rfl 2 rfl rfl ?_
    refine rr_if_lt (tgt := 17) dX9_check_9 (by decide) rfl ⟨fun hc => ?_, fun hc => ?_⟩
    · have h := h.1 hc
      refine rr_iconst (v := (-1 : Int32)) dX9_check_17 (by decide) rfl ?_
      exact rr_iret dX9_check_18 rfl h
    · have h := h.2 hc
      refine rr_iload_n dX9_check_12 rfl 2 rfl rfl ?_
      refine rr_iconst (v := (1 : Int32)) dX9_check_13 (by decide) rfl ?_
      refine rr_icmp_le (tgt := 19) dX9_check_14 (by decide) rfl ⟨fun hc => ?_, fun hc => ?_⟩
      · have h := h.1 hc
        refine rr_aload_n dX9_check_19 rfl 0 rfl rfl ?_
        refine rr_getR dX9_check_20 fX9_26 (by decide) rfl rfl rfl ?_
        refine rr_iload_n dX9_check_23 rfl 1 rfl rfl ?_
        refine rr_iald dX9_check_24 (by decide) rfl rfl ⟨h.1, ?_⟩
        have h := h.2
        refine rr_if_eq (tgt := 31) dX9_check_25 (by decide) rfl ⟨fun hc => ?_, fun hc => ?_⟩
        · have h := h.1 hc
          refine rr_aload_n dX9_check_31 rfl 0 rfl rfl ?_
          refine rr_iload_n dX9_check_32 rfl 1 rfl rfl ?_
          refine rr_V [.int v1] [] dX9_check_33 kX9_spokenOf mX9_244 ⟨by decide, by decide⟩ (by decide) rfl rfl rfl (Nat.le_of_ble_eq_true rfl) rfl (h.mono fun vr I2 J2 h => ?_)
          obtain ⟨r2, rfl, h⟩ := h
          show rr pgM zX9_check 36 _ [.int r2] _ _ _
          refine rr_istore_n (lv' := [(3, .int r2), (0, .ref 0), (1, .int v1), (2, .int v2)]) dX9_check_36 rfl (by decide) rfl rfl ?_
          refine rr_iload_n dX9_check_37 rfl 0 rfl rfl ?_
          refine rr_bipush (v := (14 : Int32)) dX9_check_38 (by decide) rfl ?_
          refine rr_icmp_le (tgt := 46) dX9_check_40 (by decide) rfl ⟨fun hc => ?_, fun hc => ?_⟩
          · have h := h.1 hc
            refine rr_iconst (v := (0 : Int32)) dX9_check_46 (by decide) rfl ?_
            refine rr_istore (lv' := [(4, .int (0 : Int32)), (3, .int r2), (0, .ref 0), (1, .int v1), (2, .int v2)]) dX9_check_47 (by decide) rfl rfl ?_
            refine rr_iconst (v := (0 : Int32)) dX9_check_49 (by decide) rfl ?_
            refine rr_istore (lv' := [(5, .int (0 : Int32)), (4, .int (0 : Int32)), (3, .int r2), (0, .ref 0), (1, .int v1), (2, .int v2)]) dX9_check_50 (by decide) rfl rfl ?_
            exact rr.sub [3, 5, 2, 1, 0] rfl h
          · have h := h.2 hc
            refine rr_bipush (v := (-3 : Int32)) dX9_check_43 (by decide) rfl ?_
            exact rr_iret dX9_check_45 rfl h
        · have h := h.2 hc
          refine rr_bipush (v := (-2 : Int32)) dX9_check_28 (by decide) rfl ?_
          exact rr_iret dX9_check_30 rfl h
      · have h := h.2 hc
        refine rr_iconst (v := (-1 : Int32)) dX9_check_17 (by decide) rfl ?_
        exact rr_iret dX9_check_18 rfl h
theorem s_X9_check_52 {I : tg_I} {J : tg_J} {P : Option Value → tg_I → tg_J → Prop} (v2 : Int32) (v3 : Int32) (v4 : Int32) (v5 : Int32) (h :
  ((I 0 3) ≤ v5 →
   call pgM zX9_inState [.ref 0, .int (0 : Int32)] I J (fun vr I1 J1 => ∃ r1 : Int32, vr = some (.int r1) ∧
    (call pgM zX9_mines [.ref 0] I1 J1 (fun vr I2 J2 => ∃ r2 : Int32, vr = some (.int r2) ∧
    (call pgM zX9_inState [.ref 0, .int (2 : Int32)] I2 J2 (fun vr I3 J3 => ∃ r3 : Int32, vr = some (.int r3) ∧
    (l_X9_check_192 I3 J3 P v2 v3 v4 ((r1 - v3)) ((r2 - r3)) ((0 : Int32))))))))) ∧
  (¬ (I 0 3) ≤ v5 →
   vp_in v5 101 ∧
    (((I 10 (Int32.toNatClampNeg v5)) = 0 →
     l_X9_check_52 I J P v2 v3 v4 ((v5 + (1 : Int32)))) ∧
    (¬ (I 10 (Int32.toNatClampNeg v5)) = 0 →
     vp_in v5 100 ∧
      ((¬ (I 3 (Int32.toNatClampNeg v5)) = (1 : Int32) →
       l_X9_check_52 I J P v2 v3 v4 ((v5 + (1 : Int32)))) ∧
      ((I 3 (Int32.toNatClampNeg v5)) = (1 : Int32) →
       l_X9_check_88 I J P v2 v3 v4 v5 ((0 : Int32)) ((0 : Int32)))))))) : l_X9_check_52 I J P v2 v3 v4 v5 := by
  show rr pgM zX9_check 52 [(0, .ref 0), (2, .int v2), (3, .int v3), (4, .int v4), (5, .int v5)] [] I J P
  refine rr_iload dX9_check_52 4 rfl rfl ?_
  refine rr_aload_n dX9_check_54 rfl 0 rfl rfl ?_
  refine rr_getI dX9_check_55 fX9_16 (by decide) rfl rfl rfl ?_
  refine rr_icmp_ge (tgt := 168) dX9_check_58 (by decide) rfl ⟨fun hc => ?_, fun hc => ?_⟩
  · have h := h.1 hc
    refine rr_aload_n dX9_check_168 rfl 0 rfl rfl ?_
    refine rr_iconst (v := (0 : Int32)) dX9_check_169 (by decide) rfl ?_
    refine rr_V [.int (0 : Int32)] [] dX9_check_170 kX9_inState mX9_130 ⟨by decide, by decide⟩ (by decide) rfl rfl rfl (Nat.le_of_ble_eq_true rfl) rfl (h.mono fun vr I1 J1 h => ?_)
    obtain ⟨r1, rfl, h⟩ := h
    show rr pgM zX9_check 173 _ [.int r1] _ _ _
    refine rr_iload_n dX9_check_173 rfl 2 rfl rfl ?_
    refine rr_isub dX9_check_174 rfl ?_
    refine rr_istore (lv' := [(5, .int (r1 - v3)), (0, .ref 0), (2, .int v2), (3, .int v3), (4, .int v4)]) dX9_check_175 (by decide) rfl rfl ?_
    refine rr_aload_n dX9_check_177 rfl 1 rfl rfl ?_
    refine rr_V [] [] dX9_check_178 kX9_mines mX9_134 ⟨by decide, by decide⟩ (by decide) rfl rfl rfl (Nat.le_of_ble_eq_true rfl) rfl (h.mono fun vr I2 J2 h => ?_)
    obtain ⟨r2, rfl, h⟩ := h
    show rr pgM zX9_check 181 _ [.int r2] _ _ _
    refine rr_aload_n dX9_check_181 rfl 1 rfl rfl ?_
    refine rr_iconst (v := (2 : Int32)) dX9_check_182 (by decide) rfl ?_
    refine rr_V [.int (2 : Int32)] [.int r2] dX9_check_183 kX9_inState mX9_130 ⟨by decide, by decide⟩ (by decide) rfl rfl rfl (Nat.le_of_ble_eq_true rfl) rfl (h.mono fun vr I3 J3 h => ?_)
    obtain ⟨r3, rfl, h⟩ := h
    show rr pgM zX9_check 186 _ [.int r3, .int r2] _ _ _
    refine rr_isub dX9_check_186 rfl ?_
    refine rr_istore (lv' := [(6, .int (r2 - r3)), (5, .int (r1 - v3)), (0, .ref 0), (2, .int v2), (3, .int v3), (4, .int v4)]) dX9_check_187 (by decide) rfl rfl ?_
    refine rr_iconst (v := (0 : Int32)) dX9_check_189 (by decide) rfl ?_
    refine rr_istore (lv' := [(7, .int (0 : Int32)), (6, .int (r2 - r3)), (5, .int (r1 - v3)), (0, .ref 0), (2, .int v2), (3, .int v3), (4, .int v4)]) dX9_check_190 (by decide) rfl rfl ?_
    exact rr.sub [3, 4, 5, 6, 2, 1, 0] rfl h
  · have h := h.2 hc
    refine rr_aload_n dX9_check_61 rfl 0 rfl rfl ?_
    refine rr_getR dX9_check_62 fX9_51 (by decide) rfl rfl rfl ?_
    refine rr_iload dX9_check_65 4 rfl rfl ?_
    refine rr_zald dX9_check_67 (by decide) rfl rfl ⟨h.1, ?_⟩
    have h := h.2
    refine rr_if_eq (tgt := 162) dX9_check_68 (by decide) rfl ⟨fun hc => ?_, fun hc => ?_⟩
    · have h := h.1 hc
      refine rr_iinc (k := 4) (v := (v5 + (1 : Int32))) (lv' := [(5, .int (v5 + (1 : Int32))), (0, .ref 0), (2, .int v2), (3, .int v3), (4, .int v4)]) dX9_check_162 rfl rfl (by decide) rfl rfl ?_
      refine rr_goto (tgt := 52) dX9_check_165 (by decide) ?_
      exact rr.sub [1, 2, 3, 4, 0] rfl h
    · have h := h.2 hc
      refine rr_aload_n dX9_check_71 rfl 0 rfl rfl ?_
      refine rr_getR dX9_check_72 fX9_26 (by decide) rfl rfl rfl ?_
      refine rr_iload dX9_check_75 4 rfl rfl ?_
      refine rr_iald dX9_check_77 (by decide) rfl rfl ⟨h.1, ?_⟩
      have h := h.2
      refine rr_iconst (v := (1 : Int32)) dX9_check_78 (by decide) rfl ?_
      refine rr_icmp_ne (tgt := 162) dX9_check_79 (by decide) rfl ⟨fun hc => ?_, fun hc => ?_⟩
      · have h := h.1 hc
        refine rr_iinc (k := 4) (v := (v5 + (1 : Int32))) (lv' := [(5, .int (v5 + (1 : Int32))), (0, .ref 0), (2, .int v2), (3, .int v3), (4, .int v4)]) dX9_check_162 rfl rfl (by decide) rfl rfl ?_
        refine rr_goto (tgt := 52) dX9_check_165 (by decide) ?_
        exact rr.sub [1, 2, 3, 4, 0] rfl h
      · have h := h.2 hc
        refine rr_iconst (v := (0 : Int32)) dX9_check_82 (by decide) rfl ?_
        refine rr_istore (lv' := [(6, .int (0 : Int32)), (0, .ref 0), (2, .int v2), (3, .int v3), (4, .int v4), (5, .int v5)]) dX9_check_83 (by decide) rfl rfl ?_
        refine rr_iconst (v := (0 : Int32)) dX9_check_85 (by decide) rfl ?_
        refine rr_istore (lv' := [(7, .int (0 : Int32)), (6, .int (0 : Int32)), (0, .ref 0), (2, .int v2), (3, .int v3), (4, .int v4), (5, .int v5)]) dX9_check_86 (by decide) rfl rfl ?_
        exact rr.sub [2, 3, 4, 5, 6, 1, 0] rfl h
theorem s_X9_check_192 {I : tg_I} {J : tg_J} {P : Option Value → tg_I → tg_J → Prop} (v2 : Int32) (v3 : Int32) (v4 : Int32) (v5 : Int32) (v6 : Int32) (v7 : Int32) (h :
  (((1 : Int32) <<< (v3 &&& 31)) ≤ v7 →
   P (some (.int (1 : Int32))) I J) ∧
  (¬ ((1 : Int32) <<< (v3 &&& 31)) ≤ v7 →
   ((v7 &&& (1 : Int32)) = v2 →
     l_X9_check_218 I J P v2 v3 v4 v5 v6 v7 ((0 : Int32)) ((0 : Int32))) ∧
    (¬ (v7 &&& (1 : Int32)) = v2 →
     l_X9_check_218 I J P v2 v3 v4 v5 v6 v7 ((1 : Int32)) ((0 : Int32))))) : l_X9_check_192 I J P v2 v3 v4 v5 v6 v7 := by
  show rr pgM zX9_check 192 [(0, .ref 0), (2, .int v2), (3, .int v3), (4, .int v4), (5, .int v5), (6, .int v6), (7, .int v7)] [] I J P
  refine rr_iload dX9_check_192 6 rfl rfl ?_
  refine rr_iconst (v := (1 : Int32)) dX9_check_194 (by decide) rfl ?_
  refine rr_iload_n dX9_check_195 rfl 2 rfl rfl ?_
  refine rr_ishl dX9_check_196 rfl ?_
  refine rr_icmp_ge (tgt := 320) dX9_check_197 (by decide) rfl ⟨fun hc => ?_, fun hc => ?_⟩
  · have h := h.1 hc
    refine rr_iconst (v := (1 : Int32)) dX9_check_320 (by decide) rfl ?_
    exact rr_iret dX9_check_321 rfl h
  · have h := h.2 hc
    refine rr_iload dX9_check_200 6 rfl rfl ?_
    refine rr_iconst (v := (1 : Int32)) dX9_check_202 (by decide) rfl ?_
    refine rr_iand dX9_check_203 rfl ?_
    refine rr_iload_n dX9_check_204 rfl 1 rfl rfl ?_
    refine rr_icmp_eq (tgt := 212) dX9_check_205 (by decide) rfl ⟨fun hc => ?_, fun hc => ?_⟩
    · have h := h.1 hc
      refine rr_iconst (v := (0 : Int32)) dX9_check_212 (by decide) rfl ?_
      refine rr_istore (lv' := [(8, .int (0 : Int32)), (0, .ref 0), (2, .int v2), (3, .int v3), (4, .int v4), (5, .int v5), (6, .int v6), (7, .int v7)]) dX9_check_213 (by decide) rfl rfl ?_
      refine rr_iconst (v := (0 : Int32)) dX9_check_215 (by decide) rfl ?_
      refine rr_istore (lv' := [(9, .int (0 : Int32)), (8, .int (0 : Int32)), (0, .ref 0), (2, .int v2), (3, .int v3), (4, .int v4), (5, .int v5), (6, .int v6), (7, .int v7)]) dX9_check_216 (by decide) rfl rfl ?_
      exact rr.sub [2, 3, 4, 5, 6, 7, 8, 1, 0] rfl h
    · have h := h.2 hc
      refine rr_iconst (v := (1 : Int32)) dX9_check_208 (by decide) rfl ?_
      refine rr_goto (tgt := 213) dX9_check_209 (by decide) ?_
      refine rr_istore (lv' := [(8, .int (1 : Int32)), (0, .ref 0), (2, .int v2), (3, .int v3), (4, .int v4), (5, .int v5), (6, .int v6), (7, .int v7)]) dX9_check_213 (by decide) rfl rfl ?_
      refine rr_iconst (v := (0 : Int32)) dX9_check_215 (by decide) rfl ?_
      refine rr_istore (lv' := [(9, .int (0 : Int32)), (8, .int (1 : Int32)), (0, .ref 0), (2, .int v2), (3, .int v3), (4, .int v4), (5, .int v5), (6, .int v6), (7, .int v7)]) dX9_check_216 (by decide) rfl rfl ?_
      exact rr.sub [2, 3, 4, 5, 6, 7, 8, 1, 0] rfl h
theorem s_X9_check_88 {I : tg_I} {J : tg_J} {P : Option Value → tg_I → tg_J → Prop} (v2 : Int32) (v3 : Int32) (v4 : Int32) (v5 : Int32) (v6 : Int32) (v7 : Int32) (h :
  (v3 ≤ v7 →
   vp_in v4 100 ∧ ∀ I1, I1 = u2 I 24 (Int32.toNatClampNeg v4) v6 →
    call pgM zX9_numberOf [.ref 0, .int v5] I1 J (fun vr I2 J1 => ∃ r1 : Int32, vr = some (.int r1) ∧
    (call pgM zX9_nearState [.ref 0, .int v5, .int (2 : Int32)] I2 J1 (fun vr I3 J2 => ∃ r2 : Int32, vr = some (.int r2) ∧
    (vp_in v4 100 ∧ ∀ I4, I4 = u2 I3 25 (Int32.toNatClampNeg v4) (r1 - r2) →
    l_X9_check_52 I4 J2 P v2 v3 ((v4 + (1 : Int32))) ((v5 + (1 : Int32)))))))) ∧
  (¬ v3 ≤ v7 →
   vp_in v7 100 ∧
    (call pgM zX9_isNear [.ref 0, .int v5, .int (I 16 (Int32.toNatClampNeg v7))] I J (fun vr I5 J3 => ∃ r3 : Int32, vr = some (.int r3) ∧
    ((r3 = 0 →
     l_X9_check_88 I5 J3 P v2 v3 v4 v5 ((v6 + (0 : Int32))) ((v7 + (1 : Int32)))) ∧
    (¬ r3 = 0 →
     ∀ x1, x1 = (v6 + ((1 : Int32) <<< (v7 &&& 31))) →
      l_X9_check_88 I5 J3 P v2 v3 v4 v5 x1 ((v7 + (1 : Int32))))))))) : l_X9_check_88 I J P v2 v3 v4 v5 v6 v7 := by
  show rr pgM zX9_check 88 [(0, .ref 0), (2, .int v2), (3, .int v3), (4, .int v4), (5, .int v5), (6, .int v6), (7, .int v7)] [] I J P
  refine rr_iload dX9_check_88 6 rfl rfl ?_
  refine rr_iload_n dX9_check_90 rfl 2 rfl rfl ?_
  refine rr_icmp_ge (tgt := 129) dX9_check_91 (by decide) rfl ⟨fun hc => ?_, fun hc => ?_⟩
  · have h := h.1 hc
    refine rr_aload_n dX9_check_129 rfl 0 rfl rfl ?_
    refine rr_getR dX9_check_130 fX9_94 (by decide) rfl rfl rfl ?_
    refine rr_iload dX9_check_133 3 rfl rfl ?_
    refine rr_iload dX9_check_135 5 rfl rfl ?_
    refine rr_iast dX9_check_137 (by decide) rfl rfl ⟨h.1, ?_⟩
    refine rr_letI (fun I1 hI1 => ?_)
    have h := h.2 I1 hI1
    refine rr_aload_n dX9_check_138 rfl 0 rfl rfl ?_
    refine rr_getR dX9_check_139 fX9_97 (by decide) rfl rfl rfl ?_
    refine rr_iload dX9_check_142 3 rfl rfl ?_
    refine rr_aload_n dX9_check_144 rfl 0 rfl rfl ?_
    refine rr_iload dX9_check_145 4 rfl rfl ?_
    refine rr_V [.int v5] [.int v4, .ref 25] dX9_check_147 kX9_numberOf mX9_142 ⟨by decide, by decide⟩ (by decide) rfl rfl rfl (Nat.le_of_ble_eq_true rfl) rfl (h.mono fun vr I2 J1 h => ?_)
    obtain ⟨r1, rfl, h⟩ := h
    show rr pgM zX9_check 150 _ [.int r1, .int v4, .ref 25] _ _ _
    refine rr_aload_n dX9_check_150 rfl 0 rfl rfl ?_
    refine rr_iload dX9_check_151 4 rfl rfl ?_
    refine rr_iconst (v := (2 : Int32)) dX9_check_153 (by decide) rfl ?_
    refine rr_V [.int v5, .int (2 : Int32)] [.int r1, .int v4, .ref 25] dX9_check_154 kX9_nearState mX9_165 ⟨by decide, by decide⟩ (by decide) rfl rfl rfl (Nat.le_of_ble_eq_true rfl) rfl (h.mono fun vr I3 J2 h => ?_)
    obtain ⟨r2, rfl, h⟩ := h
    show rr pgM zX9_check 157 _ [.int r2, .int r1, .int v4, .ref 25] _ _ _
    refine rr_isub dX9_check_157 rfl ?_
    refine rr_iast dX9_check_158 (by decide) rfl rfl ⟨h.1, ?_⟩
    refine rr_letI (fun I4 hI4 => ?_)
    have h := h.2 I4 hI4
    refine rr_iinc (k := 3) (v := (v4 + (1 : Int32))) (lv' := [(4, .int (v4 + (1 : Int32))), (0, .ref 0), (2, .int v2), (3, .int v3), (5, .int v5), (6, .int v6), (7, .int v7)]) dX9_check_159 rfl rfl (by decide) rfl rfl ?_
    refine rr_iinc (k := 4) (v := (v5 + (1 : Int32))) (lv' := [(5, .int (v5 + (1 : Int32))), (4, .int (v4 + (1 : Int32))), (0, .ref 0), (2, .int v2), (3, .int v3), (6, .int v6), (7, .int v7)]) dX9_check_162 rfl rfl (by decide) rfl rfl ?_
    refine rr_goto (tgt := 52) dX9_check_165 (by decide) ?_
    exact rr.sub [2, 3, 4, 1, 0] rfl h
  · have h := h.2 hc
    refine rr_iload dX9_check_94 5 rfl rfl ?_
    refine rr_aload_n dX9_check_96 rfl 0 rfl rfl ?_
    refine rr_iload dX9_check_97 4 rfl rfl ?_
    refine rr_aload_n dX9_check_99 rfl 0 rfl rfl ?_
    refine rr_getR dX9_check_100 fX9_69 (by decide) rfl rfl rfl ?_
    refine rr_iload dX9_check_103 6 rfl rfl ?_
    refine rr_iald dX9_check_105 (by decide) rfl rfl ⟨h.1, ?_⟩
    have h := h.2
    refine rr_V [.int v5, .int (I 16 (Int32.toNatClampNeg v7))] [.int v6] dX9_check_106 kX9_isNear mX9_138 ⟨by decide, by decide⟩ (by decide) rfl rfl rfl (Nat.le_of_ble_eq_true rfl) rfl (h.mono fun vr I5 J3 h => ?_)
    obtain ⟨r3, rfl, h⟩ := h
    show rr pgM zX9_check 109 _ [.int r3, .int v6] _ _ _
    refine rr_if_eq (tgt := 119) dX9_check_109 (by decide) rfl ⟨fun hc => ?_, fun hc => ?_⟩
    · have h := h.1 hc
      refine rr_iconst (v := (0 : Int32)) dX9_check_119 (by decide) rfl ?_
      refine rr_iadd dX9_check_120 rfl ?_
      refine rr_istore (lv' := [(6, .int (v6 + (0 : Int32))), (0, .ref 0), (2, .int v2), (3, .int v3), (4, .int v4), (5, .int v5), (7, .int v7)]) dX9_check_121 (by decide) rfl rfl ?_
      refine rr_iinc (k := 6) (v := (v7 + (1 : Int32))) (lv' := [(7, .int (v7 + (1 : Int32))), (6, .int (v6 + (0 : Int32))), (0, .ref 0), (2, .int v2), (3, .int v3), (4, .int v4), (5, .int v5)]) dX9_check_123 rfl rfl (by decide) rfl rfl ?_
      refine rr_goto (tgt := 88) dX9_check_126 (by decide) ?_
      exact rr.sub [2, 3, 4, 5, 6, 1, 0] rfl h
    · have h := h.2 hc
      refine rr_iconst (v := (1 : Int32)) dX9_check_112 (by decide) rfl ?_
      refine rr_iload dX9_check_113 6 rfl rfl ?_
      refine rr_ishl dX9_check_115 rfl ?_
      refine rr_goto (tgt := 120) dX9_check_116 (by decide) ?_
      refine rr_iadd dX9_check_120 rfl ?_
      refine rr_letTi (fun x1 hx1 => ?_)
      have h := h x1 hx1
      refine rr_istore (lv' := [(6, .int x1), (0, .ref 0), (2, .int v2), (3, .int v3), (4, .int v4), (5, .int v5), (7, .int v7)]) dX9_check_121 (by decide) rfl rfl ?_
      refine rr_iinc (k := 6) (v := (v7 + (1 : Int32))) (lv' := [(7, .int (v7 + (1 : Int32))), (6, .int x1), (0, .ref 0), (2, .int v2), (3, .int v3), (4, .int v4), (5, .int v5)]) dX9_check_123 rfl rfl (by decide) rfl rfl ?_
      refine rr_goto (tgt := 88) dX9_check_126 (by decide) ?_
      exact rr.sub [2, 3, 4, 5, 6, 1, 0] rfl h
theorem s_X9_check_218 {I : tg_I} {J : tg_J} {P : Option Value → tg_I → tg_J → Prop} (v2 : Int32) (v3 : Int32) (v4 : Int32) (v5 : Int32) (v6 : Int32) (v7 : Int32) (v8 : Int32) (v9 : Int32) (h :
  (v4 ≤ v9 →
   (v8 = 0 →
     (v8 = 0 →
       l_X9_check_192 I J P v2 v3 v4 v5 v6 ((v7 + (1 : Int32)))) ∧
      (¬ v8 = 0 →
       vp_in (100 : Int32) 101 ∧
        (((I 10 (Int32.toNatClampNeg (100 : Int32))) = 0 →
         P (some (.int (0 : Int32))) I J) ∧
        (¬ (I 10 (Int32.toNatClampNeg (100 : Int32))) = 0 →
         (v5 < (0 : Int32) →
           l_X9_check_192 I J P v2 v3 v4 v5 v6 ((v7 + (1 : Int32)))) ∧
          (¬ v5 < (0 : Int32) →
           P (some (.int (0 : Int32))) I J))))) ∧
    (¬ v8 = 0 →
     call pgM zX9_bits [.int v7] I J (fun vr I1 J1 => ∃ r1 : Int32, vr = some (.int r1) ∧
      ((v8 = 0 →
       l_X9_check_192 I1 J1 P v2 v3 v4 v5 v6 ((v7 + (1 : Int32)))) ∧
      (¬ v8 = 0 →
       vp_in (100 : Int32) 101 ∧
        (((I1 10 (Int32.toNatClampNeg (100 : Int32))) = 0 →
         P (some (.int (0 : Int32))) I1 J1) ∧
        (¬ (I1 10 (Int32.toNatClampNeg (100 : Int32))) = 0 →
         ((v6 - r1) < 0 →
           l_X9_check_192 I1 J1 P v2 v3 v4 v5 v6 ((v7 + (1 : Int32)))) ∧
          (¬ (v6 - r1) < 0 →
           (v5 < (v6 - r1) →
             l_X9_check_192 I1 J1 P v2 v3 v4 v5 v6 ((v7 + (1 : Int32)))) ∧
            (¬ v5 < (v6 - r1) →
             P (some (.int (0 : Int32))) I1 J1))))))))) ∧
  (¬ v4 ≤ v9 →
   (v8 = 0 →
     (v8 = 0 →
       (v8 = 0 →
         l_X9_check_192 I J P v2 v3 v4 v5 v6 ((v7 + (1 : Int32)))) ∧
        (¬ v8 = 0 →
         vp_in (100 : Int32) 101 ∧
          (((I 10 (Int32.toNatClampNeg (100 : Int32))) = 0 →
           P (some (.int (0 : Int32))) I J) ∧
          (¬ (I 10 (Int32.toNatClampNeg (100 : Int32))) = 0 →
           (v5 < (0 : Int32) →
             l_X9_check_192 I J P v2 v3 v4 v5 v6 ((v7 + (1 : Int32)))) ∧
            (¬ v5 < (0 : Int32) →
             P (some (.int (0 : Int32))) I J))))) ∧
      (¬ v8 = 0 →
       call pgM zX9_bits [.int v7] I J (fun vr I2 J2 => ∃ r2 : Int32, vr = some (.int r2) ∧
        ((v8 = 0 →
         l_X9_check_192 I2 J2 P v2 v3 v4 v5 v6 ((v7 + (1 : Int32)))) ∧
        (¬ v8 = 0 →
         vp_in (100 : Int32) 101 ∧
          (((I2 10 (Int32.toNatClampNeg (100 : Int32))) = 0 →
           P (some (.int (0 : Int32))) I2 J2) ∧
          (¬ (I2 10 (Int32.toNatClampNeg (100 : Int32))) = 0 →
           ((v6 - r2) < 0 →
             l_X9_check_192 I2 J2 P v2 v3 v4 v5 v6 ((v7 + (1 : Int32)))) ∧
            (¬ (v6 - r2) < 0 →
             (v5 < (v6 - r2) →
               l_X9_check_192 I2 J2 P v2 v3 v4 v5 v6 ((v7 + (1 : Int32)))) ∧
              (¬ v5 < (v6 - r2) →
               P (some (.int (0 : Int32))) I2 J2))))))))) ∧
    (¬ v8 = 0 →
     vp_in v9 100 ∧
      (call pgM zX9_bits [.int (v7 &&& (I 24 (Int32.toNatClampNeg v9)))] I J (fun vr I3 J3 => ∃ r3 : Int32, vr = some (.int r3) ∧
      (vp_in v9 100 ∧
      ((¬ r3 = (I3 25 (Int32.toNatClampNeg v9)) →
       l_X9_check_218 I3 J3 P v2 v3 v4 v5 v6 v7 ((0 : Int32)) ((v9 + (1 : Int32)))) ∧
      (r3 = (I3 25 (Int32.toNatClampNeg v9)) →
       l_X9_check_218 I3 J3 P v2 v3 v4 v5 v6 v7 ((1 : Int32)) ((v9 + (1 : Int32))))))))))) : l_X9_check_218 I J P v2 v3 v4 v5 v6 v7 v8 v9 := by
  show rr pgM zX9_check 218 [(0, .ref 0), (2, .int v2), (3, .int v3), (4, .int v4), (5, .int v5), (6, .int v6), (7, .int v7), (8, .int v8), (9, .int v9)] [] I J P
  refine rr_iload dX9_check_218 8 rfl rfl ?_
  refine rr_iload dX9_check_220 3 rfl rfl ?_
  refine rr_icmp_ge (tgt := 266) dX9_check_222 (by decide) rfl ⟨fun hc => ?_, fun hc => ?_⟩
  · have h := h.1 hc
    refine rr_iload dX9_check_266 7 rfl rfl ?_
    refine rr_if_eq (tgt := 282) dX9_check_268 (by decide) rfl ⟨fun hc => ?_, fun hc => ?_⟩
    · have h := h.1 hc
      refine rr_iconst (v := (0 : Int32)) dX9_check_282 (by decide) rfl ?_
      refine rr_istore (lv' := [(9, .int (0 : Int32)), (0, .ref 0), (2, .int v2), (3, .int v3), (4, .int v4), (5, .int v5), (6, .int v6), (7, .int v7), (8, .int v8)]) dX9_check_283 (by decide) rfl rfl ?_
      refine rr_iload dX9_check_285 8 rfl rfl ?_
      refine rr_if_eq (tgt := 314) dX9_check_287 (by decide) rfl ⟨fun hc => ?_, fun hc => ?_⟩
      · have h := h.1 hc
        refine rr_iinc (k := 7) (v := (v7 + (1 : Int32))) (lv' := [(7, .int (v7 + (1 : Int32))), (9, .int (0 : Int32)), (0, .ref 0), (2, .int v2), (3, .int v3), (4, .int v4), (5, .int v5), (6, .int v6), (8, .int v8)]) dX9_check_314 rfl rfl (by decide) rfl rfl ?_
        refine rr_goto (tgt := 192) dX9_check_317 (by decide) ?_
        exact rr.sub [2, 3, 4, 5, 6, 7, 0] rfl h
      · have h := h.2 hc
        refine rr_aload_n dX9_check_290 rfl 1 rfl rfl ?_
        refine rr_getR dX9_check_291 fX9_51 (by decide) rfl rfl rfl ?_
        refine rr_bipush (v := (100 : Int32)) dX9_check_294 (by decide) rfl ?_
        refine rr_zald dX9_check_296 (by decide) rfl rfl ⟨h.1, ?_⟩
        have h := h.2
        refine rr_if_eq (tgt := 312) dX9_check_297 (by decide) rfl ⟨fun hc => ?_, fun hc => ?_⟩
        · have h := h.1 hc
          refine rr_iconst (v := (0 : Int32)) dX9_check_312 (by decide) rfl ?_
          exact rr_iret dX9_check_313 rfl h
        · have h := h.2 hc
          refine rr_iload dX9_check_300 0 rfl rfl ?_
          refine rr_if_lt (tgt := 314) dX9_check_302 (by decide) rfl ⟨fun hc => absurd hc (by decide), fun _ => ?_⟩
          refine rr_iload dX9_check_305 0 rfl rfl ?_
          refine rr_iload dX9_check_307 5 rfl rfl ?_
          refine rr_icmp_gt (tgt := 314) dX9_check_309 (by decide) rfl ⟨fun hc => ?_, fun hc => ?_⟩
          · have h := h.1 hc
            refine rr_iinc (k := 7) (v := (v7 + (1 : Int32))) (lv' := [(7, .int (v7 + (1 : Int32))), (9, .int (0 : Int32)), (0, .ref 0), (2, .int v2), (3, .int v3), (4, .int v4), (5, .int v5), (6, .int v6), (8, .int v8)]) dX9_check_314 rfl rfl (by decide) rfl rfl ?_
            refine rr_goto (tgt := 192) dX9_check_317 (by decide) ?_
            exact rr.sub [2, 3, 4, 5, 6, 7, 0] rfl h
          · have h := h.2 hc
            refine rr_iconst (v := (0 : Int32)) dX9_check_312 (by decide) rfl ?_
            exact rr_iret dX9_check_313 rfl h
    · have h := h.2 hc
      refine rr_iload dX9_check_271 5 rfl rfl ?_
      refine rr_iload dX9_check_273 6 rfl rfl ?_
      refine rr_S [.int v7] [.int v6] dX9_check_275 kX9_bits mX9_247 ⟨by decide, by decide⟩ rfl rfl (Nat.le_of_ble_eq_true rfl) rfl (h.mono fun vr I1 J1 h => ?_)
      obtain ⟨r1, rfl, h⟩ := h
      show rr pgM zX9_check 278 _ [.int r1, .int v6] _ _ _
      refine rr_isub dX9_check_278 rfl ?_
      refine rr_goto (tgt := 283) dX9_check_279 (by decide) ?_
      refine rr_istore (lv' := [(9, .int (v6 - r1)), (0, .ref 0), (2, .int v2), (3, .int v3), (4, .int v4), (5, .int v5), (6, .int v6), (7, .int v7), (8, .int v8)]) dX9_check_283 (by decide) rfl rfl ?_
      refine rr_iload dX9_check_285 8 rfl rfl ?_
      refine rr_if_eq (tgt := 314) dX9_check_287 (by decide) rfl ⟨fun hc => ?_, fun hc => ?_⟩
      · have h := h.1 hc
        refine rr_iinc (k := 7) (v := (v7 + (1 : Int32))) (lv' := [(7, .int (v7 + (1 : Int32))), (9, .int (v6 - r1)), (0, .ref 0), (2, .int v2), (3, .int v3), (4, .int v4), (5, .int v5), (6, .int v6), (8, .int v8)]) dX9_check_314 rfl rfl (by decide) rfl rfl ?_
        refine rr_goto (tgt := 192) dX9_check_317 (by decide) ?_
        exact rr.sub [2, 3, 4, 5, 6, 7, 0] rfl h
      · have h := h.2 hc
        refine rr_aload_n dX9_check_290 rfl 1 rfl rfl ?_
        refine rr_getR dX9_check_291 fX9_51 (by decide) rfl rfl rfl ?_
        refine rr_bipush (v := (100 : Int32)) dX9_check_294 (by decide) rfl ?_
        refine rr_zald dX9_check_296 (by decide) rfl rfl ⟨h.1, ?_⟩
        have h := h.2
        refine rr_if_eq (tgt := 312) dX9_check_297 (by decide) rfl ⟨fun hc => ?_, fun hc => ?_⟩
        · have h := h.1 hc
          refine rr_iconst (v := (0 : Int32)) dX9_check_312 (by decide) rfl ?_
          exact rr_iret dX9_check_313 rfl h
        · have h := h.2 hc
          refine rr_iload dX9_check_300 0 rfl rfl ?_
          refine rr_if_lt (tgt := 314) dX9_check_302 (by decide) rfl ⟨fun hc => ?_, fun hc => ?_⟩
          · have h := h.1 hc
            refine rr_iinc (k := 7) (v := (v7 + (1 : Int32))) (lv' := [(7, .int (v7 + (1 : Int32))), (9, .int (v6 - r1)), (0, .ref 0), (2, .int v2), (3, .int v3), (4, .int v4), (5, .int v5), (6, .int v6), (8, .int v8)]) dX9_check_314 rfl rfl (by decide) rfl rfl ?_
            refine rr_goto (tgt := 192) dX9_check_317 (by decide) ?_
            exact rr.sub [2, 3, 4, 5, 6, 7, 0] rfl h
          · have h := h.2 hc
            refine rr_iload dX9_check_305 0 rfl rfl ?_
            refine rr_iload dX9_check_307 5 rfl rfl ?_
            refine rr_icmp_gt (tgt := 314) dX9_check_309 (by decide) rfl ⟨fun hc => ?_, fun hc => ?_⟩
            · have h := h.1 hc
              refine rr_iinc (k := 7) (v := (v7 + (1 : Int32))) (lv' := [(7, .int (v7 + (1 : Int32))), (9, .int (v6 - r1)), (0, .ref 0), (2, .int v2), (3, .int v3), (4, .int v4), (5, .int v5), (6, .int v6), (8, .int v8)]) dX9_check_314 rfl rfl (by decide) rfl rfl ?_
              refine rr_goto (tgt := 192) dX9_check_317 (by decide) ?_
              exact rr.sub [2, 3, 4, 5, 6, 7, 0] rfl h
            · have h := h.2 hc
              refine rr_iconst (v := (0 : Int32)) dX9_check_312 (by decide) rfl ?_
              exact rr_iret dX9_check_313 rfl h
  · have h := h.2 hc
    refine rr_iload dX9_check_225 7 rfl rfl ?_
    refine rr_if_eq (tgt := 266) dX9_check_227 (by decide) rfl ⟨fun hc => ?_, fun hc => ?_⟩
    · have h := h.1 hc
      refine rr_iload dX9_check_266 7 rfl rfl ?_
      refine rr_if_eq (tgt := 282) dX9_check_268 (by decide) rfl ⟨fun hc => ?_, fun hc => ?_⟩
      · have h := h.1 hc
        refine rr_iconst (v := (0 : Int32)) dX9_check_282 (by decide) rfl ?_
        refine rr_istore (lv' := [(9, .int (0 : Int32)), (0, .ref 0), (2, .int v2), (3, .int v3), (4, .int v4), (5, .int v5), (6, .int v6), (7, .int v7), (8, .int v8)]) dX9_check_283 (by decide) rfl rfl ?_
        refine rr_iload dX9_check_285 8 rfl rfl ?_
        refine rr_if_eq (tgt := 314) dX9_check_287 (by decide) rfl ⟨fun hc => ?_, fun hc => ?_⟩
        · have h := h.1 hc
          refine rr_iinc (k := 7) (v := (v7 + (1 : Int32))) (lv' := [(7, .int (v7 + (1 : Int32))), (9, .int (0 : Int32)), (0, .ref 0), (2, .int v2), (3, .int v3), (4, .int v4), (5, .int v5), (6, .int v6), (8, .int v8)]) dX9_check_314 rfl rfl (by decide) rfl rfl ?_
          refine rr_goto (tgt := 192) dX9_check_317 (by decide) ?_
          exact rr.sub [2, 3, 4, 5, 6, 7, 0] rfl h
        · have h := h.2 hc
          refine rr_aload_n dX9_check_290 rfl 1 rfl rfl ?_
          refine rr_getR dX9_check_291 fX9_51 (by decide) rfl rfl rfl ?_
          refine rr_bipush (v := (100 : Int32)) dX9_check_294 (by decide) rfl ?_
          refine rr_zald dX9_check_296 (by decide) rfl rfl ⟨h.1, ?_⟩
          have h := h.2
          refine rr_if_eq (tgt := 312) dX9_check_297 (by decide) rfl ⟨fun hc => ?_, fun hc => ?_⟩
          · have h := h.1 hc
            refine rr_iconst (v := (0 : Int32)) dX9_check_312 (by decide) rfl ?_
            exact rr_iret dX9_check_313 rfl h
          · have h := h.2 hc
            refine rr_iload dX9_check_300 0 rfl rfl ?_
            refine rr_if_lt (tgt := 314) dX9_check_302 (by decide) rfl ⟨fun hc => absurd hc (by decide), fun _ => ?_⟩
            refine rr_iload dX9_check_305 0 rfl rfl ?_
            refine rr_iload dX9_check_307 5 rfl rfl ?_
            refine rr_icmp_gt (tgt := 314) dX9_check_309 (by decide) rfl ⟨fun hc => ?_, fun hc => ?_⟩
            · have h := h.1 hc
              refine rr_iinc (k := 7) (v := (v7 + (1 : Int32))) (lv' := [(7, .int (v7 + (1 : Int32))), (9, .int (0 : Int32)), (0, .ref 0), (2, .int v2), (3, .int v3), (4, .int v4), (5, .int v5), (6, .int v6), (8, .int v8)]) dX9_check_314 rfl rfl (by decide) rfl rfl ?_
              refine rr_goto (tgt := 192) dX9_check_317 (by decide) ?_
              exact rr.sub [2, 3, 4, 5, 6, 7, 0] rfl h
            · have h := h.2 hc
              refine rr_iconst (v := (0 : Int32)) dX9_check_312 (by decide) rfl ?_
              exact rr_iret dX9_check_313 rfl h
      · have h := h.2 hc
        refine rr_iload dX9_check_271 5 rfl rfl ?_
        refine rr_iload dX9_check_273 6 rfl rfl ?_
        refine rr_S [.int v7] [.int v6] dX9_check_275 kX9_bits mX9_247 ⟨by decide, by decide⟩ rfl rfl (Nat.le_of_ble_eq_true rfl) rfl (h.mono fun vr I2 J2 h => ?_)
        obtain ⟨r2, rfl, h⟩ := h
        show rr pgM zX9_check 278 _ [.int r2, .int v6] _ _ _
        refine rr_isub dX9_check_278 rfl ?_
        refine rr_goto (tgt := 283) dX9_check_279 (by decide) ?_
        refine rr_istore (lv' := [(9, .int (v6 - r2)), (0, .ref 0), (2, .int v2), (3, .int v3), (4, .int v4), (5, .int v5), (6, .int v6), (7, .int v7), (8, .int v8)]) dX9_check_283 (by decide) rfl rfl ?_
        refine rr_iload dX9_check_285 8 rfl rfl ?_
        refine rr_if_eq (tgt := 314) dX9_check_287 (by decide) rfl ⟨fun hc => ?_, fun hc => ?_⟩
        · have h := h.1 hc
          refine rr_iinc (k := 7) (v := (v7 + (1 : Int32))) (lv' := [(7, .int (v7 + (1 : Int32))), (9, .int (v6 - r2)), (0, .ref 0), (2, .int v2), (3, .int v3), (4, .int v4), (5, .int v5), (6, .int v6), (8, .int v8)]) dX9_check_314 rfl rfl (by decide) rfl rfl ?_
          refine rr_goto (tgt := 192) dX9_check_317 (by decide) ?_
          exact rr.sub [2, 3, 4, 5, 6, 7, 0] rfl h
        · have h := h.2 hc
          refine rr_aload_n dX9_check_290 rfl 1 rfl rfl ?_
          refine rr_getR dX9_check_291 fX9_51 (by decide) rfl rfl rfl ?_
          refine rr_bipush (v := (100 : Int32)) dX9_check_294 (by decide) rfl ?_
          refine rr_zald dX9_check_296 (by decide) rfl rfl ⟨h.1, ?_⟩
          have h := h.2
          refine rr_if_eq (tgt := 312) dX9_check_297 (by decide) rfl ⟨fun hc => ?_, fun hc => ?_⟩
          · have h := h.1 hc
            refine rr_iconst (v := (0 : Int32)) dX9_check_312 (by decide) rfl ?_
            exact rr_iret dX9_check_313 rfl h
          · have h := h.2 hc
            refine rr_iload dX9_check_300 0 rfl rfl ?_
            refine rr_if_lt (tgt := 314) dX9_check_302 (by decide) rfl ⟨fun hc => ?_, fun hc => ?_⟩
            · have h := h.1 hc
              refine rr_iinc (k := 7) (v := (v7 + (1 : Int32))) (lv' := [(7, .int (v7 + (1 : Int32))), (9, .int (v6 - r2)), (0, .ref 0), (2, .int v2), (3, .int v3), (4, .int v4), (5, .int v5), (6, .int v6), (8, .int v8)]) dX9_check_314 rfl rfl (by decide) rfl rfl ?_
              refine rr_goto (tgt := 192) dX9_check_317 (by decide) ?_
              exact rr.sub [2, 3, 4, 5, 6, 7, 0] rfl h
            · have h := h.2 hc
              refine rr_iload dX9_check_305 0 rfl rfl ?_
              refine rr_iload dX9_check_307 5 rfl rfl ?_
              refine rr_icmp_gt (tgt := 314) dX9_check_309 (by decide) rfl ⟨fun hc => ?_, fun hc => ?_⟩
              · have h := h.1 hc
                refine rr_iinc (k := 7) (v := (v7 + (1 : Int32))) (lv' := [(7, .int (v7 + (1 : Int32))), (9, .int (v6 - r2)), (0, .ref 0), (2, .int v2), (3, .int v3), (4, .int v4), (5, .int v5), (6, .int v6), (8, .int v8)]) dX9_check_314 rfl rfl (by decide) rfl rfl ?_
                refine rr_goto (tgt := 192) dX9_check_317 (by decide) ?_
                exact rr.sub [2, 3, 4, 5, 6, 7, 0] rfl h
              · have h := h.2 hc
                refine rr_iconst (v := (0 : Int32)) dX9_check_312 (by decide) rfl ?_
                exact rr_iret dX9_check_313 rfl h
    · have h := h.2 hc
      refine rr_iload dX9_check_230 6 rfl rfl ?_
      refine rr_aload_n dX9_check_232 rfl 0 rfl rfl ?_
      refine rr_getR dX9_check_233 fX9_94 (by decide) rfl rfl rfl ?_
      refine rr_iload dX9_check_236 8 rfl rfl ?_
      refine rr_iald dX9_check_238 (by decide) rfl rfl ⟨h.1, ?_⟩
      have h := h.2
      refine rr_iand dX9_check_239 rfl ?_
      refine rr_S [.int (v7 &&& (I 24 (Int32.toNatClampNeg v9)))] [] dX9_check_240 kX9_bits mX9_247 ⟨by decide, by decide⟩ rfl rfl (Nat.le_of_ble_eq_true rfl) rfl (h.mono fun vr I3 J3 h => ?_)
      obtain ⟨r3, rfl, h⟩ := h
      show rr pgM zX9_check 243 _ [.int r3] _ _ _
      refine rr_aload_n dX9_check_243 rfl 0 rfl rfl ?_
      refine rr_getR dX9_check_244 fX9_97 (by decide) rfl rfl rfl ?_
      refine rr_iload dX9_check_247 8 rfl rfl ?_
      refine rr_iald dX9_check_249 (by decide) rfl rfl ⟨h.1, ?_⟩
      have h := h.2
      refine rr_icmp_ne (tgt := 257) dX9_check_250 (by decide) rfl ⟨fun hc => ?_, fun hc => ?_⟩
      · have h := h.1 hc
        refine rr_iconst (v := (0 : Int32)) dX9_check_257 (by decide) rfl ?_
        refine rr_istore (lv' := [(8, .int (0 : Int32)), (0, .ref 0), (2, .int v2), (3, .int v3), (4, .int v4), (5, .int v5), (6, .int v6), (7, .int v7), (9, .int v9)]) dX9_check_258 (by decide) rfl rfl ?_
        refine rr_iinc (k := 8) (v := (v9 + (1 : Int32))) (lv' := [(9, .int (v9 + (1 : Int32))), (8, .int (0 : Int32)), (0, .ref 0), (2, .int v2), (3, .int v3), (4, .int v4), (5, .int v5), (6, .int v6), (7, .int v7)]) dX9_check_260 rfl rfl (by decide) rfl rfl ?_
        refine rr_goto (tgt := 218) dX9_check_263 (by decide) ?_
        exact rr.sub [2, 3, 4, 5, 6, 7, 8, 1, 0] rfl h
      · have h := h.2 hc
        refine rr_iconst (v := (1 : Int32)) dX9_check_253 (by decide) rfl ?_
        refine rr_goto (tgt := 258) dX9_check_254 (by decide) ?_
        refine rr_istore (lv' := [(8, .int (1 : Int32)), (0, .ref 0), (2, .int v2), (3, .int v3), (4, .int v4), (5, .int v5), (6, .int v6), (7, .int v7), (9, .int v9)]) dX9_check_258 (by decide) rfl rfl ?_
        refine rr_iinc (k := 8) (v := (v9 + (1 : Int32))) (lv' := [(9, .int (v9 + (1 : Int32))), (8, .int (1 : Int32)), (0, .ref 0), (2, .int v2), (3, .int v3), (4, .int v4), (5, .int v5), (6, .int v6), (7, .int v7)]) dX9_check_260 rfl rfl (by decide) rfl rfl ?_
        refine rr_goto (tgt := 218) dX9_check_263 (by decide) ?_
        exact rr.sub [2, 3, 4, 5, 6, 7, 8, 1, 0] rfl h

def l_X9_findParts_2 (I : tg_I) (J : tg_J) (P : Option Value → tg_I → tg_J → Prop) (v1 : Int32) : Prop := rr pgM zX9_findParts 2 [(0, .ref 0), (1, .int v1)] [] I J P
def l_X9_findParts_47 (I : tg_I) (J : tg_J) (P : Option Value → tg_I → tg_J → Prop) (v1 : Int32) : Prop := rr pgM zX9_findParts 47 [(0, .ref 0), (1, .int v1)] [] I J P
def l_X9_findParts_209 (I : tg_I) (J : tg_J) (P : Option Value → tg_I → tg_J → Prop) (v2 : Int32) (v3 : Int32) : Prop := rr pgM zX9_findParts 209 [(0, .ref 0), (2, .int v2), (3, .int v3)] [] I J P
def l_X9_findParts_55 (I : tg_I) (J : tg_J) (P : Option Value → tg_I → tg_J → Prop) (v1 : Int32) (v2 : Int32) : Prop := rr pgM zX9_findParts 55 [(0, .ref 0), (1, .int v1), (2, .int v2)] [] I J P
def l_X9_findParts_391 (I : tg_I) (J : tg_J) (P : Option Value → tg_I → tg_J → Prop) (v2 : Int32) (v3 : Int32) : Prop := rr pgM zX9_findParts 391 [(0, .ref 0), (2, .int v2), (3, .int v3)] [] I J P
def l_X9_findParts_265 (I : tg_I) (J : tg_J) (P : Option Value → tg_I → tg_J → Prop) (v2 : Int32) (v3 : Int32) (v4 : Int32) (v5 : Int32) : Prop := rr pgM zX9_findParts 265 [(0, .ref 0), (2, .int v2), (3, .int v3), (4, .int v4), (5, .int v5)] [] I J P
def l_X9_findParts_79 (I : tg_I) (J : tg_J) (P : Option Value → tg_I → tg_J → Prop) (v1 : Int32) (v2 : Int32) (v3 : Int32) (v4 : Int32) : Prop := rr pgM zX9_findParts 79 [(0, .ref 0), (1, .int v1), (2, .int v2), (3, .int v3), (4, .int v4)] [] I J P
def l_X9_findParts_326 (I : tg_I) (J : tg_J) (P : Option Value → tg_I → tg_J → Prop) (v2 : Int32) (v3 : Int32) (v5 : Int32) : Prop := rr pgM zX9_findParts 326 [(0, .ref 0), (2, .int v2), (3, .int v3), (5, .int v5)] [] I J P
def l_X9_findParts_140 (I : tg_I) (J : tg_J) (P : Option Value → tg_I → tg_J → Prop) (v1 : Int32) (v2 : Int32) (v3 : Int32) (v4 : Int32) : Prop := rr pgM zX9_findParts 140 [(0, .ref 0), (1, .int v1), (2, .int v2), (3, .int v3), (4, .int v4)] [] I J P
theorem e_X9_findParts {I : tg_I} {J : tg_J} {P : Option Value → tg_I → tg_J → Prop} (h :
  l_X9_findParts_2 I J P ((0 : Int32))) : call pgM zX9_findParts [.ref 0] I J P := by
  refine call_of (by decide +kernel) (fun _ => Nat.le_of_ble_eq_true rfl) ?_
  show rr pgM zX9_findParts 0 [(0, .ref 0)] [] I J P
  refine rr_iconst (v := (0 : Int32)) dX9_findParts_0 (by decide) rfl ?_
  refine rr_istore_n (lv' := [(1, .int (0 : Int32)), (0, .ref 0)]) dX9_findParts_1 rfl (by decide) rfl rfl ?_
  exact rr.sub [1, 0] rfl h
theorem s_X9_findParts_2 {I : tg_I} {J : tg_J} {P : Option Value → tg_I → tg_J → Prop} (v1 : Int32) (h :
  ((I 0 3) ≤ v1 →
   l_X9_findParts_47 I J P ((1 : Int32))) ∧
  (¬ (I 0 3) ≤ v1 →
   vp_in v1 100 ∧
    ((¬ (I 3 (Int32.toNatClampNeg v1)) = 0 →
     vp_in v1 100 ∧ ∀ I1, I1 = u2 I 15 (Int32.toNatClampNeg v1) (-1 : Int32) →
      l_X9_findParts_2 I1 J P ((v1 + (1 : Int32)))) ∧
    ((I 3 (Int32.toNatClampNeg v1)) = 0 →
     call pgM zX9_nearState [.ref 0, .int v1, .int (1 : Int32)] I J (fun vr I2 J1 => ∃ r1 : Int32, vr = some (.int r1) ∧
      ((r1 ≤ 0 →
       vp_in v1 100 ∧ ∀ I3, I3 = u2 I2 15 (Int32.toNatClampNeg v1) (-1 : Int32) →
        l_X9_findParts_2 I3 J1 P ((v1 + (1 : Int32)))) ∧
      (¬ r1 ≤ 0 →
       vp_in v1 100 ∧ ∀ I4, I4 = u2 I2 15 (Int32.toNatClampNeg v1) v1 →
        l_X9_findParts_2 I4 J1 P ((v1 + (1 : Int32)))))))))) : l_X9_findParts_2 I J P v1 := by
  show rr pgM zX9_findParts 2 [(0, .ref 0), (1, .int v1)] [] I J P
  refine rr_iload_n dX9_findParts_2 rfl 1 rfl rfl ?_
  refine rr_aload_n dX9_findParts_3 rfl 0 rfl rfl ?_
  refine rr_getI dX9_findParts_4 fX9_16 (by decide) rfl rfl rfl ?_
  refine rr_icmp_ge (tgt := 45) dX9_findParts_7 (by decide) rfl ⟨fun hc => ?_, fun hc => ?_⟩
  · have h := h.1 hc
    refine rr_iconst (v := (1 : Int32)) dX9_findParts_45 (by decide) rfl ?_
    refine rr_istore_n (lv' := [(1, .int (1 : Int32)), (0, .ref 0)]) dX9_findParts_46 rfl (by decide) rfl rfl ?_
    exact rr.sub [1, 0] rfl h
  · have h := h.2 hc
    refine rr_aload_n dX9_findParts_10 rfl 0 rfl rfl ?_
    refine rr_getR dX9_findParts_11 fX9_66 (by decide) rfl rfl rfl ?_
    refine rr_iload_n dX9_findParts_14 rfl 1 rfl rfl ?_
    refine rr_aload_n dX9_findParts_15 rfl 0 rfl rfl ?_
    refine rr_getR dX9_findParts_16 fX9_26 (by decide) rfl rfl rfl ?_
    refine rr_iload_n dX9_findParts_19 rfl 1 rfl rfl ?_
    refine rr_iald dX9_findParts_20 (by decide) rfl rfl ⟨h.1, ?_⟩
    have h := h.2
    refine rr_if_ne (tgt := 37) dX9_findParts_21 (by decide) rfl ⟨fun hc => ?_, fun hc => ?_⟩
    · have h := h.1 hc
      refine rr_iconst (v := (-1 : Int32)) dX9_findParts_37 (by decide) rfl ?_
      refine rr_iast dX9_findParts_38 (by decide) rfl rfl ⟨h.1, ?_⟩
      refine rr_letI (fun I1 hI1 => ?_)
      have h := h.2 I1 hI1
      refine rr_iinc (k := 1) (v := (v1 + (1 : Int32))) (lv' := [(1, .int (v1 + (1 : Int32))), (0, .ref 0)]) dX9_findParts_39 rfl rfl (by decide) rfl rfl ?_
      refine rr_goto (tgt := 2) dX9_findParts_42 (by decide) ?_
      exact rr.sub [1, 0] rfl h
    · have h := h.2 hc
      refine rr_aload_n dX9_findParts_24 rfl 0 rfl rfl ?_
      refine rr_iload_n dX9_findParts_25 rfl 1 rfl rfl ?_
      refine rr_iconst (v := (1 : Int32)) dX9_findParts_26 (by decide) rfl ?_
      refine rr_V [.int v1, .int (1 : Int32)] [.int v1, .ref 15] dX9_findParts_27 kX9_nearState mX9_165 ⟨by decide, by decide⟩ (by decide) rfl rfl rfl (Nat.le_of_ble_eq_true rfl) rfl (h.mono fun vr I2 J1 h => ?_)
      obtain ⟨r1, rfl, h⟩ := h
      show rr pgM zX9_findParts 30 _ [.int r1, .int v1, .ref 15] _ _ _
      refine rr_if_le (tgt := 37) dX9_findParts_30 (by decide) rfl ⟨fun hc => ?_, fun hc => ?_⟩
      · have h := h.1 hc
        refine rr_iconst (v := (-1 : Int32)) dX9_findParts_37 (by decide) rfl ?_
        refine rr_iast dX9_findParts_38 (by decide) rfl rfl ⟨h.1, ?_⟩
        refine rr_letI (fun I3 hI3 => ?_)
        have h := h.2 I3 hI3
        refine rr_iinc (k := 1) (v := (v1 + (1 : Int32))) (lv' := [(1, .int (v1 + (1 : Int32))), (0, .ref 0)]) dX9_findParts_39 rfl rfl (by decide) rfl rfl ?_
        refine rr_goto (tgt := 2) dX9_findParts_42 (by decide) ?_
        exact rr.sub [1, 0] rfl h
      · have h := h.2 hc
        refine rr_iload_n dX9_findParts_33 rfl 1 rfl rfl ?_
        refine rr_goto (tgt := 38) dX9_findParts_34 (by decide) ?_
        refine rr_iast dX9_findParts_38 (by decide) rfl rfl ⟨h.1, ?_⟩
        refine rr_letI (fun I4 hI4 => ?_)
        have h := h.2 I4 hI4
        refine rr_iinc (k := 1) (v := (v1 + (1 : Int32))) (lv' := [(1, .int (v1 + (1 : Int32))), (0, .ref 0)]) dX9_findParts_39 rfl rfl (by decide) rfl rfl ?_
        refine rr_goto (tgt := 2) dX9_findParts_42 (by decide) ?_
        exact rr.sub [1, 0] rfl h
theorem s_X9_findParts_47 {I : tg_I} {J : tg_J} {P : Option Value → tg_I → tg_J → Prop} (v1 : Int32) (h :
  (v1 = 0 →
   ∀ I1, I1 = u2 I 0 26 (0 : Int32) →
    ∀ I2, I2 = u2 I1 0 27 (0 : Int32) →
    l_X9_findParts_209 I2 J P ((1 : Int32)) ((0 : Int32))) ∧
  (¬ v1 = 0 →
   l_X9_findParts_55 I J P ((0 : Int32)) ((0 : Int32)))) : l_X9_findParts_47 I J P v1 := by
  show rr pgM zX9_findParts 47 [(0, .ref 0), (1, .int v1)] [] I J P
  refine rr_iload_n dX9_findParts_47 rfl 1 rfl rfl ?_
  refine rr_if_eq (tgt := 195) dX9_findParts_48 (by decide) rfl ⟨fun hc => ?_, fun hc => ?_⟩
  · have h := h.1 hc
    refine rr_aload_n dX9_findParts_195 rfl 0 rfl rfl ?_
    refine rr_iconst (v := (0 : Int32)) dX9_findParts_196 (by decide) rfl ?_
    refine rr_putI dX9_findParts_197 pX9_250 (by decide) rfl rfl rfl ?_
    refine rr_letI (fun I1 hI1 => ?_)
    have h := h I1 hI1
    refine rr_aload_n dX9_findParts_200 rfl 0 rfl rfl ?_
    refine rr_iconst (v := (0 : Int32)) dX9_findParts_201 (by decide) rfl ?_
    refine rr_putI dX9_findParts_202 pX9_253 (by decide) rfl rfl rfl ?_
    refine rr_letI (fun I2 hI2 => ?_)
    have h := h I2 hI2
    refine rr_iconst (v := (1 : Int32)) dX9_findParts_205 (by decide) rfl ?_
    refine rr_istore_n (lv' := [(2, .int (1 : Int32)), (0, .ref 0), (1, .int v1)]) dX9_findParts_206 rfl (by decide) rfl rfl ?_
    refine rr_iconst (v := (0 : Int32)) dX9_findParts_207 (by decide) rfl ?_
    refine rr_istore_n (lv' := [(3, .int (0 : Int32)), (2, .int (1 : Int32)), (0, .ref 0), (1, .int v1)]) dX9_findParts_208 rfl (by decide) rfl rfl ?_
    exact rr.sub [2, 1, 0] rfl h
  · have h := h.2 hc
    refine rr_iconst (v := (0 : Int32)) dX9_findParts_51 (by decide) rfl ?_
    refine rr_istore_n (lv' := [(1, .int (0 : Int32)), (0, .ref 0)]) dX9_findParts_52 rfl (by decide) rfl rfl ?_
    refine rr_iconst (v := (0 : Int32)) dX9_findParts_53 (by decide) rfl ?_
    refine rr_istore_n (lv' := [(2, .int (0 : Int32)), (1, .int (0 : Int32)), (0, .ref 0)]) dX9_findParts_54 rfl (by decide) rfl rfl ?_
    exact rr.sub [2, 1, 0] rfl h
theorem s_X9_findParts_209 {I : tg_I} {J : tg_J} {P : Option Value → tg_I → tg_J → Prop} (v2 : Int32) (v3 : Int32) (h :
  ((I 0 3) ≤ v3 →
   l_X9_findParts_391 I J P v2 ((0 : Int32))) ∧
  (¬ (I 0 3) ≤ v3 →
   vp_in v3 100 ∧
    ((¬ (I 3 (Int32.toNatClampNeg v3)) = 0 →
     ∀ I1, I1 = u2 I 0 27 ((I 0 27) + (0 : Int32)) →
      vp_in v3 100 ∧
      ((¬ (I1 15 (Int32.toNatClampNeg v3)) = v3 →
       l_X9_findParts_209 I1 J P v2 ((v3 + (1 : Int32)))) ∧
      ((I1 15 (Int32.toNatClampNeg v3)) = v3 →
       l_X9_findParts_265 I1 J P v2 v3 ((0 : Int32)) ((0 : Int32))))) ∧
    ((I 3 (Int32.toNatClampNeg v3)) = 0 →
     vp_in v3 100 ∧
      ((0 ≤ (I 15 (Int32.toNatClampNeg v3)) →
       ∀ I2, I2 = u2 I 0 27 ((I 0 27) + (0 : Int32)) →
        vp_in v3 100 ∧
        ((¬ (I2 15 (Int32.toNatClampNeg v3)) = v3 →
         l_X9_findParts_209 I2 J P v2 ((v3 + (1 : Int32)))) ∧
        ((I2 15 (Int32.toNatClampNeg v3)) = v3 →
         l_X9_findParts_265 I2 J P v2 v3 ((0 : Int32)) ((0 : Int32))))) ∧
      (¬ 0 ≤ (I 15 (Int32.toNatClampNeg v3)) →
       ∀ I3, I3 = u2 I 0 27 ((I 0 27) + (1 : Int32)) →
        vp_in v3 100 ∧
        ((¬ (I3 15 (Int32.toNatClampNeg v3)) = v3 →
         l_X9_findParts_209 I3 J P v2 ((v3 + (1 : Int32)))) ∧
        ((I3 15 (Int32.toNatClampNeg v3)) = v3 →
         l_X9_findParts_265 I3 J P v2 v3 ((0 : Int32)) ((0 : Int32)))))))))) : l_X9_findParts_209 I J P v2 v3 := by
  show rr pgM zX9_findParts 209 [(0, .ref 0), (2, .int v2), (3, .int v3)] [] I J P
  refine rr_iload_n dX9_findParts_209 rfl 2 rfl rfl ?_
  refine rr_aload_n dX9_findParts_210 rfl 0 rfl rfl ?_
  refine rr_getI dX9_findParts_211 fX9_16 (by decide) rfl rfl rfl ?_
  refine rr_icmp_ge (tgt := 389) dX9_findParts_214 (by decide) rfl ⟨fun hc => ?_, fun hc => ?_⟩
  · have h := h.1 hc
    refine rr_iconst (v := (0 : Int32)) dX9_findParts_389 (by decide) rfl ?_
    refine rr_istore_n (lv' := [(3, .int (0 : Int32)), (0, .ref 0), (2, .int v2)]) dX9_findParts_390 rfl (by decide) rfl rfl ?_
    exact rr.sub [1, 2, 0] rfl h
  · have h := h.2 hc
    refine rr_aload_n dX9_findParts_217 rfl 0 rfl rfl ?_
    refine rr_dup dX9_findParts_218 rfl rfl ?_
    refine rr_getI dX9_findParts_219 fX9_253 (by decide) rfl rfl rfl ?_
    refine rr_aload_n dX9_findParts_222 rfl 0 rfl rfl ?_
    refine rr_getR dX9_findParts_223 fX9_26 (by decide) rfl rfl rfl ?_
    refine rr_iload_n dX9_findParts_226 rfl 2 rfl rfl ?_
    refine rr_iald dX9_findParts_227 (by decide) rfl rfl ⟨h.1, ?_⟩
    have h := h.2
    refine rr_if_ne (tgt := 244) dX9_findParts_228 (by decide) rfl ⟨fun hc => ?_, fun hc => ?_⟩
    · have h := h.1 hc
      refine rr_iconst (v := (0 : Int32)) dX9_findParts_244 (by decide) rfl ?_
      refine rr_iadd dX9_findParts_245 rfl ?_
      refine rr_putI dX9_findParts_246 pX9_253 (by decide) rfl rfl rfl ?_
      refine rr_letI (fun I1 hI1 => ?_)
      have h := h I1 hI1
      refine rr_aload_n dX9_findParts_249 rfl 0 rfl rfl ?_
      refine rr_getR dX9_findParts_250 fX9_66 (by decide) rfl rfl rfl ?_
      refine rr_iload_n dX9_findParts_253 rfl 2 rfl rfl ?_
      refine rr_iald dX9_findParts_254 (by decide) rfl rfl ⟨h.1, ?_⟩
      have h := h.2
      refine rr_iload_n dX9_findParts_255 rfl 2 rfl rfl ?_
      refine rr_icmp_ne (tgt := 383) dX9_findParts_256 (by decide) rfl ⟨fun hc => ?_, fun hc => ?_⟩
      · have h := h.1 hc
        refine rr_iinc (k := 2) (v := (v3 + (1 : Int32))) (lv' := [(3, .int (v3 + (1 : Int32))), (0, .ref 0), (2, .int v2)]) dX9_findParts_383 rfl rfl (by decide) rfl rfl ?_
        refine rr_goto (tgt := 209) dX9_findParts_386 (by decide) ?_
        exact rr.sub [1, 2, 0] rfl h
      · have h := h.2 hc
        refine rr_iconst (v := (0 : Int32)) dX9_findParts_259 (by decide) rfl ?_
        refine rr_istore (lv' := [(4, .int (0 : Int32)), (0, .ref 0), (2, .int v2), (3, .int v3)]) dX9_findParts_260 (by decide) rfl rfl ?_
        refine rr_iconst (v := (0 : Int32)) dX9_findParts_262 (by decide) rfl ?_
        refine rr_istore (lv' := [(5, .int (0 : Int32)), (4, .int (0 : Int32)), (0, .ref 0), (2, .int v2), (3, .int v3)]) dX9_findParts_263 (by decide) rfl rfl ?_
        exact rr.sub [2, 3, 4, 1, 0] rfl h
    · have h := h.2 hc
      refine rr_aload_n dX9_findParts_231 rfl 0 rfl rfl ?_
      refine rr_getR dX9_findParts_232 fX9_66 (by decide) rfl rfl rfl ?_
      refine rr_iload_n dX9_findParts_235 rfl 2 rfl rfl ?_
      refine rr_iald dX9_findParts_236 (by decide) rfl rfl ⟨h.1, ?_⟩
      have h := h.2
      refine rr_if_ge (tgt := 244) dX9_findParts_237 (by decide) rfl ⟨fun hc => ?_, fun hc => ?_⟩
      · have h := h.1 hc
        refine rr_iconst (v := (0 : Int32)) dX9_findParts_244 (by decide) rfl ?_
        refine rr_iadd dX9_findParts_245 rfl ?_
        refine rr_putI dX9_findParts_246 pX9_253 (by decide) rfl rfl rfl ?_
        refine rr_letI (fun I2 hI2 => ?_)
        have h := h I2 hI2
        refine rr_aload_n dX9_findParts_249 rfl 0 rfl rfl ?_
        refine rr_getR dX9_findParts_250 fX9_66 (by decide) rfl rfl rfl ?_
        refine rr_iload_n dX9_findParts_253 rfl 2 rfl rfl ?_
        refine rr_iald dX9_findParts_254 (by decide) rfl rfl ⟨h.1, ?_⟩
        have h := h.2
        refine rr_iload_n dX9_findParts_255 rfl 2 rfl rfl ?_
        refine rr_icmp_ne (tgt := 383) dX9_findParts_256 (by decide) rfl ⟨fun hc => ?_, fun hc => ?_⟩
        · have h := h.1 hc
          refine rr_iinc (k := 2) (v := (v3 + (1 : Int32))) (lv' := [(3, .int (v3 + (1 : Int32))), (0, .ref 0), (2, .int v2)]) dX9_findParts_383 rfl rfl (by decide) rfl rfl ?_
          refine rr_goto (tgt := 209) dX9_findParts_386 (by decide) ?_
          exact rr.sub [1, 2, 0] rfl h
        · have h := h.2 hc
          refine rr_iconst (v := (0 : Int32)) dX9_findParts_259 (by decide) rfl ?_
          refine rr_istore (lv' := [(4, .int (0 : Int32)), (0, .ref 0), (2, .int v2), (3, .int v3)]) dX9_findParts_260 (by decide) rfl rfl ?_
          refine rr_iconst (v := (0 : Int32)) dX9_findParts_262 (by decide) rfl ?_
          refine rr_istore (lv' := [(5, .int (0 : Int32)), (4, .int (0 : Int32)), (0, .ref 0), (2, .int v2), (3, .int v3)]) dX9_findParts_263 (by decide) rfl rfl ?_
          exact rr.sub [2, 3, 4, 1, 0] rfl h
      · have h := h.2 hc
        refine rr_iconst (v := (1 : Int32)) dX9_findParts_240 (by decide) rfl ?_
        refine rr_goto (tgt := 245) dX9_findParts_241 (by decide) ?_
        refine rr_iadd dX9_findParts_245 rfl ?_
        refine rr_putI dX9_findParts_246 pX9_253 (by decide) rfl rfl rfl ?_
        refine rr_letI (fun I3 hI3 => ?_)
        have h := h I3 hI3
        refine rr_aload_n dX9_findParts_249 rfl 0 rfl rfl ?_
        refine rr_getR dX9_findParts_250 fX9_66 (by decide) rfl rfl rfl ?_
        refine rr_iload_n dX9_findParts_253 rfl 2 rfl rfl ?_
        refine rr_iald dX9_findParts_254 (by decide) rfl rfl ⟨h.1, ?_⟩
        have h := h.2
        refine rr_iload_n dX9_findParts_255 rfl 2 rfl rfl ?_
        refine rr_icmp_ne (tgt := 383) dX9_findParts_256 (by decide) rfl ⟨fun hc => ?_, fun hc => ?_⟩
        · have h := h.1 hc
          refine rr_iinc (k := 2) (v := (v3 + (1 : Int32))) (lv' := [(3, .int (v3 + (1 : Int32))), (0, .ref 0), (2, .int v2)]) dX9_findParts_383 rfl rfl (by decide) rfl rfl ?_
          refine rr_goto (tgt := 209) dX9_findParts_386 (by decide) ?_
          exact rr.sub [1, 2, 0] rfl h
        · have h := h.2 hc
          refine rr_iconst (v := (0 : Int32)) dX9_findParts_259 (by decide) rfl ?_
          refine rr_istore (lv' := [(4, .int (0 : Int32)), (0, .ref 0), (2, .int v2), (3, .int v3)]) dX9_findParts_260 (by decide) rfl rfl ?_
          refine rr_iconst (v := (0 : Int32)) dX9_findParts_262 (by decide) rfl ?_
          refine rr_istore (lv' := [(5, .int (0 : Int32)), (4, .int (0 : Int32)), (0, .ref 0), (2, .int v2), (3, .int v3)]) dX9_findParts_263 (by decide) rfl rfl ?_
          exact rr.sub [2, 3, 4, 1, 0] rfl h
theorem s_X9_findParts_55 {I : tg_I} {J : tg_J} {P : Option Value → tg_I → tg_J → Prop} (v1 : Int32) (v2 : Int32) (h :
  ((I 0 3) ≤ v2 →
   l_X9_findParts_47 I J P v1) ∧
  (¬ (I 0 3) ≤ v2 →
   vp_in v2 100 ∧
    ((¬ (I 3 (Int32.toNatClampNeg v2)) = (1 : Int32) →
     l_X9_findParts_55 I J P v1 ((v2 + (1 : Int32)))) ∧
    ((I 3 (Int32.toNatClampNeg v2)) = (1 : Int32) →
     l_X9_findParts_79 I J P v1 v2 ((100 : Int32)) ((0 : Int32)))))) : l_X9_findParts_55 I J P v1 v2 := by
  show rr pgM zX9_findParts 55 [(0, .ref 0), (1, .int v1), (2, .int v2)] [] I J P
  refine rr_iload_n dX9_findParts_55 rfl 2 rfl rfl ?_
  refine rr_aload_n dX9_findParts_56 rfl 0 rfl rfl ?_
  refine rr_getI dX9_findParts_57 fX9_16 (by decide) rfl rfl rfl ?_
  refine rr_icmp_ge (tgt := 192) dX9_findParts_60 (by decide) rfl ⟨fun hc => ?_, fun hc => ?_⟩
  · have h := h.1 hc
    refine rr_goto (tgt := 47) dX9_findParts_192 (by decide) ?_
    exact rr.sub [0, 1] rfl h
  · have h := h.2 hc
    refine rr_aload_n dX9_findParts_63 rfl 0 rfl rfl ?_
    refine rr_getR dX9_findParts_64 fX9_26 (by decide) rfl rfl rfl ?_
    refine rr_iload_n dX9_findParts_67 rfl 2 rfl rfl ?_
    refine rr_iald dX9_findParts_68 (by decide) rfl rfl ⟨h.1, ?_⟩
    have h := h.2
    refine rr_iconst (v := (1 : Int32)) dX9_findParts_69 (by decide) rfl ?_
    refine rr_icmp_ne (tgt := 186) dX9_findParts_70 (by decide) rfl ⟨fun hc => ?_, fun hc => ?_⟩
    · have h := h.1 hc
      refine rr_iinc (k := 2) (v := (v2 + (1 : Int32))) (lv' := [(2, .int (v2 + (1 : Int32))), (0, .ref 0), (1, .int v1)]) dX9_findParts_186 rfl rfl (by decide) rfl rfl ?_
      refine rr_goto (tgt := 55) dX9_findParts_189 (by decide) ?_
      exact rr.sub [1, 2, 0] rfl h
    · have h := h.2 hc
      refine rr_bipush (v := (100 : Int32)) dX9_findParts_73 (by decide) rfl ?_
      refine rr_istore_n (lv' := [(3, .int (100 : Int32)), (0, .ref 0), (1, .int v1), (2, .int v2)]) dX9_findParts_75 rfl (by decide) rfl rfl ?_
      refine rr_iconst (v := (0 : Int32)) dX9_findParts_76 (by decide) rfl ?_
      refine rr_istore (lv' := [(4, .int (0 : Int32)), (3, .int (100 : Int32)), (0, .ref 0), (1, .int v1), (2, .int v2)]) dX9_findParts_77 (by decide) rfl rfl ?_
      exact rr.sub [2, 3, 4, 1, 0] rfl h
theorem s_X9_findParts_391 {I : tg_I} {J : tg_J} {P : Option Value → tg_I → tg_J → Prop} (v2 : Int32) (v3 : Int32) (h :
  ((I 0 3) ≤ v3 →
   narrow .boolean (.int v2) = .int v2 ∧ P (some (.int v2)) I J) ∧
  (¬ (I 0 3) ≤ v3 →
   vp_in v3 100 ∧
    (((I 15 (Int32.toNatClampNeg v3)) < 0 →
     vp_in v3 100 ∧ ∀ I1, I1 = u2 I 15 (Int32.toNatClampNeg v3) (-1 : Int32) →
      l_X9_findParts_391 I1 J P v2 ((v3 + (1 : Int32)))) ∧
    (¬ (I 15 (Int32.toNatClampNeg v3)) < 0 →
     vp_in v3 100 ∧
      (vp_in v3 100 ∧ ∀ I2, I2 = u2 I 15 (Int32.toNatClampNeg v3) ((I 15 (Int32.toNatClampNeg v3)) - (1000 : Int32)) →
      l_X9_findParts_391 I2 J P v2 ((v3 + (1 : Int32)))))))) : l_X9_findParts_391 I J P v2 v3 := by
  show rr pgM zX9_findParts 391 [(0, .ref 0), (2, .int v2), (3, .int v3)] [] I J P
  refine rr_iload_n dX9_findParts_391 rfl 2 rfl rfl ?_
  refine rr_aload_n dX9_findParts_392 rfl 0 rfl rfl ?_
  refine rr_getI dX9_findParts_393 fX9_16 (by decide) rfl rfl rfl ?_
  refine rr_icmp_ge (tgt := 434) dX9_findParts_396 (by decide) rfl ⟨fun hc => ?_, fun hc => ?_⟩
  · have h := h.1 hc
    refine rr_iload_n dX9_findParts_434 rfl 1 rfl rfl ?_
    exact rr_zret dX9_findParts_435 rfl h.1 h.2
  · have h := h.2 hc
    refine rr_aload_n dX9_findParts_399 rfl 0 rfl rfl ?_
    refine rr_getR dX9_findParts_400 fX9_66 (by decide) rfl rfl rfl ?_
    refine rr_iload_n dX9_findParts_403 rfl 2 rfl rfl ?_
    refine rr_aload_n dX9_findParts_404 rfl 0 rfl rfl ?_
    refine rr_getR dX9_findParts_405 fX9_66 (by decide) rfl rfl rfl ?_
    refine rr_iload_n dX9_findParts_408 rfl 2 rfl rfl ?_
    refine rr_iald dX9_findParts_409 (by decide) rfl rfl ⟨h.1, ?_⟩
    have h := h.2
    refine rr_if_lt (tgt := 426) dX9_findParts_410 (by decide) rfl ⟨fun hc => ?_, fun hc => ?_⟩
    · have h := h.1 hc
      refine rr_iconst (v := (-1 : Int32)) dX9_findParts_426 (by decide) rfl ?_
      refine rr_iast dX9_findParts_427 (by decide) rfl rfl ⟨h.1, ?_⟩
      refine rr_letI (fun I1 hI1 => ?_)
      have h := h.2 I1 hI1
      refine rr_iinc (k := 2) (v := (v3 + (1 : Int32))) (lv' := [(3, .int (v3 + (1 : Int32))), (0, .ref 0), (2, .int v2)]) dX9_findParts_428 rfl rfl (by decide) rfl rfl ?_
      refine rr_goto (tgt := 391) dX9_findParts_431 (by decide) ?_
      exact rr.sub [1, 2, 0] rfl h
    · have h := h.2 hc
      refine rr_aload_n dX9_findParts_413 rfl 0 rfl rfl ?_
      refine rr_getR dX9_findParts_414 fX9_66 (by decide) rfl rfl rfl ?_
      refine rr_iload_n dX9_findParts_417 rfl 2 rfl rfl ?_
      refine rr_iald dX9_findParts_418 (by decide) rfl rfl ⟨h.1, ?_⟩
      have h := h.2
      refine rr_sipush (v := (1000 : Int32)) dX9_findParts_419 (by decide) rfl ?_
      refine rr_isub dX9_findParts_422 rfl ?_
      refine rr_goto (tgt := 427) dX9_findParts_423 (by decide) ?_
      refine rr_iast dX9_findParts_427 (by decide) rfl rfl ⟨h.1, ?_⟩
      refine rr_letI (fun I2 hI2 => ?_)
      have h := h.2 I2 hI2
      refine rr_iinc (k := 2) (v := (v3 + (1 : Int32))) (lv' := [(3, .int (v3 + (1 : Int32))), (0, .ref 0), (2, .int v2)]) dX9_findParts_428 rfl rfl (by decide) rfl rfl ?_
      refine rr_goto (tgt := 391) dX9_findParts_431 (by decide) ?_
      exact rr.sub [1, 2, 0] rfl h
theorem s_X9_findParts_265 {I : tg_I} {J : tg_J} {P : Option Value → tg_I → tg_J → Prop} (v2 : Int32) (v3 : Int32) (v4 : Int32) (v5 : Int32) (h :
  ((I 0 3) ≤ v5 →
   (v2 = 0 →
     l_X9_findParts_326 I J P ((0 : Int32)) v3 (((I 0 3) - (1 : Int32)))) ∧
    (¬ v2 = 0 →
     ((12 : Int32) < v4 →
       l_X9_findParts_326 I J P ((0 : Int32)) v3 (((I 0 3) - (1 : Int32)))) ∧
      (¬ (12 : Int32) < v4 →
       l_X9_findParts_326 I J P ((1 : Int32)) v3 (((I 0 3) - (1 : Int32)))))) ∧
  (¬ (I 0 3) ≤ v5 →
   vp_in v5 100 ∧
    ((¬ (I 15 (Int32.toNatClampNeg v5)) = v3 →
     l_X9_findParts_265 I J P v2 v3 ((v4 + (0 : Int32))) ((v5 + (1 : Int32)))) ∧
    ((I 15 (Int32.toNatClampNeg v5)) = v3 →
     l_X9_findParts_265 I J P v2 v3 ((v4 + (1 : Int32))) ((v5 + (1 : Int32))))))) : l_X9_findParts_265 I J P v2 v3 v4 v5 := by
  show rr pgM zX9_findParts 265 [(0, .ref 0), (2, .int v2), (3, .int v3), (4, .int v4), (5, .int v5)] [] I J P
  refine rr_iload dX9_findParts_265 4 rfl rfl ?_
  refine rr_aload_n dX9_findParts_267 rfl 0 rfl rfl ?_
  refine rr_getI dX9_findParts_268 fX9_16 (by decide) rfl rfl rfl ?_
  refine rr_icmp_ge (tgt := 301) dX9_findParts_271 (by decide) rfl ⟨fun hc => ?_, fun hc => ?_⟩
  · have h := h.1 hc
    refine rr_iload_n dX9_findParts_301 rfl 1 rfl rfl ?_
    refine rr_if_eq (tgt := 316) dX9_findParts_302 (by decide) rfl ⟨fun hc => ?_, fun hc => ?_⟩
    · have h := h.1 hc
      refine rr_iconst (v := (0 : Int32)) dX9_findParts_316 (by decide) rfl ?_
      refine rr_istore_n (lv' := [(2, .int (0 : Int32)), (0, .ref 0), (3, .int v3), (4, .int v4), (5, .int v5)]) dX9_findParts_317 rfl (by decide) rfl rfl ?_
      refine rr_aload_n dX9_findParts_318 rfl 1 rfl rfl ?_
      refine rr_getI dX9_findParts_319 fX9_16 (by decide) rfl rfl rfl ?_
      refine rr_iconst (v := (1 : Int32)) dX9_findParts_322 (by decide) rfl ?_
      refine rr_isub dX9_findParts_323 rfl ?_
      refine rr_istore (lv' := [(5, .int ((I 0 3) - (1 : Int32))), (2, .int (0 : Int32)), (0, .ref 0), (3, .int v3), (4, .int v4)]) dX9_findParts_324 (by decide) rfl rfl ?_
      exact rr.sub [2, 1, 3, 0] rfl h
    · have h := h.2 hc
      refine rr_iload dX9_findParts_305 3 rfl rfl ?_
      refine rr_bipush (v := (12 : Int32)) dX9_findParts_307 (by decide) rfl ?_
      refine rr_icmp_gt (tgt := 316) dX9_findParts_309 (by decide) rfl ⟨fun hc => ?_, fun hc => ?_⟩
      · have h := h.1 hc
        refine rr_iconst (v := (0 : Int32)) dX9_findParts_316 (by decide) rfl ?_
        refine rr_istore_n (lv' := [(2, .int (0 : Int32)), (0, .ref 0), (3, .int v3), (4, .int v4), (5, .int v5)]) dX9_findParts_317 rfl (by decide) rfl rfl ?_
        refine rr_aload_n dX9_findParts_318 rfl 1 rfl rfl ?_
        refine rr_getI dX9_findParts_319 fX9_16 (by decide) rfl rfl rfl ?_
        refine rr_iconst (v := (1 : Int32)) dX9_findParts_322 (by decide) rfl ?_
        refine rr_isub dX9_findParts_323 rfl ?_
        refine rr_istore (lv' := [(5, .int ((I 0 3) - (1 : Int32))), (2, .int (0 : Int32)), (0, .ref 0), (3, .int v3), (4, .int v4)]) dX9_findParts_324 (by decide) rfl rfl ?_
        exact rr.sub [2, 1, 3, 0] rfl h
      · have h := h.2 hc
        refine rr_iconst (v := (1 : Int32)) dX9_findParts_312 (by decide) rfl ?_
        refine rr_goto (tgt := 317) dX9_findParts_313 (by decide) ?_
        refine rr_istore_n (lv' := [(2, .int (1 : Int32)), (0, .ref 0), (3, .int v3), (4, .int v4), (5, .int v5)]) dX9_findParts_317 rfl (by decide) rfl rfl ?_
        refine rr_aload_n dX9_findParts_318 rfl 1 rfl rfl ?_
        refine rr_getI dX9_findParts_319 fX9_16 (by decide) rfl rfl rfl ?_
        refine rr_iconst (v := (1 : Int32)) dX9_findParts_322 (by decide) rfl ?_
        refine rr_isub dX9_findParts_323 rfl ?_
        refine rr_istore (lv' := [(5, .int ((I 0 3) - (1 : Int32))), (2, .int (1 : Int32)), (0, .ref 0), (3, .int v3), (4, .int v4)]) dX9_findParts_324 (by decide) rfl rfl ?_
        exact rr.sub [2, 1, 3, 0] rfl h
  · have h := h.2 hc
    refine rr_iload dX9_findParts_274 3 rfl rfl ?_
    refine rr_aload_n dX9_findParts_276 rfl 0 rfl rfl ?_
    refine rr_getR dX9_findParts_277 fX9_66 (by decide) rfl rfl rfl ?_
    refine rr_iload dX9_findParts_280 4 rfl rfl ?_
    refine rr_iald dX9_findParts_282 (by decide) rfl rfl ⟨h.1, ?_⟩
    have h := h.2
    refine rr_iload_n dX9_findParts_283 rfl 2 rfl rfl ?_
    refine rr_icmp_ne (tgt := 291) dX9_findParts_284 (by decide) rfl ⟨fun hc => ?_, fun hc => ?_⟩
    · have h := h.1 hc
      refine rr_iconst (v := (0 : Int32)) dX9_findParts_291 (by decide) rfl ?_
      refine rr_iadd dX9_findParts_292 rfl ?_
      refine rr_istore (lv' := [(4, .int (v4 + (0 : Int32))), (0, .ref 0), (2, .int v2), (3, .int v3), (5, .int v5)]) dX9_findParts_293 (by decide) rfl rfl ?_
      refine rr_iinc (k := 4) (v := (v5 + (1 : Int32))) (lv' := [(5, .int (v5 + (1 : Int32))), (4, .int (v4 + (0 : Int32))), (0, .ref 0), (2, .int v2), (3, .int v3)]) dX9_findParts_295 rfl rfl (by decide) rfl rfl ?_
      refine rr_goto (tgt := 265) dX9_findParts_298 (by decide) ?_
      exact rr.sub [2, 3, 4, 1, 0] rfl h
    · have h := h.2 hc
      refine rr_iconst (v := (1 : Int32)) dX9_findParts_287 (by decide) rfl ?_
      refine rr_goto (tgt := 292) dX9_findParts_288 (by decide) ?_
      refine rr_iadd dX9_findParts_292 rfl ?_
      refine rr_istore (lv' := [(4, .int (v4 + (1 : Int32))), (0, .ref 0), (2, .int v2), (3, .int v3), (5, .int v5)]) dX9_findParts_293 (by decide) rfl rfl ?_
      refine rr_iinc (k := 4) (v := (v5 + (1 : Int32))) (lv' := [(5, .int (v5 + (1 : Int32))), (4, .int (v4 + (1 : Int32))), (0, .ref 0), (2, .int v2), (3, .int v3)]) dX9_findParts_295 rfl rfl (by decide) rfl rfl ?_
      refine rr_goto (tgt := 265) dX9_findParts_298 (by decide) ?_
      exact rr.sub [2, 3, 4, 1, 0] rfl h
theorem s_X9_findParts_79 {I : tg_I} {J : tg_J} {P : Option Value → tg_I → tg_J → Prop} (v1 : Int32) (v2 : Int32) (v3 : Int32) (v4 : Int32) (h :
  ((I 0 3) ≤ v4 →
   l_X9_findParts_140 I J P v1 v2 v3 ((0 : Int32))) ∧
  (¬ (I 0 3) ≤ v4 →
   call pgM zX9_isNear [.ref 0, .int v2, .int v4] I J (fun vr I1 J1 => ∃ r1 : Int32, vr = some (.int r1) ∧
    ((r1 = 0 →
     l_X9_findParts_79 I1 J1 P v1 v2 v3 ((v4 + (1 : Int32)))) ∧
    (¬ r1 = 0 →
     vp_in v4 100 ∧
      (((I1 15 (Int32.toNatClampNeg v4)) < 0 →
       l_X9_findParts_79 I1 J1 P v1 v2 v3 ((v4 + (1 : Int32)))) ∧
      (¬ (I1 15 (Int32.toNatClampNeg v4)) < 0 →
       vp_in v4 100 ∧
        ((v3 ≤ (I1 15 (Int32.toNatClampNeg v4)) →
         l_X9_findParts_79 I1 J1 P v1 v2 v3 ((v4 + (1 : Int32)))) ∧
        (¬ v3 ≤ (I1 15 (Int32.toNatClampNeg v4)) →
         vp_in v4 100 ∧
          (∀ x1, x1 = (I1 15 (Int32.toNatClampNeg v4)) →
          l_X9_findParts_79 I1 J1 P v1 v2 x1 ((v4 + (1 : Int32))))))))))))) : l_X9_findParts_79 I J P v1 v2 v3 v4 := by
  show rr pgM zX9_findParts 79 [(0, .ref 0), (1, .int v1), (2, .int v2), (3, .int v3), (4, .int v4)] [] I J P
  refine rr_iload dX9_findParts_79 4 rfl rfl ?_
  refine rr_aload_n dX9_findParts_81 rfl 0 rfl rfl ?_
  refine rr_getI dX9_findParts_82 fX9_16 (by decide) rfl rfl rfl ?_
  refine rr_icmp_ge (tgt := 137) dX9_findParts_85 (by decide) rfl ⟨fun hc => ?_, fun hc => ?_⟩
  · have h := h.1 hc
    refine rr_iconst (v := (0 : Int32)) dX9_findParts_137 (by decide) rfl ?_
    refine rr_istore (lv' := [(4, .int (0 : Int32)), (0, .ref 0), (1, .int v1), (2, .int v2), (3, .int v3)]) dX9_findParts_138 (by decide) rfl rfl ?_
    exact rr.sub [1, 2, 3, 4, 0] rfl h
  · have h := h.2 hc
    refine rr_aload_n dX9_findParts_88 rfl 0 rfl rfl ?_
    refine rr_iload_n dX9_findParts_89 rfl 2 rfl rfl ?_
    refine rr_iload dX9_findParts_90 4 rfl rfl ?_
    refine rr_V [.int v2, .int v4] [] dX9_findParts_92 kX9_isNear mX9_138 ⟨by decide, by decide⟩ (by decide) rfl rfl rfl (Nat.le_of_ble_eq_true rfl) rfl (h.mono fun vr I1 J1 h => ?_)
    obtain ⟨r1, rfl, h⟩ := h
    show rr pgM zX9_findParts 95 _ [.int r1] _ _ _
    refine rr_if_eq (tgt := 129) dX9_findParts_95 (by decide) rfl ⟨fun hc => ?_, fun hc => ?_⟩
    · have h := h.1 hc
      refine rr_iload_n dX9_findParts_129 rfl 3 rfl rfl ?_
      refine rr_istore_n (lv' := [(3, .int v3), (0, .ref 0), (1, .int v1), (2, .int v2), (4, .int v4)]) dX9_findParts_130 rfl (by decide) rfl rfl ?_
      refine rr_iinc (k := 4) (v := (v4 + (1 : Int32))) (lv' := [(4, .int (v4 + (1 : Int32))), (3, .int v3), (0, .ref 0), (1, .int v1), (2, .int v2)]) dX9_findParts_131 rfl rfl (by decide) rfl rfl ?_
      refine rr_goto (tgt := 79) dX9_findParts_134 (by decide) ?_
      exact rr.sub [2, 3, 4, 1, 0] rfl h
    · have h := h.2 hc
      refine rr_aload_n dX9_findParts_98 rfl 0 rfl rfl ?_
      refine rr_getR dX9_findParts_99 fX9_66 (by decide) rfl rfl rfl ?_
      refine rr_iload dX9_findParts_102 4 rfl rfl ?_
      refine rr_iald dX9_findParts_104 (by decide) rfl rfl ⟨h.1, ?_⟩
      have h := h.2
      refine rr_if_lt (tgt := 129) dX9_findParts_105 (by decide) rfl ⟨fun hc => ?_, fun hc => ?_⟩
      · have h := h.1 hc
        refine rr_iload_n dX9_findParts_129 rfl 3 rfl rfl ?_
        refine rr_istore_n (lv' := [(3, .int v3), (0, .ref 0), (1, .int v1), (2, .int v2), (4, .int v4)]) dX9_findParts_130 rfl (by decide) rfl rfl ?_
        refine rr_iinc (k := 4) (v := (v4 + (1 : Int32))) (lv' := [(4, .int (v4 + (1 : Int32))), (3, .int v3), (0, .ref 0), (1, .int v1), (2, .int v2)]) dX9_findParts_131 rfl rfl (by decide) rfl rfl ?_
        refine rr_goto (tgt := 79) dX9_findParts_134 (by decide) ?_
        exact rr.sub [2, 3, 4, 1, 0] rfl h
      · have h := h.2 hc
        refine rr_aload_n dX9_findParts_108 rfl 0 rfl rfl ?_
        refine rr_getR dX9_findParts_109 fX9_66 (by decide) rfl rfl rfl ?_
        refine rr_iload dX9_findParts_112 4 rfl rfl ?_
        refine rr_iald dX9_findParts_114 (by decide) rfl rfl ⟨h.1, ?_⟩
        have h := h.2
        refine rr_iload_n dX9_findParts_115 rfl 3 rfl rfl ?_
        refine rr_icmp_ge (tgt := 129) dX9_findParts_116 (by decide) rfl ⟨fun hc => ?_, fun hc => ?_⟩
        · have h := h.1 hc
          refine rr_iload_n dX9_findParts_129 rfl 3 rfl rfl ?_
          refine rr_istore_n (lv' := [(3, .int v3), (0, .ref 0), (1, .int v1), (2, .int v2), (4, .int v4)]) dX9_findParts_130 rfl (by decide) rfl rfl ?_
          refine rr_iinc (k := 4) (v := (v4 + (1 : Int32))) (lv' := [(4, .int (v4 + (1 : Int32))), (3, .int v3), (0, .ref 0), (1, .int v1), (2, .int v2)]) dX9_findParts_131 rfl rfl (by decide) rfl rfl ?_
          refine rr_goto (tgt := 79) dX9_findParts_134 (by decide) ?_
          exact rr.sub [2, 3, 4, 1, 0] rfl h
        · have h := h.2 hc
          refine rr_aload_n dX9_findParts_119 rfl 0 rfl rfl ?_
          refine rr_getR dX9_findParts_120 fX9_66 (by decide) rfl rfl rfl ?_
          refine rr_iload dX9_findParts_123 4 rfl rfl ?_
          refine rr_iald dX9_findParts_125 (by decide) rfl rfl ⟨h.1, ?_⟩
          have h := h.2
          refine rr_goto (tgt := 130) dX9_findParts_126 (by decide) ?_
          refine rr_letTi (fun x1 hx1 => ?_)
          have h := h x1 hx1
          refine rr_istore_n (lv' := [(3, .int x1), (0, .ref 0), (1, .int v1), (2, .int v2), (4, .int v4)]) dX9_findParts_130 rfl (by decide) rfl rfl ?_
          refine rr_iinc (k := 4) (v := (v4 + (1 : Int32))) (lv' := [(4, .int (v4 + (1 : Int32))), (3, .int x1), (0, .ref 0), (1, .int v1), (2, .int v2)]) dX9_findParts_131 rfl rfl (by decide) rfl rfl ?_
          refine rr_goto (tgt := 79) dX9_findParts_134 (by decide) ?_
          exact rr.sub [2, 3, 4, 1, 0] rfl h
theorem s_X9_findParts_326 {I : tg_I} {J : tg_J} {P : Option Value → tg_I → tg_J → Prop} (v2 : Int32) (v3 : Int32) (v5 : Int32) (h :
  (v5 < 0 →
   ∀ I1, I1 = u2 I 0 26 ((I 0 26) + (1 : Int32)) →
    l_X9_findParts_209 I1 J P v2 ((v3 + (1 : Int32)))) ∧
  (¬ v5 < 0 →
   vp_in v5 100 ∧
    ((¬ (I 15 (Int32.toNatClampNeg v5)) = v3 →
     vp_in v5 100 ∧
      (vp_in v5 100 ∧ ∀ I2, I2 = u2 I 15 (Int32.toNatClampNeg v5) (I 15 (Int32.toNatClampNeg v5)) →
      l_X9_findParts_326 I2 J P v2 v3 ((v5 + (-1 : Int32))))) ∧
    ((I 15 (Int32.toNatClampNeg v5)) = v3 →
     vp_in v5 100 ∧ ∀ I3, I3 = u2 I 15 (Int32.toNatClampNeg v5) ((1000 : Int32) + (I 0 26)) →
      l_X9_findParts_326 I3 J P v2 v3 ((v5 + (-1 : Int32))))))) : l_X9_findParts_326 I J P v2 v3 v5 := by
  show rr pgM zX9_findParts 326 [(0, .ref 0), (2, .int v2), (3, .int v3), (5, .int v5)] [] I J P
  refine rr_iload dX9_findParts_326 3 rfl rfl ?_
  refine rr_if_lt (tgt := 373) dX9_findParts_328 (by decide) rfl ⟨fun hc => ?_, fun hc => ?_⟩
  · have h := h.1 hc
    refine rr_aload_n dX9_findParts_373 rfl 0 rfl rfl ?_
    refine rr_dup dX9_findParts_374 rfl rfl ?_
    refine rr_getI dX9_findParts_375 fX9_250 (by decide) rfl rfl rfl ?_
    refine rr_iconst (v := (1 : Int32)) dX9_findParts_378 (by decide) rfl ?_
    refine rr_iadd dX9_findParts_379 rfl ?_
    refine rr_putI dX9_findParts_380 pX9_250 (by decide) rfl rfl rfl ?_
    refine rr_letI (fun I1 hI1 => ?_)
    have h := h I1 hI1
    refine rr_iinc (k := 2) (v := (v3 + (1 : Int32))) (lv' := [(3, .int (v3 + (1 : Int32))), (0, .ref 0), (2, .int v2), (5, .int v5)]) dX9_findParts_383 rfl rfl (by decide) rfl rfl ?_
    refine rr_goto (tgt := 209) dX9_findParts_386 (by decide) ?_
    exact rr.sub [1, 2, 0] rfl h
  · have h := h.2 hc
    refine rr_aload_n dX9_findParts_331 rfl 0 rfl rfl ?_
    refine rr_getR dX9_findParts_332 fX9_66 (by decide) rfl rfl rfl ?_
    refine rr_iload dX9_findParts_335 3 rfl rfl ?_
    refine rr_aload_n dX9_findParts_337 rfl 0 rfl rfl ?_
    refine rr_getR dX9_findParts_338 fX9_66 (by decide) rfl rfl rfl ?_
    refine rr_iload dX9_findParts_341 3 rfl rfl ?_
    refine rr_iald dX9_findParts_343 (by decide) rfl rfl ⟨h.1, ?_⟩
    have h := h.2
    refine rr_iload_n dX9_findParts_344 rfl 2 rfl rfl ?_
    refine rr_icmp_ne (tgt := 359) dX9_findParts_345 (by decide) rfl ⟨fun hc => ?_, fun hc => ?_⟩
    · have h := h.1 hc
      refine rr_aload_n dX9_findParts_359 rfl 0 rfl rfl ?_
      refine rr_getR dX9_findParts_360 fX9_66 (by decide) rfl rfl rfl ?_
      refine rr_iload dX9_findParts_363 3 rfl rfl ?_
      refine rr_iald dX9_findParts_365 (by decide) rfl rfl ⟨h.1, ?_⟩
      have h := h.2
      refine rr_iast dX9_findParts_366 (by decide) rfl rfl ⟨h.1, ?_⟩
      refine rr_letI (fun I2 hI2 => ?_)
      have h := h.2 I2 hI2
      refine rr_iinc (k := 3) (v := (v5 + (-1 : Int32))) (lv' := [(5, .int (v5 + (-1 : Int32))), (0, .ref 0), (2, .int v2), (3, .int v3)]) dX9_findParts_367 rfl rfl (by decide) rfl rfl ?_
      refine rr_goto (tgt := 326) dX9_findParts_370 (by decide) ?_
      exact rr.sub [1, 2, 3, 0] rfl h
    · have h := h.2 hc
      refine rr_sipush (v := (1000 : Int32)) dX9_findParts_348 (by decide) rfl ?_
      refine rr_aload_n dX9_findParts_351 rfl 0 rfl rfl ?_
      refine rr_getI dX9_findParts_352 fX9_250 (by decide) rfl rfl rfl ?_
      refine rr_iadd dX9_findParts_355 rfl ?_
      refine rr_goto (tgt := 366) dX9_findParts_356 (by decide) ?_
      refine rr_iast dX9_findParts_366 (by decide) rfl rfl ⟨h.1, ?_⟩
      refine rr_letI (fun I3 hI3 => ?_)
      have h := h.2 I3 hI3
      refine rr_iinc (k := 3) (v := (v5 + (-1 : Int32))) (lv' := [(5, .int (v5 + (-1 : Int32))), (0, .ref 0), (2, .int v2), (3, .int v3)]) dX9_findParts_367 rfl rfl (by decide) rfl rfl ?_
      refine rr_goto (tgt := 326) dX9_findParts_370 (by decide) ?_
      exact rr.sub [1, 2, 3, 0] rfl h
theorem s_X9_findParts_140 {I : tg_I} {J : tg_J} {P : Option Value → tg_I → tg_J → Prop} (v1 : Int32) (v2 : Int32) (v3 : Int32) (v4 : Int32) (h :
  ((I 0 3) ≤ v4 →
   l_X9_findParts_55 I J P v1 ((v2 + (1 : Int32)))) ∧
  (¬ (I 0 3) ≤ v4 →
   call pgM zX9_isNear [.ref 0, .int v2, .int v4] I J (fun vr I1 J1 => ∃ r1 : Int32, vr = some (.int r1) ∧
    ((r1 = 0 →
     l_X9_findParts_140 I1 J1 P v1 v2 v3 ((v4 + (1 : Int32)))) ∧
    (¬ r1 = 0 →
     vp_in v4 100 ∧
      (((I1 15 (Int32.toNatClampNeg v4)) ≤ v3 →
       l_X9_findParts_140 I1 J1 P v1 v2 v3 ((v4 + (1 : Int32)))) ∧
      (¬ (I1 15 (Int32.toNatClampNeg v4)) ≤ v3 →
       vp_in v4 100 ∧ ∀ I2, I2 = u2 I1 15 (Int32.toNatClampNeg v4) v3 →
        l_X9_findParts_140 I2 J1 P ((1 : Int32)) v2 v3 ((v4 + (1 : Int32)))))))))) : l_X9_findParts_140 I J P v1 v2 v3 v4 := by
  show rr pgM zX9_findParts 140 [(0, .ref 0), (1, .int v1), (2, .int v2), (3, .int v3), (4, .int v4)] [] I J P
  refine rr_iload dX9_findParts_140 4 rfl rfl ?_
  refine rr_aload_n dX9_findParts_142 rfl 0 rfl rfl ?_
  refine rr_getI dX9_findParts_143 fX9_16 (by decide) rfl rfl rfl ?_
  refine rr_icmp_ge (tgt := 186) dX9_findParts_146 (by decide) rfl ⟨fun hc => ?_, fun hc => ?_⟩
  · have h := h.1 hc
    refine rr_iinc (k := 2) (v := (v2 + (1 : Int32))) (lv' := [(2, .int (v2 + (1 : Int32))), (0, .ref 0), (1, .int v1), (3, .int v3), (4, .int v4)]) dX9_findParts_186 rfl rfl (by decide) rfl rfl ?_
    refine rr_goto (tgt := 55) dX9_findParts_189 (by decide) ?_
    exact rr.sub [1, 2, 0] rfl h
  · have h := h.2 hc
    refine rr_aload_n dX9_findParts_149 rfl 0 rfl rfl ?_
    refine rr_iload_n dX9_findParts_150 rfl 2 rfl rfl ?_
    refine rr_iload dX9_findParts_151 4 rfl rfl ?_
    refine rr_V [.int v2, .int v4] [] dX9_findParts_153 kX9_isNear mX9_138 ⟨by decide, by decide⟩ (by decide) rfl rfl rfl (Nat.le_of_ble_eq_true rfl) rfl (h.mono fun vr I1 J1 h => ?_)
    obtain ⟨r1, rfl, h⟩ := h
    show rr pgM zX9_findParts 156 _ [.int r1] _ _ _
    refine rr_if_eq (tgt := 180) dX9_findParts_156 (by decide) rfl ⟨fun hc => ?_, fun hc => ?_⟩
    · have h := h.1 hc
      refine rr_iinc (k := 4) (v := (v4 + (1 : Int32))) (lv' := [(4, .int (v4 + (1 : Int32))), (0, .ref 0), (1, .int v1), (2, .int v2), (3, .int v3)]) dX9_findParts_180 rfl rfl (by decide) rfl rfl ?_
      refine rr_goto (tgt := 140) dX9_findParts_183 (by decide) ?_
      exact rr.sub [1, 2, 3, 4, 0] rfl h
    · have h := h.2 hc
      refine rr_aload_n dX9_findParts_159 rfl 0 rfl rfl ?_
      refine rr_getR dX9_findParts_160 fX9_66 (by decide) rfl rfl rfl ?_
      refine rr_iload dX9_findParts_163 4 rfl rfl ?_
      refine rr_iald dX9_findParts_165 (by decide) rfl rfl ⟨h.1, ?_⟩
      have h := h.2
      refine rr_iload_n dX9_findParts_166 rfl 3 rfl rfl ?_
      refine rr_icmp_le (tgt := 180) dX9_findParts_167 (by decide) rfl ⟨fun hc => ?_, fun hc => ?_⟩
      · have h := h.1 hc
        refine rr_iinc (k := 4) (v := (v4 + (1 : Int32))) (lv' := [(4, .int (v4 + (1 : Int32))), (0, .ref 0), (1, .int v1), (2, .int v2), (3, .int v3)]) dX9_findParts_180 rfl rfl (by decide) rfl rfl ?_
        refine rr_goto (tgt := 140) dX9_findParts_183 (by decide) ?_
        exact rr.sub [1, 2, 3, 4, 0] rfl h
      · have h := h.2 hc
        refine rr_aload_n dX9_findParts_170 rfl 0 rfl rfl ?_
        refine rr_getR dX9_findParts_171 fX9_66 (by decide) rfl rfl rfl ?_
        refine rr_iload dX9_findParts_174 4 rfl rfl ?_
        refine rr_iload_n dX9_findParts_176 rfl 3 rfl rfl ?_
        refine rr_iast dX9_findParts_177 (by decide) rfl rfl ⟨h.1, ?_⟩
        refine rr_letI (fun I2 hI2 => ?_)
        have h := h.2 I2 hI2
        refine rr_iconst (v := (1 : Int32)) dX9_findParts_178 (by decide) rfl ?_
        refine rr_istore_n (lv' := [(1, .int (1 : Int32)), (0, .ref 0), (2, .int v2), (3, .int v3), (4, .int v4)]) dX9_findParts_179 rfl (by decide) rfl rfl ?_
        refine rr_iinc (k := 4) (v := (v4 + (1 : Int32))) (lv' := [(4, .int (v4 + (1 : Int32))), (1, .int (1 : Int32)), (0, .ref 0), (2, .int v2), (3, .int v3)]) dX9_findParts_180 rfl rfl (by decide) rfl rfl ?_
        refine rr_goto (tgt := 140) dX9_findParts_183 (by decide) ?_
        exact rr.sub [2, 1, 3, 4, 0] rfl h

def l_X9_fits_2 (I : tg_I) (J : tg_J) (P : Option Value → tg_I → tg_J → Prop) (v1 : Int32) (v2 : Int32) : Prop := rr pgM zX9_fits 2 [(0, .ref 0), (1, .int v1), (2, .int v2)] [] I J P
def l_X9_fits_48 (I : tg_I) (J : tg_J) (P : Option Value → tg_I → tg_J → Prop) (v1 : Int32) (v2 : Int32) (v3 : Int32) (v4 : Int32) (v5 : Int32) : Prop := rr pgM zX9_fits 48 [(0, .ref 0), (1, .int v1), (2, .int v2), (3, .int v3), (4, .int v4), (5, .int v5)] [] I J P
theorem e_X9_fits {I : tg_I} {J : tg_J} {P : Option Value → tg_I → tg_J → Prop} (v1 : Int32) (h :
  l_X9_fits_2 I J P v1 ((0 : Int32))) : call pgM zX9_fits [.ref 0, .int v1] I J P := by
  refine call_of (by decide +kernel) (fun _ => Nat.le_of_ble_eq_true rfl) ?_
  show rr pgM zX9_fits 0 [(0, .ref 0), (1, .int v1)] [] I J P
  refine rr_iconst (v := (0 : Int32)) dX9_fits_0 (by decide) rfl ?_
  refine rr_istore_n (lv' := [(2, .int (0 : Int32)), (0, .ref 0), (1, .int v1)]) dX9_fits_1 rfl (by decide) rfl rfl ?_
  exact rr.sub [1, 2, 0] rfl h
theorem s_X9_fits_2 {I : tg_I} {J : tg_J} {P : Option Value → tg_I → tg_J → Prop} (v1 : Int32) (v2 : Int32) (h :
  ((I 0 3) ≤ v2 →
   P (some (.int (1 : Int32))) I J) ∧
  (¬ (I 0 3) ≤ v2 →
   call pgM zX9_isNear [.ref 0, .int v1, .int v2] I J (fun vr I1 J1 => ∃ r1 : Int32, vr = some (.int r1) ∧
    ((r1 = 0 →
     l_X9_fits_2 I1 J1 P v1 ((v2 + (1 : Int32)))) ∧
    (¬ r1 = 0 →
     vp_in v2 100 ∧
      ((¬ (I1 3 (Int32.toNatClampNeg v2)) = (1 : Int32) →
       l_X9_fits_2 I1 J1 P v1 ((v2 + (1 : Int32)))) ∧
      ((I1 3 (Int32.toNatClampNeg v2)) = (1 : Int32) →
       call pgM zX9_numberOf [.ref 0, .int v2] I1 J1 (fun vr I2 J2 => ∃ r2 : Int32, vr = some (.int r2) ∧
        (call pgM zX9_nearState [.ref 0, .int v2, .int (2 : Int32)] I2 J2 (fun vr I3 J3 => ∃ r3 : Int32, vr = some (.int r3) ∧
        (l_X9_fits_48 I3 J3 P v1 v2 ((r2 - r3)) ((0 : Int32)) ((0 : Int32))))))))))))) : l_X9_fits_2 I J P v1 v2 := by
  show rr pgM zX9_fits 2 [(0, .ref 0), (1, .int v1), (2, .int v2)] [] I J P
  refine rr_iload_n dX9_fits_2 rfl 2 rfl rfl ?_
  refine rr_aload_n dX9_fits_3 rfl 0 rfl rfl ?_
  refine rr_getI dX9_fits_4 fX9_16 (by decide) rfl rfl rfl ?_
  refine rr_icmp_ge (tgt := 140) dX9_fits_7 (by decide) rfl ⟨fun hc => ?_, fun hc => ?_⟩
  · have h := h.1 hc
    refine rr_iconst (v := (1 : Int32)) dX9_fits_140 (by decide) rfl ?_
    exact rr_zret dX9_fits_141 rfl rfl h
  · have h := h.2 hc
    refine rr_aload_n dX9_fits_10 rfl 0 rfl rfl ?_
    refine rr_iload_n dX9_fits_11 rfl 1 rfl rfl ?_
    refine rr_iload_n dX9_fits_12 rfl 2 rfl rfl ?_
    refine rr_V [.int v1, .int v2] [] dX9_fits_13 kX9_isNear mX9_138 ⟨by decide, by decide⟩ (by decide) rfl rfl rfl (Nat.le_of_ble_eq_true rfl) rfl (h.mono fun vr I1 J1 h => ?_)
    obtain ⟨r1, rfl, h⟩ := h
    show rr pgM zX9_fits 16 _ [.int r1] _ _ _
    refine rr_if_eq (tgt := 134) dX9_fits_16 (by decide) rfl ⟨fun hc => ?_, fun hc => ?_⟩
    · have h := h.1 hc
      refine rr_iinc (k := 2) (v := (v2 + (1 : Int32))) (lv' := [(2, .int (v2 + (1 : Int32))), (0, .ref 0), (1, .int v1)]) dX9_fits_134 rfl rfl (by decide) rfl rfl ?_
      refine rr_goto (tgt := 2) dX9_fits_137 (by decide) ?_
      exact rr.sub [1, 2, 0] rfl h
    · have h := h.2 hc
      refine rr_aload_n dX9_fits_19 rfl 0 rfl rfl ?_
      refine rr_getR dX9_fits_20 fX9_26 (by decide) rfl rfl rfl ?_
      refine rr_iload_n dX9_fits_23 rfl 2 rfl rfl ?_
      refine rr_iald dX9_fits_24 (by decide) rfl rfl ⟨h.1, ?_⟩
      have h := h.2
      refine rr_iconst (v := (1 : Int32)) dX9_fits_25 (by decide) rfl ?_
      refine rr_icmp_ne (tgt := 134) dX9_fits_26 (by decide) rfl ⟨fun hc => ?_, fun hc => ?_⟩
      · have h := h.1 hc
        refine rr_iinc (k := 2) (v := (v2 + (1 : Int32))) (lv' := [(2, .int (v2 + (1 : Int32))), (0, .ref 0), (1, .int v1)]) dX9_fits_134 rfl rfl (by decide) rfl rfl ?_
        refine rr_goto (tgt := 2) dX9_fits_137 (by decide) ?_
        exact rr.sub [1, 2, 0] rfl h
      · have h := h.2 hc
        refine rr_aload_n dX9_fits_29 rfl 0 rfl rfl ?_
        refine rr_iload_n dX9_fits_30 rfl 2 rfl rfl ?_
        refine rr_V [.int v2] [] dX9_fits_31 kX9_numberOf mX9_142 ⟨by decide, by decide⟩ (by decide) rfl rfl rfl (Nat.le_of_ble_eq_true rfl) rfl (h.mono fun vr I2 J2 h => ?_)
        obtain ⟨r2, rfl, h⟩ := h
        show rr pgM zX9_fits 34 _ [.int r2] _ _ _
        refine rr_aload_n dX9_fits_34 rfl 0 rfl rfl ?_
        refine rr_iload_n dX9_fits_35 rfl 2 rfl rfl ?_
        refine rr_iconst (v := (2 : Int32)) dX9_fits_36 (by decide) rfl ?_
        refine rr_V [.int v2, .int (2 : Int32)] [.int r2] dX9_fits_37 kX9_nearState mX9_165 ⟨by decide, by decide⟩ (by decide) rfl rfl rfl (Nat.le_of_ble_eq_true rfl) rfl (h.mono fun vr I3 J3 h => ?_)
        obtain ⟨r3, rfl, h⟩ := h
        show rr pgM zX9_fits 40 _ [.int r3, .int r2] _ _ _
        refine rr_isub dX9_fits_40 rfl ?_
        refine rr_istore_n (lv' := [(3, .int (r2 - r3)), (0, .ref 0), (1, .int v1), (2, .int v2)]) dX9_fits_41 rfl (by decide) rfl rfl ?_
        refine rr_iconst (v := (0 : Int32)) dX9_fits_42 (by decide) rfl ?_
        refine rr_istore (lv' := [(4, .int (0 : Int32)), (3, .int (r2 - r3)), (0, .ref 0), (1, .int v1), (2, .int v2)]) dX9_fits_43 (by decide) rfl rfl ?_
        refine rr_iconst (v := (0 : Int32)) dX9_fits_45 (by decide) rfl ?_
        refine rr_istore (lv' := [(5, .int (0 : Int32)), (4, .int (0 : Int32)), (3, .int (r2 - r3)), (0, .ref 0), (1, .int v1), (2, .int v2)]) dX9_fits_46 (by decide) rfl rfl ?_
        exact rr.sub [3, 4, 5, 2, 1, 0] rfl h
theorem s_X9_fits_48 {I : tg_I} {J : tg_J} {P : Option Value → tg_I → tg_J → Prop} (v1 : Int32) (v2 : Int32) (v3 : Int32) (v4 : Int32) (v5 : Int32) (h :
  ((I 0 3) ≤ v5 →
   (v3 < 0 →
     P (some (.int (0 : Int32))) I J) ∧
    (¬ v3 < 0 →
     (v3 ≤ v4 →
       l_X9_fits_2 I J P v1 ((v2 + (1 : Int32)))) ∧
      (¬ v3 ≤ v4 →
       P (some (.int (0 : Int32))) I J))) ∧
  (¬ (I 0 3) ≤ v5 →
   call pgM zX9_isNear [.ref 0, .int v2, .int v5] I J (fun vr I1 J1 => ∃ r1 : Int32, vr = some (.int r1) ∧
    ((r1 = 0 →
     l_X9_fits_48 I1 J1 P v1 v2 v3 v4 ((v5 + (1 : Int32)))) ∧
    (¬ r1 = 0 →
     vp_in v5 100 ∧
      ((¬ (I1 3 (Int32.toNatClampNeg v5)) = 0 →
       l_X9_fits_48 I1 J1 P v1 v2 v3 v4 ((v5 + (1 : Int32)))) ∧
      ((I1 3 (Int32.toNatClampNeg v5)) = 0 →
       vp_in v5 100 ∧
        ((¬ (I1 17 (Int32.toNatClampNeg v5)) = (1 : Int32) →
         vp_in v5 100 ∧
          ((0 ≤ (I1 17 (Int32.toNatClampNeg v5)) →
           l_X9_fits_48 I1 J1 P v1 v2 ((v3 - (0 : Int32))) ((v4 + (0 : Int32))) ((v5 + (1 : Int32)))) ∧
          (¬ 0 ≤ (I1 17 (Int32.toNatClampNeg v5)) →
           l_X9_fits_48 I1 J1 P v1 v2 ((v3 - (0 : Int32))) ((v4 + (1 : Int32))) ((v5 + (1 : Int32)))))) ∧
        ((I1 17 (Int32.toNatClampNeg v5)) = (1 : Int32) →
         vp_in v5 100 ∧
          ((0 ≤ (I1 17 (Int32.toNatClampNeg v5)) →
           l_X9_fits_48 I1 J1 P v1 v2 ((v3 - (1 : Int32))) ((v4 + (0 : Int32))) ((v5 + (1 : Int32)))) ∧
          (¬ 0 ≤ (I1 17 (Int32.toNatClampNeg v5)) →
           l_X9_fits_48 I1 J1 P v1 v2 ((v3 - (1 : Int32))) ((v4 + (1 : Int32))) ((v5 + (1 : Int32)))))))))))))) : l_X9_fits_48 I J P v1 v2 v3 v4 v5 := by
  show rr pgM zX9_fits 48 [(0, .ref 0), (1, .int v1), (2, .int v2), (3, .int v3), (4, .int v4), (5, .int v5)] [] I J P
  refine rr_iload dX9_fits_48 5 rfl rfl ?_
  refine rr_aload_n dX9_fits_50 rfl 0 rfl rfl ?_
  refine rr_getI dX9_fits_51 fX9_16 (by decide) rfl rfl rfl ?_
  refine rr_icmp_ge (tgt := 122) dX9_fits_54 (by decide) rfl ⟨fun hc => ?_, fun hc => ?_⟩
  · have h := h.1 hc
    refine rr_iload_n dX9_fits_122 rfl 3 rfl rfl ?_
    refine rr_if_lt (tgt := 132) dX9_fits_123 (by decide) rfl ⟨fun hc => ?_, fun hc => ?_⟩
    · have h := h.1 hc
      refine rr_iconst (v := (0 : Int32)) dX9_fits_132 (by decide) rfl ?_
      exact rr_zret dX9_fits_133 rfl rfl h
    · have h := h.2 hc
      refine rr_iload_n dX9_fits_126 rfl 3 rfl rfl ?_
      refine rr_iload dX9_fits_127 4 rfl rfl ?_
      refine rr_icmp_le (tgt := 134) dX9_fits_129 (by decide) rfl ⟨fun hc => ?_, fun hc => ?_⟩
      · have h := h.1 hc
        refine rr_iinc (k := 2) (v := (v2 + (1 : Int32))) (lv' := [(2, .int (v2 + (1 : Int32))), (0, .ref 0), (1, .int v1), (3, .int v3), (4, .int v4), (5, .int v5)]) dX9_fits_134 rfl rfl (by decide) rfl rfl ?_
        refine rr_goto (tgt := 2) dX9_fits_137 (by decide) ?_
        exact rr.sub [1, 2, 0] rfl h
      · have h := h.2 hc
        refine rr_iconst (v := (0 : Int32)) dX9_fits_132 (by decide) rfl ?_
        exact rr_zret dX9_fits_133 rfl rfl h
  · have h := h.2 hc
    refine rr_aload_n dX9_fits_57 rfl 0 rfl rfl ?_
    refine rr_iload_n dX9_fits_58 rfl 2 rfl rfl ?_
    refine rr_iload dX9_fits_59 5 rfl rfl ?_
    refine rr_V [.int v2, .int v5] [] dX9_fits_61 kX9_isNear mX9_138 ⟨by decide, by decide⟩ (by decide) rfl rfl rfl (Nat.le_of_ble_eq_true rfl) rfl (h.mono fun vr I1 J1 h => ?_)
    obtain ⟨r1, rfl, h⟩ := h
    show rr pgM zX9_fits 64 _ [.int r1] _ _ _
    refine rr_if_eq (tgt := 116) dX9_fits_64 (by decide) rfl ⟨fun hc => ?_, fun hc => ?_⟩
    · have h := h.1 hc
      refine rr_iinc (k := 5) (v := (v5 + (1 : Int32))) (lv' := [(5, .int (v5 + (1 : Int32))), (0, .ref 0), (1, .int v1), (2, .int v2), (3, .int v3), (4, .int v4)]) dX9_fits_116 rfl rfl (by decide) rfl rfl ?_
      refine rr_goto (tgt := 48) dX9_fits_119 (by decide) ?_
      exact rr.sub [1, 2, 3, 4, 5, 0] rfl h
    · have h := h.2 hc
      refine rr_aload_n dX9_fits_67 rfl 0 rfl rfl ?_
      refine rr_getR dX9_fits_68 fX9_26 (by decide) rfl rfl rfl ?_
      refine rr_iload dX9_fits_71 5 rfl rfl ?_
      refine rr_iald dX9_fits_73 (by decide) rfl rfl ⟨h.1, ?_⟩
      have h := h.2
      refine rr_if_ne (tgt := 116) dX9_fits_74 (by decide) rfl ⟨fun hc => ?_, fun hc => ?_⟩
      · have h := h.1 hc
        refine rr_iinc (k := 5) (v := (v5 + (1 : Int32))) (lv' := [(5, .int (v5 + (1 : Int32))), (0, .ref 0), (1, .int v1), (2, .int v2), (3, .int v3), (4, .int v4)]) dX9_fits_116 rfl rfl (by decide) rfl rfl ?_
        refine rr_goto (tgt := 48) dX9_fits_119 (by decide) ?_
        exact rr.sub [1, 2, 3, 4, 5, 0] rfl h
      · have h := h.2 hc
        refine rr_iload_n dX9_fits_77 rfl 3 rfl rfl ?_
        refine rr_aload_n dX9_fits_78 rfl 0 rfl rfl ?_
        refine rr_getR dX9_fits_79 fX9_72 (by decide) rfl rfl rfl ?_
        refine rr_iload dX9_fits_82 5 rfl rfl ?_
        refine rr_iald dX9_fits_84 (by decide) rfl rfl ⟨h.1, ?_⟩
        have h := h.2
        refine rr_iconst (v := (1 : Int32)) dX9_fits_85 (by decide) rfl ?_
        refine rr_icmp_ne (tgt := 93) dX9_fits_86 (by decide) rfl ⟨fun hc => ?_, fun hc => ?_⟩
        · have h := h.1 hc
          refine rr_iconst (v := (0 : Int32)) dX9_fits_93 (by decide) rfl ?_
          refine rr_isub dX9_fits_94 rfl ?_
          refine rr_istore_n (lv' := [(3, .int (v3 - (0 : Int32))), (0, .ref 0), (1, .int v1), (2, .int v2), (4, .int v4), (5, .int v5)]) dX9_fits_95 rfl (by decide) rfl rfl ?_
          refine rr_iload dX9_fits_96 4 rfl rfl ?_
          refine rr_aload_n dX9_fits_98 rfl 1 rfl rfl ?_
          refine rr_getR dX9_fits_99 fX9_72 (by decide) rfl rfl rfl ?_
          refine rr_iload dX9_fits_102 5 rfl rfl ?_
          refine rr_iald dX9_fits_104 (by decide) rfl rfl ⟨h.1, ?_⟩
          have h := h.2
          refine rr_if_ge (tgt := 112) dX9_fits_105 (by decide) rfl ⟨fun hc => ?_, fun hc => ?_⟩
          · have h := h.1 hc
            refine rr_iconst (v := (0 : Int32)) dX9_fits_112 (by decide) rfl ?_
            refine rr_iadd dX9_fits_113 rfl ?_
            refine rr_istore (lv' := [(4, .int (v4 + (0 : Int32))), (3, .int (v3 - (0 : Int32))), (0, .ref 0), (1, .int v1), (2, .int v2), (5, .int v5)]) dX9_fits_114 (by decide) rfl rfl ?_
            refine rr_iinc (k := 5) (v := (v5 + (1 : Int32))) (lv' := [(5, .int (v5 + (1 : Int32))), (4, .int (v4 + (0 : Int32))), (3, .int (v3 - (0 : Int32))), (0, .ref 0), (1, .int v1), (2, .int v2)]) dX9_fits_116 rfl rfl (by decide) rfl rfl ?_
            refine rr_goto (tgt := 48) dX9_fits_119 (by decide) ?_
            exact rr.sub [3, 4, 5, 2, 1, 0] rfl h
          · have h := h.2 hc
            refine rr_iconst (v := (1 : Int32)) dX9_fits_108 (by decide) rfl ?_
            refine rr_goto (tgt := 113) dX9_fits_109 (by decide) ?_
            refine rr_iadd dX9_fits_113 rfl ?_
            refine rr_istore (lv' := [(4, .int (v4 + (1 : Int32))), (3, .int (v3 - (0 : Int32))), (0, .ref 0), (1, .int v1), (2, .int v2), (5, .int v5)]) dX9_fits_114 (by decide) rfl rfl ?_
            refine rr_iinc (k := 5) (v := (v5 + (1 : Int32))) (lv' := [(5, .int (v5 + (1 : Int32))), (4, .int (v4 + (1 : Int32))), (3, .int (v3 - (0 : Int32))), (0, .ref 0), (1, .int v1), (2, .int v2)]) dX9_fits_116 rfl rfl (by decide) rfl rfl ?_
            refine rr_goto (tgt := 48) dX9_fits_119 (by decide) ?_
            exact rr.sub [3, 4, 5, 2, 1, 0] rfl h
        · have h := h.2 hc
          refine rr_iconst (v := (1 : Int32)) dX9_fits_89 (by decide) rfl ?_
          refine rr_goto (tgt := 94) dX9_fits_90 (by decide) ?_
          refine rr_isub dX9_fits_94 rfl ?_
          refine rr_istore_n (lv' := [(3, .int (v3 - (1 : Int32))), (0, .ref 0), (1, .int v1), (2, .int v2), (4, .int v4), (5, .int v5)]) dX9_fits_95 rfl (by decide) rfl rfl ?_
          refine rr_iload dX9_fits_96 4 rfl rfl ?_
          refine rr_aload_n dX9_fits_98 rfl 1 rfl rfl ?_
          refine rr_getR dX9_fits_99 fX9_72 (by decide) rfl rfl rfl ?_
          refine rr_iload dX9_fits_102 5 rfl rfl ?_
          refine rr_iald dX9_fits_104 (by decide) rfl rfl ⟨h.1, ?_⟩
          have h := h.2
          refine rr_if_ge (tgt := 112) dX9_fits_105 (by decide) rfl ⟨fun hc => ?_, fun hc => ?_⟩
          · have h := h.1 hc
            refine rr_iconst (v := (0 : Int32)) dX9_fits_112 (by decide) rfl ?_
            refine rr_iadd dX9_fits_113 rfl ?_
            refine rr_istore (lv' := [(4, .int (v4 + (0 : Int32))), (3, .int (v3 - (1 : Int32))), (0, .ref 0), (1, .int v1), (2, .int v2), (5, .int v5)]) dX9_fits_114 (by decide) rfl rfl ?_
            refine rr_iinc (k := 5) (v := (v5 + (1 : Int32))) (lv' := [(5, .int (v5 + (1 : Int32))), (4, .int (v4 + (0 : Int32))), (3, .int (v3 - (1 : Int32))), (0, .ref 0), (1, .int v1), (2, .int v2)]) dX9_fits_116 rfl rfl (by decide) rfl rfl ?_
            refine rr_goto (tgt := 48) dX9_fits_119 (by decide) ?_
            exact rr.sub [3, 4, 5, 2, 1, 0] rfl h
          · have h := h.2 hc
            refine rr_iconst (v := (1 : Int32)) dX9_fits_108 (by decide) rfl ?_
            refine rr_goto (tgt := 113) dX9_fits_109 (by decide) ?_
            refine rr_iadd dX9_fits_113 rfl ?_
            refine rr_istore (lv' := [(4, .int (v4 + (1 : Int32))), (3, .int (v3 - (1 : Int32))), (0, .ref 0), (1, .int v1), (2, .int v2), (5, .int v5)]) dX9_fits_114 (by decide) rfl rfl ?_
            refine rr_iinc (k := 5) (v := (v5 + (1 : Int32))) (lv' := [(5, .int (v5 + (1 : Int32))), (4, .int (v4 + (1 : Int32))), (3, .int (v3 - (1 : Int32))), (0, .ref 0), (1, .int v1), (2, .int v2)]) dX9_fits_116 rfl rfl (by decide) rfl rfl ?_
            refine rr_goto (tgt := 48) dX9_fits_119 (by decide) ?_
            exact rr.sub [3, 4, 5, 2, 1, 0] rfl h

def l_X9_countOne_5 (I : tg_I) (J : tg_J) (P : Option Value → tg_I → tg_J → Prop) (v1 : Int32) (v2 : Int32) (v3 : Int32) (v4 : Int32) : Prop := rr pgM zX9_countOne 5 [(0, .ref 0), (1, .int v1), (2, .int v2), (3, .int v3), (4, .int v4)] [] I J P
def l_X9_countOne_50 (I : tg_I) (J : tg_J) (P : Option Value → tg_I → tg_J → Prop) (v2 : Int32) (v3 : Int32) (v4 : Int32) : Prop := rr pgM zX9_countOne 50 [(0, .ref 0), (2, .int v2), (3, .int v3), (4, .int v4)] [] I J P
theorem e_X9_countOne {I : tg_I} {J : tg_J} {P : Option Value → tg_I → tg_J → Prop} (v1 : Int32) (v2 : Int32) (h :
  l_X9_countOne_5 I J P v1 v2 ((0 : Int32)) ((0 : Int32))) : call pgM zX9_countOne [.ref 0, .int v1, .int v2] I J P := by
  refine call_of (by decide +kernel) (fun _ => Nat.le_of_ble_eq_true rfl) ?_
  show rr pgM zX9_countOne 0 [(0, .ref 0), (1, .int v1), (2, .int v2)] [] I J P
  refine rr_iconst (v := (0 : Int32)) dX9_countOne_0 (by decide) rfl ?_
  refine rr_istore_n (lv' := [(3, .int (0 : Int32)), (0, .ref 0), (1, .int v1), (2, .int v2)]) dX9_countOne_1 rfl (by decide) rfl rfl ?_
  refine rr_iconst (v := (0 : Int32)) dX9_countOne_2 (by decide) rfl ?_
  refine rr_istore (lv' := [(4, .int (0 : Int32)), (3, .int (0 : Int32)), (0, .ref 0), (1, .int v1), (2, .int v2)]) dX9_countOne_3 (by decide) rfl rfl ?_
  exact rr.sub [2, 3, 4, 1, 0] rfl h
theorem s_X9_countOne_5 {I : tg_I} {J : tg_J} {P : Option Value → tg_I → tg_J → Prop} (v1 : Int32) (v2 : Int32) (v3 : Int32) (v4 : Int32) (h :
  (v2 ≤ v4 →
   vp_in (((13 : Int32) * v1) + v3) 1300 ∧
    (vp_in (((13 : Int32) * v1) + v3) 1300 ∧ ∀ J1, J1 = u2 J 18 (Int32.toNatClampNeg (((13 : Int32) * v1) + v3)) ((J 18 (Int32.toNatClampNeg (((13 : Int32) * v1) + v3))) + (1 : Int64)) →
    l_X9_countOne_50 I J1 P v2 v3 ((0 : Int32)))) ∧
  (¬ v2 ≤ v4 →
   vp_in v4 100 ∧
    (vp_in (I 16 (Int32.toNatClampNeg v4)) 100 ∧
    (∀ x1, x1 = (v3 + (I 17 (Int32.toNatClampNeg (I 16 (Int32.toNatClampNeg v4))))) →
    l_X9_countOne_5 I J P v1 v2 x1 ((v4 + (1 : Int32))))))) : l_X9_countOne_5 I J P v1 v2 v3 v4 := by
  show rr pgM zX9_countOne 5 [(0, .ref 0), (1, .int v1), (2, .int v2), (3, .int v3), (4, .int v4)] [] I J P
  refine rr_iload dX9_countOne_5 4 rfl rfl ?_
  refine rr_iload_n dX9_countOne_7 rfl 2 rfl rfl ?_
  refine rr_icmp_ge (tgt := 32) dX9_countOne_8 (by decide) rfl ⟨fun hc => ?_, fun hc => ?_⟩
  · have h := h.1 hc
    refine rr_aload_n dX9_countOne_32 rfl 0 rfl rfl ?_
    refine rr_getR dX9_countOne_33 fX9_75 (by decide) rfl rfl rfl ?_
    refine rr_bipush (v := (13 : Int32)) dX9_countOne_36 (by decide) rfl ?_
    refine rr_iload_n dX9_countOne_38 rfl 1 rfl rfl ?_
    refine rr_imul dX9_countOne_39 rfl ?_
    refine rr_iload_n dX9_countOne_40 rfl 3 rfl rfl ?_
    refine rr_iadd dX9_countOne_41 rfl ?_
    refine rr_dup2_11 dX9_countOne_42 rfl rfl rfl ?_
    refine rr_lald dX9_countOne_43 (by decide) rfl rfl ⟨h.1, ?_⟩
    have h := h.2
    refine rr_lconst (v := (1 : Int64)) dX9_countOne_44 (by decide) rfl ?_
    refine rr_ladd dX9_countOne_45 rfl ?_
    refine rr_last dX9_countOne_46 (by decide) rfl rfl ⟨h.1, ?_⟩
    refine rr_letJ (fun J1 hJ1 => ?_)
    have h := h.2 J1 hJ1
    refine rr_iconst (v := (0 : Int32)) dX9_countOne_47 (by decide) rfl ?_
    refine rr_istore (lv' := [(4, .int (0 : Int32)), (0, .ref 0), (1, .int v1), (2, .int v2), (3, .int v3)]) dX9_countOne_48 (by decide) rfl rfl ?_
    exact rr.sub [1, 3, 4, 0] rfl h
  · have h := h.2 hc
    refine rr_iload_n dX9_countOne_11 rfl 3 rfl rfl ?_
    refine rr_aload_n dX9_countOne_12 rfl 0 rfl rfl ?_
    refine rr_getR dX9_countOne_13 fX9_72 (by decide) rfl rfl rfl ?_
    refine rr_aload_n dX9_countOne_16 rfl 0 rfl rfl ?_
    refine rr_getR dX9_countOne_17 fX9_69 (by decide) rfl rfl rfl ?_
    refine rr_iload dX9_countOne_20 4 rfl rfl ?_
    refine rr_iald dX9_countOne_22 (by decide) rfl rfl ⟨h.1, ?_⟩
    have h := h.2
    refine rr_iald dX9_countOne_23 (by decide) rfl rfl ⟨h.1, ?_⟩
    have h := h.2
    refine rr_iadd dX9_countOne_24 rfl ?_
    refine rr_letTi (fun x1 hx1 => ?_)
    have h := h x1 hx1
    refine rr_istore_n (lv' := [(3, .int x1), (0, .ref 0), (1, .int v1), (2, .int v2), (4, .int v4)]) dX9_countOne_25 rfl (by decide) rfl rfl ?_
    refine rr_iinc (k := 4) (v := (v4 + (1 : Int32))) (lv' := [(4, .int (v4 + (1 : Int32))), (3, .int x1), (0, .ref 0), (1, .int v1), (2, .int v2)]) dX9_countOne_26 rfl rfl (by decide) rfl rfl ?_
    refine rr_goto (tgt := 5) dX9_countOne_29 (by decide) ?_
    exact rr.sub [2, 3, 4, 1, 0] rfl h
theorem s_X9_countOne_50 {I : tg_I} {J : tg_J} {P : Option Value → tg_I → tg_J → Prop} (v2 : Int32) (v3 : Int32) (v4 : Int32) (h :
  (v2 ≤ v4 →
   P none I J) ∧
  (¬ v2 ≤ v4 →
   vp_in v4 100 ∧
    (vp_in (((13 : Int32) * (I 16 (Int32.toNatClampNeg v4))) + v3) 1300 ∧
    (vp_in v4 100 ∧
    (vp_in (I 16 (Int32.toNatClampNeg v4)) 100 ∧
    (vp_in (((13 : Int32) * (I 16 (Int32.toNatClampNeg v4))) + v3) 1300 ∧ ∀ J1, J1 = u2 J 19 (Int32.toNatClampNeg (((13 : Int32) * (I 16 (Int32.toNatClampNeg v4))) + v3)) ((J 19 (Int32.toNatClampNeg (((13 : Int32) * (I 16 (Int32.toNatClampNeg v4))) + v3))) + (Int32.toInt64 (I 17 (Int32.toNatClampNeg (I 16 (Int32.toNatClampNeg v4)))))) →
    l_X9_countOne_50 I J1 P v2 v3 ((v4 + (1 : Int32))))))))) : l_X9_countOne_50 I J P v2 v3 v4 := by
  show rr pgM zX9_countOne 50 [(0, .ref 0), (2, .int v2), (3, .int v3), (4, .int v4)] [] I J P
  refine rr_iload dX9_countOne_50 3 rfl rfl ?_
  refine rr_iload_n dX9_countOne_52 rfl 1 rfl rfl ?_
  refine rr_icmp_ge (tgt := 95) dX9_countOne_53 (by decide) rfl ⟨fun hc => ?_, fun hc => ?_⟩
  · have h := h.1 hc
    exact rr_vret dX9_countOne_95 rfl h
  · have h := h.2 hc
    refine rr_aload_n dX9_countOne_56 rfl 0 rfl rfl ?_
    refine rr_getR dX9_countOne_57 fX9_79 (by decide) rfl rfl rfl ?_
    refine rr_bipush (v := (13 : Int32)) dX9_countOne_60 (by decide) rfl ?_
    refine rr_aload_n dX9_countOne_62 rfl 0 rfl rfl ?_
    refine rr_getR dX9_countOne_63 fX9_69 (by decide) rfl rfl rfl ?_
    refine rr_iload dX9_countOne_66 3 rfl rfl ?_
    refine rr_iald dX9_countOne_68 (by decide) rfl rfl ⟨h.1, ?_⟩
    have h := h.2
    refine rr_imul dX9_countOne_69 rfl ?_
    refine rr_iload_n dX9_countOne_70 rfl 2 rfl rfl ?_
    refine rr_iadd dX9_countOne_71 rfl ?_
    refine rr_dup2_11 dX9_countOne_72 rfl rfl rfl ?_
    refine rr_lald dX9_countOne_73 (by decide) rfl rfl ⟨h.1, ?_⟩
    have h := h.2
    refine rr_aload_n dX9_countOne_74 rfl 0 rfl rfl ?_
    refine rr_getR dX9_countOne_75 fX9_72 (by decide) rfl rfl rfl ?_
    refine rr_aload_n dX9_countOne_78 rfl 0 rfl rfl ?_
    refine rr_getR dX9_countOne_79 fX9_69 (by decide) rfl rfl rfl ?_
    refine rr_iload dX9_countOne_82 3 rfl rfl ?_
    refine rr_iald dX9_countOne_84 (by decide) rfl rfl ⟨h.1, ?_⟩
    have h := h.2
    refine rr_iald dX9_countOne_85 (by decide) rfl rfl ⟨h.1, ?_⟩
    have h := h.2
    refine rr_i2l dX9_countOne_86 rfl ?_
    refine rr_ladd dX9_countOne_87 rfl ?_
    refine rr_last dX9_countOne_88 (by decide) rfl rfl ⟨h.1, ?_⟩
    refine rr_letJ (fun J1 hJ1 => ?_)
    have h := h.2 J1 hJ1
    refine rr_iinc (k := 3) (v := (v4 + (1 : Int32))) (lv' := [(4, .int (v4 + (1 : Int32))), (0, .ref 0), (2, .int v2), (3, .int v3)]) dX9_countOne_89 rfl rfl (by decide) rfl rfl ?_
    refine rr_goto (tgt := 50) dX9_countOne_92 (by decide) ?_
    exact rr.sub [1, 2, 3, 0] rfl h

def l_X9_tryPart_4 (I : tg_I) (J : tg_J) (P : Option Value → tg_I → tg_J → Prop) (v1 : Int32) (v2 : Int32) (v3 : Int32) : Prop := rr pgM zX9_tryPart 4 [(0, .ref 0), (1, .int v1), (2, .int v2), (3, .int v3)] [] I J P
def l_X9_tryPart_47 (I : tg_I) (J : tg_J) (P : Option Value → tg_I → tg_J → Prop) (v1 : Int32) (v2 : Int32) (v3 : Int32) : Prop := rr pgM zX9_tryPart 47 [(0, .ref 0), (1, .int v1), (2, .int v2), (3, .int v3)] [] I J P
theorem e_X9_tryPart {I : tg_I} {J : tg_J} {P : Option Value → tg_I → tg_J → Prop} (v1 : Int32) (h :
  l_X9_tryPart_4 I J P v1 ((0 : Int32)) ((0 : Int32))) : call pgM zX9_tryPart [.ref 0, .int v1] I J P := by
  refine call_of (by decide +kernel) (fun _ => Nat.le_of_ble_eq_true rfl) ?_
  show rr pgM zX9_tryPart 0 [(0, .ref 0), (1, .int v1)] [] I J P
  refine rr_iconst (v := (0 : Int32)) dX9_tryPart_0 (by decide) rfl ?_
  refine rr_istore_n (lv' := [(2, .int (0 : Int32)), (0, .ref 0), (1, .int v1)]) dX9_tryPart_1 rfl (by decide) rfl rfl ?_
  refine rr_iconst (v := (0 : Int32)) dX9_tryPart_2 (by decide) rfl ?_
  refine rr_istore_n (lv' := [(3, .int (0 : Int32)), (2, .int (0 : Int32)), (0, .ref 0), (1, .int v1)]) dX9_tryPart_3 rfl (by decide) rfl rfl ?_
  exact rr.sub [2, 3, 1, 0] rfl h
theorem s_X9_tryPart_4 {I : tg_I} {J : tg_J} {P : Option Value → tg_I → tg_J → Prop} (v1 : Int32) (v2 : Int32) (v3 : Int32) (h :
  ((I 0 3) ≤ v3 →
   l_X9_tryPart_47 I J P v1 v2 ((0 : Int32))) ∧
  (¬ (I 0 3) ≤ v3 →
   vp_in v3 100 ∧
    ((¬ (I 15 (Int32.toNatClampNeg v3)) = v1 →
     l_X9_tryPart_4 I J P v1 v2 ((v3 + (1 : Int32)))) ∧
    ((I 15 (Int32.toNatClampNeg v3)) = v1 →
     vp_in v2 100 ∧ ∀ I1, I1 = u2 I 16 (Int32.toNatClampNeg v2) v3 →
      vp_in v3 100 ∧ ∀ I2, I2 = u2 I1 17 (Int32.toNatClampNeg v3) (-1 : Int32) →
      l_X9_tryPart_4 I2 J P v1 ((v2 + (1 : Int32))) ((v3 + (1 : Int32))))))) : l_X9_tryPart_4 I J P v1 v2 v3 := by
  show rr pgM zX9_tryPart 4 [(0, .ref 0), (1, .int v1), (2, .int v2), (3, .int v3)] [] I J P
  refine rr_iload_n dX9_tryPart_4 rfl 3 rfl rfl ?_
  refine rr_aload_n dX9_tryPart_5 rfl 0 rfl rfl ?_
  refine rr_getI dX9_tryPart_6 fX9_16 (by decide) rfl rfl rfl ?_
  refine rr_icmp_ge (tgt := 45) dX9_tryPart_9 (by decide) rfl ⟨fun hc => ?_, fun hc => ?_⟩
  · have h := h.1 hc
    refine rr_iconst (v := (0 : Int32)) dX9_tryPart_45 (by decide) rfl ?_
    refine rr_istore_n (lv' := [(3, .int (0 : Int32)), (0, .ref 0), (1, .int v1), (2, .int v2)]) dX9_tryPart_46 rfl (by decide) rfl rfl ?_
    exact rr.sub [1, 2, 3, 0] rfl h
  · have h := h.2 hc
    refine rr_aload_n dX9_tryPart_12 rfl 0 rfl rfl ?_
    refine rr_getR dX9_tryPart_13 fX9_66 (by decide) rfl rfl rfl ?_
    refine rr_iload_n dX9_tryPart_16 rfl 3 rfl rfl ?_
    refine rr_iald dX9_tryPart_17 (by decide) rfl rfl ⟨h.1, ?_⟩
    have h := h.2
    refine rr_iload_n dX9_tryPart_18 rfl 1 rfl rfl ?_
    refine rr_icmp_ne (tgt := 39) dX9_tryPart_19 (by decide) rfl ⟨fun hc => ?_, fun hc => ?_⟩
    · have h := h.1 hc
      refine rr_iinc (k := 3) (v := (v3 + (1 : Int32))) (lv' := [(3, .int (v3 + (1 : Int32))), (0, .ref 0), (1, .int v1), (2, .int v2)]) dX9_tryPart_39 rfl rfl (by decide) rfl rfl ?_
      refine rr_goto (tgt := 4) dX9_tryPart_42 (by decide) ?_
      exact rr.sub [1, 2, 3, 0] rfl h
    · have h := h.2 hc
      refine rr_aload_n dX9_tryPart_22 rfl 0 rfl rfl ?_
      refine rr_getR dX9_tryPart_23 fX9_69 (by decide) rfl rfl rfl ?_
      refine rr_iload_n dX9_tryPart_26 rfl 2 rfl rfl ?_
      refine rr_iload_n dX9_tryPart_27 rfl 3 rfl rfl ?_
      refine rr_iast dX9_tryPart_28 (by decide) rfl rfl ⟨h.1, ?_⟩
      refine rr_letI (fun I1 hI1 => ?_)
      have h := h.2 I1 hI1
      refine rr_aload_n dX9_tryPart_29 rfl 0 rfl rfl ?_
      refine rr_getR dX9_tryPart_30 fX9_72 (by decide) rfl rfl rfl ?_
      refine rr_iload_n dX9_tryPart_33 rfl 3 rfl rfl ?_
      refine rr_iconst (v := (-1 : Int32)) dX9_tryPart_34 (by decide) rfl ?_
      refine rr_iast dX9_tryPart_35 (by decide) rfl rfl ⟨h.1, ?_⟩
      refine rr_letI (fun I2 hI2 => ?_)
      have h := h.2 I2 hI2
      refine rr_iinc (k := 2) (v := (v2 + (1 : Int32))) (lv' := [(2, .int (v2 + (1 : Int32))), (0, .ref 0), (1, .int v1), (3, .int v3)]) dX9_tryPart_36 rfl rfl (by decide) rfl rfl ?_
      refine rr_iinc (k := 3) (v := (v3 + (1 : Int32))) (lv' := [(3, .int (v3 + (1 : Int32))), (2, .int (v2 + (1 : Int32))), (0, .ref 0), (1, .int v1)]) dX9_tryPart_39 rfl rfl (by decide) rfl rfl ?_
      refine rr_goto (tgt := 4) dX9_tryPart_42 (by decide) ?_
      exact rr.sub [2, 3, 1, 0] rfl h
theorem s_X9_tryPart_47 {I : tg_I} {J : tg_J} {P : Option Value → tg_I → tg_J → Prop} (v1 : Int32) (v2 : Int32) (v3 : Int32) (h :
  (v3 < 0 →
   P none I J) ∧
  (¬ v3 < 0 →
   vp_in v3 100 ∧
    (∀ x1, x1 = (I 16 (Int32.toNatClampNeg v3)) →
    vp_in x1 100 ∧
    (vp_in x1 100 ∧ ∀ I1, I1 = u2 I 17 (Int32.toNatClampNeg x1) ((I 17 (Int32.toNatClampNeg x1)) + (1 : Int32)) →
    vp_in x1 100 ∧
    (((I1 17 (Int32.toNatClampNeg x1)) ≤ (1 : Int32) →
     call pgM zX9_fits [.ref 0, .int x1] I1 J (fun vr I2 J1 => ∃ r1 : Int32, vr = some (.int r1) ∧
      ((r1 = 0 →
       l_X9_tryPart_47 I2 J1 P v1 v2 v3) ∧
      (¬ r1 = 0 →
       (¬ v3 = (v2 - (1 : Int32)) →
         l_X9_tryPart_47 I2 J1 P v1 v2 ((v3 + (1 : Int32)))) ∧
        (v3 = (v2 - (1 : Int32)) →
         call pgM zX9_countOne [.ref 0, .int v1, .int v2] I2 J1 (fun vr I3 J2 => vr = none ∧
          (l_X9_tryPart_47 I3 J2 P v1 v2 v3))))))) ∧
    (¬ (I1 17 (Int32.toNatClampNeg x1)) ≤ (1 : Int32) →
     vp_in x1 100 ∧ ∀ I4, I4 = u2 I1 17 (Int32.toNatClampNeg x1) (-1 : Int32) →
      l_X9_tryPart_47 I4 J P v1 v2 ((v3 + (-1 : Int32))))))))) : l_X9_tryPart_47 I J P v1 v2 v3 := by
  show rr pgM zX9_tryPart 47 [(0, .ref 0), (1, .int v1), (2, .int v2), (3, .int v3)] [] I J P
  refine rr_iload_n dX9_tryPart_47 rfl 3 rfl rfl ?_
  refine rr_if_lt (tgt := 126) dX9_tryPart_48 (by decide) rfl ⟨fun hc => ?_, fun hc => ?_⟩
  · have h := h.1 hc
    exact rr_vret dX9_tryPart_126 rfl h
  · have h := h.2 hc
    refine rr_aload_n dX9_tryPart_51 rfl 0 rfl rfl ?_
    refine rr_getR dX9_tryPart_52 fX9_69 (by decide) rfl rfl rfl ?_
    refine rr_iload_n dX9_tryPart_55 rfl 3 rfl rfl ?_
    refine rr_iald dX9_tryPart_56 (by decide) rfl rfl ⟨h.1, ?_⟩
    have h := h.2
    refine rr_letTi (fun x1 hx1 => ?_)
    have h := h x1 hx1
    refine rr_istore (lv' := [(4, .int x1), (0, .ref 0), (1, .int v1), (2, .int v2), (3, .int v3)]) dX9_tryPart_57 (by decide) rfl rfl ?_
    refine rr_aload_n dX9_tryPart_59 rfl 1 rfl rfl ?_
    refine rr_getR dX9_tryPart_60 fX9_72 (by decide) rfl rfl rfl ?_
    refine rr_iload dX9_tryPart_63 0 rfl rfl ?_
    refine rr_dup2_11 dX9_tryPart_65 rfl rfl rfl ?_
    refine rr_iald dX9_tryPart_66 (by decide) rfl rfl ⟨h.1, ?_⟩
    have h := h.2
    refine rr_iconst (v := (1 : Int32)) dX9_tryPart_67 (by decide) rfl ?_
    refine rr_iadd dX9_tryPart_68 rfl ?_
    refine rr_iast dX9_tryPart_69 (by decide) rfl rfl ⟨h.1, ?_⟩
    refine rr_letI (fun I1 hI1 => ?_)
    have h := h.2 I1 hI1
    refine rr_aload_n dX9_tryPart_70 rfl 1 rfl rfl ?_
    refine rr_getR dX9_tryPart_71 fX9_72 (by decide) rfl rfl rfl ?_
    refine rr_iload dX9_tryPart_74 0 rfl rfl ?_
    refine rr_iald dX9_tryPart_76 (by decide) rfl rfl ⟨h.1, ?_⟩
    have h := h.2
    refine rr_iconst (v := (1 : Int32)) dX9_tryPart_77 (by decide) rfl ?_
    refine rr_icmp_le (tgt := 95) dX9_tryPart_78 (by decide) rfl ⟨fun hc => ?_, fun hc => ?_⟩
    · have h := h.1 hc
      refine rr_aload_n dX9_tryPart_95 rfl 1 rfl rfl ?_
      refine rr_iload dX9_tryPart_96 0 rfl rfl ?_
      refine rr_V [.int x1] [] dX9_tryPart_98 kX9_fits mX9_256 ⟨by decide, by decide⟩ (by decide) rfl rfl rfl (Nat.le_of_ble_eq_true rfl) rfl (h.mono fun vr I2 J1 h => ?_)
      obtain ⟨r1, rfl, h⟩ := h
      show rr pgM zX9_tryPart 101 _ [.int r1] _ _ _
      refine rr_if_eq (tgt := 123) dX9_tryPart_101 (by decide) rfl ⟨fun hc => ?_, fun hc => ?_⟩
      · have h := h.1 hc
        refine rr_goto (tgt := 47) dX9_tryPart_123 (by decide) ?_
        exact rr.sub [1, 2, 3, 4] rfl h
      · have h := h.2 hc
        refine rr_iload_n dX9_tryPart_104 rfl 4 rfl rfl ?_
        refine rr_iload_n dX9_tryPart_105 rfl 3 rfl rfl ?_
        refine rr_iconst (v := (1 : Int32)) dX9_tryPart_106 (by decide) rfl ?_
        refine rr_isub dX9_tryPart_107 rfl ?_
        refine rr_icmp_ne (tgt := 120) dX9_tryPart_108 (by decide) rfl ⟨fun hc => ?_, fun hc => ?_⟩
        · have h := h.1 hc
          refine rr_iinc (k := 4) (v := (v3 + (1 : Int32))) (lv' := [(3, .int (v3 + (1 : Int32))), (4, .int x1), (0, .ref 0), (1, .int v1), (2, .int v2)]) dX9_tryPart_120 rfl rfl (by decide) rfl rfl ?_
          refine rr_goto (tgt := 47) dX9_tryPart_123 (by decide) ?_
          exact rr.sub [2, 3, 4, 0] rfl h
        · have h := h.2 hc
          refine rr_aload_n dX9_tryPart_111 rfl 1 rfl rfl ?_
          refine rr_iload_n dX9_tryPart_112 rfl 2 rfl rfl ?_
          refine rr_iload_n dX9_tryPart_113 rfl 3 rfl rfl ?_
          refine rr_V [.int v1, .int v2] [] dX9_tryPart_114 kX9_countOne mX9_259 ⟨by decide, by decide⟩ (by decide) rfl rfl rfl (Nat.le_of_ble_eq_true rfl) rfl (h.mono fun vr I3 J2 h => ?_)
          obtain ⟨rfl, h⟩ := h
          show rr pgM zX9_tryPart 117 _ [] _ _ _
          refine rr_goto (tgt := 123) dX9_tryPart_117 (by decide) ?_
          refine rr_goto (tgt := 47) dX9_tryPart_123 (by decide) ?_
          exact rr.sub [1, 2, 3, 4] rfl h
    · have h := h.2 hc
      refine rr_aload_n dX9_tryPart_81 rfl 1 rfl rfl ?_
      refine rr_getR dX9_tryPart_82 fX9_72 (by decide) rfl rfl rfl ?_
      refine rr_iload dX9_tryPart_85 0 rfl rfl ?_
      refine rr_iconst (v := (-1 : Int32)) dX9_tryPart_87 (by decide) rfl ?_
      refine rr_iast dX9_tryPart_88 (by decide) rfl rfl ⟨h.1, ?_⟩
      refine rr_letI (fun I4 hI4 => ?_)
      have h := h.2 I4 hI4
      refine rr_iinc (k := 4) (v := (v3 + (-1 : Int32))) (lv' := [(3, .int (v3 + (-1 : Int32))), (4, .int x1), (0, .ref 0), (1, .int v1), (2, .int v2)]) dX9_tryPart_89 rfl rfl (by decide) rfl rfl ?_
      refine rr_goto (tgt := 123) dX9_tryPart_92 (by decide) ?_
      refine rr_goto (tgt := 47) dX9_tryPart_123 (by decide) ?_
      exact rr.sub [2, 3, 4, 0] rfl h

def l_X9_findWays_2 (I : tg_I) (J : tg_J) (P : Option Value → tg_I → tg_J → Prop) (v1 : Int32) : Prop := rr pgM zX9_findWays 2 [(0, .ref 0), (1, .int v1)] [] I J P
def l_X9_findWays_31 (I : tg_I) (J : tg_J) (P : Option Value → tg_I → tg_J → Prop) (v1 : Int32) : Prop := rr pgM zX9_findWays 31 [(0, .ref 0), (1, .int v1)] [] I J P
theorem e_X9_findWays {I : tg_I} {J : tg_J} {P : Option Value → tg_I → tg_J → Prop} (h :
  l_X9_findWays_2 I J P ((0 : Int32))) : call pgM zX9_findWays [.ref 0] I J P := by
  refine call_of (by decide +kernel) (fun _ => Nat.le_of_ble_eq_true rfl) ?_
  show rr pgM zX9_findWays 0 [(0, .ref 0)] [] I J P
  refine rr_iconst (v := (0 : Int32)) dX9_findWays_0 (by decide) rfl ?_
  refine rr_istore_n (lv' := [(1, .int (0 : Int32)), (0, .ref 0)]) dX9_findWays_1 rfl (by decide) rfl rfl ?_
  exact rr.sub [1, 0] rfl h
theorem s_X9_findWays_2 {I : tg_I} {J : tg_J} {P : Option Value → tg_I → tg_J → Prop} (v1 : Int32) (h :
  ((1300 : Int32) ≤ v1 →
   l_X9_findWays_31 I J P ((0 : Int32))) ∧
  (¬ (1300 : Int32) ≤ v1 →
   vp_in v1 1300 ∧ ∀ J1, J1 = u2 J 18 (Int32.toNatClampNeg v1) (0 : Int64) →
    vp_in v1 1300 ∧ ∀ J2, J2 = u2 J1 19 (Int32.toNatClampNeg v1) (0 : Int64) →
    l_X9_findWays_2 I J2 P ((v1 + (1 : Int32))))) : l_X9_findWays_2 I J P v1 := by
  show rr pgM zX9_findWays 2 [(0, .ref 0), (1, .int v1)] [] I J P
  refine rr_iload_n dX9_findWays_2 rfl 1 rfl rfl ?_
  refine rr_sipush (v := (1300 : Int32)) dX9_findWays_3 (by decide) rfl ?_
  refine rr_icmp_ge (tgt := 29) dX9_findWays_6 (by decide) rfl ⟨fun hc => ?_, fun hc => ?_⟩
  · have h := h.1 hc
    refine rr_iconst (v := (0 : Int32)) dX9_findWays_29 (by decide) rfl ?_
    refine rr_istore_n (lv' := [(1, .int (0 : Int32)), (0, .ref 0)]) dX9_findWays_30 rfl (by decide) rfl rfl ?_
    exact rr.sub [1, 0] rfl h
  · have h := h.2 hc
    refine rr_aload_n dX9_findWays_9 rfl 0 rfl rfl ?_
    refine rr_getR dX9_findWays_10 fX9_75 (by decide) rfl rfl rfl ?_
    refine rr_iload_n dX9_findWays_13 rfl 1 rfl rfl ?_
    refine rr_lconst (v := (0 : Int64)) dX9_findWays_14 (by decide) rfl ?_
    refine rr_last dX9_findWays_15 (by decide) rfl rfl ⟨h.1, ?_⟩
    refine rr_letJ (fun J1 hJ1 => ?_)
    have h := h.2 J1 hJ1
    refine rr_aload_n dX9_findWays_16 rfl 0 rfl rfl ?_
    refine rr_getR dX9_findWays_17 fX9_79 (by decide) rfl rfl rfl ?_
    refine rr_iload_n dX9_findWays_20 rfl 1 rfl rfl ?_
    refine rr_lconst (v := (0 : Int64)) dX9_findWays_21 (by decide) rfl ?_
    refine rr_last dX9_findWays_22 (by decide) rfl rfl ⟨h.1, ?_⟩
    refine rr_letJ (fun J2 hJ2 => ?_)
    have h := h.2 J2 hJ2
    refine rr_iinc (k := 1) (v := (v1 + (1 : Int32))) (lv' := [(1, .int (v1 + (1 : Int32))), (0, .ref 0)]) dX9_findWays_23 rfl rfl (by decide) rfl rfl ?_
    refine rr_goto (tgt := 2) dX9_findWays_26 (by decide) ?_
    exact rr.sub [1, 0] rfl h
theorem s_X9_findWays_31 {I : tg_I} {J : tg_J} {P : Option Value → tg_I → tg_J → Prop} (v1 : Int32) (h :
  ((I 0 26) ≤ v1 →
   P none I J) ∧
  (¬ (I 0 26) ≤ v1 →
   call pgM zX9_tryPart [.ref 0, .int v1] I J (fun vr I1 J1 => vr = none ∧
    (l_X9_findWays_31 I1 J1 P ((v1 + (1 : Int32))))))) : l_X9_findWays_31 I J P v1 := by
  show rr pgM zX9_findWays 31 [(0, .ref 0), (1, .int v1)] [] I J P
  refine rr_iload_n dX9_findWays_31 rfl 1 rfl rfl ?_
  refine rr_aload_n dX9_findWays_32 rfl 0 rfl rfl ?_
  refine rr_getI dX9_findWays_33 fX9_250 (by decide) rfl rfl rfl ?_
  refine rr_icmp_ge (tgt := 50) dX9_findWays_36 (by decide) rfl ⟨fun hc => ?_, fun hc => ?_⟩
  · have h := h.1 hc
    exact rr_vret dX9_findWays_50 rfl h
  · have h := h.2 hc
    refine rr_aload_n dX9_findWays_39 rfl 0 rfl rfl ?_
    refine rr_iload_n dX9_findWays_40 rfl 1 rfl rfl ?_
    refine rr_V [.int v1] [] dX9_findWays_41 kX9_tryPart mX9_263 ⟨by decide, by decide⟩ (by decide) rfl rfl rfl (Nat.le_of_ble_eq_true rfl) rfl (h.mono fun vr I1 J1 h => ?_)
    obtain ⟨rfl, h⟩ := h
    show rr pgM zX9_findWays 44 _ [] _ _ _
    refine rr_iinc (k := 1) (v := (v1 + (1 : Int32))) (lv' := [(1, .int (v1 + (1 : Int32))), (0, .ref 0)]) dX9_findWays_44 rfl rfl (by decide) rfl rfl ?_
    refine rr_goto (tgt := 31) dX9_findWays_47 (by decide) ?_
    exact rr.sub [1, 0] rfl h

def l_X9_sumParts_2 (I : tg_I) (J : tg_J) (P : Option Value → tg_I → tg_J → Prop) (v1 : Int32) (v2 : Int32) (v3 : Int32) : Prop := rr pgM zX9_sumParts 2 [(0, .ref 0), (1, .int v1), (2, .int v2), (3, .int v3)] [] I J P
def l_X9_sumParts_32 (I : tg_I) (J : tg_J) (P : Option Value → tg_I → tg_J → Prop) (v1 : Int32) (v2 : Int32) (v3 : Int32) : Prop := rr pgM zX9_sumParts 32 [(0, .ref 0), (1, .int v1), (2, .int v2), (3, .int v3)] [] I J P
theorem e_X9_sumParts {I : tg_I} {J : tg_J} {P : Option Value → tg_I → tg_J → Prop} (v1 : Int32) (v2 : Int32) (h :
  l_X9_sumParts_2 I J P v1 v2 ((0 : Int32))) : call pgM zX9_sumParts [.ref 0, .int v1, .int v2] I J P := by
  refine call_of (by decide +kernel) (fun _ => Nat.le_of_ble_eq_true rfl) ?_
  show rr pgM zX9_sumParts 0 [(0, .ref 0), (1, .int v1), (2, .int v2)] [] I J P
  refine rr_iconst (v := (0 : Int32)) dX9_sumParts_0 (by decide) rfl ?_
  refine rr_istore_n (lv' := [(3, .int (0 : Int32)), (0, .ref 0), (1, .int v1), (2, .int v2)]) dX9_sumParts_1 rfl (by decide) rfl rfl ?_
  exact rr.sub [1, 2, 3, 0] rfl h
theorem s_X9_sumParts_2 {I : tg_I} {J : tg_J} {P : Option Value → tg_I → tg_J → Prop} (v1 : Int32) (v2 : Int32) (v3 : Int32) (h :
  ((201 : Int32) ≤ v3 →
   l_X9_sumParts_32 I J P v1 v2 ((0 : Int32))) ∧
  (¬ (201 : Int32) ≤ v3 →
   (¬ v3 = 0 →
     vp_in v3 201 ∧ ∀ J1, J1 = u2 J 20 (Int32.toNatClampNeg v3) (0 : Int64) →
      l_X9_sumParts_2 I J1 P v1 v2 ((v3 + (1 : Int32)))) ∧
    (v3 = 0 →
     vp_in v3 201 ∧ ∀ J2, J2 = u2 J 20 (Int32.toNatClampNeg v3) (1 : Int64) →
      l_X9_sumParts_2 I J2 P v1 v2 ((v3 + (1 : Int32)))))) : l_X9_sumParts_2 I J P v1 v2 v3 := by
  show rr pgM zX9_sumParts 2 [(0, .ref 0), (1, .int v1), (2, .int v2), (3, .int v3)] [] I J P
  refine rr_iload_n dX9_sumParts_2 rfl 3 rfl rfl ?_
  refine rr_sipush (v := (201 : Int32)) dX9_sumParts_3 (by decide) rfl ?_
  refine rr_icmp_ge (tgt := 30) dX9_sumParts_6 (by decide) rfl ⟨fun hc => ?_, fun hc => ?_⟩
  · have h := h.1 hc
    refine rr_iconst (v := (0 : Int32)) dX9_sumParts_30 (by decide) rfl ?_
    refine rr_istore_n (lv' := [(3, .int (0 : Int32)), (0, .ref 0), (1, .int v1), (2, .int v2)]) dX9_sumParts_31 rfl (by decide) rfl rfl ?_
    exact rr.sub [1, 2, 3, 0] rfl h
  · have h := h.2 hc
    refine rr_aload_n dX9_sumParts_9 rfl 0 rfl rfl ?_
    refine rr_getR dX9_sumParts_10 fX9_82 (by decide) rfl rfl rfl ?_
    refine rr_iload_n dX9_sumParts_13 rfl 3 rfl rfl ?_
    refine rr_iload_n dX9_sumParts_14 rfl 3 rfl rfl ?_
    refine rr_if_ne (tgt := 22) dX9_sumParts_15 (by decide) rfl ⟨fun hc => ?_, fun hc => ?_⟩
    · have h := h.1 hc
      refine rr_lconst (v := (0 : Int64)) dX9_sumParts_22 (by decide) rfl ?_
      refine rr_last dX9_sumParts_23 (by decide) rfl rfl ⟨h.1, ?_⟩
      refine rr_letJ (fun J1 hJ1 => ?_)
      have h := h.2 J1 hJ1
      refine rr_iinc (k := 3) (v := (v3 + (1 : Int32))) (lv' := [(3, .int (v3 + (1 : Int32))), (0, .ref 0), (1, .int v1), (2, .int v2)]) dX9_sumParts_24 rfl rfl (by decide) rfl rfl ?_
      refine rr_goto (tgt := 2) dX9_sumParts_27 (by decide) ?_
      exact rr.sub [1, 2, 3, 0] rfl h
    · have h := h.2 hc
      refine rr_lconst (v := (1 : Int64)) dX9_sumParts_18 (by decide) rfl ?_
      refine rr_goto (tgt := 23) dX9_sumParts_19 (by decide) ?_
      refine rr_last dX9_sumParts_23 (by decide) rfl rfl ⟨h.1, ?_⟩
      refine rr_letJ (fun J2 hJ2 => ?_)
      have h := h.2 J2 hJ2
      refine rr_iinc (k := 3) (v := (v3 + (1 : Int32))) (lv' := [(3, .int (v3 + (1 : Int32))), (0, .ref 0), (1, .int v1), (2, .int v2)]) dX9_sumParts_24 rfl rfl (by decide) rfl rfl ?_
      refine rr_goto (tgt := 2) dX9_sumParts_27 (by decide) ?_
      exact rr.sub [1, 2, 3, 0] rfl h
theorem s_X9_sumParts_32 {I : tg_I} {J : tg_J} {P : Option Value → tg_I → tg_J → Prop} (v1 : Int32) (v2 : Int32) (v3 : Int32) (h :
  ((I 0 26) ≤ v3 →
   P none I J) ∧
  (¬ (I 0 26) ≤ v3 →
   (v3 = v1 →
     l_X9_sumParts_32 I J P v1 v2 ((v3 + (1 : Int32)))) ∧
    (¬ v3 = v1 →
     call pgM zX9_addPart [.ref 0, .int ((13 : Int32) * v3), .int v2, .int (0 : Int32)] I J (fun vr I1 J1 => vr = none ∧
      (l_X9_sumParts_32 I1 J1 P v1 v2 ((v3 + (1 : Int32)))))))) : l_X9_sumParts_32 I J P v1 v2 v3 := by
  show rr pgM zX9_sumParts 32 [(0, .ref 0), (1, .int v1), (2, .int v2), (3, .int v3)] [] I J P
  refine rr_iload_n dX9_sumParts_32 rfl 3 rfl rfl ?_
  refine rr_aload_n dX9_sumParts_33 rfl 0 rfl rfl ?_
  refine rr_getI dX9_sumParts_34 fX9_250 (by decide) rfl rfl rfl ?_
  refine rr_icmp_ge (tgt := 61) dX9_sumParts_37 (by decide) rfl ⟨fun hc => ?_, fun hc => ?_⟩
  · have h := h.1 hc
    exact rr_vret dX9_sumParts_61 rfl h
  · have h := h.2 hc
    refine rr_iload_n dX9_sumParts_40 rfl 3 rfl rfl ?_
    refine rr_iload_n dX9_sumParts_41 rfl 1 rfl rfl ?_
    refine rr_icmp_eq (tgt := 55) dX9_sumParts_42 (by decide) rfl ⟨fun hc => ?_, fun hc => ?_⟩
    · have h := h.1 hc
      refine rr_iinc (k := 3) (v := (v3 + (1 : Int32))) (lv' := [(3, .int (v3 + (1 : Int32))), (0, .ref 0), (1, .int v1), (2, .int v2)]) dX9_sumParts_55 rfl rfl (by decide) rfl rfl ?_
      refine rr_goto (tgt := 32) dX9_sumParts_58 (by decide) ?_
      exact rr.sub [1, 2, 3, 0] rfl h
    · have h := h.2 hc
      refine rr_aload_n dX9_sumParts_45 rfl 0 rfl rfl ?_
      refine rr_bipush (v := (13 : Int32)) dX9_sumParts_46 (by decide) rfl ?_
      refine rr_iload_n dX9_sumParts_48 rfl 3 rfl rfl ?_
      refine rr_imul dX9_sumParts_49 rfl ?_
      refine rr_iload_n dX9_sumParts_50 rfl 2 rfl rfl ?_
      refine rr_iconst (v := (0 : Int32)) dX9_sumParts_51 (by decide) rfl ?_
      refine rr_V [.int ((13 : Int32) * v3), .int v2, .int (0 : Int32)] [] dX9_sumParts_52 kX9_addPart mX9_266 ⟨by decide, by decide⟩ (by decide) rfl rfl rfl (Nat.le_of_ble_eq_true rfl) rfl (h.mono fun vr I1 J1 h => ?_)
      obtain ⟨rfl, h⟩ := h
      show rr pgM zX9_sumParts 55 _ [] _ _ _
      refine rr_iinc (k := 3) (v := (v3 + (1 : Int32))) (lv' := [(3, .int (v3 + (1 : Int32))), (0, .ref 0), (1, .int v1), (2, .int v2)]) dX9_sumParts_55 rfl rfl (by decide) rfl rfl ?_
      refine rr_goto (tgt := 32) dX9_sumParts_58 (by decide) ?_
      exact rr.sub [1, 2, 3, 0] rfl h

def l_X9_addPart_3 (I : tg_I) (J : tg_J) (P : Option Value → tg_I → tg_J → Prop) (v1 : Int32) (v2 : Int32) (v3 : Int32) (v4 : Int32) : Prop := rr pgM zX9_addPart 3 [(0, .ref 0), (1, .int v1), (2, .int v2), (3, .int v3), (4, .int v4)] [] I J P
def l_X9_addPart_28 (I : tg_I) (J : tg_J) (P : Option Value → tg_I → tg_J → Prop) (v1 : Int32) (v2 : Int32) (v3 : Int32) (v4 : Int32) : Prop := rr pgM zX9_addPart 28 [(0, .ref 0), (1, .int v1), (2, .int v2), (3, .int v3), (4, .int v4)] [] I J P
def l_X9_addPart_166 (I : tg_I) (J : tg_J) (P : Option Value → tg_I → tg_J → Prop) (v4 : Int32) : Prop := rr pgM zX9_addPart 166 [(0, .ref 0), (4, .int v4)] [] I J P
def l_X9_addPart_38 (I : tg_I) (J : tg_J) (P : Option Value → tg_I → tg_J → Prop) (v1 : Int32) (v2 : Int32) (v3 : Int32) (v4 : Int32) (v5 : Int32) : Prop := rr pgM zX9_addPart 38 [(0, .ref 0), (1, .int v1), (2, .int v2), (3, .int v3), (4, .int v4), (5, .int v5)] [] I J P
theorem e_X9_addPart {I : tg_I} {J : tg_J} {P : Option Value → tg_I → tg_J → Prop} (v1 : Int32) (v2 : Int32) (v3 : Int32) (h :
  l_X9_addPart_3 I J P v1 v2 v3 ((0 : Int32))) : call pgM zX9_addPart [.ref 0, .int v1, .int v2, .int v3] I J P := by
  refine call_of (by decide +kernel) (fun _ => Nat.le_of_ble_eq_true rfl) ?_
  show rr pgM zX9_addPart 0 [(0, .ref 0), (1, .int v1), (2, .int v2), (3, .int v3)] [] I J P
  refine rr_iconst (v := (0 : Int32)) dX9_addPart_0 (by decide) rfl ?_
  refine rr_istore (lv' := [(4, .int (0 : Int32)), (0, .ref 0), (1, .int v1), (2, .int v2), (3, .int v3)]) dX9_addPart_1 (by decide) rfl rfl ?_
  exact rr.sub [1, 2, 3, 4, 0] rfl h
theorem s_X9_addPart_3 {I : tg_I} {J : tg_J} {P : Option Value → tg_I → tg_J → Prop} (v1 : Int32) (v2 : Int32) (v3 : Int32) (v4 : Int32) (h :
  ((201 : Int32) ≤ v4 →
   l_X9_addPart_28 I J P v1 v2 v3 ((0 : Int32))) ∧
  (¬ (201 : Int32) ≤ v4 →
   vp_in v4 201 ∧ ∀ J1, J1 = u2 J 21 (Int32.toNatClampNeg v4) (0 : Int64) →
    l_X9_addPart_3 I J1 P v1 v2 v3 ((v4 + (1 : Int32))))) : l_X9_addPart_3 I J P v1 v2 v3 v4 := by
  show rr pgM zX9_addPart 3 [(0, .ref 0), (1, .int v1), (2, .int v2), (3, .int v3), (4, .int v4)] [] I J P
  refine rr_iload dX9_addPart_3 4 rfl rfl ?_
  refine rr_sipush (v := (201 : Int32)) dX9_addPart_5 (by decide) rfl ?_
  refine rr_icmp_ge (tgt := 25) dX9_addPart_8 (by decide) rfl ⟨fun hc => ?_, fun hc => ?_⟩
  · have h := h.1 hc
    refine rr_iconst (v := (0 : Int32)) dX9_addPart_25 (by decide) rfl ?_
    refine rr_istore (lv' := [(4, .int (0 : Int32)), (0, .ref 0), (1, .int v1), (2, .int v2), (3, .int v3)]) dX9_addPart_26 (by decide) rfl rfl ?_
    exact rr.sub [1, 2, 3, 4, 0] rfl h
  · have h := h.2 hc
    refine rr_aload_n dX9_addPart_11 rfl 0 rfl rfl ?_
    refine rr_getR dX9_addPart_12 fX9_85 (by decide) rfl rfl rfl ?_
    refine rr_iload dX9_addPart_15 4 rfl rfl ?_
    refine rr_lconst (v := (0 : Int64)) dX9_addPart_17 (by decide) rfl ?_
    refine rr_last dX9_addPart_18 (by decide) rfl rfl ⟨h.1, ?_⟩
    refine rr_letJ (fun J1 hJ1 => ?_)
    have h := h.2 J1 hJ1
    refine rr_iinc (k := 4) (v := (v4 + (1 : Int32))) (lv' := [(4, .int (v4 + (1 : Int32))), (0, .ref 0), (1, .int v1), (2, .int v2), (3, .int v3)]) dX9_addPart_19 rfl rfl (by decide) rfl rfl ?_
    refine rr_goto (tgt := 3) dX9_addPart_22 (by decide) ?_
    exact rr.sub [1, 2, 3, 4, 0] rfl h
theorem s_X9_addPart_28 {I : tg_I} {J : tg_J} {P : Option Value → tg_I → tg_J → Prop} (v1 : Int32) (v2 : Int32) (v3 : Int32) (v4 : Int32) (h :
  ((100 : Int32) < v4 →
   l_X9_addPart_166 I J P ((0 : Int32))) ∧
  (¬ (100 : Int32) < v4 →
   l_X9_addPart_38 I J P v1 v2 v3 v4 ((0 : Int32)))) : l_X9_addPart_28 I J P v1 v2 v3 v4 := by
  show rr pgM zX9_addPart 28 [(0, .ref 0), (1, .int v1), (2, .int v2), (3, .int v3), (4, .int v4)] [] I J P
  refine rr_iload dX9_addPart_28 4 rfl rfl ?_
  refine rr_bipush (v := (100 : Int32)) dX9_addPart_30 (by decide) rfl ?_
  refine rr_icmp_gt (tgt := 163) dX9_addPart_32 (by decide) rfl ⟨fun hc => ?_, fun hc => ?_⟩
  · have h := h.1 hc
    refine rr_iconst (v := (0 : Int32)) dX9_addPart_163 (by decide) rfl ?_
    refine rr_istore (lv' := [(4, .int (0 : Int32)), (0, .ref 0), (1, .int v1), (2, .int v2), (3, .int v3)]) dX9_addPart_164 (by decide) rfl rfl ?_
    exact rr.sub [1, 0] rfl h
  · have h := h.2 hc
    refine rr_iconst (v := (0 : Int32)) dX9_addPart_35 (by decide) rfl ?_
    refine rr_istore (lv' := [(5, .int (0 : Int32)), (0, .ref 0), (1, .int v1), (2, .int v2), (3, .int v3), (4, .int v4)]) dX9_addPart_36 (by decide) rfl rfl ?_
    exact rr.sub [1, 2, 3, 4, 5, 0] rfl h
theorem s_X9_addPart_166 {I : tg_I} {J : tg_J} {P : Option Value → tg_I → tg_J → Prop} (v4 : Int32) (h :
  ((201 : Int32) ≤ v4 →
   P none I J) ∧
  (¬ (201 : Int32) ≤ v4 →
   vp_in v4 201 ∧
    (vp_in v4 201 ∧ ∀ J1, J1 = u2 J 20 (Int32.toNatClampNeg v4) (J 21 (Int32.toNatClampNeg v4)) →
    l_X9_addPart_166 I J1 P ((v4 + (1 : Int32)))))) : l_X9_addPart_166 I J P v4 := by
  show rr pgM zX9_addPart 166 [(0, .ref 0), (4, .int v4)] [] I J P
  refine rr_iload dX9_addPart_166 1 rfl rfl ?_
  refine rr_sipush (v := (201 : Int32)) dX9_addPart_168 (by decide) rfl ?_
  refine rr_icmp_ge (tgt := 194) dX9_addPart_171 (by decide) rfl ⟨fun hc => ?_, fun hc => ?_⟩
  · have h := h.1 hc
    exact rr_vret dX9_addPart_194 rfl h
  · have h := h.2 hc
    refine rr_aload_n dX9_addPart_174 rfl 0 rfl rfl ?_
    refine rr_getR dX9_addPart_175 fX9_82 (by decide) rfl rfl rfl ?_
    refine rr_iload dX9_addPart_178 1 rfl rfl ?_
    refine rr_aload_n dX9_addPart_180 rfl 0 rfl rfl ?_
    refine rr_getR dX9_addPart_181 fX9_85 (by decide) rfl rfl rfl ?_
    refine rr_iload dX9_addPart_184 1 rfl rfl ?_
    refine rr_lald dX9_addPart_186 (by decide) rfl rfl ⟨h.1, ?_⟩
    have h := h.2
    refine rr_last dX9_addPart_187 (by decide) rfl rfl ⟨h.1, ?_⟩
    refine rr_letJ (fun J1 hJ1 => ?_)
    have h := h.2 J1 hJ1
    refine rr_iinc (k := 1) (v := (v4 + (1 : Int32))) (lv' := [(4, .int (v4 + (1 : Int32))), (0, .ref 0)]) dX9_addPart_188 rfl rfl (by decide) rfl rfl ?_
    refine rr_goto (tgt := 166) dX9_addPart_191 (by decide) ?_
    exact rr.sub [1, 0] rfl h
theorem s_X9_addPart_38 {I : tg_I} {J : tg_J} {P : Option Value → tg_I → tg_J → Prop} (v1 : Int32) (v2 : Int32) (v3 : Int32) (v4 : Int32) (v5 : Int32) (h :
  ((13 : Int32) ≤ v5 →
   l_X9_addPart_28 I J P v1 v2 v3 ((v4 + (1 : Int32)))) ∧
  (¬ (13 : Int32) ≤ v5 →
   vp_in v4 201 ∧
    (((lg_cmp (J 20 (Int32.toNatClampNeg v4)) (0 : Int64)) ≤ 0 →
     l_X9_addPart_28 I J P v1 v2 v3 ((v4 + (1 : Int32)))) ∧
    (¬ (lg_cmp (J 20 (Int32.toNatClampNeg v4)) (0 : Int64)) ≤ 0 →
     (v3 = 0 →
       vp_in (v1 + v5) 1300 ∧
        (∀ y1, y1 = (J 18 (Int32.toNatClampNeg (v1 + v5))) →
        vp_in (v4 + v5) 201 ∧
        (vp_in v4 201 ∧
        (∀ y2, y2 = (((J 21 (Int32.toNatClampNeg (v4 + v5))) + ((J 20 (Int32.toNatClampNeg v4)) * y1)) - ((J 21 (Int32.toNatClampNeg (v4 + v5))) + ((J 20 (Int32.toNatClampNeg v4)) * y1)) / (1000000007 : Int64) * (1000000007 : Int64)) →
        (v2 = 0 →
         vp_in (v4 + v5) 201 ∧ ∀ J1, J1 = u2 J 21 (Int32.toNatClampNeg (v4 + v5)) y2 →
          l_X9_addPart_38 I J1 P v1 v2 v3 v4 ((v5 + (1 : Int32)))) ∧
        (¬ v2 = 0 →
         ((lg_cmp y1 (0 : Int64)) ≤ 0 →
           vp_in (v4 + v5) 201 ∧
            (vp_in (v4 + v5) 201 ∧ ∀ J2, J2 = u2 J 21 (Int32.toNatClampNeg (v4 + v5)) (J 21 (Int32.toNatClampNeg (v4 + v5))) →
            l_X9_addPart_38 I J2 P v1 v2 v3 v4 ((v5 + (1 : Int32))))) ∧
          (¬ (lg_cmp y1 (0 : Int64)) ≤ 0 →
           vp_in (v4 + v5) 201 ∧ ∀ J3, J3 = u2 J 21 (Int32.toNatClampNeg (v4 + v5)) (1 : Int64) →
            l_X9_addPart_38 I J3 P v1 v2 v3 v4 ((v5 + (1 : Int32))))))))) ∧
      (¬ v3 = 0 →
       vp_in (v1 + v5) 1300 ∧
        (∀ y3, y3 = (J 19 (Int32.toNatClampNeg (v1 + v5))) →
        vp_in (v4 + v5) 201 ∧
        (vp_in v4 201 ∧
        (∀ y4, y4 = (((J 21 (Int32.toNatClampNeg (v4 + v5))) + ((J 20 (Int32.toNatClampNeg v4)) * y3)) - ((J 21 (Int32.toNatClampNeg (v4 + v5))) + ((J 20 (Int32.toNatClampNeg v4)) * y3)) / (1000000007 : Int64) * (1000000007 : Int64)) →
        (v2 = 0 →
         vp_in (v4 + v5) 201 ∧ ∀ J4, J4 = u2 J 21 (Int32.toNatClampNeg (v4 + v5)) y4 →
          l_X9_addPart_38 I J4 P v1 v2 v3 v4 ((v5 + (1 : Int32)))) ∧
        (¬ v2 = 0 →
         ((lg_cmp y3 (0 : Int64)) ≤ 0 →
           vp_in (v4 + v5) 201 ∧
            (vp_in (v4 + v5) 201 ∧ ∀ J5, J5 = u2 J 21 (Int32.toNatClampNeg (v4 + v5)) (J 21 (Int32.toNatClampNeg (v4 + v5))) →
            l_X9_addPart_38 I J5 P v1 v2 v3 v4 ((v5 + (1 : Int32))))) ∧
          (¬ (lg_cmp y3 (0 : Int64)) ≤ 0 →
           vp_in (v4 + v5) 201 ∧ ∀ J6, J6 = u2 J 21 (Int32.toNatClampNeg (v4 + v5)) (1 : Int64) →
            l_X9_addPart_38 I J6 P v1 v2 v3 v4 ((v5 + (1 : Int32))))))))))))) : l_X9_addPart_38 I J P v1 v2 v3 v4 v5 := by
  show rr pgM zX9_addPart 38 [(0, .ref 0), (1, .int v1), (2, .int v2), (3, .int v3), (4, .int v4), (5, .int v5)] [] I J P
  refine rr_iload dX9_addPart_38 5 rfl rfl ?_
  refine rr_bipush (v := (13 : Int32)) dX9_addPart_40 (by decide) rfl ?_
  refine rr_icmp_ge (tgt := 157) dX9_addPart_42 (by decide) rfl ⟨fun hc => ?_, fun hc => ?_⟩
  · have h := h.1 hc
    refine rr_iinc (k := 4) (v := (v4 + (1 : Int32))) (lv' := [(4, .int (v4 + (1 : Int32))), (0, .ref 0), (1, .int v1), (2, .int v2), (3, .int v3), (5, .int v5)]) dX9_addPart_157 rfl rfl (by decide) rfl rfl ?_
    refine rr_goto (tgt := 28) dX9_addPart_160 (by decide) ?_
    exact rr.sub [1, 2, 3, 4, 0] rfl h
  · have h := h.2 hc
    refine rr_aload_n dX9_addPart_45 rfl 0 rfl rfl ?_
    refine rr_getR dX9_addPart_46 fX9_82 (by decide) rfl rfl rfl ?_
    refine rr_iload dX9_addPart_49 4 rfl rfl ?_
    refine rr_lald dX9_addPart_51 (by decide) rfl rfl ⟨h.1, ?_⟩
    have h := h.2
    refine rr_lconst (v := (0 : Int64)) dX9_addPart_52 (by decide) rfl ?_
    refine rr_lcmp dX9_addPart_53 rfl ?_
    refine rr_if_le (tgt := 157) dX9_addPart_54 (by decide) rfl ⟨fun hc => ?_, fun hc => ?_⟩
    · have h := h.1 hc
      refine rr_iinc (k := 4) (v := (v4 + (1 : Int32))) (lv' := [(4, .int (v4 + (1 : Int32))), (0, .ref 0), (1, .int v1), (2, .int v2), (3, .int v3), (5, .int v5)]) dX9_addPart_157 rfl rfl (by decide) rfl rfl ?_
      refine rr_goto (tgt := 28) dX9_addPart_160 (by decide) ?_
      exact rr.sub [1, 2, 3, 4, 0] rfl h
    · have h := h.2 hc
      refine rr_iload_n dX9_addPart_57 rfl 3 rfl rfl ?_
      refine rr_if_eq (tgt := 73) dX9_addPart_58 (by decide) rfl ⟨fun hc => ?_, fun hc => ?_⟩
      · have h := h.1 hc
        refine rr_aload_n dX9_addPart_73 rfl 0 rfl rfl ?_
        refine rr_getR dX9_addPart_74 fX9_75 (by decide) rfl rfl rfl ?_
        refine rr_iload_n dX9_addPart_77 rfl 1 rfl rfl ?_
        refine rr_iload dX9_addPart_78 5 rfl rfl ?_
        refine rr_iadd dX9_addPart_80 rfl ?_
        refine rr_lald dX9_addPart_81 (by decide) rfl rfl ⟨h.1, ?_⟩
        have h := h.2
        refine rr_letTl (fun y1 hy1 => ?_)
        have h := h y1 hy1
        refine rr_lstore (lv' := [(6, .long y1), (0, .ref 0), (1, .int v1), (2, .int v2), (3, .int v3), (4, .int v4), (5, .int v5)]) dX9_addPart_82 (by decide) rfl rfl ?_
        refine rr_aload_n dX9_addPart_84 rfl 1 rfl rfl ?_
        refine rr_getR dX9_addPart_85 fX9_85 (by decide) rfl rfl rfl ?_
        refine rr_iload dX9_addPart_88 5 rfl rfl ?_
        refine rr_iload dX9_addPart_90 6 rfl rfl ?_
        refine rr_iadd dX9_addPart_92 rfl ?_
        refine rr_lald dX9_addPart_93 (by decide) rfl rfl ⟨h.1, ?_⟩
        have h := h.2
        refine rr_aload_n dX9_addPart_94 rfl 1 rfl rfl ?_
        refine rr_getR dX9_addPart_95 fX9_82 (by decide) rfl rfl rfl ?_
        refine rr_iload dX9_addPart_98 5 rfl rfl ?_
        refine rr_lald dX9_addPart_100 (by decide) rfl rfl ⟨h.1, ?_⟩
        have h := h.2
        refine rr_lload dX9_addPart_101 0 rfl rfl ?_
        refine rr_lmul dX9_addPart_103 rfl ?_
        refine rr_ladd dX9_addPart_104 rfl ?_
        refine rr_ldc2 dX9_addPart_105 qX9_270 rfl ?_
        refine rr_lrem dX9_addPart_108 (by decide) rfl ?_
        refine rr_letTl (fun y2 hy2 => ?_)
        have h := h y2 hy2
        refine rr_lstore (lv' := [(8, .long y2), (6, .long y1), (0, .ref 0), (1, .int v1), (2, .int v2), (3, .int v3), (4, .int v4), (5, .int v5)]) dX9_addPart_109 (by decide) rfl rfl ?_
        refine rr_aload_n dX9_addPart_111 rfl 2 rfl rfl ?_
        refine rr_getR dX9_addPart_112 fX9_85 (by decide) rfl rfl rfl ?_
        refine rr_iload dX9_addPart_115 6 rfl rfl ?_
        refine rr_iload dX9_addPart_117 7 rfl rfl ?_
        refine rr_iadd dX9_addPart_119 rfl ?_
        refine rr_iload_n dX9_addPart_120 rfl 4 rfl rfl ?_
        refine rr_if_eq (tgt := 148) dX9_addPart_121 (by decide) rfl ⟨fun hc => ?_, fun hc => ?_⟩
        · have h := h.1 hc
          refine rr_lload dX9_addPart_148 0 rfl rfl ?_
          refine rr_last dX9_addPart_150 (by decide) rfl rfl ⟨h.1, ?_⟩
          refine rr_letJ (fun J1 hJ1 => ?_)
          have h := h.2 J1 hJ1
          refine rr_iinc (k := 7) (v := (v5 + (1 : Int32))) (lv' := [(5, .int (v5 + (1 : Int32))), (8, .long y2), (6, .long y1), (0, .ref 0), (1, .int v1), (2, .int v2), (3, .int v3), (4, .int v4)]) dX9_addPart_151 rfl rfl (by decide) rfl rfl ?_
          refine rr_goto (tgt := 38) dX9_addPart_154 (by decide) ?_
          exact rr.sub [3, 4, 5, 6, 7, 0] rfl h
        · have h := h.2 hc
          refine rr_lload dX9_addPart_124 1 rfl rfl ?_
          refine rr_lconst (v := (0 : Int64)) dX9_addPart_126 (by decide) rfl ?_
          refine rr_lcmp dX9_addPart_127 rfl ?_
          refine rr_if_le (tgt := 135) dX9_addPart_128 (by decide) rfl ⟨fun hc => ?_, fun hc => ?_⟩
          · have h := h.1 hc
            refine rr_aload_n dX9_addPart_135 rfl 2 rfl rfl ?_
            refine rr_getR dX9_addPart_136 fX9_85 (by decide) rfl rfl rfl ?_
            refine rr_iload dX9_addPart_139 6 rfl rfl ?_
            refine rr_iload dX9_addPart_141 7 rfl rfl ?_
            refine rr_iadd dX9_addPart_143 rfl ?_
            refine rr_lald dX9_addPart_144 (by decide) rfl rfl ⟨h.1, ?_⟩
            have h := h.2
            refine rr_goto (tgt := 150) dX9_addPart_145 (by decide) ?_
            refine rr_last dX9_addPart_150 (by decide) rfl rfl ⟨h.1, ?_⟩
            refine rr_letJ (fun J2 hJ2 => ?_)
            have h := h.2 J2 hJ2
            refine rr_iinc (k := 7) (v := (v5 + (1 : Int32))) (lv' := [(5, .int (v5 + (1 : Int32))), (8, .long y2), (6, .long y1), (0, .ref 0), (1, .int v1), (2, .int v2), (3, .int v3), (4, .int v4)]) dX9_addPart_151 rfl rfl (by decide) rfl rfl ?_
            refine rr_goto (tgt := 38) dX9_addPart_154 (by decide) ?_
            exact rr.sub [3, 4, 5, 6, 7, 0] rfl h
          · have h := h.2 hc
            refine rr_lconst (v := (1 : Int64)) dX9_addPart_131 (by decide) rfl ?_
            refine rr_goto (tgt := 150) dX9_addPart_132 (by decide) ?_
            refine rr_last dX9_addPart_150 (by decide) rfl rfl ⟨h.1, ?_⟩
            refine rr_letJ (fun J3 hJ3 => ?_)
            have h := h.2 J3 hJ3
            refine rr_iinc (k := 7) (v := (v5 + (1 : Int32))) (lv' := [(5, .int (v5 + (1 : Int32))), (8, .long y2), (6, .long y1), (0, .ref 0), (1, .int v1), (2, .int v2), (3, .int v3), (4, .int v4)]) dX9_addPart_151 rfl rfl (by decide) rfl rfl ?_
            refine rr_goto (tgt := 38) dX9_addPart_154 (by decide) ?_
            exact rr.sub [3, 4, 5, 6, 7, 0] rfl h
      · have h := h.2 hc
        refine rr_aload_n dX9_addPart_61 rfl 0 rfl rfl ?_
        refine rr_getR dX9_addPart_62 fX9_79 (by decide) rfl rfl rfl ?_
        refine rr_iload_n dX9_addPart_65 rfl 1 rfl rfl ?_
        refine rr_iload dX9_addPart_66 5 rfl rfl ?_
        refine rr_iadd dX9_addPart_68 rfl ?_
        refine rr_lald dX9_addPart_69 (by decide) rfl rfl ⟨h.1, ?_⟩
        have h := h.2
        refine rr_goto (tgt := 82) dX9_addPart_70 (by decide) ?_
        refine rr_letTl (fun y3 hy3 => ?_)
        have h := h y3 hy3
        refine rr_lstore (lv' := [(6, .long y3), (0, .ref 0), (1, .int v1), (2, .int v2), (3, .int v3), (4, .int v4), (5, .int v5)]) dX9_addPart_82 (by decide) rfl rfl ?_
        refine rr_aload_n dX9_addPart_84 rfl 1 rfl rfl ?_
        refine rr_getR dX9_addPart_85 fX9_85 (by decide) rfl rfl rfl ?_
        refine rr_iload dX9_addPart_88 5 rfl rfl ?_
        refine rr_iload dX9_addPart_90 6 rfl rfl ?_
        refine rr_iadd dX9_addPart_92 rfl ?_
        refine rr_lald dX9_addPart_93 (by decide) rfl rfl ⟨h.1, ?_⟩
        have h := h.2
        refine rr_aload_n dX9_addPart_94 rfl 1 rfl rfl ?_
        refine rr_getR dX9_addPart_95 fX9_82 (by decide) rfl rfl rfl ?_
        refine rr_iload dX9_addPart_98 5 rfl rfl ?_
        refine rr_lald dX9_addPart_100 (by decide) rfl rfl ⟨h.1, ?_⟩
        have h := h.2
        refine rr_lload dX9_addPart_101 0 rfl rfl ?_
        refine rr_lmul dX9_addPart_103 rfl ?_
        refine rr_ladd dX9_addPart_104 rfl ?_
        refine rr_ldc2 dX9_addPart_105 qX9_270 rfl ?_
        refine rr_lrem dX9_addPart_108 (by decide) rfl ?_
        refine rr_letTl (fun y4 hy4 => ?_)
        have h := h y4 hy4
        refine rr_lstore (lv' := [(8, .long y4), (6, .long y3), (0, .ref 0), (1, .int v1), (2, .int v2), (3, .int v3), (4, .int v4), (5, .int v5)]) dX9_addPart_109 (by decide) rfl rfl ?_
        refine rr_aload_n dX9_addPart_111 rfl 2 rfl rfl ?_
        refine rr_getR dX9_addPart_112 fX9_85 (by decide) rfl rfl rfl ?_
        refine rr_iload dX9_addPart_115 6 rfl rfl ?_
        refine rr_iload dX9_addPart_117 7 rfl rfl ?_
        refine rr_iadd dX9_addPart_119 rfl ?_
        refine rr_iload_n dX9_addPart_120 rfl 4 rfl rfl ?_
        refine rr_if_eq (tgt := 148) dX9_addPart_121 (by decide) rfl ⟨fun hc => ?_, fun hc => ?_⟩
        · have h := h.1 hc
          refine rr_lload dX9_addPart_148 0 rfl rfl ?_
          refine rr_last dX9_addPart_150 (by decide) rfl rfl ⟨h.1, ?_⟩
          refine rr_letJ (fun J4 hJ4 => ?_)
          have h := h.2 J4 hJ4
          refine rr_iinc (k := 7) (v := (v5 + (1 : Int32))) (lv' := [(5, .int (v5 + (1 : Int32))), (8, .long y4), (6, .long y3), (0, .ref 0), (1, .int v1), (2, .int v2), (3, .int v3), (4, .int v4)]) dX9_addPart_151 rfl rfl (by decide) rfl rfl ?_
          refine rr_goto (tgt := 38) dX9_addPart_154 (by decide) ?_
          exact rr.sub [3, 4, 5, 6, 7, 0] rfl h
        · have h := h.2 hc
          refine rr_lload dX9_addPart_124 1 rfl rfl ?_
          refine rr_lconst (v := (0 : Int64)) dX9_addPart_126 (by decide) rfl ?_
          refine rr_lcmp dX9_addPart_127 rfl ?_
          refine rr_if_le (tgt := 135) dX9_addPart_128 (by decide) rfl ⟨fun hc => ?_, fun hc => ?_⟩
          · have h := h.1 hc
            refine rr_aload_n dX9_addPart_135 rfl 2 rfl rfl ?_
            refine rr_getR dX9_addPart_136 fX9_85 (by decide) rfl rfl rfl ?_
            refine rr_iload dX9_addPart_139 6 rfl rfl ?_
            refine rr_iload dX9_addPart_141 7 rfl rfl ?_
            refine rr_iadd dX9_addPart_143 rfl ?_
            refine rr_lald dX9_addPart_144 (by decide) rfl rfl ⟨h.1, ?_⟩
            have h := h.2
            refine rr_goto (tgt := 150) dX9_addPart_145 (by decide) ?_
            refine rr_last dX9_addPart_150 (by decide) rfl rfl ⟨h.1, ?_⟩
            refine rr_letJ (fun J5 hJ5 => ?_)
            have h := h.2 J5 hJ5
            refine rr_iinc (k := 7) (v := (v5 + (1 : Int32))) (lv' := [(5, .int (v5 + (1 : Int32))), (8, .long y4), (6, .long y3), (0, .ref 0), (1, .int v1), (2, .int v2), (3, .int v3), (4, .int v4)]) dX9_addPart_151 rfl rfl (by decide) rfl rfl ?_
            refine rr_goto (tgt := 38) dX9_addPart_154 (by decide) ?_
            exact rr.sub [3, 4, 5, 6, 7, 0] rfl h
          · have h := h.2 hc
            refine rr_lconst (v := (1 : Int64)) dX9_addPart_131 (by decide) rfl ?_
            refine rr_goto (tgt := 150) dX9_addPart_132 (by decide) ?_
            refine rr_last dX9_addPart_150 (by decide) rfl rfl ⟨h.1, ?_⟩
            refine rr_letJ (fun J6 hJ6 => ?_)
            have h := h.2 J6 hJ6
            refine rr_iinc (k := 7) (v := (v5 + (1 : Int32))) (lv' := [(5, .int (v5 + (1 : Int32))), (8, .long y4), (6, .long y3), (0, .ref 0), (1, .int v1), (2, .int v2), (3, .int v3), (4, .int v4)]) dX9_addPart_151 rfl rfl (by decide) rfl rfl ?_
            refine rr_goto (tgt := 38) dX9_addPart_154 (by decide) ?_
            exact rr.sub [3, 4, 5, 6, 7, 0] rfl h

theorem e_X9_mineLeft {I : tg_I} {J : tg_J} {P : Option Value → tg_I → tg_J → Prop} (h :
  call pgM zX9_mines [.ref 0] I J (fun vr I1 J1 => ∃ r1 : Int32, vr = some (.int r1) ∧
  (call pgM zX9_inState [.ref 0, .int (2 : Int32)] I1 J1 (fun vr I2 J2 => ∃ r2 : Int32, vr = some (.int r2) ∧
  (P (some (.int (r1 - r2))) I2 J2))))) : call pgM zX9_mineLeft [.ref 0] I J P := by
  refine call_of (by decide +kernel) (fun _ => Nat.le_of_ble_eq_true rfl) ?_
  show rr pgM zX9_mineLeft 0 [(0, .ref 0)] [] I J P
  refine rr_aload_n dX9_mineLeft_0 rfl 0 rfl rfl ?_
  refine rr_V [] [] dX9_mineLeft_1 kX9_mines mX9_134 ⟨by decide, by decide⟩ (by decide) rfl rfl rfl (Nat.le_of_ble_eq_true rfl) rfl (h.mono fun vr I1 J1 h => ?_)
  obtain ⟨r1, rfl, h⟩ := h
  show rr pgM zX9_mineLeft 4 _ [.int r1] _ _ _
  refine rr_aload_n dX9_mineLeft_4 rfl 0 rfl rfl ?_
  refine rr_iconst (v := (2 : Int32)) dX9_mineLeft_5 (by decide) rfl ?_
  refine rr_V [.int (2 : Int32)] [.int r1] dX9_mineLeft_6 kX9_inState mX9_130 ⟨by decide, by decide⟩ (by decide) rfl rfl rfl (Nat.le_of_ble_eq_true rfl) rfl (h.mono fun vr I2 J2 h => ?_)
  obtain ⟨r2, rfl, h⟩ := h
  show rr pgM zX9_mineLeft 9 _ [.int r2, .int r1] _ _ _
  refine rr_isub dX9_mineLeft_9 rfl ?_
  exact rr_iret dX9_mineLeft_10 rfl h

def l_X9_canBe_97 (I : tg_I) (J : tg_J) (P : Option Value → tg_I → tg_J → Prop) (v1 : Int32) (v2 : Int32) (v3 : Int32) (v4 : Int32) (v5 : Int32) (v6 : Int32) : Prop := rr pgM zX9_canBe 97 [(0, .ref 0), (1, .int v1), (2, .int v2), (3, .int v3), (4, .int v4), (5, .int v5), (6, .int v6)] [] I J P
def l_X9_canBe_29 (I : tg_I) (J : tg_J) (P : Option Value → tg_I → tg_J → Prop) (v2 : Int32) (v4 : Int32) (v5 : Int32) (v6 : Int32) : Prop := rr pgM zX9_canBe 29 [(0, .ref 0), (2, .int v2), (4, .int v4), (5, .int v5), (6, .int v6)] [] I J P
def l_X9_canBe_107 (I : tg_I) (J : tg_J) (P : Option Value → tg_I → tg_J → Prop) (v1 : Int32) (v2 : Int32) (v3 : Int32) (v4 : Int32) (v5 : Int32) (v6 : Int32) (v7 : Int32) : Prop := rr pgM zX9_canBe 107 [(0, .ref 0), (1, .int v1), (2, .int v2), (3, .int v3), (4, .int v4), (5, .int v5), (6, .int v6), (7, .int v7)] [] I J P
theorem e_X9_canBe {I : tg_I} {J : tg_J} {P : Option Value → tg_I → tg_J → Prop} (v1 : Int32) (v2 : Int32) (h :
  vp_in v1 100 ∧
  (∀ x1, x1 = (I 15 (Int32.toNatClampNeg v1)) →
  call pgM zX9_sumParts [.ref 0, .int x1, .int (1 : Int32)] I J (fun vr I1 J1 => vr = none ∧
  (call pgM zX9_mineLeft [.ref 0] I1 J1 (fun vr I2 J2 => ∃ r1 : Int32, vr = some (.int r1) ∧
  ((0 ≤ x1 →
   l_X9_canBe_97 I2 J2 P v1 v2 x1 r1 ((0 : Int32)) ((0 : Int32))) ∧
  (¬ 0 ≤ x1 →
   l_X9_canBe_29 I2 J2 P v2 r1 ((0 : Int32)) ((0 : Int32))))))))) : call pgM zX9_canBe [.ref 0, .int v1, .int v2] I J P := by
  refine call_of (by decide +kernel) (fun _ => Nat.le_of_ble_eq_true rfl) ?_
  show rr pgM zX9_canBe 0 [(0, .ref 0), (1, .int v1), (2, .int v2)] [] I J P
  refine rr_aload_n dX9_canBe_0 rfl 0 rfl rfl ?_
  refine rr_getR dX9_canBe_1 fX9_66 (by decide) rfl rfl rfl ?_
  refine rr_iload_n dX9_canBe_4 rfl 1 rfl rfl ?_
  refine rr_iald dX9_canBe_5 (by decide) rfl rfl ⟨h.1, ?_⟩
  have h := h.2
  refine rr_letTi (fun x1 hx1 => ?_)
  have h := h x1 hx1
  refine rr_istore_n (lv' := [(3, .int x1), (0, .ref 0), (1, .int v1), (2, .int v2)]) dX9_canBe_6 rfl (by decide) rfl rfl ?_
  refine rr_aload_n dX9_canBe_7 rfl 1 rfl rfl ?_
  refine rr_iload_n dX9_canBe_8 rfl 0 rfl rfl ?_
  refine rr_iconst (v := (1 : Int32)) dX9_canBe_9 (by decide) rfl ?_
  refine rr_V [.int x1, .int (1 : Int32)] [] dX9_canBe_10 kX9_sumParts mX9_272 ⟨by decide, by decide⟩ (by decide) rfl rfl rfl (Nat.le_of_ble_eq_true rfl) rfl (h.mono fun vr I1 J1 h => ?_)
  obtain ⟨rfl, h⟩ := h
  show rr pgM zX9_canBe 13 _ [] _ _ _
  refine rr_aload_n dX9_canBe_13 rfl 1 rfl rfl ?_
  refine rr_V [] [] dX9_canBe_14 kX9_mineLeft mX9_276 ⟨by decide, by decide⟩ (by decide) rfl rfl rfl (Nat.le_of_ble_eq_true rfl) rfl (h.mono fun vr I2 J2 h => ?_)
  obtain ⟨r1, rfl, h⟩ := h
  show rr pgM zX9_canBe 17 _ [.int r1] _ _ _
  refine rr_istore (lv' := [(4, .int r1), (3, .int x1), (0, .ref 0), (1, .int v1), (2, .int v2)]) dX9_canBe_17 (by decide) rfl rfl ?_
  refine rr_iconst (v := (0 : Int32)) dX9_canBe_19 (by decide) rfl ?_
  refine rr_istore (lv' := [(5, .int (0 : Int32)), (4, .int r1), (3, .int x1), (0, .ref 0), (1, .int v1), (2, .int v2)]) dX9_canBe_20 (by decide) rfl rfl ?_
  refine rr_iload_n dX9_canBe_22 rfl 2 rfl rfl ?_
  refine rr_if_ge (tgt := 94) dX9_canBe_23 (by decide) rfl ⟨fun hc => ?_, fun hc => ?_⟩
  · have h := h.1 hc
    refine rr_iconst (v := (0 : Int32)) dX9_canBe_94 (by decide) rfl ?_
    refine rr_istore (lv' := [(6, .int (0 : Int32)), (5, .int (0 : Int32)), (4, .int r1), (3, .int x1), (0, .ref 0), (1, .int v1), (2, .int v2)]) dX9_canBe_95 (by decide) rfl rfl ?_
    exact rr.sub [4, 5, 6, 3, 2, 1, 0] rfl h
  · have h := h.2 hc
    refine rr_iconst (v := (0 : Int32)) dX9_canBe_26 (by decide) rfl ?_
    refine rr_istore (lv' := [(6, .int (0 : Int32)), (5, .int (0 : Int32)), (4, .int r1), (3, .int x1), (0, .ref 0), (1, .int v1), (2, .int v2)]) dX9_canBe_27 (by decide) rfl rfl ?_
    exact rr.sub [4, 6, 2, 1, 0] rfl h
theorem s_X9_canBe_97 {I : tg_I} {J : tg_J} {P : Option Value → tg_I → tg_J → Prop} (v1 : Int32) (v2 : Int32) (v3 : Int32) (v4 : Int32) (v5 : Int32) (v6 : Int32) (h :
  ((100 : Int32) < v6 →
   narrow .boolean (.int v5) = .int v5 ∧ P (some (.int v5)) I J) ∧
  (¬ (100 : Int32) < v6 →
   l_X9_canBe_107 I J P v1 v2 v3 v4 v5 v6 ((0 : Int32)))) : l_X9_canBe_97 I J P v1 v2 v3 v4 v5 v6 := by
  show rr pgM zX9_canBe 97 [(0, .ref 0), (1, .int v1), (2, .int v2), (3, .int v3), (4, .int v4), (5, .int v5), (6, .int v6)] [] I J P
  refine rr_iload dX9_canBe_97 6 rfl rfl ?_
  refine rr_bipush (v := (100 : Int32)) dX9_canBe_99 (by decide) rfl ?_
  refine rr_icmp_gt (tgt := 228) dX9_canBe_101 (by decide) rfl ⟨fun hc => ?_, fun hc => ?_⟩
  · have h := h.1 hc
    refine rr_iload dX9_canBe_228 5 rfl rfl ?_
    exact rr_zret dX9_canBe_230 rfl h.1 h.2
  · have h := h.2 hc
    refine rr_iconst (v := (0 : Int32)) dX9_canBe_104 (by decide) rfl ?_
    refine rr_istore (lv' := [(7, .int (0 : Int32)), (0, .ref 0), (1, .int v1), (2, .int v2), (3, .int v3), (4, .int v4), (5, .int v5), (6, .int v6)]) dX9_canBe_105 (by decide) rfl rfl ?_
    exact rr.sub [1, 2, 3, 4, 5, 6, 7, 0] rfl h
theorem s_X9_canBe_29 {I : tg_I} {J : tg_J} {P : Option Value → tg_I → tg_J → Prop} (v2 : Int32) (v4 : Int32) (v5 : Int32) (v6 : Int32) (h :
  ((100 : Int32) < v6 →
   narrow .boolean (.int v5) = .int v5 ∧ P (some (.int v5)) I J) ∧
  (¬ (100 : Int32) < v6 →
   (¬ v5 = 0 →
     l_X9_canBe_29 I J P v2 v4 ((1 : Int32)) ((v6 + (1 : Int32)))) ∧
    (v5 = 0 →
     vp_in v6 201 ∧
      (((lg_cmp (J 20 (Int32.toNatClampNeg v6)) (0 : Int64)) ≤ 0 →
       l_X9_canBe_29 I J P v2 v4 ((0 : Int32)) ((v6 + (1 : Int32)))) ∧
      (¬ (lg_cmp (J 20 (Int32.toNatClampNeg v6)) (0 : Int64)) ≤ 0 →
       (((v4 - v6) - v2) < 0 →
         l_X9_canBe_29 I J P v2 v4 ((0 : Int32)) ((v6 + (1 : Int32)))) ∧
        (¬ ((v4 - v6) - v2) < 0 →
         (((I 0 27) - (1 : Int32)) < ((v4 - v6) - v2) →
           l_X9_canBe_29 I J P v2 v4 ((0 : Int32)) ((v6 + (1 : Int32)))) ∧
          (¬ ((I 0 27) - (1 : Int32)) < ((v4 - v6) - v2) →
           l_X9_canBe_29 I J P v2 v4 ((1 : Int32)) ((v6 + (1 : Int32)))))))))) : l_X9_canBe_29 I J P v2 v4 v5 v6 := by
  show rr pgM zX9_canBe 29 [(0, .ref 0), (2, .int v2), (4, .int v4), (5, .int v5), (6, .int v6)] [] I J P
  refine rr_iload dX9_canBe_29 4 rfl rfl ?_
  refine rr_bipush (v := (100 : Int32)) dX9_canBe_31 (by decide) rfl ?_
  refine rr_icmp_gt (tgt := 91) dX9_canBe_33 (by decide) rfl ⟨fun hc => ?_, fun hc => ?_⟩
  · have h := h.1 hc
    refine rr_iload dX9_canBe_91 3 rfl rfl ?_
    exact rr_zret dX9_canBe_93 rfl h.1 h.2
  · have h := h.2 hc
    refine rr_iload dX9_canBe_36 2 rfl rfl ?_
    refine rr_iload dX9_canBe_38 4 rfl rfl ?_
    refine rr_isub dX9_canBe_40 rfl ?_
    refine rr_iload_n dX9_canBe_41 rfl 1 rfl rfl ?_
    refine rr_isub dX9_canBe_42 rfl ?_
    refine rr_istore (lv' := [(7, .int ((v4 - v6) - v2)), (0, .ref 0), (2, .int v2), (4, .int v4), (5, .int v5), (6, .int v6)]) dX9_canBe_43 (by decide) rfl rfl ?_
    refine rr_iload dX9_canBe_45 4 rfl rfl ?_
    refine rr_if_ne (tgt := 78) dX9_canBe_47 (by decide) rfl ⟨fun hc => ?_, fun hc => ?_⟩
    · have h := h.1 hc
      refine rr_iconst (v := (1 : Int32)) dX9_canBe_78 (by decide) rfl ?_
      refine rr_goto (tgt := 83) dX9_canBe_79 (by decide) ?_
      refine rr_istore (lv' := [(5, .int (1 : Int32)), (7, .int ((v4 - v6) - v2)), (0, .ref 0), (2, .int v2), (4, .int v4), (6, .int v6)]) dX9_canBe_83 (by decide) rfl rfl ?_
      refine rr_iinc (k := 5) (v := (v6 + (1 : Int32))) (lv' := [(6, .int (v6 + (1 : Int32))), (5, .int (1 : Int32)), (7, .int ((v4 - v6) - v2)), (0, .ref 0), (2, .int v2), (4, .int v4)]) dX9_canBe_85 rfl rfl (by decide) rfl rfl ?_
      refine rr_goto (tgt := 29) dX9_canBe_88 (by decide) ?_
      exact rr.sub [3, 4, 5, 1, 0] rfl h
    · have h := h.2 hc
      refine rr_aload_n dX9_canBe_50 rfl 1 rfl rfl ?_
      refine rr_getR dX9_canBe_51 fX9_82 (by decide) rfl rfl rfl ?_
      refine rr_iload dX9_canBe_54 5 rfl rfl ?_
      refine rr_lald dX9_canBe_56 (by decide) rfl rfl ⟨h.1, ?_⟩
      have h := h.2
      refine rr_lconst (v := (0 : Int64)) dX9_canBe_57 (by decide) rfl ?_
      refine rr_lcmp dX9_canBe_58 rfl ?_
      refine rr_if_le (tgt := 82) dX9_canBe_59 (by decide) rfl ⟨fun hc => ?_, fun hc => ?_⟩
      · have h := h.1 hc
        refine rr_iconst (v := (0 : Int32)) dX9_canBe_82 (by decide) rfl ?_
        refine rr_istore (lv' := [(5, .int (0 : Int32)), (7, .int ((v4 - v6) - v2)), (0, .ref 0), (2, .int v2), (4, .int v4), (6, .int v6)]) dX9_canBe_83 (by decide) rfl rfl ?_
        refine rr_iinc (k := 5) (v := (v6 + (1 : Int32))) (lv' := [(6, .int (v6 + (1 : Int32))), (5, .int (0 : Int32)), (7, .int ((v4 - v6) - v2)), (0, .ref 0), (2, .int v2), (4, .int v4)]) dX9_canBe_85 rfl rfl (by decide) rfl rfl ?_
        refine rr_goto (tgt := 29) dX9_canBe_88 (by decide) ?_
        exact rr.sub [3, 4, 5, 1, 0] rfl h
      · have h := h.2 hc
        refine rr_iload dX9_canBe_62 0 rfl rfl ?_
        refine rr_if_lt (tgt := 82) dX9_canBe_64 (by decide) rfl ⟨fun hc => ?_, fun hc => ?_⟩
        · have h := h.1 hc
          refine rr_iconst (v := (0 : Int32)) dX9_canBe_82 (by decide) rfl ?_
          refine rr_istore (lv' := [(5, .int (0 : Int32)), (7, .int ((v4 - v6) - v2)), (0, .ref 0), (2, .int v2), (4, .int v4), (6, .int v6)]) dX9_canBe_83 (by decide) rfl rfl ?_
          refine rr_iinc (k := 5) (v := (v6 + (1 : Int32))) (lv' := [(6, .int (v6 + (1 : Int32))), (5, .int (0 : Int32)), (7, .int ((v4 - v6) - v2)), (0, .ref 0), (2, .int v2), (4, .int v4)]) dX9_canBe_85 rfl rfl (by decide) rfl rfl ?_
          refine rr_goto (tgt := 29) dX9_canBe_88 (by decide) ?_
          exact rr.sub [3, 4, 5, 1, 0] rfl h
        · have h := h.2 hc
          refine rr_iload dX9_canBe_67 0 rfl rfl ?_
          refine rr_aload_n dX9_canBe_69 rfl 1 rfl rfl ?_
          refine rr_getI dX9_canBe_70 fX9_253 (by decide) rfl rfl rfl ?_
          refine rr_iconst (v := (1 : Int32)) dX9_canBe_73 (by decide) rfl ?_
          refine rr_isub dX9_canBe_74 rfl ?_
          refine rr_icmp_gt (tgt := 82) dX9_canBe_75 (by decide) rfl ⟨fun hc => ?_, fun hc => ?_⟩
          · have h := h.1 hc
            refine rr_iconst (v := (0 : Int32)) dX9_canBe_82 (by decide) rfl ?_
            refine rr_istore (lv' := [(5, .int (0 : Int32)), (7, .int ((v4 - v6) - v2)), (0, .ref 0), (2, .int v2), (4, .int v4), (6, .int v6)]) dX9_canBe_83 (by decide) rfl rfl ?_
            refine rr_iinc (k := 5) (v := (v6 + (1 : Int32))) (lv' := [(6, .int (v6 + (1 : Int32))), (5, .int (0 : Int32)), (7, .int ((v4 - v6) - v2)), (0, .ref 0), (2, .int v2), (4, .int v4)]) dX9_canBe_85 rfl rfl (by decide) rfl rfl ?_
            refine rr_goto (tgt := 29) dX9_canBe_88 (by decide) ?_
            exact rr.sub [3, 4, 5, 1, 0] rfl h
          · have h := h.2 hc
            refine rr_iconst (v := (1 : Int32)) dX9_canBe_78 (by decide) rfl ?_
            refine rr_goto (tgt := 83) dX9_canBe_79 (by decide) ?_
            refine rr_istore (lv' := [(5, .int (1 : Int32)), (7, .int ((v4 - v6) - v2)), (0, .ref 0), (2, .int v2), (4, .int v4), (6, .int v6)]) dX9_canBe_83 (by decide) rfl rfl ?_
            refine rr_iinc (k := 5) (v := (v6 + (1 : Int32))) (lv' := [(6, .int (v6 + (1 : Int32))), (5, .int (1 : Int32)), (7, .int ((v4 - v6) - v2)), (0, .ref 0), (2, .int v2), (4, .int v4)]) dX9_canBe_85 rfl rfl (by decide) rfl rfl ?_
            refine rr_goto (tgt := 29) dX9_canBe_88 (by decide) ?_
            exact rr.sub [3, 4, 5, 1, 0] rfl h
theorem s_X9_canBe_107 {I : tg_I} {J : tg_J} {P : Option Value → tg_I → tg_J → Prop} (v1 : Int32) (v2 : Int32) (v3 : Int32) (v4 : Int32) (v5 : Int32) (v6 : Int32) (v7 : Int32) (h :
  ((13 : Int32) ≤ v7 →
   l_X9_canBe_97 I J P v1 v2 v3 v4 v5 ((v6 + (1 : Int32)))) ∧
  (¬ (13 : Int32) ≤ v7 →
   (¬ v2 = (1 : Int32) →
     vp_in (((13 : Int32) * v3) + v7) 1300 ∧
      (vp_in (((13 : Int32) * v1) + v7) 1300 ∧
      (∀ y1, y1 = ((J 18 (Int32.toNatClampNeg (((13 : Int32) * v3) + v7))) - (J 19 (Int32.toNatClampNeg (((13 : Int32) * v1) + v7)))) →
      (¬ v5 = 0 →
       l_X9_canBe_107 I J P v1 v2 v3 v4 ((1 : Int32)) v6 ((v7 + (1 : Int32)))) ∧
      (v5 = 0 →
       vp_in v6 201 ∧
        (((lg_cmp (J 20 (Int32.toNatClampNeg v6)) (0 : Int64)) ≤ 0 →
         l_X9_canBe_107 I J P v1 v2 v3 v4 ((0 : Int32)) v6 ((v7 + (1 : Int32)))) ∧
        (¬ (lg_cmp (J 20 (Int32.toNatClampNeg v6)) (0 : Int64)) ≤ 0 →
         ((lg_cmp y1 (0 : Int64)) ≤ 0 →
           l_X9_canBe_107 I J P v1 v2 v3 v4 ((0 : Int32)) v6 ((v7 + (1 : Int32)))) ∧
          (¬ (lg_cmp y1 (0 : Int64)) ≤ 0 →
           (((v4 - v6) - v7) < 0 →
             l_X9_canBe_107 I J P v1 v2 v3 v4 ((0 : Int32)) v6 ((v7 + (1 : Int32)))) ∧
            (¬ ((v4 - v6) - v7) < 0 →
             ((I 0 27) < ((v4 - v6) - v7) →
               l_X9_canBe_107 I J P v1 v2 v3 v4 ((0 : Int32)) v6 ((v7 + (1 : Int32)))) ∧
              (¬ (I 0 27) < ((v4 - v6) - v7) →
               l_X9_canBe_107 I J P v1 v2 v3 v4 ((1 : Int32)) v6 ((v7 + (1 : Int32)))))))))))) ∧
    (v2 = (1 : Int32) →
     vp_in (((13 : Int32) * v1) + v7) 1300 ∧
      (∀ y2, y2 = (J 19 (Int32.toNatClampNeg (((13 : Int32) * v1) + v7))) →
      (¬ v5 = 0 →
       l_X9_canBe_107 I J P v1 v2 v3 v4 ((1 : Int32)) v6 ((v7 + (1 : Int32)))) ∧
      (v5 = 0 →
       vp_in v6 201 ∧
        (((lg_cmp (J 20 (Int32.toNatClampNeg v6)) (0 : Int64)) ≤ 0 →
         l_X9_canBe_107 I J P v1 v2 v3 v4 ((0 : Int32)) v6 ((v7 + (1 : Int32)))) ∧
        (¬ (lg_cmp (J 20 (Int32.toNatClampNeg v6)) (0 : Int64)) ≤ 0 →
         ((lg_cmp y2 (0 : Int64)) ≤ 0 →
           l_X9_canBe_107 I J P v1 v2 v3 v4 ((0 : Int32)) v6 ((v7 + (1 : Int32)))) ∧
          (¬ (lg_cmp y2 (0 : Int64)) ≤ 0 →
           (((v4 - v6) - v7) < 0 →
             l_X9_canBe_107 I J P v1 v2 v3 v4 ((0 : Int32)) v6 ((v7 + (1 : Int32)))) ∧
            (¬ ((v4 - v6) - v7) < 0 →
             ((I 0 27) < ((v4 - v6) - v7) →
               l_X9_canBe_107 I J P v1 v2 v3 v4 ((0 : Int32)) v6 ((v7 + (1 : Int32)))) ∧
              (¬ (I 0 27) < ((v4 - v6) - v7) →
               l_X9_canBe_107 I J P v1 v2 v3 v4 ((1 : Int32)) v6 ((v7 + (1 : Int32))))))))))))) : l_X9_canBe_107 I J P v1 v2 v3 v4 v5 v6 v7 := by
  show rr pgM zX9_canBe 107 [(0, .ref 0), (1, .int v1), (2, .int v2), (3, .int v3), (4, .int v4), (5, .int v5), (6, .int v6), (7, .int v7)] [] I J P
  refine rr_iload dX9_canBe_107 7 rfl rfl ?_
  refine rr_bipush (v := (13 : Int32)) dX9_canBe_109 (by decide) rfl ?_
  refine rr_icmp_ge (tgt := 222) dX9_canBe_111 (by decide) rfl ⟨fun hc => ?_, fun hc => ?_⟩
  · have h := h.1 hc
    refine rr_iinc (k := 6) (v := (v6 + (1 : Int32))) (lv' := [(6, .int (v6 + (1 : Int32))), (0, .ref 0), (1, .int v1), (2, .int v2), (3, .int v3), (4, .int v4), (5, .int v5), (7, .int v7)]) dX9_canBe_222 rfl rfl (by decide) rfl rfl ?_
    refine rr_goto (tgt := 97) dX9_canBe_225 (by decide) ?_
    exact rr.sub [1, 2, 3, 4, 5, 6, 0] rfl h
  · have h := h.2 hc
    refine rr_iload_n dX9_canBe_114 rfl 2 rfl rfl ?_
    refine rr_iconst (v := (1 : Int32)) dX9_canBe_115 (by decide) rfl ?_
    refine rr_icmp_ne (tgt := 134) dX9_canBe_116 (by decide) rfl ⟨fun hc => ?_, fun hc => ?_⟩
    · have h := h.1 hc
      refine rr_aload_n dX9_canBe_134 rfl 0 rfl rfl ?_
      refine rr_getR dX9_canBe_135 fX9_75 (by decide) rfl rfl rfl ?_
      refine rr_bipush (v := (13 : Int32)) dX9_canBe_138 (by decide) rfl ?_
      refine rr_iload_n dX9_canBe_140 rfl 3 rfl rfl ?_
      refine rr_imul dX9_canBe_141 rfl ?_
      refine rr_iload dX9_canBe_142 7 rfl rfl ?_
      refine rr_iadd dX9_canBe_144 rfl ?_
      refine rr_lald dX9_canBe_145 (by decide) rfl rfl ⟨h.1, ?_⟩
      have h := h.2
      refine rr_aload_n dX9_canBe_146 rfl 0 rfl rfl ?_
      refine rr_getR dX9_canBe_147 fX9_79 (by decide) rfl rfl rfl ?_
      refine rr_bipush (v := (13 : Int32)) dX9_canBe_150 (by decide) rfl ?_
      refine rr_iload_n dX9_canBe_152 rfl 1 rfl rfl ?_
      refine rr_imul dX9_canBe_153 rfl ?_
      refine rr_iload dX9_canBe_154 7 rfl rfl ?_
      refine rr_iadd dX9_canBe_156 rfl ?_
      refine rr_lald dX9_canBe_157 (by decide) rfl rfl ⟨h.1, ?_⟩
      have h := h.2
      refine rr_lsub dX9_canBe_158 rfl ?_
      refine rr_letTl (fun y1 hy1 => ?_)
      have h := h y1 hy1
      refine rr_lstore (lv' := [(8, .long y1), (0, .ref 0), (1, .int v1), (2, .int v2), (3, .int v3), (4, .int v4), (5, .int v5), (6, .int v6), (7, .int v7)]) dX9_canBe_159 (by decide) rfl rfl ?_
      refine rr_iload dX9_canBe_161 5 rfl rfl ?_
      refine rr_iload dX9_canBe_163 7 rfl rfl ?_
      refine rr_isub dX9_canBe_165 rfl ?_
      refine rr_iload dX9_canBe_166 8 rfl rfl ?_
      refine rr_isub dX9_canBe_168 rfl ?_
      refine rr_istore (lv' := [(10, .int ((v4 - v6) - v7)), (8, .long y1), (0, .ref 0), (1, .int v1), (2, .int v2), (3, .int v3), (4, .int v4), (5, .int v5), (6, .int v6), (7, .int v7)]) dX9_canBe_169 (by decide) rfl rfl ?_
      refine rr_iload dX9_canBe_171 7 rfl rfl ?_
      refine rr_if_ne (tgt := 209) dX9_canBe_173 (by decide) rfl ⟨fun hc => ?_, fun hc => ?_⟩
      · have h := h.1 hc
        refine rr_iconst (v := (1 : Int32)) dX9_canBe_209 (by decide) rfl ?_
        refine rr_goto (tgt := 214) dX9_canBe_210 (by decide) ?_
        refine rr_istore (lv' := [(5, .int (1 : Int32)), (10, .int ((v4 - v6) - v7)), (8, .long y1), (0, .ref 0), (1, .int v1), (2, .int v2), (3, .int v3), (4, .int v4), (6, .int v6), (7, .int v7)]) dX9_canBe_214 (by decide) rfl rfl ?_
        refine rr_iinc (k := 9) (v := (v7 + (1 : Int32))) (lv' := [(7, .int (v7 + (1 : Int32))), (5, .int (1 : Int32)), (10, .int ((v4 - v6) - v7)), (8, .long y1), (0, .ref 0), (1, .int v1), (2, .int v2), (3, .int v3), (4, .int v4), (6, .int v6)]) dX9_canBe_216 rfl rfl (by decide) rfl rfl ?_
        refine rr_goto (tgt := 107) dX9_canBe_219 (by decide) ?_
        exact rr.sub [4, 5, 6, 7, 8, 1, 9, 0] rfl h
      · have h := h.2 hc
        refine rr_aload_n dX9_canBe_176 rfl 2 rfl rfl ?_
        refine rr_getR dX9_canBe_177 fX9_82 (by decide) rfl rfl rfl ?_
        refine rr_iload dX9_canBe_180 8 rfl rfl ?_
        refine rr_lald dX9_canBe_182 (by decide) rfl rfl ⟨h.1, ?_⟩
        have h := h.2
        refine rr_lconst (v := (0 : Int64)) dX9_canBe_183 (by decide) rfl ?_
        refine rr_lcmp dX9_canBe_184 rfl ?_
        refine rr_if_le (tgt := 213) dX9_canBe_185 (by decide) rfl ⟨fun hc => ?_, fun hc => ?_⟩
        · have h := h.1 hc
          refine rr_iconst (v := (0 : Int32)) dX9_canBe_213 (by decide) rfl ?_
          refine rr_istore (lv' := [(5, .int (0 : Int32)), (10, .int ((v4 - v6) - v7)), (8, .long y1), (0, .ref 0), (1, .int v1), (2, .int v2), (3, .int v3), (4, .int v4), (6, .int v6), (7, .int v7)]) dX9_canBe_214 (by decide) rfl rfl ?_
          refine rr_iinc (k := 9) (v := (v7 + (1 : Int32))) (lv' := [(7, .int (v7 + (1 : Int32))), (5, .int (0 : Int32)), (10, .int ((v4 - v6) - v7)), (8, .long y1), (0, .ref 0), (1, .int v1), (2, .int v2), (3, .int v3), (4, .int v4), (6, .int v6)]) dX9_canBe_216 rfl rfl (by decide) rfl rfl ?_
          refine rr_goto (tgt := 107) dX9_canBe_219 (by decide) ?_
          exact rr.sub [4, 5, 6, 7, 8, 1, 9, 0] rfl h
        · have h := h.2 hc
          refine rr_lload dX9_canBe_188 1 rfl rfl ?_
          refine rr_lconst (v := (0 : Int64)) dX9_canBe_190 (by decide) rfl ?_
          refine rr_lcmp dX9_canBe_191 rfl ?_
          refine rr_if_le (tgt := 213) dX9_canBe_192 (by decide) rfl ⟨fun hc => ?_, fun hc => ?_⟩
          · have h := h.1 hc
            refine rr_iconst (v := (0 : Int32)) dX9_canBe_213 (by decide) rfl ?_
            refine rr_istore (lv' := [(5, .int (0 : Int32)), (10, .int ((v4 - v6) - v7)), (8, .long y1), (0, .ref 0), (1, .int v1), (2, .int v2), (3, .int v3), (4, .int v4), (6, .int v6), (7, .int v7)]) dX9_canBe_214 (by decide) rfl rfl ?_
            refine rr_iinc (k := 9) (v := (v7 + (1 : Int32))) (lv' := [(7, .int (v7 + (1 : Int32))), (5, .int (0 : Int32)), (10, .int ((v4 - v6) - v7)), (8, .long y1), (0, .ref 0), (1, .int v1), (2, .int v2), (3, .int v3), (4, .int v4), (6, .int v6)]) dX9_canBe_216 rfl rfl (by decide) rfl rfl ?_
            refine rr_goto (tgt := 107) dX9_canBe_219 (by decide) ?_
            exact rr.sub [4, 5, 6, 7, 8, 1, 9, 0] rfl h
          · have h := h.2 hc
            refine rr_iload dX9_canBe_195 0 rfl rfl ?_
            refine rr_if_lt (tgt := 213) dX9_canBe_197 (by decide) rfl ⟨fun hc => ?_, fun hc => ?_⟩
            · have h := h.1 hc
              refine rr_iconst (v := (0 : Int32)) dX9_canBe_213 (by decide) rfl ?_
              refine rr_istore (lv' := [(5, .int (0 : Int32)), (10, .int ((v4 - v6) - v7)), (8, .long y1), (0, .ref 0), (1, .int v1), (2, .int v2), (3, .int v3), (4, .int v4), (6, .int v6), (7, .int v7)]) dX9_canBe_214 (by decide) rfl rfl ?_
              refine rr_iinc (k := 9) (v := (v7 + (1 : Int32))) (lv' := [(7, .int (v7 + (1 : Int32))), (5, .int (0 : Int32)), (10, .int ((v4 - v6) - v7)), (8, .long y1), (0, .ref 0), (1, .int v1), (2, .int v2), (3, .int v3), (4, .int v4), (6, .int v6)]) dX9_canBe_216 rfl rfl (by decide) rfl rfl ?_
              refine rr_goto (tgt := 107) dX9_canBe_219 (by decide) ?_
              exact rr.sub [4, 5, 6, 7, 8, 1, 9, 0] rfl h
            · have h := h.2 hc
              refine rr_iload dX9_canBe_200 0 rfl rfl ?_
              refine rr_aload_n dX9_canBe_202 rfl 2 rfl rfl ?_
              refine rr_getI dX9_canBe_203 fX9_253 (by decide) rfl rfl rfl ?_
              refine rr_icmp_gt (tgt := 213) dX9_canBe_206 (by decide) rfl ⟨fun hc => ?_, fun hc => ?_⟩
              · have h := h.1 hc
                refine rr_iconst (v := (0 : Int32)) dX9_canBe_213 (by decide) rfl ?_
                refine rr_istore (lv' := [(5, .int (0 : Int32)), (10, .int ((v4 - v6) - v7)), (8, .long y1), (0, .ref 0), (1, .int v1), (2, .int v2), (3, .int v3), (4, .int v4), (6, .int v6), (7, .int v7)]) dX9_canBe_214 (by decide) rfl rfl ?_
                refine rr_iinc (k := 9) (v := (v7 + (1 : Int32))) (lv' := [(7, .int (v7 + (1 : Int32))), (5, .int (0 : Int32)), (10, .int ((v4 - v6) - v7)), (8, .long y1), (0, .ref 0), (1, .int v1), (2, .int v2), (3, .int v3), (4, .int v4), (6, .int v6)]) dX9_canBe_216 rfl rfl (by decide) rfl rfl ?_
                refine rr_goto (tgt := 107) dX9_canBe_219 (by decide) ?_
                exact rr.sub [4, 5, 6, 7, 8, 1, 9, 0] rfl h
              · have h := h.2 hc
                refine rr_iconst (v := (1 : Int32)) dX9_canBe_209 (by decide) rfl ?_
                refine rr_goto (tgt := 214) dX9_canBe_210 (by decide) ?_
                refine rr_istore (lv' := [(5, .int (1 : Int32)), (10, .int ((v4 - v6) - v7)), (8, .long y1), (0, .ref 0), (1, .int v1), (2, .int v2), (3, .int v3), (4, .int v4), (6, .int v6), (7, .int v7)]) dX9_canBe_214 (by decide) rfl rfl ?_
                refine rr_iinc (k := 9) (v := (v7 + (1 : Int32))) (lv' := [(7, .int (v7 + (1 : Int32))), (5, .int (1 : Int32)), (10, .int ((v4 - v6) - v7)), (8, .long y1), (0, .ref 0), (1, .int v1), (2, .int v2), (3, .int v3), (4, .int v4), (6, .int v6)]) dX9_canBe_216 rfl rfl (by decide) rfl rfl ?_
                refine rr_goto (tgt := 107) dX9_canBe_219 (by decide) ?_
                exact rr.sub [4, 5, 6, 7, 8, 1, 9, 0] rfl h
    · have h := h.2 hc
      refine rr_aload_n dX9_canBe_119 rfl 0 rfl rfl ?_
      refine rr_getR dX9_canBe_120 fX9_79 (by decide) rfl rfl rfl ?_
      refine rr_bipush (v := (13 : Int32)) dX9_canBe_123 (by decide) rfl ?_
      refine rr_iload_n dX9_canBe_125 rfl 1 rfl rfl ?_
      refine rr_imul dX9_canBe_126 rfl ?_
      refine rr_iload dX9_canBe_127 7 rfl rfl ?_
      refine rr_iadd dX9_canBe_129 rfl ?_
      refine rr_lald dX9_canBe_130 (by decide) rfl rfl ⟨h.1, ?_⟩
      have h := h.2
      refine rr_goto (tgt := 159) dX9_canBe_131 (by decide) ?_
      refine rr_letTl (fun y2 hy2 => ?_)
      have h := h y2 hy2
      refine rr_lstore (lv' := [(8, .long y2), (0, .ref 0), (1, .int v1), (2, .int v2), (3, .int v3), (4, .int v4), (5, .int v5), (6, .int v6), (7, .int v7)]) dX9_canBe_159 (by decide) rfl rfl ?_
      refine rr_iload dX9_canBe_161 5 rfl rfl ?_
      refine rr_iload dX9_canBe_163 7 rfl rfl ?_
      refine rr_isub dX9_canBe_165 rfl ?_
      refine rr_iload dX9_canBe_166 8 rfl rfl ?_
      refine rr_isub dX9_canBe_168 rfl ?_
      refine rr_istore (lv' := [(10, .int ((v4 - v6) - v7)), (8, .long y2), (0, .ref 0), (1, .int v1), (2, .int v2), (3, .int v3), (4, .int v4), (5, .int v5), (6, .int v6), (7, .int v7)]) dX9_canBe_169 (by decide) rfl rfl ?_
      refine rr_iload dX9_canBe_171 7 rfl rfl ?_
      refine rr_if_ne (tgt := 209) dX9_canBe_173 (by decide) rfl ⟨fun hc => ?_, fun hc => ?_⟩
      · have h := h.1 hc
        refine rr_iconst (v := (1 : Int32)) dX9_canBe_209 (by decide) rfl ?_
        refine rr_goto (tgt := 214) dX9_canBe_210 (by decide) ?_
        refine rr_istore (lv' := [(5, .int (1 : Int32)), (10, .int ((v4 - v6) - v7)), (8, .long y2), (0, .ref 0), (1, .int v1), (2, .int v2), (3, .int v3), (4, .int v4), (6, .int v6), (7, .int v7)]) dX9_canBe_214 (by decide) rfl rfl ?_
        refine rr_iinc (k := 9) (v := (v7 + (1 : Int32))) (lv' := [(7, .int (v7 + (1 : Int32))), (5, .int (1 : Int32)), (10, .int ((v4 - v6) - v7)), (8, .long y2), (0, .ref 0), (1, .int v1), (2, .int v2), (3, .int v3), (4, .int v4), (6, .int v6)]) dX9_canBe_216 rfl rfl (by decide) rfl rfl ?_
        refine rr_goto (tgt := 107) dX9_canBe_219 (by decide) ?_
        exact rr.sub [4, 5, 6, 7, 8, 1, 9, 0] rfl h
      · have h := h.2 hc
        refine rr_aload_n dX9_canBe_176 rfl 2 rfl rfl ?_
        refine rr_getR dX9_canBe_177 fX9_82 (by decide) rfl rfl rfl ?_
        refine rr_iload dX9_canBe_180 8 rfl rfl ?_
        refine rr_lald dX9_canBe_182 (by decide) rfl rfl ⟨h.1, ?_⟩
        have h := h.2
        refine rr_lconst (v := (0 : Int64)) dX9_canBe_183 (by decide) rfl ?_
        refine rr_lcmp dX9_canBe_184 rfl ?_
        refine rr_if_le (tgt := 213) dX9_canBe_185 (by decide) rfl ⟨fun hc => ?_, fun hc => ?_⟩
        · have h := h.1 hc
          refine rr_iconst (v := (0 : Int32)) dX9_canBe_213 (by decide) rfl ?_
          refine rr_istore (lv' := [(5, .int (0 : Int32)), (10, .int ((v4 - v6) - v7)), (8, .long y2), (0, .ref 0), (1, .int v1), (2, .int v2), (3, .int v3), (4, .int v4), (6, .int v6), (7, .int v7)]) dX9_canBe_214 (by decide) rfl rfl ?_
          refine rr_iinc (k := 9) (v := (v7 + (1 : Int32))) (lv' := [(7, .int (v7 + (1 : Int32))), (5, .int (0 : Int32)), (10, .int ((v4 - v6) - v7)), (8, .long y2), (0, .ref 0), (1, .int v1), (2, .int v2), (3, .int v3), (4, .int v4), (6, .int v6)]) dX9_canBe_216 rfl rfl (by decide) rfl rfl ?_
          refine rr_goto (tgt := 107) dX9_canBe_219 (by decide) ?_
          exact rr.sub [4, 5, 6, 7, 8, 1, 9, 0] rfl h
        · have h := h.2 hc
          refine rr_lload dX9_canBe_188 1 rfl rfl ?_
          refine rr_lconst (v := (0 : Int64)) dX9_canBe_190 (by decide) rfl ?_
          refine rr_lcmp dX9_canBe_191 rfl ?_
          refine rr_if_le (tgt := 213) dX9_canBe_192 (by decide) rfl ⟨fun hc => ?_, fun hc => ?_⟩
          · have h := h.1 hc
            refine rr_iconst (v := (0 : Int32)) dX9_canBe_213 (by decide) rfl ?_
            refine rr_istore (lv' := [(5, .int (0 : Int32)), (10, .int ((v4 - v6) - v7)), (8, .long y2), (0, .ref 0), (1, .int v1), (2, .int v2), (3, .int v3), (4, .int v4), (6, .int v6), (7, .int v7)]) dX9_canBe_214 (by decide) rfl rfl ?_
            refine rr_iinc (k := 9) (v := (v7 + (1 : Int32))) (lv' := [(7, .int (v7 + (1 : Int32))), (5, .int (0 : Int32)), (10, .int ((v4 - v6) - v7)), (8, .long y2), (0, .ref 0), (1, .int v1), (2, .int v2), (3, .int v3), (4, .int v4), (6, .int v6)]) dX9_canBe_216 rfl rfl (by decide) rfl rfl ?_
            refine rr_goto (tgt := 107) dX9_canBe_219 (by decide) ?_
            exact rr.sub [4, 5, 6, 7, 8, 1, 9, 0] rfl h
          · have h := h.2 hc
            refine rr_iload dX9_canBe_195 0 rfl rfl ?_
            refine rr_if_lt (tgt := 213) dX9_canBe_197 (by decide) rfl ⟨fun hc => ?_, fun hc => ?_⟩
            · have h := h.1 hc
              refine rr_iconst (v := (0 : Int32)) dX9_canBe_213 (by decide) rfl ?_
              refine rr_istore (lv' := [(5, .int (0 : Int32)), (10, .int ((v4 - v6) - v7)), (8, .long y2), (0, .ref 0), (1, .int v1), (2, .int v2), (3, .int v3), (4, .int v4), (6, .int v6), (7, .int v7)]) dX9_canBe_214 (by decide) rfl rfl ?_
              refine rr_iinc (k := 9) (v := (v7 + (1 : Int32))) (lv' := [(7, .int (v7 + (1 : Int32))), (5, .int (0 : Int32)), (10, .int ((v4 - v6) - v7)), (8, .long y2), (0, .ref 0), (1, .int v1), (2, .int v2), (3, .int v3), (4, .int v4), (6, .int v6)]) dX9_canBe_216 rfl rfl (by decide) rfl rfl ?_
              refine rr_goto (tgt := 107) dX9_canBe_219 (by decide) ?_
              exact rr.sub [4, 5, 6, 7, 8, 1, 9, 0] rfl h
            · have h := h.2 hc
              refine rr_iload dX9_canBe_200 0 rfl rfl ?_
              refine rr_aload_n dX9_canBe_202 rfl 2 rfl rfl ?_
              refine rr_getI dX9_canBe_203 fX9_253 (by decide) rfl rfl rfl ?_
              refine rr_icmp_gt (tgt := 213) dX9_canBe_206 (by decide) rfl ⟨fun hc => ?_, fun hc => ?_⟩
              · have h := h.1 hc
                refine rr_iconst (v := (0 : Int32)) dX9_canBe_213 (by decide) rfl ?_
                refine rr_istore (lv' := [(5, .int (0 : Int32)), (10, .int ((v4 - v6) - v7)), (8, .long y2), (0, .ref 0), (1, .int v1), (2, .int v2), (3, .int v3), (4, .int v4), (6, .int v6), (7, .int v7)]) dX9_canBe_214 (by decide) rfl rfl ?_
                refine rr_iinc (k := 9) (v := (v7 + (1 : Int32))) (lv' := [(7, .int (v7 + (1 : Int32))), (5, .int (0 : Int32)), (10, .int ((v4 - v6) - v7)), (8, .long y2), (0, .ref 0), (1, .int v1), (2, .int v2), (3, .int v3), (4, .int v4), (6, .int v6)]) dX9_canBe_216 rfl rfl (by decide) rfl rfl ?_
                refine rr_goto (tgt := 107) dX9_canBe_219 (by decide) ?_
                exact rr.sub [4, 5, 6, 7, 8, 1, 9, 0] rfl h
              · have h := h.2 hc
                refine rr_iconst (v := (1 : Int32)) dX9_canBe_209 (by decide) rfl ?_
                refine rr_goto (tgt := 214) dX9_canBe_210 (by decide) ?_
                refine rr_istore (lv' := [(5, .int (1 : Int32)), (10, .int ((v4 - v6) - v7)), (8, .long y2), (0, .ref 0), (1, .int v1), (2, .int v2), (3, .int v3), (4, .int v4), (6, .int v6), (7, .int v7)]) dX9_canBe_214 (by decide) rfl rfl ?_
                refine rr_iinc (k := 9) (v := (v7 + (1 : Int32))) (lv' := [(7, .int (v7 + (1 : Int32))), (5, .int (1 : Int32)), (10, .int ((v4 - v6) - v7)), (8, .long y2), (0, .ref 0), (1, .int v1), (2, .int v2), (3, .int v3), (4, .int v4), (6, .int v6)]) dX9_canBe_216 rfl rfl (by decide) rfl rfl ?_
                refine rr_goto (tgt := 107) dX9_canBe_219 (by decide) ?_
                exact rr.sub [4, 5, 6, 7, 8, 1, 9, 0] rfl h

def l_X9_findChoices_2 (I : tg_I) (J : tg_J) (P : Option Value → tg_I → tg_J → Prop) (v1 : Int32) (v2 : Int32) : Prop := rr pgM zX9_findChoices 2 [(0, .ref 0), (1, .int v1), (2, .int v2)] [] I J P
def l_X9_findChoices_31 (I : tg_I) (J : tg_J) (P : Option Value → tg_I → tg_J → Prop) (v1 : Int32) (v2 : Int32) : Prop := rr pgM zX9_findChoices 31 [(0, .ref 0), (1, .int v1), (2, .int v2)] [] I J P
def l_X9_findChoices_39 (I : tg_I) (J : tg_J) (P : Option Value → tg_I → tg_J → Prop) (v1 : Int32) (v2 : Int32) (v3 : Int32) : Prop := rr pgM zX9_findChoices 39 [(0, .ref 0), (1, .int v1), (2, .int v2), (3, .int v3)] [] I J P
theorem e_X9_findChoices {I : tg_I} {J : tg_J} {P : Option Value → tg_I → tg_J → Prop} (v1 : Int32) (h :
  l_X9_findChoices_2 I J P v1 ((0 : Int32))) : call pgM zX9_findChoices [.ref 0, .int v1] I J P := by
  refine call_of (by decide +kernel) (fun _ => Nat.le_of_ble_eq_true rfl) ?_
  show rr pgM zX9_findChoices 0 [(0, .ref 0), (1, .int v1)] [] I J P
  refine rr_iconst (v := (0 : Int32)) dX9_findChoices_0 (by decide) rfl ?_
  refine rr_istore_n (lv' := [(2, .int (0 : Int32)), (0, .ref 0), (1, .int v1)]) dX9_findChoices_1 rfl (by decide) rfl rfl ?_
  exact rr.sub [1, 2, 0] rfl h
theorem s_X9_findChoices_2 {I : tg_I} {J : tg_J} {P : Option Value → tg_I → tg_J → Prop} (v1 : Int32) (v2 : Int32) (h :
  ((101 : Int32) ≤ v2 →
   l_X9_findChoices_31 I J P v1 ((0 : Int32))) ∧
  (¬ (101 : Int32) ≤ v2 →
   (¬ v2 = 0 →
     vp_in v2 101 ∧ ∀ J1, J1 = u2 J 22 (Int32.toNatClampNeg v2) (0 : Int64) →
      l_X9_findChoices_2 I J1 P v1 ((v2 + (1 : Int32)))) ∧
    (v2 = 0 →
     vp_in v2 101 ∧ ∀ J2, J2 = u2 J 22 (Int32.toNatClampNeg v2) (1 : Int64) →
      l_X9_findChoices_2 I J2 P v1 ((v2 + (1 : Int32)))))) : l_X9_findChoices_2 I J P v1 v2 := by
  show rr pgM zX9_findChoices 2 [(0, .ref 0), (1, .int v1), (2, .int v2)] [] I J P
  refine rr_iload_n dX9_findChoices_2 rfl 2 rfl rfl ?_
  refine rr_bipush (v := (101 : Int32)) dX9_findChoices_3 (by decide) rfl ?_
  refine rr_icmp_ge (tgt := 29) dX9_findChoices_5 (by decide) rfl ⟨fun hc => ?_, fun hc => ?_⟩
  · have h := h.1 hc
    refine rr_iconst (v := (0 : Int32)) dX9_findChoices_29 (by decide) rfl ?_
    refine rr_istore_n (lv' := [(2, .int (0 : Int32)), (0, .ref 0), (1, .int v1)]) dX9_findChoices_30 rfl (by decide) rfl rfl ?_
    exact rr.sub [1, 2, 0] rfl h
  · have h := h.2 hc
    refine rr_aload_n dX9_findChoices_8 rfl 0 rfl rfl ?_
    refine rr_getR dX9_findChoices_9 fX9_88 (by decide) rfl rfl rfl ?_
    refine rr_iload_n dX9_findChoices_12 rfl 2 rfl rfl ?_
    refine rr_iload_n dX9_findChoices_13 rfl 2 rfl rfl ?_
    refine rr_if_ne (tgt := 21) dX9_findChoices_14 (by decide) rfl ⟨fun hc => ?_, fun hc => ?_⟩
    · have h := h.1 hc
      refine rr_lconst (v := (0 : Int64)) dX9_findChoices_21 (by decide) rfl ?_
      refine rr_last dX9_findChoices_22 (by decide) rfl rfl ⟨h.1, ?_⟩
      refine rr_letJ (fun J1 hJ1 => ?_)
      have h := h.2 J1 hJ1
      refine rr_iinc (k := 2) (v := (v2 + (1 : Int32))) (lv' := [(2, .int (v2 + (1 : Int32))), (0, .ref 0), (1, .int v1)]) dX9_findChoices_23 rfl rfl (by decide) rfl rfl ?_
      refine rr_goto (tgt := 2) dX9_findChoices_26 (by decide) ?_
      exact rr.sub [1, 2, 0] rfl h
    · have h := h.2 hc
      refine rr_lconst (v := (1 : Int64)) dX9_findChoices_17 (by decide) rfl ?_
      refine rr_goto (tgt := 22) dX9_findChoices_18 (by decide) ?_
      refine rr_last dX9_findChoices_22 (by decide) rfl rfl ⟨h.1, ?_⟩
      refine rr_letJ (fun J2 hJ2 => ?_)
      have h := h.2 J2 hJ2
      refine rr_iinc (k := 2) (v := (v2 + (1 : Int32))) (lv' := [(2, .int (v2 + (1 : Int32))), (0, .ref 0), (1, .int v1)]) dX9_findChoices_23 rfl rfl (by decide) rfl rfl ?_
      refine rr_goto (tgt := 2) dX9_findChoices_26 (by decide) ?_
      exact rr.sub [1, 2, 0] rfl h
theorem s_X9_findChoices_31 {I : tg_I} {J : tg_J} {P : Option Value → tg_I → tg_J → Prop} (v1 : Int32) (v2 : Int32) (h :
  (v1 ≤ v2 →
   P none I J) ∧
  (¬ v1 ≤ v2 →
   l_X9_findChoices_39 I J P v1 v2 ((100 : Int32)))) : l_X9_findChoices_31 I J P v1 v2 := by
  show rr pgM zX9_findChoices 31 [(0, .ref 0), (1, .int v1), (2, .int v2)] [] I J P
  refine rr_iload_n dX9_findChoices_31 rfl 2 rfl rfl ?_
  refine rr_iload_n dX9_findChoices_32 rfl 1 rfl rfl ?_
  refine rr_icmp_ge (tgt := 80) dX9_findChoices_33 (by decide) rfl ⟨fun hc => ?_, fun hc => ?_⟩
  · have h := h.1 hc
    exact rr_vret dX9_findChoices_80 rfl h
  · have h := h.2 hc
    refine rr_bipush (v := (100 : Int32)) dX9_findChoices_36 (by decide) rfl ?_
    refine rr_istore_n (lv' := [(3, .int (100 : Int32)), (0, .ref 0), (1, .int v1), (2, .int v2)]) dX9_findChoices_38 rfl (by decide) rfl rfl ?_
    exact rr.sub [1, 2, 3, 0] rfl h
theorem s_X9_findChoices_39 {I : tg_I} {J : tg_J} {P : Option Value → tg_I → tg_J → Prop} (v1 : Int32) (v2 : Int32) (v3 : Int32) (h :
  (v3 ≤ 0 →
   l_X9_findChoices_31 I J P v1 ((v2 + (1 : Int32)))) ∧
  (¬ v3 ≤ 0 →
   vp_in v3 101 ∧
    (vp_in (v3 - (1 : Int32)) 101 ∧
    (vp_in v3 101 ∧ ∀ J1, J1 = u2 J 22 (Int32.toNatClampNeg v3) (((J 22 (Int32.toNatClampNeg v3)) + (J 22 (Int32.toNatClampNeg (v3 - (1 : Int32))))) - ((J 22 (Int32.toNatClampNeg v3)) + (J 22 (Int32.toNatClampNeg (v3 - (1 : Int32))))) / (1000000007 : Int64) * (1000000007 : Int64)) →
    l_X9_findChoices_39 I J1 P v1 v2 ((v3 + (-1 : Int32))))))) : l_X9_findChoices_39 I J P v1 v2 v3 := by
  show rr pgM zX9_findChoices 39 [(0, .ref 0), (1, .int v1), (2, .int v2), (3, .int v3)] [] I J P
  refine rr_iload_n dX9_findChoices_39 rfl 3 rfl rfl ?_
  refine rr_if_le (tgt := 74) dX9_findChoices_40 (by decide) rfl ⟨fun hc => ?_, fun hc => ?_⟩
  · have h := h.1 hc
    refine rr_iinc (k := 2) (v := (v2 + (1 : Int32))) (lv' := [(2, .int (v2 + (1 : Int32))), (0, .ref 0), (1, .int v1), (3, .int v3)]) dX9_findChoices_74 rfl rfl (by decide) rfl rfl ?_
    refine rr_goto (tgt := 31) dX9_findChoices_77 (by decide) ?_
    exact rr.sub [1, 2, 0] rfl h
  · have h := h.2 hc
    refine rr_aload_n dX9_findChoices_43 rfl 0 rfl rfl ?_
    refine rr_getR dX9_findChoices_44 fX9_88 (by decide) rfl rfl rfl ?_
    refine rr_iload_n dX9_findChoices_47 rfl 3 rfl rfl ?_
    refine rr_aload_n dX9_findChoices_48 rfl 0 rfl rfl ?_
    refine rr_getR dX9_findChoices_49 fX9_88 (by decide) rfl rfl rfl ?_
    refine rr_iload_n dX9_findChoices_52 rfl 3 rfl rfl ?_
    refine rr_lald dX9_findChoices_53 (by decide) rfl rfl ⟨h.1, ?_⟩
    have h := h.2
    refine rr_aload_n dX9_findChoices_54 rfl 0 rfl rfl ?_
    refine rr_getR dX9_findChoices_55 fX9_88 (by decide) rfl rfl rfl ?_
    refine rr_iload_n dX9_findChoices_58 rfl 3 rfl rfl ?_
    refine rr_iconst (v := (1 : Int32)) dX9_findChoices_59 (by decide) rfl ?_
    refine rr_isub dX9_findChoices_60 rfl ?_
    refine rr_lald dX9_findChoices_61 (by decide) rfl rfl ⟨h.1, ?_⟩
    have h := h.2
    refine rr_ladd dX9_findChoices_62 rfl ?_
    refine rr_ldc2 dX9_findChoices_63 qX9_270 rfl ?_
    refine rr_lrem dX9_findChoices_66 (by decide) rfl ?_
    refine rr_last dX9_findChoices_67 (by decide) rfl rfl ⟨h.1, ?_⟩
    refine rr_letJ (fun J1 hJ1 => ?_)
    have h := h.2 J1 hJ1
    refine rr_iinc (k := 3) (v := (v3 + (-1 : Int32))) (lv' := [(3, .int (v3 + (-1 : Int32))), (0, .ref 0), (1, .int v1), (2, .int v2)]) dX9_findChoices_68 rfl rfl (by decide) rfl rfl ?_
    refine rr_goto (tgt := 39) dX9_findChoices_71 (by decide) ?_
    exact rr.sub [1, 2, 3, 0] rfl h

def l_X9_together_10 (I : tg_I) (J : tg_J) (P : Option Value → tg_I → tg_J → Prop) (v1 : Int32) (v2 : Int32) (v3 : Int64) (v5 : Int32) : Prop := rr pgM zX9_together 10 [(0, .ref 0), (1, .int v1), (2, .int v2), (3, .long v3), (5, .int v5)] [] I J P
theorem e_X9_together {I : tg_I} {J : tg_J} {P : Option Value → tg_I → tg_J → Prop} (v1 : Int32) (v2 : Int32) (h :
  call pgM zX9_findChoices [.ref 0, .int v1] I J (fun vr I1 J1 => vr = none ∧
  (l_X9_together_10 I1 J1 P v1 v2 ((0 : Int64)) ((0 : Int32))))) : call pgM zX9_together [.ref 0, .int v1, .int v2] I J P := by
  refine call_of (by decide +kernel) (fun _ => Nat.le_of_ble_eq_true rfl) ?_
  show rr pgM zX9_together 0 [(0, .ref 0), (1, .int v1), (2, .int v2)] [] I J P
  refine rr_aload_n dX9_together_0 rfl 0 rfl rfl ?_
  refine rr_iload_n dX9_together_1 rfl 1 rfl rfl ?_
  refine rr_V [.int v1] [] dX9_together_2 kX9_findChoices mX9_279 ⟨by decide, by decide⟩ (by decide) rfl rfl rfl (Nat.le_of_ble_eq_true rfl) rfl (h.mono fun vr I1 J1 h => ?_)
  obtain ⟨rfl, h⟩ := h
  show rr pgM zX9_together 5 _ [] _ _ _
  refine rr_lconst (v := (0 : Int64)) dX9_together_5 (by decide) rfl ?_
  refine rr_lstore_n (lv' := [(3, .long (0 : Int64)), (0, .ref 0), (1, .int v1), (2, .int v2)]) dX9_together_6 rfl (by decide) rfl rfl ?_
  refine rr_iconst (v := (0 : Int32)) dX9_together_7 (by decide) rfl ?_
  refine rr_istore (lv' := [(5, .int (0 : Int32)), (3, .long (0 : Int64)), (0, .ref 0), (1, .int v1), (2, .int v2)]) dX9_together_8 (by decide) rfl rfl ?_
  exact rr.sub [2, 3, 4, 1, 0] rfl h
theorem s_X9_together_10 {I : tg_I} {J : tg_J} {P : Option Value → tg_I → tg_J → Prop} (v1 : Int32) (v2 : Int32) (v3 : Int64) (v5 : Int32) (h :
  ((100 : Int32) < v5 →
   P (some (.int (Int64.toInt32 v3))) I J) ∧
  (¬ (100 : Int32) < v5 →
   ((v2 - v5) < 0 →
     l_X9_together_10 I J P v1 v2 v3 ((v5 + (1 : Int32)))) ∧
    (¬ (v2 - v5) < 0 →
     (v1 < (v2 - v5) →
       l_X9_together_10 I J P v1 v2 v3 ((v5 + (1 : Int32)))) ∧
      (¬ v1 < (v2 - v5) →
       vp_in v5 201 ∧
        (vp_in (v2 - v5) 101 ∧
        (∀ y1, y1 = ((v3 + ((J 20 (Int32.toNatClampNeg v5)) * (J 22 (Int32.toNatClampNeg (v2 - v5))))) - (v3 + ((J 20 (Int32.toNatClampNeg v5)) * (J 22 (Int32.toNatClampNeg (v2 - v5))))) / (1000000007 : Int64) * (1000000007 : Int64)) →
        l_X9_together_10 I J P v1 v2 y1 ((v5 + (1 : Int32))))))))) : l_X9_together_10 I J P v1 v2 v3 v5 := by
  show rr pgM zX9_together 10 [(0, .ref 0), (1, .int v1), (2, .int v2), (3, .long v3), (5, .int v5)] [] I J P
  refine rr_iload dX9_together_10 4 rfl rfl ?_
  refine rr_bipush (v := (100 : Int32)) dX9_together_12 (by decide) rfl ?_
  refine rr_icmp_gt (tgt := 62) dX9_together_14 (by decide) rfl ⟨fun hc => ?_, fun hc => ?_⟩
  · have h := h.1 hc
    refine rr_lload_n dX9_together_62 rfl 3 rfl rfl ?_
    refine rr_l2i dX9_together_63 rfl ?_
    exact rr_iret dX9_together_64 rfl h
  · have h := h.2 hc
    refine rr_iload_n dX9_together_17 rfl 2 rfl rfl ?_
    refine rr_iload dX9_together_18 4 rfl rfl ?_
    refine rr_isub dX9_together_20 rfl ?_
    refine rr_istore (lv' := [(6, .int (v2 - v5)), (0, .ref 0), (1, .int v1), (2, .int v2), (3, .long v3), (5, .int v5)]) dX9_together_21 (by decide) rfl rfl ?_
    refine rr_iload dX9_together_23 0 rfl rfl ?_
    refine rr_if_lt (tgt := 56) dX9_together_25 (by decide) rfl ⟨fun hc => ?_, fun hc => ?_⟩
    · have h := h.1 hc
      refine rr_iinc (k := 5) (v := (v5 + (1 : Int32))) (lv' := [(5, .int (v5 + (1 : Int32))), (6, .int (v2 - v5)), (0, .ref 0), (1, .int v1), (2, .int v2), (3, .long v3)]) dX9_together_56 rfl rfl (by decide) rfl rfl ?_
      refine rr_goto (tgt := 10) dX9_together_59 (by decide) ?_
      exact rr.sub [2, 3, 4, 5, 0] rfl h
    · have h := h.2 hc
      refine rr_iload dX9_together_28 0 rfl rfl ?_
      refine rr_iload_n dX9_together_30 rfl 2 rfl rfl ?_
      refine rr_icmp_gt (tgt := 56) dX9_together_31 (by decide) rfl ⟨fun hc => ?_, fun hc => ?_⟩
      · have h := h.1 hc
        refine rr_iinc (k := 5) (v := (v5 + (1 : Int32))) (lv' := [(5, .int (v5 + (1 : Int32))), (6, .int (v2 - v5)), (0, .ref 0), (1, .int v1), (2, .int v2), (3, .long v3)]) dX9_together_56 rfl rfl (by decide) rfl rfl ?_
        refine rr_goto (tgt := 10) dX9_together_59 (by decide) ?_
        exact rr.sub [2, 3, 4, 5, 0] rfl h
      · have h := h.2 hc
        refine rr_lload_n dX9_together_34 rfl 4 rfl rfl ?_
        refine rr_aload_n dX9_together_35 rfl 1 rfl rfl ?_
        refine rr_getR dX9_together_36 fX9_82 (by decide) rfl rfl rfl ?_
        refine rr_iload dX9_together_39 5 rfl rfl ?_
        refine rr_lald dX9_together_41 (by decide) rfl rfl ⟨h.1, ?_⟩
        have h := h.2
        refine rr_aload_n dX9_together_42 rfl 1 rfl rfl ?_
        refine rr_getR dX9_together_43 fX9_88 (by decide) rfl rfl rfl ?_
        refine rr_iload dX9_together_46 0 rfl rfl ?_
        refine rr_lald dX9_together_48 (by decide) rfl rfl ⟨h.1, ?_⟩
        have h := h.2
        refine rr_lmul dX9_together_49 rfl ?_
        refine rr_ladd dX9_together_50 rfl ?_
        refine rr_ldc2 dX9_together_51 qX9_270 rfl ?_
        refine rr_lrem dX9_together_54 (by decide) rfl ?_
        refine rr_letTl (fun y1 hy1 => ?_)
        have h := h y1 hy1
        refine rr_lstore_n (lv' := [(3, .long y1), (6, .int (v2 - v5)), (0, .ref 0), (1, .int v1), (2, .int v2), (5, .int v5)]) dX9_together_55 rfl (by decide) rfl rfl ?_
        refine rr_iinc (k := 5) (v := (v5 + (1 : Int32))) (lv' := [(5, .int (v5 + (1 : Int32))), (3, .long y1), (6, .int (v2 - v5)), (0, .ref 0), (1, .int v1), (2, .int v2)]) dX9_together_56 rfl rfl (by decide) rfl rfl ?_
        refine rr_goto (tgt := 10) dX9_together_59 (by decide) ?_
        exact rr.sub [3, 4, 5, 1, 0] rfl h

theorem e_X9_ways {I : tg_I} {J : tg_J} {P : Option Value → tg_I → tg_J → Prop} (h :
  call pgM zX9_findParts [.ref 0] I J (fun vr I1 J1 => ∃ r1 : Int32, vr = some (.int r1) ∧
  ((¬ r1 = 0 →
   call pgM zX9_findWays [.ref 0] I1 J1 (fun vr I2 J2 => vr = none ∧
    (call pgM zX9_sumParts [.ref 0, .int (-1 : Int32), .int (0 : Int32)] I2 J2 (fun vr I3 J3 => vr = none ∧
    (call pgM zX9_mineLeft [.ref 0] I3 J3 (fun vr I4 J4 => ∃ r2 : Int32, vr = some (.int r2) ∧
    (call pgM zX9_together [.ref 0, .int (I3 0 27), .int r2] I4 J4 (fun vr I5 J5 => ∃ r3 : Int32, vr = some (.int r3) ∧
    (P (some (.int r3)) I5 J5))))))))) ∧
  (r1 = 0 →
   P (some (.int (-3 : Int32))) I1 J1)))) : call pgM zX9_ways [.ref 0] I J P := by
  refine call_of (by decide +kernel) (fun _ => Nat.le_of_ble_eq_true rfl) ?_
  show rr pgM zX9_ways 0 [(0, .ref 0)] [] I J P
  refine rr_aload_n dX9_ways_0 rfl 0 rfl rfl ?_
  refine rr_V [] [] dX9_ways_1 kX9_findParts mX9_210 ⟨by decide, by decide⟩ (by decide) rfl rfl rfl (Nat.le_of_ble_eq_true rfl) rfl (h.mono fun vr I1 J1 h => ?_)
  obtain ⟨r1, rfl, h⟩ := h
  show rr pgM zX9_ways 4 _ [.int r1] _ _ _
  refine rr_if_ne (tgt := 10) dX9_ways_4 (by decide) rfl ⟨fun hc => ?_, fun hc => ?_⟩
  · have h := h.1 hc
    refine rr_aload_n dX9_ways_10 rfl 0 rfl rfl ?_
    refine rr_V [] [] dX9_ways_11 kX9_findWays mX9_213 ⟨by decide, by decide⟩ (by decide) rfl rfl rfl (Nat.le_of_ble_eq_true rfl) rfl (h.mono fun vr I2 J2 h => ?_)
    obtain ⟨rfl, h⟩ := h
    show rr pgM zX9_ways 14 _ [] _ _ _
    refine rr_aload_n dX9_ways_14 rfl 0 rfl rfl ?_
    refine rr_iconst (v := (-1 : Int32)) dX9_ways_15 (by decide) rfl ?_
    refine rr_iconst (v := (0 : Int32)) dX9_ways_16 (by decide) rfl ?_
    refine rr_V [.int (-1 : Int32), .int (0 : Int32)] [] dX9_ways_17 kX9_sumParts mX9_272 ⟨by decide, by decide⟩ (by decide) rfl rfl rfl (Nat.le_of_ble_eq_true rfl) rfl (h.mono fun vr I3 J3 h => ?_)
    obtain ⟨rfl, h⟩ := h
    show rr pgM zX9_ways 20 _ [] _ _ _
    refine rr_aload_n dX9_ways_20 rfl 0 rfl rfl ?_
    refine rr_aload_n dX9_ways_21 rfl 0 rfl rfl ?_
    refine rr_getI dX9_ways_22 fX9_253 (by decide) rfl rfl rfl ?_
    refine rr_aload_n dX9_ways_25 rfl 0 rfl rfl ?_
    refine rr_V [] [.int (I3 0 27), .ref 0] dX9_ways_26 kX9_mineLeft mX9_276 ⟨by decide, by decide⟩ (by decide) rfl rfl rfl (Nat.le_of_ble_eq_true rfl) rfl (h.mono fun vr I4 J4 h => ?_)
    obtain ⟨r2, rfl, h⟩ := h
    show rr pgM zX9_ways 29 _ [.int r2, .int (I3 0 27), .ref 0] _ _ _
    refine rr_V [.int (I3 0 27), .int r2] [] dX9_ways_29 kX9_together mX9_282 ⟨by decide, by decide⟩ (by decide) rfl rfl rfl (Nat.le_of_ble_eq_true rfl) rfl (h.mono fun vr I5 J5 h => ?_)
    obtain ⟨r3, rfl, h⟩ := h
    show rr pgM zX9_ways 32 _ [.int r3] _ _ _
    exact rr_iret dX9_ways_32 rfl h
  · have h := h.2 hc
    refine rr_bipush (v := (-3 : Int32)) dX9_ways_7 (by decide) rfl ?_
    exact rr_iret dX9_ways_9 rfl h

theorem e_X9_with {I : tg_I} {J : tg_J} {P : Option Value → tg_I → tg_J → Prop} (v1 : Int32) (h :
  call pgM zX9_isCell [.ref 0, .int v1] I J (fun vr I1 J1 => ∃ r1 : Int32, vr = some (.int r1) ∧
  ((¬ r1 = 0 →
   vp_in v1 100 ∧
    (((I1 3 (Int32.toNatClampNeg v1)) = 0 →
     call pgM zX9_findParts [.ref 0] I1 J1 (fun vr I2 J2 => ∃ r2 : Int32, vr = some (.int r2) ∧
      ((¬ r2 = 0 →
       call pgM zX9_findWays [.ref 0] I2 J2 (fun vr I3 J3 => vr = none ∧
        (vp_in v1 100 ∧
        (∀ x1, x1 = (I3 15 (Int32.toNatClampNeg v1)) →
        call pgM zX9_sumParts [.ref 0, .int x1, .int (0 : Int32)] I3 J3 (fun vr I4 J4 => vr = none ∧
        ((0 ≤ x1 →
         call pgM zX9_addPart [.ref 0, .int ((13 : Int32) * v1), .int (0 : Int32), .int (1 : Int32)] I4 J4 (fun vr I5 J5 => vr = none ∧
          (call pgM zX9_mineLeft [.ref 0] I5 J5 (fun vr I6 J6 => ∃ r3 : Int32, vr = some (.int r3) ∧
          (call pgM zX9_together [.ref 0, .int (I5 0 27), .int r3] I6 J6 (fun vr I7 J7 => ∃ r4 : Int32, vr = some (.int r4) ∧
          (P (some (.int r4)) I7 J7))))))) ∧
        (¬ 0 ≤ x1 →
         call pgM zX9_mineLeft [.ref 0] I4 J4 (fun vr I8 J8 => ∃ r5 : Int32, vr = some (.int r5) ∧
          (call pgM zX9_together [.ref 0, .int ((I4 0 27) - (1 : Int32)), .int (r5 - (1 : Int32))] I8 J8 (fun vr I9 J9 => ∃ r6 : Int32, vr = some (.int r6) ∧
          (P (some (.int r6)) I9 J9))))))))))) ∧
      (r2 = 0 →
       P (some (.int (-3 : Int32))) I2 J2)))) ∧
    (¬ (I1 3 (Int32.toNatClampNeg v1)) = 0 →
     P (some (.int (-2 : Int32))) I1 J1))) ∧
  (r1 = 0 →
   P (some (.int (-1 : Int32))) I1 J1)))) : call pgM zX9_with [.ref 0, .int v1] I J P := by
  refine call_of (by decide +kernel) (fun _ => Nat.le_of_ble_eq_true rfl) ?_
  show rr pgM zX9_with 0 [(0, .ref 0), (1, .int v1)] [] I J P
  refine rr_aload_n dX9_with_0 rfl 0 rfl rfl ?_
  refine rr_iload_n dX9_with_1 rfl 1 rfl rfl ?_
  refine rr_V [.int v1] [] dX9_with_2 kX9_isCell mX9_126 ⟨by decide, by decide⟩ (by decide) rfl rfl rfl (Nat.le_of_ble_eq_true rfl) rfl (h.mono fun vr I1 J1 h => ?_)
  obtain ⟨r1, rfl, h⟩ := h
  show rr pgM zX9_with 5 _ [.int r1] _ _ _
  refine rr_if_ne (tgt := 10) dX9_with_5 (by decide) rfl ⟨fun hc => ?_, fun hc => ?_⟩
  · have h := h.1 hc
    refine rr_aload_n dX9_with_10 rfl 0 rfl rfl ?_
    refine rr_getR dX9_with_11 fX9_26 (by decide) rfl rfl rfl ?_
    refine rr_iload_n dX9_with_14 rfl 1 rfl rfl ?_
    refine rr_iald dX9_with_15 (by decide) rfl rfl ⟨h.1, ?_⟩
    have h := h.2
    refine rr_if_eq (tgt := 22) dX9_with_16 (by decide) rfl ⟨fun hc => ?_, fun hc => ?_⟩
    · have h := h.1 hc
      refine rr_aload_n dX9_with_22 rfl 0 rfl rfl ?_
      refine rr_V [] [] dX9_with_23 kX9_findParts mX9_210 ⟨by decide, by decide⟩ (by decide) rfl rfl rfl (Nat.le_of_ble_eq_true rfl) rfl (h.mono fun vr I2 J2 h => ?_)
      obtain ⟨r2, rfl, h⟩ := h
      show rr pgM zX9_with 26 _ [.int r2] _ _ _
      refine rr_if_ne (tgt := 32) dX9_with_26 (by decide) rfl ⟨fun hc => ?_, fun hc => ?_⟩
      · have h := h.1 hc
        refine rr_aload_n dX9_with_32 rfl 0 rfl rfl ?_
        refine rr_V [] [] dX9_with_33 kX9_findWays mX9_213 ⟨by decide, by decide⟩ (by decide) rfl rfl rfl (Nat.le_of_ble_eq_true rfl) rfl (h.mono fun vr I3 J3 h => ?_)
        obtain ⟨rfl, h⟩ := h
        show rr pgM zX9_with 36 _ [] _ _ _
        refine rr_aload_n dX9_with_36 rfl 0 rfl rfl ?_
        refine rr_getR dX9_with_37 fX9_66 (by decide) rfl rfl rfl ?_
        refine rr_iload_n dX9_with_40 rfl 1 rfl rfl ?_
        refine rr_iald dX9_with_41 (by decide) rfl rfl ⟨h.1, ?_⟩
        have h := h.2
        refine rr_letTi (fun x1 hx1 => ?_)
        have h := h x1 hx1
        refine rr_istore_n (lv' := [(2, .int x1), (0, .ref 0), (1, .int v1)]) dX9_with_42 rfl (by decide) rfl rfl ?_
        refine rr_aload_n dX9_with_43 rfl 1 rfl rfl ?_
        refine rr_iload_n dX9_with_44 rfl 0 rfl rfl ?_
        refine rr_iconst (v := (0 : Int32)) dX9_with_45 (by decide) rfl ?_
        refine rr_V [.int x1, .int (0 : Int32)] [] dX9_with_46 kX9_sumParts mX9_272 ⟨by decide, by decide⟩ (by decide) rfl rfl rfl (Nat.le_of_ble_eq_true rfl) rfl (h.mono fun vr I4 J4 h => ?_)
        obtain ⟨rfl, h⟩ := h
        show rr pgM zX9_with 49 _ [] _ _ _
        refine rr_iload_n dX9_with_49 rfl 0 rfl rfl ?_
        refine rr_if_ge (tgt := 70) dX9_with_50 (by decide) rfl ⟨fun hc => ?_, fun hc => ?_⟩
        · have h := h.1 hc
          refine rr_aload_n dX9_with_70 rfl 1 rfl rfl ?_
          refine rr_bipush (v := (13 : Int32)) dX9_with_71 (by decide) rfl ?_
          refine rr_iload_n dX9_with_73 rfl 2 rfl rfl ?_
          refine rr_imul dX9_with_74 rfl ?_
          refine rr_iconst (v := (0 : Int32)) dX9_with_75 (by decide) rfl ?_
          refine rr_iconst (v := (1 : Int32)) dX9_with_76 (by decide) rfl ?_
          refine rr_V [.int ((13 : Int32) * v1), .int (0 : Int32), .int (1 : Int32)] [] dX9_with_77 kX9_addPart mX9_266 ⟨by decide, by decide⟩ (by decide) rfl rfl rfl (Nat.le_of_ble_eq_true rfl) rfl (h.mono fun vr I5 J5 h => ?_)
          obtain ⟨rfl, h⟩ := h
          show rr pgM zX9_with 80 _ [] _ _ _
          refine rr_aload_n dX9_with_80 rfl 1 rfl rfl ?_
          refine rr_aload_n dX9_with_81 rfl 1 rfl rfl ?_
          refine rr_getI dX9_with_82 fX9_253 (by decide) rfl rfl rfl ?_
          refine rr_aload_n dX9_with_85 rfl 1 rfl rfl ?_
          refine rr_V [] [.int (I5 0 27), .ref 0] dX9_with_86 kX9_mineLeft mX9_276 ⟨by decide, by decide⟩ (by decide) rfl rfl rfl (Nat.le_of_ble_eq_true rfl) rfl (h.mono fun vr I6 J6 h => ?_)
          obtain ⟨r3, rfl, h⟩ := h
          show rr pgM zX9_with 89 _ [.int r3, .int (I5 0 27), .ref 0] _ _ _
          refine rr_V [.int (I5 0 27), .int r3] [] dX9_with_89 kX9_together mX9_282 ⟨by decide, by decide⟩ (by decide) rfl rfl rfl (Nat.le_of_ble_eq_true rfl) rfl (h.mono fun vr I7 J7 h => ?_)
          obtain ⟨r4, rfl, h⟩ := h
          show rr pgM zX9_with 92 _ [.int r4] _ _ _
          exact rr_iret dX9_with_92 rfl h
        · have h := h.2 hc
          refine rr_aload_n dX9_with_53 rfl 1 rfl rfl ?_
          refine rr_aload_n dX9_with_54 rfl 1 rfl rfl ?_
          refine rr_getI dX9_with_55 fX9_253 (by decide) rfl rfl rfl ?_
          refine rr_iconst (v := (1 : Int32)) dX9_with_58 (by decide) rfl ?_
          refine rr_isub dX9_with_59 rfl ?_
          refine rr_aload_n dX9_with_60 rfl 1 rfl rfl ?_
          refine rr_V [] [.int ((I4 0 27) - (1 : Int32)), .ref 0] dX9_with_61 kX9_mineLeft mX9_276 ⟨by decide, by decide⟩ (by decide) rfl rfl rfl (Nat.le_of_ble_eq_true rfl) rfl (h.mono fun vr I8 J8 h => ?_)
          obtain ⟨r5, rfl, h⟩ := h
          show rr pgM zX9_with 64 _ [.int r5, .int ((I4 0 27) - (1 : Int32)), .ref 0] _ _ _
          refine rr_iconst (v := (1 : Int32)) dX9_with_64 (by decide) rfl ?_
          refine rr_isub dX9_with_65 rfl ?_
          refine rr_V [.int ((I4 0 27) - (1 : Int32)), .int (r5 - (1 : Int32))] [] dX9_with_66 kX9_together mX9_282 ⟨by decide, by decide⟩ (by decide) rfl rfl rfl (Nat.le_of_ble_eq_true rfl) rfl (h.mono fun vr I9 J9 h => ?_)
          obtain ⟨r6, rfl, h⟩ := h
          show rr pgM zX9_with 69 _ [.int r6] _ _ _
          exact rr_iret dX9_with_69 rfl h
      · have h := h.2 hc
        refine rr_bipush (v := (-3 : Int32)) dX9_with_29 (by decide) rfl ?_
        exact rr_iret dX9_with_31 rfl h
    · have h := h.2 hc
      refine rr_bipush (v := (-2 : Int32)) dX9_with_19 (by decide) rfl ?_
      exact rr_iret dX9_with_21 rfl h
  · have h := h.2 hc
    refine rr_iconst (v := (-1 : Int32)) dX9_with_8 (by decide) rfl ?_
    exact rr_iret dX9_with_9 rfl h
