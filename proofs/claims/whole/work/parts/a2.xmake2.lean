/-! the class: make -/
section XMm
variable {I : tg_I} {J : tg_J} {P : Option Value → tg_I → tg_J → Prop} {w h sh : Nat} {M H B F : Nat → Bool} {mv kd md : Nat} {hist : Nat → hS} {R T : Nat → Bool}
theorem oPl.mk {I I1 : tg_I} {J J1 : tg_J} (o : oPl I I1 J J1) : oMk I I1 J J1 := fun q hq => ⟨o.1 q (by omega) (by omega), o.2 q (by omega) (by omega) (by omega) (by omega) (by omega)⟩
theorem oMk.tr {I I1 I2 : tg_I} {J J1 J2 : tg_J} (h1 : oMk I I1 J J1) (h2 : oMk I1 I2 J1 J2) : oMk I I2 J J2 := fun q hq => ⟨((h2 q hq).1).trans (h1 q hq).1, ((h2 q hq).2).trans (h1 q hq).2⟩
def tcL (P : Option Value → tg_I → tg_J → Prop) (w h sh c gr : Nat) (I0 : tg_I) (J0 : tg_J) (k : Nat) : Prop := ∀ (M H O B F : Nat → Bool) (I : tg_I) (J : tg_J), (∀ i, M i = true → i < w * h) → M c = false → oMk I0 I J0 J → gridX 47 w h sh I J → vw 47 M H O B F J → (∀ i, i < 128 → sB J 53 i = decide (i < w * h)) → I 46 4 = zI c → I 46 2 = zI k →
    (∀ f' M' k', tcR w h sh gr c f' k M (some M', k') → (∀ i, M' i = true → i < w * h) → k' ≤ 40 → ∀ I' J', oMk I0 I' J0 J' → (∀ i, i < 128 → sB J' 54 i = M' i) → I' 46 2 = zI k' → P (some (.int 1)) I' J') →
    (∀ f' k', tcR w h sh gr c f' k M (none, k') → k' ≤ 40 → ∀ I' J', oMk I0 I' J0 J' → I' 46 2 = zI k' → P (some (.int 0)) I' J') →
    l_X3_mendToClear_7 I J P (zI gr) (zI k)
theorem tc_step (gk : gOk w h sh) {c gr : Nat} (hc : c < w * h) (hg1 : 1 ≤ gr) (hgr : gr ≤ 3) {I0 : tg_I} {J0 : tg_J} {k : Nat} (hk : k ≤ 40) (ih : k < 40 → tcL P w h sh c gr I0 J0 (k + 1)) : tcL P w h sh c gr I0 J0 k := by
  obtain ⟨hn1, hn2⟩ := mul_le100 gk
  intro M H O B F I J hM hMc o g v hA h4 h2 hp1 hp0
  refine s_X3_mendToClear_7 _ _ ?_
  rw [show (40 : Int32) = zI (40 : Nat) from rfl, z_lt (by omega) (by omega) (by omega) (by omega), z_eq (by omega) (by omega) (by omega) (by omega), z_s]
  refine ⟨fun q => absurd q (by omega), fun _ => play_ok gk g v hA hM hc hMc h4 hg1 hgr (fun hr H' I1 J1 okH' o1 v1 => ⟨_, rfl, fun z => absurd z (by decide), fun _ => ?_⟩) (fun Hf hr okf I1 J1 o1 v1 => ⟨_, rfl, fun _ => ?_, fun z => absurd rfl z⟩)⟩
  · exact hp1 1 M k (Or.inl ⟨hr, rfl⟩) hM hk I1 J1 (o.tr o1.mk) (fun i hi => (v1 i hi).1) (by rw [o1.1 46 (by omega) (by omega)]; exact h2)
  · have o01 := o.tr o1.mk
    have h21 : I1 46 2 = zI k := by rw [o1.1 46 (by omega) (by omega)]; exact h2
    refine ⟨fun q => hp0 1 k (Or.inr ⟨Hf, hr, Or.inl ⟨by omega, rfl⟩⟩) hk I1 J1 o01 h21, fun q => ?_⟩
    have hk40 : k < 40 := by omega
    refine mend_ok gk (o1.grid g) v1 (fun hm => ⟨_, rfl, fun z => absurd rfl z, fun _ => hp0 1 k (Or.inr ⟨Hf, hr, Or.inr ⟨hk40, Or.inl ⟨hm, rfl⟩⟩⟩) hk I1 J1 o01 h21⟩) (fun M' hm J2 o2 s2 => ⟨_, rfl, fun _ I2 e2 => ?_, fun z => absurd z (by decide)⟩)
    obtain ⟨hM', hMc'⟩ := md_c hr hm hM hMc
    have g2 : gridX 47 w h sh I2 J2 := by
      have g1 := o1.grid g
      unfold gridX xSz rowX rowB at g1 ⊢
      rw [e2, u2_other _ _ _ _ (by decide), u2_other _ _ _ _ (by decide), u2_other _ _ _ _ (by decide), o2 (47 + 2) (by decide), o2 (47 + 3) (by decide)]
      exact g1
    refine ih hk40 M' Hf (opS (w * h) Hf zB) zB (fun _ => false) I2 J2 hM' hMc' (o01.tr (fun q hq => ⟨by rw [e2, u2_other _ _ _ _ (by omega)], o2 q (by omega)⟩)) g2 (fun i hi => ?_) (fun i hi => ?_) (by rw [e2, u2_at, if_neg (by decide), o1.1 46 (by omega) (by omega)]; exact h4) (by rw [e2, u2_eq, h21, z_s]) (fun f' M2 k2 q => hp1 (f' + 1) M2 k2 (Or.inr ⟨Hf, hr, Or.inr ⟨hk40, Or.inr ⟨M', hm, q⟩⟩⟩)) (fun f' k2 q => hp0 (f' + 1) k2 (Or.inr ⟨Hf, hr, Or.inr ⟨hk40, Or.inr ⟨M', hm, q⟩⟩⟩))
    · have := v1 i hi
      refine ⟨s2 i hi, ?_, ?_, ?_, ?_⟩
      · rw [sB_of (o2 (47 + 8) (by decide))]; exact this.2.1
      · rw [sB_of (o2 (47 + 9) (by decide))]; exact this.2.2.1
      · rw [sB_of (o2 (47 + 10) (by decide))]; exact this.2.2.2.1
      · rw [sB_of (o2 (47 + 11) (by decide))]; exact this.2.2.2.2
    · rw [sB_of (o2 53 (by decide)), sB_of (o1.2 53 (by omega) (by omega) (by omega) (by omega) (by omega))]
      exact hA i hi
theorem tc_all (gk : gOk w h sh) {c gr : Nat} (hc : c < w * h) (hg1 : 1 ≤ gr) (hgr : gr ≤ 3) {I0 : tg_I} {J0 : tg_J} : ∀ f k, k + f = 40 → tcL P w h sh c gr I0 J0 k
  | 0, k, e => tc_step gk hc hg1 hgr (by omega) (fun q => absurd q (by omega))
  | f + 1, k, e => tc_step gk hc hg1 hgr (by omega) (fun _ => tc_all gk hc hg1 hgr f (k + 1) (by omega))
theorem mendToClear_ok (gk : gOk w h sh) {c gr : Nat} (hc : c < w * h) (hg1 : 1 ≤ gr) (hgr : gr ≤ 3) (hM : ∀ i, M i = true → i < w * h) (hMc : M c = false) (g : gridX 47 w h sh I J) {O : Nat → Bool} (v : vw 47 M H O B F J) (hA : ∀ i, i < 128 → sB J 53 i = decide (i < w * h)) (h4 : I 46 4 = zI c)
    (hp1 : ∀ f' M' k', tcR w h sh gr c f' 0 M (some M', k') → (∀ i, M' i = true → i < w * h) → k' ≤ 40 → ∀ I' J', oMk I I' J J' → (∀ i, i < 128 → sB J' 54 i = M' i) → I' 46 2 = zI k' → P (some (.int 1)) I' J')
    (hp0 : ∀ f' k', tcR w h sh gr c f' 0 M (none, k') → k' ≤ 40 → ∀ I' J', oMk I I' J J' → I' 46 2 = zI k' → P (some (.int 0)) I' J') : call pgX zX3_mendToClear [.ref 46, .int (zI gr)] I J P := by
  refine e_X3_mendToClear _ (fun I1 e1 => ?_)
  have g1 : gridX 47 w h sh I1 J := by
    unfold gridX xSz rowX rowB at g ⊢
    rw [e1, u2_other _ _ _ _ (by decide), u2_other _ _ _ _ (by decide), u2_other _ _ _ _ (by decide)]
    exact g
  exact tc_all gk hc hg1 hgr 40 0 rfl M H O B F I1 J hM hMc (fun q hq => ⟨by rw [e1, u2_other _ _ _ _ (by omega)], rfl⟩) g1 v hA (by rw [e1, u2_at, if_neg (by decide)]; exact h4) (by rw [e1, u2_eq]; rfl) hp1 hp0
/-- whether a board can be made of these numbers -/
def mkOk (x1 x2 x3 x4 x6 : Int32) (w h sh mm g : Nat) : Prop := gOk w h sh ∧ x1 = zI w ∧ x2 = zI h ∧ x4 = zI sh ∧ x3 = zI mm ∧ mm ≤ fb_ct (cbm w h sh (fcl w h)) (w * h) ∧ 1 ≤ g ∧ g ≤ 3 ∧ x6 = zI g
def mkM (w h sh mm : Nat) (seed : Int32) : Nat → Bool := drw (w * h) (cbm w h sh (fcl w h)) mm (seed &&& 2147483647) (fun _ => false)
theorem cbm_lt {c : Nat} : ∀ i, cbm w h sh c i = true → i < w * h := fun i q => by
  unfold cbm at q
  simp only [Bool.and_eq_true, decide_eq_true_eq] at q
  exact q.1.1
theorem rmm_0 (C : Nat → Bool) : rmm C (fun _ => false) = C := funext fun i => by unfold rmm; simp
theorem mkM_ok {mm : Nat} (hm : mm ≤ fb_ct (cbm w h sh (fcl w h)) (w * h)) (seed : Int32) : (∀ i, mkM w h sh mm seed i = true → i < w * h) ∧ mkM w h sh mm seed (fcl w h) = false := by
  have key := drw_ok (n := w * h) (C := cbm w h sh (fcl w h)) cbm_lt mm (seed &&& 2147483647) (fun _ => false) (by rw [rmm_0]; exact hm) (fun i q => by cases q)
  refine ⟨fun i q => cbm_lt i (key i q), ?_⟩
  cases e : mkM w h sh mm seed (fcl w h)
  · rfl
  · have := key _ e
    unfold cbm at this
    simp at this
theorem x_make (ho : okD ((w, h, sh), (M, H, B, F), (mv, hist), (kd, R, T, md))) (hr : relX ((w, h, sh), (M, H, B, F), (mv, hist), (kd, R, T, md)) I J) (x1 x2 x3 x4 x5 x6 : Int32)
    (hm1 : (∀ w' h' sh' mm g, ¬ mkOk x1 x2 x3 x4 x6 w' h' sh' mm g) → ∀ I' J', relX ((w, h, sh), (M, H, B, F), (mv, hist), (kd, R, T, md)) I' J' → P (some (.int (-1))) I' J')
    (h0 : ∀ w' h' sh' mm g f' k', mkOk x1 x2 x3 x4 x6 w' h' sh' mm g → tcR w' h' sh' g (fcl w' h') f' 0 (mkM w' h' sh' mm x5) (none, k') → k' ≤ 40 → ∀ I' J', relX ((w, h, sh), (M, H, B, F), (mv, hist), (kd, R, T, k')) I' J' → P (some (.int 0)) I' J')
    (h1 : ∀ w' h' sh' mm g f' k' M', mkOk x1 x2 x3 x4 x6 w' h' sh' mm g → tcR w' h' sh' g (fcl w' h') f' 0 (mkM w' h' sh' mm x5) (some M', k') → (∀ i, M' i = true → i < w' * h') → k' ≤ 40 → ∀ I' J', relX ((w', h', sh'), (M', fun i => decide (i < w' * h'), fun _ => false, fun _ => false), (0, hist), (0, fun _ => false, fun _ => false, k')) I' J' → P (some (.int 1)) I' J') : call pgX zX8_make [.ref 0, .int x1, .int x2, .int x3, .int x4, .int x5, .int x6] I J P := by
  obtain ⟨r1, r2, r3, r4, r5, r6, r7, r8, r9⟩ := id hr
  -- the desk's own side stays as it is
  have keep : ∀ (I' : tg_I) (J' : tg_J) (md' : Nat), oMk I I' J J' → I' 46 2 = zI md' → relX ((w, h, sh), (M, H, B, F), (mv, hist), (kd, R, T, md')) I' J' := fun I' J' md' o e => by
    have oI : ∀ q, q < 17 ∨ 62 ≤ q → I' q = I q := fun q hq => (o q hq).1
    have oJ : ∀ q, q < 17 ∨ 62 ≤ q → J' q = J q := fun q hq => (o q hq).2
    refine ⟨?_, fun i hi => ?_, fun i hi => ?_, ?_, fun m hm => ?_, ?_, fun i hi => ?_, fun i hi => ?_, e⟩
    · unfold gridX xSz rowX rowB at r1 ⊢
      rw [oI (1 + 1) (by omega), oI (1 + 4) (by omega), oI (1 + 5) (by omega), oJ (1 + 2) (by omega), oJ (1 + 3) (by omega)]
      exact r1
    · rw [sB_of (oJ 7 (by omega))]; exact r2 i hi
    · have := r3 i hi
      rw [sB_of (oJ (1 + 7) (by omega)), sB_of (oJ (1 + 8) (by omega)), sB_of (oJ (1 + 9) (by omega)), sB_of (oJ (1 + 10) (by omega)), sB_of (oJ (1 + 11) (by omega))]
      exact this
    · rw [oI 15 (by omega)]; exact r4
    · unfold xHist
      rw [oJ 16 (by omega)]
      exact r5 m hm
    · rw [oI 0 (by omega)]; exact r6
    · rw [sB_of (oJ 62 (by omega))]; exact r7 i hi
    · rw [sB_of (oJ 63 (by omega))]; exact r8 i hi
  refine e_X8_make _ _ _ _ _ _ (fits_ok x1 x2 x4 ⟨_, rfl, ?_⟩)
  rw [bi_0]
  refine ⟨fun c => hm1 (fun w' h' sh' mm g q => ?_) I J hr, fun c => ?_⟩
  · obtain ⟨⟨g1, g2, g3, g4, g5, g6⟩, ex, ey, ez, -⟩ := q
    rw [ex, ey, ez, z_toInt (by omega) (by omega), z_toInt (by omega) (by omega), z_toInt (by omega) (by omega), decide_eq_true (by omega)] at c
    cases c
  · have c : 1 ≤ x1.toInt ∧ x1.toInt ≤ 10 ∧ 1 ≤ x2.toInt ∧ x2.toInt ≤ 10 ∧ 0 ≤ x4.toInt ∧ x4.toInt ≤ 3 ∧ (x4.toInt = 3 → x2.toInt % 2 = 0) := by simpa using c
    obtain ⟨w', hw'⟩ := Int.eq_ofNat_of_zero_le (show 0 ≤ x1.toInt by omega)
    obtain ⟨h', hh'⟩ := Int.eq_ofNat_of_zero_le (show 0 ≤ x2.toInt by omega)
    obtain ⟨sh', hs'⟩ := Int.eq_ofNat_of_zero_le (show 0 ≤ x4.toInt by omega)
    have ex : x1 = zI w' := by rw [← hw']; exact (fb_asI x1).symm
    have ey : x2 = zI h' := by rw [← hh']; exact (fb_asI x2).symm
    have ez : x4 = zI sh' := by rw [← hs']; exact (fb_asI x4).symm
    have gk : gOk w' h' sh' := ⟨by omega, by omega, by omega, by omega, by omega, fun e => by have := c.2.2.2.2.2.2 (by omega); omega⟩
    have hc := fcl_lt gk
    obtain ⟨hn1, hn2⟩ := mul_le100 gk
    obtain ⟨z6, b1, b2, e6⟩ := z_of x6
    obtain ⟨z3, d1, d2, e3⟩ := z_of x3
    have same : ∀ w2 h2 sh2 mm g, mkOk x1 x2 x3 x4 x6 w2 h2 sh2 mm g → w2 = w' ∧ h2 = h' ∧ sh2 = sh' ∧ z3 = mm ∧ z6 = g := fun w2 h2 sh2 mm g q => by
      obtain ⟨⟨g1, g2, g3, g4, g5, g6⟩, q1, q2, q3, q4, q5, q6, q7, q8⟩ := q
      obtain ⟨k1, k2, k3, k4, k5, k6⟩ := id gk
      rw [ex, z_eq (by omega) (by omega) (by omega) (by omega)] at q1
      rw [ey, z_eq (by omega) (by omega) (by omega) (by omega)] at q2
      rw [ez, z_eq (by omega) (by omega) (by omega) (by omega)] at q3
      have hm100 : mm ≤ 100 := by
        have e1 : w2 = w' := by omega
        have e2 : h2 = h' := by omega
        have := fb_ct_le (cbm w2 h2 sh2 (fcl w2 h2)) (w2 * h2)
        rw [e1, e2] at this q5
        omega
      rw [e3, z_eq d1 d2 (by omega) (by omega)] at q4
      rw [e6, z_eq b1 b2 (by omega) (by omega)] at q8
      omega
    rw [e6, show (1 : Int32) = zI 1 from rfl, show (3 : Int32) = zI 3 from rfl, z_lt b1 b2 (by omega) (by omega), z_le b1 b2 (by omega) (by omega)]
    refine ⟨fun c1 => hm1 (fun w2 h2 sh2 mm g q => ?_) I J hr, fun c1 => ⟨fun c2 => ?_, fun c2 => hm1 (fun w2 h2 sh2 mm g q => ?_) I J hr⟩⟩
    · have := (same w2 h2 sh2 mm g q).2.2.2.2
      have := q.2.2.2.2.2.2.1
      omega
    · obtain ⟨gr, hgr⟩ : ∃ gr : Nat, z6 = (gr : Int) := ⟨z6.toNat, by omega⟩
      rw [ex, ey, ez, hgr]
      refine prepare_ok gk (fun I2 J2 o2 m2 f2 gr2 a2 v2 s2 => ⟨rfl, ?_⟩)
      have om2 : oMk I I2 J J2 := fun q hq => o2 q (by omega)
      have k2 := keep I2 J2 md om2 (by rw [m2]; exact r9)
      have hroom : fb_ct (sB J2 61) 128 = fb_ct (cbm w' h' sh' (fcl w' h')) (w' * h') := set_ct (w := w') (h := h') (by omega) s2 (fun i hi => by
        cases e : cbm w' h' sh' (fcl w' h') i
        · rfl
        · exact absurd (cbm_lt i e) (by omega))
      have hrl := fb_ct_le (cbm w' h' sh' (fcl w' h')) (w' * h')
      rw [e3, show (0 : Int32) = zI 0 from rfl, z_lt d1 d2 (by omega) (by omega)]
      refine ⟨fun c3 => hm1 (fun w2 h2 sh2 mm g q => ?_) I2 J2 k2, fun c3 => size_ok bits61 ⟨_, rfl, ?_⟩⟩
      · have := (same w2 h2 sh2 mm g q).2.2.2.1
        omega
      · rw [hroom, z_le d1 d2 (by omega) (by omega)]
        refine ⟨fun c4 => ?_, fun c4 => hm1 (fun w2 h2 sh2 mm g q => ?_) I2 J2 k2⟩
        · obtain ⟨mm, hmm⟩ : ∃ mm : Nat, z3 = (mm : Int) := ⟨z3.toNat, by omega⟩
          have hmle : mm ≤ fb_ct (cbm w' h' sh' (fcl w' h')) (w' * h') := by omega
          have hmk : mkOk x1 x2 x3 x4 x6 w' h' sh' mm gr := ⟨gk, ex, ey, ez, by rw [e3, hmm], hmle, by omega, by omega, by rw [e6, hgr]⟩
          obtain ⟨mk1, mk2⟩ := mkM_ok (w := w') (h := h') (sh := sh') hmle x5
          rw [hmm]
          refine e_X3_draw _ _ (fun y1 ey1 => ?_)
          rw [ey1]
          have dr := draw_ok (P := fun vr I4 J4 => vr = none ∧ call pgX zX3_mendToClear [.ref 46, .int (zI gr)] I4 J4 (fun vr I5 J5 => ∃ r3 : Int32, vr = some (.int r3) ∧ ((¬ r3 = 0 → call pgX zX1_start [.ref 1, .int (zI w'), .int (zI h'), .int (zI sh')] I5 J5 (fun vr I6 J6 => vr = none ∧ (call pgX zX0_copy [.ref 8, .ref 54] I6 J6 (fun vr I7 J7 => vr = none ∧ (call pgX zX8_forget [.ref 0] I7 J7 (fun vr I8 J8 => vr = none ∧ (P (some (.int (1))) I8 J8))))))) ∧ (r3 = 0 → P (some (.int (0))) I5 J5)))) gk (I0 := I2) gr2.1.2.2.2 (C := cbm w' h' sh' (fcl w' h')) cbm_lt mm (x5 &&& 2147483647) (fun _ => false) mm J2 (by rw [rmm_0]; exact hmle) (Nat.le_refl _) (by omega) (fun i hi => (v2 i hi).1) (fun i hi => by rw [rmm_0]; exact s2 i hi) (fun J3 o3 s3 => ⟨rfl, ?_⟩)
          · rw [Nat.sub_self] at dr
            exact dr
          · have om3 : oMk I I2 J J3 := om2.tr (fun q hq => ⟨rfl, o3 q (by omega) (by omega)⟩)
            have g3 : gridX 47 w' h' sh' I2 J3 := by
              unfold gridX xSz rowX rowB at gr2 ⊢
              rw [o3 (47 + 2) (by decide) (by decide), o3 (47 + 3) (by decide) (by decide)]
              exact gr2
            have v3 : vw 47 (mkM w' h' sh' mm x5) (fun i => decide (i < w' * h')) (opS (w' * h') (fun i => decide (i < w' * h')) (fun _ => false)) (fun _ => false) (fun _ => false) J3 := fun i hi => by
              have := v2 i hi
              refine ⟨s3 i hi, ?_, ?_, ?_, ?_⟩
              · rw [sB_of (o3 (47 + 8) (by decide) (by decide))]; exact this.2.1
              · rw [sB_of (o3 (47 + 9) (by decide) (by decide))]; exact this.2.2.1
              · rw [sB_of (o3 (47 + 10) (by decide) (by decide))]; exact this.2.2.2.1
              · rw [sB_of (o3 (47 + 11) (by decide) (by decide))]; exact this.2.2.2.2
            refine mendToClear_ok gk hc (by omega) (by omega) mk1 mk2 g3 v3 (fun i hi => by rw [sB_of (o3 53 (by decide) (by decide))]; exact a2 i hi) f2 (fun f' M' k' q hM' hk' I5 J5 o5 s5 e5 => ⟨_, rfl, fun _ => ?_, fun z => absurd z (by decide)⟩) (fun f' k' q hk' I5 J5 o5 e5 => ⟨_, rfl, fun z => absurd rfl z, fun _ => h0 w' h' sh' mm gr f' k' hmk q hk' I5 J5 (keep I5 J5 k' (om3.tr o5) e5)⟩)
            refine start_ok isBd1 gk (fun I6 J6 o6 g6 a6 v6 => ⟨rfl, copy_ok (bd_bits isBd1 (n := 7) (by decide) (by decide)) (bd_bits isBd47 (n := 7) (by decide) (by decide)) (fun J7 o7 s7 => ⟨rfl, x_forget (fun I8 J8 q1 q2 q3 q4 q5 q6 => ⟨rfl, ?_⟩)⟩)⟩)
            refine h1 w' h' sh' mm gr f' k' M' hmk q hM' hk' I8 J8 ⟨?_, fun i hi => ?_, fun i hi => ?_, q3, fun m hm => absurd hm (by omega), q4, fun i _ => q5 i, fun i _ => q6 i, ?_⟩
            · unfold gridX xSz rowX rowB at g6 ⊢
              rw [q1 (1 + 1) (by decide) (by decide), q1 (1 + 4) (by decide) (by decide), q1 (1 + 5) (by decide) (by decide), q2 (1 + 2) (by decide) (by decide), q2 (1 + 3) (by decide) (by decide), o7 (1 + 2) (by decide), o7 (1 + 3) (by decide)]
              exact g6
            · rw [sB_of (q2 7 (by decide) (by decide)), sB_of (o7 7 (by decide))]; exact a6 i hi
            · have := v6 i hi
              refine ⟨?_, ?_, ?_, ?_, ?_⟩
              · rw [sB_of (q2 (1 + 7) (by decide) (by decide)), s7 i, sB_of (o6.2 (47 + 7) (by omega))]; exact s5 i hi
              · rw [sB_of (q2 (1 + 8) (by decide) (by decide)), sB_of (o7 (1 + 8) (by decide))]; exact this.2.1
              · rw [sB_of (q2 (1 + 9) (by decide) (by decide)), sB_of (o7 (1 + 9) (by decide))]; exact this.2.2.1
              · rw [sB_of (q2 (1 + 10) (by decide) (by decide)), sB_of (o7 (1 + 10) (by decide))]; exact this.2.2.2.1
              · rw [sB_of (q2 (1 + 11) (by decide) (by decide)), sB_of (o7 (1 + 11) (by decide))]; exact this.2.2.2.2
            · rw [q1 46 (by decide) (by decide), o6.1 46 (by decide) (by decide) (by decide)]; exact e5
        · obtain ⟨q1, q2, q3, q4, q5⟩ := same w2 h2 sh2 mm g q
          have := q.2.2.2.2.2.1
          rw [q1, q2, q3] at this
          omega
    · have := (same w2 h2 sh2 mm g q).2.2.2.2
      have := q.2.2.2.2.2.2.2.1
      omega
end XMm
