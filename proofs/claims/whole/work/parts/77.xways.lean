/-! the class: ways, with -/
theorem sT_out (pl : Bool) (W : Nat → Nat → Nat) {u u' : Int} : ∀ (k : Nat), (∀ j : Nat, j < k → (j : Int) ≠ u ∧ (j : Int) ≠ u') → ∀ t, sT pl W u k t = sT pl W u' k t
  | 0, _, t => rfl
  | k + 1, h, t => by
    have ih := sT_out pl W k (fun j hj => h j (by omega))
    have h1 := h k (by omega)
    show (if (k : Int) = u then sT pl W u k t else if pl then cvp (sT pl W u k) (W k) t else cv (sT pl W u k) (W k) t) = (if (k : Int) = u' then sT pl W u' k t else if pl then cvp (sT pl W u' k) (W k) t else cv (sT pl W u' k) (W k) t)
    rw [if_neg h1.1, if_neg h1.2, cvp_cong (T' := sT pl W u' k) (V' := W k) (fun s _ => ih s) (fun _ _ => rfl), cv_cong (T' := sT pl W u' k) (V' := W k) (fun s _ => ih s) (fun _ _ => rfl)]
theorem flT_cong {T T' : Nat → Nat} {n : Nat} {mm : Int} (h : ∀ s, T s = T' s) : flT T n mm = flT T' n mm := by rw [funext h]
theorem ls_eq {w h sh : Nat} {H N : Nat → Bool} : fb_ct H (w * h) = fb_ct (bdr w h sh H N) (w * h) + lsn w h sh H N := by
  unfold lsn
  rw [← fb_ct_or (fun k hk q => by
    simp only [Bool.and_eq_true, Bool.not_eq_true'] at q
    rw [q.1] at q; cases q.2.2)]
  refine fb_ct_cong (fun k hk => ?_)
  cases e : bdr w h sh H N k
  · simp
  · rw [(bdr_iff.mp e).1]; rfl
section XY
variable {I : tg_I} {J : tg_J} {P : Option Value → tg_I → tg_J → Prop} {w h sh b : Nat} {M H B F N : Nat → Bool} {mv kd md : Nat} {hist : Nat → hS} {R T : Nat → Bool}
theorem set_ct {k : Nat} {S : Nat → Bool} (hn : w * h ≤ 128) (hS : ∀ i, i < 128 → sB J k i = S i) (hz : ∀ i, w * h ≤ i → S i = false) : fb_ct (sB J k) 128 = fb_ct S (w * h) := by
  rw [fb_ct_cong hS]
  exact ct_ext hn (fun k h1 _ => hz k h1)
theorem xml (hb : isBd b) (gk : gOk w h sh) (v : bst b (w * h) M H B F J) (ok : okS (w * h) M H B F) (hp : P (some (.int (zI (mlN (w * h) M H : Nat)))) I J) : call pgX zX1_minesLeft [.ref b] I J P := by
  obtain ⟨hn1, hn2⟩ := mul_le100 gk
  refine minesLeft_ok hb ?_
  rw [set_ct (J := J) (S := M) (by omega) (fun i hi => (v i hi).1) (fun i hi => (ok.1 i hi).2.2), set_ct (J := J) (S := B) (by omega) (fun i hi => (v i hi).2.2.2.1) (fun i hi => (ok.1 i hi).2.1), ml_eq ok, show ((fb_ct B (w * h) + mlN (w * h) M H : Nat) : Int) - (fb_ct B (w * h) : Nat) = (mlN (w * h) M H : Nat) by omega]
  exact hp
theorem xsz (gk : gOk w h sh) (v : bst b (w * h) M H B F J) (ok : okS (w * h) M H B F) (x1 : ∀ i, i < 128 → sB J 28 i = bdr w h sh H N i) : zI (fb_ct (sB J (b + 8)) 128 : Nat) - zI (fb_ct (sB J 28) 128 : Nat) = zI (lsn w h sh H N : Nat) := by
  obtain ⟨hn1, hn2⟩ := mul_le100 gk
  have hS := bdr_lt (w := w) (h := h) (sh := sh) (N := N) (fun i hi => (ok.1 i hi).1)
  rw [set_ct (w := w) (h := h) (J := J) (S := H) (by omega) (fun i hi => (v i hi).2.1) (fun i hi => (ok.1 i hi).1), set_ct (w := w) (h := h) (J := J) (S := bdr w h sh H N) (by omega) x1 (fun i hi => by
    cases e : bdr w h sh H N i
    · rfl
    · exact absurd (hS i e) (by omega)), z_sub, ls_eq (sh := sh) (N := N)]
  congr 1
  omega
def oJc (J J' : tg_J) : Prop := ∀ q, q ≠ 36 → q ≠ 37 → q ≠ 38 → J' q = J q
theorem oJc.out {I : tg_I} {J J' : tg_J} (o : oJc J J') : outP I I J J' := fun q hq => ⟨rfl, o q (by omega) (by omega) (by omega)⟩
theorem wWx (gk : gOk w h sh) (hg : gdH w h sh H N = true) (hc : xct w h sh M H N I) : ∀ p m, p < npn w h sh H N → m < 13 → I 34 (13 * p + m) = zI (wW w h sh M H N p m) ∧ wW w h sh M H N p m ≤ 2 ^ 14 := fun p m h1 h2 => ⟨hc.1 p m h1 h2, wW_le hg h1 m⟩
theorem countAll_ok (hb : isBd b) (gk : gOk w h sh) (v : bst b (w * h) M H B F J) (ok : okS (w * h) M H B F) (hg : gdH w h sh H N = true) (hx : xpl w h sh H N I J) (hc : xct w h sh M H N I) (hp : ∀ J', oJc J J' → P (some (.int (zI (vWy w h sh M H N : Nat)))) I J') : call pgX zX5_countAll [.ref 17, .ref b] I J P := by
  obtain ⟨x1, x2, x3, x4, x5⟩ := hx
  have hnp := np_le (w := w) (h := h) (sh := sh) (H := H) (N := N) gk
  have hls := ls_le (w := w) (h := h) (sh := sh) (H := H) (N := N) gk
  have hml := ml_le (w := w) (h := h) (sh := sh) (M := M) (H := H) gk
  refine e_X5_countAll _ hb ?_
  rw [x2]
  refine countWithout_ok x2 hnp (wWx gk hg hc) ⟨by omega, by omega⟩ (fun J1 o1 n1 => ⟨rfl, ?_⟩)
  have v1 : bst b (w * h) M H B F J1 := outP.bst (I := I) (I1 := I) hb (fun q hq => ⟨rfl, o1 q (by omega) (by omega)⟩) v
  have x11 : ∀ i, i < 128 → sB J1 28 i = bdr w h sh H N i := fun i hi => by rw [sB_of (o1 28 (by decide) (by decide))]; exact x1 i hi
  refine size_ok (bd_bits hb (by decide) (by decide)) ⟨_, rfl, size_ok bits28 ⟨_, rfl, ?_⟩⟩
  rw [xsz gk v1 ok x11]
  refine chooseFrom_ok hls (fun J2 o2 c2 => ⟨rfl, ?_⟩)
  have v2 : bst b (w * h) M H B F J2 := outP.bst (I := I) (I1 := I) hb (fun q hq => ⟨rfl, o2 q (by omega)⟩) v1
  refine xml hb gk v2 ok ⟨_, rfl, fill_ok (T := sT false (wW w h sh M H N) (npn w h sh H N : Nat) (npn w h sh H N)) (fun s hs => by rw [o2 36 (by decide)]; exact n1 s hs) (fun s => sT_lt _ _ _ _ _) c2 (by omega) (by omega) ⟨_, rfl, ?_⟩⟩
  rw [lN_i, ← z_nat, flT_cong (T' := sT false (wW w h sh M H N) (-1) (npn w h sh H N)) (fun s => sT_out false _ _ (fun j hj => ⟨by omega, by omega⟩) s)]
  exact hp J2 (fun q a b c => (o2 q c).trans (o1 q a b))
theorem countHolding_ok (hb : isBd b) (gk : gOk w h sh) (v : bst b (w * h) M H B F J) (ok : okS (w * h) M H B F) (hg : gdH w h sh H N = true) (hx : xpl w h sh H N I J) (hc : xct w h sh M H N I) {a : Nat} (ha : a < w * h) (hHa : H a = true) (hp : ∀ J', oJc J J' → P (some (.int (zI (vWi w h sh M H N a : Nat)))) I J') : call pgX zX5_countHolding [.ref 17, .ref b, .int (zI a)] I J P := by
  obtain ⟨hn1, hn2⟩ := mul_le100 gk
  obtain ⟨x1, x2, x3, x4, x5⟩ := hx
  have hPP : PP = 1000000007 := rfl
  have hnp := np_le (w := w) (h := h) (sh := sh) (H := H) (N := N) gk
  have hls := ls_le (w := w) (h := h) (sh := sh) (H := H) (N := N) gk
  have hml := ml_le (w := w) (h := h) (sh := sh) (M := M) (H := H) gk
  have hS := bdr_lt (w := w) (h := h) (sh := sh) (N := N) (fun i hi => (ok.1 i hi).1)
  refine e_X5_countHolding _ _ hb (size_ok (bd_bits hb (by decide) (by decide)) ⟨_, rfl, size_ok bits28 ⟨_, rfl, xml hb gk v ok ⟨_, rfl, has_ok bits28 (by omega) ⟨_, rfl, ?_⟩⟩⟩⟩)
  rw [xsz gk v ok x1, x1 a (by omega), bi_0]
  unfold vWi at hp
  cases eb : bdr w h sh H N a
  · rw [eb, if_neg (by simp)] at hp
    have hl1 : 0 < lsn w h sh H N := fb_ct_pos.mpr ⟨a, ha, by rw [hHa, eb]; rfl⟩
    refine ⟨fun c => absurd rfl c, fun _ => ?_⟩
    rw [x2]
    refine countWithout_ok x2 hnp (wWx gk hg hc) ⟨by omega, by omega⟩ (fun J1 o1 n1 => ⟨rfl, ?_⟩)
    rw [show (1 : Int32) = zI 1 from rfl, z_sub, z_sub, show ((lsn w h sh H N : Nat) : Int) - 1 = ((lsn w h sh H N - 1 : Nat) : Int) by omega]
    refine chooseFrom_ok (by omega) (fun J2 o2 c2 => ⟨rfl, ?_⟩)
    refine fill_ok (T := sT false (wW w h sh M H N) (npn w h sh H N : Nat) (npn w h sh H N)) (fun s hs => by rw [o2 36 (by decide)]; exact n1 s hs) (fun s => sT_lt _ _ _ _ _) c2 (by omega) (by omega) ⟨_, rfl, ?_⟩
    rw [lN_i, ← z_nat, flT_cong (T' := sT false (wW w h sh M H N) (-1) (npn w h sh H N)) (fun s => sT_out false _ _ (fun j hj => ⟨by omega, by omega⟩) s)]
    exact hp J2 (fun q a b c => (o2 q c).trans (o1 q a b))
  · rw [eb, if_pos rfl, flT_cv (by omega)] at hp
    have hpt' : ptn w h sh H N a < npn w h sh H N := ptN_lt (ajw_sym (w := w) (h := h) (sh := sh) (N := N)) hS eb
    refine ⟨fun _ => ?_, fun c => (by cases c)⟩
    rw [z_in (by omega) (by omega), z_cl (by omega), x5 a eb]
    refine ⟨by omega, countWithout_ok x2 hnp (wWx gk hg hc) ⟨by omega, by omega⟩ (fun J1 o1 n1 => ⟨rfl, chooseFrom_ok hls (fun J2 o2 c2 => ⟨rfl, ?_⟩)⟩)⟩
    have n2 : ∀ s, s ≤ 100 → J2 36 s = lN (sT false (wW w h sh M H N) (ptn w h sh H N a : Nat) (npn w h sh H N) s) := fun s hs => by rw [o2 36 (by decide)]; exact n1 s hs
    have hTl := fun s => sT_lt false (wW w h sh M H N) (ptn w h sh H N a : Nat) (npn w h sh H N) s
    generalize sT false (wW w h sh M H N) (ptn w h sh H N a : Nat) (npn w h sh H N) = T at *
    have key := up_loop (L := fun m => l_X5_countHolding_79 I J2 P (zI a) (zI (mlN (w * h) M H : Nat)) (lN (fb_sm (fun m => wZ w h sh M H N a m * flT T (lsn w h sh H N) ((mlN (w * h) M H : Nat) - m)) m % PP)) (zI m)) 13 ?_ ?_ 0 (Nat.zero_le _)
    · exact key
    · refine s_X5_countHolding_79 _ _ _ _ ⟨fun _ => ?_, fun c => absurd (Int32.le_refl _) c⟩
      rw [lN_i, ← z_nat]
      exact hp J2 (fun q a b c => (o2 q c).trans (o1 q a b))
    · intro m hm ih
      have q1 := wZ_le (w := w) (h := h) (sh := sh) (M := M) (H := H) (N := N) a m
      have q2 := wW_le (M := M) hg hpt' m
      have hcell : I 35 (13 * a + m) = zI (wZ w h sh M H N a m : Nat) := hc.2 a m eb hm
      have hfl := flT_lt T (lsn w h sh H N) ((mlN (w * h) M H : Nat) - m)
      have hcur : fb_sm (fun m => wZ w h sh M H N a m * flT T (lsn w h sh H N) ((mlN (w * h) M H : Nat) - m)) m % PP < PP := Nat.mod_lt _ (by decide)
      have hprod : wZ w h sh M H N a m * flT T (lsn w h sh H N) ((mlN (w * h) M H : Nat) - m) < 2 ^ 60 := mulP (by rw [hPP]; omega) hfl
      have ha2 : fb_sm (fun m => wZ w h sh M H N a m * flT T (lsn w h sh H N) ((mlN (w * h) M H : Nat) - m)) (m + 1) % PP = (fb_sm (fun m => wZ w h sh M H N a m * flT T (lsn w h sh H N) ((mlN (w * h) M H : Nat) - m)) m % PP + wZ w h sh M H N a m * flT T (lsn w h sh H N) ((mlN (w * h) M H : Nat) - m)) % PP := by rw [fb_sm_succ, Nat.mod_add_mod]
      rw [ha2] at ih
      refine s_X5_countHolding_79 _ _ _ _ ?_
      rw [show (13 : Int32) = zI (13 : Nat) from rfl, z_le (by omega) (by omega) (by omega) (by omega), z_mul, z_add, show (a : Int) * ((13 : Nat) : Int) + (m : Int) = ((13 * a + m : Nat) : Int) by omega, z_in (by omega) (by omega), z_cl (by omega), hcell, z_s m]
      refine ⟨fun c => absurd c (by omega), fun _ => ⟨by omega, fun x1 ex => ?_⟩⟩
      rw [ex, show (0 : Int32) = zI 0 from rfl, z_le (by omega) (by omega) (by omega) (by omega), z_sub]
      refine ⟨fun c => ?_, fun c => fill_ok n2 hTl c2 (by omega) (by omega) ⟨_, rfl, fun y1 e1 => ?_⟩⟩
      · rw [show wZ w h sh M H N a m = 0 by omega, Nat.zero_mul, Nat.add_zero, Nat.mod_mod] at ih
        exact ih
      · rw [zI_l (by omega), lN_mul, lN_add, l_rem (by omega)] at e1
        rw [e1]
        exact ih
theorem relX_P {I' : tg_I} {J' : tg_J} (hr : relX ((w, h, sh), (M, H, B, F), (mv, hist), (kd, R, T, md)) I J) (o : ∀ q, q < 17 ∨ 46 ≤ q → I' q = I q ∧ J' q = J q) : relX ((w, h, sh), (M, H, B, F), (mv, hist), (kd, R, T, md)) I' J' := by
  obtain ⟨r1, r2, r3, r4, r5, r6, r7, r8, r9⟩ := hr
  have oI : ∀ q, q < 17 ∨ 46 ≤ q → I' q = I q := fun q hq => (o q hq).1
  have oJ : ∀ q, q < 17 ∨ 46 ≤ q → J' q = J q := fun q hq => (o q hq).2
  refine ⟨?_, fun i hi => ?_, fun i hi => ?_, ?_, fun m hm => ?_, ?_, fun i hi => ?_, fun i hi => ?_, ?_⟩
  · unfold gridX xSz rowX rowB at *
    rw [oI (1 + 1) (by omega), oI (1 + 4) (by omega), oI (1 + 5) (by omega), oJ (1 + 2) (by omega), oJ (1 + 3) (by omega)]
    exact r1
  · rw [sB_of (oJ 7 (by omega))]; exact r2 i hi
  · have := r3 i hi
    rw [sB_of (oJ (1 + 7) (by omega)), sB_of (oJ (1 + 8) (by omega)), sB_of (oJ (1 + 9) (by omega)), sB_of (oJ (1 + 10) (by omega)), sB_of (oJ (1 + 11) (by omega))]
    exact this
  · rw [oI 15 (by omega)]; exact r4
  · unfold xHist
    rw [oJ 16 (by omega)]
    exact r5 m hm
  · rw [oI 0 (by omega)]; exact r6
  · rw [sB_of (oJ 62 (by omega))]; exact r7 i hi
  · rw [sB_of (oJ 63 (by omega))]; exact r8 i hi
  · rw [oI 46 (by omega)]; exact r9
theorem outP.rel {I' : tg_I} {J' : tg_J} (o : outP I I' J J') : ∀ q, q < 17 ∨ 46 ≤ q → I' q = I q ∧ J' q = J q := fun q hq => o q (by omega)
theorem xpl_St {I' : tg_I} {J' : tg_J} (o : oSt I I') (e28 : J' 28 = J 28) (hx : xpl w h sh H N I J) : xpl w h sh H N I' J' := by
  obtain ⟨x1, x2, x3, x4, x5⟩ := hx
  have e31 : I' 31 = I 31 := o 31 (by decide) (by decide) (by decide) (by decide) (by decide) (by decide) (by decide) (by decide) (by decide) (by decide)
  refine ⟨fun i hi => by rw [sB_of e28]; exact x1 i hi, ?_, ?_, fun p hp => ?_, ?_⟩
  · rw [o 17 (by decide) (by decide) (by decide) (by decide) (by decide) (by decide) (by decide) (by decide) (by decide) (by decide)]; exact x2
  · rw [o 32 (by decide) (by decide) (by decide) (by decide) (by decide) (by decide) (by decide) (by decide) (by decide) (by decide)]; exact x3
  · obtain ⟨L, l1, l2⟩ := x4 p hp
    exact ⟨L, l1, fun j x hx => by rw [e31]; exact l2 j x hx⟩
  · rw [o 33 (by decide) (by decide) (by decide) (by decide) (by decide) (by decide) (by decide) (by decide) (by decide) (by decide)]; exact x5
/-- gather and study -/
theorem gatherStudy (hb : isBd b) (gk : gOk w h sh) (g : gridX b w h sh I J) (v : bst b (w * h) M H B F J) (ok : okS (w * h) M H B F) (h0 : gdH w h sh H (opS (w * h) H B) = false → ∀ I' J', gfr I I' J J' → P (some (.int 0)) I' J') (h1 : gdH w h sh H (opS (w * h) H B) = true → ∀ I' J', gfr I I' J J' → (∀ Q : Option Value → tg_I → tg_J → Prop, (∀ I2, outP I I2 J J' → oSt I' I2 → gridX b w h sh I2 J' → bst b (w * h) M H B F J' → xpl w h sh H (opS (w * h) H B) I2 J' → xct w h sh M H (opS (w * h) H B) I2 → Q none I2 J') → call pgX zX5_study [.ref 17, .ref b] I' J' Q) → P (some (.int 1)) I' J') : call pgX zX5_gather [.ref 17, .ref b] I J P := by
  refine gather_ok hb gk g v ok (fun I1 J1 o1 e x1 => h1 e I1 J1 o1 (fun Q hq => ?_)) (fun I1 J1 o1 e => h0 e I1 J1 o1)
  have g1 := o1.out.grid hb g
  have v1 := o1.out.bst hb v
  refine study_ok hb gk g1 v1 ok rfl e x1 (fun I2 o2 c2 => ?_)
  have ou : outP I I2 J J1 := o1.out.tr (J1 := J1) o2.out
  exact hq I2 ou o2 (ou.grid hb g) v1 (xpl_St o2 rfl x1) c2
theorem x_ways (ho : okD ((w, h, sh), (M, H, B, F), (mv, hist), (kd, R, T, md))) (hr : relX ((w, h, sh), (M, H, B, F), (mv, hist), (kd, R, T, md)) I J) (h0 : gdH w h sh H (opS (w * h) H B) = false → ∀ I' J', relX ((w, h, sh), (M, H, B, F), (mv, hist), (kd, R, T, md)) I' J' → P (some (.int (-3))) I' J') (h1 : gdH w h sh H (opS (w * h) H B) = true → ∀ I' J', relX ((w, h, sh), (M, H, B, F), (mv, hist), (kd, R, T, md)) I' J' → P (some (.int (zI (vWy w h sh M H (opS (w * h) H B) : Nat)))) I' J') : call pgX zX8_ways [.ref 0] I J P := by
  obtain ⟨gk, ok, -⟩ := ho
  refine e_X8_ways (gatherStudy isBd1 gk hr.1 hr.2.2.1 ok (fun e I1 J1 o1 => ⟨_, rfl, fun c => absurd rfl c, fun _ => h0 e I1 J1 (relX_P hr o1.out.rel)⟩) (fun e I1 J1 o1 st => ⟨_, rfl, fun _ => st _ (fun I2 ou o2 g2 v2 x2 c2 => ⟨rfl, countAll_ok isBd1 gk v2 ok e x2 c2 (fun J3 o3 => ⟨_, rfl, h1 e I2 J3 (relX_P hr ?_)⟩)⟩), fun c => absurd c ne_1_0⟩))
  exact outP.rel (ou.tr o3.out)
theorem x_with (ho : okD ((w, h, sh), (M, H, B, F), (mv, hist), (kd, R, T, md))) (hr : relX ((w, h, sh), (M, H, B, F), (mv, hist), (kd, R, T, md)) I J) (x : Int32) (hm1 : ¬ inC (w * h) x → P (some (.int (-1))) I J) (hm2 : ∀ a : Nat, a < w * h → x = zI a → H a = false → P (some (.int (-2))) I J) (h0 : ∀ a : Nat, a < w * h → x = zI a → H a = true → gdH w h sh H (opS (w * h) H B) = false → ∀ I' J', relX ((w, h, sh), (M, H, B, F), (mv, hist), (kd, R, T, md)) I' J' → P (some (.int (-3))) I' J') (h1 : ∀ a : Nat, a < w * h → x = zI a → H a = true → gdH w h sh H (opS (w * h) H B) = true → ∀ I' J', relX ((w, h, sh), (M, H, B, F), (mv, hist), (kd, R, T, md)) I' J' → P (some (.int (zI (vWi w h sh M H (opS (w * h) H B) a : Nat)))) I' J') : call pgX zX8_with [.ref 0, .int x] I J P := by
  obtain ⟨gk, ok, -⟩ := ho
  obtain ⟨hn1, hn2⟩ := mul_le100 gk
  refine e_X8_with _ (xholds hr.1.1.2.2.2 hn2 x (fun a ha hx => ⟨_, rfl, fun _ => ?_, fun c => absurd c ne_1_0⟩) (fun c => ⟨_, rfl, fun c2 => absurd rfl c2, fun _ => hm1 c⟩))
  have hHa := (hr.2.2.1 a (by omega)).2.1
  rw [hx]
  refine has_ok (k := 9) (bd_bits isBd1 (n := 8) (by decide) (by decide)) (by omega) ⟨_, rfl, ?_⟩
  rw [show sB J 9 a = H a from hHa, bi_0]
  refine ⟨fun c => ?_, fun c => hm2 a ha hx c⟩
  have cH : H a = true := by simpa using c
  refine gatherStudy isBd1 gk hr.1 hr.2.2.1 ok (fun e I1 J1 o1 => ⟨_, rfl, fun c => absurd rfl c, fun _ => h0 a ha hx cH e I1 J1 (relX_P hr o1.out.rel)⟩) (fun e I1 J1 o1 st => ⟨_, rfl, fun _ => st _ (fun I2 ou o2 g2 v2 x2 c2 => ⟨rfl, countHolding_ok isBd1 gk v2 ok e x2 c2 ha cH (fun J3 o3 => ⟨_, rfl, h1 a ha hx cH e I2 J3 (relX_P hr ?_)⟩)⟩), fun c => absurd c ne_1_0⟩)
  exact outP.rel (ou.tr o3.out)
end XY
