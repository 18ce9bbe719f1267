/-! the class: undo, blank, edit, chord -/
section XM
variable {I : tg_I} {J : tg_J} {P : Option Value → tg_I → tg_J → Prop} {w h sh : Nat} {M H B F : Nat → Bool} {mv kd md : Nat} {hist : Nat → hS} {R T : Nat → Bool}
theorem opS_back {n i : Nat} (h1 : ∀ i, n ≤ i → H i = false) (h2 : ∀ i, H i = true → B i = false) : (decide (i < n) && !opS n H B i && !B i) = H i := by
  unfold opS
  by_cases c : i < n
  · cases e : H i
    · cases B i <;> simp [c]
    · simp [c, h2 i e]
  · simp [c, h1 i (by omega)]
theorem x_undo (ho : okD ((w, h, sh), (M, H, B, F), (mv, hist), (kd, R, T, md))) (hr : relX ((w, h, sh), (M, H, B, F), (mv, hist), (kd, R, T, md)) I J) (h0 : mv = 0 → P (some (.int (-2))) I J) (h1 : ∀ m, mv = m + 1 → ∀ I' J', relX ((w, h, sh), (M, hist m), (m, hist), (kd, R, T, md)) I' J' → P (some (.int 1)) I' J') : call pgX zX8_undo [.ref 0] I J P := by
  obtain ⟨r1, r2, r3, r4, r5, r6, r7, r8, r9⟩ := id hr
  obtain ⟨gk, oS, omv, oh, -⟩ := ho
  refine e_X8_undo (e_X4_takeBack _ isBd1 ?_)
  rw [r4, show (0 : Int32) = zI 0 from rfl, z_lt (by omega) (by omega) (by omega) (by omega)]
  refine ⟨fun c I1 ei => ?_, fun c => ⟨_, rfl, fun _ => h0 (by omega), fun c2 => absurd rfl c2⟩⟩
  obtain ⟨m, rfl⟩ : ∃ m, mv = m + 1 := ⟨mv - 1, by omega⟩
  have e15 : I1 15 1 = zI m := by
    rw [ei, u2_eq, show (1 : Int32) = zI 1 from rfl, z_sub]
    congr 1
    omega
  have eI : ∀ q, q ≠ 15 → I1 q = I q := fun q hq => by rw [ei, u2_other _ _ _ _ hq]
  rw [e15, show (6 : Int32) = zI 6 from rfl, show (1 : Int32) = zI 1 from rfl, show (2 : Int32) = zI 2 from rfl, show (3 : Int32) = zI 3 from rfl, show (4 : Int32) = zI 4 from rfl, show (5 : Int32) = zI 5 from rfl]
  simp only [z_mul, z_add]
  rw [show (m : Int) * 6 = ((6 * m : Nat) : Int) by omega, show ((6 * m : Nat) : Int) + 1 = ((6 * m + 1 : Nat) : Int) by omega, show ((6 * m : Nat) : Int) + 2 = ((6 * m + 2 : Nat) : Int) by omega, show ((6 * m : Nat) : Int) + 3 = ((6 * m + 3 : Nat) : Int) by omega, show ((6 * m : Nat) : Int) + 4 = ((6 * m + 4 : Nat) : Int) by omega, show ((6 * m : Nat) : Int) + 5 = ((6 * m + 5 : Nat) : Int) by omega]
  rw [z_in (by omega) (by omega), z_in (by omega) (by omega), z_in (by omega) (by omega), z_in (by omega) (by omega), z_in (by omega) (by omega), z_in (by omega) (by omega), z_cl (by omega), z_cl (by omega), z_cl (by omega), z_cl (by omega), z_cl (by omega), z_cl (by omega)]
  refine ⟨by omega, fun J1 e1 => ⟨by omega, fun J2 e2 => ⟨by omega, fun J3 e3 => ⟨by omega, fun J4 e4 => ⟨by omega, fun J5 e5 => ⟨by omega, fun J6 e6 => ?_⟩⟩⟩⟩⟩⟩
  have ho6 : ∀ q, q ≠ 10 → q ≠ 11 → q ≠ 12 → J6 q = J q := fun q h10 h11 h12 => by rw [e6, u2_other _ _ _ _ h12, e5, u2_other _ _ _ _ h12, e4, u2_other _ _ _ _ h11, e3, u2_other _ _ _ _ h11, e2, u2_other _ _ _ _ h10, e1, u2_other _ _ _ _ h10]
  have a0 : J6 10 0 = J 16 (6 * m) := by rw [e6, u2_ne _ _ (by decide), e5, u2_ne _ _ (by decide), e4, u2_ne _ _ (by decide), e3, u2_ne _ _ (by decide), e2, u2_ne1 _ _ _ _ (by decide), e1, u2_eq]
  have a1 : J6 10 1 = J 16 (6 * m + 1) := by rw [e6, u2_ne _ _ (by decide), e5, u2_ne _ _ (by decide), e4, u2_ne _ _ (by decide), e3, u2_ne _ _ (by decide), e2, u2_eq, e1, u2_ne _ _ (by decide)]
  have a2 : J6 11 0 = J 16 (6 * m + 2) := by rw [e6, u2_ne _ _ (by decide), e5, u2_ne _ _ (by decide), e4, u2_ne1 _ _ _ _ (by decide), e3, u2_eq, e2, u2_ne _ _ (by decide), e1, u2_ne _ _ (by decide)]
  have a3 : J6 11 1 = J 16 (6 * m + 3) := by rw [e6, u2_ne _ _ (by decide), e5, u2_ne _ _ (by decide), e4, u2_eq, e3, u2_ne _ _ (by decide), e2, u2_ne _ _ (by decide), e1, u2_ne _ _ (by decide)]
  have a4 : J6 12 0 = J 16 (6 * m + 4) := by rw [e6, u2_ne1 _ _ _ _ (by decide), e5, u2_eq, e4, u2_ne _ _ (by decide), e3, u2_ne _ _ (by decide), e2, u2_ne _ _ (by decide), e1, u2_ne _ _ (by decide)]
  have a5 : J6 12 1 = J 16 (6 * m + 5) := by rw [e6, u2_eq, e5, u2_ne _ _ (by decide), e4, u2_ne _ _ (by decide), e3, u2_ne _ _ (by decide), e2, u2_ne _ _ (by decide), e1, u2_ne _ _ (by decide)]
  obtain ⟨⟨p1, p2, p3, p4, p5⟩, -, -⟩ := oh m (by omega)
  have hx := r5 m (by omega)
  have b10 : ∀ i, i < 128 → sB J6 10 i = opS (w * h) (hist m).1 (hist m).2.1 i := fun i hi => by
    unfold sB
    rw [a0, a1]; exact (hx i hi).1
  have b11 : ∀ i, i < 128 → sB J6 11 i = (hist m).2.1 i := fun i hi => by
    unfold sB
    rw [a2, a3]; exact (hx i hi).2.1
  have b12 : ∀ i, i < 128 → sB J6 12 i = (hist m).2.2 i := fun i hi => by
    unfold sB
    rw [a4, a5]; exact (hx i hi).2.2
  refine copy_ok (k := 9) (k' := 7) (bd_bits isBd1 (n := 8) (by decide) (by decide)) (bd_bits isBd1 (n := 6) (by decide) (by decide)) (fun J7 o7 s7 => ⟨rfl, ?_⟩)
  refine leave_ok (k := 9) (k' := 10) (bd_bits isBd1 (n := 8) (by decide) (by decide)) (bd_bits isBd1 (n := 9) (by decide) (by decide)) (by decide) (fun J8 o8 s8 => ⟨rfl, ?_⟩)
  refine leave_ok (k := 9) (k' := 11) (bd_bits isBd1 (n := 8) (by decide) (by decide)) (bd_bits isBd1 (n := 10) (by decide) (by decide)) (by decide) (fun J9 o9 s9 => ⟨rfl, ?_⟩)
  refine ⟨_, rfl, fun c2 => absurd c2 ne_1_0, fun _ => ?_⟩
  have ho9 : ∀ q, q ≠ 9 → J9 q = J6 q := fun q hq => by rw [o9 q hq, o8 q hq, o7 q hq]
  have hv : bst 1 (w * h) M (hist m).1 (hist m).2.1 (hist m).2.2 J9 := fun i hi => by
    refine ⟨?_, ?_, ?_, ?_, ?_⟩
    · rw [show (1 + 7 : Nat) = 8 from rfl, sB_of (ho9 8 (by decide)), sB_of (ho6 8 (by decide) (by decide) (by decide))]; exact (r3 i hi).1
    · rw [show (1 + 8 : Nat) = 9 from rfl, s9 i hi, s8 i hi, s7 i, sB_of (o8 11 (by decide)), sB_of (o7 11 (by decide)), sB_of (o7 10 (by decide)), sB_of (ho6 7 (by decide) (by decide) (by decide)), r2 i hi, b10 i hi, b11 i hi]
      exact opS_back (fun i hi => (p1 i hi).1) p3
    · rw [show (1 + 9 : Nat) = 10 from rfl, sB_of (ho9 10 (by decide))]; exact b10 i hi
    · rw [show (1 + 10 : Nat) = 11 from rfl, sB_of (ho9 11 (by decide))]; exact b11 i hi
    · rw [show (1 + 11 : Nat) = 12 from rfl, sB_of (ho9 12 (by decide))]; exact b12 i hi
  refine h1 m rfl I1 J9 ?_
  have keepJ : ∀ q, q ≠ 9 → q ≠ 10 → q ≠ 11 → q ≠ 12 → J9 q = J q := fun q q9 q10 q11 q12 => (ho9 q q9).trans (ho6 q q10 q11 q12)
  refine ⟨?_, fun i hi => ?_, hv, e15, fun k hk => ?_, ?_, fun i hi => ?_, fun i hi => ?_, ?_⟩
  · unfold gridX xSz rowX rowB at r1 ⊢
    rw [eI 2 (by decide), eI 5 (by decide), eI 6 (by decide), keepJ 3 (by decide) (by decide) (by decide) (by decide), keepJ 4 (by decide) (by decide) (by decide) (by decide)]
    exact r1
  · rw [sB_of (keepJ 7 (by decide) (by decide) (by decide) (by decide))]; exact r2 i hi
  · unfold xHist
    rw [keepJ 16 (by decide) (by decide) (by decide) (by decide)]
    exact r5 k (by omega)
  · rw [eI 0 (by decide)]; exact r6
  · rw [sB_of (keepJ 62 (by decide) (by decide) (by decide) (by decide))]; exact r7 i hi
  · rw [sB_of (keepJ 63 (by decide) (by decide) (by decide) (by decide))]; exact r8 i hi
  · rw [eI 46 (by decide)]; exact r9
/-- what a board's start may change -/
def onlyStart (b : Nat) (I I' : tg_I) (J J' : tg_J) : Prop := (∀ q, q ≠ b + 1 → q ≠ b + 4 → q ≠ b + 5 → I' q = I q) ∧ ∀ q, (q < b + 2 ∨ b + 11 < q) → J' q = J q
theorem start_ok {b : Nat} (hb : isBd b) (g : gOk w h sh) (hp : ∀ I' J', onlyStart b I I' J J' → gridX b w h sh I' J' → (∀ i, i < 128 → sB J' (b + 6) i = decide (i < w * h)) → bst b (w * h) (fun _ => false) (fun i => decide (i < w * h)) (fun _ => false) (fun _ => false) J' → P none I' J') : call pgX zX1_start [.ref b, .int (zI w), .int (zI h), .int (zI sh)] I J P := by
  obtain ⟨hn1, hn2⟩ := mul_le100 g
  refine e_X1_start _ _ _ _ hb (lay_ok hb g (fun I1 J1 o1 g1 => ⟨rfl, clear_ok (bd_bits hb (by decide) (by decide)) (fun J2 o2 s2 => ⟨rfl, ?_⟩)⟩))
  have grid_keep : ∀ J', (∀ q, q ≠ b + 6 → J' q = J1 q) → gridX b w h sh I1 J' := fun J' hJ => by
    unfold gridX xSz rowX rowB at g1 ⊢
    rw [hJ (b + 2) (by omega), hJ (b + 3) (by omega)]
    exact g1
  have key := up_loop (L := fun k => ∀ Ja, (∀ q, q ≠ b + 6 → Ja q = J1 q) → (∀ i, i < 128 → sB Ja (b + 6) i = decide (i < k)) → l_X1_start_20 I1 Ja P b (zI k)) (w * h) ?_ ?_ 0 (Nat.zero_le _) J2 o2 (fun i _ => by rw [s2 i]; simp)
  · exact key
  · intro Ja oa sa
    refine s_X1_start_20 _ _ hb ⟨fun _ => ?_, fun c => absurd ?_ c⟩
    · refine clear_ok (bd_bits hb (by decide) (by decide)) (fun J3 o3 s3 => ⟨rfl, ?_⟩)
      refine hideAll_ok (M := fun _ => false) (H := sB J3 (b + 8)) (O := sB J3 (b + 9)) (B := sB J3 (b + 10)) (F := sB J3 (b + 11)) (A := fun i => decide (i < w * h)) hb (fun i hi => ⟨s3 i, rfl, rfl, rfl, rfl⟩) (fun i hi => by rw [sB_of (o3 (b + 6) (by omega))]; exact sa i hi) (fun J4 o4 v4 => ⟨rfl, ?_⟩)
      have k4 : ∀ q, q ≠ b + 8 → q ≠ b + 9 → q ≠ b + 10 → q ≠ b + 11 → q ≠ b + 7 → q ≠ b + 6 → J4 q = J1 q := fun q q8 q9 q10 q11 q7 q6 => by rw [o4.2 q q8 q9 q10 q11, o3 q q7, oa q q6]
      refine hp I1 J4 ⟨o1.1, fun q hq => ?_⟩ ?_ (fun i hi => ?_) (vw_cong v4 (fun _ _ => rfl) (fun _ _ => rfl) (fun i hi => ?_) (fun _ _ => rfl) (fun _ _ => rfl))
      · rw [k4 q (by omega) (by omega) (by omega) (by omega) (by omega) (by omega)]
        exact o1.2 q (by omega) (by omega)
      · unfold gridX xSz rowX rowB at g1 ⊢
        rw [k4 (b + 2) (by omega) (by omega) (by omega) (by omega) (by omega) (by omega), k4 (b + 3) (by omega) (by omega) (by omega) (by omega) (by omega) (by omega)]
        exact g1
      · rw [sB_of (o4.2 (b + 6) (by omega) (by omega) (by omega) (by omega)), sB_of (o3 (b + 6) (by omega))]
        exact sa i hi
      · simp [opS]
    · rw [g1.1.2.2.2]; exact Int32.le_refl _
  · intro k hk ih Ja oa sa
    refine s_X1_start_20 _ _ hb ⟨fun c => absurd c ?_, fun _ => add_ok (bd_bits hb (by decide) (by decide)) (by omega) (fun J3 o3 s3 => ⟨rfl, ?_⟩)⟩
    · rw [g1.1.2.2.2, z_le (by omega) (by omega) (by omega) (by omega)]; omega
    · rw [show (1 : Int32) = zI 1 from rfl, z_add]
      refine ih J3 (fun q hq => (o3 q hq).trans (oa q hq)) (fun i hi => ?_)
      rw [s3 i hi, sa i hi]
      by_cases e : i = k
      · simp [e]
      · simp [e]
        omega
theorem x_forget (hp : ∀ I' J', (∀ q, q ≠ 0 → q ≠ 15 → I' q = I q) → (∀ q, q ≠ 62 → q ≠ 63 → J' q = J q) → I' 15 1 = 0 → I' 0 7 = 0 → (∀ i, sB J' 62 i = false) → (∀ i, sB J' 63 i = false) → P none I' J') : call pgX zX8_forget [.ref 0] I J P := by
  refine e_X8_forget (fun I1 e1 => clear_ok bits63 (fun J1 o1 s1 => ⟨rfl, e_X8_forgetHint (fun I2 e2 => clear_ok bits62 (fun J2 o2 s2 => ⟨rfl, rfl, ?_⟩))⟩))
  refine hp I2 J2 (fun q h0 h15 => by rw [e2, u2_other _ _ _ _ h0, e1, u2_other _ _ _ _ h15]) (fun q h62 h63 => (o2 q h62).trans (o1 q h63)) ?_ ?_ s2 (fun i => ?_)
  · rw [e2, u2_ne _ _ (by decide), e1, u2_eq]
  · rw [e2, u2_eq]
  · rw [sB_of (o2 63 (by decide))]; exact s1 i
theorem x_blank (ho : okD ((w, h, sh), (M, H, B, F), (mv, hist), (kd, R, T, md))) (hr : relX ((w, h, sh), (M, H, B, F), (mv, hist), (kd, R, T, md)) I J) (x y z : Int32) (h0 : ¬ (∃ w' h' sh' : Nat, gOk w' h' sh' ∧ x = zI w' ∧ y = zI h' ∧ z = zI sh') → P (some (.int (-1))) I J) (h1 : ∀ w' h' sh' : Nat, gOk w' h' sh' → x = zI w' → y = zI h' → z = zI sh' → ∀ I' J', relX ((w', h', sh'), (fun _ => false, fun i => decide (i < w' * h'), fun _ => false, fun _ => false), (0, hist), (0, fun _ => false, fun _ => false, md)) I' J' → P (some (.int (zI (w' * h' : Nat)))) I' J') : call pgX zX8_blank [.ref 0, .int x, .int y, .int z] I J P := by
  obtain ⟨r1, r2, r3, r4, r5, r6, r7, r8, r9⟩ := hr
  refine e_X8_blank _ _ _ (fits_ok x y z ⟨_, rfl, ?_⟩)
  rw [bi_0]
  refine ⟨fun c => ?_, fun c => h0 (fun q => ?_)⟩
  · have c : 1 ≤ x.toInt ∧ x.toInt ≤ 10 ∧ 1 ≤ y.toInt ∧ y.toInt ≤ 10 ∧ 0 ≤ z.toInt ∧ z.toInt ≤ 3 ∧ (z.toInt = 3 → y.toInt % 2 = 0) := by simpa using c
    obtain ⟨w', hw'⟩ := Int.eq_ofNat_of_zero_le (show 0 ≤ x.toInt by omega)
    obtain ⟨h', hh'⟩ := Int.eq_ofNat_of_zero_le (show 0 ≤ y.toInt by omega)
    obtain ⟨sh', hs'⟩ := Int.eq_ofNat_of_zero_le (show 0 ≤ z.toInt by omega)
    have ex : x = zI w' := by rw [← hw']; exact (fb_asI x).symm
    have ey : y = zI h' := by rw [← hh']; exact (fb_asI y).symm
    have ez : z = zI sh' := by rw [← hs']; exact (fb_asI z).symm
    have g : gOk w' h' sh' := ⟨by omega, by omega, by omega, by omega, by omega, fun e => by have := c.2.2.2.2.2.2 (by omega); omega⟩
    have k1 := h1 w' h' sh' g ex ey ez
    clear h1 h0
    rw [ex, ey, ez]
    refine start_ok isBd1 g (fun I2 J2 o2 g2 a2 v2 => ⟨rfl, x_forget (fun I3 J3 q1 q2 q3 q4 q5 q6 => ⟨rfl, ?_⟩)⟩)
    rw [q1 2 (by decide) (by decide), show I2 2 7 = zI (w' * h' : Nat) from g2.1.2.2.2]
    refine k1 I3 J3 ⟨?_, fun i hi => ?_, fun i hi => ?_, q3, fun m hm => absurd hm (by omega), q4, fun i _ => q5 i, fun i _ => q6 i, ?_⟩
    · unfold gridX xSz rowX rowB at g2 ⊢
      rw [q1 2 (by decide) (by decide), q1 5 (by decide) (by decide), q1 6 (by decide) (by decide), q2 3 (by decide) (by decide), q2 4 (by decide) (by decide)]
      exact g2
    · rw [sB_of (q2 7 (by decide) (by decide))]; exact a2 i hi
    · have := v2 i hi
      rw [sB_of (q2 8 (by decide) (by decide)), sB_of (q2 9 (by decide) (by decide)), sB_of (q2 10 (by decide) (by decide)), sB_of (q2 11 (by decide) (by decide)), sB_of (q2 12 (by decide) (by decide))]
      exact this
    · rw [q1 46 (by decide) (by decide), o2.1 46 (by decide) (by decide) (by decide)]; exact r9
  · obtain ⟨w', h', sh', ⟨g1, g2, g3, g4, g5, g6⟩, ex, ey, ez⟩ := q
    rw [ex, ey, ez, z_toInt (by omega) (by omega), z_toInt (by omega) (by omega), z_toInt (by omega) (by omega), decide_eq_true (by omega)] at c
    cases c
end XM
