/-! the reference: take, undo, blank, edit, chord -/
section MM
variable {I : tg_I} {J : tg_J} {P : Option Value → tg_I → tg_J → Prop} {w h sh : Nat} {M H B F : Nat → Bool} {mv kd md : Nat} {hist : Nat → hS} {R T : Nat → Bool}
theorem m_take (hr : relM ((w, h, sh), (M, H, B, F), (mv, hist), (kd, R, T, md)) I) (hp : ∀ I', relM ((w, h, sh), (M, H, B, F), (mv, hist), (kd, R, R, md)) I' → P (some (.int (zI (fb_ct R 100 : Nat)))) I' J) : call pgM zX9_take [.ref 0] I J P := by
  obtain ⟨r1, r2, r3, r4, r5, r6, r7⟩ := id hr
  refine e_X9_take ?_
  have key := up_loop (L := fun k => ∀ I1, onlyI 10 I I1 → (∀ i, i < k → I1 10 i = bi (R i)) → l_X9_take_4 I1 J P (zI (fb_ct R (if k ≤ 100 then k else 100) : Nat)) (zI k)) 101 ?_ ?_ 0 (Nat.zero_le _) I (fun _ _ => rfl) (fun i hi => absurd hi (by omega))
  · exact key
  · intro I1 o e10
    refine s_X9_take_4 _ _ ⟨fun _ => hp I1 ⟨mst_keep r1 (fun q hq => o q (by omega)), ?_, ?_, ?_, ?_, e10, ?_⟩, fun c => absurd (Int32.le_refl _) c⟩
    · rw [o 0 (by decide)]; exact r2
    · rw [o 5 (by decide)]; exact r3
    · rw [o 0 (by decide)]; exact r4
    · rw [o 9 (by decide)]; exact r5
    · rw [o 0 (by decide)]; exact r7
  · intro k hk ih I1 o e10
    refine s_X9_take_4 _ _ ?_
    have h9 : I1 9 k = bi (R k) := by rw [o 9 (by decide)]; exact r5 k hk
    have hnx : zI (k : Int) + 1 = zI ((k + 1 : Nat) : Int) := by rw [show (1 : Int32) = zI 1 from rfl, z_add]; rfl
    rw [show (101 : Int32) = zI (101 : Nat) from rfl, z_le (by omega) (by omega) (by omega) (by omega), z_in (by omega) (by omega), z_cl (by omega), h9, nar01 (bi01 _), show (100 : Int32) = zI (100 : Nat) from rfl, z_le (by omega) (by omega) (by omega) (by omega), hnx, if_pos (show k ≤ 100 by omega)]
    refine ⟨fun c => absurd c (by omega), fun _ => ⟨by omega, by omega, fun I2 e2 => ?_⟩⟩
    have nx := ih I2 (fun q hq => by rw [e2, u2_other _ _ _ _ hq]; exact o q hq) (fun i hi => by
      rw [e2, u2_at]
      by_cases e : i = k
      · rw [if_pos e, e]
      · rw [if_neg e]; exact e10 i (by omega))
    refine ⟨fun c => ?_, fun c => ⟨by omega, ?_⟩⟩
    · rw [if_neg (by omega)] at nx
      rw [show k = 100 by omega, show (0 : Int32) = zI 0 from rfl, z_add, Int.add_zero]
      rw [show k = 100 by omega] at nx
      exact nx
    · rw [if_pos (by omega), ctz] at nx
      rw [e2, u2_eq, bi_0, ← e2]
      refine ⟨fun c2 => ?_, fun c2 => ?_⟩
      · rw [c2] at nx; exact nx
      · rw [show R k = true by simpa using c2] at nx; exact nx
theorem hc_rng {n i : Nat} {q : hS} (hi : i < n) (hF : ∀ i, q.2.2 i = true → q.1 i = true) : ∃ s f : Nat, s < 3 ∧ f < 2 ∧ hcode n q i = zI ((s + 4 * f : Nat) : Int) ∧ sc n q.1 q.2.1 i = zI s ∧ bi (q.2.2 i) = zI f := by
  have hs : ∃ s : Nat, s < 3 ∧ sc n q.1 q.2.1 i = zI s := by
    unfold sc
    split
    · exact ⟨0, by decide, rfl⟩
    · split
      · exact ⟨2, by decide, rfl⟩
      · exact ⟨1, by decide, rfl⟩
  obtain ⟨s, s1, s2⟩ := hs
  unfold hcode
  rw [s2]
  cases q.2.2 i
  · refine ⟨s, 0, s1, by decide, ?_, rfl, rfl⟩
    rw [if_neg (by simp), show (0 : Int32) = zI 0 from rfl, z_add]
    rfl
  · refine ⟨s, 1, s1, by decide, ?_, rfl, rfl⟩
    rw [if_pos rfl, show (4 : Int32) = zI 4 from rfl, z_add]
    rfl
theorem m_undo (ho : okD ((w, h, sh), (M, H, B, F), (mv, hist), (kd, R, T, md))) (hr : relM ((w, h, sh), (M, H, B, F), (mv, hist), (kd, R, T, md)) I) (h0 : mv = 0 → P (some (.int (-2))) I J) (h1 : ∀ m, mv = m + 1 → ∀ I', relM ((w, h, sh), (M, hist m), (m, hist), (kd, R, T, md)) I' → P (some (.int 1)) I' J) : call pgM zX9_undo [.ref 0] I J P := by
  obtain ⟨r1, r2, r3, r4, r5, r6, r7⟩ := id hr
  obtain ⟨gk, oS, omv, oh, -⟩ := ho
  obtain ⟨hn1, hn2⟩ := mul_le100 gk
  refine e_X9_undo ?_
  rw [r2, zI_0 (by omega)]
  refine ⟨fun c I1 e1 => ?_, fun c => h0 c⟩
  obtain ⟨m, rfl⟩ : ∃ m, mv = m + 1 := ⟨mv - 1, by omega⟩
  have h1 := h1 m rfl
  obtain ⟨⟨p1, p2, p3, p4, p5⟩, -, -⟩ := oh m (by omega)
  have e10 : I1 0 10 = zI m := by
    rw [e1, u2_eq, show (1 : Int32) = zI 1 from rfl, z_sub]
    congr 1
    omega
  have o0 : ∀ j, j ≠ 10 → I1 0 j = I 0 j := fun j hj => by rw [e1, u2_ne1 _ _ _ _ hj]
  have oo : ∀ q, q ≠ 0 → I1 q = I q := fun q hq => by rw [e1, u2_other _ _ _ _ hq]
  have key := up_loop (L := fun k => ∀ I2, (∀ q, q ≠ 3 → q ≠ 4 → I2 q = I1 q) → (∀ i, i < k → I2 3 i = sc (w * h) (hist m).1 (hist m).2.1 i ∧ I2 4 i = bi ((hist m).2.2 i)) → (∀ i, k ≤ i → I2 3 i = I 3 i ∧ I2 4 i = I 4 i) → l_X9_undo_22 I2 J P (zI k)) (w * h) ?_ ?_ 0 (Nat.zero_le _) I1 (fun _ _ _ => rfl) (fun i hi => absurd hi (by omega)) (fun i _ => by rw [oo 3 (by decide), oo 4 (by decide)]; exact ⟨rfl, rfl⟩)
  · exact key
  · intro I2 o a1 a2
    refine s_X9_undo_22 _ ⟨fun _ => h1 I2 ⟨⟨?_, ?_, fun i hi => ?_⟩, ?_, fun k i hk hi => ?_, ?_, ?_, ?_, ?_⟩, fun c => absurd ?_ c⟩
    · unfold mSz
      rw [o 0 (by decide) (by decide), o0 0 (by decide), o0 1 (by decide), o0 2 (by decide), o0 3 (by decide)]
      exact r1.1
    · rw [o 1 (by decide) (by decide), oo 1 (by decide)]; exact r1.2.1
    · obtain ⟨b1, b2, b3⟩ := r1.2.2 i hi
      refine ⟨by rw [o 2 (by decide) (by decide), oo 2 (by decide)]; exact b1, ?_⟩
      by_cases e : i < w * h
      · exact a1 i e
      · obtain ⟨c1, c2⟩ := a2 i (by omega)
        rw [c1, c2, b2, b3]
        have f1 : F i = false := by
          cases ef : F i
          · rfl
          · have := oS.2.1 i ef
            rw [(oS.1 i (by omega)).1] at this; cases this
        have f2 : (hist m).2.2 i = false := by
          cases ef : (hist m).2.2 i
          · rfl
          · have := p2 i ef
            rw [(p1 i (by omega)).1] at this; cases this
        rw [f1, f2]
        unfold sc
        simp [show w * h ≤ i by omega]
    · rw [o 0 (by decide) (by decide)]; exact e10
    · rw [o 5 (by decide) (by decide), oo 5 (by decide)]; exact r3 k i (by omega) hi
    · rw [o 0 (by decide) (by decide), o0 16 (by decide)]; exact r4
    · rw [o 9 (by decide) (by decide), oo 9 (by decide)]; exact r5
    · rw [o 10 (by decide) (by decide), oo 10 (by decide)]; exact r6
    · rw [o 0 (by decide) (by decide), o0 8 (by decide)]; exact r7
    · rw [o 0 (by decide) (by decide), o0 3 (by decide), r1.1.2.2.2]; exact Int32.le_refl _
  · intro k hk ih I2 o a1 a2
    obtain ⟨s, f, hs, hf, hc, hsc, hbi⟩ := hc_rng (n := w * h) (q := hist m) hk p2
    have h3 : I2 0 3 = zI (w * h : Nat) := by rw [o 0 (by decide) (by decide), o0 3 (by decide)]; exact r1.1.2.2.2
    have h10 : I2 0 10 = zI m := by rw [o 0 (by decide) (by decide)]; exact e10
    have h5 : I2 5 (100 * m + k) = zI ((s + 4 * f : Nat) : Int) := by rw [o 5 (by decide) (by decide), oo 5 (by decide), r3 m k (by omega) hk]; exact hc
    have hnx : zI (k : Int) + 1 = zI ((k + 1 : Nat) : Int) := by rw [show (1 : Int32) = zI 1 from rfl, z_add]; rfl
    refine s_X9_undo_22 _ ?_
    rw [h3, z_le (by omega) (by omega) (by omega) (by omega), h10, show (100 : Int32) = zI 100 from rfl, z_mul, z_add, show (100 : Int) * m + k = ((100 * m + k : Nat) : Int) by omega, z_in (by omega) (by omega), z_in (by omega) (by omega), z_cl (by omega), z_cl (by omega), h5, show (4 : Int32) = zI (4 : Nat) from rfl, z_rem (by omega) (by omega) (by omega), hnx, show (s + 4 * f) % 4 = s by omega, nar0, nar1]
    refine ⟨fun c => absurd c (by omega), fun _ => ⟨by omega, by omega, fun I3 e3 => ?_⟩⟩
    have g10 : I3 0 10 = zI m := by rw [e3, u2_ne _ _ (by decide)]; exact h10
    have g5 : I3 5 (100 * m + k) = zI ((s + 4 * f : Nat) : Int) := by rw [e3, u2_ne _ _ (by decide)]; exact h5
    rw [g10, z_mul, z_add, show (100 : Int) * m + k = ((100 * m + k : Nat) : Int) by omega, z_in (by omega) (by omega), z_cl (by omega), g5, z_lt (by omega) (by omega) (by omega) (by omega)]
    have fin : ∀ (v : Int32) (I4 : tg_I), v = zI f → I4 = u2 I3 4 k v → l_X9_undo_22 I4 J P (zI ((k + 1 : Nat) : Int)) := fun v I4 ev e4 => by
      refine ih I4 (fun q q3 q4 => by rw [e4, u2_other _ _ _ _ q4, e3, u2_other _ _ _ _ q3]; exact o q q3 q4) (fun i hi => ?_) (fun i hi => ?_)
      · rw [e4, u2_ne _ _ (by decide), u2_at, e3, u2_at, u2_ne _ _ (by decide)]
        by_cases e : i = k
        · rw [if_pos e, if_pos e, e, hsc, hbi, ev]
          exact ⟨rfl, rfl⟩
        · rw [if_neg e, if_neg e]; exact a1 i (by omega)
      · rw [e4, u2_ne _ _ (by decide), u2_at, e3, u2_at, u2_ne _ _ (by decide), if_neg (by omega), if_neg (by omega)]
        exact a2 i (by omega)
    refine ⟨by omega, fun c => ⟨by omega, fun I4 e4 => fin 0 I4 ?_ e4⟩, fun c => ⟨by omega, fun I4 e4 => fin 1 I4 ?_ e4⟩⟩
    · rw [show f = 0 by omega]; rfl
    · rw [show f = 1 by omega]; rfl
theorem m_forget (hp : ∀ I', (∀ q, q ≠ 0 → q ≠ 9 → q ≠ 10 → I' q = I q) → (∀ j, j ≠ 10 → j ≠ 14 → j ≠ 16 → I' 0 j = I 0 j) → I' 0 10 = 0 → I' 0 16 = 0 → (∀ i, i < 101 → I' 9 i = 0 ∧ I' 10 i = 0) → P none I' J) : call pgM zX9_forget [.ref 0] I J P := by
  refine e_X9_forget (fun I1 e1 I2 e2 I3 e3 => ?_)
  have k0 : ∀ j, j ≠ 10 → j ≠ 14 → j ≠ 16 → I3 0 j = I 0 j := fun j a b c => by rw [e3, u2_ne1 _ _ _ _ c, e2, u2_ne1 _ _ _ _ b, e1, u2_ne1 _ _ _ _ a]
  have k10 : I3 0 10 = 0 := by rw [e3, u2_ne1 _ _ _ _ (by decide), e2, u2_ne1 _ _ _ _ (by decide), e1, u2_eq]
  have k16 : I3 0 16 = 0 := by rw [e3, u2_eq]
  have kq : ∀ q, q ≠ 0 → I3 q = I q := fun q hq => by rw [e3, u2_other _ _ _ _ hq, e2, u2_other _ _ _ _ hq, e1, u2_other _ _ _ _ hq]
  have key := up_loop (L := fun k => ∀ Ia, (∀ q, q ≠ 9 → q ≠ 10 → Ia q = I3 q) → (∀ i, i < k → Ia 9 i = 0 ∧ Ia 10 i = 0) → l_X9_forget_17 Ia J P (zI k)) 101 ?_ ?_ 0 (Nat.zero_le _) I3 (fun _ _ _ => rfl) (fun i hi => absurd hi (by omega))
  · exact key
  · intro Ia o z
    refine s_X9_forget_17 _ ⟨fun _ => hp Ia (fun q q0 q9 q10 => (o q q9 q10).trans (kq q q0)) (fun j a b c => by rw [o 0 (by decide) (by decide)]; exact k0 j a b c) (by rw [o 0 (by decide) (by decide)]; exact k10) (by rw [o 0 (by decide) (by decide)]; exact k16) z, fun c => absurd (Int32.le_refl _) c⟩
  · intro k hk ih Ia o z
    refine s_X9_forget_17 _ ?_
    rw [show (101 : Int32) = zI (101 : Nat) from rfl, z_le (by omega) (by omega) (by omega) (by omega), z_in (by omega) (by omega), z_cl (by omega), nar0, show (1 : Int32) = zI 1 from rfl, z_add]
    refine ⟨fun c => absurd c (by omega), fun _ => ⟨by omega, fun Ib eb => ⟨by omega, fun Ic ec => ?_⟩⟩⟩
    refine ih Ic (fun q q9 q10 => by rw [ec, u2_other _ _ _ _ q10, eb, u2_other _ _ _ _ q9]; exact o q q9 q10) (fun i hi => ?_)
    rw [ec, u2_ne _ _ (by decide), u2_at, eb, u2_at, u2_ne _ _ (by decide)]
    by_cases e : i = k
    · rw [if_pos e, if_pos e]; exact ⟨rfl, rfl⟩
    · rw [if_neg e, if_neg e]; exact z i (by omega)
theorem mhide_gen (hs : mSz w h sh I) (hn : ∀ a b, a < 100 → b < 100 → I 1 (100 * a + b) = bi (decide (a < w * h) && nb w h sh a b)) (h2 : ∀ i, i < 100 → I 2 i = bi (M i)) (hp : ∀ I', (∀ q, q ≠ 3 → q ≠ 4 → I' q = I q) → mst w h sh M (fun i => decide (i < w * h)) (fun _ => false) (fun _ => false) I' → P none I' J) : call pgM zX9_hideAll [.ref 0] I J P := by
  refine e_X9_hideAll ?_
  have key := up_loop (L := fun k => ∀ I1, (∀ q, q ≠ 3 → q ≠ 4 → I1 q = I q) → (∀ i, i < k → I1 3 i = 0 ∧ I1 4 i = 0) → l_X9_hideAll_2 I1 J P (zI k)) 100 ?_ ?_ 0 (Nat.zero_le _) I (fun _ _ _ => rfl) (fun i hi => absurd hi (by omega))
  · exact key
  · intro I1 o z
    refine s_X9_hideAll_2 _ ⟨fun _ => hp I1 o ⟨?_, ?_, fun i hi => ?_⟩, fun c => absurd (Int32.le_refl _) c⟩
    · unfold mSz
      rw [o 0 (by decide) (by decide)]
      exact hs
    · rw [o 1 (by decide) (by decide)]
      exact hn
    · rw [o 2 (by decide) (by decide)]
      obtain ⟨z1, z2⟩ := z i hi
      refine ⟨h2 i hi, ?_, z2⟩
      rw [z1]
      unfold sc
      by_cases e : i < w * h
      · simp [e]
      · simp [e, show w * h ≤ i by omega]
  · intro k hk ih I1 o z
    refine s_X9_hideAll_2 _ ?_
    rw [show (100 : Int32) = zI (100 : Nat) from rfl, z_le (by omega) (by omega) (by omega) (by omega), z_in (by omega) (by omega), z_cl (by omega), nar0, show (1 : Int32) = zI 1 from rfl, z_add]
    refine ⟨fun c => absurd c (by omega), fun _ => ⟨by omega, fun I2 e2 => ⟨by omega, fun I3 e3 => ?_⟩⟩⟩
    refine ih I3 (fun q h3 h4 => by rw [e3, u2_other _ _ _ _ h4, e2, u2_other _ _ _ _ h3]; exact o q h3 h4) (fun i hi => ?_)
    rw [e3, u2_ne _ _ (by decide), u2_at, e2, u2_at, u2_ne _ _ (by decide)]
    by_cases e : i = k
    · rw [if_pos e, if_pos e]
      exact ⟨rfl, rfl⟩
    · rw [if_neg e, if_neg e]
      exact z i (by omega)
theorem m_blank (ho : okD ((w, h, sh), (M, H, B, F), (mv, hist), (kd, R, T, md))) (hr : relM ((w, h, sh), (M, H, B, F), (mv, hist), (kd, R, T, md)) I) (x y z : Int32) (h0 : ¬ (∃ w' h' sh' : Nat, gOk w' h' sh' ∧ x = zI w' ∧ y = zI h' ∧ z = zI sh') → P (some (.int (-1))) I J) (h1 : ∀ w' h' sh' : Nat, gOk w' h' sh' → x = zI w' → y = zI h' → z = zI sh' → ∀ I', relM ((w', h', sh'), (fun _ => false, fun i => decide (i < w' * h'), fun _ => false, fun _ => false), (0, hist), (0, fun _ => false, fun _ => false, md)) I' → P (some (.int (zI (w' * h' : Nat)))) I' J) : call pgM zX9_blank [.ref 0, .int x, .int y, .int z] I J P := by
  obtain ⟨r1, r2, r3, r4, r5, r6, r7⟩ := hr
  refine e_X9_blank _ _ _ (isBoard_ok x y z ⟨_, rfl, ?_⟩)
  rw [bi_0]
  refine ⟨fun c => ?_, fun c => h0 (fun q => ?_)⟩
  · have c : 1 ≤ x.toInt ∧ x.toInt ≤ 10 ∧ 1 ≤ y.toInt ∧ y.toInt ≤ 10 ∧ 0 ≤ z.toInt ∧ z.toInt ≤ 3 ∧ (z.toInt = 3 → y.toInt % 2 = 0) := by simpa using c
    obtain ⟨w', hw'⟩ := Int.eq_ofNat_of_zero_le (show 0 ≤ x.toInt by omega)
    obtain ⟨h', hh'⟩ := Int.eq_ofNat_of_zero_le (show 0 ≤ y.toInt by omega)
    obtain ⟨sh', hs'⟩ := Int.eq_ofNat_of_zero_le (show 0 ≤ z.toInt by omega)
    have ex : x = zI w' := by rw [← hw']; exact (fb_asI x).symm
    have ey : y = zI h' := by rw [← hh']; exact (fb_asI y).symm
    have ez : z = zI sh' := by rw [← hs']; exact (fb_asI z).symm
    have g : gOk w' h' sh' := ⟨by omega, by omega, by omega, by omega, by omega, fun e => by have := c.2.2.2.2.2.2 (by omega); omega⟩
    have k1 := h1 w' h' sh' g ex ey ez
    clear h1 h0
    rw [ex, ey, ez]
    refine layOut_ok g (fun I2 o2 o2j s2 n2 => ⟨rfl, ?_⟩)
    refine mhide_gen s2 (fun a b ha hb => n2.1 a b ha hb) (fun i hi => by rw [o2 2 (by decide) (by decide)]; exact (r1.2.2 i hi).1) (fun I3 o3 m3 => ⟨rfl, ?_⟩)
    have hk0 : ∀ j, 4 ≤ j → I3 0 j = I 0 j := fun j hj => by rw [o3 0 (by decide) (by decide)]; exact o2j j hj
    have key := up_loop (L := fun k => ∀ Ia, onlyI 2 I3 Ia → (∀ i, i < k → Ia 2 i = 0) → l_X9_blank_25 Ia J P (zI k)) 100 ?_ ?_ 0 (Nat.zero_le _) I3 (fun _ _ => rfl) (fun i hi => absurd hi (by omega))
    · exact key
    · intro Ia oa za
      refine s_X9_blank_25 _ ⟨fun _ => m_forget (fun I4 q1 q2 q3 q4 q5 => ⟨rfl, ?_⟩), fun c => absurd (Int32.le_refl _) c⟩
      have ka : ∀ q, q ≠ 0 → q ≠ 2 → q ≠ 9 → q ≠ 10 → I4 q = I3 q := fun q a b c d => (q1 q a c d).trans (oa q b)
      have k0 : ∀ j, j ≠ 10 → j ≠ 14 → j ≠ 16 → I4 0 j = I3 0 j := fun j a b c => by rw [q2 j a b c, oa 0 (by decide)]
      rw [k0 3 (by decide) (by decide) (by decide), m3.1.2.2.2]
      refine k1 I4 ⟨⟨?_, ?_, fun i hi => ?_⟩, q3, fun m i hm => absurd hm (by omega), q4, fun i hi => (q5 i hi).1, fun i hi => (q5 i hi).2, ?_⟩
      · unfold mSz
        rw [k0 0 (by decide) (by decide) (by decide), k0 1 (by decide) (by decide) (by decide), k0 2 (by decide) (by decide) (by decide), k0 3 (by decide) (by decide) (by decide)]
        exact m3.1
      · rw [ka 1 (by decide) (by decide) (by decide) (by decide)]; exact m3.2.1
      · obtain ⟨b1, b2, b3⟩ := m3.2.2 i hi
        refine ⟨by rw [q1 2 (by decide) (by decide) (by decide), za i hi]; rfl, by rw [ka 3 (by decide) (by decide) (by decide) (by decide)]; exact b2, by rw [ka 4 (by decide) (by decide) (by decide) (by decide)]; exact b3⟩
      · rw [k0 8 (by decide) (by decide) (by decide), hk0 8 (by decide)]; exact r7
    · intro k hk ih Ia oa za
      refine s_X9_blank_25 _ ?_
      rw [show (100 : Int32) = zI (100 : Nat) from rfl, z_le (by omega) (by omega) (by omega) (by omega), z_in (by omega) (by omega), z_cl (by omega), nar0, show (1 : Int32) = zI 1 from rfl, z_add]
      refine ⟨fun c => absurd c (by omega), fun _ => ⟨by omega, fun Ib eb => ih Ib (fun q hq => by rw [eb, u2_other _ _ _ _ hq]; exact oa q hq) (fun i hi => ?_)⟩⟩
      rw [eb, u2_at]
      by_cases e : i = k
      · rw [if_pos e]
      · rw [if_neg e]; exact za i (by omega)
  · obtain ⟨w', h', sh', ⟨g1, g2, g3, g4, g5, g6⟩, ex, ey, ez⟩ := q
    rw [ex, ey, ez, z_toInt (by omega) (by omega), z_toInt (by omega) (by omega), z_toInt (by omega) (by omega), decide_eq_true (by omega)] at c
    cases c
theorem m_edit (ho : okD ((w, h, sh), (M, H, B, F), (mv, hist), (kd, R, T, md))) (hr : relM ((w, h, sh), (M, H, B, F), (mv, hist), (kd, R, T, md)) I) (x : Int32) (bv : Bool) (h0 : ¬ inC (w * h) x → P (some (.int (-1))) I J) (h1 : ∀ a : Nat, a < w * h → x = zI a → (fb_ct H (w * h) < w * h ∨ M a = bv) → P (some (.int (-2))) I J)
    (h2 : ∀ a : Nat, a < w * h → x = zI a → fb_ct H (w * h) = w * h → M a ≠ bv → ∀ I', relM ((w, h, sh), (fun i => if i = a then bv else M i, H, B, F), (mv, hist), (kd, R, T, md)) I' → P (some (.int (zI (fb_ct (fun i => if i = a then bv else M i) (w * h) : Nat)))) I' J) : call pgM zX9_edit [.ref 0, .int x, .int (bi bv)] I J P := by
  obtain ⟨r1, r2, r3, r4, r5, r6, r7⟩ := id hr
  obtain ⟨gk, oS, omv, -⟩ := ho
  obtain ⟨hn1, hn2⟩ := mul_le100 gk
  refine e_X9_edit _ _ (mholds r1.1.2.2.2 hn2 x (fun a ha hx => ⟨_, rfl, fun _ => ?_, fun c => absurd c ne_1_0⟩) (fun c => ⟨_, rfl, fun c2 => absurd rfl c2, fun _ => h0 c⟩))
  have g1 := h1 a ha hx
  have g2 := h2 a ha hx
  clear h0 h1 h2
  subst hx
  have hle := fb_ct_le H (w * h)
  refine minState_ok gk r1 0 ⟨_, rfl, ?_⟩
  rw [ct_sc0, r1.1.2.2.2, z_lt (by omega) (by omega) (by omega) (by omega), z_in (by omega) (by omega), z_cl (by omega), (r1.2.2 a (by omega)).1, bi_ne, nar01 (bi01 bv)]
  refine ⟨fun c => g1 (Or.inl (by omega)), fun c => ⟨by omega, fun c2 => ⟨by omega, fun I3 e3 => ?_⟩, fun c2 => g1 (Or.inr c2)⟩⟩
  have o : ∀ q, q ≠ 2 → I3 q = I q := fun q hq => by rw [e3, u2_other _ _ _ _ hq]
  have m3 : mst w h sh (fun i => if i = a then bv else M i) H B F I3 := by
    refine ⟨?_, ?_, fun i hi => ?_⟩
    · unfold mSz
      rw [o 0 (by decide)]; exact r1.1
    · rw [o 1 (by decide)]; exact r1.2.1
    · obtain ⟨b1, b2, b3⟩ := r1.2.2 i hi
      refine ⟨?_, by rw [o 3 (by decide)]; exact b2, by rw [o 4 (by decide)]; exact b3⟩
      rw [e3, u2_at]
      by_cases e : i = a
      · simp [e]
      · simp [e, b1]
  refine mmines_ok gk m3 ⟨_, rfl, g2 (by omega) c2 I3 ⟨m3, ?_, ?_, ?_, ?_, ?_, ?_⟩⟩
  · rw [o 0 (by decide)]; exact r2
  · rw [o 5 (by decide)]; exact r3
  · rw [o 0 (by decide)]; exact r4
  · rw [o 9 (by decide)]; exact r5
  · rw [o 10 (by decide)]; exact r6
  · rw [o 0 (by decide)]; exact r7
theorem nin_sc2 {a : Nat} (hd : ∀ i, H i = true → B i = false) : nin w h sh (fun i => decide (sc (w * h) H B i = 2)) a = nin w h sh B a := nin_cong (fun i hi => by
  cases e : B i
  · rw [decide_eq_false]
    intro q
    rw [(sc_2 hd hi).mp q] at e; cases e
  · exact decide_eq_true ((sc_2 hd hi).mpr e))
theorem m_chord (ho : okD ((w, h, sh), (M, H, B, F), (mv, hist), (kd, R, T, md))) (hr : relM ((w, h, sh), (M, H, B, F), (mv, hist), (kd, R, T, md)) I) (x : Int32) (h0 : ¬ inC (w * h) x → P (some (.int (-1))) I J) (h1 : ∀ a : Nat, a < w * h → x = zI a → ¬ (opS (w * h) H B a = true ∧ nin w h sh F a + nin w h sh B a = nin w h sh M a) → P (some (.int (-2))) I J) (h2 : ∀ a : Nat, a < w * h → x = zI a → opS (w * h) H B a = true → nin w h sh F a + nin w h sh B a = nin w h sh M a → mv = 200 → P (some (.int (-4))) I J)
    (h3 : ∀ a : Nat, a < w * h → x = zI a → opS (w * h) H B a = true → nin w h sh F a + nin w h sh B a = nin w h sh M a → mv < 200 → ∀ I', relM ((w, h, sh), (M, chS w h sh M a (w * h) (H, B, F)), (mv + 1, pushH mv hist (H, B, F)), (kd, R, T, md)) I' → P (some (.int (zI ((fb_ct H (w * h) : Nat) - (fb_ct (chS w h sh M a (w * h) (H, B, F)).1 (w * h) : Nat))))) I' J) : call pgM zX9_chord [.ref 0, .int x] I J P := by
  obtain ⟨r1, r2, r3, r4, r5, r6, r7⟩ := id hr
  obtain ⟨gk, oS, omv, -⟩ := ho
  obtain ⟨hn1, hn2⟩ := mul_le100 gk
  refine e_X9_chord _ (mholds r1.1.2.2.2 hn2 x (fun a ha hx => ⟨_, rfl, fun _ => ?_, fun c => absurd c ne_1_0⟩) (fun c => ⟨_, rfl, fun c2 => absurd rfl c2, fun _ => h0 c⟩))
  have g1 := h1 a ha hx
  have g2 := h2 a ha hx
  have g3 := h3 a ha hx
  clear h0 h1 h2 h3
  subst hx
  have b1 := nin_le (w := w) (h := h) (sh := sh) F a
  have b2 := nin_le (w := w) (h := h) (sh := sh) B a
  have b3 := nin_le (w := w) (h := h) (sh := sh) M a
  obtain ⟨q1, q2, q3⟩ := r1.2.2 a (by omega)
  rw [z_in (by omega) (by omega), z_cl (by omega), q2, sc_1 ha]
  refine ⟨by omega, fun c => g1 (fun q => c q.1), fun hO => ?_⟩
  refine mflagsNear_ok gk r1 ha ⟨_, rfl, mnearState_ok gk r1 ha 2 ⟨_, rfl, mnumber_ok gk r1 ha ⟨_, rfl, ?_⟩⟩⟩
  rw [nin_sc2 oS.2.2.1, z_add, z_eq (by omega) (by omega) (by omega) (by omega), r2, show (200 : Int32) = zI (200 : Nat) from rfl, z_eq (by omega) (by omega) (by omega) (by omega)]
  refine ⟨fun c2 => ⟨fun c3 => move_ok gk (by omega) hr (fun I5 hr5 => ⟨rfl, minState_ok gk hr5.1 0 ⟨_, rfl, fun x1 e1 => ?_⟩⟩), fun c3 => g2 hO (by omega) (by omega)⟩, fun c2 => g1 (fun q => c2 (by omega))⟩
  have g4 := g3 hO (by omega) (by omega)
  have ex : x1 = zI ((100 * mv : Nat) : Int) := by
    rw [e1, hr5.2.1, show (1 : Int32) = zI 1 from rfl, z_sub, show (100 : Int32) = zI 100 from rfl, z_mul]
    congr 1
    omega
  rw [ex, ct_sc0]
  have key := up_loop (L := fun k => ∀ I6, relM ((w, h, sh), (M, chS w h sh M a k (H, B, F)), (mv + 1, pushH mv hist (H, B, F)), (kd, R, T, md)) I6 → l_X9_chord_79 I6 J P (zI a) (zI (fb_ct H (w * h) : Nat)) (zI ((100 * mv : Nat) : Int)) (zI k)) (w * h) ?_ ?_ 0 (Nat.zero_le _) I5 hr5
  · exact key
  · intro I6 hr6
    refine s_X9_chord_79 _ _ _ _ ⟨fun _ => ?_, fun c => absurd (by rw [hr6.1.1.2.2.2]; exact Int32.le_refl _) c⟩
    refine minState_ok gk hr6.1 0 ⟨_, rfl, ?_⟩
    rw [ct_sc0, z_sub]
    exact g4 I6 hr6
  · intro k hk ih I6 hr6
    have okk := okS_ch (a := a) (sh := sh) oS k (by omega)
    have hsub := ch_sub (w := w) (h := h) (sh := sh) (M := M) (B := B) (a := a) oS.2.1 k k
    have hnx : zI (k : Int) + 1 = zI ((k + 1 : Nat) : Int) := by rw [show (1 : Int32) = zI 1 from rfl, z_add]; rfl
    have hpast : I6 5 (100 * mv + k) = hcode (w * h) (H, B, F) k := by
      have := hr6.2.2.1 mv k (by omega) hk
      rw [this]
      simp [pushH]
    have hp0 : hcode (w * h) (H, B, F) k = 0 ↔ H k = true ∧ F k = false := by
      unfold hcode sc
      rw [decide_eq_false (show ¬ w * h ≤ k by omega)]
      show (if H k || false then (0 : Int32) else if B k then 2 else 1) + (if F k then 4 else 0) = 0 ↔ _
      cases H k <;> cases B k <;> cases F k <;> decide
    refine s_X9_chord_79 _ _ _ _ ?_
    rw [hr6.1.1.2.2.2, z_le (by omega) (by omega) (by omega) (by omega), z_add, show ((100 * mv : Nat) : Int) + (k : Int) = ((100 * mv + k : Nat) : Int) by omega, z_in (by omega) (by omega), z_in (by omega) (by omega), z_cl (by omega), z_cl (by omega), hnx]
    refine ⟨fun c => absurd c (by omega), fun _ => mnear_ok gk hr6.1 ha hk ⟨_, rfl, ?_⟩⟩
    rw [bi_0, hpast, hp0, (hr6.1.2.2 k (by omega)).2.1, sc_0 hk]
    have same : (nb w h sh a k && (chS w h sh M a k (H, B, F)).1 k && !(chS w h sh M a k (H, B, F)).2.2 k) = false → l_X9_chord_79 I6 J P (zI a) (zI (fb_ct H (w * h) : Nat)) (zI ((100 * mv : Nat) : Int)) (zI ((k + 1 : Nat) : Int)) := fun hf => by
      have e1 : chS w h sh M a (k + 1) (H, B, F) = chS w h sh M a k (H, B, F) := by
        show (if _ then _ else _) = _
        rw [if_neg (by rw [hf]; simp)]
      exact ih I6 (by rw [e1]; exact hr6)
    refine ⟨fun c => same (by rw [c]; rfl), fun c => ⟨by omega, fun c2 => same ?_, fun c2 => ⟨by omega, fun c3 => same ?_, fun c3 => ?_⟩⟩⟩
    · rw [hsub.2]
      cases e : (chS w h sh M a k (H, B, F)).1 k
      · simp
      · have hH := hsub.1 e
        cases ef : F k
        · exact absurd ⟨hH, ef⟩ c2
        · simp
    · rw [show (chS w h sh M a k (H, B, F)).1 k = false by simpa using c3]; simp
    · have hF : (chS w h sh M a k (H, B, F)).2.2 k = false := by rw [hsub.2, c2.2]; rfl
      refine muncover_ok gk hr6.1 hk c3 okk (fun _ => hF) (fun I7 o7 m7 => ⟨rfl, ih I7 ?_⟩)
      have e1 : chS w h sh M a (k + 1) (H, B, F) = (uncH w h sh M k (chS w h sh M a k (H, B, F)).1, uncB M k (chS w h sh M a k (H, B, F)).2.1, fun i => (chS w h sh M a k (H, B, F)).2.2 i && uncH w h sh M k (chS w h sh M a k (H, B, F)).1 i) := by
        show (if _ then _ else _) = _
        rw [if_pos (by rw [show nb w h sh a k = true by simpa using c, c3, hF]; rfl)]
      rw [e1]
      exact relM_3 hr6 o7 m7
end MM
