/-! the reference: make, as the desk's call -/
section MMz
variable {I : tg_I} {J : tg_J} {P : Option Value → tg_I → tg_J → Prop} {w h sh : Nat} {M H B F : Nat → Bool} {mv kd md : Nat} {hist : Nat → hS} {R T : Nat → Bool}
/-- the board of before is laid out again -/
theorem relay (gk : gOk w h sh) {I0 : tg_I} (hr : relM ((w, h, sh), (M, H, B, F), (mv, hist), (kd, R, T, md)) I0) {md' : Nat} (oq : ∀ q, 2 ≤ q → q ≤ 10 → q ≠ 6 → q ≠ 7 → q ≠ 8 → I q = I0 q) (o10 : I 0 10 = I0 0 10) (o16 : I 0 16 = I0 0 16) (o8 : I 0 8 = zI md') (hp : ∀ I', relM ((w, h, sh), (M, H, B, F), (mv, hist), (kd, R, T, md')) I' → P none I' J) : call pgM zX9_layOut [.ref 0, .int (zI w), .int (zI h), .int (zI sh)] I J P := by
  obtain ⟨r1, r2, r3, r4, r5, r6, r7⟩ := hr
  refine layOut_ok gk (fun I1 o1 o1j s1 n1 => hp I1 ⟨⟨s1, n1.1, fun i hi => ?_⟩, ?_, ?_, ?_, ?_, ?_, ?_⟩)
  · rw [o1 2 (by decide) (by decide), o1 3 (by decide) (by decide), o1 4 (by decide) (by decide), oq 2 (by decide) (by decide) (by decide) (by decide) (by decide), oq 3 (by decide) (by decide) (by decide) (by decide) (by decide), oq 4 (by decide) (by decide) (by decide) (by decide) (by decide)]
    exact r1.2.2 i hi
  · rw [o1j 10 (by decide), o10]; exact r2
  · rw [o1 5 (by decide) (by decide), oq 5 (by decide) (by decide) (by decide) (by decide) (by decide)]; exact r3
  · rw [o1j 16 (by decide), o16]; exact r4
  · rw [o1 9 (by decide) (by decide), oq 9 (by decide) (by decide) (by decide) (by decide) (by decide)]; exact r5
  · rw [o1 10 (by decide) (by decide), oq 10 (by decide) (by decide) (by decide) (by decide) (by decide)]; exact r6
  · rw [o1j 8 (by decide)]; exact o8
theorem m_make (ho : okD ((w, h, sh), (M, H, B, F), (mv, hist), (kd, R, T, md))) (hr : relM ((w, h, sh), (M, H, B, F), (mv, hist), (kd, R, T, md)) I) (x1 x2 x3 x4 x5 x6 : Int32)
    (hm1 : (∀ w' h' sh' mm g, ¬ mkOk x1 x2 x3 x4 x6 w' h' sh' mm g) → ∀ I' J', relM ((w, h, sh), (M, H, B, F), (mv, hist), (kd, R, T, md)) I' → P (some (.int (-1))) I' J')
    (h0 : ∀ w' h' sh' mm g f' k', mkOk x1 x2 x3 x4 x6 w' h' sh' mm g → tcR w' h' sh' g (fcl w' h') f' 0 (mkM w' h' sh' mm x5) (none, k') → k' ≤ 40 → ∀ I' J', relM ((w, h, sh), (M, H, B, F), (mv, hist), (kd, R, T, k')) I' → P (some (.int 0)) I' J')
    (h1 : ∀ w' h' sh' mm g f' k' M', mkOk x1 x2 x3 x4 x6 w' h' sh' mm g → tcR w' h' sh' g (fcl w' h') f' 0 (mkM w' h' sh' mm x5) (some M', k') → (∀ i, M' i = true → i < w' * h') → k' ≤ 40 → ∀ I' J', relM ((w', h', sh'), (M', fun i => decide (i < w' * h'), fun _ => false, fun _ => false), (0, hist), (0, fun _ => false, fun _ => false, k')) I' → P (some (.int 1)) I' J') : call pgM zX9_make [.ref 0, .int x1, .int x2, .int x3, .int x4, .int x5, .int x6] I J P := by
  obtain ⟨gk0, oS0, -⟩ := ho
  obtain ⟨r1, r2, r3, r4, r5, r6, r7⟩ := id hr
  refine e_X9_make _ _ _ _ _ _ (isBoard_ok x1 x2 x4 ⟨_, rfl, ?_⟩)
  rw [bi_0]
  refine ⟨fun c => ?_, fun c => hm1 (fun w' h' sh' mm g q => ?_) I J hr⟩
  · have c : 1 ≤ x1.toInt ∧ x1.toInt ≤ 10 ∧ 1 ≤ x2.toInt ∧ x2.toInt ≤ 10 ∧ 0 ≤ x4.toInt ∧ x4.toInt ≤ 3 ∧ (x4.toInt = 3 → x2.toInt % 2 = 0) := by simpa using c
    obtain ⟨w', hw'⟩ := Int.eq_ofNat_of_zero_le (show 0 ≤ x1.toInt by omega)
    obtain ⟨h', hh'⟩ := Int.eq_ofNat_of_zero_le (show 0 ≤ x2.toInt by omega)
    obtain ⟨sh', hs'⟩ := Int.eq_ofNat_of_zero_le (show 0 ≤ x4.toInt by omega)
    have ex : x1 = zI w' := by rw [← hw']; exact (fb_asI x1).symm
    have ey : x2 = zI h' := by rw [← hh']; exact (fb_asI x2).symm
    have ez : x4 = zI sh' := by rw [← hs']; exact (fb_asI x4).symm
    have gk : gOk w' h' sh' := ⟨by omega, by omega, by omega, by omega, by omega, fun e => by have := c.2.2.2.2.2.2 (by omega); omega⟩
    have hc := fcl_lt gk
    obtain ⟨hn1, hn2⟩ := mul_le100 gk
    obtain ⟨z6, b1, b2, e6⟩ := z_of x6
    obtain ⟨z3, d1, d2, e3⟩ := z_of x3
    have same : ∀ w2 h2 sh2 mm g, mkOk x1 x2 x3 x4 x6 w2 h2 sh2 mm g → w2 = w' ∧ h2 = h' ∧ sh2 = sh' ∧ z3 = mm ∧ z6 = g := fun w2 h2 sh2 mm g q => by
      obtain ⟨⟨g1, g2, g3, g4, g5, g6⟩, q1, q2, q3, q4, q5, q6, q7, q8⟩ := q
      obtain ⟨k1, k2, k3, k4, k5, k6⟩ := id gk
      rw [ex, z_eq (by omega) (by omega) (by omega) (by omega)] at q1
      rw [ey, z_eq (by omega) (by omega) (by omega) (by omega)] at q2
      rw [ez, z_eq (by omega) (by omega) (by omega) (by omega)] at q3
      have hm100 : mm ≤ 100 := by
        have e1 : w2 = w' := by omega
        have e2 : h2 = h' := by omega
        have := fb_ct_le (cbm w2 h2 sh2 (fcl w2 h2)) (w2 * h2)
        rw [e1, e2] at this q5
        omega
      rw [e3, z_eq d1 d2 (by omega) (by omega)] at q4
      rw [e6, z_eq b1 b2 (by omega) (by omega)] at q8
      omega
    obtain ⟨k1, k2, k3, k4, -⟩ := id gk
    rw [ex, ey, ez]
    refine layOut_ok gk (fun I2 o2 o2j s2 n2 => ⟨rfl, fun y1 ey1 => ?_⟩)
    have hg2 : mgd w' h' sh' I2 := ⟨s2, n2.1⟩
    have hfc : y1 = zI (fcl w' h') := by
      rw [ey1, show (2 : Int32) = zI ((2 : Nat) : Int) from rfl, z_div (by omega) (by decide) (by decide), z_div (by omega) (by decide) (by decide), z_mul, z_add]
      unfold fcl
      congr 1
    rw [hfc, r1.1.1, r1.1.2.1, r1.1.2.2.1]
    have back : ∀ Q : Option Value → tg_I → tg_J → Prop, (∀ I' , relM ((w, h, sh), (M, H, B, F), (mv, hist), (kd, R, T, md)) I' → Q none I' J) → call pgM zX9_layOut [.ref 0, .int (zI w), .int (zI h), .int (zI sh)] I2 J Q := fun Q hq => relay gk0 hr (fun q a b _ _ _ => o2 q (by omega) (by omega)) (o2j 10 (by decide)) (o2j 16 (by decide)) (by rw [o2j 8 (by decide)]; exact r7) hq
    have hrl := fb_ct_le (cbm w' h' sh' (fcl w' h')) (w' * h')
    have key := up_loop (L := fun k => l_X9_make_55 I2 J P x3 x5 x6 (zI w) (zI h) (zI sh) (zI (fcl w' h')) (zI (fb_ct (cbm w' h' sh' (fcl w' h')) k : Nat)) (zI k)) (w' * h') ?_ ?_ 0 (Nat.zero_le _)
    · exact key
    · refine s_X9_make_55 _ _ _ _ _ _ _ _ _ ⟨fun _ => ?_, fun q => absurd (by rw [s2.2.2.2]; exact Int32.le_refl _) q⟩
      have h13 : ∀ w2 h2 sh2 mm g, mkOk x1 x2 x3 x4 x6 w2 h2 sh2 mm g → 0 ≤ z3 ∧ z3 ≤ (fb_ct (cbm w' h' sh' (fcl w' h')) (w' * h') : Nat) ∧ 1 ≤ z6 ∧ z6 ≤ 3 := fun w2 h2 sh2 mm g q => by
        obtain ⟨q1, q2, q3, q4, q5⟩ := same w2 h2 sh2 mm g q
        have a1 := q.2.2.2.2.2.1
        have a2 := q.2.2.2.2.2.2.1
        have a3 := q.2.2.2.2.2.2.2.1
        rw [q1, q2, q3] at a1
        omega
      rw [e3, e6, show (0 : Int32) = zI 0 from rfl, z_lt d1 d2 (by omega) (by omega), z_lt (by omega) (by omega) d1 d2, show (1 : Int32) = zI 1 from rfl, show (3 : Int32) = zI 3 from rfl, z_lt b1 b2 (by omega) (by omega), z_le b1 b2 (by omega) (by omega)]
      refine ⟨fun q => back _ (fun I' r' => ⟨rfl, hm1 (fun w2 h2 sh2 mm g z => ?_) I' J r'⟩), fun q => ⟨fun q2 => back _ (fun I' r' => ⟨rfl, hm1 (fun w2 h2 sh2 mm g z => ?_) I' J r'⟩), fun q2 => ⟨fun q3 => back _ (fun I' r' => ⟨rfl, hm1 (fun w2 h2 sh2 mm g z => ?_) I' J r'⟩), fun q3 => ⟨fun q4 => ?_, fun q4 => back _ (fun I' r' => ⟨rfl, hm1 (fun w2 h2 sh2 mm g z => ?_) I' J r'⟩)⟩⟩⟩⟩
      · have := h13 w2 h2 sh2 mm g z; omega
      · have := h13 w2 h2 sh2 mm g z; omega
      · have := h13 w2 h2 sh2 mm g z; omega
      · obtain ⟨gr, hgr⟩ : ∃ gr : Nat, z6 = (gr : Int) := ⟨z6.toNat, by omega⟩
        obtain ⟨mm, hmm⟩ : ∃ mm : Nat, z3 = (mm : Int) := ⟨z3.toNat, by omega⟩
        have hmle : mm ≤ fb_ct (cbm w' h' sh' (fcl w' h')) (w' * h') := by omega
        have hmk : mkOk x1 x2 x3 x4 x6 w' h' sh' mm gr := ⟨gk, ex, ey, ez, by rw [e3, hmm], hmle, by omega, by omega, by rw [e6, hgr]⟩
        obtain ⟨mk1, mk2⟩ := mkM_ok (w := w') (h := h') (sh := sh') hmle x5
        rw [hgr, hmm]
        have e22 : I2 2 = I 2 := o2 2 (by decide) (by decide)
        have e23 : I2 3 = I 3 := o2 3 (by decide) (by decide)
        have e24 : I2 4 = I 4 := o2 4 (by decide) (by decide)
        refine keepBoard_ok (fun i hi => ⟨by rw [e22, (r1.2.2 i hi).1]; exact bi01 _, by rw [e24, (r1.2.2 i hi).2.2]; exact bi01 _⟩) (fun I3 o3 k3 => ⟨rfl, ?_⟩)
        have key2 := up_loop (L := fun k => ∀ I4, onlyI 2 I3 I4 → (∀ i, i < k → I4 2 i = 0) → l_X9_make_132 I4 J P (zI mm) x5 (zI gr) (zI w) (zI h) (zI sh) (zI (fcl w' h')) (zI k)) 100 ?_ ?_ 0 (Nat.zero_le _) I3 (fun _ _ => rfl) (fun i hi => absurd hi (by omega))
        · exact key2
        · intro I4 o4 z4
          have hg4 : mgd w' h' sh' I4 := mgd_K hg2 (by rw [o4 1 (by decide), o3 1 (by decide) (by decide) (by decide)]) (fun x _ => by rw [o4 0 (by decide), o3 0 (by decide) (by decide) (by decide)])
          refine s_X9_make_132 _ _ _ _ _ _ _ _ ⟨fun _ => e_X9_drawMines _ _ _ (fun y2 ey2 => ?_), fun q => absurd (Int32.le_refl _) q⟩
          rw [ey2]
          have fin : ∀ I5, onlyI 2 I4 I5 → (∀ i, i < 100 → I5 2 i = bi (mkM w' h' sh' mm x5 i)) → ∀ I6, I6 = u2 I5 0 8 0 → call pgM zX9_plays [.ref 0, .int (zI (fcl w' h')), .int (zI gr)] I6 J (fun vr I7 J2 => ∃ r1 : Int32, vr = some (.int r1) ∧ l_X9_make_180 I7 J2 P (zI gr) (zI w) (zI h) (zI sh) (zI (fcl w' h')) r1 1) := fun I5 o5 s5 I6 e6' => by
            have hg6 : mgd w' h' sh' I6 := mgd_K hg4 (by rw [e6', u2_other _ _ _ _ (by decide), o5 1 (by decide)]) (fun x hx => by rw [e6', u2_at, if_neg (by omega), o5 0 (by decide)])
            -- what stays of the desk
            have st : ∀ I', oMm I6 I' → (∀ q, q = 5 ∨ q = 9 ∨ q = 10 → I' q = I q) ∧ (∀ i, i < 100 → I' 6 i = I 2 i ∧ I' 7 i = I 3 i ∧ I' 8 i = I 4 i) ∧ I' 0 10 = I 0 10 ∧ I' 0 16 = I 0 16 := fun I' o' => by
              have t : ∀ q, q ≠ 0 → q ≠ 2 → q ≠ 3 → q ≠ 4 → q < 11 → I' q = I3 q := fun q a b c d e => by rw [o'.1 q a b c d (by omega) (by omega) (by omega) (by omega) (by omega) (by omega) (by omega) (by omega), e6', u2_other _ _ _ _ a, o5 q b, o4 q b]
              have t0 : ∀ x, x = 10 ∨ x = 16 → I' 0 x = I 0 x := fun x hx => by rw [o'.2 x (by omega) (by omega) (by omega) (by omega) (by omega), e6', u2_at, if_neg (by omega), o5 0 (by decide), o4 0 (by decide), o3 0 (by decide) (by decide) (by decide)]; exact o2j x (by omega)
              refine ⟨fun q hq => ?_, fun i hi => ?_, t0 10 (Or.inl rfl), t0 16 (Or.inr rfl)⟩
              · rw [t q (by omega) (by omega) (by omega) (by omega) (by omega), o3 q (by omega) (by omega) (by omega)]; exact o2 q (by omega) (by omega)
              · rw [t 6 (by decide) (by decide) (by decide) (by decide) (by decide), t 7 (by decide) (by decide) (by decide) (by decide) (by decide), t 8 (by decide) (by decide) (by decide) (by decide) (by decide), ← e22, ← e23, ← e24]
                exact k3 i hi
            refine mk180 (I0 := I6) gk hg6 hc (by omega) (by omega) 40 0 (mkM w' h' sh' mm x5) I6 J rfl mk1 mk2 ⟨fun _ _ _ _ _ _ _ _ _ _ _ _ _ => rfl, fun _ _ _ _ _ _ => rfl⟩ (fun i hi => by rw [e6', u2_other _ _ _ _ (by decide)]; exact s5 i hi) (by rw [e6', u2_eq]; rfl) (fun f' M' k' q hM' hk' H' F' I7 J7 o7 m7 e8 => ?_) (fun f' k' q hk' I7 J7 o7 e8 => ?_)
            · refine s_X9_make_180 _ _ _ _ _ _ _ ⟨fun _ => ⟨fun _ => ?_, fun z => absurd z (by decide)⟩, fun z => absurd z (by decide)⟩
              refine mhideAll_ok gk m7 (fun I8 o8 m8 => ⟨rfl, m_forget (fun I9 q1 q2 q3 q4 q5 => ⟨rfl, ?_⟩)⟩)
              refine h1 w' h' sh' mm gr f' k' M' hmk q hM' hk' I9 J7 ⟨?_, q3, fun m i hm => absurd hm (by omega), q4, fun i hi => (q5 i hi).1, fun i hi => (q5 i hi).2, ?_⟩
              · exact mst_K m8 (fun q a b => q1 q (by omega) (by omega) (by omega)) (fun x hx => q2 x (by omega) (by omega) (by omega))
              · rw [q2 8 (by decide) (by decide) (by decide), o8 0 (by decide) (by decide)]; exact e8
            · obtain ⟨st1, st2, st3, st4⟩ := st I7 o7
              refine s_X9_make_180 _ _ _ _ _ _ _ ⟨fun z => absurd rfl z, fun _ => ⟨fun _ => ⟨fun z => absurd rfl z, fun _ => ?_⟩, fun z => absurd rfl z⟩⟩
              refine layOut_ok gk0 (fun I8 o8 o8j s8 n8 => ⟨rfl, ?_⟩)
              have f6 : I8 6 = I7 6 := o8 6 (by decide) (by decide)
              have f7 : I8 7 = I7 7 := o8 7 (by decide) (by decide)
              have f8 : I8 8 = I7 8 := o8 8 (by decide) (by decide)
              refine bringBack_ok (fun i hi => ⟨by rw [f6, (st2 i hi).1, (r1.2.2 i hi).1]; exact bi01 _, by rw [f8, (st2 i hi).2.2, (r1.2.2 i hi).2.2]; exact bi01 _⟩) (fun I9 o9 k9 => ⟨rfl, ?_⟩)
              refine h0 w' h' sh' mm gr f' k' hmk q hk' I9 J7 ⟨⟨?_, ?_, fun i hi => ?_⟩, ?_, ?_, ?_, ?_, ?_, ?_⟩
              · unfold mSz; rw [o9 0 (by decide) (by decide) (by decide)]; exact s8
              · rw [o9 1 (by decide) (by decide) (by decide)]; exact n8.1
              · obtain ⟨a1, a2, a3⟩ := k9 i hi
                obtain ⟨c1, c2, c3⟩ := st2 i hi
                rw [a1, a2, a3, f6, f7, f8, c1, c2, c3]
                exact r1.2.2 i hi
              · rw [o9 0 (by decide) (by decide) (by decide), o8j 10 (by decide), st3]; exact r2
              · rw [o9 5 (by decide) (by decide) (by decide), o8 5 (by decide) (by decide), st1 5 (Or.inl rfl)]; exact r3
              · rw [o9 0 (by decide) (by decide) (by decide), o8j 16 (by decide), st4]; exact r4
              · rw [o9 9 (by decide) (by decide) (by decide), o8 9 (by decide) (by decide), st1 9 (Or.inr (Or.inl rfl))]; exact r5
              · rw [o9 10 (by decide) (by decide) (by decide), o8 10 (by decide) (by decide), st1 10 (Or.inr (Or.inr rfl))]; exact r6
              · rw [o9 0 (by decide) (by decide) (by decide), o8j 8 (by decide)]; exact e8
          have dr := mdraw_ok (J := J) (P := fun vr I5 J5 => vr = none ∧ ∀ I6, I6 = u2 I5 0 8 0 → call pgM zX9_plays [.ref 0, .int (zI (fcl w' h')), .int (zI gr)] I6 J5 (fun vr I7 J2 => ∃ r1 : Int32, vr = some (.int r1) ∧ l_X9_make_180 I7 J2 P (zI gr) (zI w) (zI h) (zI sh) (zI (fcl w' h')) r1 1)) (I0 := I4) gk hg4 hc mm (x5 &&& 2147483647) (fun _ => false) mm I4 (by rw [rmm_0]; exact hmle) (Nat.le_refl _) (by omega) (fun _ _ => rfl) (fun i hi => by rw [z4 i hi]; rfl) (fun I5 o5 s5 => ⟨rfl, fin I5 o5 s5⟩)
          rw [Nat.sub_self] at dr
          exact dr
        · intro k hk ih I4 o4 z4
          refine s_X9_make_132 _ _ _ _ _ _ _ _ ?_
          rw [show (100 : Int32) = zI (100 : Nat) from rfl, z_le (by omega) (by omega) (by omega) (by omega), z_in (by omega) (by omega), z_cl (by omega), nar0, z_s]
          refine ⟨fun q => absurd q (by omega), fun _ => ⟨by omega, fun I5 e5 => ih I5 (fun q hq => by rw [e5, u2_other _ _ _ _ hq]; exact o4 q hq) (fun i hi => ?_)⟩⟩
          rw [e5, u2_at]
          by_cases e : i = k
          · rw [if_pos e]
          · rw [if_neg e]; exact z4 i (by omega)
      · have := h13 w2 h2 sh2 mm g z; omega
    · intro k hk ih
      have hck := fb_ct_le (cbm w' h' sh' (fcl w' h')) k
      rw [fb_ct_succ] at ih
      have zz : zI (fb_ct (cbm w' h' sh' (fcl w' h')) k : Nat) + (0 : Int32) = zI (fb_ct (cbm w' h' sh' (fcl w' h')) k : Nat) := by rw [show (0 : Int32) = zI 0 from rfl, z_add, Int.add_zero]
      refine s_X9_make_55 _ _ _ _ _ _ _ _ _ ?_
      rw [s2.2.2.2, z_le (by omega) (by omega) (by omega) (by omega), z_s k, zz, z_s (fb_ct (cbm w' h' sh' (fcl w' h')) k)]
      refine ⟨fun q => absurd q (by omega), fun _ => canBeMined_ok gk hg2 hk hc ⟨_, rfl, ?_⟩⟩
      rw [bi_0]
      refine ⟨fun q => ?_, fun q => ?_⟩
      · rw [q, if_neg (by simp), Nat.add_zero] at ih; exact ih
      · rw [if_pos (by simpa using q)] at ih; exact ih
  · obtain ⟨⟨g1, g2, g3, g4, g5, g6⟩, ex, ey, ez, -⟩ := q
    rw [ex, ey, ez, z_toInt (by omega) (by omega), z_toInt (by omega) (by omega), z_toInt (by omega) (by omega), decide_eq_true (by omega)] at c
    cases c
end MMz
