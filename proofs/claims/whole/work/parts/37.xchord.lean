/-! the class: edit, chord -/
/-- the cells around a cell are opened, by numbers -/
def chS (w h sh : Nat) (M : Nat → Bool) (a : Nat) : Nat → hS → hS
  | 0, q => q
  | k + 1, q => if nb w h sh a k && (chS w h sh M a k q).1 k && !(chS w h sh M a k q).2.2 k then (uncH w h sh M k (chS w h sh M a k q).1, uncB M k (chS w h sh M a k q).2.1, fun i => (chS w h sh M a k q).2.2 i && uncH w h sh M k (chS w h sh M a k q).1 i) else chS w h sh M a k q
theorem okS_ch {w h sh : Nat} {M H B F : Nat → Bool} {a : Nat} (ho : okS (w * h) M H B F) : ∀ k, k ≤ w * h → okS (w * h) M (chS w h sh M a k (H, B, F)).1 (chS w h sh M a k (H, B, F)).2.1 (chS w h sh M a k (H, B, F)).2.2
  | 0, _ => ho
  | k + 1, hk => by
    have ih := okS_ch (a := a) (sh := sh) ho k (by omega)
    unfold chS
    split
    · rename_i c
      simp only [Bool.and_eq_true] at c
      exact okS_unc (by omega) c.1.2 ih
    · exact ih
/-- hidden cells only go, flags only go with them -/
theorem ch_sub {w h sh : Nat} {M H B F : Nat → Bool} {a : Nat} (hF : ∀ i, F i = true → H i = true) : ∀ k i, ((chS w h sh M a k (H, B, F)).1 i = true → H i = true) ∧ (chS w h sh M a k (H, B, F)).2.2 i = (F i && (chS w h sh M a k (H, B, F)).1 i)
  | 0, i => by
    show (H i = true → H i = true) ∧ F i = (F i && H i)
    refine ⟨id, ?_⟩
    cases e : F i
    · rfl
    · rw [hF i e]; rfl
  | k + 1, i => by
    obtain ⟨i1, i2⟩ := ch_sub (w := w) (h := h) (sh := sh) (M := M) (B := B) (a := a) hF k i
    unfold chS
    split
    · refine ⟨fun c => i1 (uncH_sub c).1, ?_⟩
      show ((chS w h sh M a k (H, B, F)).2.2 i && uncH w h sh M k (chS w h sh M a k (H, B, F)).1 i) = (F i && uncH w h sh M k (chS w h sh M a k (H, B, F)).1 i)
      rw [i2]
      cases e : uncH w h sh M k (chS w h sh M a k (H, B, F)).1 i
      · simp
      · rw [(uncH_sub e).1]
        simp
    · exact ⟨i1, i2⟩
section XC
variable {I : tg_I} {J : tg_J} {P : Option Value → tg_I → tg_J → Prop} {w h sh : Nat} {M H B F : Nat → Bool} {mv kd md : Nat} {hist : Nat → hS} {R T : Nat → Bool}
theorem uncoverAround_ok {b a : Nat} (hb : isBd b) (gk : gOk w h sh) (g : gridX b w h sh I J) (ha : a < w * h) (ho : okS (w * h) M H B F) (hv : bst b (w * h) M H B F J)
    (hp : ∀ I' J', onlyB b I I' J J' → bst b (w * h) M (chS w h sh M a (w * h) (H, B, F)).1 (chS w h sh M a (w * h) (H, B, F)).2.1 (chS w h sh M a (w * h) (H, B, F)).2.2 J' → P none I' J') : call pgX zX1_uncoverAround [.ref b, .int (zI a)] I J P := by
  obtain ⟨hn1, hn2⟩ := mul_le100 gk
  refine e_X1_uncoverAround _ _ hb ?_
  have key := up_loop (L := fun k => ∀ I1 J1, onlyB b I I1 J J1 → bst b (w * h) M (chS w h sh M a k (H, B, F)).1 (chS w h sh M a k (H, B, F)).2.1 (chS w h sh M a k (H, B, F)).2.2 J1 → l_X1_uncoverAround_2 I1 J1 P b (zI a) (zI (fb_ct (nb w h sh a) k : Nat))) (w * h) ?_ ?_ 0 (Nat.zero_le _) I J onlyB.rf hv
  · exact key
  · intro I1 J1 o v
    have g1 := o.grid g
    have hd := (g1.2 a ha).2.1
    have hct : fb_ct (nb w h sh a) 128 = fb_ct (nb w h sh a) (w * h) := ct_ext (by omega) (fun k h1 _ => by
      cases e : nb w h sh a k
      · rfl
      · exact absurd (nb_lt e) (by omega))
    refine s_X1_uncoverAround_2 _ _ _ hb ?_
    rw [z_in (by omega) (by omega), z_cl (by omega)]
    refine ⟨by omega, fun _ => hp I1 J1 o v, fun c => absurd ?_ c⟩
    rw [hd, hct]
    exact Int32.le_refl _
  · intro k hk ih I1 J1 o v
    have g1 := o.grid g
    obtain ⟨r1, r2, r3⟩ := g1.2 a ha
    have hs := fb_ct_succ (nb w h sh a) k
    have okk := okS_ch (a := a) (sh := sh) ho k (by omega)
    cases e : nb w h sh a k
    · rw [e] at hs
      simp at hs
      have e1 : chS w h sh M a (k + 1) (H, B, F) = chS w h sh M a k (H, B, F) := by
        show (if _ then _ else _) = _
        rw [if_neg (by simp [e])]
      have := ih I1 J1 o (by rw [e1]; exact v)
      rw [hs] at this
      exact this
    · rw [e] at hs
      simp at hs
      have hlt : fb_ct (nb w h sh a) k < fb_ct (nb w h sh a) 128 := by
        have := fb_ct_mono (nb w h sh a) (show k + 1 ≤ 128 by omega)
        omega
      have h8 := nb_ct_le (w := w) (h := h) (sh := sh) a 128
      have hcell := r3 k (by omega) e
      refine s_X1_uncoverAround_2 _ _ _ hb ?_
      rw [z_in (by omega) (by omega), z_cl (by omega), r2, z_le (by omega) (by omega) (by omega) (by omega), show (8 : Int32) = zI 8 from rfl, z_mul, z_add, z_in (by omega) (by omega), show (a : Int) * 8 + ((fb_ct (nb w h sh a) k : Nat) : Int) = ((8 * a + fb_ct (nb w h sh a) k : Nat) : Int) by omega, z_cl (by omega), hcell]
      refine ⟨by omega, fun c => absurd c (by omega), fun _ => ⟨by omega, fun x1 ex => ?_⟩⟩
      subst ex
      have hnext : zI ((fb_ct (nb w h sh a) k : Nat) : Int) + 1 = zI ((fb_ct (nb w h sh a) (k + 1) : Nat) : Int) := by
        rw [hs, show (1 : Int32) = zI 1 from rfl, z_add]
        rfl
      rw [hnext]
      have same : ((chS w h sh M a k (H, B, F)).1 k && !(chS w h sh M a k (H, B, F)).2.2 k) = false → l_X1_uncoverAround_2 I1 J1 P b (zI a) (zI ((fb_ct (nb w h sh a) (k + 1) : Nat) : Int)) := fun hf => by
        have e1 : chS w h sh M a (k + 1) (H, B, F) = chS w h sh M a k (H, B, F) := by
          show (if _ then _ else _) = _
          rw [if_neg (by rw [e, Bool.true_and, hf]; simp)]
        exact ih I1 J1 o (by rw [e1]; exact v)
      obtain ⟨v1, v2, v3, v4, v5⟩ := v k (by omega)
      refine has_ok (bd_bits hb (by decide) (by decide)) (by omega) ⟨_, rfl, ?_⟩
      rw [v2, bi_0]
      refine ⟨fun c => same (by rw [c]; rfl), fun c => has_ok (bd_bits hb (by decide) (by decide)) (by omega) ⟨_, rfl, ?_⟩⟩
      rw [v5, bi_0]
      refine ⟨fun c2 => same (by simp at c2; rw [c2]; simp), fun c2 => ?_⟩
      have hh : (chS w h sh M a k (H, B, F)).1 k = true := by simpa using c
      refine uncover_ok hb gk g1 hk hh okk (fun _ => c2) v (fun I2 J2 o2 w2 => ⟨rfl, ih I2 J2 (o.tr o2) ?_⟩)
      have e1 : chS w h sh M a (k + 1) (H, B, F) = (uncH w h sh M k (chS w h sh M a k (H, B, F)).1, uncB M k (chS w h sh M a k (H, B, F)).2.1, fun i => (chS w h sh M a k (H, B, F)).2.2 i && uncH w h sh M k (chS w h sh M a k (H, B, F)).1 i) := by
        show (if _ then _ else _) = _
        rw [if_pos (by rw [e, hh, c2]; rfl)]
      rw [e1]
      exact w2
theorem ctH (ho : okS (w * h) M H B F) (hn : w * h ≤ 128) {J : tg_J} {k : Nat} (hs : ∀ i, i < 128 → sB J k i = H i) : fb_ct (sB J k) 128 = fb_ct H (w * h) := by
  rw [fb_ct_cong (q := H) hs]
  exact ct_ext hn (fun i h3 _ => (ho.1 i h3).1)
theorem x_chord (ho : okD ((w, h, sh), (M, H, B, F), (mv, hist), (kd, R, T, md))) (hr : relX ((w, h, sh), (M, H, B, F), (mv, hist), (kd, R, T, md)) I J) (x : Int32) (h0 : ¬ inC (w * h) x → P (some (.int (-1))) I J) (h1 : ∀ a : Nat, a < w * h → x = zI a → ¬ (opS (w * h) H B a = true ∧ nin w h sh F a + nin w h sh B a = nin w h sh M a) → P (some (.int (-2))) I J) (h2 : ∀ a : Nat, a < w * h → x = zI a → opS (w * h) H B a = true → nin w h sh F a + nin w h sh B a = nin w h sh M a → mv = 200 → P (some (.int (-4))) I J)
    (h3 : ∀ a : Nat, a < w * h → x = zI a → opS (w * h) H B a = true → nin w h sh F a + nin w h sh B a = nin w h sh M a → mv < 200 → ∀ I' J', relX ((w, h, sh), (M, chS w h sh M a (w * h) (H, B, F)), (mv + 1, pushH mv hist (H, B, F)), (kd, R, T, md)) I' J' → P (some (.int (zI ((fb_ct H (w * h) : Nat) - (fb_ct (chS w h sh M a (w * h) (H, B, F)).1 (w * h) : Nat))))) I' J') : call pgX zX8_chord [.ref 0, .int x] I J P := by
  obtain ⟨r1, r2, r3, r4, r5, r6, r7, r8, r9⟩ := id hr
  obtain ⟨gk, oS, omv, -⟩ := ho
  obtain ⟨hn1, hn2⟩ := mul_le100 gk
  refine e_X8_chord _ (xholds r1.1.2.2.2 hn2 x (fun a ha hx => ⟨_, rfl, fun _ => ?_, fun c => absurd c ne_1_0⟩) (fun c => ⟨_, rfl, fun c2 => absurd rfl c2, fun _ => h0 c⟩))
  have g1 := h1 a ha hx
  have g2 := h2 a ha hx
  have g3 := h3 a ha hx
  clear h0 h1 h2 h3
  subst hx
  obtain ⟨v1, v2, v3, v4, v5⟩ := r3 a (by omega)
  refine has_ok (k := 10) (bd_bits isBd1 (n := 9) (by decide) (by decide)) (by omega) ⟨_, rfl, ?_⟩
  rw [show sB J 10 a = opS (w * h) H B a from v3, bi_0]
  refine ⟨fun c => g1 (fun q => by rw [c] at q; cases q.1), fun c => ?_⟩
  have hO : opS (w * h) H B a = true := by simpa using c
  have eF : nin w h sh (sB J (1 + 11)) a = nin w h sh F a := nin_cong (fun i hi => (r3 i (by omega)).2.2.2.2)
  have eB : nin w h sh (sB J (1 + 10)) a = nin w h sh B a := nin_cong (fun i hi => (r3 i (by omega)).2.2.2.1)
  have eM : nin w h sh (sB J (1 + 7)) a = nin w h sh M a := nin_cong (fun i hi => (r3 i (by omega)).1)
  have b1 := nin_le (w := w) (h := h) (sh := sh) F a
  have b2 := nin_le (w := w) (h := h) (sh := sh) B a
  have b3 := nin_le (w := w) (h := h) (sh := sh) M a
  refine marked_ok isBd1 gk r1 ha ⟨_, rfl, number_ok isBd1 gk r1 ha ⟨_, rfl, ?_⟩⟩
  rw [eF, eB, eM, z_eq (by omega) (by omega) (by omega) (by omega), r4, show (200 : Int32) = zI (200 : Nat) from rfl, z_lt (by omega) (by omega) (by omega) (by omega)]
  refine ⟨fun c2 => ⟨fun c3 => keep_ok (by omega) hr (fun I4 J4 hr4 => ⟨rfl, ?_⟩), fun c3 => g2 hO (by omega) (by omega)⟩, fun c2 => g1 (fun q => c2 (by omega))⟩
  have v4 := hr4.2.2.1
  have b9 : isBits 9 := bd_bits isBd1 (n := 8) (by decide) (by decide)
  refine size_ok b9 ⟨_, rfl, uncoverAround_ok isBd1 gk hr4.1 ha oS v4 (fun I5 J5 o5 v5 => ⟨rfl, size_ok b9 ⟨_, rfl, ?_⟩⟩)⟩
  have okf := okS_ch (a := a) (sh := sh) oS (w * h) (Nat.le_refl _)
  rw [ctH oS (by omega) (fun i hi => (v4 i hi).2.1), ctH okf (by omega) (fun i hi => (v5 i hi).2.1), z_sub]
  exact g3 hO (by omega) (by omega) I5 J5 (relX_B hr4 o5 v5)
theorem x_edit (ho : okD ((w, h, sh), (M, H, B, F), (mv, hist), (kd, R, T, md))) (hr : relX ((w, h, sh), (M, H, B, F), (mv, hist), (kd, R, T, md)) I J) (x : Int32) (bv : Bool) (h0 : ¬ inC (w * h) x → P (some (.int (-1))) I J) (h1 : ∀ a : Nat, a < w * h → x = zI a → (fb_ct H (w * h) < w * h ∨ M a = bv) → P (some (.int (-2))) I J)
    (h2 : ∀ a : Nat, a < w * h → x = zI a → fb_ct H (w * h) = w * h → M a ≠ bv → ∀ J', relX ((w, h, sh), (fun i => if i = a then bv else M i, H, B, F), (mv, hist), (kd, R, T, md)) I J' → P (some (.int (zI (fb_ct (fun i => if i = a then bv else M i) (w * h) : Nat)))) I J') : call pgX zX8_edit [.ref 0, .int x, .int (bi bv)] I J P := by
  obtain ⟨r1, r2, r3, r4, r5, r6, r7, r8, r9⟩ := id hr
  obtain ⟨gk, oS, omv, -⟩ := ho
  obtain ⟨hn1, hn2⟩ := mul_le100 gk
  refine e_X8_edit _ _ (xholds r1.1.2.2.2 hn2 x (fun a ha hx => ⟨_, rfl, fun _ => ?_, fun c => absurd c ne_1_0⟩) (fun c => ⟨_, rfl, fun c2 => absurd rfl c2, fun _ => h0 c⟩))
  have g1 := h1 a ha hx
  have g2 := h2 a ha hx
  clear h0 h1 h2
  subst hx
  have b8 : isBits 8 := bd_bits isBd1 (n := 7) (by decide) (by decide)
  have hle := fb_ct_le H (w * h)
  refine size_ok (k := 9) (bd_bits isBd1 (n := 8) (by decide) (by decide)) ⟨_, rfl, ?_⟩
  rw [ctH oS (by omega) (fun i hi => (r3 i hi).2.1), show I 2 7 = zI (w * h : Nat) from r1.1.2.2.2, z_lt (by omega) (by omega) (by omega) (by omega)]
  refine ⟨fun c => g1 (Or.inl (by omega)), fun c => has_ok b8 (by omega) ⟨_, rfl, ?_⟩⟩
  rw [show sB J 8 a = M a from (r3 a (by omega)).1, bi_ne]
  refine ⟨fun c2 => put_ok b8 (by omega) (fun J4 o4 s4 => ⟨rfl, size_ok b8 ⟨_, rfl, ?_⟩⟩), fun c2 => g1 (Or.inr c2)⟩
  have s4' : ∀ i, i < 128 → sB J4 8 i = if i = a then bv else M i := fun i hi => by
    rw [s4 i hi]
    by_cases e : i = a
    · rw [if_pos e, if_pos e]
    · rw [if_neg e, if_neg e]; exact (r3 i hi).1
  have hc : fb_ct (sB J4 8) 128 = fb_ct (fun i => if i = a then bv else M i) (w * h) := by
    rw [fb_ct_cong (q := fun i => if i = a then bv else M i) s4']
    exact ct_ext (by omega) (fun i h3 _ => by
      rw [if_neg (by omega)]
      exact (oS.1 i h3).2.2)
  rw [hc]
  refine g2 (by omega) c2 J4 ⟨?_, fun i hi => ?_, fun i hi => ?_, r4, fun m hm => ?_, r6, fun i hi => ?_, fun i hi => ?_, r9⟩
  · unfold gridX xSz rowX rowB at r1 ⊢
    rw [o4 3 (by decide), o4 4 (by decide)]
    exact r1
  · rw [sB_of (o4 7 (by decide))]; exact r2 i hi
  · have v := r3 i hi
    refine ⟨s4' i hi, ?_, ?_, ?_, ?_⟩
    · rw [sB_of (o4 9 (by decide))]; exact v.2.1
    · rw [sB_of (o4 10 (by decide))]; exact v.2.2.1
    · rw [sB_of (o4 11 (by decide))]; exact v.2.2.2.1
    · rw [sB_of (o4 12 (by decide))]; exact v.2.2.2.2
  · unfold xHist
    rw [o4 16 (by decide)]
    exact r5 m hm
  · rw [sB_of (o4 62 (by decide))]; exact r7 i hi
  · rw [sB_of (o4 63 (by decide))]; exact r8 i hi
end XC
