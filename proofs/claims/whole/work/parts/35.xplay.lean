/-! the class's calls that change something -/
section XP
variable {I : tg_I} {J : tg_J} {P : Option Value → tg_I → tg_J → Prop} {w h sh : Nat} {M H B F : Nat → Bool} {mv kd md : Nat} {hist : Nat → hS} {R T : Nat → Bool}
theorem relX_B {I' : tg_I} {J' : tg_J} {H' B' F' : Nat → Bool} (hr : relX ((w, h, sh), (M, H, B, F), (mv, hist), (kd, R, T, md)) I J) (o : onlyB 1 I I' J J') (v : bst 1 (w * h) M H' B' F' J') : relX ((w, h, sh), (M, H', B', F'), (mv, hist), (kd, R, T, md)) I' J' := by
  obtain ⟨r1, r2, r3, r4, r5, r6, r7, r8, r9⟩ := hr
  obtain ⟨o1, o2⟩ := id o
  refine ⟨o.grid r1, fun i hi => ?_, v, ?_, fun m hm => ?_, ?_, fun i hi => ?_, fun i hi => ?_, ?_⟩
  · rw [sB_of (o2 7 (by decide) (by decide) (by decide) (by decide))]; exact r2 i hi
  · rw [o1 15 (by decide)]; exact r4
  · unfold xHist
    rw [o2 16 (by decide) (by decide) (by decide) (by decide)]
    exact r5 m hm
  · rw [o1 0 (by decide)]; exact r6
  · rw [sB_of (o2 62 (by decide) (by decide) (by decide) (by decide))]; exact r7 i hi
  · rw [sB_of (o2 63 (by decide) (by decide) (by decide) (by decide))]; exact r8 i hi
  · rw [o1 46 (by decide)]; exact r9
/-- a move is kept -/
def pushH (mv : Nat) (hist : Nat → hS) (q : hS) : Nat → hS := fun m => if m = mv then q else hist m
theorem keep_ok (hm : mv < 200) (hr : relX ((w, h, sh), (M, H, B, F), (mv, hist), (kd, R, T, md)) I J) (hp : ∀ I' J', relX ((w, h, sh), (M, H, B, F), (mv + 1, pushH mv hist (H, B, F)), (kd, R, T, md)) I' J' → P none I' J') : call pgX zX4_keep [.ref 15, .ref 1] I J P := by
  obtain ⟨r1, r2, r3, r4, r5, r6, r7, r8, r9⟩ := hr
  refine e_X4_keep _ isBd1 ?_
  rw [r4, show (200 : Int32) = zI (200 : Nat) from rfl, z_lt (by omega) (by omega) (by omega) (by omega), show (6 : Int32) = zI 6 from rfl, show (1 : Int32) = zI 1 from rfl, show (2 : Int32) = zI 2 from rfl, show (3 : Int32) = zI 3 from rfl, show (4 : Int32) = zI 4 from rfl, show (5 : Int32) = zI 5 from rfl]
  simp only [z_mul, z_add]
  rw [show (mv : Int) * 6 = ((6 * mv : Nat) : Int) by omega, show ((6 * mv : Nat) : Int) + 1 = ((6 * mv + 1 : Nat) : Int) by omega, show ((6 * mv : Nat) : Int) + 2 = ((6 * mv + 2 : Nat) : Int) by omega, show ((6 * mv : Nat) : Int) + 3 = ((6 * mv + 3 : Nat) : Int) by omega, show ((6 * mv : Nat) : Int) + 4 = ((6 * mv + 4 : Nat) : Int) by omega, show ((6 * mv : Nat) : Int) + 5 = ((6 * mv + 5 : Nat) : Int) by omega]
  rw [z_in (by omega) (by omega), z_in (by omega) (by omega), z_in (by omega) (by omega), z_in (by omega) (by omega), z_in (by omega) (by omega), z_in (by omega) (by omega), z_cl (by omega), z_cl (by omega), z_cl (by omega), z_cl (by omega), z_cl (by omega), z_cl (by omega)]
  refine ⟨fun _ => ⟨by omega, fun J1 e1 => ⟨by omega, fun J2 e2 => ⟨by omega, fun J3 e3 => ⟨by omega, fun J4 e4 => ⟨by omega, fun J5 e5 => ⟨by omega, fun J6 e6 I1 ei => ?_⟩⟩⟩⟩⟩⟩, fun c => absurd (by omega) c⟩
  have ho : ∀ q, q ≠ 16 → J6 q = J q := fun q hq => by rw [e6, u2_other _ _ _ _ hq, e5, u2_other _ _ _ _ hq, e4, u2_other _ _ _ _ hq, e3, u2_other _ _ _ _ hq, e2, u2_other _ _ _ _ hq, e1, u2_other _ _ _ _ hq]
  have hk : ∀ k, k < 6 * mv → J6 16 k = J 16 k := fun k hk => by rw [e6, u2_ne1 _ _ _ _ (by omega), e5, u2_ne1 _ _ _ _ (by omega), e4, u2_ne1 _ _ _ _ (by omega), e3, u2_ne1 _ _ _ _ (by omega), e2, u2_ne1 _ _ _ _ (by omega), e1, u2_ne1 _ _ _ _ (by omega)]
  have k5 : J6 16 (6 * mv + 5) = J 12 1 := by rw [e6, u2_eq, e5, u2_ne _ _ (by decide), e4, u2_ne _ _ (by decide), e3, u2_ne _ _ (by decide), e2, u2_ne _ _ (by decide), e1, u2_ne _ _ (by decide)]
  have k4 : J6 16 (6 * mv + 4) = J 12 0 := by rw [e6, u2_ne1 _ _ _ _ (by omega), e5, u2_eq, e4, u2_ne _ _ (by decide), e3, u2_ne _ _ (by decide), e2, u2_ne _ _ (by decide), e1, u2_ne _ _ (by decide)]
  have k3 : J6 16 (6 * mv + 3) = J 11 1 := by rw [e6, u2_ne1 _ _ _ _ (by omega), e5, u2_ne1 _ _ _ _ (by omega), e4, u2_eq, e3, u2_ne _ _ (by decide), e2, u2_ne _ _ (by decide), e1, u2_ne _ _ (by decide)]
  have k2 : J6 16 (6 * mv + 2) = J 11 0 := by rw [e6, u2_ne1 _ _ _ _ (by omega), e5, u2_ne1 _ _ _ _ (by omega), e4, u2_ne1 _ _ _ _ (by omega), e3, u2_eq, e2, u2_ne _ _ (by decide), e1, u2_ne _ _ (by decide)]
  have k1 : J6 16 (6 * mv + 1) = J 10 1 := by rw [e6, u2_ne1 _ _ _ _ (by omega), e5, u2_ne1 _ _ _ _ (by omega), e4, u2_ne1 _ _ _ _ (by omega), e3, u2_ne1 _ _ _ _ (by omega), e2, u2_eq, e1, u2_ne _ _ (by decide)]
  have k0 : J6 16 (6 * mv) = J 10 0 := by rw [e6, u2_ne1 _ _ _ _ (by omega), e5, u2_ne1 _ _ _ _ (by omega), e4, u2_ne1 _ _ _ _ (by omega), e3, u2_ne1 _ _ _ _ (by omega), e2, u2_ne1 _ _ _ _ (by omega), e1, u2_eq]
  have hi : ∀ q, q ≠ 15 → I1 q = I q := fun q hq => by rw [ei, u2_other _ _ _ _ hq]
  refine hp I1 J6 ⟨?_, fun i hi => ?_, fun i hi => ?_, ?_, fun m hm2 => ?_, ?_, fun i hi => ?_, fun i hi => ?_, ?_⟩
  · unfold gridX xSz rowX rowB at r1 ⊢
    rw [hi 2 (by decide), hi 5 (by decide), hi 6 (by decide), ho 3 (by decide), ho 4 (by decide)]
    exact r1
  · rw [sB_of (ho 7 (by decide))]; exact r2 i hi
  · have := r3 i hi
    rw [sB_of (ho 8 (by decide)), sB_of (ho 9 (by decide)), sB_of (ho 10 (by decide)), sB_of (ho 11 (by decide)), sB_of (ho 12 (by decide))]
    exact this
  · rw [ei, u2_eq]; rfl
  · unfold pushH
    by_cases e : m = mv
    · rw [if_pos e, e]
      intro i hi
      rw [k0, k1, k2, k3, k4, k5]
      have := r3 i hi
      exact ⟨this.2.2.1, this.2.2.2.1, this.2.2.2.2⟩
    · rw [if_neg e]
      intro i hi
      rw [hk _ (by omega), hk _ (by omega), hk _ (by omega), hk _ (by omega), hk _ (by omega), hk _ (by omega)]
      exact r5 m (by omega) i hi
  · rw [hi 0 (by decide)]; exact r6
  · rw [sB_of (ho 62 (by decide))]; exact r7 i hi
  · rw [sB_of (ho 63 (by decide))]; exact r8 i hi
  · rw [hi 46 (by decide)]; exact r9
theorem x_open (ho : okD ((w, h, sh), (M, H, B, F), (mv, hist), (kd, R, T, md))) (hr : relX ((w, h, sh), (M, H, B, F), (mv, hist), (kd, R, T, md)) I J) (x : Int32) (h0 : ¬ inC (w * h) x → P (some (.int (-1))) I J) (h1 : ∀ a : Nat, a < w * h → x = zI a → (H a = false ∨ F a = true) → P (some (.int (-2))) I J) (h2 : ∀ a : Nat, a < w * h → x = zI a → H a = true → F a = false → mv = 200 → P (some (.int (-4))) I J)
    (h3 : ∀ a : Nat, a < w * h → x = zI a → H a = true → F a = false → mv < 200 → ∀ I' J', relX ((w, h, sh), (M, uncH w h sh M a H, uncB M a B, fun i => F i && uncH w h sh M a H i), (mv + 1, pushH mv hist (H, B, F)), (kd, R, T, md)) I' J' → P (some (.int (if M a then -5 else zI (nin w h sh M a : Nat)))) I' J') : call pgX zX8_open [.ref 0, .int x] I J P := by
  obtain ⟨r1, r2, r3, r4, r5, r6, r7, r8, r9⟩ := id hr
  obtain ⟨gk, oS, omv, -⟩ := ho
  obtain ⟨hn1, hn2⟩ := mul_le100 gk
  refine e_X8_open _ (xholds r1.1.2.2.2 hn2 x (fun a ha hx => ⟨_, rfl, fun _ => ?_, fun c => absurd c ne_1_0⟩) (fun c => ⟨_, rfl, fun c2 => absurd rfl c2, fun _ => h0 c⟩))
  have g1 := h1 a ha hx
  have g2 := h2 a ha hx
  have g3 := h3 a ha hx
  clear h0 h1 h2 h3
  subst hx
  obtain ⟨v1, v2, v3, v4, v5⟩ := r3 a (by omega)
  refine has_ok (k := 9) (bd_bits isBd1 (n := 8) (by decide) (by decide)) (by omega) ⟨_, rfl, ?_⟩
  rw [show sB J 9 a = H a from v2, bi_0]
  refine ⟨fun c => g1 (Or.inl c), fun c => ?_⟩
  have hH : H a = true := by simpa using c
  refine has_ok (k := 12) (bd_bits isBd1 (n := 11) (by decide) (by decide)) (by omega) ⟨_, rfl, ?_⟩
  rw [show sB J 12 a = F a from v5, bi_0]
  refine ⟨fun c2 => ?_, fun c2 => g1 (Or.inr (by simpa using c2))⟩
  rw [r4, show (200 : Int32) = zI (200 : Nat) from rfl, z_lt (by omega) (by omega) (by omega) (by omega)]
  refine ⟨fun c3 => keep_ok (by omega) hr (fun I4 J4 hr4 => ⟨rfl, ?_⟩), fun c3 => g2 hH c2 (by omega)⟩
  obtain ⟨s1, s2, s3, s4, s5, s6, s7, s8, s9⟩ := id hr4
  refine uncover_ok isBd1 gk s1 ha hH oS (fun _ => c2) s3 (fun I5 J5 o5 v5 => ⟨rfl, ?_⟩)
  have hr5 := relX_B hr4 o5 v5
  have g4 := g3 hH c2 (by omega) I5 J5 hr5
  refine has_ok (k := 8) (bd_bits isBd1 (n := 7) (by decide) (by decide)) (by omega) ⟨_, rfl, ?_⟩
  rw [show sB J5 8 a = M a from (v5 a (by omega)).1, bi_0]
  refine ⟨fun c4 => ?_, fun c4 => ?_⟩
  · rw [if_neg (by simp [c4])] at g4
    refine number_ok isBd1 gk hr5.1 ha ⟨_, rfl, ?_⟩
    rw [nin_cong (fun i hi => (v5 i (by omega)).1)]
    exact g4
  · rw [if_pos (by simpa using c4)] at g4
    exact g4
theorem bi_ne {x y : Bool} : bi x = bi y ↔ x = y := by cases x <;> cases y <;> decide
theorem relX_F {J' : tg_J} {F' : Nat → Bool} (hr : relX ((w, h, sh), (M, H, B, F), (mv, hist), (kd, R, T, md)) I J) (o : onlyJ 12 J J') (s : ∀ i, i < 128 → sB J' 12 i = F' i) : relX ((w, h, sh), (M, H, B, F'), (mv, hist), (kd, R, T, md)) I J' := by
  refine relX_B hr ⟨fun _ _ => rfl, fun q _ _ _ q12 => o q q12⟩ (fun i hi => ?_)
  obtain ⟨v1, v2, v3, v4, v5⟩ := hr.2.2.1 i hi
  refine ⟨?_, ?_, ?_, ?_, s i hi⟩
  · rw [sB_of (o 8 (by decide))]; exact v1
  · rw [sB_of (o 9 (by decide))]; exact v2
  · rw [sB_of (o 10 (by decide))]; exact v3
  · rw [sB_of (o 11 (by decide))]; exact v4
theorem x_flag (ho : okD ((w, h, sh), (M, H, B, F), (mv, hist), (kd, R, T, md))) (hr : relX ((w, h, sh), (M, H, B, F), (mv, hist), (kd, R, T, md)) I J) (x : Int32) (h0 : ¬ inC (w * h) x → P (some (.int (-1))) I J) (h1 : ∀ a : Nat, a < w * h → x = zI a → H a = false → P (some (.int (-2))) I J) (h2 : ∀ a : Nat, a < w * h → x = zI a → H a = true → mv = 200 → P (some (.int (-4))) I J)
    (h3 : ∀ a : Nat, a < w * h → x = zI a → H a = true → mv < 200 → ∀ I' J', relX ((w, h, sh), (M, H, B, fun i => if i = a then !F a else F i), (mv + 1, pushH mv hist (H, B, F)), (kd, R, T, md)) I' J' → P (some (.int (bi (!F a)))) I' J') : call pgX zX8_flag [.ref 0, .int x] I J P := by
  obtain ⟨r1, r2, r3, r4, r5, r6, r7, r8, r9⟩ := id hr
  obtain ⟨gk, oS, omv, -⟩ := ho
  obtain ⟨hn1, hn2⟩ := mul_le100 gk
  refine e_X8_flag _ (xholds r1.1.2.2.2 hn2 x (fun a ha hx => ⟨_, rfl, fun _ => ?_, fun c => absurd c ne_1_0⟩) (fun c => ⟨_, rfl, fun c2 => absurd rfl c2, fun _ => h0 c⟩))
  have g1 := h1 a ha hx
  have g2 := h2 a ha hx
  have g3 := h3 a ha hx
  clear h0 h1 h2 h3
  subst hx
  obtain ⟨v1, v2, v3, v4, v5⟩ := r3 a (by omega)
  refine has_ok (k := 9) (bd_bits isBd1 (n := 8) (by decide) (by decide)) (by omega) ⟨_, rfl, ?_⟩
  rw [show sB J 9 a = H a from v2, bi_0]
  refine ⟨fun c => ?_, fun c => g1 c⟩
  have hH : H a = true := by simpa using c
  rw [r4, show (200 : Int32) = zI (200 : Nat) from rfl, z_lt (by omega) (by omega) (by omega) (by omega)]
  refine ⟨fun c3 => keep_ok (by omega) hr (fun I4 J4 hr4 => ⟨rfl, ?_⟩), fun c3 => g2 hH (by omega)⟩
  have b12 : isBits 12 := bd_bits isBd1 (n := 11) (by decide) (by decide)
  have g3 := g3 hH (by omega)
  refine has_ok (k := 12) b12 (by omega) ⟨_, rfl, ?_⟩
  rw [show sB J4 12 a = F a from (hr4.2.2.1 a (by omega)).2.2.2.2, bi_0]
  have fin : ∀ bv : Bool, bv = !F a → ∀ J5, onlyJ 12 J4 J5 → (∀ j, j < 128 → sB J5 12 j = if j = a then bv else sB J4 12 j) → call pgX zX0_has [.ref 12, .int (zI a)] I4 J5 (fun vr I6 J6 => ∃ r4 : Int32, vr = some (.int r4) ∧ ((r4 = 0 → P (some (.int 0)) I6 J6) ∧ (¬ r4 = 0 → P (some (.int 1)) I6 J6))) := by
    intro bv eb J5 o5 s5
    have hr5 := relX_F (F' := fun i => if i = a then !F a else F i) hr4 o5 (fun i hi => by
      rw [s5 i hi, eb]
      by_cases e : i = a
      · rw [if_pos e, if_pos e]
      · rw [if_neg e, if_neg e]; exact (hr4.2.2.1 i hi).2.2.2.2)
    have g5 := g3 I4 J5 hr5
    refine has_ok (k := 12) b12 (by omega) ⟨_, rfl, ?_⟩
    rw [s5 a (by omega), if_pos rfl, bi_0]
    rw [← eb] at g5
    refine ⟨fun c => ?_, fun c => ?_⟩
    · rw [c] at g5; exact g5
    · rw [show bv = true by simpa using c] at g5; exact g5
  refine ⟨fun c4 => put_ok (b := false) b12 (by omega) (fun J5 o5 s5 => ⟨rfl, ?_⟩), fun c4 => put_ok (b := true) b12 (by omega) (fun J5 o5 s5 => ⟨rfl, ?_⟩)⟩
  · exact fin false (by rw [show F a = true by simpa using c4]; rfl) J5 o5 s5
  · exact fin true (by rw [c4]; rfl) J5 o5 s5
theorem relX_J {J' : tg_J} {R' T' : Nat → Bool} (hr : relX ((w, h, sh), (M, H, B, F), (mv, hist), (kd, R, T, md)) I J) (o : ∀ q, q ≠ 62 → q ≠ 63 → J' q = J q) (s : ∀ i, i < 128 → sB J' 62 i = R' i) (t : ∀ i, i < 128 → sB J' 63 i = T' i) : relX ((w, h, sh), (M, H, B, F), (mv, hist), (kd, R', T', md)) I J' := by
  obtain ⟨r1, r2, r3, r4, r5, r6, r7, r8, r9⟩ := hr
  refine ⟨?_, fun i hi => ?_, fun i hi => ?_, r4, fun m hm => ?_, r6, s, t, r9⟩
  · unfold gridX xSz rowX rowB at r1 ⊢
    rw [o 3 (by decide) (by decide), o 4 (by decide) (by decide)]
    exact r1
  · rw [sB_of (o 7 (by decide) (by decide))]; exact r2 i hi
  · have := r3 i hi
    rw [sB_of (o 8 (by decide) (by decide)), sB_of (o 9 (by decide) (by decide)), sB_of (o 10 (by decide) (by decide)), sB_of (o 11 (by decide) (by decide)), sB_of (o 12 (by decide) (by decide))]
    exact this
  · unfold xHist
    rw [o 16 (by decide) (by decide)]
    exact r5 m hm
theorem x_putTold (hr : relX ((w, h, sh), (M, H, B, F), (mv, hist), (kd, R, T, md)) I J) {a : Nat} (ha : a < 128) (bv : Bool) (hp : ∀ J', relX ((w, h, sh), (M, H, B, F), (mv, hist), (kd, R, (fun i => if i = a then bv else T i), md)) I J' → P (some (.int (bi (T a != bv)))) I J') : call pgX zX8_putTold [.ref 0, .int (zI a), .int (bi bv)] I J P := by
  obtain ⟨r1, r2, r3, r4, r5, r6, r7, r8, r9⟩ := id hr
  refine e_X8_putTold _ _ (has_ok bits63 ha ⟨_, rfl, ?_⟩)
  rw [r8 a ha, bi_ne]
  refine ⟨fun c => put_ok bits63 ha (fun J' o s => ⟨rfl, ?_⟩), fun c => ?_⟩
  · have := hp J' (relX_J hr (fun q _ h63 => o q h63) (fun i hi => by rw [sB_of (o 62 (by decide))]; exact r7 i hi) (fun i hi => by
      rw [s i hi]
      by_cases e : i = a
      · rw [if_pos e, if_pos e]
      · rw [if_neg e, if_neg e]; exact r8 i hi))
    rw [show (T a != bv) = true by simpa using c] at this
    exact this
  · have := hp J (relX_J hr (fun _ _ _ => rfl) r7 (fun i hi => by
      by_cases e : i = a
      · rw [if_pos e, e, r8 a ha]; exact c
      · rw [if_neg e]; exact r8 i hi))
    rw [show (T a != bv) = false by simpa using c] at this
    exact this
theorem x_tell (ho : okD ((w, h, sh), (M, H, B, F), (mv, hist), (kd, R, T, md))) (hr : relX ((w, h, sh), (M, H, B, F), (mv, hist), (kd, R, T, md)) I J) (x : Int32) (bv : Bool) (h0 : ¬ inC (w * h) x → P (some (.int (-1))) I J) (h1 : ∀ a : Nat, a < w * h → x = zI a → ∀ J', relX ((w, h, sh), (M, H, B, F), (mv, hist), (kd, R, (fun i => if i = a then bv else T i), md)) I J' → P (some (.int (bi (T a != bv)))) I J') : call pgX zX8_tell [.ref 0, .int x, .int (bi bv)] I J P := by
  obtain ⟨r1, r2, r3, r4, r5, r6, r7, r8, r9⟩ := id hr
  obtain ⟨gk, oS, omv, -⟩ := ho
  obtain ⟨hn1, hn2⟩ := mul_le100 gk
  refine e_X8_tell _ _ (xholds r1.1.2.2.2 hn2 x (fun a ha hx => ⟨_, rfl, fun c => absurd c ne_1_0, fun _ => ?_⟩) (fun c => ⟨_, rfl, fun _ => h0 c, fun c2 => absurd rfl c2⟩))
  have g1 := h1 a ha hx
  clear h0 h1
  subst hx
  exact x_putTold hr (by omega) bv (fun J' hr' => ⟨_, rfl, g1 J' hr'⟩)
theorem x_name (hr : relX ((w, h, sh), (M, H, B, F), (mv, hist), (kd, R, T, md)) I J) (bv : Bool) (hp : ∀ J', relX ((w, h, sh), (M, H, B, F), (mv, hist), (kd, R, (fun i => if i = 100 then bv else T i), md)) I J' → P (some (.int (bi (T 100 != bv)))) I J') : call pgX zX8_name [.ref 0, .int (bi bv)] I J P :=
  e_X8_name _ (x_putTold (a := 100) hr (by decide) bv (fun J' hr' => ⟨_, rfl, hp J' hr'⟩))
theorem x_take (ho : okD ((w, h, sh), (M, H, B, F), (mv, hist), (kd, R, T, md))) (hr : relX ((w, h, sh), (M, H, B, F), (mv, hist), (kd, R, T, md)) I J) (hp : ∀ J', relX ((w, h, sh), (M, H, B, F), (mv, hist), (kd, R, R, md)) I J' → P (some (.int (zI (fb_ct R 100 : Nat)))) I J') : call pgX zX8_take [.ref 0] I J P := by
  obtain ⟨r1, r2, r3, r4, r5, r6, r7, r8, r9⟩ := id hr
  obtain ⟨gk, oS, omv, oh, ok, oR, oT, -⟩ := ho
  refine e_X8_take (copy_ok bits63 bits62 (fun J1 o1 s1 => ⟨rfl, size_ok bits63 ⟨_, rfl, has_ok (i := 100) bits63 (by decide) ⟨_, rfl, ?_⟩⟩⟩))
  have hr1 := hp J1 (relX_J hr (fun q _ h63 => o1 q h63) (fun i hi => by rw [sB_of (o1 62 (by decide))]; exact r7 i hi) (fun i hi => by rw [s1 i]; exact r7 i hi))
  have hc : fb_ct (sB J1 63) 128 = fb_ct R 101 := by
    rw [fb_ct_cong (q := R) (fun i hi => by rw [s1 i]; exact r7 i hi)]
    refine ct_ext (by decide) (fun i h1 _ => ?_)
    cases e : R i
    · rfl
    · have := oR i e; omega
  rw [hc, s1 100, r7 100 (by decide), bi_0, fb_ct_succ]
  refine ⟨fun c => ?_, fun c => ?_⟩
  · rw [c]
    rw [show (0 : Int32) = zI 0 from rfl, z_sub, show (((fb_ct R 100 + if false = true then 1 else 0 : Nat)) : Int) - 0 = ((fb_ct R 100 : Nat) : Int) by simp]
    exact hr1
  · rw [show R 100 = true by simpa using c]
    rw [show (1 : Int32) = zI 1 from rfl, z_sub, show (((fb_ct R 100 + if true = true then 1 else 0 : Nat)) : Int) - 1 = ((fb_ct R 100 : Nat) : Int) by simp]
    exact hr1
end XP
