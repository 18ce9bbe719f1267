/-! the reference's calls that change something -/
section MP
variable {I : tg_I} {J : tg_J} {P : Option Value → tg_I → tg_J → Prop} {w h sh : Nat} {M H B F : Nat → Bool} {mv kd md : Nat} {hist : Nat → hS} {R T : Nat → Bool}
theorem relM_3 {I' : tg_I} {H' B' F' : Nat → Bool} (hr : relM ((w, h, sh), (M, H, B, F), (mv, hist), (kd, R, T, md)) I) (o : ∀ q, q ≠ 3 → q ≠ 4 → q ≠ 23 → I' q = I q) (m : mst w h sh M H' B' F' I') : relM ((w, h, sh), (M, H', B', F'), (mv, hist), (kd, R, T, md)) I' := by
  obtain ⟨r1, r2, r3, r4, r5, r6, r7⟩ := hr
  refine ⟨m, ?_, ?_, ?_, ?_, ?_, ?_⟩
  · rw [o 0 (by decide) (by decide) (by decide)]; exact r2
  · rw [o 5 (by decide) (by decide) (by decide)]; exact r3
  · rw [o 0 (by decide) (by decide) (by decide)]; exact r4
  · rw [o 9 (by decide) (by decide) (by decide)]; exact r5
  · rw [o 10 (by decide) (by decide) (by decide)]; exact r6
  · rw [o 0 (by decide) (by decide) (by decide)]; exact r7
theorem move_ok (gk : gOk w h sh) (hm : mv < 200) (hr : relM ((w, h, sh), (M, H, B, F), (mv, hist), (kd, R, T, md)) I) (hp : ∀ I', relM ((w, h, sh), (M, H, B, F), (mv + 1, pushH mv hist (H, B, F)), (kd, R, T, md)) I' → P none I' J) : call pgM zX9_move [.ref 0] I J P := by
  obtain ⟨r1, r2, r3, r4, r5, r6, r7⟩ := hr
  obtain ⟨hn1, hn2⟩ := mul_le100 gk
  refine e_X9_move ?_
  have key := up_loop (L := fun k => ∀ I1, onlyI 5 I I1 → (∀ i, i < k → I1 5 (100 * mv + i) = hcode (w * h) (H, B, F) i) → (∀ i, i < 100 * mv → I1 5 i = I 5 i) → l_X9_move_2 I1 J P (zI k)) (w * h) ?_ ?_ 0 (Nat.zero_le _) I (fun _ _ => rfl) (fun i hi => absurd hi (by omega)) (fun _ _ => rfl)
  · exact key
  · intro I1 o e5 k5
    refine s_X9_move_2 _ ⟨fun _ I2 e2 => hp I2 ?_, fun c => absurd ?_ c⟩
    · have o2 : ∀ q, q ≠ 0 → q ≠ 5 → I2 q = I q := fun q h0 h5 => by rw [e2, u2_other _ _ _ _ h0]; exact o q h5
      have o0 : ∀ j, j ≠ 10 → I2 0 j = I 0 j := fun j hj => by rw [e2, u2_ne1 _ _ _ _ hj, o 0 (by decide)]
      have o5 : I2 5 = I1 5 := by rw [e2, u2_other _ _ _ _ (by decide)]
      refine ⟨⟨?_, ?_, ?_⟩, ?_, fun m i hm2 hi => ?_, ?_, ?_, ?_, ?_⟩
      · unfold mSz
        rw [o0 0 (by decide), o0 1 (by decide), o0 2 (by decide), o0 3 (by decide)]
        exact r1.1
      · rw [o2 1 (by decide) (by decide)]; exact r1.2.1
      · rw [o2 2 (by decide) (by decide), o2 3 (by decide) (by decide), o2 4 (by decide) (by decide)]; exact r1.2.2
      · rw [e2, u2_eq, o 0 (by decide), r2, show (1 : Int32) = zI 1 from rfl, z_add]; rfl
      · unfold pushH
        rw [o5]
        by_cases e : m = mv
        · rw [if_pos e, e]; exact e5 i hi
        · rw [if_neg e, k5 _ (by omega)]; exact r3 m i (by omega) hi
      · rw [o0 16 (by decide)]; exact r4
      · rw [o2 9 (by decide) (by decide)]; exact r5
      · rw [o2 10 (by decide) (by decide)]; exact r6
      · rw [o0 8 (by decide)]; exact r7
    · rw [o 0 (by decide), r1.1.2.2.2]; exact Int32.le_refl _
  · intro k hk ih I1 o e5 k5
    refine s_X9_move_2 _ ?_
    have hn : I1 0 3 = zI (w * h : Nat) := by rw [o 0 (by decide)]; exact r1.1.2.2.2
    have h10 : I1 0 10 = zI mv := by rw [o 0 (by decide)]; exact r2
    have h3 : I1 3 k = sc (w * h) H B k := by rw [o 3 (by decide)]; exact (r1.2.2 k (by omega)).2.1
    have h4 : I1 4 k = bi (F k) := by rw [o 4 (by decide)]; exact (r1.2.2 k (by omega)).2.2
    have hnx : zI (k : Int) + 1 = zI ((k + 1 : Nat) : Int) := by rw [show (1 : Int32) = zI 1 from rfl, z_add]; rfl
    rw [hn, z_le (by omega) (by omega) (by omega) (by omega), z_in (by omega) (by omega), z_cl (by omega), h10, show (100 : Int32) = zI 100 from rfl, z_mul, z_add, show (100 : Int) * mv + k = ((100 * mv + k : Nat) : Int) by omega, z_in (by omega) (by omega), z_cl (by omega), h3, h4, bi_0, hnx]
    have fin : ∀ (v : Int32) (I2 : tg_I), v = hcode (w * h) (H, B, F) k → I2 = u2 I1 5 (100 * mv + k) v → l_X9_move_2 I2 J P (zI ((k + 1 : Nat) : Int)) := fun v I2 ev e2 => by
      refine ih I2 (fun q hq => by rw [e2, u2_other _ _ _ _ hq]; exact o q hq) (fun i hi => ?_) (fun i hi => ?_)
      · rw [e2, u2_at]
        by_cases e : i = k
        · rw [if_pos (by omega), e, ev]
        · rw [if_neg (by omega)]; exact e5 i (by omega)
      · rw [e2, u2_at, if_neg (by omega)]; exact k5 i hi
    refine ⟨fun c => absurd c (by omega), fun _ => ⟨by omega, by omega, fun c => ⟨by omega, fun I2 e2 => fin _ I2 ?_ e2⟩, fun c => ⟨by omega, fun I2 e2 => fin _ I2 ?_ e2⟩⟩⟩
    · unfold hcode
      rw [if_neg (by simp [c])]
    · unfold hcode
      rw [if_pos (by simpa using c)]
theorem m_open (ho : okD ((w, h, sh), (M, H, B, F), (mv, hist), (kd, R, T, md))) (hr : relM ((w, h, sh), (M, H, B, F), (mv, hist), (kd, R, T, md)) I) (x : Int32) (h0 : ¬ inC (w * h) x → P (some (.int (-1))) I J) (h1 : ∀ a : Nat, a < w * h → x = zI a → (H a = false ∨ F a = true) → P (some (.int (-2))) I J) (h2 : ∀ a : Nat, a < w * h → x = zI a → H a = true → F a = false → mv = 200 → P (some (.int (-4))) I J)
    (h3 : ∀ a : Nat, a < w * h → x = zI a → H a = true → F a = false → mv < 200 → ∀ I', relM ((w, h, sh), (M, uncH w h sh M a H, uncB M a B, fun i => F i && uncH w h sh M a H i), (mv + 1, pushH mv hist (H, B, F)), (kd, R, T, md)) I' → P (some (.int (if M a then -5 else zI (nin w h sh M a : Nat)))) I' J) : call pgM zX9_open [.ref 0, .int x] I J P := by
  obtain ⟨r1, r2, r3, r4, r5, r6, r7⟩ := id hr
  obtain ⟨gk, oS, omv, -⟩ := ho
  obtain ⟨hn1, hn2⟩ := mul_le100 gk
  refine e_X9_open _ (mholds r1.1.2.2.2 hn2 x (fun a ha hx => ⟨_, rfl, fun _ => ?_, fun c => absurd c ne_1_0⟩) (fun c => ⟨_, rfl, fun c2 => absurd rfl c2, fun _ => h0 c⟩))
  have g1 := h1 a ha hx
  have g2 := h2 a ha hx
  have g3 := h3 a ha hx
  clear h0 h1 h2 h3
  subst hx
  obtain ⟨q1, q2, q3⟩ := r1.2.2 a (by omega)
  rw [z_in (by omega) (by omega), z_cl (by omega), q2, q3, sc_0 ha, bi_0, r2, show (200 : Int32) = zI (200 : Nat) from rfl, z_eq (by omega) (by omega) (by omega) (by omega)]
  refine ⟨by omega, fun c => g1 (Or.inl (by simpa using c)), fun c => ⟨by omega, fun c2 => ⟨fun c3 => move_ok gk (by omega) hr (fun I2 hr2 => ⟨rfl, muncover_ok gk hr2.1 ha c oS (fun _ => c2) (fun I3 o3 m3 => ⟨rfl, ?_⟩)⟩), fun c3 => g2 c c2 (by omega)⟩, fun c2 => g1 (Or.inr (by simpa using c2))⟩⟩
  have g4 := g3 c c2 (by omega) I3 (relM_3 hr2 o3 m3)
  rw [(m3.2.2 a (by omega)).1, bi_0]
  refine ⟨by omega, fun c4 => ?_, fun c4 => ?_⟩
  · rw [if_neg (by simp [c4])] at g4
    exact mnumber_ok gk m3 ha ⟨_, rfl, g4⟩
  · rw [if_pos (by simpa using c4)] at g4
    exact g4
theorem mst_flag {I' : tg_I} {k : Nat} {v : Bool} (hm : mst w h sh M H B F I) (e4 : ∀ i, I' 4 i = if i = k then bi v else I 4 i) (eo : ∀ q, q ≠ 4 → I' q = I q) : mst w h sh M H B (fun i => if i = k then v else F i) I' := by
  obtain ⟨a1, a2, a3⟩ := hm
  refine ⟨?_, ?_, fun i hi => ?_⟩
  · unfold mSz
    rw [eo 0 (by decide)]; exact a1
  · rw [eo 1 (by decide)]; exact a2
  · obtain ⟨b1, b2, b3⟩ := a3 i hi
    rw [eo 2 (by decide), eo 3 (by decide), e4]
    refine ⟨b1, b2, ?_⟩
    by_cases e : i = k
    · simp [e]
    · simp [e, b3]
theorem m_flag (ho : okD ((w, h, sh), (M, H, B, F), (mv, hist), (kd, R, T, md))) (hr : relM ((w, h, sh), (M, H, B, F), (mv, hist), (kd, R, T, md)) I) (x : Int32) (h0 : ¬ inC (w * h) x → P (some (.int (-1))) I J) (h1 : ∀ a : Nat, a < w * h → x = zI a → H a = false → P (some (.int (-2))) I J) (h2 : ∀ a : Nat, a < w * h → x = zI a → H a = true → mv = 200 → P (some (.int (-4))) I J)
    (h3 : ∀ a : Nat, a < w * h → x = zI a → H a = true → mv < 200 → ∀ I', relM ((w, h, sh), (M, H, B, fun i => if i = a then !F a else F i), (mv + 1, pushH mv hist (H, B, F)), (kd, R, T, md)) I' → P (some (.int (bi (!F a)))) I' J) : call pgM zX9_flag [.ref 0, .int x] I J P := by
  obtain ⟨r1, r2, r3, r4, r5, r6, r7⟩ := id hr
  obtain ⟨gk, oS, omv, -⟩ := ho
  obtain ⟨hn1, hn2⟩ := mul_le100 gk
  refine e_X9_flag _ (mholds r1.1.2.2.2 hn2 x (fun a ha hx => ⟨_, rfl, fun _ => ?_, fun c => absurd c ne_1_0⟩) (fun c => ⟨_, rfl, fun c2 => absurd rfl c2, fun _ => h0 c⟩))
  have g1 := h1 a ha hx
  have g2 := h2 a ha hx
  have g3 := h3 a ha hx
  clear h0 h1 h2 h3
  subst hx
  obtain ⟨q1, q2, q3⟩ := r1.2.2 a (by omega)
  rw [z_in (by omega) (by omega), z_cl (by omega), q2, sc_0 ha, r2, show (200 : Int32) = zI (200 : Nat) from rfl, z_eq (by omega) (by omega) (by omega) (by omega), nar0, nar1]
  refine ⟨by omega, fun c => ⟨fun c3 => move_ok gk (by omega) hr (fun I2 hr2 => ⟨rfl, by omega, ?_⟩), fun c3 => g2 c (by omega)⟩, fun c => g1 (by simpa using c)⟩
  rw [(hr2.1.2.2 a (by omega)).2.2, bi_0]
  refine ⟨fun c4 => ⟨by omega, fun I3 e3 => ⟨by omega, ?_⟩⟩, fun c4 => ⟨by omega, fun I3 e3 => ⟨by omega, ?_⟩⟩⟩
  · have hF : F a = true := by simpa using c4
    have m3 := mst_flag (I' := I3) (k := a) (v := !F a) hr2.1 (fun i => by rw [e3, u2_at, hF]; rfl) (fun q hq => by rw [e3, u2_other _ _ _ _ hq])
    have g4 := g3 c (by omega) I3 (relM_3 hr2 (fun q _ h4 _ => by rw [e3, u2_other _ _ _ _ h4]) m3)
    rw [hF] at g4
    rw [e3, u2_eq]
    rw [e3] at g4
    exact ⟨fun _ => g4, fun q => absurd rfl q⟩
  · have m3 := mst_flag (I' := I3) (k := a) (v := !F a) hr2.1 (fun i => by rw [e3, u2_at, c4]; rfl) (fun q hq => by rw [e3, u2_other _ _ _ _ hq])
    have g4 := g3 c (by omega) I3 (relM_3 hr2 (fun q _ h4 _ => by rw [e3, u2_other _ _ _ _ h4]) m3)
    rw [c4] at g4
    rw [e3, u2_eq]
    rw [e3] at g4
    exact ⟨fun q => absurd q ne_1_0, fun _ => g4⟩
theorem m_change (hr : relM ((w, h, sh), (M, H, B, F), (mv, hist), (kd, R, T, md)) I) {a : Nat} (ha : a < 101) (bv : Bool) (hp : ∀ I', relM ((w, h, sh), (M, H, B, F), (mv, hist), (kd, R, (fun i => if i = a then bv else T i), md)) I' → P (some (.int (bi (T a != bv)))) I' J) : call pgM zX9_change [.ref 0, .int (zI a), .int (bi bv)] I J P := by
  obtain ⟨r1, r2, r3, r4, r5, r6, r7⟩ := id hr
  refine e_X9_change _ _ ?_
  rw [z_in (by omega) (by omega), z_cl (by omega), r6 a ha, bi_ne, nar01 (bi01 bv)]
  have fin : ∀ I1, I1 = u2 I 10 a (bi bv) → P (some (.int (bi (T a != bv)))) I1 J := fun I1 e1 => by
    have o : ∀ q, q ≠ 10 → I1 q = I q := fun q hq => by rw [e1, u2_other _ _ _ _ hq]
    refine hp I1 ⟨mst_keep r1 (fun q hq => o q (by omega)), ?_, ?_, ?_, ?_, fun i hi => ?_, ?_⟩
    · rw [o 0 (by decide)]; exact r2
    · rw [o 5 (by decide)]; exact r3
    · rw [o 0 (by decide)]; exact r4
    · rw [o 9 (by decide)]; exact r5
    · rw [e1, u2_at]
      by_cases e : i = a
      · simp [e]
      · simp [e, r6 i hi]
    · rw [o 0 (by decide)]; exact r7
  refine ⟨by omega, fun c => ⟨by omega, fun I1 e1 => ?_⟩, fun c => ⟨by omega, fun I1 e1 => ?_⟩⟩
  · have := fin I1 e1
    rw [show (T a != bv) = true by simpa using c] at this
    exact this
  · have := fin I1 e1
    rw [show (T a != bv) = false by simpa using c] at this
    exact this
theorem m_tell (ho : okD ((w, h, sh), (M, H, B, F), (mv, hist), (kd, R, T, md))) (hr : relM ((w, h, sh), (M, H, B, F), (mv, hist), (kd, R, T, md)) I) (x : Int32) (bv : Bool) (h0 : ¬ inC (w * h) x → P (some (.int (-1))) I J) (h1 : ∀ a : Nat, a < w * h → x = zI a → ∀ I', relM ((w, h, sh), (M, H, B, F), (mv, hist), (kd, R, (fun i => if i = a then bv else T i), md)) I' → P (some (.int (bi (T a != bv)))) I' J) : call pgM zX9_tell [.ref 0, .int x, .int (bi bv)] I J P := by
  obtain ⟨r1, r2, r3, r4, r5, r6, r7⟩ := id hr
  obtain ⟨hn1, hn2⟩ := mul_le100 ho.1
  refine e_X9_tell _ _ (mholds r1.1.2.2.2 hn2 x (fun a ha hx => ⟨_, rfl, fun c => absurd c ne_1_0, fun _ => ?_⟩) (fun c => ⟨_, rfl, fun _ => h0 c, fun c2 => absurd rfl c2⟩))
  have g1 := h1 a ha hx
  clear h0 h1
  subst hx
  exact m_change hr (by omega) bv (fun J' hr' => ⟨_, rfl, g1 J' hr'⟩)
theorem m_name (hr : relM ((w, h, sh), (M, H, B, F), (mv, hist), (kd, R, T, md)) I) (bv : Bool) (hp : ∀ I', relM ((w, h, sh), (M, H, B, F), (mv, hist), (kd, R, (fun i => if i = 100 then bv else T i), md)) I' → P (some (.int (bi (T 100 != bv)))) I' J) : call pgM zX9_name [.ref 0, .int (bi bv)] I J P :=
  e_X9_name _ (m_change (a := 100) hr (by decide) bv (fun J' hr' => ⟨_, rfl, hp J' hr'⟩))
end MP
