/-! the desk of the reference -/
def hcode (n : Nat) (q : hS) (i : Nat) : Int32 := sc n q.1 q.2.1 i + (if q.2.2 i then 4 else 0)
def relM (S : dS) (I : tg_I) : Prop := match S with
  | ((w, h, sh), (M, H, B, F), (mv, hist), (kd, R, T, md)) => mst w h sh M H B F I ∧ I 0 10 = zI mv ∧ (∀ m i, m < mv → i < w * h → I 5 (100 * m + i) = hcode (w * h) (hist m) i) ∧ I 0 16 = zI kd ∧ (∀ i, i < 101 → I 9 i = bi (R i)) ∧ (∀ i, i < 101 → I 10 i = bi (T i)) ∧ I 0 8 = zI md
section MD
variable {I : tg_I} {J : tg_J} {P : Option Value → tg_I → tg_J → Prop} {w h sh : Nat} {M H B F : Nat → Bool} {mv kd md : Nat} {hist : Nat → hS} {R T : Nat → Bool}
theorem mholds {n : Nat} (hn : I 0 3 = zI n) (hn2 : n ≤ 100) (x : Int32) (h1 : ∀ a : Nat, a < n → x = zI a → P (some (.int 1)) I J) (h2 : ¬ inC n x → P (some (.int 0)) I J) : call pgM zX9_isCell [.ref 0, .int x] I J P := by
  refine e_X9_isCell _ ?_
  by_cases c : 0 ≤ x.toInt ∧ x.toInt < n
  · obtain ⟨a, ha⟩ := Int.eq_ofNat_of_zero_le c.1
    have hx : x = zI a := by rw [← ha]; exact (fb_asI x).symm
    have k1 := h1 a (by omega) hx
    rw [hx, hn, show (0 : Int32) = zI 0 from rfl, z_lt (by omega) (by omega) (by omega) (by omega), z_le (by omega) (by omega) (by omega) (by omega)]
    exact ⟨fun q => absurd q (by omega), fun _ => ⟨fun q => absurd q (by omega), fun _ => k1⟩⟩
  · have k2 := h2 c
    refine ⟨fun _ => k2, fun q => ⟨fun _ => k2, fun q2 => absurd ?_ c⟩⟩
    rw [hn, fa_le, z_toInt (by omega) (by omega)] at q2
    rw [show (0 : Int32) = zI 0 from rfl, fa_lt, z_toInt (by omega) (by omega)] at q
    omega
theorem m_mended (hr : relM ((w, h, sh), (M, H, B, F), (mv, hist), (kd, R, T, md)) I) (hp : P (some (.int (zI md))) I J) : call pgM zX9_mended [.ref 0] I J P := by
  obtain ⟨r1, r2, r3, r4, r5, r6, r7⟩ := hr
  refine e_X9_mended ?_
  rw [r7]; exact hp
theorem m_kind (hr : relM ((w, h, sh), (M, H, B, F), (mv, hist), (kd, R, T, md)) I) (hp : P (some (.int (zI kd))) I J) : call pgM zX9_kind [.ref 0] I J P := by
  obtain ⟨r1, r2, r3, r4, r5, r6, r7⟩ := hr
  refine e_X9_kind ?_
  rw [r4]; exact hp
theorem m_solved (ho : okD ((w, h, sh), (M, H, B, F), (mv, hist), (kd, R, T, md))) (hr : relM ((w, h, sh), (M, H, B, F), (mv, hist), (kd, R, T, md)) I) (hp : ∀ r : Bool, (r = true ↔ ∀ i, i < w * h → H i = true → M i = true) → P (some (.int (bi r))) I J) : call pgM zX9_solved [.ref 0] I J P :=
  e_X9_solved (misSolved_ok ho.1 hr.1 (fun r hr => ⟨_, rfl, nrw01 (bi01 r), hp r hr⟩))
theorem m_mined (ho : okD ((w, h, sh), (M, H, B, F), (mv, hist), (kd, R, T, md))) (hr : relM ((w, h, sh), (M, H, B, F), (mv, hist), (kd, R, T, md)) I) (x : Int32) (h1 : ∀ a : Nat, a < w * h → x = zI a → P (some (.int (bi (M a)))) I J) (h2 : ¬ inC (w * h) x → P (some (.int 0)) I J) : call pgM zX9_mined [.ref 0, .int x] I J P := by
  obtain ⟨r1, r2, r3, r4, r5, r6, r7⟩ := hr
  obtain ⟨hn1, hn2⟩ := mul_le100 ho.1
  refine e_X9_mined _ (mholds r1.1.2.2.2 hn2 x (fun a ha hx => ⟨_, rfl, fun c => absurd c ne_1_0, fun _ => ?_⟩) (fun c => ⟨_, rfl, fun _ => h2 c, fun c2 => absurd rfl c2⟩))
  have hm := h1 a ha hx
  subst hx
  rw [z_in (by omega) (by omega), z_cl (by omega), (r1.2.2 a (by omega)).1, bi_0]
  refine ⟨by omega, fun c => ?_, fun c => ?_⟩
  · rw [c] at hm; exact hm
  · rw [show M a = true by simpa using c] at hm; exact hm
theorem m_shown (ho : okD ((w, h, sh), (M, H, B, F), (mv, hist), (kd, R, T, md))) (hr : relM ((w, h, sh), (M, H, B, F), (mv, hist), (kd, R, T, md)) I) (x : Int32) (h1 : ∀ a : Nat, a < w * h → x = zI a → P (some (.int (if H a then (if F a then 10 else 9) else if B a then 11 else zI (nin w h sh M a : Nat)))) I J) (h2 : ¬ inC (w * h) x → P (some (.int (-1))) I J) : call pgM zX9_shown [.ref 0, .int x] I J P := by
  obtain ⟨r1, r2, r3, r4, r5, r6, r7⟩ := hr
  obtain ⟨hn1, hn2⟩ := mul_le100 ho.1
  refine e_X9_shown _ (mholds r1.1.2.2.2 hn2 x (fun a ha hx => ⟨_, rfl, fun _ => ?_, fun c => absurd c ne_1_0⟩) (fun c => ⟨_, rfl, fun c2 => absurd rfl c2, fun _ => h2 c⟩))
  have hm := h1 a ha hx
  clear h1 h2
  subst hx
  obtain ⟨q1, q2, q3⟩ := r1.2.2 a (by omega)
  rw [z_in (by omega) (by omega), z_cl (by omega), q2, q3, sc_0 ha, sc_1 ha, bi_0]
  have hop : opS (w * h) H B a = (!H a && !B a) := by simp [opS, ha]
  refine ⟨by omega, fun c => ⟨by omega, fun c2 => ?_, fun c2 => ?_⟩, fun c => ⟨by omega, fun c2 => ?_, fun c2 => ?_⟩⟩
  · have hh : H a = false := by simpa using c
    rw [hop, hh] at c2
    rw [hh, show B a = true by simpa using c2] at hm
    exact hm
  · rw [hop] at c2
    have c3 : H a = false ∧ B a = false := by simpa using c2
    rw [c3.1, c3.2] at hm
    exact mnumber_ok ho.1 r1 ha ⟨_, rfl, hm⟩
  · rw [if_pos c, if_neg (by simp [c2])] at hm; exact hm
  · rw [if_pos c, if_pos (by simpa using c2)] at hm; exact hm
theorem m_total (hr : relM ((w, h, sh), (M, H, B, F), (mv, hist), (kd, R, T, md)) I) (hp : P (some (.int (bi (R 100)))) I J) : call pgM zX9_total [.ref 0] I J P := by
  obtain ⟨r1, r2, r3, r4, r5, r6, r7⟩ := hr
  refine e_X9_total ?_
  rw [show (100 : Int32) = zI (100 : Nat) from rfl, z_in (by omega) (by omega), z_cl (by omega), r5 100 (by omega)]
  exact ⟨by omega, nrw01 (bi01 _), hp⟩
/-- the k-th of a set, as a loop finds it -/
theorem m_reason (hr : relM ((w, h, sh), (M, H, B, F), (mv, hist), (kd, R, T, md)) I) (x : Int32) (hp1 : ∀ m : Nat, m < 100 → R m = true → (fb_ct R m : Int) = x.toInt → P (some (.int (zI m))) I J) (hp2 : (∀ m, m < 100 → R m = true → (fb_ct R m : Int) ≠ x.toInt) → P (some (.int (-1))) I J) : call pgM zX9_reason [.ref 0, .int x] I J P := by
  obtain ⟨r1, r2, r3, r4, r5, r6, r7⟩ := hr
  refine e_X9_reason _ ?_
  have key := up_loop (L := fun k => ∀ v : Int32, ((v = -1 ∧ ∀ m, m < k → R m = true → (fb_ct R m : Int) ≠ x.toInt) ∨ (∃ m : Nat, m < k ∧ R m = true ∧ (fb_ct R m : Int) = x.toInt ∧ v = zI m)) → l_X9_reason_7 I J P x (zI (fb_ct R k : Nat)) v (zI k)) 100 ?_ ?_ 0 (Nat.zero_le _) (-1) (Or.inl ⟨rfl, fun m hm => absurd hm (by omega)⟩)
  · exact key
  · intro v hv
    refine s_X9_reason_7 _ _ _ _ ⟨fun _ => ?_, fun c => absurd (Int32.le_refl _) c⟩
    rcases hv with ⟨rfl, hv⟩ | ⟨m, m1, m2, m3, rfl⟩
    · exact hp2 hv
    · exact hp1 m m1 m2 m3
  · intro k hk ih v hv
    have hle := fb_ct_le R k
    have hs := fb_ct_succ R k
    have hnx : zI (k : Int) + 1 = zI ((k + 1 : Nat) : Int) := by rw [show (1 : Int32) = zI 1 from rfl, z_add]; rfl
    refine s_X9_reason_7 _ _ _ _ ?_
    rw [show (100 : Int32) = zI (100 : Nat) from rfl, z_le (by omega) (by omega) (by omega) (by omega), z_in (by omega) (by omega), z_cl (by omega), r5 k (by omega), bi_0, hnx]
    refine ⟨fun c => absurd c (by omega), fun _ => ⟨by omega, fun c => ?_, fun c => ?_⟩⟩
    · rw [c] at hs
      simp at hs
      have := ih v (by
        rcases hv with ⟨e, hv⟩ | ⟨m, m1, m2, m3, e⟩
        · refine Or.inl ⟨e, fun m hm hm2 => ?_⟩
          by_cases q : m = k
          · rw [q, c] at hm2; cases hm2
          · exact hv m (by omega) hm2
        · exact Or.inr ⟨m, by omega, m2, m3, e⟩)
      rw [hs] at this
      exact this
    · have hR : R k = true := by simpa using c
      rw [hR] at hs
      simp at hs
      have hsz : zI ((fb_ct R k : Nat) : Int) + 1 = zI ((fb_ct R (k + 1) : Nat) : Int) := by rw [hs, show (1 : Int32) = zI 1 from rfl, z_add]; rfl
      rw [hsz, fa_eq, z_toInt (by omega) (by omega)]
      refine ⟨fun c2 => ih v ?_, fun c2 => ih (zI k) (Or.inr ⟨k, by omega, hR, c2, rfl⟩)⟩
      rcases hv with ⟨e, hv⟩ | ⟨m, m1, m2, m3, e⟩
      · refine Or.inl ⟨e, fun m hm hm2 => ?_⟩
        by_cases q : m = k
        · rw [q]; exact c2
        · exact hv m (by omega) hm2
      · exact Or.inr ⟨m, by omega, m2, m3, e⟩
theorem m_neighbour (ho : okD ((w, h, sh), (M, H, B, F), (mv, hist), (kd, R, T, md))) (hr : relM ((w, h, sh), (M, H, B, F), (mv, hist), (kd, R, T, md)) I) (x y : Int32) (hp1 : ∀ a m : Nat, a < w * h → x = zI a → m < w * h → nb w h sh a m = true → (fb_ct (nb w h sh a) m : Int) = y.toInt → P (some (.int (zI m))) I J) (hp2 : (∀ a m : Nat, a < w * h → x = zI a → m < w * h → nb w h sh a m = true → (fb_ct (nb w h sh a) m : Int) ≠ y.toInt) → P (some (.int (-1))) I J) : call pgM zX9_neighbour [.ref 0, .int x, .int y] I J P := by
  obtain ⟨r1, r2, r3, r4, r5, r6, r7⟩ := hr
  obtain ⟨hn1, hn2⟩ := mul_le100 ho.1
  refine e_X9_neighbour _ _ (mholds r1.1.2.2.2 hn2 x (fun a ha hx => ⟨_, rfl, fun _ => ?_, fun c => absurd c ne_1_0⟩) (fun c => ⟨_, rfl, fun c2 => absurd rfl c2, fun _ => hp2 (fun a m ha hx => absurd ?_ c)⟩))
  · have huniq : ∀ a' : Nat, a' < w * h → x = zI a' → a' = a := fun a' h1 h2 => by
      rw [hx, z_eq (by omega) (by omega) (by omega) (by omega)] at h2
      omega
    have k1 := fun m => hp1 a m ha hx
    have k2 : (∀ m : Nat, m < w * h → nb w h sh a m = true → (fb_ct (nb w h sh a) m : Int) ≠ y.toInt) → P (some (.int (-1))) I J := fun q => hp2 (fun a' m h1 h2 => by rw [huniq a' h1 h2]; exact q m)
    clear hp1 hp2 huniq
    subst hx
    have key := up_loop (L := fun k => ∀ v : Int32, ((v = -1 ∧ ∀ m, m < k → nb w h sh a m = true → (fb_ct (nb w h sh a) m : Int) ≠ y.toInt) ∨ (∃ m : Nat, m < k ∧ nb w h sh a m = true ∧ (fb_ct (nb w h sh a) m : Int) = y.toInt ∧ v = zI m)) → l_X9_neighbour_18 I J P (zI a) y v (zI (fb_ct (nb w h sh a) k : Nat)) (zI k)) (w * h) ?_ ?_ 0 (Nat.zero_le _) (-1) (Or.inl ⟨rfl, fun m hm => absurd hm (by omega)⟩)
    · exact key
    · intro v hv
      refine s_X9_neighbour_18 _ _ _ _ _ ⟨fun _ => ?_, fun c => absurd (by rw [r1.1.2.2.2]; exact Int32.le_refl _) c⟩
      rcases hv with ⟨rfl, hv⟩ | ⟨m, m1, m2, m3, rfl⟩
      · exact k2 hv
      · exact k1 m m1 m2 m3
    · intro k hk ih v hv
      have hle := fb_ct_le (nb w h sh a) k
      have hs := fb_ct_succ (nb w h sh a) k
      have hnx : zI (k : Int) + 1 = zI ((k + 1 : Nat) : Int) := by rw [show (1 : Int32) = zI 1 from rfl, z_add]; rfl
      refine s_X9_neighbour_18 _ _ _ _ _ ?_
      rw [r1.1.2.2.2, z_le (by omega) (by omega) (by omega) (by omega), hnx]
      refine ⟨fun c => absurd c (by omega), fun _ => mnear_ok ho.1 r1 ha hk ⟨_, rfl, ?_⟩⟩
      rw [bi_0]
      refine ⟨fun c => ?_, fun c => ?_⟩
      · rw [c] at hs
        simp at hs
        have := ih v (by
          rcases hv with ⟨e, hv⟩ | ⟨m, m1, m2, m3, e⟩
          · refine Or.inl ⟨e, fun m hm hm2 => ?_⟩
            by_cases q : m = k
            · rw [q, c] at hm2; cases hm2
            · exact hv m (by omega) hm2
          · exact Or.inr ⟨m, by omega, m2, m3, e⟩)
        rw [hs] at this
        exact this
      · have hR : nb w h sh a k = true := by simpa using c
        rw [hR] at hs
        simp at hs
        have hsz : zI ((fb_ct (nb w h sh a) k : Nat) : Int) + 1 = zI ((fb_ct (nb w h sh a) (k + 1) : Nat) : Int) := by rw [hs, show (1 : Int32) = zI 1 from rfl, z_add]; rfl
        rw [hsz, fa_eq, z_toInt (by omega) (by omega)]
        refine ⟨fun c2 => ih v ?_, fun c2 => ih (zI k) (Or.inr ⟨k, by omega, hR, c2, rfl⟩)⟩
        rcases hv with ⟨e, hv⟩ | ⟨m, m1, m2, m3, e⟩
        · refine Or.inl ⟨e, fun m hm hm2 => ?_⟩
          by_cases q : m = k
          · rw [q]; exact c2
          · exact hv m (by omega) hm2
        · exact Or.inr ⟨m, by omega, m2, m3, e⟩
  · rw [hx]
    unfold inC
    rw [z_toInt (by omega) (by omega)]
    omega
theorem ct_sc1 : fb_ct (fun i => decide (sc (w * h) H B i = 1)) (w * h) = fb_ct (opS (w * h) H B) (w * h) := fb_ct_cong (fun i hi => by
  cases e : opS (w * h) H B i
  · rw [decide_eq_false]
    intro q
    rw [(sc_1 hi).mp q] at e; cases e
  · exact decide_eq_true ((sc_1 hi).mpr e))
theorem ct_sc0 : fb_ct (fun i => decide (sc (w * h) H B i = 0)) (w * h) = fb_ct H (w * h) := fb_ct_cong (fun i hi => by
  cases e : H i
  · rw [decide_eq_false]
    intro q
    rw [(sc_0 hi).mp q] at e; cases e
  · exact decide_eq_true ((sc_0 hi).mpr e))
theorem ct_sc2 (hd : ∀ i, H i = true → B i = false) : fb_ct (fun i => decide (sc (w * h) H B i = 2)) (w * h) = fb_ct B (w * h) := fb_ct_cong (fun i hi => by
  cases e : B i
  · rw [decide_eq_false]
    intro q
    rw [(sc_2 hd hi).mp q] at e; cases e
  · exact decide_eq_true ((sc_2 hd hi).mpr e))
theorem m_count (ho : okD ((w, h, sh), (M, H, B, F), (mv, hist), (kd, R, T, md))) (hr : relM ((w, h, sh), (M, H, B, F), (mv, hist), (kd, R, T, md)) I) (x : Int32) (hp : P (some (.int (if x = 0 then zI w else if x = 1 then zI h else if x = 2 then zI sh else if x = 3 then zI (fb_ct M (w * h) : Nat) else if x = 4 then zI (fb_ct (opS (w * h) H B) (w * h) : Nat) else if x = 5 then zI (fb_ct F (w * h) : Nat) else if x = 6 then zI (fb_ct B (w * h) : Nat) else if x = 7 then zI mv else -1))) I J) : call pgM zX9_count [.ref 0, .int x] I J P := by
  obtain ⟨r1, r2, r3, r4, r5, r6, r7⟩ := hr
  obtain ⟨gk, oS, -⟩ := ho
  obtain ⟨hn1, hn2⟩ := mul_le100 gk
  refine e_X9_count _ ?_
  have key := up_loop (L := fun k => l_X9_count_4 I J P x (zI (fb_ct F k : Nat)) (zI k)) (w * h) ?_ ?_ 0 (Nat.zero_le _)
  · exact key
  · refine s_X9_count_4 _ _ _ ⟨fun _ => ⟨fun c => ?_, fun c => ?_, fun c => ?_, fun c => ?_, fun c => ?_, fun c => ?_, fun c => ?_, fun c => ?_, fun c => ?_⟩, fun c => absurd (by rw [r1.1.2.2.2]; exact Int32.le_refl _) c⟩
    · have : ∀ k : Int32, 0 ≤ k.toInt → k.toInt ≤ 7 → ¬ x = k := fun k k1 k2 e => by rw [e] at c; omega
      rw [if_neg (this 0 (by decide) (by decide)), if_neg (this 1 (by decide) (by decide)), if_neg (this 2 (by decide) (by decide)), if_neg (this 3 (by decide) (by decide)), if_neg (this 4 (by decide) (by decide)), if_neg (this 5 (by decide) (by decide)), if_neg (this 6 (by decide) (by decide)), if_neg (this 7 (by decide) (by decide))] at hp
      exact hp
    · subst c; rw [r1.1.1]; exact hp
    · subst c; rw [r1.1.2.1]; exact hp
    · subst c; rw [r1.1.2.2.1]; exact hp
    · subst c; exact mmines_ok gk r1 ⟨_, rfl, hp⟩
    · subst c; refine minState_ok gk r1 1 ⟨_, rfl, ?_⟩; rw [ct_sc1]; exact hp
    · subst c; exact hp
    · subst c; refine minState_ok gk r1 2 ⟨_, rfl, ?_⟩; rw [ct_sc2 oS.2.2.1]; exact hp
    · subst c; rw [r2]; exact hp
  · intro k hk ih
    refine s_X9_count_4 _ _ _ ?_
    rw [ctz, show zI ((k + 1 : Nat) : Int) = zI k + 1 by rw [show (1 : Int32) = zI 1 from rfl, z_add]; rfl] at ih
    rw [r1.1.2.2.2, z_le (by omega) (by omega) (by omega) (by omega), z_in (by omega) (by omega), z_cl (by omega), (r1.2.2 k (by omega)).2.2, bi_0]
    refine ⟨fun c => absurd c (by omega), fun _ => ⟨by omega, fun c => ?_, fun c => ?_⟩⟩
    · rw [c] at ih; exact ih
    · rw [show F k = true by simpa using c] at ih; exact ih
end MD
