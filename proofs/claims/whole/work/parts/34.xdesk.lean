/-! the desk: what the class's object says, in one value -/
abbrev hS : Type := (Nat → Bool) × (Nat → Bool) × (Nat → Bool)
abbrev dS : Type := (Nat × Nat × Nat) × ((Nat → Bool) × hS) × (Nat × (Nat → hS)) × (Nat × (Nat → Bool) × (Nat → Bool) × Nat)
/-- a kept move: open, blown and flagged cells -/
def xHist (n : Nat) (m : Nat) (q : hS) (J : tg_J) : Prop := ∀ i, i < 128 → bh (J 16 (6 * m)) (J 16 (6 * m + 1)) i = opS n q.1 q.2.1 i ∧ bh (J 16 (6 * m + 2)) (J 16 (6 * m + 3)) i = q.2.1 i ∧ bh (J 16 (6 * m + 4)) (J 16 (6 * m + 5)) i = q.2.2 i
def relX (S : dS) (I : tg_I) (J : tg_J) : Prop := match S with
  | ((w, h, sh), (M, H, B, F), (mv, hist), (kd, R, T, md)) => gridX 1 w h sh I J ∧ (∀ i, i < 128 → sB J 7 i = decide (i < w * h)) ∧ bst 1 (w * h) M H B F J ∧ I 15 1 = zI mv ∧ (∀ m, m < mv → xHist (w * h) m (hist m) J) ∧ I 0 7 = zI kd ∧ (∀ i, i < 128 → sB J 62 i = R i) ∧ (∀ i, i < 128 → sB J 63 i = T i) ∧ I 46 2 = zI md
def okD (S : dS) : Prop := match S with
  | ((w, h, sh), (M, H, B, F), (mv, hist), (kd, R, T, md)) => gOk w h sh ∧ okS (w * h) M H B F ∧ mv ≤ 200 ∧ (∀ m, m < mv → okS (w * h) M (hist m).1 (hist m).2.1 (hist m).2.2 ∧ (∀ i, H i = true → (hist m).1 i = true) ∧ ∀ m', m' ≤ m → ∀ i, (hist m).1 i = true → (hist m').1 i = true) ∧ kd ≤ 3 ∧ (∀ i, R i = true → i ≤ 100) ∧ (∀ i, T i = true → i ≤ 100) ∧ md ≤ 40
theorem isBd1 : isBd 1 := Or.inl rfl
theorem bits62 : isBits 62 := ⟨by decide, rfl⟩
theorem bits63 : isBits 63 := ⟨by decide, rfl⟩
section XD
variable {I : tg_I} {J : tg_J} {P : Option Value → tg_I → tg_J → Prop} {w h sh : Nat} {M H B F : Nat → Bool} {mv kd md : Nat} {hist : Nat → hS} {R T : Nat → Bool}
/-- a cell's number, or none such -/
def inC (n : Nat) (x : Int32) : Prop := 0 ≤ x.toInt ∧ x.toInt < n
theorem bi_t {r : Int32} {b : Bool} (e : r = bi b) (hr : ¬ r = 0) : b = true := by
  cases b
  · exact absurd e hr
  · rfl
theorem xholds {n : Nat} (hn : I 2 7 = zI n) (hn2 : n ≤ 100) (x : Int32) (h1 : ∀ a : Nat, a < n → x = zI a → P (some (.int 1)) I J) (h2 : ¬ inC n x → P (some (.int 0)) I J) : call pgX zX2_holds [.ref 2, .int x] I J P := by
  refine holds_ok (b := 1) isBd1 hn hn2 x ?_
  by_cases c : 0 ≤ x.toInt ∧ x.toInt < n
  · rw [decide_eq_true c]
    obtain ⟨a, ha⟩ := Int.eq_ofNat_of_zero_le c.1
    refine h1 a (by omega) ?_
    rw [← ha]
    exact (fb_asI x).symm
  · rw [decide_eq_false c]
    exact h2 c
theorem ne_1_0 : ¬ (1 : Int32) = 0 := by decide
theorem x_mended (hr : relX ((w, h, sh), (M, H, B, F), (mv, hist), (kd, R, T, md)) I J) (hp : P (some (.int (zI md))) I J) : call pgX zX8_mended [.ref 0] I J P := by
  obtain ⟨r1, r2, r3, r4, r5, r6, r7, r8, r9⟩ := hr
  refine e_X8_mended ?_
  rw [r9]
  exact hp
theorem x_kind (hr : relX ((w, h, sh), (M, H, B, F), (mv, hist), (kd, R, T, md)) I J) (hp : P (some (.int (zI kd))) I J) : call pgX zX8_kind [.ref 0] I J P := by
  obtain ⟨r1, r2, r3, r4, r5, r6, r7, r8, r9⟩ := hr
  refine e_X8_kind ?_
  rw [r6]
  exact hp
theorem x_solved (ho : okD ((w, h, sh), (M, H, B, F), (mv, hist), (kd, R, T, md))) (hr : relX ((w, h, sh), (M, H, B, F), (mv, hist), (kd, R, T, md)) I J) (hp : ∀ r : Bool, (r = true ↔ ∀ i, i < w * h → H i = true → M i = true) → P (some (.int (bi r))) I J) : call pgX zX8_solved [.ref 0] I J P := by
  obtain ⟨r1, r2, r3, r4, r5, r6, r7, r8, r9⟩ := hr
  obtain ⟨gk, oS, -⟩ := ho
  obtain ⟨hn1, hn2⟩ := mul_le100 gk
  refine e_X8_solved (cleared_ok isBd1 (fun r hr => ⟨_, rfl, nrw01 (bi01 r), hp r (hr.trans ⟨fun q i hi hi2 => ?_, fun q i hi hi2 => ?_⟩)⟩))
  · have v := r3 i (by omega)
    rw [← v.1]
    exact q i (by omega) (by rw [v.2.1]; exact hi2)
  · have v := r3 i hi
    rw [v.2.1] at hi2
    rw [v.1]
    refine q i ?_ hi2
    rcases Nat.lt_or_ge i (w * h) with z | z
    · exact z
    · rw [(oS.1 i z).1] at hi2; cases hi2
theorem x_mined (ho : okD ((w, h, sh), (M, H, B, F), (mv, hist), (kd, R, T, md))) (hr : relX ((w, h, sh), (M, H, B, F), (mv, hist), (kd, R, T, md)) I J) (x : Int32) (h1 : ∀ a : Nat, a < w * h → x = zI a → P (some (.int (bi (M a)))) I J) (h2 : ¬ inC (w * h) x → P (some (.int 0)) I J) : call pgX zX8_mined [.ref 0, .int x] I J P := by
  obtain ⟨r1, r2, r3, r4, r5, r6, r7, r8, r9⟩ := hr
  obtain ⟨gk, oS, -⟩ := ho
  obtain ⟨hn1, hn2⟩ := mul_le100 gk
  refine e_X8_mined _ (xholds r1.1.2.2.2 hn2 x (fun a ha hx => ⟨_, rfl, fun c => absurd c ne_1_0, fun _ => ?_⟩) (fun c => ⟨_, rfl, fun _ => h2 c, fun c2 => absurd rfl c2⟩))
  have hm := h1 a ha hx
  subst hx
  refine has_ok (k := 8) (bd_bits isBd1 (n := 7) (by decide) (by decide)) (by omega) ⟨_, rfl, fun c => ?_, fun c => ?_⟩
  · rw [show sB J 8 a = M a from (r3 a (by omega)).1, bi_0] at c
    rw [c] at hm; exact hm
  · rw [show sB J 8 a = M a from (r3 a (by omega)).1, bi_0] at c
    rw [show M a = true by simpa using c] at hm; exact hm
theorem x_shown (ho : okD ((w, h, sh), (M, H, B, F), (mv, hist), (kd, R, T, md))) (hr : relX ((w, h, sh), (M, H, B, F), (mv, hist), (kd, R, T, md)) I J) (x : Int32) (h1 : ∀ a : Nat, a < w * h → x = zI a → P (some (.int (if H a then (if F a then 10 else 9) else if B a then 11 else zI (nin w h sh M a : Nat)))) I J) (h2 : ¬ inC (w * h) x → P (some (.int (-1))) I J) : call pgX zX8_shown [.ref 0, .int x] I J P := by
  obtain ⟨r1, r2, r3, r4, r5, r6, r7, r8, r9⟩ := hr
  obtain ⟨gk, oS, -⟩ := ho
  obtain ⟨hn1, hn2⟩ := mul_le100 gk
  refine e_X8_shown _ (xholds r1.1.2.2.2 hn2 x (fun a ha hx => ⟨_, rfl, fun _ => ?_, fun c => absurd c ne_1_0⟩) (fun c => ⟨_, rfl, fun c2 => absurd rfl c2, fun _ => h2 c⟩))
  have hm := h1 a ha hx
  subst hx
  obtain ⟨v1, v2, v3, v4, v5⟩ := r3 a (by omega)
  refine has_ok (k := 10) (bd_bits isBd1 (n := 9) (by decide) (by decide)) (by omega) ⟨_, rfl, ?_⟩
  rw [show sB J 10 a = opS (w * h) H B a from v3, bi_0]
  have hop : opS (w * h) H B a = (!H a && !B a) := by simp [opS, ha]
  refine ⟨fun c => ?_, fun c => ?_⟩
  · refine has_ok (k := 11) (bd_bits isBd1 (n := 10) (by decide) (by decide)) (by omega) ⟨_, rfl, ?_⟩
    rw [show sB J 11 a = B a from v4, bi_0]
    refine ⟨fun c2 => ?_, fun c2 => ?_⟩
    · have hh : H a = true := by
        rw [hop, c2] at c
        simpa using c
      rw [if_pos hh] at hm
      refine has_ok (k := 12) (bd_bits isBd1 (n := 11) (by decide) (by decide)) (by omega) ⟨_, rfl, ?_⟩
      rw [show sB J 12 a = F a from v5, bi_0]
      refine ⟨fun c3 => ?_, fun c3 => ?_⟩
      · rw [if_neg (by simp [c3])] at hm; exact hm
      · rw [if_pos (by simpa using c3)] at hm; exact hm
    · have hb : B a = true := by simpa using c2
      have hh : H a = false := by
        cases e : H a
        · rfl
        · rw [oS.2.2.1 a e] at hb; cases hb
      rw [hh, hb] at hm
      exact hm
  · have hh : H a = false ∧ B a = false := by
      rw [hop] at c
      simpa using c
    rw [hh.1, hh.2] at hm
    refine number_ok isBd1 gk r1 ha ⟨_, rfl, ?_⟩
    rw [nin_cong (fun i hi => (r3 i (by omega)).1)]
    exact hm
theorem x_total (hr : relX ((w, h, sh), (M, H, B, F), (mv, hist), (kd, R, T, md)) I J) (hp : P (some (.int (bi (R 100)))) I J) : call pgX zX8_total [.ref 0] I J P := by
  obtain ⟨r1, r2, r3, r4, r5, r6, r7, r8, r9⟩ := hr
  refine e_X8_total (has_ok (i := 100) bits62 (by decide) ⟨_, rfl, nrw01 (bi01 _), ?_⟩)
  rw [r7 100 (by decide)]
  exact hp
theorem x_reason (hr : relX ((w, h, sh), (M, H, B, F), (mv, hist), (kd, R, T, md)) I J) (x : Int32) (hp1 : ∀ m : Nat, m < 100 → R m = true → (fb_ct R m : Int) = x.toInt → P (some (.int (zI m))) I J) (hp2 : (∀ m, m < 100 → R m = true → (fb_ct R m : Int) ≠ x.toInt) → P (some (.int (-1))) I J) : call pgX zX8_reason [.ref 0, .int x] I J P := by
  obtain ⟨r1, r2, r3, r4, r5, r6, r7, r8, r9⟩ := hr
  have ec : ∀ m, m ≤ 100 → fb_ct (sB J 62) m = fb_ct R m := fun m hm => fb_ct_cong (fun k hk => r7 k (by omega))
  refine e_X8_reason _ (nth_ok (n := 100) bits62 (by decide) x (fun m h1 h2 h3 => ⟨_, rfl, ?_⟩) (fun h1 => ⟨_, rfl, ?_⟩))
  · rw [ec m (by omega)] at h3
    exact hp1 m h1 (by rw [← r7 m (by omega)]; exact h2) h3
  · refine hp2 (fun m h2 h3 => ?_)
    rw [← ec m (by omega)]
    exact h1 m h2 (by rw [r7 m (by omega)]; exact h3)
theorem x_count (ho : okD ((w, h, sh), (M, H, B, F), (mv, hist), (kd, R, T, md))) (hr : relX ((w, h, sh), (M, H, B, F), (mv, hist), (kd, R, T, md)) I J) (x : Int32) (hp : P (some (.int (if x = 0 then zI w else if x = 1 then zI h else if x = 2 then zI sh else if x = 3 then zI (fb_ct M (w * h) : Nat) else if x = 4 then zI (fb_ct (opS (w * h) H B) (w * h) : Nat) else if x = 5 then zI (fb_ct F (w * h) : Nat) else if x = 6 then zI (fb_ct B (w * h) : Nat) else if x = 7 then zI mv else -1))) I J) : call pgX zX8_count [.ref 0, .int x] I J P := by
  obtain ⟨r1, r2, r3, r4, r5, r6, r7, r8, r9⟩ := hr
  obtain ⟨gk, oS, -⟩ := ho
  obtain ⟨hn1, hn2⟩ := mul_le100 gk
  obtain ⟨o1, o2, o3, o4, o5⟩ := oS
  have ct : ∀ (k : Nat) (S : Nat → Bool), (∀ i, i < 128 → sB J k i = S i) → (∀ i, w * h ≤ i → S i = false) → fb_ct (sB J k) 128 = fb_ct S (w * h) := fun k S h1 h2 => by
    rw [fb_ct_cong (fun i hi => h1 i hi)]
    exact ct_ext (by omega) (fun i h3 _ => h2 i h3)
  have s8 := ct 8 M (fun i hi => (r3 i hi).1) (fun i hi => (o1 i hi).2.2)
  have s10 := ct 10 (opS (w * h) H B) (fun i hi => (r3 i hi).2.2.1) (fun i hi => by simp [opS, show ¬ i < w * h by omega])
  have s11 := ct 11 B (fun i hi => (r3 i hi).2.2.2.1) (fun i hi => (o1 i hi).2.1)
  have s12 := ct 12 F (fun i hi => (r3 i hi).2.2.2.2) (fun i hi => by
    cases e : F i
    · rfl
    · have := o2 i e
      rw [(o1 i hi).1] at this; cases this)
  refine e_X8_count _ ⟨fun c => ?_, fun c => ?_, fun c => ?_, fun c => ?_, fun c => ?_, fun c => ?_, fun c => ?_, fun c => ?_, fun c => ?_⟩
  · have : ∀ k : Int32, 0 ≤ k.toInt → k.toInt ≤ 7 → ¬ x = k := fun k k1 k2 e => by rw [e] at c; omega
    rw [if_neg (this 0 (by decide) (by decide)), if_neg (this 1 (by decide) (by decide)), if_neg (this 2 (by decide) (by decide)), if_neg (this 3 (by decide) (by decide)), if_neg (this 4 (by decide) (by decide)), if_neg (this 5 (by decide) (by decide)), if_neg (this 6 (by decide) (by decide)), if_neg (this 7 (by decide) (by decide))] at hp
    exact hp
  · subst c; rw [show I 2 4 = zI w from r1.1.1]; exact hp
  · subst c; rw [show I 2 5 = zI h from r1.1.2.1]; exact hp
  · subst c; rw [show I 2 6 = zI sh from r1.1.2.2.1]; exact hp
  · subst c; refine size_ok (bd_bits isBd1 (n := 7) (by decide) (by decide)) ⟨_, rfl, ?_⟩; rw [s8]; exact hp
  · subst c; refine size_ok (bd_bits isBd1 (n := 9) (by decide) (by decide)) ⟨_, rfl, ?_⟩; rw [s10]; exact hp
  · subst c; refine size_ok (bd_bits isBd1 (n := 11) (by decide) (by decide)) ⟨_, rfl, ?_⟩; rw [s12]; exact hp
  · subst c; refine size_ok (bd_bits isBd1 (n := 10) (by decide) (by decide)) ⟨_, rfl, ?_⟩; rw [s11]; exact hp
  · subst c; rw [r4]; exact hp
theorem x_neighbour (ho : okD ((w, h, sh), (M, H, B, F), (mv, hist), (kd, R, T, md))) (hr : relX ((w, h, sh), (M, H, B, F), (mv, hist), (kd, R, T, md)) I J) (x y : Int32) (hp1 : ∀ a m : Nat, a < w * h → x = zI a → m < w * h → nb w h sh a m = true → (fb_ct (nb w h sh a) m : Int) = y.toInt → P (some (.int (zI m))) I J) (hp2 : (∀ a m : Nat, a < w * h → x = zI a → m < w * h → nb w h sh a m = true → (fb_ct (nb w h sh a) m : Int) ≠ y.toInt) → P (some (.int (-1))) I J) : call pgX zX8_neighbour [.ref 0, .int x, .int y] I J P := by
  obtain ⟨r1, r2, r3, r4, r5, r6, r7, r8, r9⟩ := hr
  obtain ⟨gk, oS, -⟩ := ho
  obtain ⟨hn1, hn2⟩ := mul_le100 gk
  refine e_X8_neighbour _ _ (xholds r1.1.2.2.2 hn2 x (fun a ha hx => ⟨_, rfl, fun c => absurd c ne_1_0, fun _ => ?_⟩) (fun c => ⟨_, rfl, fun _ => hp2 (fun a m ha hx => absurd ?_ c), fun c2 => absurd rfl c2⟩))
  · obtain ⟨y, y1, y2, rfl⟩ := z_of y
    rw [z_toInt y1 y2] at hp1 hp2
    obtain ⟨q1, q2, q3⟩ := r1.2 a ha
    have h8 := nb_ct_le (w := w) (h := h) (sh := sh) a 128
    have huniq : ∀ a' : Nat, a' < w * h → x = zI a' → a' = a := fun a' h1 h2 => by
      rw [hx, z_eq (by omega) (by omega) (by omega) (by omega)] at h2
      omega
    subst hx
    rw [show (0 : Int32) = zI 0 from rfl, z_lt (by omega) (by omega) (by omega) (by omega), z_in (by omega) (by omega), z_cl (by omega), show I 6 a = zI (fb_ct (nb w h sh a) 128 : Nat) from q2, z_lt (by omega) (by omega) (by omega) (by omega), show (8 : Int32) = zI 8 from rfl, z_mul, z_add]
    refine ⟨fun c => hp2 (fun a' m h1 h2 h3 h4 h5 => by omega), fun c => ⟨by omega, fun c2 => ?_, fun c2 => hp2 (fun a' m h1 h2 h3 h4 h5 => ?_)⟩⟩
    · obtain ⟨k, rfl⟩ := Int.eq_ofNat_of_zero_le (show 0 ≤ y by omega)
      obtain ⟨m, m1, m2, m3⟩ := fb_ct_kth (p := nb w h sh a) (k := k) (n := 128) (by omega)
      have hv := q3 m m1 m2
      rw [m3] at hv
      rw [show (a : Int) * 8 + (k : Int) = ((8 * a + k : Nat) : Int) by omega, z_in (by omega) (by omega), z_cl (by omega), show I 5 (8 * a + k) = zI m from hv]
      exact ⟨by omega, hp1 a m ha rfl (nb_lt m2) m2 (by omega)⟩
    · have := huniq a' h1 h2
      subst this
      have h6 := fb_ct_mono (nb w h sh a') (show m + 1 ≤ 128 by omega)
      rw [fb_ct_succ, h4] at h6
      simp at h6
      omega
  · rw [hx]
    unfold inC
    rw [z_toInt (by omega) (by omega)]
    omega
end XD
