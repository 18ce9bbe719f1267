/-! the class: the reasoner's parts -/
theorem bits40 : isBits 40 := ⟨by decide, rfl⟩
theorem bits41 : isBits 41 := ⟨by decide, rfl⟩
theorem bits44 : isBits 44 := ⟨by decide, rfl⟩
theorem bits45 : isBits 45 := ⟨by decide, rfl⟩
theorem ct_bh (x y : Int64) : fb_ct (bq x) 64 + fb_ct (bq y) 64 = fb_ct (bh x y) 128 := by
  have := ct_sB (fun _ j => if j = 0 then x else y) 0
  exact this
/-- what the reasoner knows of a board -/
def rsX (b w h sh : Nat) (M H B K : Nat → Bool) (Y : Nat → Nat → Bool) (I : tg_I) (J : tg_J) : Prop := (I 39 9).toNatClampNeg = b ∧ (∀ i, i < 128 → sB J 44 i = fre H K i) ∧ (∀ i, i < 128 → sB J 45 i = (B i || (K i && M i))) ∧ ∀ x k, x < w * h → k < 128 → K x = true → bh (J 42 x) (J 43 x) k = Y x k
/-- what giving verdicts changes -/
def oG (I I' : tg_I) (J J' : tg_J) : Prop := (∀ q, q ≠ 39 → I' q = I q) ∧ (∀ x, x ≠ 2 → x ≠ 3 → I' 39 x = I 39 x) ∧ ∀ q, q ≠ 40 → q ≠ 41 → J' q = J q
theorem oG.rf {I : tg_I} {J : tg_J} : oG I I J J := ⟨fun _ _ => rfl, fun _ _ _ => rfl, fun _ _ _ => rfl⟩
theorem oG.tr {I I1 I2 : tg_I} {J J1 J2 : tg_J} (h1 : oG I I1 J J1) (h2 : oG I1 I2 J1 J2) : oG I I2 J J2 := ⟨fun q a => (h2.1 q a).trans (h1.1 q a), fun x a b => (h2.2.1 x a b).trans (h1.2.1 x a b), fun q a b => (h2.2.2 q a b).trans (h1.2.2 q a b)⟩
theorem oG.grid {I I1 : tg_I} {J J1 : tg_J} {b w h sh : Nat} (hb : isBd b) (h1 : oG I I1 J J1) (g : gridX b w h sh I J) : gridX b w h sh I1 J1 := by
  have hh : ∀ n, n ≤ 13 → b + n ≠ 39 ∧ b + n ≠ 40 ∧ b + n ≠ 41 := fun n hn => by rcases hb with e | e <;> omega
  have e1 := h1.1 (b + 1) (hh _ (by decide)).1
  have e4 := h1.1 (b + 4) (hh _ (by decide)).1
  have e5 := h1.1 (b + 5) (hh _ (by decide)).1
  have j2 := h1.2.2 (b + 2) (hh _ (by decide)).2.1 (hh _ (by decide)).2.2
  have j3 := h1.2.2 (b + 3) (hh _ (by decide)).2.1 (hh _ (by decide)).2.2
  unfold gridX xSz rowX rowB at *
  rw [e1, e4, e5, j2, j3]
  exact g
theorem oG.bst {I I1 : tg_I} {J J1 : tg_J} {b n : Nat} {M H B F : Nat → Bool} (hb : isBd b) (h1 : oG I I1 J J1) (v : bst b n M H B F J) : bst b n M H B F J1 := fun i hi => by
  have hh : ∀ n, n ≤ 13 → b + n ≠ 39 ∧ b + n ≠ 40 ∧ b + n ≠ 41 := fun n hn => by rcases hb with e | e <;> omega
  have ej : ∀ n, n ≤ 13 → J1 (b + n) = J (b + n) := fun n hn => h1.2.2 (b + n) (hh n hn).2.1 (hh n hn).2.2
  have := v i hi
  rw [sB_of (ej 7 (by decide)), sB_of (ej 8 (by decide)), sB_of (ej 9 (by decide)), sB_of (ej 10 (by decide)), sB_of (ej 11 (by decide))]
  exact this
theorem oG.rs {I I1 : tg_I} {J J1 : tg_J} {b w h sh : Nat} {M H B K : Nat → Bool} {Y : Nat → Nat → Bool} (h1 : oG I I1 J J1) (r : rsX b w h sh M H B K Y I J) : rsX b w h sh M H B K Y I1 J1 := by
  obtain ⟨r1, r2, r3, r4⟩ := r
  refine ⟨by rw [h1.2.1 9 (by decide) (by decide)]; exact r1, fun i hi => by rw [sB_of (h1.2.2 44 (by decide) (by decide))]; exact r2 i hi, fun i hi => by rw [sB_of (h1.2.2 45 (by decide) (by decide))]; exact r3 i hi, ?_⟩
  rw [h1.2.2 42 (by decide) (by decide), h1.2.2 43 (by decide) (by decide)]
  exact r4
section XRe
variable {I : tg_I} {J : tg_J} {P : Option Value → tg_I → tg_J → Prop} {w h sh b : Nat} {M H B F K : Nat → Bool} {Y : Nat → Nat → Bool}
theorem give_ok (x y : Int64) {mm : Int} (h1 : -1000 ≤ mm) (h2 : mm ≤ 1000) (hp0 : ¬ mm = 0 → ¬ mm = (fb_ct (bh x y) 128 : Nat) → P (some (.int 0)) I J) (hp1 : (mm = 0 ∨ mm = (fb_ct (bh x y) 128 : Nat)) → ∀ I' J', oG I I' J J' → I' 39 2 = bi (!decide (mm = 0)) → (∀ i, sB J' 40 i = bh x y i) → J' 41 = J 41 → P (some (.int 1)) I' J') : call pgX zX6_give [.ref 39, .long x, .long y, .int (zI mm)] I J P := by
  have hct := fb_ct_le (bh x y) 128
  have hs : ∀ J1 J2 : tg_J, J1 = u2 J 40 0 x → J2 = u2 J1 40 1 y → (∀ i, sB J2 40 i = bh x y i) ∧ ∀ q, q ≠ 40 → J2 q = J q := fun J1 J2 e1 e2 => by
    refine ⟨fun i => ?_, fun q hq => by rw [e2, u2_other _ _ _ _ hq, e1, u2_other _ _ _ _ hq]⟩
    unfold sB
    rw [e2, u2_at, u2_at, if_neg (by decide), if_pos rfl, e1, u2_eq]
  refine e_X6_give _ _ _ ?_
  rw [show (0 : Int32) = zI 0 from rfl, z_eq (by omega) (by omega) (by omega) (by omega)]
  refine ⟨fun c J1 e1 J2 e2 => ⟨fun _ I1 eI => ?_, fun c2 => absurd c c2⟩, fun c => bitCount_ok _ ⟨_, rfl, bitCount_ok _ ⟨_, rfl, ?_⟩⟩⟩
  · obtain ⟨s1, s2⟩ := hs J1 J2 e1 e2
    refine hp1 (Or.inl c) I1 J2 ⟨fun q hq => by rw [eI, u2_other _ _ _ _ hq], fun z a b => by rw [eI, u2_at, if_neg a], fun q a b => s2 q a⟩ ?_ s1 (s2 41 (by decide))
    rw [eI, u2_eq, decide_eq_true c]; rfl
  · rw [z_add, show ((fb_ct (bq x) 64 : Nat) : Int) + ((fb_ct (bq y) 64 : Nat) : Int) = (fb_ct (bh x y) 128 : Nat) by rw [← ct_bh]; omega, z_eq (by omega) (by omega) (by omega) (by omega)]
    refine ⟨fun c2 J1 e1 J2 e2 => ⟨fun c3 => absurd c3 c, fun _ I1 eI => ?_⟩, fun c2 => hp0 c c2⟩
    obtain ⟨s1, s2⟩ := hs J1 J2 e1 e2
    refine hp1 (Or.inr c2) I1 J2 ⟨fun q hq => by rw [eI, u2_other _ _ _ _ hq], fun z a b => by rw [eI, u2_at, if_neg a], fun q a b => s2 q a⟩ ?_ s1 (s2 41 (by decide))
    rw [eI, u2_eq, decide_eq_false c]; rfl
theorem blame_ok (hb : isBd b) (gk : gOk w h sh) (g : gridX b w h sh I J) (v : bst b (w * h) M H B F J) (hK : ∀ i, K i = true → H i = true) (rs : rsX b w h sh M H B K Y I J) {a : Nat} (ha : a < w * h) (hp : ∀ J', onlyJ 41 J J' → (∀ k, k < 128 → sB J' 41 k = (sB J 41 k || bcs (nb w h sh a) K Y a (w * h) k)) → P none I J') : call pgX zX6_blame [.ref 39, .int (zI a)] I J P := by
  obtain ⟨hn1, hn2⟩ := mul_le100 gk
  obtain ⟨rl, rl8⟩ := row_len gk g ha
  obtain ⟨r1, r2, r3, r4⟩ := rs
  refine e_X6_blame _ (add_ok bits41 (by omega) (fun J1 o1 s1 => ⟨rfl, ?_⟩))
  have key := up_loop (L := fun i => ∀ J2, onlyJ 41 J J2 → (∀ k, k < 128 → (sB J2 41 k = true ↔ sB J 41 k = true ∨ k = a ∨ ∃ x, x ∈ (nbl w h sh a).take i ∧ K x = true ∧ Y x k = true)) → l_X6_blame_10 I J2 P (zI a) (zI i)) (nbl w h sh a).length ?_ ?_ 0 (Nat.zero_le _) J1 o1 (fun k hk => by
    rw [s1 k hk, Bool.or_eq_true, decide_eq_true_eq]
    constructor
    · rintro (q | q)
      · exact Or.inl q
      · exact Or.inr (Or.inl q)
    · rintro (q | q | ⟨x, q, -⟩)
      · exact Or.inl q
      · exact Or.inr q
      · simp at q)
  · exact key
  · intro J2 o2 s2
    refine s_X6_blame_10 _ _ ⟨b, r1, hb, ?_⟩
    rw [z_in (by omega) (by omega), z_cl (by omega), rl]
    refine ⟨by omega, fun _ => hp J2 o2 (fun k hk => ?_), fun c => absurd (Int32.le_refl _) c⟩
    rw [Bool.eq_iff_iff, s2 k hk, Bool.or_eq_true]
    unfold bcs
    rw [Bool.or_eq_true, decide_eq_true_eq, decide_eq_true_eq, List.take_length]
    constructor
    · rintro (q | q | ⟨x, x1, x2, x3⟩)
      · exact Or.inl q
      · exact Or.inr (Or.inl q)
      · exact Or.inr (Or.inr ⟨x, nb_lt (nbl_mem.mp x1), nbl_mem.mp x1, x2, x3⟩)
    · rintro (q | q | ⟨x, x0, x1, x2, x3⟩)
      · exact Or.inl q
      · exact Or.inr (Or.inl q)
      · exact Or.inr (Or.inr ⟨x, nbl_mem.mpr x1, x2, x3⟩)
  · intro i hi ih J2 o2 s2
    have hcell := row_at gk g ha hi
    have hmem := getD_mem hi
    rw [take_s hi] at ih
    generalize (nbl w h sh a).getD i 0 = y at *
    have hay := nbl_mem.mp hmem
    have hy := nb_lt hay
    have v2 : bst b (w * h) M H B F J2 := oG.bst (I := I) (I1 := I) hb ⟨fun _ _ => rfl, fun _ _ _ => rfl, fun q _ hq => o2 q hq⟩ v
    have same : K y = false → l_X6_blame_10 I J2 P (zI a) (zI ((i + 1 : Nat) : Int)) := fun hh => ih J2 o2 (fun k hk => by
      rw [s2 k hk]
      constructor
      · rintro (q | q | ⟨x, x1, x2⟩)
        · exact Or.inl q
        · exact Or.inr (Or.inl q)
        · exact Or.inr (Or.inr ⟨x, List.mem_append_left _ x1, x2⟩)
      · rintro (q | q | ⟨x, x1, x2⟩)
        · exact Or.inl q
        · exact Or.inr (Or.inl q)
        · rcases List.mem_append.mp x1 with q | q
          · exact Or.inr (Or.inr ⟨x, q, x2⟩)
          · rw [List.mem_singleton.mp q, hh] at x2; cases x2.1)
    refine s_X6_blame_10 _ _ ⟨b, r1, hb, ?_⟩
    rw [z_in (by omega) (by omega), z_cl (by omega), rl, z_le (by omega) (by omega) (by omega) (by omega), show (8 : Int32) = zI 8 from rfl, z_mul, z_add, z_in (by omega) (by omega), show (a : Int) * 8 + (i : Int) = ((8 * a + i : Nat) : Int) by omega, z_cl (by omega), z_s i]
    refine ⟨by omega, fun c => absurd c (by omega), fun _ => ⟨b, r1, hb, by omega, fun x1 ex => ⟨b, r1, hb, ?_⟩⟩⟩
    rw [hcell] at ex
    rw [ex]
    refine has_ok (bd_bits hb (by decide) (by decide)) (by omega) ⟨_, rfl, ?_⟩
    rw [(v2 y (by omega)).2.1, bi_0]
    refine ⟨fun c => same ?_, fun c => has_ok bits44 (by omega) ⟨_, rfl, ?_⟩⟩
    · cases e : K y
      · rfl
      · rw [hK y e] at c; cases c
    · rw [sB_of (o2 44 (by decide)), r2 y (by omega), bi_0]
      refine ⟨fun c2 => same ?_, fun c2 => ?_⟩
      · unfold fre at c2
        cases e : K y
        · rfl
        · rw [e] at c2; simp at c2
      · have hKy : K y = true := by
          unfold fre at c2
          rw [show H y = true by simpa using c] at c2
          simpa using c2
        rw [z_in (by omega) (by omega), z_cl (by omega)]
        refine ⟨by omega, fun J3 e3 => ⟨by omega, fun J4 e4 => ih J4 (fun q hq => by rw [e4, u2_other _ _ _ _ hq, e3, u2_other _ _ _ _ hq]; exact o2 q hq) (fun k hk => ?_)⟩⟩
        have h4 : sB J4 41 k = (sB J2 41 k || Y y k) := by
          have e5 : J3 43 = J2 43 := by rw [e3, u2_other _ _ _ _ (by decide)]
          rw [← r4 y k hy hk hKy]
          unfold sB
          rw [e4, u2_at, u2_at, if_neg (by decide), if_pos rfl, e5, e3, u2_eq, u2_at, if_neg (by decide), bh_or, o2 42 (by decide), o2 43 (by decide)]
        rw [h4, Bool.or_eq_true, s2 k hk]
        constructor
        · rintro ((q | q | ⟨x, x1, x2⟩) | q)
          · exact Or.inl q
          · exact Or.inr (Or.inl q)
          · exact Or.inr (Or.inr ⟨x, List.mem_append_left _ x1, x2⟩)
          · exact Or.inr (Or.inr ⟨y, by simp, hKy, q⟩)
        · rintro (q | q | ⟨x, x1, x2⟩)
          · exact Or.inl (Or.inl q)
          · exact Or.inl (Or.inr (Or.inl q))
          · rcases List.mem_append.mp x1 with q | q
            · exact Or.inl (Or.inr (Or.inr ⟨x, q, x2⟩))
            · rw [List.mem_singleton.mp q] at x2; exact Or.inr x2.2
end XRe
