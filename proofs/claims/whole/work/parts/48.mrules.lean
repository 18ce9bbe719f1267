/-! the reference's reasoner: verdicts are the truths of the known cells K -/
def mvK (M K : Nat → Bool) (I : tg_I) : Prop := ∀ i, i < 100 → I 11 i = (if K i then bi (M i) else -1)
/-- hidden cells without a verdict -/
def fre (H K : Nat → Bool) : Nat → Bool := fun i => H i && !K i
section MR
variable {I : tg_I} {J : tg_J} {P : Option Value → tg_I → tg_J → Prop} {w h sh : Nat} {M H B F K : Nat → Bool}
theorem mv_sgn {i : Nat} {v : Int32} (hv : v = if K i then bi (M i) else -1) : (0 ≤ v ↔ K i = true) ∧ (v < 0 ↔ K i = false) ∧ (v = 1 ↔ (K i && M i) = true) := by
  rw [hv]
  cases K i <;> cases M i <;> decide
theorem isUnsure_ok (gk : gOk w h sh) (hm : mst w h sh M H B F I) (hk : mvK M K I) {a b : Nat} (ha : a < w * h) (hb : b < w * h) (hp : P (some (.int (bi (nb w h sh a b && fre H K b)))) I J) : call pgM zX9_isUnsure [.ref 0, .int (zI a), .int (zI b)] I J P := by
  obtain ⟨hn1, hn2⟩ := mul_le100 gk
  unfold fre at hp
  refine e_X9_isUnsure _ _ (mnear_ok gk hm ha hb ⟨_, rfl, ?_⟩)
  rw [bi_0, z_in (by omega) (by omega), z_cl (by omega), (hm.2.2 b (by omega)).2.1, sc_0 hb, (mv_sgn (hk b (by omega))).1]
  refine ⟨fun c => ?_, fun c => ⟨by omega, fun c2 => ?_, fun c2 => ⟨by omega, fun c3 => ?_, fun c3 => ?_⟩⟩⟩
  · rw [c] at hp; exact hp
  · rw [show H b = false by simpa using c2] at hp
    simp only [Bool.false_and, Bool.and_false] at hp; exact hp
  · rw [c3] at hp
    simp only [Bool.not_true, Bool.and_false] at hp; exact hp
  · rw [show nb w h sh a b = true by simpa using c, c2, show K b = false by simpa using c3] at hp; exact hp
theorem unsure_ok (gk : gOk w h sh) (hm : mst w h sh M H B F I) (hk : mvK M K I) {a : Nat} (ha : a < w * h) (hp : P (some (.int (zI (nin w h sh (fre H K) a : Nat)))) I J) : call pgM zX9_unsure [.ref 0, .int (zI a)] I J P := by
  obtain ⟨hn1, hn2⟩ := mul_le100 gk
  refine e_X9_unsure _ ?_
  have key := up_loop (L := fun k => l_X9_unsure_4 I J P (zI a) (zI (fb_ct (fun i => nb w h sh a i && fre H K i) k : Nat)) (zI k)) (w * h) ?_ ?_ 0 (Nat.zero_le _)
  · exact key
  · exact s_X9_unsure_4 _ _ _ ⟨fun _ => hp, fun c => absurd (by rw [hm.1.2.2.2]; exact Int32.le_refl _) c⟩
  · intro k hk2 ih
    refine s_X9_unsure_4 _ _ _ ?_
    rw [ctz, show zI ((k + 1 : Nat) : Int) = zI k + 1 by rw [show (1 : Int32) = zI 1 from rfl, z_add]; rfl] at ih
    rw [hm.1.2.2.2, z_le (by omega) (by omega) (by omega) (by omega)]
    refine ⟨fun c => absurd c (by omega), fun _ => isUnsure_ok gk hm hk ha hk2 ⟨_, rfl, ?_⟩⟩
    rw [bi_0]
    refine ⟨fun c => ?_, fun c => ?_⟩
    · rw [c] at ih; exact ih
    · rw [show (nb w h sh a k && fre H K k) = true by simpa using c] at ih; exact ih
theorem mdue_ok (gk : gOk w h sh) (hm : mst w h sh M H B F I) (hk : mvK M K I) (hd : ∀ i, H i = true → B i = false) {a : Nat} (ha : a < w * h) (hp : P (some (.int (zI ((nin w h sh M a : Nat) - (nin w h sh B a : Nat) - (nin w h sh (fun i => K i && M i) a : Nat))))) I J) : call pgM zX9_due [.ref 0, .int (zI a)] I J P := by
  obtain ⟨hn1, hn2⟩ := mul_le100 gk
  refine e_X9_due _ (mnumber_ok gk hm ha ⟨_, rfl, mnearState_ok gk hm ha 2 ⟨_, rfl, ?_⟩⟩)
  rw [nin_sc2 hd, z_sub]
  have key := up_loop (L := fun k => l_X9_due_15 I J P (zI a) (zI ((nin w h sh M a : Nat) - (nin w h sh B a : Nat) - (fb_ct (fun i => nb w h sh a i && (K i && M i)) k : Nat))) (zI k)) (w * h) ?_ ?_ 0 (Nat.zero_le _)
  · rw [show fb_ct (fun i => nb w h sh a i && (K i && M i)) 0 = 0 from rfl] at key
    rw [show ((nin w h sh M a : Nat) : Int) - (nin w h sh B a : Nat) - ((0 : Nat) : Int) = ((nin w h sh M a : Nat) : Int) - (nin w h sh B a : Nat) by omega] at key
    exact key
  · exact s_X9_due_15 _ _ _ ⟨fun _ => hp, fun c => absurd (by rw [hm.1.2.2.2]; exact Int32.le_refl _) c⟩
  · intro k hk2 ih
    have hs := fb_ct_succ (fun i => nb w h sh a i && (K i && M i)) k
    have hnx : zI (k : Int) + 1 = zI ((k + 1 : Nat) : Int) := by rw [show (1 : Int32) = zI 1 from rfl, z_add]; rfl
    refine s_X9_due_15 _ _ _ ?_
    rw [hm.1.2.2.2, z_le (by omega) (by omega) (by omega) (by omega), z_in (by omega) (by omega), z_cl (by omega), hnx]
    refine ⟨fun c => absurd c (by omega), fun _ => mnear_ok gk hm ha hk2 ⟨_, rfl, ?_⟩⟩
    rw [bi_0, (mv_sgn (hk k (by omega))).2.2]
    have no : (nb w h sh a k && (K k && M k)) = false → l_X9_due_15 I J P (zI a) (zI ((nin w h sh M a : Nat) - (nin w h sh B a : Nat) - (fb_ct (fun i => nb w h sh a i && (K i && M i)) k : Nat)) - 0) (zI ((k + 1 : Nat) : Int)) := fun hf => by
      rw [hs] at ih
      simp only [hf, Bool.false_eq_true, if_false, Nat.add_zero] at ih
      rw [show (0 : Int32) = zI 0 from rfl, z_sub, Int.sub_zero]
      exact ih
    refine ⟨fun c => no (by rw [c]; rfl), fun c => ⟨by omega, fun c2 => no (by rw [show (K k && M k) = false by simpa using c2]; simp), fun c2 => ?_⟩⟩
    have ht : (nb w h sh a k && (K k && M k)) = true := by rw [c2, show nb w h sh a k = true by simpa using c]; rfl
    rw [hs] at ih
    simp only [ht, if_true] at ih
    rw [show (1 : Int32) = zI 1 from rfl, z_sub]
    rw [show ((nin w h sh M a : Nat) : Int) - (nin w h sh B a : Nat) - (fb_ct (fun i => nb w h sh a i && (K i && M i)) k : Nat) - 1 = ((nin w h sh M a : Nat) : Int) - (nin w h sh B a : Nat) - ((fb_ct (fun i => nb w h sh a i && (K i && M i)) k + 1 : Nat) : Int) by omega]
    exact ih
theorem isWithin_ok (gk : gOk w h sh) (hm : mst w h sh M H B F I) (hk : mvK M K I) {a b : Nat} (ha : a < w * h) (hb : b < w * h) (hp : ∀ r : Bool, (r = true ↔ ∀ i, i < w * h → nb w h sh a i = true → fre H K i = true → nb w h sh b i = true) → P (some (.int (bi r))) I J) : call pgM zX9_isWithin [.ref 0, .int (zI a), .int (zI b)] I J P := by
  obtain ⟨hn1, hn2⟩ := mul_le100 gk
  refine e_X9_isWithin _ _ ?_
  have key := up_loop (L := fun k => ∀ r : Bool, (r = true ↔ ∀ i, i < k → nb w h sh a i = true → fre H K i = true → nb w h sh b i = true) → l_X9_isWithin_5 I J P (zI a) (zI b) (bi r) (zI k)) (w * h) ?_ ?_ 0 (Nat.zero_le _) true ⟨fun _ i hi => absurd hi (by omega), fun _ => rfl⟩
  · exact key
  · intro r hr
    exact s_X9_isWithin_5 _ _ _ _ ⟨fun _ => ⟨nrw01 (bi01 r), hp r hr⟩, fun c => absurd (by rw [hm.1.2.2.2]; exact Int32.le_refl _) c⟩
  · intro k hk2 ih r hr
    have hnx : zI (k : Int) + 1 = zI ((k + 1 : Nat) : Int) := by rw [show (1 : Int32) = zI 1 from rfl, z_add]; rfl
    refine s_X9_isWithin_5 _ _ _ _ ?_
    rw [hm.1.2.2.2, z_le (by omega) (by omega) (by omega) (by omega), hnx, bi_0]
    have f0 : (¬ ∀ i, i < k + 1 → nb w h sh a i = true → fre H K i = true → nb w h sh b i = true) → l_X9_isWithin_5 I J P (zI a) (zI b) 0 (zI ((k + 1 : Nat) : Int)) := fun hn => ih false ⟨fun c => (by cases c), fun c => absurd c hn⟩
    have f1 : (∀ i, i < k + 1 → nb w h sh a i = true → fre H K i = true → nb w h sh b i = true) → l_X9_isWithin_5 I J P (zI a) (zI b) 1 (zI ((k + 1 : Nat) : Int)) := fun hn => ih true ⟨fun _ => hn, fun _ => rfl⟩
    have ext : r = true → (nb w h sh a k = true → fre H K k = true → nb w h sh b k = true) → ∀ i, i < k + 1 → nb w h sh a i = true → fre H K i = true → nb w h sh b i = true := fun h1 h2 i hi => by
      by_cases e : i = k
      · rw [e]; exact h2
      · exact hr.mp h1 i (by omega)
    refine ⟨fun c => absurd c (by omega), fun _ => ⟨fun c => f0 (fun q => ?_), fun c => isUnsure_ok gk hm hk ha hk2 ⟨_, rfl, ?_⟩⟩⟩
    · have : r = true := hr.mpr (fun i hi => q i (by omega))
      rw [c] at this; cases this
    · rw [bi_0]
      refine ⟨fun c1 => f1 (ext (by simpa using c) (fun q1 q2 => by rw [q1, q2] at c1; cases c1)), fun c1 => isUnsure_ok gk hm hk hb hk2 ⟨_, rfl, ?_⟩⟩
      have c1 : nb w h sh a k = true ∧ fre H K k = true := by simpa using c1
      rw [bi_0, c1.2, Bool.and_true]
      refine ⟨fun c2 => f0 (fun q => ?_), fun c2 => f1 (ext (by simpa using c) (fun _ _ => by simpa using c2))⟩
      have := q k (by omega) c1.1 c1.2
      rw [c2] at this; cases this
theorem clearGiven_ok (hp : ∀ I', (∀ q, q ≠ 13 → q ≠ 14 → I' q = I q) → (∀ i, i < 100 → I' 13 i = -1) → (∀ i, i < 101 → I' 14 i = 0) → P none I' J) : call pgM zX9_clearGiven [.ref 0] I J P := by
  refine e_X9_clearGiven ?_
  have key := up_loop (L := fun k => ∀ I1, onlyI 13 I I1 → (∀ i, i < k → I1 13 i = -1) → l_X9_clearGiven_2 I1 J P (zI k)) 100 ?_ ?_ 0 (Nat.zero_le _) I (fun _ _ => rfl) (fun i hi => absurd hi (by omega))
  · exact key
  · intro I1 o z
    refine s_X9_clearGiven_2 _ ⟨fun _ => ?_, fun c => absurd (Int32.le_refl _) c⟩
    have key2 := up_loop (L := fun k => ∀ I2, onlyI 14 I1 I2 → (∀ i, i < k → I2 14 i = 0) → l_X9_clearGiven_23 I2 J P (zI k)) 101 ?_ ?_ 0 (Nat.zero_le _) I1 (fun _ _ => rfl) (fun i hi => absurd hi (by omega))
    · exact key2
    · intro I2 o2 z2
      exact s_X9_clearGiven_23 _ ⟨fun _ => hp I2 (fun q a b => (o2 q b).trans (o q a)) (fun i hi => by rw [o2 13 (by decide)]; exact z i hi) z2, fun c => absurd (Int32.le_refl _) c⟩
    · intro k hk ih I2 o2 z2
      refine s_X9_clearGiven_23 _ ?_
      rw [show (101 : Int32) = zI (101 : Nat) from rfl, z_le (by omega) (by omega) (by omega) (by omega), z_in (by omega) (by omega), z_cl (by omega), nar0, show (1 : Int32) = zI 1 from rfl, z_add]
      refine ⟨fun c => absurd c (by omega), fun _ => ⟨by omega, fun I3 e3 => ih I3 (fun q hq => by rw [e3, u2_other _ _ _ _ hq]; exact o2 q hq) (fun i hi => ?_)⟩⟩
      rw [e3, u2_at]
      by_cases e : i = k
      · rw [if_pos e]
      · rw [if_neg e]; exact z2 i (by omega)
  · intro k hk ih I1 o z
    refine s_X9_clearGiven_2 _ ?_
    rw [show (-1 : Int32) = zI (-1) from rfl, show (100 : Int32) = zI (100 : Nat) from rfl, z_le (by omega) (by omega) (by omega) (by omega), z_in (by omega) (by omega), z_cl (by omega), show (1 : Int32) = zI 1 from rfl, z_add]
    refine ⟨fun c => absurd c (by omega), fun _ => ⟨by omega, fun I3 e3 => ih I3 (fun q hq => by rw [e3, u2_other _ _ _ _ hq]; exact o q hq) (fun i hi => ?_)⟩⟩
    rw [e3, u2_at]
    by_cases e : i = k
    · rw [if_pos e]; rfl
    · rw [if_neg e]; exact z i (by omega)
end MR
