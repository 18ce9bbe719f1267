/-! the reference's board -/
def sc (n : Nat) (H B : Nat → Bool) (i : Nat) : Int32 := if H i || decide (n ≤ i) then 0 else if B i then 2 else 1
def mst (w h sh : Nat) (M H B F : Nat → Bool) (I : tg_I) : Prop := mSz w h sh I ∧ (∀ a b, a < 100 → b < 100 → I 1 (100 * a + b) = bi (decide (a < w * h) && nb w h sh a b)) ∧ ∀ i, i < 100 → I 2 i = bi (M i) ∧ I 3 i = sc (w * h) H B i ∧ I 4 i = bi (F i)
section MB
variable {I : tg_I} {J : tg_J} {P : Option Value → tg_I → tg_J → Prop} {w h sh : Nat} {M H B F : Nat → Bool}
theorem sc_0 {n i : Nat} (hi : i < n) : sc n H B i = 0 ↔ H i = true := by
  unfold sc
  rw [decide_eq_false (by omega)]
  cases H i
  · simp
    split <;> decide
  · simp
theorem sc_1 {n i : Nat} (hi : i < n) : sc n H B i = 1 ↔ opS n H B i = true := by
  unfold sc opS
  rw [decide_eq_false (show ¬ n ≤ i by omega), decide_eq_true hi]
  cases H i <;> cases B i <;> simp
theorem sc_2 {n i : Nat} (hd : ∀ i, H i = true → B i = false) (hi : i < n) : sc n H B i = 2 ↔ B i = true := by
  unfold sc
  rw [decide_eq_false (by omega)]
  cases eh : H i
  · cases B i <;> simp
  · simp [hd i eh]
theorem mnear_ok (gk : gOk w h sh) (hm : mst w h sh M H B F I) {a b : Nat} (ha : a < w * h) (hb : b < w * h) (hp : P (some (.int (bi (nb w h sh a b)))) I J) : call pgM zX9_isNear [.ref 0, .int (zI a), .int (zI b)] I J P := by
  obtain ⟨hn1, hn2⟩ := mul_le100 gk
  refine e_X9_isNear _ _ ?_
  rw [show (100 : Int32) = zI 100 from rfl, z_mul, z_add, show (100 : Int) * a + b = ((100 * a + b : Nat) : Int) by omega, z_in (by omega) (by omega), z_cl (by omega), hm.2.1 a b (by omega) (by omega), decide_eq_true ha, Bool.true_and]
  exact ⟨by omega, nrw01 (bi01 _), hp⟩
theorem bi_0 {x : Bool} : bi x = 0 ↔ x = false := by cases x <;> decide
/-- a loop that counts -/
theorem ctz (p : Nat → Bool) (k : Nat) : zI (fb_ct p (k + 1) : Nat) = if p k then zI (fb_ct p k : Nat) + 1 else zI (fb_ct p k : Nat) + 0 := by
  rw [fb_ct_succ]
  cases p k
  · simp [zI]
  · rw [if_pos rfl, if_pos rfl, show (1 : Int32) = zI 1 from rfl, z_add]
    rfl
theorem mmines_ok (gk : gOk w h sh) (hm : mst w h sh M H B F I) (hp : P (some (.int (zI (fb_ct M (w * h) : Nat)))) I J) : call pgM zX9_mines [.ref 0] I J P := by
  obtain ⟨hn1, hn2⟩ := mul_le100 gk
  refine e_X9_mines ?_
  have key := up_loop (L := fun k => l_X9_mines_4 I J P (zI (fb_ct M k : Nat)) (zI k)) (w * h) ?_ ?_ 0 (Nat.zero_le _)
  · exact key
  · refine s_X9_mines_4 _ _ ⟨fun _ => hp, fun c => absurd ?_ c⟩
    rw [hm.1.2.2.2]; exact Int32.le_refl _
  · intro k hk ih
    refine s_X9_mines_4 _ _ ?_
    rw [ctz, show zI ((k + 1 : Nat) : Int) = zI k + 1 by rw [show (1 : Int32) = zI 1 from rfl, z_add]; rfl] at ih
    rw [hm.1.2.2.2, z_le (by omega) (by omega) (by omega) (by omega), z_in (by omega) (by omega), z_cl (by omega), (hm.2.2 k (by omega)).1, bi_0]
    refine ⟨fun c => absurd c (by omega), fun _ => ⟨by omega, fun c => ?_, fun c => ?_⟩⟩
    · rw [c] at ih; exact ih
    · rw [show M k = true by simpa using c] at ih; exact ih
theorem minState_ok (gk : gOk w h sh) (hm : mst w h sh M H B F I) (x : Int32) (hp : P (some (.int (zI (fb_ct (fun i => decide (sc (w * h) H B i = x)) (w * h) : Nat)))) I J) : call pgM zX9_inState [.ref 0, .int x] I J P := by
  obtain ⟨hn1, hn2⟩ := mul_le100 gk
  refine e_X9_inState _ ?_
  have key := up_loop (L := fun k => l_X9_inState_4 I J P x (zI (fb_ct (fun i => decide (sc (w * h) H B i = x)) k : Nat)) (zI k)) (w * h) ?_ ?_ 0 (Nat.zero_le _)
  · exact key
  · refine s_X9_inState_4 _ _ _ ⟨fun _ => hp, fun c => absurd ?_ c⟩
    rw [hm.1.2.2.2]; exact Int32.le_refl _
  · intro k hk ih
    refine s_X9_inState_4 _ _ _ ?_
    rw [ctz, show zI ((k + 1 : Nat) : Int) = zI k + 1 by rw [show (1 : Int32) = zI 1 from rfl, z_add]; rfl] at ih
    rw [hm.1.2.2.2, z_le (by omega) (by omega) (by omega) (by omega), z_in (by omega) (by omega), z_cl (by omega), (hm.2.2 k (by omega)).2.1]
    refine ⟨fun c => absurd c (by omega), fun _ => ⟨by omega, fun c => ?_, fun c => ?_⟩⟩
    · rw [if_neg (by simpa using c)] at ih; exact ih
    · rw [if_pos (by simpa using c)] at ih; exact ih
theorem mnumber_ok (gk : gOk w h sh) (hm : mst w h sh M H B F I) {a : Nat} (ha : a < w * h) (hp : P (some (.int (zI (nin w h sh M a : Nat)))) I J) : call pgM zX9_numberOf [.ref 0, .int (zI a)] I J P := by
  obtain ⟨hn1, hn2⟩ := mul_le100 gk
  refine e_X9_numberOf _ ?_
  have key := up_loop (L := fun k => l_X9_numberOf_4 I J P (zI a) (zI (fb_ct (fun i => nb w h sh a i && M i) k : Nat)) (zI k)) (w * h) ?_ ?_ 0 (Nat.zero_le _)
  · exact key
  · refine s_X9_numberOf_4 _ _ _ ⟨fun _ => hp, fun c => absurd ?_ c⟩
    rw [hm.1.2.2.2]; exact Int32.le_refl _
  · intro k hk ih
    refine s_X9_numberOf_4 _ _ _ ?_
    rw [ctz, show zI ((k + 1 : Nat) : Int) = zI k + 1 by rw [show (1 : Int32) = zI 1 from rfl, z_add]; rfl] at ih
    rw [hm.1.2.2.2, z_le (by omega) (by omega) (by omega) (by omega), z_in (by omega) (by omega), z_cl (by omega)]
    refine ⟨fun c => absurd c (by omega), fun _ => mnear_ok gk hm ha hk ⟨_, rfl, ?_⟩⟩
    rw [(hm.2.2 k (by omega)).1, bi_0, bi_0]
    refine ⟨fun c => ?_, fun c => ⟨by omega, fun c2 => ?_, fun c2 => ?_⟩⟩
    · rw [c, if_neg (by simp)] at ih; exact ih
    · rw [c2, if_neg (by simp)] at ih; exact ih
    · rw [if_pos (by simp at c c2; simp [c, c2])] at ih; exact ih
theorem mflagsNear_ok (gk : gOk w h sh) (hm : mst w h sh M H B F I) {a : Nat} (ha : a < w * h) (hp : P (some (.int (zI (nin w h sh F a : Nat)))) I J) : call pgM zX9_flagsNear [.ref 0, .int (zI a)] I J P := by
  obtain ⟨hn1, hn2⟩ := mul_le100 gk
  refine e_X9_flagsNear _ ?_
  have key := up_loop (L := fun k => l_X9_flagsNear_4 I J P (zI a) (zI (fb_ct (fun i => nb w h sh a i && F i) k : Nat)) (zI k)) (w * h) ?_ ?_ 0 (Nat.zero_le _)
  · exact key
  · refine s_X9_flagsNear_4 _ _ _ ⟨fun _ => hp, fun c => absurd ?_ c⟩
    rw [hm.1.2.2.2]; exact Int32.le_refl _
  · intro k hk ih
    refine s_X9_flagsNear_4 _ _ _ ?_
    rw [ctz, show zI ((k + 1 : Nat) : Int) = zI k + 1 by rw [show (1 : Int32) = zI 1 from rfl, z_add]; rfl] at ih
    rw [hm.1.2.2.2, z_le (by omega) (by omega) (by omega) (by omega), z_in (by omega) (by omega), z_cl (by omega)]
    refine ⟨fun c => absurd c (by omega), fun _ => mnear_ok gk hm ha hk ⟨_, rfl, ?_⟩⟩
    rw [(hm.2.2 k (by omega)).2.2, bi_0, bi_0]
    refine ⟨fun c => ?_, fun c => ⟨by omega, fun c2 => ?_, fun c2 => ?_⟩⟩
    · rw [c, if_neg (by simp)] at ih; exact ih
    · rw [c2, if_neg (by simp)] at ih; exact ih
    · rw [if_pos (by simp at c c2; simp [c, c2])] at ih; exact ih
theorem mnearState_ok (gk : gOk w h sh) (hm : mst w h sh M H B F I) {a : Nat} (ha : a < w * h) (x : Int32) (hp : P (some (.int (zI (nin w h sh (fun i => decide (sc (w * h) H B i = x)) a : Nat)))) I J) : call pgM zX9_nearState [.ref 0, .int (zI a), .int x] I J P := by
  obtain ⟨hn1, hn2⟩ := mul_le100 gk
  refine e_X9_nearState _ _ ?_
  have key := up_loop (L := fun k => l_X9_nearState_5 I J P (zI a) x (zI (fb_ct (fun i => nb w h sh a i && decide (sc (w * h) H B i = x)) k : Nat)) (zI k)) (w * h) ?_ ?_ 0 (Nat.zero_le _)
  · exact key
  · refine s_X9_nearState_5 _ _ _ _ ⟨fun _ => hp, fun c => absurd ?_ c⟩
    rw [hm.1.2.2.2]; exact Int32.le_refl _
  · intro k hk ih
    refine s_X9_nearState_5 _ _ _ _ ?_
    rw [ctz, show zI ((k + 1 : Nat) : Int) = zI k + 1 by rw [show (1 : Int32) = zI 1 from rfl, z_add]; rfl] at ih
    rw [hm.1.2.2.2, z_le (by omega) (by omega) (by omega) (by omega), z_in (by omega) (by omega), z_cl (by omega)]
    refine ⟨fun c => absurd c (by omega), fun _ => mnear_ok gk hm ha hk ⟨_, rfl, ?_⟩⟩
    rw [(hm.2.2 k (by omega)).2.1, bi_0]
    refine ⟨fun c => ?_, fun c => ⟨by omega, fun c2 => ?_, fun c2 => ?_⟩⟩
    · rw [c, if_neg (by simp)] at ih; exact ih
    · rw [if_neg (by simp [c2])] at ih; exact ih
    · rw [if_pos (by simp at c; simp [c, c2])] at ih; exact ih
end MB
