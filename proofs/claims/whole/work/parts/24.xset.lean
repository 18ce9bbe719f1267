/-! the sets of the class: each method of Bits by its members -/
section XS
variable {I : tg_I} {J : tg_J} {P : Option Value → tg_I → tg_J → Prop}
theorem sB_lo {J : tg_J} {k i : Nat} (h : i < 64) : sB J k i = bq (J k 0) i := by simp [sB, bh, h]
theorem sB_hi {J : tg_J} {k i : Nat} (h : ¬ i < 64) : sB J k i = bq (J k 1) (i - 64) := by simp [sB, bh, h]
theorem sB_of {J J' : tg_J} {k k' : Nat} (h : J' k' = J k) (i : Nat) : sB J' k' i = sB J k i := by simp [sB, h]
/-- nothing but the set k is changed -/
def onlyJ (k : Nat) (J J' : tg_J) : Prop := ∀ q, q ≠ k → J' q = J q
theorem onlyJ_u (k j : Nat) (v : Int64) (J : tg_J) : onlyJ k J (u2 J k j v) := fun q h => u2_other J k j v h
theorem onlyJ_uu (k j j' : Nat) (v v' : Int64) (J : tg_J) : onlyJ k J (u2 (u2 J k j v) k j' v') := fun q h => by rw [u2_other _ k j' v' h, u2_other J k j v h]
theorem has_ok {k i : Nat} (hk : isBits k) (hi : i < 128) (hp : P (some (.int (bi (sB J k i)))) I J) : call pgX zX0_has [.ref k, .int (zI i)] I J P := by
  refine e_X0_has _ _ hk ?_
  simp only [cmp_eq0]
  rw [show (64 : Int32) = zI (64 : Nat) from rfl, z_le (by omega) (by omega) (by omega) (by omega), z_nat i, sh_r i hi]
  have hm : i % 64 < 64 := Nat.mod_lt _ (by decide)
  refine ⟨fun h => ?_, fun h => ?_⟩
  · rw [has_bit _ hm, show i % 64 = i - 64 by omega]
    rw [sB_hi (by omega)] at hp
    refine ⟨fun q => ?_, fun q => ?_⟩
    · rw [q] at hp; exact hp
    · rw [show bq (J k 1) (i - 64) = true by simpa using q] at hp; exact hp
  · rw [has_bit _ hm, show i % 64 = i by omega]
    rw [sB_lo (by omega)] at hp
    refine ⟨fun q => ?_, fun q => ?_⟩
    · rw [q] at hp; exact hp
    · rw [show bq (J k 0) i = true by simpa using q] at hp; exact hp
theorem add_ok {k i : Nat} (hk : isBits k) (hi : i < 128) (hp : ∀ J', onlyJ k J J' → (∀ j, j < 128 → sB J' k j = (sB J k j || decide (j = i))) → P none I J') : call pgX zX0_add [.ref k, .int (zI i)] I J P := by
  refine e_X0_add _ _ hk ?_
  rw [show (64 : Int32) = zI (64 : Nat) from rfl, z_le (by omega) (by omega) (by omega) (by omega), z_nat i]
  refine ⟨fun h J1 e1 => ?_, fun h J1 e1 => ?_⟩ <;> subst e1 <;> refine hp _ (onlyJ_u _ _ _ _) (fun j hj => ?_)
  · by_cases q : j < 64
    · rw [sB_lo q, sB_lo q, u2_ne1 _ _ _ _ (by decide), decide_eq_false (by omega), Bool.or_false]
    · rw [sB_hi q, sB_hi q, u2_eq, bq_or, bq_one hi (by omega)]
      congr 1
      exact decide_eq_decide.mpr (by omega)
  · by_cases q : j < 64
    · rw [sB_lo q, sB_lo q, u2_eq, bq_or, bq_one hi q]
      congr 1
      exact decide_eq_decide.mpr (by omega)
    · rw [sB_hi q, sB_hi q, u2_ne1 _ _ _ _ (by decide), decide_eq_false (by omega), Bool.or_false]
theorem drop_ok {k i : Nat} (hk : isBits k) (hi : i < 128) (hp : ∀ J', onlyJ k J J' → (∀ j, j < 128 → sB J' k j = (sB J k j && !decide (j = i))) → P none I J') : call pgX zX0_drop [.ref k, .int (zI i)] I J P := by
  refine e_X0_drop _ _ hk ?_
  rw [show (64 : Int32) = zI (64 : Nat) from rfl, z_le (by omega) (by omega) (by omega) (by omega), z_nat i]
  refine ⟨fun h J1 e1 => ?_, fun h J1 e1 => ?_⟩ <;> subst e1 <;> refine hp _ (onlyJ_u _ _ _ _) (fun j hj => ?_)
  · by_cases q : j < 64
    · rw [sB_lo q, sB_lo q, u2_ne1 _ _ _ _ (by decide), decide_eq_false (by omega), Bool.not_false, Bool.and_true]
    · rw [sB_hi q, sB_hi q, u2_eq, bq_and, bq_not _ (by omega), bq_one hi (by omega)]
      congr 2
      exact decide_eq_decide.mpr (by omega)
  · by_cases q : j < 64
    · rw [sB_lo q, sB_lo q, u2_eq, bq_and, bq_not _ q, bq_one hi q]
      congr 2
      exact decide_eq_decide.mpr (by omega)
    · rw [sB_hi q, sB_hi q, u2_ne1 _ _ _ _ (by decide), decide_eq_false (by omega), Bool.not_false, Bool.and_true]
theorem put_ok {k i : Nat} {b : Bool} (hk : isBits k) (hi : i < 128) (hp : ∀ J', onlyJ k J J' → (∀ j, j < 128 → sB J' k j = if j = i then b else sB J k j) → P none I J') : call pgX zX0_put [.ref k, .int (zI i), .int (bi b)] I J P := by
  refine e_X0_put _ _ _ hk ⟨fun h => ?_, fun h => ?_⟩
  · have hb : b = false := by cases b <;> first | rfl | exact absurd h (by decide)
    subst hb
    refine drop_ok hk hi (fun J' h1 h2 => ⟨rfl, hp J' h1 (fun j hj => ?_)⟩)
    rw [h2 j hj]
    by_cases q : j = i <;> simp [q]
  · have hb : b = true := by cases b <;> first | rfl | exact absurd rfl h
    subst hb
    refine add_ok hk hi (fun J' h1 h2 => ⟨rfl, hp J' h1 (fun j hj => ?_)⟩)
    rw [h2 j hj]
    by_cases q : j = i <;> simp [q]
theorem clear_ok {k : Nat} (hk : isBits k) (hp : ∀ J', onlyJ k J J' → (∀ j, sB J' k j = false) → P none I J') : call pgX zX0_clear [.ref k] I J P := by
  refine e_X0_clear _ hk (fun J1 e1 J2 e2 => ?_)
  subst e1; subst e2
  refine hp _ (onlyJ_uu _ _ _ _ _ _) (fun j => ?_)
  by_cases q : j < 64
  · rw [sB_lo q, u2_ne1 _ _ _ _ (by decide), u2_eq, bq_0]
  · rw [sB_hi q, u2_eq, bq_0]
theorem copy_ok {k k' : Nat} (hk : isBits k) (hk' : isBits k') (hp : ∀ J', onlyJ k J J' → (∀ j, sB J' k j = sB J k' j) → P none I J') : call pgX zX0_copy [.ref k, .ref k'] I J P := by
  refine e_X0_copy _ _ hk hk' (fun J1 e1 J2 e2 => ?_)
  subst e1; subst e2
  refine hp _ (onlyJ_uu _ _ _ _ _ _) (fun j => ?_)
  by_cases q : j < 64
  · rw [sB_lo q, sB_lo q, u2_ne1 _ _ _ _ (by decide), u2_eq]
  · rw [sB_hi q, sB_hi q, u2_eq]
    by_cases e : k' = k
    · subst e; rw [u2_ne1 _ _ _ _ (by decide)]
    · rw [u2_ne _ _ e]
theorem join_ok {k k' : Nat} (hk : isBits k) (hk' : isBits k') (hne : k' ≠ k) (hp : ∀ J', onlyJ k J J' → (∀ j, sB J' k j = (sB J k j || sB J k' j)) → P none I J') : call pgX zX0_join [.ref k, .ref k'] I J P := by
  refine e_X0_join _ _ hk hk' (fun J1 e1 J2 e2 => ?_)
  subst e1; subst e2
  refine hp _ (onlyJ_uu _ _ _ _ _ _) (fun j => ?_)
  by_cases q : j < 64
  · rw [sB_lo q, sB_lo q, sB_lo q, u2_ne1 _ _ _ _ (by decide), u2_eq, bq_or]
  · rw [sB_hi q, sB_hi q, sB_hi q, u2_eq, u2_ne1 _ _ _ _ (by decide), u2_ne _ _ hne, bq_or]
theorem meet_ok {k k' : Nat} (hk : isBits k) (hk' : isBits k') (hne : k' ≠ k) (hp : ∀ J', onlyJ k J J' → (∀ j, sB J' k j = (sB J k j && sB J k' j)) → P none I J') : call pgX zX0_meet [.ref k, .ref k'] I J P := by
  refine e_X0_meet _ _ hk hk' (fun J1 e1 J2 e2 => ?_)
  subst e1; subst e2
  refine hp _ (onlyJ_uu _ _ _ _ _ _) (fun j => ?_)
  by_cases q : j < 64
  · rw [sB_lo q, sB_lo q, sB_lo q, u2_ne1 _ _ _ _ (by decide), u2_eq, bq_and]
  · rw [sB_hi q, sB_hi q, sB_hi q, u2_eq, u2_ne1 _ _ _ _ (by decide), u2_ne _ _ hne, bq_and]
theorem leave_ok {k k' : Nat} (hk : isBits k) (hk' : isBits k') (hne : k' ≠ k) (hp : ∀ J', onlyJ k J J' → (∀ j, j < 128 → sB J' k j = (sB J k j && !sB J k' j)) → P none I J') : call pgX zX0_leave [.ref k, .ref k'] I J P := by
  refine e_X0_leave _ _ hk hk' (fun J1 e1 J2 e2 => ?_)
  subst e1; subst e2
  refine hp _ (onlyJ_uu _ _ _ _ _ _) (fun j hj => ?_)
  by_cases q : j < 64
  · rw [sB_lo q, sB_lo q, sB_lo q, u2_ne1 _ _ _ _ (by decide), u2_eq, bq_and, bq_not _ q]
  · rw [sB_hi q, sB_hi q, sB_hi q, u2_eq, u2_ne1 _ _ _ _ (by decide), u2_ne _ _ hne, bq_and, bq_not _ (by omega)]
theorem joinMoved_ok {k k' m : Nat} (hk : isBits k) (hk' : isBits k') (hne : k' ≠ k) (hm : m < 64) (hp : ∀ J', onlyJ k J J' → (∀ j, j < 128 → sB J' k j = (sB J k j || (decide (m ≤ j) && sB J k' (j - m)))) → P none I J') : call pgX zX0_joinMoved [.ref k, .ref k', .int (zI m)] I J P := by
  refine e_X0_joinMoved _ _ _ hk hk' (fun J1 e1 J2 e2 => ?_)
  rw [show (0 : Int32) = zI (0 : Nat) from rfl, z_le (by omega) (by omega) (by omega) (by omega)]
  have r1 : J2 k 0 = J k 0 ||| (J k' 0 <<< ((zI m).toInt64 &&& 63)) := by rw [e2, u2_ne1 _ _ _ _ (by decide), e1, u2_eq]
  have r2 : J2 k 1 = J k 1 ||| (J k' 1 <<< ((zI m).toInt64 &&& 63)) := by rw [e2, u2_eq, e1, u2_ne1 _ _ _ _ (by decide), u2_ne _ _ hne]
  have r3 : J2 k' 0 = J k' 0 := by rw [e2, u2_ne _ _ hne, e1, u2_ne _ _ hne]
  have o2 : onlyJ k J J2 := by rw [e2, e1]; exact onlyJ_uu _ _ _ _ _ _
  rw [z_nat m] at r1 r2
  refine ⟨fun h => ?_, fun h J3 e3 => ?_⟩
  · have h0 : m = 0 := by omega
    subst h0
    refine hp J2 o2 (fun j hj => ?_)
    by_cases q : j < 64
    · rw [sB_lo q, r1, bq_or, bq_shl _ (by decide) q, sB_lo q, sB_lo (by omega)]
    · rw [sB_hi q, r2, bq_or, bq_shl _ (by decide) (by omega), sB_hi q, sB_hi (by omega)]
      simp
  · have o3 : onlyJ k J J3 := fun z hz => by rw [e3, u2_other _ k 1 _ hz]; exact o2 z hz
    refine hp J3 o3 (fun j hj => ?_)
    by_cases q : j < 64
    · rw [sB_lo q, e3, u2_ne1 _ _ _ _ (by decide), r1, bq_or, bq_shl _ hm q, sB_lo q, sB_lo (by omega)]
    · rw [sB_hi q, e3, u2_eq, r2, r3, show (64 : Int32) - zI m = nI (64 - m) by rw [show (64 : Int32) = nI 64 from rfl, z_nat]; exact pk_sub (by omega), bq_or, bq_or, bq_shl _ hm (by omega), bq_shr _ (by omega) (by omega), sB_hi q, Bool.or_assoc]
      congr 1
      by_cases c : j - m < 64
      · rw [sB_lo c]
        by_cases d : m ≤ j - 64
        · rw [show j - 64 - m = j - m - 64 by omega]
          exact absurd c (by omega)
        · rw [decide_eq_false d, Bool.false_and, Bool.false_or, decide_eq_true (show j - 64 + (64 - m) < 64 by omega), decide_eq_true (show m ≤ j by omega), show j - 64 + (64 - m) = j - m by omega]
      · rw [sB_hi c, decide_eq_true (show m ≤ j - 64 by omega), decide_eq_true (show m ≤ j by omega), decide_eq_false (show ¬ (j - 64 + (64 - m) < 64) by omega), show j - 64 - m = j - m - 64 by omega]
        simp
theorem ct_sB (J : tg_J) (k : Nat) : fb_ct (bq (J k 0)) 64 + fb_ct (bq (J k 1)) 64 = fb_ct (sB J k) 128 := by
  have e1 : fb_ct (bq (J k 0)) 64 = fb_ct (sB J k) 64 := fb_ct_cong (fun i hi => (sB_lo hi).symm)
  have e2 : fb_ct (bq (J k 1)) 64 = fb_ct (fun i => sB J k (64 + i)) 64 := fb_ct_cong (fun i hi => by rw [sB_hi (by omega), show 64 + i - 64 = i by omega])
  rw [show (128 : Nat) = 64 + 64 from rfl, fb_ct_split, e1, e2]
theorem size_ok {k : Nat} (hk : isBits k) (hp : P (some (.int (zI (fb_ct (sB J k) 128 : Nat)))) I J) : call pgX zX0_size [.ref k] I J P := by
  refine e_X0_size _ hk (bitCount_ok _ ⟨_, rfl, bitCount_ok _ ⟨_, rfl, ?_⟩⟩)
  rw [z_add]
  have h := ct_sB J k
  rw [← h] at hp
  exact hp
theorem nth_ok {k n : Nat} (hk : isBits k) (hn : n ≤ 128) (x : Int32) (hp1 : ∀ m, m < n → sB J k m = true → (fb_ct (sB J k) m : Int) = x.toInt → P (some (.int (zI m))) I J) (hp2 : (∀ m, m < n → sB J k m = true → (fb_ct (sB J k) m : Int) ≠ x.toInt) → P (some (.int (-1))) I J) : call pgX zX0_nth [.ref k, .int x, .int (zI n)] I J P := by
  refine e_X0_nth _ _ _ hk ?_
  have key := up_loop (L := fun m => (∀ j, j < m → sB J k j = true → (fb_ct (sB J k) j : Int) ≠ x.toInt) → l_X0_nth_5 I J P k x (zI n) (zI (fb_ct (sB J k) m : Nat)) (zI m)) n ?_ ?_ 0 (Nat.zero_le _)
  · exact key (fun j hj => absurd hj (Nat.not_lt_zero j))
  · intro hq
    exact s_X0_nth_5 _ _ _ _ _ hk ⟨fun _ => hp2 hq, fun h => absurd (Int32.le_refl _) h⟩
  · intro m hm ih hq
    refine s_X0_nth_5 _ _ _ _ _ hk ?_
    have hle := fb_ct_le (sB J k) m
    have hs := fb_ct_succ (sB J k) m
    rw [z_le (by omega) (by omega) (by omega) (by omega)]
    refine ⟨fun h => absurd h (by omega), fun _ => has_ok hk (by omega) ⟨_, rfl, fun h => ?_, fun h => ?_⟩⟩
    · have hb : sB J k m = false := by
        cases e : sB J k m
        · rfl
        · rw [e] at h; exact absurd h (by decide)
      rw [hb] at hs
      rw [show (1 : Int32) = zI 1 from rfl, z_add]
      have := ih (fun j hj hj2 => by
        rcases Nat.lt_or_ge j m with q | q
        · exact hq j q hj2
        · rw [show j = m by omega, hb] at hj2; cases hj2)
      rw [hs] at this
      exact this
    · have hb : sB J k m = true := by
        cases e : sB J k m
        · rw [e] at h; exact absurd rfl h
        · rfl
      rw [hb] at hs
      refine ⟨fun h2 => ?_, fun h2 => ?_⟩
      · rw [show (1 : Int32) = zI 1 from rfl, z_add, z_add]
        have := ih (fun j hj hj2 => by
          rcases Nat.lt_or_ge j m with q | q
          · exact hq j q hj2
          · rw [show j = m by omega]
            intro e
            apply h2
            rw [fa_eq, z_toInt (by omega) (by omega)]
            exact e)
        rw [hs] at this
        exact this
      · refine hp1 m hm hb ?_
        rw [fa_eq, z_toInt (by omega) (by omega)] at h2
        exact h2
theorem bq_low (x : Int64) {j : Nat} (hj : j < 64) : bq (x &&& (-x)) j = (bq x j && !decide (∃ i, i < j ∧ bq x i = true)) := by
  have h : bq (-x) j = (bq x j ^^ decide (∃ i, i < j ∧ bq x i = true)) := by
    unfold bq
    rw [Int64.toBitVec_neg, BitVec.getLsbD_neg]
    simp [hj]
  rw [bq_and, h]
  cases bq x j <;> cases decide (∃ i, i < j ∧ bq x i = true) <;> rfl
theorem lowest_ok (x : Int64) (hp : ∀ m : Nat, m ≤ 64 → (m < 64 → bq x m = true) → (∀ j, j < m → bq x j = false) → P (some (.int (zI m))) I J) : call pgX zX0_lowest [.long x] I J P := by
  refine e_X0_lowest _ (bitCount_ok _ ⟨_, rfl, ?_⟩)
  by_cases h : ∃ i, i < 64 ∧ bq x i = true
  · obtain ⟨m, h1, h2, h3⟩ := fb_first h
    have h4 : ∀ j, j < m → bq x j = false := fun j hj => by
      cases e : bq x j
      · rfl
      · exact absurd e (h3 j hj)
    have e1 : x &&& (-x) = lN (2 ^ m) := by
      apply bq_ext
      intro j hj
      rw [bq_low x hj, bq_lN hj, Nat.testBit_two_pow]
      by_cases q : m = j
      · subst q
        rw [h2, decide_eq_true rfl, decide_eq_false]
        · rfl
        · rintro ⟨i, i1, i2⟩
          rw [h4 i i1] at i2
          cases i2
      · rw [decide_eq_false q]
        by_cases q2 : m < j
        · rw [decide_eq_true (show ∃ i, i < j ∧ bq x i = true from ⟨m, q2, h2⟩)]
          simp
        · rw [h4 j (by omega)]
          rfl
    have hpow : 1 ≤ 2 ^ m := Nat.one_le_two_pow
    rw [e1, show (1 : Int64) = lN 1 from rfl, lN_sub hpow]
    have e2 : fb_ct (bq (lN (2 ^ m - 1))) 64 = m := by
      rw [fb_ct_cong (q := fun j => decide (j < m)) (fun j hj => by rw [bq_lN hj, Nat.testBit_two_pow_sub_one])]
      rw [show 64 = m + (64 - m) by omega, fb_ct_split, fb_ct_all.mpr (fun k hk => decide_eq_true hk), fb_ct_zero.mpr (fun k hk => decide_eq_false (by omega))]
      rfl
    rw [e2]
    exact hp m (by omega) (fun _ => h2) h4
  · have h4 : ∀ j, j < 64 → bq x j = false := fun j hj => by
      cases e : bq x j
      · rfl
      · exact absurd ⟨j, hj, e⟩ h
    have hx : x = 0 := bq_eq0.mpr h4
    have e2 : fb_ct (bq ((x &&& (-x)) - 1)) 64 = 64 := by
      rw [hx]
      decide +kernel
    rw [e2]
    exact hp 64 (by omega) (fun q => absurd q (by omega)) h4
theorem least_ok {k : Nat} (hk : isBits k) (hp : ∀ m : Nat, m ≤ 128 → (m < 128 → sB J k m = true) → (∀ j, j < m → sB J k j = false) → P (some (.int (zI m))) I J) : call pgX zX0_least [.ref k] I J P := by
  refine e_X0_least _ hk ?_
  rw [cmp_eq0]
  refine ⟨fun h => lowest_ok _ (fun m h1 h2 h3 => ⟨_, rfl, ?_⟩), fun h => lowest_ok _ (fun m h1 h2 h3 => ⟨_, rfl, ?_⟩)⟩
  · rw [show (64 : Int32) = zI 64 from rfl, z_add]
    have := hp (64 + m) (by omega) (fun q => by rw [sB_hi (by omega), show 64 + m - 64 = m by omega]; exact h2 (by omega)) (fun j hj => by
      by_cases q : j < 64
      · rw [sB_lo q]; exact bq_eq0.mp h j q
      · rw [sB_hi q]; exact h3 _ (by omega))
    exact this
  · have hm : m < 64 := by
      rcases Nat.lt_or_ge m 64 with q | q
      · exact q
      · exact absurd (bq_eq0.mpr (fun i hi => h3 i (by omega))) h
    exact hp m (by omega) (fun _ => by rw [sB_lo hm]; exact h2 hm) (fun j hj => by rw [sB_lo (by omega)]; exact h3 j hj)
end XS
