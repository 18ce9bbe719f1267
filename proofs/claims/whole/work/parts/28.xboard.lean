/-! the class's board -/
section XB
variable {I : tg_I} {J : tg_J} {P : Option Value → tg_I → tg_J → Prop} {w h sh b : Nat}
theorem bd_bits {n : Nat} (hb : isBd b) (h6 : 6 ≤ n) (h12 : n ≤ 12) : isBits (b + n) := by
  refine ⟨bd_lt hb (by omega), ?_⟩
  have : n = 6 ∨ n = 7 ∨ n = 8 ∨ n = 9 ∨ n = 10 ∨ n = 11 ∨ n = 12 := by omega
  rcases this with rfl | rfl | rfl | rfl | rfl | rfl | rfl
  · exact bd_6 hb
  · exact bd_7 hb
  · exact bd_8 hb
  · exact bd_9 hb
  · exact bd_10 hb
  · exact bd_11 hb
  · exact bd_12 hb
theorem ct_ext {p : Nat → Bool} {m n : Nat} (hmn : m ≤ n) (h : ∀ k, m ≤ k → k < n → p k = false) : fb_ct p n = fb_ct p m := by
  have e : fb_ct (fun k => p (m + k)) (n - m) = 0 := fb_ct_zero.mpr (fun k hk => h _ (by omega) (by omega))
  have e2 := fb_ct_split p m (n - m)
  rw [show m + (n - m) = n by omega, e] at e2
  exact e2
theorem row_and (a k : Nat) (J : tg_J) : fb_ct (bq (J (b + 2) a &&& J k 0)) 64 + fb_ct (bq (J (b + 3) a &&& J k 1)) 64 = fb_ct (fun i => rowB b a J i && sB J k i) 128 := by
  have e1 : fb_ct (bq (J (b + 2) a &&& J k 0)) 64 = fb_ct (fun i => rowB b a J i && sB J k i) 64 := fb_ct_cong (fun i hi => by simp [rowB, bh, hi, sB_lo hi, bq_and])
  have e2 : fb_ct (bq (J (b + 3) a &&& J k 1)) 64 = fb_ct (fun i => rowB b a J (64 + i) && sB J k (64 + i)) 64 := fb_ct_cong (fun i hi => by
    rw [sB_hi (by omega)]
    simp [rowB, bh, bq_and, show ¬ 64 + i < 64 by omega])
  rw [show (128 : Nat) = 64 + 64 from rfl, fb_ct_split, e1, e2]
theorem countNear_ok {a k : Nat} (hb : isBd b) (hk : isBits k) (ha : a < 100) (hp : P (some (.int (zI (fb_ct (fun i => rowB b a J i && sB J k i) 128 : Nat)))) I J) : call pgX zX2_countNear [.ref (b + 1), .int (zI a), .ref k] I J P := by
  refine e_X2_countNear _ _ _ hb hk ?_
  rw [z_in (by omega) (by omega), z_cl (by omega)]
  refine ⟨by omega, bitCount_ok _ ⟨_, rfl, by omega, bitCount_ok _ ⟨_, rfl, ?_⟩⟩⟩
  rw [z_add]
  have := row_and (b := b) a k J
  rw [← this] at hp
  exact hp
theorem touches_ok {a k : Nat} (hb : isBd b) (hk : isBits k) (ha : a < 100) (hp : ∀ r : Bool, (r = true ↔ ∃ i, i < 128 ∧ rowB b a J i = true ∧ sB J k i = true) → P (some (.int (bi r))) I J) : call pgX zX2_touches [.ref (b + 1), .int (zI a), .ref k] I J P := by
  refine e_X2_touches _ _ _ hb hk ?_
  rw [z_in (by omega) (by omega), z_cl (by omega), cmp_eq0, bq_eq0]
  refine ⟨by omega, by omega, fun q => hp false ⟨fun c => (by cases c), fun c => ?_⟩, fun q => hp true ⟨fun _ => ?_, fun _ => rfl⟩⟩
  · obtain ⟨i, i1, i2, i3⟩ := c
    by_cases c : i < 64
    · have := q i c
      rw [bq_or, bq_and, bq_and] at this
      rw [sB_lo c] at i3
      simp [rowB, bh, c] at i2
      rw [i2, i3] at this
      simp at this
    · have := q (i - 64) (by omega)
      rw [bq_or, bq_and, bq_and] at this
      rw [sB_hi c] at i3
      simp [rowB, bh, c] at i2
      rw [i2, i3] at this
      simp at this
  · rcases Classical.em (∃ i, i < 128 ∧ rowB b a J i = true ∧ sB J k i = true) with z | z
    · exact z
    · exfalso
      apply q
      intro i hi
      rw [bq_or, bq_and, bq_and]
      have z1 : (bq (J (b + 2) a) i && bq (J k 0) i) = false := by
        cases e1 : bq (J (b + 2) a) i
        · rfl
        · cases e2 : bq (J k 0) i
          · rfl
          · exact absurd ⟨i, by omega, by simp [rowB, bh, hi, e1], by rw [sB_lo hi]; exact e2⟩ z
      have z2 : (bq (J (b + 3) a) i && bq (J k 1) i) = false := by
        cases e1 : bq (J (b + 3) a) i
        · rfl
        · cases e2 : bq (J k 1) i
          · rfl
          · exact absurd ⟨64 + i, by omega, by simp [rowB, bh, e1], by rw [sB_hi (by omega), show 64 + i - 64 = i by omega]; exact e2⟩ z
      rw [z1, z2]
      rfl
theorem row_nb {a : Nat} (g : gridX b w h sh I J) (ha : a < w * h) {i : Nat} (hi : i < 128) : rowB b a J i = nb w h sh a i := (g.2 a ha).1 i hi
/-- how many of a cell's neighbours are in a set -/
def nin (w h sh : Nat) (S : Nat → Bool) (a : Nat) : Nat := fb_ct (fun i => nb w h sh a i && S i) (w * h)
theorem nin_128 {S : Nat → Bool} {a : Nat} (hn : w * h ≤ 128) : fb_ct (fun i => nb w h sh a i && S i) 128 = nin w h sh S a := by
  refine ct_ext hn (fun k h1 _ => ?_)
  cases e : nb w h sh a k
  · rfl
  · exact absurd (nb_lt e) (by omega)
theorem nin_le (S : Nat → Bool) (a : Nat) : nin w h sh S a ≤ 8 := by
  refine Nat.le_trans (fb_ct_sub (q := nb w h sh a) (fun k _ hk => ?_)) (nb_ct_le a _)
  simp at hk
  exact hk.1
theorem row_nin {a k : Nat} (gk : gOk w h sh) (g : gridX b w h sh I J) (ha : a < w * h) : fb_ct (fun i => rowB b a J i && sB J k i) 128 = nin w h sh (sB J k) a := by
  obtain ⟨hn1, hn2⟩ := mul_le100 gk
  rw [← nin_128 (by omega)]
  exact fb_ct_cong (fun i hi => by rw [row_nb g ha hi])
theorem nearct_ok {a k : Nat} (hb : isBd b) (hk : isBits k) (gk : gOk w h sh) (g : gridX b w h sh I J) (ha : a < w * h) (hp : P (some (.int (zI (nin w h sh (sB J k) a : Nat)))) I J) : call pgX zX2_countNear [.ref (b + 1), .int (zI a), .ref k] I J P := by
  obtain ⟨hn1, hn2⟩ := mul_le100 gk
  refine countNear_ok hb hk (by omega) ?_
  rw [row_nin gk g ha]
  exact hp
theorem number_ok {a : Nat} (hb : isBd b) (gk : gOk w h sh) (g : gridX b w h sh I J) (ha : a < w * h) (hp : P (some (.int (zI (nin w h sh (sB J (b + 7)) a : Nat)))) I J) : call pgX zX1_number [.ref b, .int (zI a)] I J P :=
  e_X1_number _ _ hb (nearct_ok hb (bd_bits hb (by decide) (by decide)) gk g ha ⟨_, rfl, hp⟩)
theorem marked_ok {a : Nat} (hb : isBd b) (gk : gOk w h sh) (g : gridX b w h sh I J) (ha : a < w * h) (hp : P (some (.int (zI (nin w h sh (sB J (b + 11)) a + nin w h sh (sB J (b + 10)) a : Nat)))) I J) : call pgX zX1_marked [.ref b, .int (zI a)] I J P := by
  refine e_X1_marked _ _ hb (nearct_ok hb (bd_bits hb (by decide) (by decide)) gk g ha ⟨_, rfl, nearct_ok hb (bd_bits hb (by decide) (by decide)) gk g ha ⟨_, rfl, ?_⟩⟩)
  rw [z_add]
  exact hp
theorem due_ok {a k : Nat} (hb : isBd b) (hk : isBits k) (gk : gOk w h sh) (g : gridX b w h sh I J) (ha : a < w * h) (hp : P (some (.int (zI ((nin w h sh (sB J (b + 7)) a : Nat) - (nin w h sh (sB J k) a : Nat))))) I J) : call pgX zX1_due [.ref b, .int (zI a), .ref k] I J P := by
  obtain ⟨hn1, hn2⟩ := mul_le100 gk
  refine e_X1_due _ _ _ hb hk ?_
  rw [z_in (by omega) (by omega), z_cl (by omega)]
  refine ⟨by omega, fun y1 e1 => ⟨by omega, fun y2 e2 => ?_⟩⟩
  subst e1; subst e2
  refine bitCount_ok _ ⟨_, rfl, bitCount_ok _ ⟨_, rfl, bitCount_ok _ ⟨_, rfl, bitCount_ok _ ⟨_, rfl, ?_⟩⟩⟩⟩
  rw [z_add, z_sub, z_sub]
  have r1 := row_and (b := b) a (b + 7) J
  have r2 := row_and (b := b) a k J
  rw [row_nin gk g ha] at r1 r2
  rw [← r1, ← r2] at hp
  have e : ((fb_ct (bq (J (b + 2) a &&& J (b + 7) 0)) 64 : Nat) : Int) + ((fb_ct (bq (J (b + 3) a &&& J (b + 7) 1)) 64 : Nat) : Int) - ((fb_ct (bq (J (b + 2) a &&& J k 0)) 64 : Nat) : Int) - ((fb_ct (bq (J (b + 3) a &&& J k 1)) 64 : Nat) : Int) = ((fb_ct (bq (J (b + 2) a &&& J (b + 7) 0)) 64 + fb_ct (bq (J (b + 3) a &&& J (b + 7) 1)) 64 : Nat) : Int) - ((fb_ct (bq (J (b + 2) a &&& J k 0)) 64 + fb_ct (bq (J (b + 3) a &&& J k 1)) 64 : Nat) : Int) := by omega
  rw [e]
  exact hp
theorem minesLeft_ok (hb : isBd b) (hp : P (some (.int (zI ((fb_ct (sB J (b + 7)) 128 : Nat) - (fb_ct (sB J (b + 10)) 128 : Nat))))) I J) : call pgX zX1_minesLeft [.ref b] I J P := by
  refine e_X1_minesLeft _ hb (size_ok (bd_bits hb (by decide) (by decide)) ⟨_, rfl, size_ok (bd_bits hb (by decide) (by decide)) ⟨_, rfl, ?_⟩⟩)
  rw [z_sub]
  exact hp
theorem cleared_ok (hb : isBd b) (hp : ∀ r : Bool, (r = true ↔ ∀ i, i < 128 → sB J (b + 8) i = true → sB J (b + 7) i = true) → P (some (.int (bi r))) I J) : call pgX zX1_cleared [.ref b] I J P := by
  refine e_X1_cleared _ hb ?_
  rw [cmp_eq0, bq_eq0]
  refine ⟨fun q => hp false ⟨fun c => (by cases c), fun c => ?_⟩, fun q => hp true ⟨fun _ i hi hi2 => ?_, fun _ => rfl⟩⟩
  · exfalso
    apply q
    intro i hi
    have c1 := c i (by omega)
    have c2 := c (64 + i) (by omega)
    rw [sB_lo hi, sB_lo hi] at c1
    rw [sB_hi (by omega), sB_hi (by omega), show 64 + i - 64 = i by omega] at c2
    rw [bq_or, bq_and, bq_and, bq_not _ hi, bq_not _ hi]
    cases e1 : bq (J (b + 8) 0) i <;> cases e2 : bq (J (b + 8) 1) i <;> simp_all
  · by_cases c : i < 64
    · have := q i c
      rw [bq_or, bq_and, bq_and, bq_not _ c, bq_not _ c] at this
      rw [sB_lo c] at hi2 ⊢
      rw [hi2] at this
      cases e : bq (J (b + 7) 0) i
      · rw [e] at this; simp at this
      · rfl
    · have := q (i - 64) (by omega)
      rw [bq_or, bq_and, bq_and, bq_not _ (by omega), bq_not _ (by omega)] at this
      rw [sB_hi c] at hi2 ⊢
      rw [hi2] at this
      cases e : bq (J (b + 7) 1) (i - 64)
      · rw [e] at this; simp at this
      · rfl
/-- the sets of a board -/
def vw (b : Nat) (M H O B F : Nat → Bool) (J : tg_J) : Prop := ∀ i, i < 128 → sB J (b + 7) i = M i ∧ sB J (b + 8) i = H i ∧ sB J (b + 9) i = O i ∧ sB J (b + 10) i = B i ∧ sB J (b + 11) i = F i
/-- what play on a board may change -/
def onlyB (b : Nat) (I I' : tg_I) (J J' : tg_J) : Prop := (∀ q, q ≠ b + 13 → I' q = I q) ∧ ∀ q, q ≠ b + 8 → q ≠ b + 9 → q ≠ b + 10 → q ≠ b + 11 → J' q = J q
theorem onlyB.rf : onlyB b I I J J := ⟨fun _ _ => rfl, fun _ _ _ _ _ => rfl⟩
theorem onlyB.tr {I1 I2 : tg_I} {J1 J2 : tg_J} (h1 : onlyB b I I1 J J1) (h2 : onlyB b I1 I2 J1 J2) : onlyB b I I2 J J2 := ⟨fun q x => (h2.1 q x).trans (h1.1 q x), fun q x y z u => (h2.2 q x y z u).trans (h1.2 q x y z u)⟩
theorem onlyB.grid {I1 : tg_I} {J1 : tg_J} (h1 : onlyB b I I1 J J1) (g : gridX b w h sh I J) : gridX b w h sh I1 J1 := by
  obtain ⟨o1, o2⟩ := h1
  have e1 := o1 (b + 1) (by omega)
  have e4 := o1 (b + 4) (by omega)
  have e5 := o1 (b + 5) (by omega)
  have j2 := o2 (b + 2) (by omega) (by omega) (by omega) (by omega)
  have j3 := o2 (b + 3) (by omega) (by omega) (by omega) (by omega)
  unfold gridX xSz rowX rowB at *
  rw [e1, e4, e5, j2, j3]
  exact g
theorem onlyB_J {k : Nat} {J1 : tg_J} (hk : k = b + 8 ∨ k = b + 9 ∨ k = b + 10 ∨ k = b + 11) (h1 : onlyJ k J J1) : onlyB b I I J J1 := ⟨fun _ _ => rfl, fun q x y z u => h1 q (by omega)⟩
theorem onlyB_I {I1 : tg_I} (h1 : onlyI (b + 13) I I1) : onlyB b I I1 J J := ⟨fun q x => h1 q x, fun _ _ _ _ _ => rfl⟩
theorem hideAll_ok {M H O B F A : Nat → Bool} (hb : isBd b) (hv : vw b M H O B F J) (hA : ∀ i, i < 128 → sB J (b + 6) i = A i) (hp : ∀ J', onlyB b I I J J' → vw b M A (fun _ => false) (fun _ => false) (fun _ => false) J' → P none I J') : call pgX zX1_hideAll [.ref b] I J P := by
  refine e_X1_hideAll _ hb ?_
  refine copy_ok (bd_bits hb (by decide) (by decide)) (bd_bits hb (by decide) (by decide)) (fun J1 o1 s1 => ⟨rfl, ?_⟩)
  refine clear_ok (bd_bits hb (by decide) (by decide)) (fun J2 o2 s2 => ⟨rfl, ?_⟩)
  refine clear_ok (bd_bits hb (by decide) (by decide)) (fun J3 o3 s3 => ⟨rfl, ?_⟩)
  refine clear_ok (bd_bits hb (by decide) (by decide)) (fun J4 o4 s4 => ⟨rfl, ?_⟩)
  refine hp J4 ((((onlyB_J (by omega) o1).tr (onlyB_J (by omega) o2)).tr (onlyB_J (by omega) o3)).tr (onlyB_J (by omega) o4)) (fun i hi => ?_)
  have e8 : sB J4 (b + 8) i = sB J1 (b + 8) i := by rw [sB_of (o4 _ (by omega)), sB_of (o3 _ (by omega)), sB_of (o2 _ (by omega))]
  have e7 : sB J4 (b + 7) i = sB J (b + 7) i := by rw [sB_of (o4 _ (by omega)), sB_of (o3 _ (by omega)), sB_of (o2 _ (by omega)), sB_of (o1 _ (by omega))]
  have e9 : sB J4 (b + 9) i = sB J2 (b + 9) i := by rw [sB_of (o4 _ (by omega)), sB_of (o3 _ (by omega))]
  have e10 : sB J4 (b + 10) i = sB J3 (b + 10) i := by rw [sB_of (o4 _ (by omega))]
  refine ⟨by rw [e7]; exact (hv i hi).1, by rw [e8, s1, hA i hi], by rw [e9, s2], by rw [e10, s3], s4 i⟩
theorem show_ok {M H O B F : Nat → Bool} {a : Nat} (hb : isBd b) (ha : a < 128) (hv : vw b M H O B F J) (hp : ∀ J', onlyB b I I J J' → vw b M (fun i => H i && !decide (i = a)) (fun i => O i || decide (i = a)) B (fun i => F i && !decide (i = a)) J' → P none I J') : call pgX zX1_show [.ref b, .int (zI a)] I J P := by
  refine e_X1_show _ _ hb ?_
  refine drop_ok (bd_bits hb (by decide) (by decide)) ha (fun J1 o1 s1 => ⟨rfl, ?_⟩)
  refine drop_ok (bd_bits hb (by decide) (by decide)) ha (fun J2 o2 s2 => ⟨rfl, ?_⟩)
  refine add_ok (bd_bits hb (by decide) (by decide)) ha (fun J3 o3 s3 => ⟨rfl, ?_⟩)
  refine hp J3 (((onlyB_J (by omega) o1).tr (onlyB_J (by omega) o2)).tr (onlyB_J (by omega) o3)) (fun i hi => ?_)
  obtain ⟨v1, v2, v3, v4, v5⟩ := hv i hi
  refine ⟨?_, ?_, ?_, ?_, ?_⟩
  · rw [sB_of (o3 _ (by omega)), sB_of (o2 _ (by omega)), sB_of (o1 _ (by omega))]; exact v1
  · rw [sB_of (o3 _ (by omega)), sB_of (o2 _ (by omega)), s1 i hi, v2]
  · rw [s3 i hi, sB_of (o2 _ (by omega)), sB_of (o1 _ (by omega)), v3]
  · rw [sB_of (o3 _ (by omega)), sB_of (o2 _ (by omega)), sB_of (o1 _ (by omega))]; exact v4
  · rw [sB_of (o3 _ (by omega)), s2 i hi, sB_of (o1 _ (by omega)), v5]
end XB
