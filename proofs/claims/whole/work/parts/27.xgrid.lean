/-! the class lays out its grid -/
section XG
variable {I : tg_I} {J : tg_J} {P : Option Value → tg_I → tg_J → Prop} {w h sh b : Nat}
theorem fits_ok (x y z : Int32) (hp : P (some (.int (bi (decide (1 ≤ x.toInt ∧ x.toInt ≤ 10 ∧ 1 ≤ y.toInt ∧ y.toInt ≤ 10 ∧ 0 ≤ z.toInt ∧ z.toInt ≤ 3 ∧ (z.toInt = 3 → y.toInt % 2 = 0)))))) I J) : call pgX zX2_fits [.int x, .int y, .int z] I J P := by
  obtain ⟨x, x1, x2, rfl⟩ := z_of x
  obtain ⟨y, y1, y2, rfl⟩ := z_of y
  obtain ⟨z, z1, z2, rfl⟩ := z_of z
  refine e_X2_fits _ _ _ ?_
  rw [z_toInt x1 x2, z_toInt y1 y2, z_toInt z1 z2] at hp
  refine ⟨fun a => ?_, fun a => ⟨fun b => ?_, fun b => ⟨fun c => ?_, fun c => ⟨fun d => ?_, fun d => ⟨fun e => ?_, fun e => ⟨fun f => ?_, fun f => ⟨fun g => ?_, fun g => ?_⟩⟩⟩⟩⟩⟩⟩
  · rw [show (1 : Int32) = zI 1 from rfl, z_lt (by omega) (by omega) (by omega) (by omega)] at a; rw [decide_eq_false (by omega)] at hp; exact hp
  · rw [show (10 : Int32) = zI 10 from rfl, z_lt (by omega) (by omega) (by omega) (by omega)] at b; rw [decide_eq_false (by omega)] at hp; exact hp
  · rw [show (1 : Int32) = zI 1 from rfl, z_lt (by omega) (by omega) (by omega) (by omega)] at c; rw [decide_eq_false (by omega)] at hp; exact hp
  · rw [show (10 : Int32) = zI 10 from rfl, z_lt (by omega) (by omega) (by omega) (by omega)] at d; rw [decide_eq_false (by omega)] at hp; exact hp
  · rw [show (0 : Int32) = zI 0 from rfl, z_lt (by omega) (by omega) (by omega) (by omega)] at e; rw [decide_eq_false (by omega)] at hp; exact hp
  · rw [show (3 : Int32) = zI 3 from rfl, z_lt (by omega) (by omega) (by omega) (by omega)] at f; rw [decide_eq_false (by omega)] at hp; exact hp
  · rw [show (1 : Int32) = zI 1 from rfl, z_lt (by omega) (by omega) (by omega) (by omega)] at a c
    rw [show (10 : Int32) = zI 10 from rfl, z_lt (by omega) (by omega) (by omega) (by omega)] at b d
    rw [show (0 : Int32) = zI 0 from rfl, z_lt (by omega) (by omega) (by omega) (by omega)] at e
    rw [show (3 : Int32) = zI 3 from rfl, z_lt (by omega) (by omega) (by omega) (by omega)] at f
    rw [show (3 : Int32) = zI 3 from rfl, z_eq (by omega) (by omega) (by omega) (by omega)] at g
    rw [decide_eq_true (by omega)] at hp; exact hp
  · rw [show (1 : Int32) = zI 1 from rfl, z_lt (by omega) (by omega) (by omega) (by omega)] at a c
    rw [show (10 : Int32) = zI 10 from rfl, z_lt (by omega) (by omega) (by omega) (by omega)] at b d
    rw [show (0 : Int32) = zI 0 from rfl, z_lt (by omega) (by omega) (by omega) (by omega)] at e
    rw [show (3 : Int32) = zI 3 from rfl, z_lt (by omega) (by omega) (by omega) (by omega)] at f
    rw [show (3 : Int32) = zI 3 from rfl, z_eq (by omega) (by omega) (by omega) (by omega)] at g
    obtain ⟨m, rfl⟩ := Int.eq_ofNat_of_zero_le (show 0 ≤ y by omega)
    rw [z_nat m, show (1 : Int32) = nI (2 ^ 1 - 1) from rfl, fa_mask, show (0 : Int32) = nI 0 from rfl, nI_eq (by omega) (by omega)]
    refine ⟨fun q => ?_, fun q => ?_⟩
    · rw [decide_eq_false (by omega)] at hp; exact hp
    · rw [decide_eq_true (by omega)] at hp; exact hp
theorem holds_ok {n : Nat} (hb : isBd b) (hn : I (b + 1) 7 = zI n) (hn2 : n ≤ 100) (x : Int32) (hp : P (some (.int (bi (decide (0 ≤ x.toInt ∧ x.toInt < n))))) I J) : call pgX zX2_holds [.ref (b + 1), .int x] I J P := by
  obtain ⟨z, z1, z2, rfl⟩ := z_of x
  refine e_X2_holds _ _ hb ?_
  rw [z_toInt z1 z2] at hp
  rw [hn, show (0 : Int32) = zI 0 from rfl, z_lt (by omega) (by omega) (by omega) (by omega), z_le (by omega) (by omega) (by omega) (by omega)]
  refine ⟨fun q => ?_, fun q => ⟨fun q2 => ?_, fun q2 => ?_⟩⟩
  · rw [decide_eq_false (by omega)] at hp; exact hp
  · rw [decide_eq_false (by omega)] at hp; exact hp
  · rw [decide_eq_true (by omega)] at hp; exact hp
theorem wrap_ok {r : Int} {n : Nat} (r1 : -1 ≤ r) (r2 : r ≤ n) (hn : n ≤ 10) (hp : P (some (.int (zI (gw true r n)))) I J) : call pgX zX2_wrap [.int (zI r), .int (zI n)] I J P := by
  refine e_X2_wrap _ _ ?_
  rw [show (0 : Int32) = zI 0 from rfl, z_le (by omega) (by omega) (by omega) (by omega), z_lt (by omega) (by omega) (by omega) (by omega), z_sub, z_add]
  unfold gw at hp
  refine ⟨fun q => ⟨fun q2 => ?_, fun q2 => ?_⟩, fun q => ?_⟩
  · rw [if_pos rfl, if_neg (by omega), if_neg (by omega)] at hp; exact hp
  · rw [if_pos rfl, if_neg (by omega), if_pos (by omega)] at hp; exact hp
  · rw [if_pos rfl, if_pos (by omega)] at hp; exact hp
/-- the sizes stand in the grid -/
def xSz (b w h sh : Nat) (I : tg_I) : Prop := I (b + 1) 4 = zI w ∧ I (b + 1) 5 = zI h ∧ I (b + 1) 6 = zI sh ∧ I (b + 1) 7 = zI (w * h : Nat)
theorem at_core {r c : Int} (hh : h ≤ 10) (hw : w ≤ 10) (r1 : -1 ≤ r) (r2 : r ≤ 10) (c1 : -1 ≤ c) (c2 : c ≤ 10) (s1 : I (b + 1) 5 = zI h) (s0 : I (b + 1) 4 = zI w) (hp : P (some (.int (zI (if 0 ≤ r ∧ r < h ∧ 0 ≤ c ∧ c < w then r * w + c else -1)))) I J) :
    (zI r < 0 → P (some (.int (-1 : Int32))) I J) ∧ (¬ zI r < 0 → ((I (b + 1) 5) ≤ zI r → P (some (.int (-1 : Int32))) I J) ∧ (¬ (I (b + 1) 5) ≤ zI r → (zI c < 0 → P (some (.int (-1 : Int32))) I J) ∧ (¬ zI c < 0 → ((I (b + 1) 4) ≤ zI c → P (some (.int (-1 : Int32))) I J) ∧ (¬ (I (b + 1) 4) ≤ zI c → P (some (.int ((zI r * (I (b + 1) 4)) + zI c))) I J)))) := by
  rw [s1, s0, show (0 : Int32) = zI 0 from rfl, show (-1 : Int32) = zI (-1) from rfl, z_mul, z_add, z_lt (by omega) (by omega) (by omega) (by omega), z_le (by omega) (by omega) (by omega) (by omega), z_lt (by omega) (by omega) (by omega) (by omega), z_le (by omega) (by omega) (by omega) (by omega)]
  refine ⟨fun q => ?_, fun q => ⟨fun q2 => ?_, fun q2 => ⟨fun q3 => ?_, fun q3 => ⟨fun q4 => ?_, fun q4 => ?_⟩⟩⟩⟩
  · rw [if_neg (by omega)] at hp; exact hp
  · rw [if_neg (by omega)] at hp; exact hp
  · rw [if_neg (by omega)] at hp; exact hp
  · rw [if_neg (by omega)] at hp; exact hp
  · rw [if_pos (by omega)] at hp; exact hp
theorem gw_rng {r : Int} {n : Nat} (ring : Bool) (r1 : -1 ≤ r) (r2 : r ≤ n) (h1 : 1 ≤ n) : -1 ≤ gw ring r n ∧ gw ring r n ≤ n := by
  unfold gw
  cases ring
  · simp; omega
  · simp only [if_true]
    split
    · omega
    · split <;> omega
theorem at_ok {r c : Int} (hb : isBd b) (g : gOk w h sh) (hs : xSz b w h sh I) (r1 : -1 ≤ r) (r2 : r ≤ h) (c1 : -1 ≤ c) (c2 : c ≤ w) (hp : P (some (.int (zI (gAt w h sh r c)))) I J) : call pgX zX2_at [.ref (b + 1), .int (zI r), .int (zI c)] I J P := by
  obtain ⟨s0, s1, s2, s3⟩ := hs
  obtain ⟨g1, g2, g3, g4, g5, g6⟩ := g
  refine e_X2_at _ _ _ hb ?_
  have eq1 : (I (b + 1) 6 &&& 1) = 1 ↔ sh % 2 = 1 := by
    rw [s2, z_nat sh, show (1 : Int32) = nI (2 ^ 1 - 1) from rfl, fa_mask, nI_eq (by omega) (by omega)]
  simp only [eq1]
  have b1 := gw_rng (decide (sh % 2 = 1)) r1 r2 g3
  have b2 := gw_rng (decide (sh % 2 = 1)) c1 c2 g1
  refine ⟨fun q => ?_, fun q => ?_⟩
  · have hr : ¬ sh % 2 = 1 := by omega
    have f1 : gw (decide (sh % 2 = 1)) r h = r := by rw [decide_eq_false hr]; rfl
    have f2 : gw (decide (sh % 2 = 1)) c w = c := by rw [decide_eq_false hr]; rfl
    unfold gAt at hp
    rw [f1, f2] at hp
    exact at_core g4 g2 (by omega) (by omega) (by omega) (by omega) s1 s0 hp
  · have hr : sh % 2 = 1 := by omega
    unfold gAt at hp
    rw [decide_eq_true hr] at hp b1 b2
    rw [s1]
    refine wrap_ok r1 r2 g4 ⟨_, rfl, ?_⟩
    rw [s0]
    refine wrap_ok c1 c2 g2 ⟨_, rfl, ?_⟩
    exact at_core g4 g2 (by omega) (by omega) (by omega) (by omega) s1 s0 hp
/-- the row of a cell: its bits, how many, and the list of them -/
def rowB (b a : Nat) (J : tg_J) (i : Nat) : Bool := bh (J (b + 2) a) (J (b + 3) a) i
def rowX (b a : Nat) (S : Nat → Bool) (I : tg_I) (J : tg_J) : Prop := (∀ i, i < 128 → rowB b a J i = S i) ∧ I (b + 5) a = zI (fb_ct S 128 : Nat) ∧ ∀ m, m < 128 → S m = true → I (b + 4) (8 * a + fb_ct S m) = zI m
theorem linked_ok {a t : Nat} (hb : isBd b) (ha : a < 100) (ht : t < 128) (hp : P (some (.int (bi (rowB b a J t)))) I J) : call pgX zX2_linked [.ref (b + 1), .int (zI a), .int (zI t)] I J P := by
  refine e_X2_linked _ _ _ hb ?_
  simp only [cmp_eq0]
  have hm : t % 64 < 64 := Nat.mod_lt _ (by decide)
  rw [show (64 : Int32) = zI (64 : Nat) from rfl, z_le (by omega) (by omega) (by omega) (by omega), z_in (by omega) (by omega), z_cl (by omega), z_nat t, sh_r t ht, has_bit _ hm, has_bit _ hm]
  unfold rowB bh at hp
  refine ⟨fun q => ⟨by omega, fun q2 => ?_, fun q2 => ?_⟩, fun q => ⟨by omega, fun q2 => ?_, fun q2 => ?_⟩⟩
  · rw [show t % 64 = t - 64 by omega] at q2
    rw [if_neg (by omega), q2] at hp; exact hp
  · rw [show t % 64 = t - 64 by omega] at q2
    rw [if_neg (by omega), show bq (J (b + 3) a) (t - 64) = true by simpa using q2] at hp; exact hp
  · rw [show t % 64 = t by omega] at q2
    rw [if_pos (by omega), q2] at hp; exact hp
  · rw [show t % 64 = t by omega] at q2
    rw [if_pos (by omega), show bq (J (b + 2) a) t = true by simpa using q2] at hp; exact hp
/-- what may change as a row is written: the row's own places -/
def onlyRow (b a : Nat) (I I' : tg_I) (J J' : tg_J) : Prop := (∀ q, q ≠ b + 4 → q ≠ b + 5 → I' q = I q) ∧ (∀ k, (k < 8 * a ∨ 8 * a + 8 ≤ k) → I' (b + 4) k = I (b + 4) k) ∧ (∀ k, k ≠ a → I' (b + 5) k = I (b + 5) k) ∧ (∀ q, q ≠ b + 2 → q ≠ b + 3 → J' q = J q) ∧ ∀ k, k ≠ a → J' (b + 2) k = J (b + 2) k ∧ J' (b + 3) k = J (b + 3) k
theorem onlyRow.rf {a : Nat} : onlyRow b a I I J J := ⟨fun _ _ _ => rfl, fun _ _ => rfl, fun _ _ => rfl, fun _ _ _ => rfl, fun _ _ => ⟨rfl, rfl⟩⟩
theorem onlyRow.tr {a : Nat} {I1 I2 : tg_I} {J1 J2 : tg_J} (h1 : onlyRow b a I I1 J J1) (h2 : onlyRow b a I1 I2 J1 J2) : onlyRow b a I I2 J J2 := ⟨fun q x y => (h2.1 q x y).trans (h1.1 q x y), fun k x => (h2.2.1 k x).trans (h1.2.1 k x), fun k x => (h2.2.2.1 k x).trans (h1.2.2.1 k x), fun q x y => (h2.2.2.2.1 q x y).trans (h1.2.2.2.1 q x y), fun k x => ⟨((h2.2.2.2.2 k x).1).trans (h1.2.2.2.2 k x).1, ((h2.2.2.2.2 k x).2).trans (h1.2.2.2.2 k x).2⟩⟩
theorem xSz_row {a : Nat} {I' : tg_I} {J' : tg_J} (h1 : onlyRow b a I I' J J') (hs : xSz b w h sh I) : xSz b w h sh I' := by
  unfold xSz
  rw [h1.1 (b + 1) (by omega) (by omega)]
  exact hs
def addS (S : Nat → Bool) (t : Nat) : Nat → Bool := fun i => S i || decide (i = t)
theorem addS_ct (S : Nat → Bool) {t : Nat} (hS : S t = false) (m : Nat) : fb_ct (addS S t) m = fb_ct S m + (if t < m then 1 else 0) := by
  induction m with
  | zero => rfl
  | succ m ih =>
    rw [fb_ct_succ, fb_ct_succ, ih]
    by_cases q : m = t
    · subst q
      simp [addS, hS]
    · have e : addS S t m = S m := by simp [addS, q]
      rw [e]
      by_cases q2 : t < m
      · simp only [if_pos q2, if_pos (show t < m + 1 by omega)]; omega
      · simp only [if_neg q2, if_neg (show ¬ t < m + 1 by omega)]; omega
theorem link45 {a t : Nat} {S : Nat → Bool} {I0 : tg_I} (hb : isBd b) (ha : a < 100) (ht : t < 128) (hS : S t = false) (hc : fb_ct S 128 < 8) (h0 : rowX b a S I0 J)
    (hp : ∀ I' J', onlyRow b a I0 I' J J' → rowX b a (addS S t) I' J' → P none I' J') : ∀ (d q : Nat) (I : tg_I), q = fb_ct S t + d → q ≤ fb_ct S 128 → (∀ z, z ≠ b + 4 → I z = I0 z) → (∀ k, (k < 8 * a ∨ 8 * a + 8 ≤ k) → I (b + 4) k = I0 (b + 4) k) → (∀ i, i < q → I (b + 4) (8 * a + i) = I0 (b + 4) (8 * a + i)) → (∀ i, q < i → i ≤ fb_ct S 128 → I (b + 4) (8 * a + i) = I0 (b + 4) (8 * a + (i - 1))) →
    l_X2_link_45 I J P b (zI a) (zI t) (zI (8 * a : Nat)) (zI (8 * a + q : Nat)) := by
  obtain ⟨r1, r2, r3⟩ := h0
  have fin : ∀ I : tg_I, (∀ z, z ≠ b + 4 → I z = I0 z) → (∀ k, (k < 8 * a ∨ 8 * a + 8 ≤ k) → I (b + 4) k = I0 (b + 4) k) → (∀ i, i < fb_ct S t → I (b + 4) (8 * a + i) = I0 (b + 4) (8 * a + i)) → (∀ i, fb_ct S t < i → i ≤ fb_ct S 128 → I (b + 4) (8 * a + i) = I0 (b + 4) (8 * a + (i - 1))) →
      vp_in (zI (8 * a + fb_ct S t : Nat)) 800 ∧ ∀ I1, I1 = u2 I (b + 4) (Int32.toNatClampNeg (zI (8 * a + fb_ct S t : Nat))) (zI t) → vp_in (zI a) 100 ∧ (vp_in (zI a) 100 ∧ ∀ I2, I2 = u2 I1 (b + 5) (Int32.toNatClampNeg (zI a)) ((I1 (b + 5) (Int32.toNatClampNeg (zI a))) + (1 : Int32)) → ((64 : Int32) ≤ zI t → vp_in (zI a) 100 ∧ (vp_in (zI a) 100 ∧ ∀ J1, J1 = u2 J (b + 3) (Int32.toNatClampNeg (zI a)) ((J (b + 3) (Int32.toNatClampNeg (zI a))) ||| ((1 : Int64) <<< ((zI t).toInt64 &&& 63))) → P none I2 J1)) ∧ (¬ (64 : Int32) ≤ zI t → vp_in (zI a) 100 ∧ (vp_in (zI a) 100 ∧ ∀ J2, J2 = u2 J (b + 2) (Int32.toNatClampNeg (zI a)) ((J (b + 2) (Int32.toNatClampNeg (zI a))) ||| ((1 : Int64) <<< ((zI t).toInt64 &&& 63))) → P none I2 J2))) := by
    intro I f1 f2 f3 f4
    have hle : fb_ct S t ≤ fb_ct S 128 := fb_ct_mono S (by omega)
    rw [z_in (by omega) (by omega), z_in (by omega) (by omega), z_cl (by omega), z_cl (by omega), show (64 : Int32) = zI (64 : Nat) from rfl, z_le (by omega) (by omega) (by omega) (by omega), z_nat t]
    have va : (0 : Int) ≤ (a : Int) ∧ (a : Int) < (100 : Nat) := by omega
    refine ⟨by omega, fun I1 e1 => ⟨va, va, fun I2 e2 => ?_⟩⟩
    have w1 : ∀ z, z ≠ b + 4 → z ≠ b + 5 → I2 z = I0 z := fun z q1 q2 => by rw [e2, u2_other _ _ _ _ q2, e1, u2_other _ _ _ _ q1]; exact f1 z q1
    have w2 : ∀ k, I2 (b + 4) k = if k = 8 * a + fb_ct S t then nI t else I (b + 4) k := fun k => by rw [e2, u2_other _ _ _ _ (by omega), e1, u2_at]
    have w3 : ∀ k, I2 (b + 5) k = if k = a then zI (fb_ct S 128 + 1 : Nat) else I0 (b + 5) k := fun k => by
      rw [e2, u2_at, e1, u2_other _ _ _ _ (by omega), f1 (b + 5) (by omega), r2, show (1 : Int32) = zI 1 from rfl, z_add]
      rfl
    have ct : ∀ m, fb_ct (addS S t) m = fb_ct S m + (if t < m then 1 else 0) := addS_ct S hS
    have rest : ∀ J' : tg_J, (∀ q, q ≠ b + 2 → q ≠ b + 3 → J' q = J q) → (∀ k, k ≠ a → J' (b + 2) k = J (b + 2) k ∧ J' (b + 3) k = J (b + 3) k) → (∀ i, i < 128 → rowB b a J' i = (rowB b a J i || decide (i = t))) → P none I2 J' := by
      intro J' j1 j2 j3
      refine hp I2 J' ⟨w1, fun k hk => ?_, fun k hk => ?_, j1, j2⟩ ⟨fun i hi => ?_, ?_, fun m hm hSm => ?_⟩
      · rw [w2, if_neg (by omega)]; exact f2 k hk
      · rw [w3, if_neg hk]
      · rw [j3 i hi, r1 i hi]; rfl
      · rw [w3, if_pos rfl, ct, if_pos (by omega)]
      · rw [ct, w2]
        by_cases e : m = t
        · subst e
          rw [if_neg (show ¬ m < m by omega), if_pos (by omega), z_nat]
        · have hSm' : S m = true := by
            have : addS S t m = S m := by simp [addS, e]
            rw [← this]; exact hSm
          have h8 : fb_ct S m < fb_ct S 128 := by
            have := fb_ct_mono S (show m + 1 ≤ 128 by omega)
            rw [fb_ct_succ, hSm'] at this
            simp at this
            omega
          by_cases q : t < m
          · have h9 : fb_ct S t ≤ fb_ct S m := fb_ct_mono S (by omega)
            rw [if_pos q, if_neg (by omega), f4 _ (by omega) (by omega), show fb_ct S m + 1 - 1 = fb_ct S m by omega]
            exact r3 m hm hSm'
          · have h9 : fb_ct S m < fb_ct S t := by
              have := fb_ct_mono S (show m + 1 ≤ t by omega)
              rw [fb_ct_succ, hSm'] at this
              simp at this
              omega
            rw [if_neg q, Nat.add_zero, if_neg (by omega), f3 _ h9]
            exact r3 m hm hSm'
    refine ⟨fun q => ⟨va, va, fun J1 ej => rest J1 (fun z _ q2 => by rw [ej, u2_other _ _ _ _ q2]) (fun k hk => ?_) (fun i hi => ?_)⟩, fun q => ⟨va, va, fun J1 ej => rest J1 (fun z q2 _ => by rw [ej, u2_other _ _ _ _ q2]) (fun k hk => ?_) (fun i hi => ?_)⟩⟩
    · rw [ej, u2_ne _ _ (by omega), u2_ne1 _ _ _ _ hk]
      exact ⟨rfl, rfl⟩
    · unfold rowB bh
      by_cases q3 : i < 64
      · rw [if_pos q3, if_pos q3, ej, u2_ne _ _ (by omega), decide_eq_false (by omega), Bool.or_false]
      · rw [if_neg q3, if_neg q3, ej, u2_eq, bq_or, bq_one ht (by omega)]
        congr 1
        exact decide_eq_decide.mpr (by omega)
    · rw [ej, u2_ne1 _ _ _ _ hk, u2_ne _ _ (by omega)]
      exact ⟨rfl, rfl⟩
    · unfold rowB bh
      by_cases q3 : i < 64
      · rw [if_pos q3, if_pos q3, ej, u2_eq, bq_or, bq_one ht q3]
        congr 1
        exact decide_eq_decide.mpr (by omega)
      · rw [if_neg q3, if_neg q3, ej, u2_ne _ _ (by omega), decide_eq_false (by omega), Bool.or_false]
  intro d
  induction d with
  | zero =>
    intro q I hq hq2 f1 f2 f3 f4
    rw [Nat.add_zero] at hq
    subst hq
    refine s_X2_link_45 _ _ _ _ _ hb ⟨fun _ => fin I f1 f2 f3 f4, fun c => ?_⟩
    rw [z_le (by omega) (by omega) (by omega) (by omega)] at c
    rw [show (1 : Int32) = zI 1 from rfl, z_sub, z_in (by omega) (by omega), z_clI (by omega) (by omega)]
    refine ⟨by omega, fun _ => fin I f1 f2 f3 f4, fun c2 => absurd ?_ c2⟩
    obtain ⟨m, m1, m2, m3⟩ := fb_ct_kth (p := S) (k := fb_ct S t - 1) (n := t) (by omega)
    rw [show (((8 * a + fb_ct S t : Nat) : Int) - 1).toNat = 8 * a + (fb_ct S t - 1) by omega, f3 _ (by omega), ← m3, r3 m (by omega) m2, z_le (by omega) (by omega) (by omega) (by omega)]
    omega
  | succ d ih =>
    intro q I hq hq2 f1 f2 f3 f4
    refine s_X2_link_45 _ _ _ _ _ hb ⟨fun c => absurd ((z_le (by omega) (by omega) (by omega) (by omega)).mp c) (by omega), fun _ => ?_⟩
    obtain ⟨m, m1, m2, m3⟩ := fb_ct_kth (p := S) (k := q - 1) (n := 128) (by omega)
    have hmt : t < m := by
      rcases Nat.lt_or_ge t m with z | z
      · exact z
      · have hne : m ≠ t := fun e => by rw [e, hS] at m2; cases m2
        have := fb_ct_mono S (show m + 1 ≤ t by omega)
        rw [fb_ct_succ, m2] at this
        simp at this
        omega
    have hv : I (b + 4) (8 * a + (q - 1)) = zI m := by rw [f3 _ (by omega), ← m3, r3 m m1 m2]
    rw [show (-1 : Int32) = zI (-1) from rfl, show (1 : Int32) = zI 1 from rfl, z_sub, z_add, z_in (by omega) (by omega), z_in (by omega) (by omega), z_clI (by omega) (by omega), z_cl (by omega), show (((8 * a + q : Nat) : Int) - 1).toNat = 8 * a + (q - 1) by omega, hv, z_le (by omega) (by omega) (by omega) (by omega)]
    refine ⟨by omega, fun c => absurd c (by omega), fun _ => ⟨by omega, by omega, fun I5 e5 => ?_⟩⟩
    rw [show ((8 * a + q : Nat) : Int) + -1 = ((8 * a + (q - 1) : Nat) : Int) by omega]
    have w5 : ∀ k, I5 (b + 4) k = if k = 8 * a + q then zI m else I (b + 4) k := fun k => by rw [e5, u2_at]
    refine ih (q - 1) I5 (by omega) (by omega) (fun z hz => by rw [e5, u2_other _ _ _ _ hz]; exact f1 z hz) (fun k hk => ?_) (fun i hi => ?_) (fun i hi hi2 => ?_)
    · rw [w5, if_neg (by omega)]; exact f2 k hk
    · rw [w5, if_neg (by omega)]; exact f3 i (by omega)
    · rw [w5]
      by_cases e : i = q
      · subst e
        rw [if_pos rfl, ← hv, f3 _ (by omega)]
      · rw [if_neg (by omega)]
        exact f4 i (by omega) hi2
theorem link_ok {a : Nat} {t : Int} {S : Nat → Bool} (hb : isBd b) (ha : a < 100) (t1 : -1 ≤ t) (t2 : t < 100) (h0 : rowX b a S I J) (hc : fb_ct S 128 < 8)
    (hp : ∀ I' J', onlyRow b a I I' J J' → rowX b a (fun i => S i || (decide (t = (i : Int)) && !decide (i = a))) I' J' → P none I' J') : call pgX zX2_link [.ref (b + 1), .int (zI a), .int (zI t)] I J P := by
  have hno : (∀ i : Nat, i < 128 → (S i || (decide (t = (i : Int)) && !decide (i = a))) = S i) → P none I J := by
    intro hS
    refine hp I J onlyRow.rf ?_
    have ec : ∀ m, m ≤ 128 → fb_ct (fun i : Nat => S i || (decide (t = (i : Int)) && !decide (i = a))) m = fb_ct S m := fun m hm => fb_ct_cong (fun k hk => hS k (by omega))
    obtain ⟨r1, r2, r3⟩ := h0
    refine ⟨fun i hi => (r1 i hi).trans (hS i hi).symm, by rw [r2, ec 128 (by omega)], fun m hm hm2 => ?_⟩
    rw [ec m (by omega)]
    exact r3 m hm (by rw [← hS m hm]; exact hm2)
  refine e_X2_link _ _ _ hb ?_
  rw [show (0 : Int32) = zI 0 from rfl, z_lt (by omega) (by omega) (by omega) (by omega), z_eq (by omega) (by omega) (by omega) (by omega), z_in (by omega) (by omega), z_cl (by omega), h0.2.1, show (8 : Int32) = zI (8 : Nat) from rfl, z_le (by omega) (by omega) (by omega) (by omega)]
  refine ⟨fun q => hno (fun i hi => ?_), fun q => ⟨fun q2 => hno (fun i hi => ?_), fun q2 => ⟨by omega, fun q3 => absurd q3 (by omega), fun _ => ?_⟩⟩⟩
  · rw [decide_eq_false (by omega)]; simp
  · by_cases e : i = a
    · simp [e]
    · rw [decide_eq_false (by omega)]; simp
  · obtain ⟨k, rfl⟩ := Int.eq_ofNat_of_zero_le (show 0 ≤ t by omega)
    refine linked_ok hb ha (by omega) ⟨_, rfl, fun q4 => ⟨by omega, fun x1 e1 => ?_⟩, fun q4 => ?_⟩
    · have hSk : S k = false := by
        rw [← h0.1 k (by omega)]
        cases e : rowB b a J k
        · rfl
        · rw [e] at q4; exact absurd q4 (by decide)
      rw [h0.2.1, z_mul, z_add] at e1
      rw [e1, z_mul]
      have ef : (fun i : Nat => S i || (decide ((k : Int) = (i : Int)) && !decide (i = a))) = addS S k := by
        funext i
        unfold addS
        by_cases e : i = k
        · subst e
          have : i ≠ a := by omega
          simp [this]
        · have : ¬ ((k : Int) = (i : Int)) := by omega
          simp [this, e]
      rw [ef] at hp
      have := link45 hb ha (by omega) hSk hc h0 hp (fb_ct S 128 - fb_ct S k) (fb_ct S 128) I (by have := fb_ct_mono S (show k ≤ 128 by omega); omega) (Nat.le_refl _) (fun _ _ => rfl) (fun _ _ => rfl) (fun _ _ => rfl) (fun i h1 h2 => absurd h1 (by omega))
      rw [show (a : Int) * ((8 : Nat) : Int) = ((8 * a : Nat) : Int) by omega, show ((8 * a : Nat) : Int) + ((fb_ct S 128 : Nat) : Int) = ((8 * a + fb_ct S 128 : Nat) : Int) by omega]
      exact this
    · have hSk : S k = true := by
        rw [← h0.1 k (by omega)]
        cases e : rowB b a J k
        · rw [e] at q4; exact absurd rfl q4
        · rfl
      refine hno (fun i hi => ?_)
      by_cases e : i = k
      · subst e; simp [hSk]
      · rw [decide_eq_false (by omega)]; simp
def addR (w h sh a : Nat) (S : Nat → Bool) (qs : List (Int × Int)) : Nat → Bool := fun i => S i || qs.any (hit w h sh a i)
theorem addR_app (a : Nat) (S : Nat → Bool) (qs rs : List (Int × Int)) : addR w h sh a (addR w h sh a S qs) rs = addR w h sh a S (qs ++ rs) := by
  funext i
  unfold addR
  rw [List.any_append, Bool.or_assoc]
theorem ct_or_one (S : Nat → Bool) (p : Nat → Bool) (t : Int) (hpt : ∀ i : Nat, p i = true → t = (i : Int)) : ∀ n, fb_ct (fun i => S i || p i) n ≤ fb_ct S n + 1 := by
  have key : ∀ n, fb_ct (fun i => S i || p i) n ≤ fb_ct S n + (if t < (n : Int) then 1 else 0) := by
    intro n
    induction n with
    | zero => simp [fb_ct]
    | succ n ih =>
      rw [fb_ct_succ, fb_ct_succ]
      cases e1 : S n
      · cases e2 : p n
        · simp only [Bool.or_self, Bool.false_eq_true, if_false]
          split at ih
          · rw [if_pos (by omega)]; omega
          · split <;> omega
        · have := hpt n e2
          rw [if_neg (by omega)] at ih
          rw [if_pos (show t < ((n + 1 : Nat) : Int) by omega)]
          simp
          omega
      · simp only [Bool.true_or, if_true]
        split at ih
        · rw [if_pos (by omega)]; omega
        · split <;> omega
  intro n
  have := key n
  split at this <;> omega
theorem atlink {a : Nat} {r c : Int} {S : Nat → Bool} {pcn : Nat} (hb : isBd b) (g : gOk w h sh) (hs : xSz b w h sh I) (ha : a < w * h) (r1 : -1 ≤ r) (r2 : r ≤ h) (c1 : -1 ≤ c) (c2 : c ≤ w) (h0 : rowX b a S I J) (hc : fb_ct S 128 ≤ pcn) (hc8 : pcn < 8)
    (Q : Option Value → tg_I → tg_J → Prop) (hq : ∀ I' J', onlyRow b a I I' J J' → xSz b w h sh I' → rowX b a (addR w h sh a S [(r, c)]) I' J' → fb_ct (addR w h sh a S [(r, c)]) 128 ≤ pcn + 1 → Q none I' J') :
    call pgX zX2_at [.ref (b + 1), .int (zI r), .int (zI c)] I J (fun vr I1 J1 => ∃ r1 : Int32, vr = some (.int r1) ∧ (call pgX zX2_link [.ref (b + 1), .int (zI a), .int r1] I1 J1 Q)) := by
  obtain ⟨hn1, hn2⟩ := mul_le100 g
  have hl := gAt_lt (w := w) (h := h) (sh := sh) (r := r) (c := c)
  have hg := gAt_ge (w := w) (h := h) (sh := sh) (r := r) (c := c)
  refine at_ok hb g hs r1 r2 c1 c2 ⟨_, rfl, ?_⟩
  refine link_ok hb (by omega) (by omega) (by omega) h0 (by omega) (fun I' J' o n => ?_)
  have ef : (fun i : Nat => S i || (decide (gAt w h sh r c = (i : Int)) && !decide (i = a))) = addR w h sh a S [(r, c)] := by
    funext i
    simp [addR, hit]
  rw [ef] at n
  refine hq I' J' o (xSz_row o hs) n ?_
  have := ct_or_one S (fun i => (decide (gAt w h sh r c = (i : Int)) && !decide (i = a))) (gAt w h sh r c) (fun i hi => by simp at hi; exact hi.1) 128
  rw [ef] at this
  omega
theorem lay86 {a : Nat} (hb : isBd b) (g : gOk w h sh) (ha : a < w * h) : ∀ (d : Nat) (k hi : Int) (S : Nat → Bool) (pcn : Nat) (I : tg_I) (J : tg_J), k + d = hi + 1 → -1 ≤ k → hi ≤ w → pcn + 2 * d + 2 ≤ 8 → xSz b w h sh I → rowX b a S I J → fb_ct S 128 ≤ pcn →
    (∀ I' J', onlyRow b a I I' J J' → xSz b w h sh I' → rowX b a (addR w h sh a S (posL (a / w : Nat) (kl d k) ++ [(((a / w : Nat) : Int), ((a % w : Nat) : Int) - 1), (((a / w : Nat) : Int), ((a % w : Nat) : Int) + 1)])) I' J' → P none I' J') →
    l_X2_layCell_86 I J P b (zI (a / w : Nat)) (zI (a % w : Nat)) (zI a) (zI hi) (zI k) := by
  obtain ⟨hn1, hn2⟩ := mul_le100 g
  obtain ⟨q1, q2, q3⟩ := cell_rc g.1 ha
  have g' := g
  obtain ⟨g1, g2, g3, g4, g5, g6⟩ := g'
  generalize a / w = R at *
  generalize a % w = C at *
  intro d
  induction d with
  | zero =>
    intro k hi S pcn I J hk k1 k2 h8 hs h0 hc hp
    refine s_X2_layCell_86 _ _ _ _ _ _ hb ⟨fun _ => ?_, fun q => absurd ((z_lt (by omega) (by omega) (by omega) (by omega)).mpr (by omega)) q⟩
    rw [show (1 : Int32) = zI 1 from rfl, z_sub, z_add]
    refine atlink hb g hs ha (by omega) (by omega) (by omega) (by omega) h0 hc (by omega) _ (fun I1 J1 o1 s1 n1 c1 => ⟨rfl, ?_⟩)
    refine atlink hb g s1 ha (by omega) (by omega) (by omega) (by omega) n1 c1 (by omega) _ (fun I2 J2 o2 s2 n2 c2 => ⟨rfl, ?_⟩)
    refine hp I2 J2 (o1.tr o2) s2 ?_
    rw [addR_app] at n2
    exact n2
  | succ d ih =>
    intro k hi S pcn I J hk k1 k2 h8 hs h0 hc hp
    refine s_X2_layCell_86 _ _ _ _ _ _ hb ⟨fun q => absurd ((z_lt (by omega) (by omega) (by omega) (by omega)).mp q) (by omega), fun _ => ?_⟩
    rw [show (1 : Int32) = zI 1 from rfl, z_sub, z_add]
    refine atlink hb g hs ha (by omega) (by omega) (by omega) (by omega) h0 hc (by omega) _ (fun I1 J1 o1 s1 n1 c1 => ⟨rfl, ?_⟩)
    refine atlink hb g s1 ha (by omega) (by omega) (by omega) (by omega) n1 c1 (by omega) _ (fun I2 J2 o2 s2 n2 c2 => ⟨rfl, ?_⟩)
    rw [z_add]
    refine ih (k + 1) hi _ (pcn + 1 + 1) I2 J2 (by omega) (by omega) k2 (by omega) s2 n2 c2 (fun I3 J3 o3 s3 n3 => hp I3 J3 ((o1.tr o2).tr o3) s3 ?_)
    rw [addR_app, addR_app] at n3
    exact n3
theorem layCell_ok {a : Nat} (hb : isBd b) (g : gOk w h sh) (ha : a < w * h) (hs : xSz b w h sh I) (hp : ∀ I' J', onlyRow b a I I' J J' → xSz b w h sh I' → rowX b a (nb w h sh a) I' J' → P none I' J') : call pgX zX2_layCell [.ref (b + 1), .int (zI (a / w : Nat)), .int (zI (a % w : Nat))] I J P := by
  obtain ⟨hn1, hn2⟩ := mul_le100 g
  obtain ⟨q1, q2, q3⟩ := cell_rc g.1 ha
  have g' := g
  obtain ⟨g1, g2, g3, g4, g5, g6⟩ := g'
  refine e_X2_layCell _ _ _ hb (fun x1 e1 => ?_)
  have e1' : x1 = zI a := by
    rw [e1, hs.1, z_mul, z_add]
    congr 1
    rw [← Int.natCast_mul, ← Int.natCast_add, q3]
  subst e1'
  rw [z_in (by omega) (by omega), z_cl (by omega)]
  refine ⟨by omega, fun J1 ej1 => ⟨by omega, fun J2 ej2 => ⟨by omega, fun I1 ei1 => ?_⟩⟩⟩
  have o : onlyRow b a I I1 J J2 := by
    refine ⟨fun q h4 h5 => by rw [ei1, u2_other _ _ _ _ h5], fun k _ => by rw [ei1, u2_ne _ _ (by omega)], fun k hk => by rw [ei1, u2_ne1 _ _ _ _ hk], fun q h2 h3 => by rw [ej2, u2_other _ _ _ _ h3, ej1, u2_other _ _ _ _ h2], fun k hk => ?_⟩
    rw [ej2, u2_ne _ _ (by omega), ej1, u2_ne1 _ _ _ _ hk, u2_ne1 _ _ _ _ hk, u2_ne _ _ (by omega)]
    exact ⟨rfl, rfl⟩
  have hs1 := xSz_row o hs
  have r0 : rowX b a (fun _ => false) I1 J2 := by
    have z0 : fb_ct (fun _ => false) 128 = 0 := fb_ct_zero.mpr (fun _ _ => rfl)
    refine ⟨fun i hi => ?_, by rw [ei1, u2_eq, z0]; rfl, fun m _ h => by cases h⟩
    unfold rowB bh
    rw [ej2, u2_ne _ _ (by omega), u2_eq, ej1, u2_eq, bq_0, bq_0]
    simp
  have z0 : fb_ct (fun _ : Nat => false) 128 = 0 := fb_ct_zero.mpr (fun _ _ => rfl)
  have fin : ∀ (d : Nat) (k hi : Int), k = gS sh (a / w) (a % w) → d = gC sh → hi = k + d - 1 → l_X2_layCell_86 I1 J2 P b (zI (a / w : Nat)) (zI (a % w : Nat)) (zI a) (zI hi) (zI k) := by
    intro d k hi e1 e2 e3
    have hr := gS_rng (sh := sh) (r := a / w) (c := a % w) q2
    have hd : d ≤ 3 := by rw [e2]; unfold gC; split <;> omega
    refine lay86 hb g ha d k hi (fun _ => false) 0 I1 J2 (by omega) (by omega) (by omega) (by omega) hs1 r0 (by omega) (fun I' J' o' s n => ?_)
    refine hp I' J' (o.tr o') s ?_
    rw [e1, e2] at n
    have ef : addR w h sh a (fun _ => false) (gPos sh (a / w) (a % w)) = nb w h sh a := by
      funext i
      simp [addR, nb]
    rw [← ef]
    exact n
  rw [hs1.2.2.1, show (2 : Int32) = zI (2 : Nat) from rfl, z_lt (by omega) (by omega) (by omega) (by omega), show (1 : Int32) = zI 1 from rfl, z_sub, z_add]
  refine ⟨fun s1 => ?_, fun s1 x2 e2 => ?_⟩
  · exact fin 3 _ _ (by simp [gS, show sh < 2 by omega]) (by simp [gC, show sh < 2 by omega]) (by omega)
  · rw [z_nat (a / w), show zI 1 = nI (2 ^ 1 - 1) from rfl, fa_mask, ← z_nat, z_add] at e2
    have ek : ((a % w : Nat) : Int) - 1 + ((a / w % 2 ^ 1 : Nat) : Int) = gS sh (a / w) (a % w) := by
      unfold gS
      rw [if_neg (by omega)]
      generalize a / w = R
      generalize a % w = C
      split <;> omega
    rw [ek] at e2
    rw [e2, z_add]
    exact fin 2 _ _ rfl (by simp [gC, show ¬ sh < 2 by omega]) (by omega)
/-- the grid of a board -/
def gridX (b w h sh : Nat) (I : tg_I) (J : tg_J) : Prop := xSz b w h sh I ∧ ∀ a, a < w * h → rowX b a (nb w h sh a) I J
/-- what the laying of a grid may change -/
def onlyGrid (b : Nat) (I I' : tg_I) (J J' : tg_J) : Prop := (∀ q, q ≠ b + 1 → q ≠ b + 4 → q ≠ b + 5 → I' q = I q) ∧ ∀ q, q ≠ b + 2 → q ≠ b + 3 → J' q = J q
theorem rowX_keep {a a' : Nat} {S : Nat → Bool} {I' : tg_I} {J' : tg_J} (o : onlyRow b a' I I' J J') (hne : a ≠ a') (hS : fb_ct S 128 ≤ 8) (h0 : rowX b a S I J) : rowX b a S I' J' := by
  obtain ⟨r1, r2, r3⟩ := h0
  obtain ⟨o1, o2, o3, o4, o5⟩ := o
  refine ⟨fun i hi => ?_, by rw [o3 a hne]; exact r2, fun m hm hm2 => ?_⟩
  · have := r1 i hi
    unfold rowB at this ⊢
    rw [(o5 a hne).1, (o5 a hne).2]
    exact this
  · have : fb_ct S m < fb_ct S 128 := by
      have := fb_ct_mono S (show m + 1 ≤ 128 by omega)
      rw [fb_ct_succ, hm2] at this
      simp at this
      omega
    rw [o2 _ (by omega)]
    exact r3 m hm hm2
theorem any_ct_le (a : Nat) : ∀ (qs : List (Int × Int)) (n : Nat), fb_ct (fun i => qs.any (hit w h sh a i)) n ≤ qs.length := by
  intro qs
  induction qs with
  | nil => intro n; exact Nat.le_of_eq (fb_ct_zero.mpr (fun _ _ => rfl))
  | cons q qs ih =>
    intro n
    have h1 := ct_or_one (fun i => qs.any (hit w h sh a i)) (hit w h sh a · q) (gAt w h sh q.1 q.2) (fun i hi => by simp [hit] at hi; exact hi.1) n
    have h2 : (fun i => (q :: qs).any (hit w h sh a i)) = fun i => qs.any (hit w h sh a i) || hit w h sh a i q := by
      funext i
      rw [List.any_cons, Bool.or_comm]
    rw [h2, List.length_cons]
    have := ih n
    omega
theorem kl_len : ∀ (d : Nat) (k : Int), (kl d k).length = d
  | 0, _ => rfl
  | d + 1, k => by rw [kl, List.length_cons, kl_len d]
theorem posL_len (r : Int) : ∀ ks : List Int, (posL r ks).length = 2 * ks.length
  | [] => rfl
  | k :: ks => by rw [posL_cons, List.length_cons, List.length_cons, posL_len r ks, List.length_cons]; omega
theorem nb_ct_le (a n : Nat) : fb_ct (nb w h sh a) n ≤ 8 := by
  have h1 := any_ct_le (w := w) (h := h) (sh := sh) a (gPos sh (a / w) (a % w)) n
  have h2 : (gPos sh (a / w) (a % w)).length ≤ 8 := by
    unfold gPos
    rw [List.length_append, posL_len, kl_len]
    unfold gC
    split <;> simp
  exact Nat.le_trans h1 h2
theorem lay_ok (hb : isBd b) (g : gOk w h sh) (hp : ∀ I' J', onlyGrid b I I' J J' → gridX b w h sh I' J' → P none I' J') : call pgX zX2_lay [.ref (b + 1), .int (zI w), .int (zI h), .int (zI sh)] I J P := by
  obtain ⟨hn1, hn2⟩ := mul_le100 g
  have g' := g
  obtain ⟨g1, g2, g3, g4, g5, g6⟩ := g'
  refine e_X2_lay _ _ _ _ hb (fun I1 e1 I2 e2 I3 e3 I4 e4 => ?_)
  have f0 : ∀ q, q ≠ b + 1 → I4 q = I q := fun q hq => by rw [e4, u2_other _ _ _ _ hq, e3, u2_other _ _ _ _ hq, e2, u2_other _ _ _ _ hq, e1, u2_other _ _ _ _ hq]
  have fs : xSz b w h sh I4 := by
    refine ⟨?_, ?_, ?_, ?_⟩
    · rw [e4, u2_ne1 _ _ _ _ (by decide), e3, u2_ne1 _ _ _ _ (by decide), e2, u2_ne1 _ _ _ _ (by decide), e1, u2_eq]
    · rw [e4, u2_ne1 _ _ _ _ (by decide), e3, u2_ne1 _ _ _ _ (by decide), e2, u2_eq]
    · rw [e4, u2_ne1 _ _ _ _ (by decide), e3, u2_eq]
    · rw [e4, u2_eq, z_mul, Int.natCast_mul]
  have main : ∀ r, r ≤ h → ∀ Ia Ja, onlyGrid b I4 Ia J Ja → xSz b w h sh Ia → (∀ a, a < r * w → rowX b a (nb w h sh a) Ia Ja) → l_X2_lay_25 Ia Ja P b (zI r) := by
    refine up_loop h ?_ ?_
    · intro Ia Ja o s rows
      refine s_X2_lay_25 _ _ hb ⟨fun _ => hp Ia Ja ⟨fun q h1 h2 h3 => (o.1 q h1 h2 h3).trans (f0 q h1), o.2⟩ ⟨s, fun a ha => rows a (by rw [Nat.mul_comm]; exact ha)⟩, fun q => absurd ?_ q⟩
      rw [s.2.1]
      exact Int32.le_refl _
    · intro r hr ih Ia Ja o s rows
      refine s_X2_lay_25 _ _ hb ⟨fun q => absurd q ?_, fun _ => ?_⟩
      · rw [s.2.1, z_le (by omega) (by omega) (by omega) (by omega)]
        omega
      · have inner : ∀ c, c ≤ w → ∀ Ib Jb, onlyGrid b I4 Ib J Jb → xSz b w h sh Ib → (∀ a, a < r * w + c → rowX b a (nb w h sh a) Ib Jb) → l_X2_lay_37 Ib Jb P b (zI r) (zI c) := by
          refine up_loop w ?_ ?_
          · intro Ib Jb o s rows
            refine s_X2_lay_37 _ _ _ hb ⟨fun _ => ?_, fun q => absurd ?_ q⟩
            · rw [show (1 : Int32) = zI 1 from rfl, z_add]
              refine ih Ib Jb o s (fun a ha => rows a ?_)
              rw [Nat.succ_mul] at ha
              exact ha
            · rw [s.1]
              exact Int32.le_refl _
          · intro c hc ihc Ib Jb o s rows
            refine s_X2_lay_37 _ _ _ hb ⟨fun q => absurd q ?_, fun _ => ?_⟩
            · rw [s.1, z_le (by omega) (by omega) (by omega) (by omega)]
              omega
            · have hlt : r * w + c < w * h := by
                have := Nat.mul_le_mul_right w (show r + 1 ≤ h by omega)
                rw [Nat.succ_mul] at this
                rw [Nat.mul_comm w h]
                omega
              have hd : (r * w + c) / w = r := by
                rw [Nat.add_comm, Nat.add_mul_div_right _ _ (by omega), Nat.div_eq_of_lt hc, Nat.zero_add]
              have hm : (r * w + c) % w = c := by
                rw [Nat.add_comm, Nat.add_mul_mod_self_right, Nat.mod_eq_of_lt hc]
              have key := layCell_ok (I := Ib) (J := Jb) (P := fun vr I1 J1 => vr = none ∧ l_X2_lay_37 I1 J1 P b (zI r) (zI c + 1)) (a := r * w + c) hb g hlt s (fun I' J' o' s' row' => ⟨rfl, ?_⟩)
              · rw [hd, hm] at key
                exact key
              · rw [show (1 : Int32) = zI 1 from rfl, z_add]
                refine ihc I' J' ⟨fun q h1 h2 h3 => (o'.1 q h2 h3).trans (o.1 q h1 h2 h3), fun q h1 h2 => (o'.2.2.2.1 q h1 h2).trans (o.2 q h1 h2)⟩ s' (fun a ha => ?_)
                by_cases e : a = r * w + c
                · rw [e]; exact row'
                · exact rowX_keep o' e (nb_ct_le a 128) (rows a (by omega))
        exact inner 0 (Nat.zero_le _) Ia Ja o s rows
  exact main 0 (Nat.zero_le _) I4 J ⟨fun _ _ _ _ => rfl, fun _ _ _ => rfl⟩ fs (fun a ha => absurd ha (by omega))
end XG
