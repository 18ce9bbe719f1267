/-! bits of longs, and of a set of two longs -/
def bq (x : Int64) (i : Nat) : Bool := x.toBitVec.getLsbD i
def bh (lo hi : Int64) (i : Nat) : Bool := if i < 64 then bq lo i else bq hi (i - 64)
def sB (J : tg_J) (k i : Nat) : Bool := bh (J k 0) (J k 1) i
theorem bq_lN {n i : Nat} (hi : i < 64) : bq (lN n) i = n.testBit i := by
  unfold bq
  rw [wb_tb, BitVec.getLsbD_ofNat]
  simp [hi]
theorem bq_and (x y : Int64) (i : Nat) : bq (x &&& y) i = (bq x i && bq y i) := by simp [bq]
theorem bq_or (x y : Int64) (i : Nat) : bq (x ||| y) i = (bq x i || bq y i) := by simp [bq]
theorem bq_not (x : Int64) {i : Nat} (hi : i < 64) : bq (x ^^^ (-1)) i = !bq x i := by
  have h : (-1 : Int64).toBitVec = BitVec.allOnes 64 := by decide
  simp [bq, h, hi]
theorem bq_0 (i : Nat) : bq 0 i = false := by simp [bq]
theorem bq_ext {x y : Int64} (h : ∀ i, i < 64 → bq x i = bq y i) : x = y := by
  apply wb_inj
  apply BitVec.eq_of_getLsbD_eq
  intro i hi
  exact h i hi
theorem bq_eq0 {x : Int64} : x = 0 ↔ ∀ i, i < 64 → bq x i = false := by
  constructor
  · intro h i hi
    rw [h]
    exact bq_0 i
  · intro h
    apply bq_ext
    intro i hi
    rw [h i hi, bq_0]
theorem sh_1 : ∀ k, k < 128 → ((1 : Int64) <<< ((nI k).toInt64 &&& 63)) = lN (2 ^ (k % 64)) := by decide +kernel
theorem sh_r : ∀ k, k < 128 → ((nI k).toInt64.toUInt64 &&& Int64.toUInt64 63) = ((nI (k % 64)).toInt64.toUInt64 &&& Int64.toUInt64 63) := by decide +kernel
theorem bq_one {k i : Nat} (hk : k < 128) (hi : i < 64) : bq ((1 : Int64) <<< ((nI k).toInt64 &&& 63)) i = decide (i = k % 64) := by
  rw [sh_1 k hk, bq_lN hi, Nat.testBit_two_pow]
  by_cases h : k % 64 = i
  · simp [h]
  · rw [decide_eq_false h, decide_eq_false (fun q => h q.symm)]
theorem bq_shl (x : Int64) {k i : Nat} (hk : k < 64) (hi : i < 64) : bq (x <<< ((nI k).toInt64 &&& 63)) i = (decide (k ≤ i) && bq x (i - k)) := by
  obtain ⟨n, hn, rfl⟩ := wb_of x
  rw [wb_shl n hk, bq_lN hi, bq_lN (by omega), Nat.mul_comm, Nat.testBit_two_pow_mul]
theorem bq_shr (x : Int64) {k i : Nat} (hk : k < 64) (hi : i < 64) : bq ((x.toUInt64 >>> ((nI k).toInt64.toUInt64 &&& Int64.toUInt64 63)).toInt64) i = (decide (i + k < 64) && bq x (i + k)) := by
  obtain ⟨n, hn, rfl⟩ := wb_of x
  rw [wb_shr hn hk, bq_lN hi, Nat.testBit_div_two_pow]
  by_cases h : i + k < 64
  · rw [bq_lN h, decide_eq_true h, Bool.true_and]
  · rw [decide_eq_false h, Bool.false_and]
    exact Nat.testBit_lt_two_pow (Nat.lt_of_lt_of_le hn (Nat.pow_le_pow_right (by decide) (by omega)))
theorem cmp_eq0 (x : Int64) : lg_cmp x 0 = 0 ↔ x = 0 := by
  unfold lg_cmp
  constructor
  · intro h
    split at h
    · exact absurd h (by decide)
    · split at h
      · assumption
      · exact absurd h (by decide)
  · intro h
    subst h
    decide
theorem has_bit (x : Int64) {k : Nat} (hk : k < 64) : (((x.toUInt64 >>> ((nI k).toInt64.toUInt64 &&& Int64.toUInt64 63)).toInt64) &&& 1) = 0 ↔ bq x k = false := by
  obtain ⟨n, hn, rfl⟩ := wb_of x
  rw [wb_bit hn hk, bq_lN hk, show (0 : Int64) = lN 0 from rfl, fb_lN_inj (by omega) (by decide)]
  rw [Nat.testBit_eq_decide_div_mod_eq]
  simp only [decide_eq_false_iff_not]
  omega
theorem bitCount_ok {I : tg_I} {J : tg_J} {P : Option Value → tg_I → tg_J → Prop} (x : Int64) (hp : P (some (.int (zI (fb_ct (bq x) 64 : Nat)))) I J) : call pgX zJ13_bitCount_95d88 [.long x] I J P := by
  refine e_J13_bitCount_95d88 _ ?_
  obtain ⟨n, hn, rfl⟩ := wb_of x
  have ec : fb_ct (bq (lN n)) 64 = fb_ct (fun i => n.testBit i) 64 := fb_ct_cong (fun i hi => bq_lN hi)
  rw [ec] at hp
  obtain ⟨s, h3, hs, h4⟩ := pop64 hn
  obtain ⟨g4, g5, g6, g7⟩ := h4
  have b1 : p1 8 n < 2 ^ 64 := Nat.lt_of_le_of_lt (Nat.sub_le _ _) hn
  have m51 : pm 51 8 = 3689348814741910323 := by decide +kernel
  have m85 : pm 85 8 = 6148914691236517205 := by decide +kernel
  have m15 : pm 15 8 = 1085102592571150095 := by decide +kernel
  have b2 : p2 8 n ≤ 7378697629483820646 := by
    unfold p2
    have q1 : p1 8 n &&& pm 51 8 ≤ pm 51 8 := Nat.and_le_right
    have q2 : (p1 8 n / 4) &&& pm 51 8 ≤ pm 51 8 := Nat.and_le_right
    rw [m51] at q1 q2 ⊢
    omega
  have sl : ∀ k, k < 64 → ∀ n, n < 2 ^ 64 → ((lN n).toUInt64 >>> ((nI k).toInt64.toUInt64 &&& Int64.toUInt64 63)).toInt64 = lN (n / 2 ^ k) := fun k hk n hn => wb_shr hn hk
  intro y1 e1 y2 e2 y3 e3 y4 e4 y5 e5 y6 e6
  have f1 : y1 = lN (p1 8 n) := by
    rw [e1, show (1 : Int32) = nI 1 from rfl, sl 1 (by decide) n hn, show (6148914691236517205 : Int64) = lN 6148914691236517205 from rfl, fb_andL, lN_sub (Nat.le_trans Nat.and_le_left (Nat.div_le_self _ _)), ← m85]
    rfl
  have f2 : y2 = lN (p2 8 n) := by
    rw [e2, f1, show (2 : Int32) = nI 2 from rfl, sl 2 (by decide) _ b1, show (3689348814741910323 : Int64) = lN 3689348814741910323 from rfl, fb_andL, fb_andL, lN_add, ← m51]
    rfl
  have f3 : y3 = lN s := by
    rw [e3, f2, show (4 : Int32) = nI 4 from rfl, sl 4 (by decide) _ (by omega), lN_add, show (1085102592571150095 : Int64) = lN 1085102592571150095 from rfl, fb_andL, ← m15, ← h3]
    rfl
  have f4 : y4 = lN (s + s / 256) := by
    rw [e4, f3, show (8 : Int32) = nI 8 from rfl, sl 8 (by decide) _ (by omega), lN_add]
  have f5 : y5 = lN (s + s / 256 + (s + s / 256) / 65536) := by
    rw [e5, f4, show (16 : Int32) = nI 16 from rfl, sl 16 (by decide) _ (by omega), lN_add]
  have f6 : y6 = lN (s + s / 256 + (s + s / 256) / 65536 + (s + s / 256 + (s + s / 256) / 65536) / 4294967296) := by
    rw [e6, f5, show (32 : Int32) = nI 32 from rfl, sl 32 (by decide) _ (by omega), lN_add]
  rw [f6, lN_i, show (127 : Int32) = nI (2 ^ 7 - 1) from rfl, fa_mask]
  have hle := fb_ct_le (fun i => n.testBit i) 64
  rw [z_nat] at hp
  rw [show (s + s / 256 + (s + s / 256) / 65536 + (s + s / 256 + (s + s / 256) / 65536) / 4294967296) % 2 ^ 7 = fb_ct (fun i => n.testBit i) 64 by omega]
  exact hp
def iq (x : Int32) (i : Nat) : Bool := x.toBitVec.getLsbD i
theorem iq_nI {n i : Nat} (hi : i < 32) : iq (nI n) i = n.testBit i := by
  unfold iq
  have : (nI n).toBitVec = BitVec.ofNat 32 n := rfl
  rw [this, BitVec.getLsbD_ofNat]
  simp [hi]
theorem ish_r {k : Nat} (hk : k < 32) {n : Nat} (hn : n < 2 ^ 32) : ((nI n).toUInt32 >>> ((nI k).toUInt32 &&& Int32.toUInt32 31)).toInt32 = nI (n / 2 ^ k) := pk_ushrN hn (nI k) k (s_u k hk)
theorem ibitCount_ok {I : tg_I} {J : tg_J} {P : Option Value → tg_I → tg_J → Prop} (x : Int32) (hp : P (some (.int (zI (fb_ct (iq x) 32 : Nat)))) I J) : call pgX zJ6_bitCount_0f7a4 [.int x] I J P := by
  refine e_J6_bitCount_0f7a4 _ ?_
  obtain ⟨n, hn, rfl⟩ := wb_of32 x
  have ec : fb_ct (iq (nI n)) 32 = fb_ct (fun i => n.testBit i) 32 := fb_ct_cong (fun i hi => iq_nI hi)
  rw [ec] at hp
  obtain ⟨s, h3, hs, h4⟩ := pop32 hn
  obtain ⟨g4, g5, g7⟩ := h4
  have b1 : p1 4 n < 2 ^ 32 := Nat.lt_of_le_of_lt (Nat.sub_le _ _) hn
  have m51 : pm 51 4 = 858993459 := by decide +kernel
  have m85 : pm 85 4 = 1431655765 := by decide +kernel
  have m15 : pm 15 4 = 252645135 := by decide +kernel
  have b2 : p2 4 n ≤ 1717986918 := by
    unfold p2
    have q1 : p1 4 n &&& pm 51 4 ≤ pm 51 4 := Nat.and_le_right
    have q2 : (p1 4 n / 4) &&& pm 51 4 ≤ pm 51 4 := Nat.and_le_right
    rw [m51] at q1 q2 ⊢
    omega
  have nsub : ∀ a b : Nat, b ≤ a → nI a - nI b = nI (a - b) := fun a b h => pk_sub h
  intro y1 e1 y2 e2 y3 e3 y4 e4 y5 e5
  have f1 : y1 = nI (p1 4 n) := by
    rw [e1, show (1 : Int32) = nI 1 from rfl, ish_r (by decide) hn, show (1431655765 : Int32) = nI 1431655765 from rfl, fa_and, nsub _ _ (Nat.le_trans Nat.and_le_left (Nat.div_le_self _ _)), ← m85]
    rfl
  have f2 : y2 = nI (p2 4 n) := by
    rw [e2, f1, show (2 : Int32) = nI 2 from rfl, ish_r (by decide) b1, show (858993459 : Int32) = nI 858993459 from rfl, fa_and, fa_and, nI_add, ← m51]
    rfl
  have f3 : y3 = nI s := by
    rw [e3, f2, show (4 : Int32) = nI 4 from rfl, ish_r (by decide) (by omega), nI_add, show (252645135 : Int32) = nI 252645135 from rfl, fa_and, ← m15, ← h3]
    rfl
  have f4 : y4 = nI (s + s / 256) := by
    rw [e4, f3, show (8 : Int32) = nI 8 from rfl, ish_r (by decide) (by omega), nI_add]
  have f5 : y5 = nI (s + s / 256 + (s + s / 256) / 65536) := by
    rw [e5, f4, show (16 : Int32) = nI 16 from rfl, ish_r (by decide) (by omega), nI_add]
  rw [f5, show (63 : Int32) = nI (2 ^ 6 - 1) from rfl, fa_mask]
  have hle := fb_ct_le (fun i => n.testBit i) 32
  rw [z_nat] at hp
  rw [show (s + s / 256 + (s + s / 256) / 65536) % 2 ^ 6 = fb_ct (fun i => n.testBit i) 32 by omega]
  exact hp
