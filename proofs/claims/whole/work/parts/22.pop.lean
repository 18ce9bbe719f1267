/-! the bit counts of the library's Long and Integer -/
def pm (c : Nat) : Nat → Nat
  | 0 => 0
  | k + 1 => c + 256 * pm c k
def p1 (k x : Nat) : Nat := x - ((x / 2) &&& pm 85 k)
def p2 (k x : Nat) : Nat := (p1 k x &&& pm 51 k) + ((p1 k x / 4) &&& pm 51 k)
def p3 (k x : Nat) : Nat := (p2 k x + p2 k x / 16) &&& pm 15 k
def pB (b : Nat) : Nat := fb_ct (fun i => b.testBit i) 8
def pD : Nat → Nat → Nat
  | 0, _ => 0
  | k + 1, x => pB (x % 256) + 256 * pD k (x / 256)
theorem and256 {a b : Nat} (a' b' : Nat) (ha : a < 256) (hb : b < 256) : (a + 256 * a') &&& (b + 256 * b') = (a &&& b) + 256 * (a' &&& b') := by
  have hab : a &&& b < 256 := Nat.lt_of_le_of_lt Nat.and_le_left ha
  apply Nat.eq_of_testBit_eq
  intro i
  have e1 : a + 256 * a' = 2 ^ 8 * a' + a := by omega
  have e2 : b + 256 * b' = 2 ^ 8 * b' + b := by omega
  have e3 : (a &&& b) + 256 * (a' &&& b') = 2 ^ 8 * (a' &&& b') + (a &&& b) := by omega
  rw [Nat.testBit_and, e1, e2, e3, Nat.testBit_two_pow_mul_add _ ha, Nat.testBit_two_pow_mul_add _ hb, Nat.testBit_two_pow_mul_add _ hab]
  split
  · rw [Nat.testBit_and]
  · rw [Nat.testBit_and]
theorem pb1 : ∀ b, b < 256 → ∀ e, e < 2 → (b / 2 + 128 * e) &&& 85 = (b / 2) &&& 85 ∧ (b / 2) &&& 85 ≤ b := by decide +kernel
theorem pb2 : ∀ b, b < 256 → ∀ e, e < 4 → (b / 4 + 64 * e) &&& 51 = (b / 4) &&& 51 := by decide +kernel
theorem pb3 : ∀ b, b < 256 → ∀ e, e < 5 → (b - ((b / 2) &&& 85)) < 256 ∧ (((b - ((b / 2) &&& 85)) &&& 51) + (((b - ((b / 2) &&& 85)) / 4) &&& 51)) % 16 ≤ 4 ∧ (((b - ((b / 2) &&& 85)) &&& 51) + (((b - ((b / 2) &&& 85)) / 4) &&& 51)) ≤ 68 := by decide +kernel
def pg (b : Nat) : Nat := ((b - ((b / 2) &&& 85)) &&& 51) + (((b - ((b / 2) &&& 85)) / 4) &&& 51)
theorem pb4 : ∀ b, b < 256 → ∀ e, e < 5 → pg b + pg b / 16 + 16 * e < 256 ∧ (pg b + pg b / 16 + 16 * e) &&& 15 = pB b := by decide +kernel
theorem pB_le : ∀ b, b < 256 → pB b ≤ 8 := by decide +kernel
theorem p1_s (k b x : Nat) (hb : b < 256) (h : (x / 2) &&& pm 85 k ≤ x) : p1 (k + 1) (b + 256 * x) = (b - ((b / 2) &&& 85)) + 256 * p1 k x := by
  have e : (b + 256 * x) / 2 = (b / 2 + 128 * (x % 2)) + 256 * (x / 2) := by omega
  obtain ⟨q1, q2⟩ := pb1 b hb (x % 2) (Nat.mod_lt _ (by decide))
  unfold p1
  rw [show pm 85 (k + 1) = 85 + 256 * pm 85 k from rfl, e, and256 _ _ (by omega) (by decide), q1]
  omega
theorem p1_le : ∀ (k x : Nat), (x / 2) &&& pm 85 k ≤ x := fun k x => Nat.le_trans Nat.and_le_left (Nat.div_le_self x 2)
theorem p2_s (k b x : Nat) (hb : b < 256) : p2 (k + 1) (b + 256 * x) = pg b + 256 * p2 k x := by
  obtain ⟨r1, r2, r3⟩ := pb3 b hb 0 (by decide)
  unfold p2 pg
  rw [p1_s k b x hb (p1_le k x), show pm 51 (k + 1) = 51 + 256 * pm 51 k from rfl]
  generalize p1 k x = y
  generalize b - ((b / 2) &&& 85) = c at r1 ⊢
  have e : (c + 256 * y) / 4 = (c / 4 + 64 * (y % 4)) + 256 * (y / 4) := by omega
  rw [e, and256 _ _ r1 (by decide), and256 _ _ (by omega) (by decide), pb2 c r1 (y % 4) (Nat.mod_lt _ (by decide))]
  omega
theorem p3_s : ∀ (k x : Nat), x < 256 ^ k → p3 k x = pD k x ∧ p2 k x % 16 ≤ 4
  | 0, x, h => by
    have : x = 0 := by simpa using h
    subst this
    exact ⟨rfl, by decide⟩
  | k + 1, x, h => by
    have hx : x = x % 256 + 256 * (x / 256) := by omega
    have hb : x % 256 < 256 := Nat.mod_lt _ (by decide)
    have hd : x / 256 < 256 ^ k := by
      rw [Nat.pow_succ] at h
      exact Nat.div_lt_of_lt_mul (by rw [Nat.mul_comm]; exact h)
    obtain ⟨i1, i2⟩ := p3_s k (x / 256) hd
    have s2 := p2_s k (x % 256) (x / 256) hb
    rw [← hx] at s2
    obtain ⟨r1, r2, r3⟩ := pb3 (x % 256) hb 0 (by decide)
    have r2 : pg (x % 256) % 16 ≤ 4 := r2
    have r3 : pg (x % 256) ≤ 68 := r3
    refine ⟨?_, by rw [s2]; omega⟩
    obtain ⟨t1, t2⟩ := pb4 (x % 256) hb (p2 k (x / 256) % 16) (by omega)
    show p3 (k + 1) x = pB (x % 256) + 256 * pD k (x / 256)
    rw [← i1]
    unfold p3
    rw [s2, show pm 15 (k + 1) = 15 + 256 * pm 15 k from rfl]
    generalize p2 k (x / 256) = y at t1 t2 ⊢
    generalize pg (x % 256) = g at t1 t2 r3 ⊢
    have e : g + 256 * y + (g + 256 * y) / 16 = (g + g / 16 + 16 * (y % 16)) + 256 * (y + y / 16) := by omega
    rw [e, and256 _ _ t1 (by decide), t2]
theorem pB_mod (x : Nat) : pB (x % 256) = fb_ct (fun i => x.testBit i) 8 := by
  unfold pB
  apply fb_ct_cong
  intro i hi
  rw [show (256 : Nat) = 2 ^ 8 from rfl, Nat.testBit_mod_two_pow]
  simp [hi]
/-- the sum of the bytes' counts is the count -/
def pS : Nat → Nat → Nat
  | 0, _ => 0
  | k + 1, x => pB (x % 256) + pS k (x / 256)
theorem pS_ct : ∀ (k x : Nat), pS k x = fb_ct (fun i => x.testBit i) (8 * k)
  | 0, x => rfl
  | k + 1, x => by
    rw [show 8 * (k + 1) = 8 + 8 * k by omega, fb_ct_split]
    show pB (x % 256) + pS k (x / 256) = _
    rw [pB_mod, pS_ct k (x / 256)]
    congr 1
    apply fb_ct_cong
    intro i hi
    rw [show (256 : Nat) = 2 ^ 8 from rfl, Nat.testBit_div_two_pow, Nat.add_comm]
theorem pop64 {x : Nat} (h : x < 2 ^ 64) : ∃ s, p3 8 x = s ∧ s < 2 ^ 60 ∧ (let s4 := s + s / 256; let s5 := s4 + s4 / 65536; let s6 := s5 + s5 / 4294967296; s4 < 2 ^ 61 ∧ s5 < 2 ^ 62 ∧ s6 < 2 ^ 63 ∧ s6 % 256 = fb_ct (fun i => x.testBit i) 64) := by
  have h3 := (p3_s 8 x h).1
  have hc := pS_ct 8 x
  refine ⟨_, h3, ?_⟩
  rw [show (64 : Nat) = 8 * 8 from rfl, ← hc]
  simp only [pD, pS]
  have q0 := pB_le (x % 256) (Nat.mod_lt _ (by decide))
  have q1 := pB_le (x / 256 % 256) (Nat.mod_lt _ (by decide))
  have q2 := pB_le (x / 256 / 256 % 256) (Nat.mod_lt _ (by decide))
  have q3 := pB_le (x / 256 / 256 / 256 % 256) (Nat.mod_lt _ (by decide))
  have q4 := pB_le (x / 256 / 256 / 256 / 256 % 256) (Nat.mod_lt _ (by decide))
  have q5 := pB_le (x / 256 / 256 / 256 / 256 / 256 % 256) (Nat.mod_lt _ (by decide))
  have q6 := pB_le (x / 256 / 256 / 256 / 256 / 256 / 256 % 256) (Nat.mod_lt _ (by decide))
  have q7 := pB_le (x / 256 / 256 / 256 / 256 / 256 / 256 / 256 % 256) (Nat.mod_lt _ (by decide))
  generalize pB (x % 256) = a0 at *
  generalize pB (x / 256 % 256) = a1 at *
  generalize pB (x / 256 / 256 % 256) = a2 at *
  generalize pB (x / 256 / 256 / 256 % 256) = a3 at *
  generalize pB (x / 256 / 256 / 256 / 256 % 256) = a4 at *
  generalize pB (x / 256 / 256 / 256 / 256 / 256 % 256) = a5 at *
  generalize pB (x / 256 / 256 / 256 / 256 / 256 / 256 % 256) = a6 at *
  generalize pB (x / 256 / 256 / 256 / 256 / 256 / 256 / 256 % 256) = a7 at *
  clear h3 hc h
  have e4 : (a0 + 256 * (a1 + 256 * (a2 + 256 * (a3 + 256 * (a4 + 256 * (a5 + 256 * (a6 + 256 * (a7 + 256 * 0)))))))) / 256 = a1 + 256 * (a2 + 256 * (a3 + 256 * (a4 + 256 * (a5 + 256 * (a6 + 256 * a7))))) := by omega
  have e5 : ((a0 + a1) + 256 * (a1 + a2) + 65536 * ((a2 + a3) + 256 * (a3 + a4) + 65536 * ((a4 + a5) + 256 * (a5 + a6) + 65536 * ((a6 + a7) + 256 * a7)))) / 65536 = (a2 + a3) + 256 * (a3 + a4) + 65536 * ((a4 + a5) + 256 * (a5 + a6) + 65536 * ((a6 + a7) + 256 * a7)) := by omega
  refine ⟨by omega, ?_⟩
  rw [e4]
  rw [show a0 + 256 * (a1 + 256 * (a2 + 256 * (a3 + 256 * (a4 + 256 * (a5 + 256 * (a6 + 256 * (a7 + 256 * 0))))))) + (a1 + 256 * (a2 + 256 * (a3 + 256 * (a4 + 256 * (a5 + 256 * (a6 + 256 * a7)))))) = (a0 + a1) + 256 * (a1 + a2) + 65536 * ((a2 + a3) + 256 * (a3 + a4) + 65536 * ((a4 + a5) + 256 * (a5 + a6) + 65536 * ((a6 + a7) + 256 * a7))) by omega]
  rw [e5]
  rw [show (a0 + a1) + 256 * (a1 + a2) + 65536 * ((a2 + a3) + 256 * (a3 + a4) + 65536 * ((a4 + a5) + 256 * (a5 + a6) + 65536 * ((a6 + a7) + 256 * a7))) + ((a2 + a3) + 256 * (a3 + a4) + 65536 * ((a4 + a5) + 256 * (a5 + a6) + 65536 * ((a6 + a7) + 256 * a7))) = (a0 + a1 + a2 + a3) + 256 * (a1 + a2 + a3 + a4) + 65536 * ((a2 + a3 + a4 + a5) + 256 * (a3 + a4 + a5 + a6)) + 4294967296 * ((a4 + a5 + a6 + a7) + 256 * (a5 + a6 + a7) + 65536 * ((a6 + a7) + 256 * a7)) by omega]
  have e6 : ((a0 + a1 + a2 + a3) + 256 * (a1 + a2 + a3 + a4) + 65536 * ((a2 + a3 + a4 + a5) + 256 * (a3 + a4 + a5 + a6)) + 4294967296 * ((a4 + a5 + a6 + a7) + 256 * (a5 + a6 + a7) + 65536 * ((a6 + a7) + 256 * a7))) / 4294967296 = (a4 + a5 + a6 + a7) + 256 * (a5 + a6 + a7) + 65536 * ((a6 + a7) + 256 * a7) := by omega
  rw [e6]
  refine ⟨by omega, by omega, by omega, ?_⟩
  rw [show (a0 + a1 + a2 + a3) + 256 * (a1 + a2 + a3 + a4) + 65536 * ((a2 + a3 + a4 + a5) + 256 * (a3 + a4 + a5 + a6)) + 4294967296 * ((a4 + a5 + a6 + a7) + 256 * (a5 + a6 + a7) + 65536 * ((a6 + a7) + 256 * a7)) + ((a4 + a5 + a6 + a7) + 256 * (a5 + a6 + a7) + 65536 * ((a6 + a7) + 256 * a7)) = (a0 + a1 + a2 + a3 + a4 + a5 + a6 + a7) + 256 * ((a1 + a2 + a3 + a4) + 256 * ((a2 + a3 + a4 + a5) + 256 * (a3 + a4 + a5 + a6)) + 16777216 * ((a4 + a5 + a6 + a7) + 256 * (a5 + a6 + a7) + 65536 * ((a6 + a7) + 256 * a7)) + (a5 + a6 + a7) + 256 * ((a6 + a7) + 256 * a7)) by omega, Nat.add_mul_mod_self_left]
  rw [Nat.mod_eq_of_lt (by omega)]
  omega
theorem pop32 {x : Nat} (h : x < 2 ^ 32) : ∃ s, p3 4 x = s ∧ s < 2 ^ 28 ∧ (let s4 := s + s / 256; let s5 := s4 + s4 / 65536; s4 < 2 ^ 29 ∧ s5 < 2 ^ 30 ∧ s5 % 256 = fb_ct (fun i => x.testBit i) 32) := by
  have h3 := (p3_s 4 x h).1
  have hc := pS_ct 4 x
  refine ⟨_, h3, ?_⟩
  rw [show (32 : Nat) = 8 * 4 from rfl, ← hc]
  simp only [pD, pS]
  have q0 := pB_le (x % 256) (Nat.mod_lt _ (by decide))
  have q1 := pB_le (x / 256 % 256) (Nat.mod_lt _ (by decide))
  have q2 := pB_le (x / 256 / 256 % 256) (Nat.mod_lt _ (by decide))
  have q3 := pB_le (x / 256 / 256 / 256 % 256) (Nat.mod_lt _ (by decide))
  generalize pB (x % 256) = a0 at *
  generalize pB (x / 256 % 256) = a1 at *
  generalize pB (x / 256 / 256 % 256) = a2 at *
  generalize pB (x / 256 / 256 / 256 % 256) = a3 at *
  clear h3 hc h
  refine ⟨by omega, ?_⟩
  have e4 : (a0 + 256 * (a1 + 256 * (a2 + 256 * (a3 + 256 * 0)))) / 256 = a1 + 256 * (a2 + 256 * a3) := by omega
  rw [e4]
  rw [show a0 + 256 * (a1 + 256 * (a2 + 256 * (a3 + 256 * 0))) + (a1 + 256 * (a2 + 256 * a3)) = (a0 + a1) + 256 * (a1 + a2) + 65536 * ((a2 + a3) + 256 * a3) by omega]
  have e5 : ((a0 + a1) + 256 * (a1 + a2) + 65536 * ((a2 + a3) + 256 * a3)) / 65536 = (a2 + a3) + 256 * a3 := by omega
  rw [e5]
  refine ⟨by omega, by omega, ?_⟩
  rw [show (a0 + a1) + 256 * (a1 + a2) + 65536 * ((a2 + a3) + 256 * a3) + ((a2 + a3) + 256 * a3) = (a0 + a1 + a2 + a3) + 256 * ((a1 + a2) + 256 * ((a2 + a3) + 256 * a3) + a3) by omega, Nat.add_mul_mod_self_left]
  rw [Nat.mod_eq_of_lt (by omega)]
  omega
