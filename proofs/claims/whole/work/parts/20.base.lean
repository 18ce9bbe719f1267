/-! whole numbers in ints -/
def zI (z : Int) : Int32 := Int32.ofInt z
theorem z_add (a b : Int) : zI a + zI b = zI (a + b) := (Int32.ofInt_add a b).symm
theorem z_sub (a b : Int) : zI a - zI b = zI (a - b) := (Int32.ofInt_sub a b).symm
theorem z_mul (a b : Int) : zI a * zI b = zI (a * b) := (Int32.ofInt_mul a b).symm
theorem z_toInt {a : Int} (h1 : -2147483648 ≤ a) (h2 : a < 2147483648) : (zI a).toInt = a := fb_ofI h1 h2
theorem z_le {a b : Int} (h1 : -2147483648 ≤ a) (h2 : a < 2147483648) (h3 : -2147483648 ≤ b) (h4 : b < 2147483648) : zI a ≤ zI b ↔ a ≤ b := by
  rw [fa_le, z_toInt h1 h2, z_toInt h3 h4]
theorem z_lt {a b : Int} (h1 : -2147483648 ≤ a) (h2 : a < 2147483648) (h3 : -2147483648 ≤ b) (h4 : b < 2147483648) : zI a < zI b ↔ a < b := by
  rw [fa_lt, z_toInt h1 h2, z_toInt h3 h4]
theorem z_eq {a b : Int} (h1 : -2147483648 ≤ a) (h2 : a < 2147483648) (h3 : -2147483648 ≤ b) (h4 : b < 2147483648) : zI a = zI b ↔ a = b := by
  rw [fa_eq, z_toInt h1 h2, z_toInt h3 h4]
theorem z_nat (n : Nat) : zI (n : Int) = nI n := by
  first | exact Int32.ofInt_eq_ofNat | exact Int32.ofInt_natCast n | (apply Int32.toBitVec_inj.mp; simp [zI, nI]; done) | (apply Int32.toBitVec_inj.mp; show BitVec.ofInt 32 (n : Int) = BitVec.ofNat 32 n; exact BitVec.ofInt_natCast 32 n)
theorem z_cl {n : Nat} (h : n < 2147483648) : (zI (n : Int)).toNatClampNeg = n := by
  rw [z_nat]
  exact nI_clamp h
theorem z_clI {a : Int} (h0 : 0 ≤ a) (h : a < 2147483648) : (zI a).toNatClampNeg = a.toNat := by
  obtain ⟨n, rfl⟩ := Int.eq_ofNat_of_zero_le h0
  rw [z_cl (by omega)]
  simp
theorem z_in {a : Int} {n : Nat} (h1 : -2147483648 ≤ a) (h2 : a < 2147483648) : vp_in (zI a) n ↔ 0 ≤ a ∧ a < n := by
  rw [vp_in_iff, z_toInt h1 h2]
theorem z_0 : (0 : Int32) = zI 0 := rfl
theorem z_of (x : Int32) : ∃ z : Int, -2147483648 ≤ z ∧ z < 2147483648 ∧ x = zI z := ⟨x.toInt, (fb_rng x).1, (fb_rng x).2, (fb_asI x).symm⟩
theorem z_lit (n : Nat) : (OfNat.ofNat n : Int32) = zI (n : Int) := by
  rw [z_nat]
  exact fa_lit n
theorem z_neg (a : Int) : -(zI a) = zI (-a) := by
  have h := Int32.ofInt_neg a
  exact h.symm
theorem z_div {a b : Nat} (ha : a < 2147483648) (h0 : 0 < b) (hb : b < 2147483648) : zI (a : Int) / zI (b : Int) = zI ((a / b : Nat) : Int) := by
  rw [z_nat, z_nat, z_nat]
  exact pk_div ha h0 hb
theorem z_rem {a b : Nat} (ha : a < 2147483648) (h0 : 0 < b) (hb : b < 2147483648) : zI (a : Int) - zI (a : Int) / zI (b : Int) * zI (b : Int) = zI ((a % b : Nat) : Int) := by
  rw [z_nat, z_nat, z_nat]
  exact pk_rem ha h0 hb
/-- a loop upwards -/
theorem up_loop {L : Nat → Prop} (n : Nat) (hend : L n) (hstep : ∀ k, k < n → L (k + 1) → L k) : ∀ k, k ≤ n → L k := by
  have key : ∀ d k, k + d = n → L k := by
    intro d
    induction d with
    | zero => intro k hk; rw [show k = n by omega]; exact hend
    | succ d ih => intro k hk; exact hstep k (by omega) (ih (k + 1) (by omega))
  intro k hk
  exact key (n - k) k (by omega)
/-- truth of an int -/
def on (x : Int32) : Bool := !(x == 0)
theorem on_t {x : Int32} (h : ¬ x = 0) : on x = true := by simp [on, h]
theorem on_f {x : Int32} (h : x = 0) : on x = false := by simp [on, h]
theorem on_iff {x : Int32} : on x = true ↔ ¬ x = 0 := by simp [on]
theorem on_niff {x : Int32} : on x = false ↔ x = 0 := by simp [on]
def is01 (x : Int32) : Prop := x = 0 ∨ x = 1
theorem nar0 : vp_nar .boolean 0 = 0 := rfl
theorem nar1 : vp_nar .boolean 1 = 1 := rfl
theorem nar01 {x : Int32} (h : is01 x) : vp_nar .boolean x = x := by rcases h with rfl | rfl <;> rfl
theorem nrw01 {x : Int32} (h : is01 x) : narrow .boolean (.int x) = .int x := by rcases h with rfl | rfl <;> rfl
theorem fit01 {x : Int32} (h : is01 x) : narrow .boolean (.int x) = .int x ∧ fits .boolean (.int x) = true := by rcases h with rfl | rfl <;> exact ⟨rfl, rfl⟩
def bi (b : Bool) : Int32 := if b then 1 else 0
theorem bi01 (b : Bool) : is01 (bi b) := by cases b <;> simp [bi, is01]
theorem on_bi (b : Bool) : on (bi b) = b := by cases b <;> rfl
theorem bi_on {x : Int32} (h : is01 x) : bi (on x) = x := by rcases h with rfl | rfl <;> rfl
theorem u2_ne {α : Type} (f : Nat → Nat → α) {k j a b : Nat} (v : α) (h : a ≠ k) : u2 f k j v a b = f a b := by simp [u2, h]
