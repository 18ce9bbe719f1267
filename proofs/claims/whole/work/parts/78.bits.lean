/-! numbers made of bits -/
def bn (p : Nat → Bool) : Nat → Nat
  | 0 => 0
  | k + 1 => bn p k + (if p k then 2 ^ k else 0)
theorem bn_lt (p : Nat → Bool) : ∀ k, bn p k < 2 ^ k
  | 0 => by show (0 : Nat) < 1; decide
  | k + 1 => by
    have := bn_lt p k
    have h2 : 2 ^ (k + 1) = 2 ^ k + 2 ^ k := by rw [Nat.pow_succ]; omega
    show bn p k + (if p k then 2 ^ k else 0) < _
    cases p k
    · simp; omega
    · simp; omega
theorem bn_bit (p : Nat → Bool) : ∀ k j, (bn p k).testBit j = (decide (j < k) && p j)
  | 0, j => by show (0 : Nat).testBit j = _; simp
  | k + 1, j => by
    have ih := bn_bit p k j
    have hl := bn_lt p k
    show (bn p k + (if p k then 2 ^ k else 0)).testBit j = _
    cases e : p k
    · rw [if_neg (by simp), Nat.add_zero, ih]
      by_cases c : j = k
      · rw [c, e]; simp
      · rw [show decide (j < k + 1) = decide (j < k) from decide_eq_decide.mpr (by omega)]
    · rw [if_pos rfl, Nat.add_comm, show 2 ^ k + bn p k = 2 ^ k * 1 + bn p k by omega, Nat.testBit_two_pow_mul_add _ hl]
      by_cases c : j < k
      · rw [if_pos c, ih, decide_eq_true c, decide_eq_true (by omega)]
      · rw [if_neg c]
        by_cases c2 : j = k
        · rw [c2, Nat.sub_self, e, decide_eq_true (by omega)]; rfl
        · rw [decide_eq_false (by omega), Bool.false_and]
          have : 1 < 2 ^ (j - k) := by
            have := Nat.pow_le_pow_right (show 1 ≤ 2 by decide) (show 1 ≤ j - k by omega)
            omega
          exact Nat.testBit_lt_two_pow this
theorem shl1 {k : Nat} (h : k < 31) : (1 : Int32) <<< (zI k &&& 31) = zI ((2 ^ k : Nat) : Int) := by
  have : ∀ k : Fin 31, (1 : Int32) <<< (zI (k.val : Nat) &&& 31) = zI ((2 ^ k.val : Nat) : Int) := by decide +kernel
  exact this ⟨k, h⟩
theorem zand (a b : Nat) : zI (a : Int) &&& zI (b : Int) = zI ((a &&& b : Nat) : Int) := by rw [z_nat, z_nat, z_nat, nx_and]
theorem zand1 (a : Nat) : zI (a : Int) &&& 1 = zI ((a % 2 : Nat) : Int) := by
  rw [show (1 : Int32) = zI ((1 : Nat) : Int) from rfl, zand, Nat.and_one_is_mod]
theorem zbit {a k : Nat} (ha : a < 2 ^ 31) (hk : k < 31) : (zI (a : Int) >>> (zI k &&& 31)) &&& 1 = zI ((if a.testBit k then 1 else 0 : Nat) : Int) := by
  have hs : ∀ k : Fin 31, ((zI (k.val : Nat) &&& 31 : Int32).toBitVec.smod 32).toNat = k.val := by decide +kernel
  rw [z_nat a, pk_shrN ha _ k (hs ⟨k, hk⟩), ← z_nat, zand1]
  congr 2
  rw [Nat.testBit_eq_decide_div_mod_eq]
  by_cases c : a / 2 ^ k % 2 = 1
  · rw [c]; rfl
  · rw [show a / 2 ^ k % 2 = 0 by omega]; rfl
theorem nodup_le {L : List Nat} {n : Nat} (h : L.Nodup) (hl : ∀ x, x ∈ L → x < n) : L.length ≤ n := by
  have h1 := cp_ct (n := n) (p := fun _ => true) L h hl
  rw [List.countP_true] at h1
  rw [h1]
  exact fb_ct_le _ _
theorem getD_inj {A : List Nat} (hn : A.Nodup) {i j : Nat} (hi : i < A.length) (hj : j < A.length) (e : A.getD i 0 = A.getD j 0) : i = j := by
  have key : ∀ i j, i < j → j < A.length → A.getD i 0 ≠ A.getD j 0 := fun i j hij hj q => by
    have h1 := getD_nin hn hj
    rw [← q] at h1
    apply h1
    have h2 : (A.take j)[i]? = A[i]? := List.getElem?_take_of_lt hij
    have h3 : A[i]? = some (A.getD i 0) := by rw [List.getD_eq_getElem?_getD, List.getElem?_eq_getElem (show i < A.length by omega)]; rfl
    exact List.mem_of_getElem? (h2.trans h3)
  rcases Nat.lt_trichotomy i j with q | q | q
  · exact absurd e (key i j q hj)
  · exact q
  · exact absurd e.symm (key j i q hi)
/-- the cells of a list that a number's bits name -/
def fOf (A : List Nat) (s x : Nat) : Bool := decide (∃ j, j < A.length ∧ A.getD j 0 = x ∧ s.testBit j = true)
theorem fOf_at {A : List Nat} (hn : A.Nodup) (s : Nat) {j : Nat} (hj : j < A.length) : fOf A s (A.getD j 0) = s.testBit j := by
  unfold fOf
  cases e : s.testBit j
  · refine decide_eq_false ?_
    rintro ⟨i, i1, i2, i3⟩
    rw [getD_inj hn i1 hj i2, e] at i3
    cases i3
  · exact decide_eq_true ⟨j, hj, rfl, e⟩
theorem cp_fOf {A : List Nat} (hn : A.Nodup) (s : Nat) (p : Nat → Bool) : A.countP (fun x => p x && fOf A s x) = fb_ct (fun j => p (A.getD j 0) && s.testBit j) A.length := by
  have := cp_idx (fun x => p x && fOf A s x) A.length A (Nat.le_refl _)
  rw [List.take_length] at this
  rw [this]
  exact fb_ct_cong (fun j hj => by rw [fOf_at hn s hj])
section MBt
variable {I : tg_I} {J : tg_J} {P : Option Value → tg_I → tg_J → Prop}
theorem mbits_ok {a : Nat} (ha : a < 2 ^ 31) (hp : P (some (.int (zI (fb_ct (fun j => a.testBit j) 31 : Nat)))) I J) : call pgM zX9_bits [.int (zI a)] I J P := by
  refine e_X9_bits _ ?_
  have key := up_loop (L := fun k => l_X9_bits_4 I J P (zI a) (zI (fb_ct (fun j => a.testBit j) k : Nat)) (zI k)) 31 ?_ ?_ 0 (Nat.zero_le _)
  · exact key
  · exact s_X9_bits_4 _ _ _ ⟨fun _ => hp, fun c => absurd (Int32.le_refl _) c⟩
  · intro k hk ih
    have hle := fb_ct_le (fun j => a.testBit j) k
    refine s_X9_bits_4 _ _ _ ?_
    rw [zbit ha hk, show (31 : Int32) = zI (31 : Nat) from rfl, z_le (by omega) (by omega) (by omega) (by omega), z_add, z_s]
    refine ⟨fun c => absurd c (by omega), fun _ x1 e1 => ?_⟩
    rw [e1, show ((fb_ct (fun j => a.testBit j) k : Nat) : Int) + ((if a.testBit k then 1 else 0 : Nat) : Int) = ((fb_ct (fun j => a.testBit j) k + (if a.testBit k then 1 else 0) : Nat) : Int) by omega]
    exact ih
end MBt
