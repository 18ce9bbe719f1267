/-! the neighbours: where the places beside a cell lie -/
def gw (ring : Bool) (r : Int) (h : Nat) : Int := if ring then (if r < 0 then r + h else if (h : Int) ≤ r then r - h else r) else r
def gAt (w h sh : Nat) (r c : Int) : Int :=
  if 0 ≤ gw (decide (sh % 2 = 1)) r h ∧ gw (decide (sh % 2 = 1)) r h < h ∧ 0 ≤ gw (decide (sh % 2 = 1)) c w ∧ gw (decide (sh % 2 = 1)) c w < w then gw (decide (sh % 2 = 1)) r h * w + gw (decide (sh % 2 = 1)) c w else -1
def kl : Nat → Int → List Int
  | 0, _ => []
  | d + 1, k => k :: kl d (k + 1)
def posL (r : Int) (ks : List Int) : List (Int × Int) := ks.flatMap fun k => [(r - 1, k), (r + 1, k)]
def gS (sh r c : Nat) : Int := if sh < 2 then (c : Int) - 1 else if r % 2 = 0 then (c : Int) - 1 else c
def gC (sh : Nat) : Nat := if sh < 2 then 3 else 2
def gPos (sh r c : Nat) : List (Int × Int) := posL r (kl (gC sh) (gS sh r c)) ++ [((r : Int), (c : Int) - 1), ((r : Int), (c : Int) + 1)]
/-- b comes to a's neighbours by a place -/
def hit (w h sh a b : Nat) (q : Int × Int) : Bool := decide (gAt w h sh q.1 q.2 = (b : Int)) && !decide (b = a)
def nb (w h sh a b : Nat) : Bool := (gPos sh (a / w) (a % w)).any (hit w h sh a b)
/-- sizes and shapes that may be -/
def gOk (w h sh : Nat) : Prop := 1 ≤ w ∧ w ≤ 10 ∧ 1 ≤ h ∧ h ≤ 10 ∧ sh ≤ 3 ∧ (sh = 3 → h % 2 = 0)
theorem gAt_lt {w h sh : Nat} {r c : Int} : gAt w h sh r c < (w * h : Nat) := by
  unfold gAt
  split
  · rename_i q
    obtain ⟨q1, q2, q3, q4⟩ := q
    generalize gw (decide (sh % 2 = 1)) r h = x at *
    generalize gw (decide (sh % 2 = 1)) c w = y at *
    have h1 : x * w ≤ ((h : Int) - 1) * w := Int.mul_le_mul_of_nonneg_right (by omega) (by omega)
    have h2 : ((h : Int) - 1) * w = h * w - w := by rw [Int.sub_mul, Int.one_mul]
    have h3 : ((w * h : Nat) : Int) = (h : Int) * w := by rw [Int.natCast_mul, Int.mul_comm]
    omega
  · omega
theorem gAt_ge {w h sh : Nat} {r c : Int} : -1 ≤ gAt w h sh r c := by
  unfold gAt
  split
  · rename_i q
    obtain ⟨q1, q2, q3, q4⟩ := q
    generalize gw (decide (sh % 2 = 1)) r h = x at *
    have h1 : 0 ≤ x * w := Int.mul_nonneg q1 (by omega)
    omega
  · omega
theorem nb_lt {w h sh a b : Nat} (hn : nb w h sh a b = true) : b < w * h := by
  unfold nb at hn
  rw [List.any_eq_true] at hn
  obtain ⟨q, -, hq⟩ := hn
  unfold hit at hq
  simp only [Bool.and_eq_true, decide_eq_true_eq] at hq
  have := gAt_lt (w := w) (h := h) (sh := sh) (r := q.1) (c := q.2)
  omega
theorem nb_irr {w h sh a : Nat} : nb w h sh a a = false := by
  unfold nb
  rw [List.any_eq_false]
  intro q _
  simp [hit]
theorem gw_mod {h : Nat} {r : Int} (h1 : -1 ≤ r) (h2 : r ≤ h) (h0 : 1 ≤ h) : (((r + h).toNat % h : Nat) : Int) = gw true r h := by
  unfold gw
  simp only [if_true]
  by_cases q1 : r < 0
  · rw [if_pos q1, Nat.mod_eq_of_lt (by omega)]
    omega
  · rw [if_neg q1]
    by_cases q2 : (h : Int) ≤ r
    · rw [if_pos q2, show (r + h).toNat = h + h by omega, Nat.add_mod_right, Nat.mod_self]
      omega
    · rw [if_neg q2]
      obtain ⟨m, rfl⟩ := Int.eq_ofNat_of_zero_le (show 0 ≤ r by omega)
      rw [show ((m : Int) + h).toNat = m + h by omega, Nat.add_mod_right, Nat.mod_eq_of_lt (by omega)]
theorem posL_cons (r k : Int) (ks : List Int) : posL r (k :: ks) = (r - 1, k) :: (r + 1, k) :: posL r ks := by simp [posL]
theorem gS_rng {sh r c w : Nat} (hc : c < w) : -1 ≤ gS sh r c ∧ gS sh r c + gC sh ≤ w + 1 := by
  unfold gS gC
  split
  · simp; omega
  · split
    · simp; omega
    · simp; omega
theorem cell_rc {w h a : Nat} (hw : 1 ≤ w) (ha : a < w * h) : a / w < h ∧ a % w < w ∧ a / w * w + a % w = a := by
  refine ⟨Nat.div_lt_of_lt_mul ha, Nat.mod_lt _ (by omega), ?_⟩
  rw [Nat.mul_comm]
  exact Nat.div_add_mod a w
