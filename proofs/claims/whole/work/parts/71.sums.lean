/-! sums over parts -/
def PP : Nat := 1000000007
/-- one part more, modulo a prime; and whether -/
def cv (T V : Nat → Nat) (t : Nat) : Nat := fb_sm (fun m => if m ≤ t then T (t - m) * V m else 0) 13 % PP
def cvp (T V : Nat → Nat) (t : Nat) : Nat := if ∃ m : Nat, m < 13 ∧ m ≤ t ∧ 0 < T (t - m) ∧ 0 < V m then 1 else 0
/-- the sums of the first k parts but u -/
def sT (pl : Bool) (W : Nat → Nat → Nat) (u : Int) : Nat → Nat → Nat
  | 0, t => if t = 0 then 1 else 0
  | k + 1, t => if (k : Int) = u then sT pl W u k t else if pl then cvp (sT pl W u k) (W k) t else cv (sT pl W u k) (W k) t
theorem sT_lt (pl : Bool) (W : Nat → Nat → Nat) (u : Int) : ∀ k t, sT pl W u k t < PP
  | 0, t => by unfold sT; split <;> decide
  | k + 1, t => by
    unfold sT
    by_cases e : (k : Int) = u
    · rw [if_pos e]; exact sT_lt pl W u k t
    · rw [if_neg e]
      cases pl
      · exact Nat.mod_lt _ (by decide)
      · rw [if_pos rfl]; unfold cvp; split <;> decide
/-- which pairs have been gone over -/
def gon (s m t m' : Nat) : Bool := decide (m' ≤ t ∧ (t - m' < s ∨ (t - m' = s ∧ m' < m)))
def vM (T V : Nat → Nat) (s m t : Nat) : Nat := fb_sm (fun m' => if gon s m t m' then T (t - m') * V m' else 0) 13 % PP
def vP (T V : Nat → Nat) (s m t : Nat) : Nat := if ∃ m' : Nat, m' < 13 ∧ gon s m t m' = true ∧ 0 < T (t - m') ∧ 0 < V m' then 1 else 0
def vA (pl : Bool) (T V : Nat → Nat) (s m t : Nat) : Nat := if pl then vP T V s m t else vM T V s m t
theorem gon_row {s t m' : Nat} (h : m' < 13) : gon s 13 t m' = gon (s + 1) 0 t m' := by
  unfold gon
  exact decide_eq_decide.mpr (by omega)
theorem gon_step {s m t m' : Nat} (h : t ≠ s + m ∨ m' ≠ m) : gon s (m + 1) t m' = gon s m t m' := by
  unfold gon
  exact decide_eq_decide.mpr (by omega)
theorem vA_0 (pl : Bool) (T V : Nat → Nat) (t : Nat) : vA pl T V 0 0 t = 0 := by
  have hg : ∀ m', gon 0 0 t m' = false := fun m' => decide_eq_false (by omega)
  unfold vA
  cases pl
  · rw [if_neg (by simp)]
    unfold vM
    rw [fb_sm_cong (g := fun _ => 0) (fun k _ => by rw [hg k]; rfl), fb_sm_const]
    rfl
  · rw [if_pos rfl]
    unfold vP
    rw [if_neg]
    rintro ⟨m', -, q, -⟩
    rw [hg m'] at q; cases q
theorem vA_row (pl : Bool) (T V : Nat → Nat) (s t : Nat) : vA pl T V s 13 t = vA pl T V (s + 1) 0 t := by
  unfold vA
  cases pl
  · rw [if_neg (by simp), if_neg (by simp)]
    unfold vM
    rw [fb_sm_cong (fun k hk => by rw [gon_row hk])]
  · rw [if_pos rfl, if_pos rfl]
    unfold vP
    congr 1
    apply propext
    constructor
    · rintro ⟨m', a, b, c⟩
      exact ⟨m', a, by rw [← gon_row a]; exact b, c⟩
    · rintro ⟨m', a, b, c⟩
      exact ⟨m', a, by rw [gon_row a]; exact b, c⟩
theorem vA_skip (pl : Bool) {T V : Nat → Nat} {s : Nat} (h : T s = 0) (m t : Nat) : vA pl T V s m t = vA pl T V (s + 1) 0 t := by
  have hg : ∀ m', T (t - m') ≠ 0 → gon s m t m' = gon (s + 1) 0 t m' := fun m' q => by
    have : t - m' ≠ s := fun e => q (by rw [e]; exact h)
    unfold gon
    exact decide_eq_decide.mpr (by omega)
  unfold vA
  cases pl
  · rw [if_neg (by simp), if_neg (by simp)]
    unfold vM
    rw [fb_sm_cong (fun k hk => ?_)]
    by_cases e : T (t - k) = 0
    · rw [e]; simp
    · rw [hg k e]
  · rw [if_pos rfl, if_pos rfl]
    unfold vP
    congr 1
    apply propext
    constructor
    · rintro ⟨m', a, b, c⟩
      exact ⟨m', a, by rw [← hg m' (by omega)]; exact b, c⟩
    · rintro ⟨m', a, b, c⟩
      exact ⟨m', a, by rw [hg m' (by omega)]; exact b, c⟩
theorem vA_off (pl : Bool) {T V : Nat → Nat} {s m t : Nat} (h : t ≠ s + m) : vA pl T V s (m + 1) t = vA pl T V s m t := by
  have hg : ∀ m', gon s (m + 1) t m' = gon s m t m' := fun m' => gon_step (Or.inl h)
  unfold vA vM vP
  simp only [hg]
theorem vA_on {T V : Nat → Nat} {s m : Nat} (hm : m < 13) : vA false T V s (m + 1) (s + m) = (vA false T V s m (s + m) + T s * V m) % PP := by
  unfold vA
  rw [if_neg (by simp), if_neg (by simp)]
  unfold vM
  have h1 := fb_sm_upd (fun m' => if gon s m (s + m) m' then T (s + m - m') * V m' else 0) (T s * V m) (i := m) (n := 13) hm
  have hz : gon s m (s + m) m = false := decide_eq_false (by omega)
  rw [hz, if_neg (by simp), Nat.add_zero] at h1
  rw [← fb_sm_cong (f := fun m' => if gon s (m + 1) (s + m) m' then T (s + m - m') * V m' else 0) (fun k hk => ?_)] at h1
  · rw [h1, Nat.mod_add_mod]
  · by_cases e : k = m
    · rw [if_pos e, e, show gon s (m + 1) (s + m) m = true from decide_eq_true (by omega), if_pos rfl, show s + m - m = s by omega]
    · rw [if_neg e, gon_step (Or.inr e)]
theorem vA_onP {T V : Nat → Nat} {s m : Nat} (hm : m < 13) (hs : 0 < T s) : vA true T V s (m + 1) (s + m) = if 0 < V m then 1 else vA true T V s m (s + m) := by
  unfold vA
  rw [if_pos rfl, if_pos rfl]
  unfold vP
  by_cases e : 0 < V m
  · rw [if_pos e, if_pos ⟨m, hm, decide_eq_true (by omega), by rw [show s + m - m = s by omega]; exact hs, e⟩]
  · rw [if_neg e]
    congr 1
    apply propext
    constructor
    · rintro ⟨m', a, b, c⟩
      have : m' ≠ m := fun q => e (by rw [← q]; exact c.2)
      exact ⟨m', a, by rw [← gon_step (Or.inr this)]; exact b, c⟩
    · rintro ⟨m', a, b, c⟩
      have : m' ≠ m := fun q => e (by rw [← q]; exact c.2)
      exact ⟨m', a, by rw [gon_step (Or.inr this)]; exact b, c⟩
theorem vA_lt (pl : Bool) (T V : Nat → Nat) (s m t : Nat) : vA pl T V s m t < PP := by
  unfold vA
  cases pl
  · exact Nat.mod_lt _ (by decide)
  · rw [if_pos rfl]; unfold vP; split <;> decide
theorem vA_end (pl : Bool) (T V : Nat → Nat) {t : Nat} (ht : t ≤ 100) : vA pl T V 101 0 t = if pl then cvp T V t else cv T V t := by
  have hg : ∀ m', gon 101 0 t m' = decide (m' ≤ t) := fun m' => decide_eq_decide.mpr (by omega)
  unfold vA
  cases pl
  · rw [if_neg (by simp), if_neg (by simp)]
    unfold vM cv
    rw [fb_sm_cong (fun k _ => by rw [hg k])]
    simp
  · rw [if_pos rfl, if_pos rfl]
    unfold vP cvp
    congr 1
    apply propext
    constructor
    · rintro ⟨m', a, b, c⟩
      rw [hg m'] at b
      exact ⟨m', a, of_decide_eq_true b, c⟩
    · rintro ⟨m', a, b, c⟩
      exact ⟨m', a, by rw [hg m']; exact decide_eq_true b, c⟩
theorem cv_cong {T T' V V' : Nat → Nat} {t : Nat} (h : ∀ s, s ≤ t → T s = T' s) (h2 : ∀ m, m < 13 → V m = V' m) : cv T V t = cv T' V' t := by
  unfold cv
  rw [fb_sm_cong (fun m hm => ?_)]
  by_cases e : m ≤ t
  · rw [if_pos e, if_pos e, h _ (by omega), h2 m hm]
  · rw [if_neg e, if_neg e]
theorem cvp_cong {T T' V V' : Nat → Nat} {t : Nat} (h : ∀ s, s ≤ t → T s = T' s) (h2 : ∀ m, m < 13 → V m = V' m) : cvp T V t = cvp T' V' t := by
  unfold cvp
  congr 1
  apply propext
  constructor
  · rintro ⟨m, a, b, c, d⟩
    exact ⟨m, a, b, by rw [← h _ (by omega)]; exact c, by rw [← h2 m a]; exact d⟩
  · rintro ⟨m, a, b, c, d⟩
    exact ⟨m, a, b, by rw [h _ (by omega)]; exact c, by rw [h2 m a]; exact d⟩
/-- the ways to choose, modulo the prime -/
def pas : Nat → Nat → Nat
  | 0, k => if k = 0 then 1 else 0
  | i + 1, k => if k = 0 then 1 else (pas i k + pas i (k - 1)) % PP
theorem pas_lt : ∀ i k, pas i k < PP
  | 0, k => by unfold pas; split <;> decide
  | i + 1, k => by
    unfold pas
    by_cases e : k = 0
    · rw [if_pos e]; decide
    · rw [if_neg e]; exact Nat.mod_lt _ (by decide)
theorem pas_big : ∀ i k, i < k → pas i k = 0
  | 0, k, h => by unfold pas; rw [if_neg (by omega)]
  | i + 1, k, h => by
    unfold pas
    rw [if_neg (by omega), pas_big i k (by omega), pas_big i (k - 1) (by omega)]
    rfl
theorem pas_0 (i : Nat) : pas i 0 = 1 := by cases i <;> rfl
/-- mines on parts and on cells that no open one sees -/
def flG (T : Nat → Nat) (n : Nat) (mm : Int) (s : Nat) : Nat := if (s : Int) ≤ mm then T s * pas n (mm - s).toNat else 0
def flT (T : Nat → Nat) (n : Nat) (mm : Int) : Nat := fb_sm (flG T n mm) 101 % PP
theorem flT_end {T : Nat → Nat} {n : Nat} {mm : Int} {k : Nat} (h : mm < k) (hk : k ≤ 101) : fb_sm (flG T n mm) k % PP = flT T n mm := by
  unfold flT
  have h1 := fb_sm_split (flG T n mm) k (101 - k)
  rw [show k + (101 - k) = 101 by omega, fb_sm_cong (f := fun j => flG T n mm (k + j)) (g := fun _ => 0) (fun j _ => by unfold flG; rw [if_neg (by omega)]), fb_sm_const, Nat.mul_zero, Nat.add_zero] at h1
  rw [h1]
theorem flT_lt (T : Nat → Nat) (n : Nat) (mm : Int) : flT T n mm < PP := Nat.mod_lt _ (by decide)
theorem l_rem {a : Nat} (h : a < 2 ^ 63) : lN a - lN a / 1000000007 * 1000000007 = lN (a % PP) := pk_lRem (b := 1000000007) h (by decide) (by decide)
theorem cmp_le0 {a : Nat} (h : a < 2 ^ 63) : lg_cmp (lN a) 0 ≤ 0 ↔ a = 0 := by
  unfold lg_cmp
  have e : (0 : Int64) = lN 0 := rfl
  rw [e]
  by_cases c : a = 0
  · subst c; decide
  · have h1 : lN a > lN 0 := (pk_lLT (by decide) h).mpr (by omega)
    rw [if_pos h1]
    exact ⟨fun q => absurd q (by decide), fun q => absurd q c⟩
theorem mulP {a b : Nat} (ha : a < PP) (hb : b < PP) : a * b < 2 ^ 60 := by
  have : a * b ≤ PP * PP := Nat.mul_le_mul (Nat.le_of_lt ha) (Nat.le_of_lt hb)
  have h2 : PP * PP < 2 ^ 60 := by decide
  omega
