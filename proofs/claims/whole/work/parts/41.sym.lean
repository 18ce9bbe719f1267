/-! neighbours go both ways -/
def alw (sh r : Nat) (dr dc : Int) : Prop := (dr = 0 ∧ (dc = -1 ∨ dc = 1)) ∨ ((dr = -1 ∨ dr = 1) ∧ (if sh < 2 then dc = -1 ∨ dc = 0 ∨ dc = 1 else if r % 2 = 0 then dc = -1 ∨ dc = 0 else dc = 0 ∨ dc = 1))
theorem mem_gPos {sh r c : Nat} {q : Int × Int} : q ∈ gPos sh r c ↔ ∃ dr dc : Int, alw sh r dr dc ∧ q = ((r : Int) + dr, (c : Int) + dc) := by
  obtain ⟨x, y⟩ := q
  unfold gPos gC gS alw
  by_cases h1 : sh < 2
  · simp only [h1, if_true, kl, posL, List.flatMap_cons, List.flatMap_nil, List.append_nil, List.cons_append, List.nil_append, List.mem_cons, List.not_mem_nil, or_false, Prod.mk.injEq]
    constructor
    · rintro (⟨h1, h2⟩ | ⟨h1, h2⟩ | ⟨h1, h2⟩ | ⟨h1, h2⟩ | ⟨h1, h2⟩ | ⟨h1, h2⟩ | ⟨h1, h2⟩ | ⟨h1, h2⟩)
      · exact ⟨-1, -1, by omega, by omega, by omega⟩
      · exact ⟨1, -1, by omega, by omega, by omega⟩
      · exact ⟨-1, 0, by omega, by omega, by omega⟩
      · exact ⟨1, 0, by omega, by omega, by omega⟩
      · exact ⟨-1, 1, by omega, by omega, by omega⟩
      · exact ⟨1, 1, by omega, by omega, by omega⟩
      · exact ⟨0, -1, by omega, by omega, by omega⟩
      · exact ⟨0, 1, by omega, by omega, by omega⟩
    · rintro ⟨dr, dc, h, h2, h3⟩
      omega
  · by_cases h2 : r % 2 = 0
    · simp only [h1, h2, if_true, if_false, kl, posL, List.flatMap_cons, List.flatMap_nil, List.append_nil, List.cons_append, List.nil_append, List.mem_cons, List.not_mem_nil, or_false, Prod.mk.injEq]
      constructor
      · rintro (⟨h1, h2⟩ | ⟨h1, h2⟩ | ⟨h1, h2⟩ | ⟨h1, h2⟩ | ⟨h1, h2⟩ | ⟨h1, h2⟩)
        · exact ⟨-1, -1, by omega, by omega, by omega⟩
        · exact ⟨1, -1, by omega, by omega, by omega⟩
        · exact ⟨-1, 0, by omega, by omega, by omega⟩
        · exact ⟨1, 0, by omega, by omega, by omega⟩
        · exact ⟨0, -1, by omega, by omega, by omega⟩
        · exact ⟨0, 1, by omega, by omega, by omega⟩
      · rintro ⟨dr, dc, h, h2, h3⟩
        omega
    · simp only [h1, h2, if_false, kl, posL, List.flatMap_cons, List.flatMap_nil, List.append_nil, List.cons_append, List.nil_append, List.mem_cons, List.not_mem_nil, or_false, Prod.mk.injEq]
      constructor
      · rintro (⟨h1, h2⟩ | ⟨h1, h2⟩ | ⟨h1, h2⟩ | ⟨h1, h2⟩ | ⟨h1, h2⟩ | ⟨h1, h2⟩)
        · exact ⟨-1, 0, by omega, by omega, by omega⟩
        · exact ⟨1, 0, by omega, by omega, by omega⟩
        · exact ⟨-1, 1, by omega, by omega, by omega⟩
        · exact ⟨1, 1, by omega, by omega, by omega⟩
        · exact ⟨0, -1, by omega, by omega, by omega⟩
        · exact ⟨0, 1, by omega, by omega, by omega⟩
      · rintro ⟨dr, dc, h, h2, h3⟩
        omega
/-- a place that is a cell: its row and column are the cell's -/
theorem gAt_rc {w h sh b : Nat} {r c : Int} (hw : 1 ≤ w) (e : gAt w h sh r c = (b : Int)) : gw (decide (sh % 2 = 1)) r h = ((b / w : Nat) : Int) ∧ gw (decide (sh % 2 = 1)) c w = ((b % w : Nat) : Int) := by
  unfold gAt at e
  split at e
  · rename_i q
    obtain ⟨q1, q2, q3, q4⟩ := q
    obtain ⟨x, hx⟩ := Int.eq_ofNat_of_zero_le q1
    obtain ⟨y, hy⟩ := Int.eq_ofNat_of_zero_le q3
    rw [hx, hy] at e ⊢
    rw [hy] at q4
    have e' : b = x * w + y := by
      have : ((x * w + y : Nat) : Int) = (b : Int) := by rw [← e, Int.natCast_add, Int.natCast_mul]
      omega
    subst e'
    rw [Nat.add_comm, Nat.add_mul_div_right _ _ (by omega), Nat.div_eq_of_lt (by omega), Nat.add_mul_mod_self_right, Nat.mod_eq_of_lt (by omega)]
    simp
  · omega
theorem gAt_of {w h sh b : Nat} {r c : Int} (hw : 1 ≤ w) (hb : b < w * h) (e1 : gw (decide (sh % 2 = 1)) r h = ((b / w : Nat) : Int)) (e2 : gw (decide (sh % 2 = 1)) c w = ((b % w : Nat) : Int)) : gAt w h sh r c = (b : Int) := by
  obtain ⟨q1, q2, q3⟩ := cell_rc hw hb
  generalize b / w = R at *
  generalize b % w = C at *
  unfold gAt
  rw [e1, e2, if_pos ⟨by omega, by omega, by omega, by omega⟩]
  rw [← Int.natCast_mul, ← Int.natCast_add, q3]
theorem gw_back {ring : Bool} {r s n : Nat} {d : Int} (hr : r < n) (hs : s < n) (hd : d = -1 ∨ d = 0 ∨ d = 1) (e : gw ring ((r : Int) + d) n = (s : Int)) : gw ring ((s : Int) + -d) n = (r : Int) := by
  unfold gw at e ⊢
  cases ring
  · simp at e ⊢; omega
  · simp only [if_true] at e ⊢
    split at e
    · split
      · omega
      · split <;> omega
    · split at e
      · split
        · omega
        · split <;> omega
      · split
        · omega
        · split <;> omega
theorem gw_par {ring : Bool} {r s n : Nat} {d : Int} (hn : ring = true → n % 2 = 0) (hr : r < n) (hs : s < n) (hd : d = -1 ∨ d = 1) (e : gw ring ((r : Int) + d) n = (s : Int)) : (s % 2 = 0 ↔ r % 2 = 1) := by
  unfold gw at e
  cases ring
  · simp at e; omega
  · have := hn rfl
    simp only [if_true] at e
    split at e
    · omega
    · split at e <;> omega
theorem nb_iff {w h sh a b : Nat} : nb w h sh a b = true ↔ b ≠ a ∧ ∃ dr dc : Int, alw sh (a / w) dr dc ∧ gAt w h sh (((a / w : Nat) : Int) + dr) (((a % w : Nat) : Int) + dc) = (b : Int) := by
  unfold nb
  rw [List.any_eq_true]
  constructor
  · rintro ⟨q, hq, hh⟩
    obtain ⟨dr, dc, h1, rfl⟩ := mem_gPos.mp hq
    simp only [hit, Bool.and_eq_true, decide_eq_true_eq, Bool.not_eq_true', decide_eq_false_iff_not] at hh
    exact ⟨hh.2, dr, dc, h1, hh.1⟩
  · rintro ⟨h1, dr, dc, h2, h3⟩
    refine ⟨_, mem_gPos.mpr ⟨dr, dc, h2, rfl⟩, ?_⟩
    simp only [hit, Bool.and_eq_true, decide_eq_true_eq, Bool.not_eq_true', decide_eq_false_iff_not]
    exact ⟨h3, h1⟩
theorem nb_sym1 {w h sh a b : Nat} (g : gOk w h sh) (ha : a < w * h) (hn : nb w h sh a b = true) : nb w h sh b a = true := by
  have hb := nb_lt hn
  obtain ⟨g1, g2, g3, g4, g5, g6⟩ := g
  obtain ⟨p1, p2, p3⟩ := cell_rc g1 ha
  obtain ⟨q1, q2, q3⟩ := cell_rc g1 hb
  obtain ⟨h1, dr, dc, h2, h3⟩ := nb_iff.mp hn
  obtain ⟨e1, e2⟩ := gAt_rc g1 h3
  have hdr : dr = -1 ∨ dr = 0 ∨ dr = 1 := by
    rcases h2 with ⟨z, -⟩ | ⟨z, -⟩ <;> omega
  have hdc : dc = -1 ∨ dc = 0 ∨ dc = 1 := by
    rcases h2 with ⟨-, z⟩ | ⟨-, z⟩
    · omega
    · split at z
      · omega
      · split at z <;> omega
  refine nb_iff.mpr ⟨fun q => h1 q.symm, -dr, -dc, ?_, gAt_of g1 ha (gw_back p1 q1 hdr e1) (gw_back p2 q2 hdc e2)⟩
  rcases h2 with ⟨z1, z2⟩ | ⟨z1, z2⟩
  · exact Or.inl ⟨by omega, by omega⟩
  · refine Or.inr ⟨by omega, ?_⟩
    by_cases hs : sh < 2
    · rw [if_pos hs] at z2 ⊢
      omega
    · rw [if_neg hs] at z2 ⊢
      have hp := gw_par (fun hr => g6 (by simp at hr; omega)) p1 q1 z1 e1
      by_cases hq : a / w % 2 = 0
      · rw [if_pos hq] at z2
        rw [if_neg (by omega)]
        omega
      · rw [if_neg hq] at z2
        rw [if_pos (by omega)]
        omega
theorem nb_sym {w h sh a b : Nat} (g : gOk w h sh) (ha : a < w * h) (hb : b < w * h) : nb w h sh a b = nb w h sh b a := by
  cases e : nb w h sh a b
  · cases e2 : nb w h sh b a
    · rfl
    · rw [nb_sym1 g hb e2] at e; cases e
  · exact (nb_sym1 g ha e).symm
