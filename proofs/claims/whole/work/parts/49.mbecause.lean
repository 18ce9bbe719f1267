/-! the reference's reasons -/
/-- the reasons that a cell brings: itself, and those of its neighbours' verdicts (below m) -/
def bcs (nbA K : Nat → Bool) (Y : Nat → Nat → Bool) (a m : Nat) : Nat → Bool := fun k => decide (k = a) || decide (∃ b, b < m ∧ nbA b = true ∧ K b = true ∧ Y b k = true)
theorem bcs_succ (nbA K : Nat → Bool) (Y : Nat → Nat → Bool) (a m k : Nat) : bcs nbA K Y a (m + 1) k = (bcs nbA K Y a m k || (nbA m && K m && Y m k)) := by
  have h1 : ∀ m, bcs nbA K Y a m k = true ↔ k = a ∨ ∃ b, b < m ∧ nbA b = true ∧ K b = true ∧ Y b k = true := fun m => by
    unfold bcs
    rw [Bool.or_eq_true, decide_eq_true_eq, decide_eq_true_eq]
  have iff : bcs nbA K Y a (m + 1) k = true ↔ (bcs nbA K Y a m k || (nbA m && K m && Y m k)) = true := by
    rw [Bool.or_eq_true, h1, h1]
    simp only [Bool.and_eq_true]
    constructor
    · rintro (h | ⟨b, b1, b2, b3, b4⟩)
      · exact Or.inl (Or.inl h)
      · by_cases e : b = m
        · subst e
          exact Or.inr ⟨⟨b2, b3⟩, b4⟩
        · exact Or.inl (Or.inr ⟨b, by omega, b2, b3, b4⟩)
    · rintro ((h | ⟨b, b1, b2, b3, b4⟩) | ⟨⟨b2, b3⟩, b4⟩)
      · exact Or.inl h
      · exact Or.inr ⟨b, by omega, b2, b3, b4⟩
      · exact Or.inr ⟨m, by omega, b2, b3, b4⟩
  cases e1 : bcs nbA K Y a (m + 1) k
  · cases e2 : (bcs nbA K Y a m k || (nbA m && K m && Y m k))
    · rfl
    · rw [iff.mpr e2] at e1; cases e1
  · exact (iff.mp e1).symm
section MW
variable {I : tg_I} {J : tg_J} {P : Option Value → tg_I → tg_J → Prop} {w h sh : Nat} {M H B F K : Nat → Bool} {Y : Nat → Nat → Bool}
/-- the reasons of the verdicts so far -/
def mY (n : Nat) (K : Nat → Bool) (Y : Nat → Nat → Bool) (I : tg_I) : Prop := ∀ b k, b < n → k < 101 → K b = true → I 12 (101 * b + k) = bi (Y b k)
theorem becauseOf_ok (gk : gOk w h sh) (hm : mst w h sh M H B F I) (hk : mvK M K I) (hY : mY (w * h) K Y I) {W : Nat → Bool} (hW : ∀ k, k < 101 → I 14 k = bi (W k)) {a : Nat} (ha : a < w * h) (hp : ∀ I', onlyI 14 I I' → (∀ k, k < 101 → I' 14 k = bi (W k || bcs (nb w h sh a) K Y a (w * h) k)) → P none I' J) : call pgM zX9_becauseOf [.ref 0, .int (zI a)] I J P := by
  obtain ⟨hn1, hn2⟩ := mul_le100 gk
  refine e_X9_becauseOf _ ?_
  rw [z_in (by omega) (by omega), z_cl (by omega), nar1]
  refine ⟨by omega, fun I1 e1 => ?_⟩
  have key := up_loop (L := fun m => ∀ I2, onlyI 14 I I2 → (∀ k, k < 101 → I2 14 k = bi (W k || bcs (nb w h sh a) K Y a m k)) → l_X9_becauseOf_9 I2 J P (zI a) (zI m)) (w * h) ?_ ?_ 0 (Nat.zero_le _) I1 (fun q hq => by rw [e1, u2_other _ _ _ _ hq]) (fun k hk => ?_)
  · exact key
  · intro I2 o z
    have m2 : mst w h sh M H B F I2 := mst_keep hm (fun q hq => o q (by omega))
    exact s_X9_becauseOf_9 _ _ ⟨fun _ => hp I2 o z, fun c => absurd (by rw [m2.1.2.2.2]; exact Int32.le_refl _) c⟩
  · intro m hm2 ih I2 o z
    have m2 : mst w h sh M H B F I2 := mst_keep hm (fun q hq => o q (by omega))
    have hnx : zI (m : Int) + 1 = zI ((m + 1 : Nat) : Int) := by rw [show (1 : Int32) = zI 1 from rfl, z_add]; rfl
    have hv : I2 11 m = (if K m then bi (M m) else -1) := by rw [o 11 (by decide)]; exact hk m (by omega)
    have no : (nb w h sh a m && K m) = false → l_X9_becauseOf_9 I2 J P (zI a) (zI ((m + 1 : Nat) : Int)) := fun hf => ih I2 o (fun k hk => by
      rw [bcs_succ, hf, Bool.false_and, Bool.or_false]
      exact z k hk)
    refine s_X9_becauseOf_9 _ _ ?_
    rw [m2.1.2.2.2, z_le (by omega) (by omega) (by omega) (by omega), z_in (by omega) (by omega), z_cl (by omega), hnx]
    refine ⟨fun c => absurd c (by omega), fun _ => mnear_ok gk m2 ha hm2 ⟨_, rfl, ?_⟩⟩
    rw [bi_0, (mv_sgn hv).2.1]
    refine ⟨fun c => no (by rw [c]; rfl), fun c => ⟨by omega, fun c2 => no (by rw [c2]; simp), fun c2 => ?_⟩⟩
    have hna : nb w h sh a m = true := by simpa using c
    have hKm : K m = true := by simpa using c2
    have key2 := up_loop (L := fun k => ∀ I3, onlyI 14 I I3 → (∀ i, i < 101 → I3 14 i = bi (W i || bcs (nb w h sh a) K Y a m i || (decide (i < k) && Y m i))) → l_X9_becauseOf_37 I3 J P (zI a) (zI m) (zI k)) 101 ?_ ?_ 0 (Nat.zero_le _) I2 o (fun i hi => by rw [z i hi]; simp)
    · exact key2
    · intro I3 o3 z3
      refine s_X9_becauseOf_37 _ _ _ ⟨fun _ => ?_, fun c => absurd (Int32.le_refl _) c⟩
      rw [hnx]
      refine ih I3 o3 (fun i hi => ?_)
      rw [z3 i hi, bcs_succ, hna, hKm, decide_eq_true hi, Bool.or_assoc]
      rfl
    · intro k hk ihk I3 o3 z3
      have hy : I3 12 (101 * m + k) = bi (Y m k) := by rw [o3 12 (by decide)]; exact hY m k hm2 hk hKm
      have hnk : zI (k : Int) + 1 = zI ((k + 1 : Nat) : Int) := by rw [show (1 : Int32) = zI 1 from rfl, z_add]; rfl
      have h14 : I3 14 k = bi (W k || bcs (nb w h sh a) K Y a m k) := by rw [z3 k hk]; simp
      have fin : ∀ (v : Bool) (I4 : tg_I), v = (W k || bcs (nb w h sh a) K Y a m k || Y m k) → I4 = u2 I3 14 k (bi v) → l_X9_becauseOf_37 I4 J P (zI a) (zI m) (zI ((k + 1 : Nat) : Int)) := fun v I4 ev e4 => by
        refine ihk I4 (fun q hq => by rw [e4, u2_other _ _ _ _ hq]; exact o3 q hq) (fun i hi => ?_)
        rw [e4, u2_at]
        by_cases e : i = k
        · rw [if_pos e, e, ev, decide_eq_true (by omega), Bool.true_and]
        · rw [if_neg e, z3 i hi]
          congr 3
          exact decide_eq_decide.mpr (by omega)
      refine s_X9_becauseOf_37 _ _ _ ?_
      rw [show (101 : Int32) = zI (101 : Nat) from rfl, z_le (by omega) (by omega) (by omega) (by omega), z_in (by omega) (by omega), z_cl (by omega), z_mul, z_add, show ((101 : Nat) : Int) * m + k = ((101 * m + k : Nat) : Int) by omega, z_in (by omega) (by omega), z_cl (by omega), hy, h14, bi_0, bi_0, nar0, nar1, hnk]
      refine ⟨fun c => absurd c (by omega), fun _ => ⟨by omega, fun c => ⟨by omega, fun I4 e4 => fin true I4 ?_ e4⟩, fun c => ⟨by omega, fun c3 => ⟨by omega, fun I4 e4 => fin false I4 ?_ e4⟩, fun c3 => ⟨by omega, fun I4 e4 => fin true I4 ?_ e4⟩⟩⟩⟩
      · have c9 : (W k || bcs (nb w h sh a) K Y a m k) = true := Bool.of_not_eq_false c
        rw [c9]; rfl
      · rw [c, c3]; rfl
      · rw [show Y m k = true by simpa using c3, Bool.or_true]
  · rw [e1, u2_at]
    by_cases e : k = a
    · rw [if_pos e, e]
      simp [bcs, bi]
    · rw [if_neg e, hW k hk]
      simp [bcs, e]
end MW
