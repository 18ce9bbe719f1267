/-! THE REFERENCE: what its state says -/
def mN (I : tg_I) : Nat := (I 0 3).toNatClampNeg
def mNear (I : tg_I) (a b : Nat) : Bool := on (I 1 (100 * a + b))
def mMine (I : tg_I) (a : Nat) : Bool := on (I 2 a)
def mFlag (I : tg_I) (a : Nat) : Bool := on (I 4 a)
/-- what always holds: the number of cells, truth values where truth values belong, states 0, 1, 2 -/
def mOk (n : Nat) (I : tg_I) : Prop := I 0 3 = zI n ∧ 1 ≤ n ∧ n ≤ 100 ∧ (∀ k, is01 (I 1 k)) ∧ (∀ k, is01 (I 2 k)) ∧ (∀ k, is01 (I 4 k)) ∧ ∀ k, I 3 k = 0 ∨ I 3 k = 1 ∨ I 3 k = 2
section ML
variable {I : tg_I} {J : tg_J} {P : Option Value → tg_I → tg_J → Prop} {n : Nat}
theorem isNear_ok (ho : mOk n I) {a b : Nat} (ha : a < n) (hb : b < n) (hp : P (some (.int (bi (mNear I a b)))) I J) : call pgM zX9_isNear [.ref 0, .int (zI a), .int (zI b)] I J P := by
  obtain ⟨h1, h2, h3, h4, h5, h6, h7⟩ := ho
  refine e_X9_isNear _ _ ?_
  have e : (100 : Int32) * zI a + zI b = zI ((100 * a + b : Nat) : Int) := by
    rw [z_lit, z_mul, z_add]
    congr 1
    
  rw [e, z_in (by omega) (by omega), z_cl (by omega)]
  refine ⟨by omega, nrw01 (h4 _), ?_⟩
  rw [show I 1 (100 * a + b) = bi (mNear I a b) from (bi_on (h4 _)).symm]
  exact hp
theorem isCell_ok (ho : mOk n I) (x : Int32) (hp : P (some (.int (bi (decide (0 ≤ x.toInt ∧ x.toInt < n))))) I J) : call pgM zX9_isCell [.ref 0, .int x] I J P := by
  obtain ⟨h1, h2, h3, h4, h5, h6, h7⟩ := ho
  obtain ⟨z, z1, z2, rfl⟩ := z_of x
  refine e_X9_isCell _ ?_
  rw [z_toInt z1 z2] at hp
  rw [h1, z_0]
  simp (disch := omega) only [z_lt, z_le]
  refine ⟨fun h => ?_, fun h => ⟨fun h2 => ?_, fun h2 => ?_⟩⟩
  · rw [decide_eq_false (by omega)] at hp; exact hp
  · rw [decide_eq_false (by omega)] at hp; exact hp
  · rw [decide_eq_true (by omega)] at hp; exact hp
theorem mines_ok (ho : mOk n I) (hp : P (some (.int (zI (fb_ct (mMine I) n : Nat)))) I J) : call pgM zX9_mines [.ref 0] I J P := by
  obtain ⟨h1, h2, h3, h4, h5, h6, h7⟩ := ho
  refine e_X9_mines ?_
  have key := up_loop (L := fun k => l_X9_mines_4 I J P (zI (fb_ct (mMine I) k : Nat)) (zI k)) n ?_ ?_ 0 (Nat.zero_le _)
  · exact key
  · refine s_X9_mines_4 _ _ ⟨fun _ => hp, fun h => absurd ?_ h⟩
    rw [h1]; exact Int32.le_refl _
  · intro k hk ih
    refine s_X9_mines_4 _ _ ?_
    have hc := fb_ct_succ (mMine I) k
    rw [h1, z_le (by omega) (by omega) (by omega) (by omega), z_in (by omega) (by omega), z_cl (by omega)]
    refine ⟨fun h => absurd h (by omega), fun _ => ⟨by omega, fun h => ?_, fun h => ?_⟩⟩
    · rw [show mMine I k = false from on_f h] at hc
      rw [hc] at ih
      rw [z_lit, z_lit, z_add, z_add]
      exact ih
    · rw [show mMine I k = true from on_t h] at hc
      rw [hc] at ih
      rw [z_lit, z_add, z_add]
      exact ih
end ML
