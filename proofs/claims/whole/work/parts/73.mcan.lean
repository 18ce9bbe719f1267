/-! the reference: what a cell can be; choices -/
/-- some sum leaves so many mines as so many cells have room for -/
def rea (T : Nat → Nat) (mm l : Int) : Prop := ∃ s : Nat, s ≤ 100 ∧ 0 < T s ∧ 0 ≤ mm - s ∧ mm - s ≤ l
def mlN (n : Nat) (M H : Nat → Bool) : Nat := fb_ct (fun i => H i && M i) n
theorem ml_eq {n : Nat} {M H B F : Nat → Bool} (oS : okS n M H B F) : fb_ct M n = fb_ct B n + mlN n M H := by
  unfold mlN
  rw [← fb_ct_or (fun k hk q => by
    simp only [Bool.and_eq_true] at q
    have := oS.2.2.1 k q.2.1
    rw [q.1] at this; cases this)]
  refine fb_ct_cong (fun k hk => ?_)
  cases e2 : H k
  · cases e3 : B k
    · simp [oS.2.2.2.2 k hk e2 e3]
    · simp [oS.2.2.2.1 k e3]
  · simp [oS.2.2.1 k e2]
section MC
variable {I : tg_I} {J : tg_J} {P : Option Value → tg_I → tg_J → Prop} {w h sh : Nat} {M H B F : Nat → Bool}
theorem mineLeft_ok (gk : gOk w h sh) (hm : mst w h sh M H B F I) (oS : okS (w * h) M H B F) (hp : P (some (.int (zI (mlN (w * h) M H : Nat)))) I J) : call pgM zX9_mineLeft [.ref 0] I J P := by
  refine e_X9_mineLeft (mmines_ok gk hm ⟨_, rfl, minState_ok gk hm 2 ⟨_, rfl, ?_⟩⟩)
  have h1 := ml_eq oS
  rw [ct_sc2 oS.2.2.1, z_sub, h1]
  rw [show ((fb_ct B (w * h) + mlN (w * h) M H : Nat) : Int) - (fb_ct B (w * h) : Nat) = (mlN (w * h) M H : Nat) by omega]
  exact hp
theorem cb29 {T : Nat → Nat} (hT : ∀ s, s ≤ 100 → J 20 s = lN (T s)) (hT2 : ∀ s, T s < PP) {ml ins : Nat} (hml : ml ≤ 100) (hins : ins ≤ 100) (h27 : I 0 27 = zI ins) (v : Bool) (hp : ∀ r : Bool, (r = true ↔ rea T ((ml : Int) - (if v then 1 else 0)) ((ins : Int) - 1)) → P (some (.int (bi r))) I J) : l_X9_canBe_29 I J P (bi v) (zI ml) 0 0 := by
  have hbv : bi v = zI (if v then 1 else 0) := by cases v <;> rfl
  have hPP : PP = 1000000007 := rfl
  have hv01 : (0 : Int) ≤ (if v then 1 else 0) ∧ (if v then 1 else 0 : Int) ≤ 1 := by cases v <;> simp
  generalize (if v then 1 else 0 : Int) = vv at *
  have key := up_loop (L := fun k => ∀ r : Bool, (r = true ↔ ∃ s : Nat, s < k ∧ 0 < T s ∧ 0 ≤ (ml : Int) - vv - s ∧ (ml : Int) - vv - s ≤ (ins : Int) - 1) → l_X9_canBe_29 I J P (bi v) (zI ml) (bi r) (zI k)) 101 ?_ ?_ 0 (Nat.zero_le _) false ⟨fun q => (by cases q), fun q => by obtain ⟨s, s1, -⟩ := q; exact absurd s1 (by omega)⟩
  · exact key
  · intro r hr
    refine s_X9_canBe_29 _ _ _ _ ⟨fun _ => ⟨nrw01 (bi01 r), hp r ?_⟩, fun c => absurd (by decide) c⟩
    rw [hr]
    unfold rea
    constructor
    · rintro ⟨s, a, b⟩; exact ⟨s, by omega, b⟩
    · rintro ⟨s, a, b⟩; exact ⟨s, by omega, b⟩
  · intro k hk ih r hr
    have hTk := hT2 k
    have go : ∀ r' : Bool, (r' = true ↔ r = true ∨ (0 < T k ∧ 0 ≤ (ml : Int) - vv - k ∧ (ml : Int) - vv - k ≤ (ins : Int) - 1)) → l_X9_canBe_29 I J P (bi v) (zI ml) (bi r') (zI ((k + 1 : Nat) : Int)) := fun r' h' => ih r' (by
      rw [h', hr]
      constructor
      · rintro (⟨s, a, b⟩ | b)
        · exact ⟨s, by omega, b⟩
        · exact ⟨k, by omega, b⟩
      · rintro ⟨s, a, b⟩
        by_cases e : s = k
        · right; rw [← e]; exact b
        · exact Or.inl ⟨s, by omega, b⟩)
    refine s_X9_canBe_29 _ _ _ _ ?_
    rw [show (100 : Int32) = zI (100 : Nat) from rfl, z_lt (by omega) (by omega) (by omega) (by omega), bi_0, z_in (by omega) (by omega), z_cl (by omega), hT k (by omega), cmp_le0 (by omega), h27, hbv, z_sub, z_sub, show (0 : Int32) = zI 0 from rfl, z_lt (by omega) (by omega) (by omega) (by omega), show (1 : Int32) = zI 1 from rfl, z_sub, z_lt (by omega) (by omega) (by omega) (by omega), ← hbv, show zI (1 : Int) = bi true from rfl, show zI (0 : Int) = bi false from rfl, show zI (k : Int) + bi true = zI ((k + 1 : Nat) : Int) from z_s k]
    refine ⟨fun c => absurd c (by omega), fun _ => ⟨fun c => go true ⟨fun _ => Or.inl (by simpa using c), fun _ => rfl⟩, fun c => ⟨by omega, fun c1 => go false ⟨fun q => (by cases q), fun q => by rcases q with q | q; rw [c] at q; exact q; omega⟩, fun c1 => ⟨fun c2 => go false ⟨fun q => (by cases q), fun q => by rcases q with q | q; rw [c] at q; exact q; omega⟩, fun c2 => ⟨fun c3 => go false ⟨fun q => (by cases q), fun q => by rcases q with q | q; rw [c] at q; exact q; omega⟩, fun c3 => go true ⟨fun _ => Or.inr ⟨by omega, by omega, by omega⟩, fun _ => rfl⟩⟩⟩⟩⟩⟩
theorem cb107 {T : Nat → Nat} {Wp Za : Nat → Nat} {p a : Nat} (hp100 : p < 100) (ha : a < 100) (hW : ∀ m, m < 13 → J 18 (13 * p + m) = lN (Wp m) ∧ J 19 (13 * a + m) = lN (Za m) ∧ Za m ≤ Wp m ∧ Wp m ≤ 2 ^ 14) (hT : ∀ s, s ≤ 100 → J 20 s = lN (T s)) (hT2 : ∀ s, T s < PP) {ml ins : Nat} (hml : ml ≤ 100) (hins : ins ≤ 100) (h27 : I 0 27 = zI ins) (v : Bool) {k : Nat} (hk : k ≤ 100) (r : Bool)
    (hp : ∀ r' : Bool, (r' = true ↔ r = true ∨ ∃ m : Nat, m < 13 ∧ 0 < T k ∧ 0 < (if v then Za m else Wp m - Za m) ∧ 0 ≤ (ml : Int) - k - m ∧ (ml : Int) - k - m ≤ (ins : Int)) → l_X9_canBe_97 I J P (zI a) (bi v) (zI p) (zI ml) (bi r') (zI ((k + 1 : Nat) : Int))) : l_X9_canBe_107 I J P (zI a) (bi v) (zI p) (zI ml) (bi r) (zI k) 0 := by
  have hPP : PP = 1000000007 := rfl
  have hTk := hT2 k
  have key := up_loop (L := fun j => ∀ r1 : Bool, (r1 = true ↔ r = true ∨ ∃ m : Nat, m < j ∧ 0 < T k ∧ 0 < (if v then Za m else Wp m - Za m) ∧ 0 ≤ (ml : Int) - k - m ∧ (ml : Int) - k - m ≤ (ins : Int)) → l_X9_canBe_107 I J P (zI a) (bi v) (zI p) (zI ml) (bi r1) (zI k) (zI j)) 13 ?_ ?_ 0 (Nat.zero_le _) r ⟨fun q => Or.inl q, fun q => by rcases q with q | ⟨m, m1, -⟩; exact q; exact absurd m1 (by omega)⟩
  · exact key
  · intro r1 h1
    refine s_X9_canBe_107 _ _ _ _ _ _ _ ⟨fun _ => ?_, fun c => absurd (Int32.le_refl _) c⟩
    rw [z_s]
    exact hp r1 h1
  · intro j hj ih r1 h1
    obtain ⟨w1, w2, w3, w4⟩ := hW j hj
    have go : ∀ r' : Bool, (r' = true ↔ r1 = true ∨ (0 < T k ∧ 0 < (if v then Za j else Wp j - Za j) ∧ 0 ≤ (ml : Int) - k - j ∧ (ml : Int) - k - j ≤ (ins : Int))) → l_X9_canBe_107 I J P (zI a) (bi v) (zI p) (zI ml) (bi r') (zI k) (zI ((j + 1 : Nat) : Int)) := fun r' h' => ih r' (by
      rw [h', h1]
      constructor
      · rintro ((q | ⟨s, a, b⟩) | b)
        · exact Or.inl q
        · exact Or.inr ⟨s, by omega, b⟩
        · exact Or.inr ⟨j, by omega, b⟩
      · rintro (q | ⟨s, a, b⟩)
        · exact Or.inl (Or.inl q)
        · by_cases e : s = j
          · right; rw [← e]; exact b
          · exact Or.inl (Or.inr ⟨s, by omega, b⟩))
    have body : ∀ wv : Nat, wv ≤ 2 ^ 14 → wv = (if v then Za j else Wp j - Za j) → ((¬ r1 = false → l_X9_canBe_107 I J P (zI a) (bi v) (zI p) (zI ml) (bi true) (zI k) (zI ((j + 1 : Nat) : Int))) ∧ (r1 = false → (0 ≤ (k : Int) ∧ (k : Int) < ((201 : Nat) : Int)) ∧ ((T k = 0 → l_X9_canBe_107 I J P (zI a) (bi v) (zI p) (zI ml) (bi false) (zI k) (zI ((j + 1 : Nat) : Int))) ∧ (¬ T k = 0 → (wv = 0 → l_X9_canBe_107 I J P (zI a) (bi v) (zI p) (zI ml) (bi false) (zI k) (zI ((j + 1 : Nat) : Int))) ∧ (¬ wv = 0 → ((ml : Int) - k - j < 0 → l_X9_canBe_107 I J P (zI a) (bi v) (zI p) (zI ml) (bi false) (zI k) (zI ((j + 1 : Nat) : Int))) ∧ (¬ (ml : Int) - k - j < 0 → ((ins : Int) < (ml : Int) - k - j → l_X9_canBe_107 I J P (zI a) (bi v) (zI p) (zI ml) (bi false) (zI k) (zI ((j + 1 : Nat) : Int))) ∧ (¬ (ins : Int) < (ml : Int) - k - j → l_X9_canBe_107 I J P (zI a) (bi v) (zI p) (zI ml) (bi true) (zI k) (zI ((j + 1 : Nat) : Int))))))))) := fun wv hw ew => by
      rw [← ew] at go
      exact ⟨fun c => go true ⟨fun _ => Or.inl (by simpa using c), fun _ => rfl⟩, fun c => ⟨by omega, fun c1 => go false ⟨fun q => (by cases q), fun q => by rcases q with q | q; rw [c] at q; exact q; omega⟩, fun c1 => ⟨fun c2 => go false ⟨fun q => (by cases q), fun q => by rcases q with q | q; rw [c] at q; exact q; omega⟩, fun c2 => ⟨fun c3 => go false ⟨fun q => (by cases q), fun q => by rcases q with q | q; rw [c] at q; exact q; omega⟩, fun c3 => ⟨fun c4 => go false ⟨fun q => (by cases q), fun q => by rcases q with q | q; rw [c] at q; exact q; omega⟩, fun c4 => go true ⟨fun _ => Or.inr ⟨by omega, by omega, by omega, by omega⟩, fun _ => rfl⟩⟩⟩⟩⟩⟩
    refine s_X9_canBe_107 _ _ _ _ _ _ _ ?_
    have hbv : bi v = (1 : Int32) ↔ v = true := by cases v <;> decide
    rw [show (13 : Int32) = zI (13 : Nat) from rfl, z_le (by omega) (by omega) (by omega) (by omega), hbv, bi_0, z_in (by omega) (by omega), z_cl (by omega), hT k hk, cmp_le0 (by omega), h27, z_mul, z_mul, z_add, z_add, show ((13 : Nat) : Int) * (p : Int) + (j : Int) = ((13 * p + j : Nat) : Int) by omega, show ((13 : Nat) : Int) * (a : Int) + (j : Int) = ((13 * a + j : Nat) : Int) by omega, z_in (by omega) (by omega), z_cl (by omega), z_in (by omega) (by omega), z_cl (by omega), w1, w2, z_sub, z_sub, show (0 : Int32) = zI 0 from rfl, z_lt (by omega) (by omega) (by omega) (by omega), z_lt (by omega) (by omega) (by omega) (by omega), show zI (0 : Int) = bi false from rfl, show (1 : Int32) = bi true from rfl, show zI (j : Int) + bi true = zI ((j + 1 : Nat) : Int) from z_s j, lN_sub w3]
    refine ⟨fun c => absurd c (by omega), fun _ => ⟨fun cv => ⟨by omega, by omega, fun y1 e1 => ?_⟩, fun cv => ⟨by omega, fun y1 e1 => ?_⟩⟩⟩
    · rw [e1, show bi false = (0 : Int32) from rfl, cmp_le0 (by omega)]
      exact body (Wp j - Za j) (by omega) (by rw [if_neg (by simpa using cv)])
    · rw [e1, show bi false = (0 : Int32) from rfl, cmp_le0 (by omega)]
      exact body (Za j) (by omega) (by rw [if_pos cv])
end MC
