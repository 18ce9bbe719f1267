/-! the class: the cells and numbers of a search -/
/-- places of a list as bits -/
def bset (d : Nat) (A : List Nat) (f : Nat → Bool) (x : Int32) : Prop := ∀ j, j < 32 → bt x j = (decide (j < d) && f (A.getD j 0))
theorem bt_one {d j : Nat} (hd : d < 32) (hj : j < 32) : bt ((1 : Int32) <<< (zI d &&& 31)) j = decide (j = d) := by
  rw [z_nat, b_shl d hd 1 hj]
  by_cases e : d ≤ j
  · rw [decide_eq_true e, Bool.true_and]
    by_cases e2 : j = d
    · rw [e2, Nat.sub_self, decide_eq_true rfl]; decide
    · rw [decide_eq_false e2]
      have h1 : ∀ i, i < 32 → i ≠ 0 → bt 1 i = false := by decide +kernel
      exact h1 (j - d) (by omega) (by omega)
  · rw [decide_eq_false e, decide_eq_false (by omega)]; rfl
theorem bt_not (x : Int32) {j : Nat} (hj : j < 32) : bt (x ^^^ (-1)) j = !bt x j := by rw [b_xor, b_m1 j hj, Bool.xor_true]
theorem bt_test (x : Int32) {d : Nat} (hd : d < 32) : ((x.toUInt32 >>> ((zI d).toUInt32 &&& Int32.toUInt32 31)).toInt32 &&& 1) = 1 ↔ bt x d = true := by
  rw [z_nat]
  have h0 := b_ushr d hd x 0
  have h1 : ∀ j, j < 32 → bt 1 j = decide (j = 0) := by decide +kernel
  constructor
  · intro q
    have := congrArg (fun z => bt z 0) q
    simp only [b_and, h0, h1 0 (by decide)] at this
    simpa using this
  · intro q
    refine b_ext (fun j hj => ?_)
    rw [b_and, h1 j hj]
    by_cases e : j = 0
    · subst e
      rw [h0, decide_eq_true rfl, Nat.add_zero, q]; rfl
    · rw [decide_eq_false e, Bool.and_false]
theorem bset_set {d : Nat} {A : List Nat} {f g : Nat → Bool} {x : Int32} (hd : d < 32) (hx : bset (d + 1) A f x) (h1 : ∀ j, j < d → g (A.getD j 0) = f (A.getD j 0)) (h2 : g (A.getD d 0) = true) : bset (d + 1) A g (x ||| ((1 : Int32) <<< (zI d &&& 31))) := fun j hj => by
  rw [b_or, hx j hj, bt_one hd hj]
  by_cases e : j = d
  · rw [e, h2, decide_eq_true rfl, decide_eq_true (by omega)]; simp
  · rw [decide_eq_false e, Bool.or_false]
    by_cases e2 : j < d
    · rw [h1 j e2]
    · rw [decide_eq_false (by omega)]; rfl
theorem bset_clear {d : Nat} {A : List Nat} {f g : Nat → Bool} {x : Int32} (hd : d < 32) (hx : bset (d + 1) A f x) (h1 : ∀ j, j < d → g (A.getD j 0) = f (A.getD j 0)) : bset d A g (x &&& (((1 : Int32) <<< (zI d &&& 31)) ^^^ (-1))) := fun j hj => by
  rw [b_and, bt_not _ hj, hx j hj, bt_one hd hj]
  by_cases e : j < d
  · rw [h1 j e, decide_eq_true e, decide_eq_true (by omega), decide_eq_false (by omega)]; simp
  · rw [decide_eq_false e]
    by_cases e2 : j = d
    · rw [decide_eq_true e2]; simp
    · rw [decide_eq_false (show ¬ j < d + 1 by omega)]; simp
theorem bset_grow {d : Nat} {A : List Nat} {f g : Nat → Bool} {x : Int32} (hx : bset d A f x) (h1 : ∀ j, j < d → g (A.getD j 0) = f (A.getD j 0)) (h2 : g (A.getD d 0) = false) : bset (d + 1) A g x := fun j hj => by
  rw [hx j hj]
  by_cases e : j < d
  · rw [h1 j e, decide_eq_true e, decide_eq_true (by omega)]
  · by_cases e2 : j = d
    · rw [e2, h2]; simp
    · rw [decide_eq_false e, decide_eq_false (by omega)]; rfl
theorem bset_cong {d : Nat} {A : List Nat} {f g : Nat → Bool} {x : Int32} (hx : bset d A f x) (h1 : ∀ j, j < d → g (A.getD j 0) = f (A.getD j 0)) : bset d A g x := fun j hj => by
  rw [hx j hj]
  by_cases e : j < d
  · rw [h1 j e]
  · rw [decide_eq_false e]; rfl
theorem cp_idx (p : Nat → Bool) : ∀ (d : Nat) (A : List Nat), d ≤ A.length → (A.take d).countP p = fb_ct (fun j => p (A.getD j 0)) d
  | 0, A, _ => rfl
  | d + 1, A, h => by
    rw [take_s (by omega), List.countP_append, cp_idx p d A (by omega), List.countP_singleton, fb_ct_succ]
theorem bset_ct {d : Nat} {A : List Nat} {f : Nat → Bool} {x : Int32} (hd : d ≤ A.length) (hd2 : d ≤ 32) (hx : bset d A f x) : fb_ct (bt x) 32 = (A.take d).countP f := by
  rw [cp_idx f d A hd, ct_ext hd2 (p := bt x) (fun k h1 h2 => by rw [hx k (by omega), decide_eq_false (by omega)]; rfl)]
  exact fb_ct_cong (fun k hk => by rw [hx k (by omega), decide_eq_true hk]; rfl)
/-- the cells of a search -/
def srA (A : List Nat) (I : tg_I) : Prop := I 20 7 = zI A.length ∧ ∀ k, k < A.length → I 21 k = zI (A.getD k 0)
/-- the numbers of a search -/
def rl (w h sh : Nat) (N : Nat → Bool) (c : Nat) : List Nat := (nbl w h sh c).filter N
def srR (w h sh : Nat) (M B N : Nat → Bool) (A : List Nat) (I : tg_I) : Prop := (∀ k, k < A.length → I 23 k = zI (rl w h sh N (A.getD k 0)).length ∧ ∀ i, i < (rl w h sh N (A.getD k 0)).length → I 22 (8 * k + i) = zI ((rl w h sh N (A.getD k 0)).getD i 0)) ∧ ∀ o, N o = true → (∃ x, x ∈ A ∧ nb w h sh x o = true) → bset A.length A (fun x => nb w h sh x o) (I 24 o) ∧ I 25 o = zI ((nin w h sh M o : Nat) - (nin w h sh B o : Nat))
def oR (I I' : tg_I) : Prop := ∀ q, q ≠ 22 → q ≠ 23 → q ≠ 24 → q ≠ 25 → I' q = I q
theorem oR.out {I I' : tg_I} {J : tg_J} (o : oR I I') : outP I I' J J := fun q hq => ⟨o q (by omega) (by omega) (by omega) (by omega), rfl⟩
section XB
variable {I : tg_I} {J : tg_J} {P : Option Value → tg_I → tg_J → Prop} {w h sh b k2 : Nat} {M H B F N : Nat → Bool} {A : List Nat}
theorem bind8 (hb : isBd b) (hk2 : isBits k2) (gk : gOk w h sh) (g : gridX b w h sh I J) (hA : ∀ x, x ∈ A → x < w * h) (hl : A.length ≤ 14) (sA : srA A I) (hp : ∀ I', (∀ q, q ≠ 24 → I' q = I q) → (∀ o, (∃ x, x ∈ A ∧ nb w h sh x o = true) → I' 24 o = 0) → l_X7_bind_80 I' J P b k2 0) : l_X7_bind_8 I J P b k2 0 := by
  obtain ⟨hn1, hn2⟩ := mul_le100 gk
  have key := up_loop (L := fun k => ∀ I1, (∀ q, q ≠ 24 → I1 q = I q) → (∀ o, (∃ j, j < k ∧ nb w h sh (A.getD j 0) o = true) → I1 24 o = 0) → l_X7_bind_8 I1 J P b k2 (zI k)) A.length ?_ ?_ 0 (Nat.zero_le _) I (fun _ _ => rfl) (fun o q => by obtain ⟨j, hj, -⟩ := q; exact absurd hj (by omega))
  · exact key
  · intro I1 o1 z1
    refine s_X7_bind_8 _ _ _ hb hk2 ⟨fun _ => hp I1 o1 (fun o q => ?_), fun c => absurd (by rw [o1 20 (by decide), sA.1]; exact Int32.le_refl _) c⟩
    obtain ⟨x, hx, hn⟩ := q
    obtain ⟨j, hj⟩ := List.getElem?_of_mem hx
    have hjl := (List.getElem?_eq_some_iff.mp hj).1
    exact z1 o ⟨j, hjl, by rw [List.getD_eq_getElem?_getD, hj]; exact hn⟩
  · intro k hk ih I1 o1 z1
    have hc := hA _ (getD_mem hk)
    have hcell := sA.2 k hk
    generalize hcc : A.getD k 0 = c at *
    have g1 : gridX b w h sh I1 J := outP.grid (I := I) (J := J) hb (fun q hq => ⟨o1 q (by omega), rfl⟩) g
    obtain ⟨rl, rl8⟩ := row_len gk g1 hc
    refine s_X7_bind_8 _ _ _ hb hk2 ?_
    rw [o1 20 (by decide), o1 21 (by decide), sA.1, z_le (by omega) (by omega) (by omega) (by omega), z_in (by omega) (by omega), z_cl (by omega), hcell]
    refine ⟨fun q => absurd q (by omega), fun _ => ⟨by omega, fun x1 ex => ?_⟩⟩
    rw [show (8 : Int32) = zI 8 from rfl, z_mul] at ex
    rw [ex]
    have key2 := up_loop (L := fun i => ∀ I2, (∀ q, q ≠ 24 → I2 q = I q) → (∀ o, (∃ j, j < k ∧ nb w h sh (A.getD j 0) o = true) ∨ o ∈ (nbl w h sh c).take i → I2 24 o = 0) → l_X7_bind_32 I2 J P b k2 (zI k) (zI ((c : Int) * 8)) (zI i)) (nbl w h sh c).length ?_ ?_ 0 (Nat.zero_le _) I1 o1 (fun o q => by rcases q with q | q; exact z1 o q; simp at q)
    · exact key2
    · intro I2 o2 z2
      refine s_X7_bind_32 _ _ _ _ _ hb hk2 ?_
      have r2 : I2 (b + 5) c = zI (nbl w h sh c).length := by rw [o2 (b + 5) (by rcases hb with e | e <;> omega), ← o1 (b + 5) (by rcases hb with e | e <;> omega)]; exact rl
      rw [o2 21 (by decide), z_in (by omega) (by omega), z_cl (by omega), hcell, z_in (by omega) (by omega), z_cl (by omega), r2, z_s]
      refine ⟨by omega, by omega, fun _ => ih I2 o2 (fun o q => z2 o ?_), fun q => absurd (Int32.le_refl _) q⟩
      obtain ⟨j, hj, hn⟩ := q
      by_cases e : j = k
      · right
        rw [e, hcc] at hn
        rw [List.take_length]
        exact nbl_mem.mpr hn
      · exact Or.inl ⟨j, by omega, hn⟩
    · intro i hi ih2 I2 o2 z2
      have r2 : I2 (b + 5) c = zI (nbl w h sh c).length := by rw [o2 (b + 5) (by rcases hb with e | e <;> omega), ← o1 (b + 5) (by rcases hb with e | e <;> omega)]; exact rl
      have hat := row_at gk g hc hi
      have hmem := getD_mem hi
      rw [take_s hi] at ih2
      generalize (nbl w h sh c).getD i 0 = y at *
      have hy := nb_lt (nbl_mem.mp hmem)
      refine s_X7_bind_32 _ _ _ _ _ hb hk2 ?_
      rw [o2 21 (by decide), z_in (by omega) (by omega), z_cl (by omega), hcell, z_in (by omega) (by omega), z_cl (by omega), r2, z_le (by omega) (by omega) (by omega) (by omega), z_add, z_in (by omega) (by omega), show (c : Int) * 8 + (i : Int) = ((8 * c + i : Nat) : Int) by omega, z_cl (by omega), o2 (b + 4) (by rcases hb with e | e <;> omega), hat, z_in (by omega) (by omega), z_cl (by omega), z_s i]
      refine ⟨by omega, by omega, fun q => absurd q (by omega), fun _ => ⟨by omega, by omega, fun I3 e3 => ih2 I3 (fun q hq => by rw [e3, u2_other _ _ _ _ hq]; exact o2 q hq) (fun o q => ?_)⟩⟩
      rw [e3, u2_at]
      by_cases e : o = y
      · rw [if_pos e]
      · rw [if_neg e]
        refine z2 o ?_
        rcases q with q | q
        · exact Or.inl q
        · rcases List.mem_append.mp q with q | q
          · exact Or.inr q
          · exact absurd (List.mem_singleton.mp q) e
end XB
