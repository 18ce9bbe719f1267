/-! the class: listing a part of the border -/
def qF (f : Nat) (L : List Nat) (I : tg_I) : Prop := ∀ (j x : Nat), L[j]? = some x → I 31 (f + j) = zI x
def outP (I I' : tg_I) (J J' : tg_J) : Prop := ∀ q, q < 17 ∨ 39 ≤ q → I' q = I q ∧ J' q = J q
theorem outP.rf {I : tg_I} {J : tg_J} : outP I I J J := fun _ _ => ⟨rfl, rfl⟩
theorem outP.tr {I I1 I2 : tg_I} {J J1 J2 : tg_J} (h1 : outP I I1 J J1) (h2 : outP I1 I2 J1 J2) : outP I I2 J J2 := fun q hq => ⟨((h2 q hq).1).trans (h1 q hq).1, ((h2 q hq).2).trans (h1 q hq).2⟩
theorem outP.grid {I I1 : tg_I} {J J1 : tg_J} {b w h sh : Nat} (hb : isBd b) (h1 : outP I I1 J J1) (g : gridX b w h sh I J) : gridX b w h sh I1 J1 := by
  have hh : ∀ n, n ≤ 13 → b + n < 17 ∨ 39 ≤ b + n := fun n hn => by rcases hb with e | e <;> omega
  have e1 := (h1 (b + 1) (hh _ (by decide))).1
  have e4 := (h1 (b + 4) (hh _ (by decide))).1
  have e5 := (h1 (b + 5) (hh _ (by decide))).1
  have j2 := (h1 (b + 2) (hh _ (by decide))).2
  have j3 := (h1 (b + 3) (hh _ (by decide))).2
  unfold gridX xSz rowX rowB at *
  rw [e1, e4, e5, j2, j3]
  exact g
theorem outP.bst {I I1 : tg_I} {J J1 : tg_J} {b n : Nat} {M H B F : Nat → Bool} (hb : isBd b) (h1 : outP I I1 J J1) (v : bst b n M H B F J) : bst b n M H B F J1 := fun i hi => by
  have hh : ∀ n, n ≤ 13 → b + n < 17 ∨ 39 ≤ b + n := fun n hn => by rcases hb with e | e <;> omega
  have := v i hi
  rw [sB_of (h1 (b + 7) (hh _ (by decide))).2, sB_of (h1 (b + 8) (hh _ (by decide))).2, sB_of (h1 (b + 9) (hh _ (by decide))).2, sB_of (h1 (b + 10) (hh _ (by decide))).2, sB_of (h1 (b + 11) (hh _ (by decide))).2]
  exact this
theorem bits28 : isBits 28 := ⟨by decide, rfl⟩
/-- what listing changes: the border's set and the order behind a place -/
def oL (f : Nat) (I I' : tg_I) (J J' : tg_J) : Prop := (∀ q, q ≠ 31 → I' q = I q) ∧ (∀ j, j < f → I' 31 j = I 31 j) ∧ onlyJ 28 J J'
theorem oL.rf {f : Nat} {I : tg_I} {J : tg_J} : oL f I I J J := ⟨fun _ _ => rfl, fun _ _ => rfl, fun _ _ => rfl⟩
theorem oL.tr {f : Nat} {I I1 I2 : tg_I} {J J1 J2 : tg_J} (h1 : oL f I I1 J J1) (h2 : oL f I1 I2 J1 J2) : oL f I I2 J J2 := ⟨fun q x => (h2.1 q x).trans (h1.1 q x), fun q x => (h2.2.1 q x).trans (h1.2.1 q x), fun q x => (h2.2.2 q x).trans (h1.2.2 q x)⟩
theorem oL.out {f : Nat} {I I1 : tg_I} {J J1 : tg_J} (h1 : oL f I I1 J J1) : outP I I1 J J1 := fun q hq => ⟨h1.1 q (by omega), h1.2.2 q (by omega)⟩
section XL
variable {I : tg_I} {J : tg_J} {P : Option Value → tg_I → tg_J → Prop} {w h sh b : Nat} {M H B F : Nat → Bool}
theorem listAround_ok {o f : Nat} {L : List Nat} {E : Nat → Bool} (hb : isBd b) (gk : gOk w h sh) (g : gridX b w h sh I J) (v : bst b (w * h) M H B F J) (ho : o < w * h) (hE : ∀ i, i < 128 → sB J 28 i = E i) (hq : qF f L I) (hlen : f + (L ++ (nbl w h sh o).filter (fun y => H y && !E y)).length ≤ 100)
    (hp : ∀ I' J', oL f I I' J J' → (∀ i, i < 128 → sB J' 28 i = (E i || (nb w h sh o i && H i))) → qF f (L ++ (nbl w h sh o).filter (fun y => H y && !E y)) I' → P (some (.int (zI ((f + (L ++ (nbl w h sh o).filter (fun y => H y && !E y)).length : Nat) : Int)))) I' J') : call pgX zX5_listAround [.ref 17, .ref b, .int (zI o), .int (zI ((f + L.length : Nat) : Int))] I J P := by
  obtain ⟨hn1, hn2⟩ := mul_le100 gk
  obtain ⟨rl, rl8⟩ := row_len gk g ho
  refine e_X5_listAround _ _ _ hb ?_
  rw [z_in (by omega) (by omega), z_cl (by omega)]
  refine ⟨by omega, fun y1 e1 => ⟨by omega, fun y2 e2 => ⟨fun _ => ?_, fun c => ?_⟩⟩⟩
  · have hfl : ∀ i, (L ++ ((nbl w h sh o).take i).filter (fun y => H y && !E y)).length ≤ (L ++ (nbl w h sh o).filter (fun y => H y && !E y)).length := fun i => by
      rw [List.length_append, List.length_append]
      have := ((List.take_sublist i (nbl w h sh o)).filter (fun y => H y && !E y)).length_le
      omega
    have key := up_loop (L := fun i => ∀ I1 J1, oL f I I1 J J1 → (∀ x, x < 128 → sB J1 28 x = (E x || (decide (x ∈ (nbl w h sh o).take i) && H x))) → qF f (L ++ ((nbl w h sh o).take i).filter (fun y => H y && !E y)) I1 → l_X5_listAround_82 I1 J1 P b (zI o) (zI ((f + (L ++ ((nbl w h sh o).take i).filter (fun y => H y && !E y)).length : Nat) : Int)) (zI i)) (nbl w h sh o).length ?_ ?_ 0 (Nat.zero_le _) I J oL.rf (fun x hx => by rw [hE x hx]; simp) (by simpa using hq)
    · rw [show (0 : Int32) = zI ((0 : Nat) : Int) from rfl]
      simpa using key
    · intro I1 J1 o1 s1 q1
      refine s_X5_listAround_82 _ _ _ _ hb ?_
      rw [z_in (by omega) (by omega), z_cl (by omega), o1.1 (b + 5) (by rcases hb with e | e <;> omega), rl]
      rw [List.take_length] at s1 q1 ⊢
      refine ⟨by omega, fun _ => hp I1 J1 o1 (fun i hi => ?_) q1, fun c => absurd (Int32.le_refl _) c⟩
      rw [s1 i hi]
      congr 2
      cases e : nb w h sh o i
      · exact decide_eq_false (fun q => by rw [nbl_mem.mp q] at e; cases e)
      · exact decide_eq_true (nbl_mem.mpr e)
    · intro i hi ih I1 J1 o1 s1 q1
      have g1 := o1.out.grid hb g
      have v1 := o1.out.bst hb v
      have hcell := row_at gk g1 ho hi
      have hmem := getD_mem hi
      have hnin := getD_nin (nbl_nodup o) hi
      have hfi := hfl i
      have hfi1 := hfl (i + 1)
      rw [take_s hi] at ih hfi1
      generalize (nbl w h sh o).getD i 0 = y at *
      have hy := nb_lt (nbl_mem.mp hmem)
      refine s_X5_listAround_82 _ _ _ _ hb ?_
      rw [z_in (by omega) (by omega), z_cl (by omega), o1.1 (b + 5) (by rcases hb with e | e <;> omega), rl, z_le (by omega) (by omega) (by omega) (by omega), show (8 : Int32) = zI 8 from rfl, z_mul, z_add, z_in (by omega) (by omega), show (o : Int) * 8 + (i : Int) = ((8 * o + i : Nat) : Int) by omega, z_cl (by omega), hcell, z_s i]
      refine ⟨by omega, fun c => absurd c (by omega), fun _ => ⟨by omega, fun x1 ex => ?_⟩⟩
      rw [ex]
      have hs28 : sB J1 28 y = E y := by rw [s1 y (by omega), decide_eq_false hnin]; simp
      have same : (H y && !E y) = false → l_X5_listAround_82 I1 J1 P b (zI o) (zI ((f + (L ++ ((nbl w h sh o).take i).filter (fun y => H y && !E y)).length : Nat) : Int)) (zI ((i + 1 : Nat) : Int)) := fun hh => by
        have e2 : ((nbl w h sh o).take i ++ [y]).filter (fun y => H y && !E y) = ((nbl w h sh o).take i).filter (fun y => H y && !E y) := by
          rw [List.filter_append, List.filter_cons, if_neg (by simp [hh])]; simp
        rw [e2] at ih
        refine ih I1 J1 o1 (fun x hx => ?_) q1
        rw [s1 x hx]
        by_cases e : x = y
        · rw [e, decide_eq_false hnin, decide_eq_true (by simp)]
          cases e5 : E y
          · cases e6 : H y
            · rfl
            · rw [e5, e6] at hh; cases hh
          · rfl
        · congr 2
          apply decide_eq_decide.mpr
          simp [e]
      refine has_ok (bd_bits hb (by decide) (by decide)) (by omega) ⟨_, rfl, ?_⟩
      rw [(v1 y (by omega)).2.1, bi_0]
      refine ⟨fun c => same (by rw [c]; rfl), fun c => has_ok bits28 (by omega) ⟨_, rfl, ?_⟩⟩
      rw [hs28, bi_0]
      refine ⟨fun c2 => same (by rw [show E y = true by simpa using c2]; simp), fun c2 => ?_⟩
      have hh : (H y && !E y) = true := by rw [c2, show H y = true by simpa using c]; rfl
      have e2 : ((nbl w h sh o).take i ++ [y]).filter (fun y => H y && !E y) = ((nbl w h sh o).take i).filter (fun y => H y && !E y) ++ [y] := by
        rw [List.filter_append, List.filter_cons, if_pos hh]; rfl
      rw [e2, ← List.append_assoc, List.length_append, show [y].length = 1 from rfl] at ih hfi1
      rw [show (100 : Int32) = zI (100 : Nat) from rfl, z_le (by omega) (by omega) (by omega) (by omega), z_in (by omega) (by omega), z_cl (by omega), z_s]
      refine ⟨fun c3 => absurd c3 (by omega), fun _ => add_ok bits28 (by omega) (fun J2 oj sj => ⟨rfl, by omega, fun I2 eI => ?_⟩)⟩
      refine ih I2 J2 ⟨fun q hq => by rw [eI, u2_other _ _ _ _ hq]; exact o1.1 q hq, fun j hj => by rw [eI, u2_at, if_neg (by omega)]; exact o1.2.1 j hj, fun q hq => (oj q hq).trans (o1.2.2 q hq)⟩ (fun x hx => ?_) (fun j x hx => ?_)
      · rw [sj x hx, s1 x hx]
        by_cases e : x = y
        · rw [e, decide_eq_true rfl, decide_eq_true (show y ∈ List.take i (nbl w h sh o) ++ [y] by simp), show H y = true by simpa using c]
          simp
        · rw [decide_eq_false e, Bool.or_false]
          congr 2
          apply decide_eq_decide.mpr
          simp [e]
      · rw [eI, u2_at]
        by_cases e : j = (L ++ ((nbl w h sh o).take i).filter (fun y => H y && !E y)).length
        · rw [if_pos (by omega)]
          rw [e, List.getElem?_append_right (Nat.le_refl _)] at hx
          simp at hx
          rw [hx]
        · rw [if_neg (by omega)]
          have : j < (L ++ ((nbl w h sh o).take i).filter (fun y => H y && !E y)).length := by
            obtain ⟨hl, -⟩ := List.getElem?_eq_some_iff.mp hx
            rw [List.length_append, show [y].length = 1 from rfl] at hl
            omega
          rw [List.getElem?_append_left this] at hx
          exact q1 j x hx
  · rw [e1, e2, bh_or0] at c
    have hnone : ∀ i, nb w h sh o i = true → (H i && !E i) = false := fun i hn => by
      have hi := nb_lt hn
      have := c i (by omega)
      rw [bh_and, bh_and, bh_not _ _ (by omega)] at this
      have e3 : bh (J (b + 2) o) (J (b + 3) o) i = true := by rw [← hn]; exact row_nb g ho (by omega)
      have e4 : bh (J (b + 8) 0) (J (b + 8) 1) i = H i := (v i (by omega)).2.1
      have e5 : bh (J 28 0) (J 28 1) i = E i := hE i (by omega)
      rw [e3, e4, e5, Bool.true_and] at this
      exact this
    have e2 : (nbl w h sh o).filter (fun y => H y && !E y) = [] := List.filter_eq_nil_iff.mpr (fun x hx => by rw [hnone x (nbl_mem.mp hx)]; simp)
    rw [e2, List.append_nil] at hp
    refine hp I J oL.rf (fun i hi => ?_) hq
    rw [hE i hi]
    cases e : nb w h sh o i
    · simp
    · have := hnone i e
      cases e5 : E i
      · cases e6 : H i
        · rfl
        · rw [e5, e6] at this; cases this
      · rfl
end XL
