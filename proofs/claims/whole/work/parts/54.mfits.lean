/-! the reference: whether a part's cells, as far as tried, fit -/
/-- what the cells of a list are tried as: the first k as f says, the others not yet -/
def trd (A : List Nat) (k : Nat) (f : Nat → Bool) (I : tg_I) : Prop := (∀ x, x ∈ A.take k → I 17 x = bi (f x)) ∧ ∀ x, x ∈ A.drop k → I 17 x = -1
/-- a list of hidden cells that has all hidden neighbours of the numbers N that it touches -/
def ptL (n : Nat) (nbr : Nat → Nat → Bool) (H N : Nat → Bool) (A : List Nat) : Prop := A.Nodup ∧ (∀ x, x ∈ A → x < n ∧ H x = true) ∧ ∀ o x y, o < n → N o = true → x ∈ A → nbr x o = true → y < n → H y = true → nbr o y = true → y ∈ A
theorem nin_list {w h sh : Nat} {H N S : Nat → Bool} {A : List Nat} (hA : ptL (w * h) (nb w h sh) H N A) {o c : Nat} (ho : o < w * h) (hN : N o = true) (hc : c ∈ A) (hn : nb w h sh c o = true) : nin w h sh (fun i => H i && S i) o = A.countP (fun x => nb w h sh o x && S x) := by
  rw [cp_ct (n := w * h) A hA.1 (fun x hx => (hA.2.1 x hx).1)]
  unfold nin
  refine fb_ct_cong (fun x hx => ?_)
  cases e1 : nb w h sh o x
  · simp
  · cases e2 : H x
    · rw [decide_eq_false (fun q => by have := (hA.2.1 x q).2; rw [e2] at this; cases this)]
      simp [e2]
    · rw [decide_eq_true (hA.2.2 o c x ho hN hc hn hx e2 e1)]
      simp [e2]
theorem nin_due {w h sh : Nat} {M H B F : Nat → Bool} (oS : okS (w * h) M H B F) (o : Nat) : nin w h sh M o = nin w h sh B o + nin w h sh (fun i => H i && M i) o := by
  unfold nin
  rw [← fb_ct_or (fun k hk q => by
    simp only [Bool.and_eq_true] at q
    have := oS.2.2.1 k q.2.2.1
    rw [q.1.2] at this; cases this)]
  refine fb_ct_cong (fun k hk => ?_)
  cases e1 : nb w h sh o k
  · rfl
  · cases e2 : H k
    · cases e3 : B k
      · simp [oS.2.2.2.2 k hk e2 e3]
      · simp [oS.2.2.2.1 k e3]
    · simp [oS.2.2.1 k e2, e2]
section MF
variable {I : tg_I} {J : tg_J} {P : Option Value → tg_I → tg_J → Prop} {w h sh : Nat} {M H B F : Nat → Bool}
theorem mfits48 (gk : gOk w h sh) (hm : mst w h sh M H B F I) {c o : Nat} (ho : o < w * h) {T1 Tm : Nat → Bool} (hT : ∀ x, x < w * h → nb w h sh o x = true → H x = true → (I 17 x = -1 ∧ T1 x = false ∧ Tm x = true) ∨ (I 17 x = 0 ∧ T1 x = false ∧ Tm x = false) ∨ (I 17 x = 1 ∧ T1 x = true ∧ Tm x = false)) {L0 : Int} (hL0 : -8 ≤ L0 ∧ L0 ≤ 8)
    (hp0 : ¬ (0 ≤ L0 - (nin w h sh (fun i => H i && T1 i) o : Nat) ∧ L0 - (nin w h sh (fun i => H i && T1 i) o : Nat) ≤ (nin w h sh (fun i => H i && Tm i) o : Nat)) → P (some (.int 0)) I J)
    (hp1 : (0 ≤ L0 - (nin w h sh (fun i => H i && T1 i) o : Nat) ∧ L0 - (nin w h sh (fun i => H i && T1 i) o : Nat) ≤ (nin w h sh (fun i => H i && Tm i) o : Nat)) → l_X9_fits_2 I J P (zI c) (zI ((o + 1 : Nat) : Int))) :
    l_X9_fits_48 I J P (zI c) (zI o) (zI L0) 0 0 := by
  obtain ⟨hn1, hn2⟩ := mul_le100 gk
  have h8 := nin_le (w := w) (h := h) (sh := sh) (fun i => H i && T1 i) o
  have h9 := nin_le (w := w) (h := h) (sh := sh) (fun i => H i && Tm i) o
  have hox : zI (o : Int) + 1 = zI ((o + 1 : Nat) : Int) := by rw [show (1 : Int32) = zI 1 from rfl, z_add]; rfl
  have key := up_loop (L := fun k => l_X9_fits_48 I J P (zI c) (zI o) (zI (L0 - (fb_ct (fun i => nb w h sh o i && (H i && T1 i)) k : Nat))) (zI (fb_ct (fun i => nb w h sh o i && (H i && Tm i)) k : Nat)) (zI k)) (w * h) ?_ ?_ 0 (Nat.zero_le _)
  · simp only [show fb_ct (fun i => nb w h sh o i && (H i && T1 i)) 0 = 0 from rfl, show fb_ct (fun i => nb w h sh o i && (H i && Tm i)) 0 = 0 from rfl] at key
    rw [show L0 - ((0 : Nat) : Int) = L0 by omega] at key
    exact key
  · refine s_X9_fits_48 _ _ _ _ _ ⟨fun _ => ?_, fun c => absurd (by rw [hm.1.2.2.2]; exact Int32.le_refl _) c⟩
    have e1 : fb_ct (fun i => nb w h sh o i && (H i && T1 i)) (w * h) = nin w h sh (fun i => H i && T1 i) o := rfl
    have e2 : fb_ct (fun i => nb w h sh o i && (H i && Tm i)) (w * h) = nin w h sh (fun i => H i && Tm i) o := rfl
    rw [e1, e2, show (0 : Int32) = zI 0 from rfl, z_lt (by omega) (by omega) (by omega) (by omega), z_le (by omega) (by omega) (by omega) (by omega), hox]
    exact ⟨fun c => hp0 (by omega), fun c => ⟨fun c2 => hp1 (by omega), fun c2 => hp0 (by omega)⟩⟩
  · intro k hk ih
    have hnx : zI (k : Int) + 1 = zI ((k + 1 : Nat) : Int) := by rw [show (1 : Int32) = zI 1 from rfl, z_add]; rfl
    rw [fb_ct_succ, fb_ct_succ] at ih
    refine s_X9_fits_48 _ _ _ _ _ ?_
    rw [hm.1.2.2.2, z_le (by omega) (by omega) (by omega) (by omega), z_in (by omega) (by omega), z_cl (by omega), hnx]
    refine ⟨fun c => absurd c (by omega), fun _ => mnear_ok gk hm ho hk ⟨_, rfl, ?_⟩⟩
    rw [bi_0, (hm.2.2 k (by omega)).2.1, sc_0 hk]
    refine ⟨fun c => ?_, fun c => ⟨by omega, fun c1 => ?_, fun c1 => ⟨by omega, ?_⟩⟩⟩
    · simp only [c, Bool.false_and, Bool.false_eq_true, if_false, Nat.add_zero] at ih
      exact ih
    · simp only [show H k = false by simpa using c1, Bool.false_and, Bool.and_false, Bool.false_eq_true, if_false, Nat.add_zero] at ih
      exact ih
    · simp only [show nb w h sh o k = true by simpa using c, c1, Bool.true_and] at ih
      rcases hT k hk (by simpa using c) c1 with ⟨t1, t2, t3⟩ | ⟨t1, t2, t3⟩ | ⟨t1, t2, t3⟩
      · rw [t2, t3] at ih
        rw [t1]
        simp only [Bool.false_eq_true, if_false, if_true, Nat.add_zero] at ih
        refine ⟨fun _ => ⟨by omega, fun q => absurd q (by decide), fun _ => ?_⟩, fun q => absurd q (by decide)⟩
        rw [show (0 : Int32) = zI 0 from rfl, show (1 : Int32) = zI 1 from rfl, z_sub, z_add, Int.sub_zero]
        exact ih
      · rw [t2, t3] at ih
        rw [t1]
        simp only [Bool.false_eq_true, if_false, if_true, Nat.add_zero] at ih
        refine ⟨fun _ => ⟨by omega, fun _ => ?_, fun q => absurd (by decide) q⟩, fun q => absurd q (by decide)⟩
        rw [show (0 : Int32) = zI 0 from rfl, z_sub, z_add, Int.sub_zero, Int.add_zero]
        exact ih
      · rw [t2, t3] at ih
        rw [t1]
        simp only [Bool.false_eq_true, if_false, if_true, Nat.add_zero] at ih
        refine ⟨fun q => absurd rfl q, fun _ => ⟨by omega, fun _ => ?_, fun q => absurd (by decide) q⟩⟩
        rw [show (0 : Int32) = zI 0 from rfl, show (1 : Int32) = zI 1 from rfl, z_sub, z_add, Int.add_zero]
        rw [show L0 - (fb_ct (fun i => nb w h sh o i && (H i && T1 i)) k : Nat) - 1 = L0 - ((fb_ct (fun i => nb w h sh o i && (H i && T1 i)) k + 1 : Nat) : Int) by omega]
        exact ih
theorem mfits_ok (gk : gOk w h sh) (hm : mst w h sh M H B F I) (oS : okS (w * h) M H B F) {A : List Nat} (hA : ptL (w * h) (nb w h sh) H (opS (w * h) H B) A) {k : Nat} (hk : k < A.length) {f : Nat → Bool} (ht : trd A (k + 1) f I) (hp : P (some (.int (bi (okF (w * h) (nb w h sh) M (opS (w * h) H B) A (k + 1) f)))) I J) : call pgM zX9_fits [.ref 0, .int (zI (A.getD k 0 : Nat))] I J P := by
  obtain ⟨hn1, hn2⟩ := mul_le100 gk
  have hmem : A.getD k 0 ∈ A := by
    rw [List.getD_eq_getElem?_getD, List.getElem?_eq_getElem hk]
    exact List.getElem_mem hk
  obtain ⟨hc, hHc⟩ := hA.2.1 _ hmem
  have spl : ∀ o, o < w * h → opS (w * h) H B o = true → nb w h sh (A.getD k 0) o = true → ∀ (S : Nat → Bool) (T : Nat → Bool), (∀ x, x ∈ A.take (k + 1) → S x = T x) → (∀ x, x ∈ A.drop (k + 1) → S x = false) → nin w h sh (fun i => H i && S i) o = (A.take (k + 1)).countP (fun x => nb w h sh o x && T x) := fun o ho hN hno S T h1 h2 => by
    rw [nin_list (S := S) hA ho hN hmem hno, cp_split _ (k + 1) A]
    rw [cp_cong (A.take (k + 1)) (fun x hx => by rw [h1 x hx]), cp_false (A.drop (k + 1)) (fun x hx => by rw [h2 x hx, Bool.and_false])]
    rfl
  have spl2 : ∀ o, o < w * h → opS (w * h) H B o = true → nb w h sh (A.getD k 0) o = true → ∀ (S : Nat → Bool), (∀ x, x ∈ A.take (k + 1) → S x = false) → (∀ x, x ∈ A.drop (k + 1) → S x = true) → nin w h sh (fun i => H i && S i) o = (A.drop (k + 1)).countP (nb w h sh o) := fun o ho hN hno S h1 h2 => by
    rw [nin_list (S := S) hA ho hN hmem hno, cp_split _ (k + 1) A]
    rw [cp_cong (q := nb w h sh o) (A.drop (k + 1)) (fun x hx => by rw [h2 x hx, Bool.and_true]), cp_false (A.take (k + 1)) (fun x hx => by rw [h1 x hx, Bool.and_false]), Nat.zero_add]
  generalize hcc : A.getD k 0 = c at *
  have okE : ∀ b : Bool, (b = true ↔ ∀ o, o < w * h → opS (w * h) H B o = true → nb w h sh c o = true → (A.take (k + 1)).countP (fun x => nb w h sh o x && f x) ≤ nd (nb w h sh) M A o ∧ nd (nb w h sh) M A o ≤ (A.take (k + 1)).countP (fun x => nb w h sh o x && f x) + (A.drop (k + 1)).countP (nb w h sh o)) → okF (w * h) (nb w h sh) M (opS (w * h) H B) A (k + 1) f = b := fun b hb => by
    unfold okF
    rw [show k + 1 - 1 = k by omega, hcc]
    cases b
    · exact decide_eq_false (fun q => by have := hb.mpr q; cases this)
    · exact decide_eq_true (hb.mp rfl)
  refine e_X9_fits _ ?_
  have key := up_loop (L := fun o => (∀ o', o' < o → opS (w * h) H B o' = true → nb w h sh c o' = true → (A.take (k + 1)).countP (fun x => nb w h sh o' x && f x) ≤ nd (nb w h sh) M A o' ∧ nd (nb w h sh) M A o' ≤ (A.take (k + 1)).countP (fun x => nb w h sh o' x && f x) + (A.drop (k + 1)).countP (nb w h sh o')) → l_X9_fits_2 I J P (zI c) (zI o)) (w * h) ?_ ?_ 0 (Nat.zero_le _) (fun o' h => absurd h (by omega))
  · exact key
  · intro hall
    rw [okE true ⟨fun _ => hall, fun _ => rfl⟩] at hp
    exact s_X9_fits_2 _ _ ⟨fun _ => hp, fun c => absurd (by rw [hm.1.2.2.2]; exact Int32.le_refl _) c⟩
  · intro o ho ih hall
    have hnx : zI (o : Int) + 1 = zI ((o + 1 : Nat) : Int) := by rw [show (1 : Int32) = zI 1 from rfl, z_add]; rfl
    have next : (opS (w * h) H B o = true → nb w h sh c o = true → (A.take (k + 1)).countP (fun x => nb w h sh o x && f x) ≤ nd (nb w h sh) M A o ∧ nd (nb w h sh) M A o ≤ (A.take (k + 1)).countP (fun x => nb w h sh o x && f x) + (A.drop (k + 1)).countP (nb w h sh o)) → l_X9_fits_2 I J P (zI c) (zI ((o + 1 : Nat) : Int)) := fun q => ih (fun o' h1 => by
      by_cases e : o' = o
      · rw [e]; exact q
      · exact hall o' (by omega))
    refine s_X9_fits_2 _ _ ?_
    rw [hm.1.2.2.2, z_le (by omega) (by omega) (by omega) (by omega), z_in (by omega) (by omega), z_cl (by omega), hnx]
    refine ⟨fun c => absurd c (by omega), fun _ => mnear_ok gk hm hc ho ⟨_, rfl, ?_⟩⟩
    rw [bi_0, (hm.2.2 o (by omega)).2.1, sc_1 ho]
    refine ⟨fun c1 => next (fun _ q => by rw [c1] at q; cases q), fun c1 => ⟨by omega, fun c2 => next (fun q _ => absurd q c2), fun c2 => mnumber_ok gk hm ho ⟨_, rfl, mnearState_ok gk hm ho 2 ⟨_, rfl, ?_⟩⟩⟩⟩
    have hno : nb w h sh c o = true := by simpa using c1
    have d1 := nin_due (w := w) (h := h) (sh := sh) oS o
    have b1 := nin_le (w := w) (h := h) (sh := sh) M o
    have b2 := nin_le (w := w) (h := h) (sh := sh) B o
    have hnd : nin w h sh (fun i => H i && M i) o = nd (nb w h sh) M A o := nin_list hA ho c2 hmem hno
    have hT : ∀ x, x < w * h → nb w h sh o x = true → H x = true → (I 17 x = -1 ∧ decide (I 17 x = 1) = false ∧ decide (I 17 x = -1) = true) ∨ (I 17 x = 0 ∧ decide (I 17 x = 1) = false ∧ decide (I 17 x = -1) = false) ∨ (I 17 x = 1 ∧ decide (I 17 x = 1) = true ∧ decide (I 17 x = -1) = false) := fun x hx hnx hHx => by
      have := hA.2.2 o c x ho c2 hmem hno hx hHx hnx
      rw [← List.take_append_drop (k + 1) A] at this
      rcases List.mem_append.mp this with q | q
      · rw [ht.1 x q]; cases f x
        · exact Or.inr (Or.inl ⟨rfl, rfl, rfl⟩)
        · exact Or.inr (Or.inr ⟨rfl, rfl, rfl⟩)
      · rw [ht.2 x q]; exact Or.inl ⟨rfl, rfl, rfl⟩
    have e1 : nin w h sh (fun i => H i && decide (I 17 i = 1)) o = (A.take (k + 1)).countP (fun x => nb w h sh o x && f x) := spl o ho c2 hno (fun i => decide (I 17 i = 1)) f (fun x hx => by
      show decide (I 17 x = 1) = f x
      rw [ht.1 x hx]; cases f x <;> rfl) (fun x hx => by
      show decide (I 17 x = 1) = false
      rw [ht.2 x hx]; rfl)
    have e2 : nin w h sh (fun i => H i && decide (I 17 i = -1)) o = (A.drop (k + 1)).countP (nb w h sh o) := spl2 o ho c2 hno (fun i => decide (I 17 i = -1)) (fun x hx => by
      show decide (I 17 x = -1) = false
      rw [ht.1 x hx]; cases f x <;> rfl) (fun x hx => by
      show decide (I 17 x = -1) = true
      rw [ht.2 x hx]; rfl)
    rw [nin_sc2 oS.2.2.1, z_sub]
    refine mfits48 (T1 := fun x => decide (I 17 x = 1)) (Tm := fun x => decide (I 17 x = -1)) gk hm ho hT (by omega) (fun q => ?_) (fun q => ?_)
    · rw [e1, e2] at q
      rw [okE false ⟨fun q2 => (by cases q2), fun q2 => by have := q2 o ho c2 hno; omega⟩] at hp
      exact hp
    · rw [e1, e2] at q
      exact next (fun _ _ => by omega)
end MF
