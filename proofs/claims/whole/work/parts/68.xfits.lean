/-! the class: whether a search's cells, as far as settled, fit -/
section XF
variable {I : tg_I} {J : tg_J} {P : Option Value → tg_I → tg_J → Prop} {w h sh : Nat} {M H B F N : Nat → Bool} {A : List Nat}
theorem drop_ct (p : Nat → Bool) {d : Nat} (A : List Nat) : (A.drop d).countP p = fb_ct (fun j => p (A.getD (d + j) 0)) (A.length - d) := by
  have := cp_idx p (A.drop d).length (A.drop d) (Nat.le_refl _)
  rw [List.take_length, List.length_drop] at this
  rw [this]
  refine fb_ct_cong (fun j _ => ?_)
  rw [List.getD_eq_getElem?_getD, List.getElem?_drop, ← List.getD_eq_getElem?_getD]
theorem sfits_ok (gk : gOk w h sh) (oS : okS (w * h) M H B F) (hN : ∀ o, N o = true → opS (w * h) H B o = true) (hA : ptL (w * h) (nb w h sh) H N A) (hl : A.length ≤ 14) (hr : srR w h sh M B N A I) {k : Nat} (hk : k < A.length) {f : Nat → Bool} {x : Int32} (hx : bset (k + 1) A f x) (hp : P (some (.int (bi (okF (w * h) (nb w h sh) M N A (k + 1) f)))) I J) : call pgX zX7_fits [.ref 20, .int x, .int (zI ((k + 1 : Nat) : Int))] I J P := by
  obtain ⟨hn1, hn2⟩ := mul_le100 gk
  have hcA := getD_mem hk
  have hc := (hA.2.1 _ hcA).1
  obtain ⟨r1, r2⟩ := hr.1 k hk
  have hrl : rl w h sh N (A.getD k 0) = (nbl w h sh (A.getD k 0)).filter N := rfl
  have h8 : (rl w h sh N (A.getD k 0)).length ≤ 8 := by
    have h1 := List.length_filter_le N (nbl w h sh (A.getD k 0))
    have h2 := filt_len (nb w h sh (A.getD k 0)) (w * h)
    have h3 := nb_ct_le (w := w) (h := h) (sh := sh) (A.getD k 0) (w * h)
    have h4 : (nbl w h sh (A.getD k 0)).length = fb_ct (nb w h sh (A.getD k 0)) (w * h) := h2
    rw [hrl]; omega
  have hmem : ∀ o, o ∈ rl w h sh N (A.getD k 0) ↔ nb w h sh (A.getD k 0) o = true ∧ N o = true := fun o => by rw [hrl, List.mem_filter, nbl_mem]
  have okE : ∀ b : Bool, (b = true ↔ ∀ o, o < w * h → N o = true → nb w h sh (A.getD k 0) o = true → (A.take (k + 1)).countP (fun x => nb w h sh o x && f x) ≤ nd (nb w h sh) M A o ∧ nd (nb w h sh) M A o ≤ (A.take (k + 1)).countP (fun x => nb w h sh o x && f x) + (A.drop (k + 1)).countP (nb w h sh o)) → okF (w * h) (nb w h sh) M N A (k + 1) f = b := fun b hb => by
    unfold okF
    rw [show k + 1 - 1 = k by omega]
    cases b
    · exact decide_eq_false (fun q => by have := hb.mpr q; cases this)
    · exact decide_eq_true (hb.mp rfl)
  refine e_X7_fits _ _ ?_
  rw [show (0 : Int32) = zI 0 from rfl, z_eq (by omega) (by omega) (by omega) (by omega), show (1 : Int32) = zI 1 from rfl, z_sub, show ((k + 1 : Nat) : Int) - 1 = (k : Nat) by omega]
  refine ⟨fun _ => ?_, fun c => absurd c (by omega)⟩
  have key := up_loop (L := fun i => (∀ o, o ∈ (rl w h sh N (A.getD k 0)).take i → (A.take (k + 1)).countP (fun x => nb w h sh o x && f x) ≤ nd (nb w h sh) M A o ∧ nd (nb w h sh) M A o ≤ (A.take (k + 1)).countP (fun x => nb w h sh o x && f x) + (A.drop (k + 1)).countP (nb w h sh o)) → l_X7_fits_13 I J P x (zI ((k + 1 : Nat) : Int)) (zI k) (zI i)) (rl w h sh N (A.getD k 0)).length ?_ ?_ 0 (Nat.zero_le _) (fun o ho => by simp at ho)
  · exact key
  · intro hall
    rw [List.take_length] at hall
    rw [okE true ⟨fun _ o ho hNo hno => hall o ((hmem o).mpr ⟨hno, hNo⟩), fun _ => rfl⟩] at hp
    refine s_X7_fits_13 _ _ _ _ ?_
    rw [z_in (by omega) (by omega), z_cl (by omega), r1]
    exact ⟨by omega, fun _ => hp, fun c => absurd (Int32.le_refl _) c⟩
  · intro i hi ih hall
    have hr2 := r2 i hi
    have hm := (hmem _).mp (getD_mem hi)
    have hts := take_s hi
    generalize (rl w h sh N (A.getD k 0)).getD i 0 = o at *
    rw [hts] at ih
    have hon := nb_lt hm.1
    obtain ⟨mk, nd0⟩ := hr.2 o hm.2 ⟨A.getD k 0, hcA, hm.1⟩
    have hsym : ∀ x, x ∈ A → nb w h sh x o = nb w h sh o x := fun x hx => nb_sym gk (hA.2.1 x hx).1 hon
    have hneed : ((nin w h sh M o : Nat) : Int) - (nin w h sh B o : Nat) = (nd (nb w h sh) M A o : Nat) := by
      have d1 := nin_due (w := w) (h := h) (sh := sh) oS o
      have d2 : nin w h sh (fun i => H i && M i) o = nd (nb w h sh) M A o := nin_list hA hon hm.2 hcA hm.1
      omega
    have hnd8 : nd (nb w h sh) M A o ≤ 14 := by
      have := List.countP_le_length (p := fun x => nb w h sh o x && M x) (l := A)
      unfold nd
      omega
    have c1 : fb_ct (bt (x &&& I 24 o)) 32 = (A.take (k + 1)).countP (fun x => nb w h sh o x && f x) := by
      rw [bset_ct (d := k + 1) (A := A) (f := fun x => nb w h sh x o && f x) (by omega) (by omega) (fun j hj => by
        rw [b_and, hx j hj, mk j hj]
        by_cases e : j < k + 1
        · rw [decide_eq_true e, decide_eq_true (show j < A.length by omega)]
          simp [Bool.and_comm]
        · rw [decide_eq_false e]; rfl)]
      exact cp_cong _ (fun y hy => by rw [hsym y (List.mem_of_mem_take hy)])
    have c2 : fb_ct (bt (((I 24 o).toUInt32 >>> ((zI ((k + 1 : Nat) : Int)).toUInt32 &&& Int32.toUInt32 31)).toInt32)) 32 = (A.drop (k + 1)).countP (nb w h sh o) := by
      rw [cp_cong (p := nb w h sh o) (q := fun y => nb w h sh y o) _ (fun y hy => by rw [hsym y (List.mem_of_mem_drop hy)]), drop_ct, z_nat]
      rw [ct_ext (m := A.length - (k + 1)) (by omega) (fun j h1 h2 => by
        rw [b_ushr (k + 1) (by omega)]
        by_cases e : k + 1 + j < 32
        · rw [mk _ e, decide_eq_false (by omega)]; rfl
        · exact b_big (by omega))]
      refine fb_ct_cong (fun j hj => ?_)
      rw [b_ushr (k + 1) (by omega), mk _ (by omega), decide_eq_true (by omega)]
      rfl
    have l1 : (A.take (k + 1)).countP (fun x => nb w h sh o x && f x) ≤ 14 := by
      have := List.countP_le_length (p := fun x => nb w h sh o x && f x) (l := A.take (k + 1))
      have h2 := List.length_take_le (k + 1) A
      omega
    have l2 : (A.drop (k + 1)).countP (nb w h sh o) ≤ 14 := by
      have := List.countP_le_length (p := nb w h sh o) (l := A.drop (k + 1))
      rw [List.length_drop] at this
      omega
    refine s_X7_fits_13 _ _ _ _ ?_
    rw [z_in (by omega) (by omega), z_cl (by omega), r1, z_le (by omega) (by omega) (by omega) (by omega), show (8 : Int32) = zI 8 from rfl, z_mul, z_add, show (k : Int) * 8 + (i : Int) = ((8 * k + i : Nat) : Int) by omega, z_in (by omega) (by omega), z_cl (by omega), hr2, z_s i]
    refine ⟨by omega, fun c => absurd c (by omega), fun _ => ⟨by omega, fun x1 ex => ?_⟩⟩
    rw [ex, z_in (by omega) (by omega), z_cl (by omega)]
    refine ⟨by omega, ibitCount_ok _ ⟨_, rfl, by omega, ibitCount_ok _ ⟨_, rfl, by omega, ?_⟩⟩⟩
    rw [show fb_ct (iq (x &&& I 24 o)) 32 = (A.take (k + 1)).countP (fun x => nb w h sh o x && f x) from c1, show fb_ct (iq (((I 24 o).toUInt32 >>> ((zI ((k + 1 : Nat) : Int)).toUInt32 &&& Int32.toUInt32 31)).toInt32)) 32 = (A.drop (k + 1)).countP (nb w h sh o) from c2, nd0, hneed, z_lt (by omega) (by omega) (by omega) (by omega), z_add, z_le (by omega) (by omega) (by omega) (by omega)]
    have bad : ¬ ((A.take (k + 1)).countP (fun x => nb w h sh o x && f x) ≤ nd (nb w h sh) M A o ∧ nd (nb w h sh) M A o ≤ (A.take (k + 1)).countP (fun x => nb w h sh o x && f x) + (A.drop (k + 1)).countP (nb w h sh o)) → P (some (.int 0)) I J := fun q => by
      rw [okE false ⟨fun q2 => (by cases q2), fun q2 => absurd (q2 o hon hm.2 hm.1) q⟩] at hp
      exact hp
    refine ⟨fun c => bad (by omega), fun c => ⟨by omega, fun c2 => ih (fun o' ho' => ?_), fun c2 => bad (by omega)⟩⟩
    rcases List.mem_append.mp ho' with q | q
    · exact hall o' q
    · rw [List.mem_singleton.mp q]; omega
theorem sfits_0 (x : Int32) (hp : P (some (.int 1)) I J) : call pgX zX7_fits [.ref 20, .int x, .int (zI ((0 : Nat) : Int))] I J P := e_X7_fits _ _ ⟨fun c => absurd rfl c, fun _ => hp⟩
def wI (I I' : tg_I) (a b : Nat → Nat) : Prop := (∀ c, c ≠ 26 → c ≠ 27 → I' c = I c) ∧ (∀ x, I' 26 x = I 26 x + zI (a x : Nat)) ∧ ∀ x, I' 27 x = I 27 x + zI (b x : Nat)
theorem zadd0 (x : Int32) : x + zI ((0 : Nat) : Int) = x := Int32.add_zero x
theorem wI_0 {I : tg_I} : wI I I (fun _ => 0) (fun _ => 0) := ⟨fun _ _ _ => rfl, fun x => (zadd0 _).symm, fun x => (zadd0 _).symm⟩
theorem wI_tr {I I1 I2 : tg_I} {a b a' b' : Nat → Nat} (h1 : wI I I1 a b) (h2 : wI I1 I2 a' b') : wI I I2 (fun i => a i + a' i) (fun i => b i + b' i) := ⟨fun c p q => (h2.1 c p q).trans (h1.1 c p q), fun x => by rw [h2.2.1, h1.2.1, Int32.add_assoc, z_add]; rfl, fun x => by rw [h2.2.2, h1.2.2, Int32.add_assoc, z_add]; rfl⟩
theorem wI_eq {I I1 : tg_I} {a b a' b' : Nat → Nat} (h1 : wI I I1 a b) (h2 : ∀ i, a i = a' i) (h3 : ∀ i, b i = b' i) : wI I I1 a' b' := by
  rw [← funext h2, ← funext h3]; exact h1
def Q26 (A : List Nat) (m : Nat) (f : Nat → Bool) : Bool := decide (m = A.countP f)
def Q27 (A : List Nat) (i : Nat) (f : Nat → Bool) : Bool := decide (i / 15 < A.length ∧ i % 15 = A.countP f) && f (A.getD (i / 15) 0)
theorem note_ok (hl : A.length ≤ 14) (h7 : I 20 7 = zI A.length) {f : Nat → Bool} {x : Int32} (hx : bset A.length A f x) (hp : ∀ I', wI I I' (fun i => if Q26 A i f then 1 else 0) (fun i => if Q27 A i f then 1 else 0) → P none I' J) : call pgX zX7_note [.ref 20, .int x] I J P := by
  have hct : fb_ct (bt x) 32 = A.countP f := by rw [bset_ct (Nat.le_refl _) (by omega) hx, List.take_length]
  have hcl : A.countP f ≤ A.length := List.countP_le_length
  refine e_X7_note _ (ibitCount_ok _ ⟨_, rfl, ?_⟩)
  rw [show fb_ct (iq x) 32 = A.countP f from hct]
  generalize hmm : A.countP f = m at *
  rw [z_in (by omega) (by omega), z_cl (by omega)]
  refine ⟨by omega, by omega, fun I1 e1 => ?_⟩
  have w1 : wI I I1 (fun i => if Q26 A i f then 1 else 0) (fun _ => 0) := by
    refine ⟨fun c a b => by rw [e1, u2_other _ _ _ _ a], fun y => ?_, fun y => by rw [e1, u2_other _ _ _ _ (by decide)]; exact (zadd0 _).symm⟩
    rw [e1, u2_at]
    unfold Q26
    dsimp only
    rw [hmm]
    by_cases e : y = m
    · rw [if_pos e, decide_eq_true e, e]; rfl
    · rw [if_neg e, decide_eq_false e]; exact (zadd0 _).symm
  have key := up_loop (L := fun k => ∀ I2, wI I1 I2 (fun _ => 0) (fun i => if decide (i / 15 < k ∧ i % 15 = m) && f (A.getD (i / 15) 0) then 1 else 0) → l_X7_note_17 I2 J P x (zI m) (zI k)) A.length ?_ ?_ 0 (Nat.zero_le _) I1 (wI_eq wI_0 (fun _ => rfl) (fun i => by simp))
  · exact key
  · intro I2 w2
    refine s_X7_note_17 _ _ _ ⟨fun _ => hp I2 (wI_eq (wI_tr w1 w2) (fun i => Nat.add_zero _) (fun i => ?_)), fun c => absurd (by rw [w2.1 20 (by decide) (by decide), w1.1 20 (by decide) (by decide), h7]; exact Int32.le_refl _) c⟩
    unfold Q27
    rw [hmm, Nat.zero_add]
  · intro k hk ih I2 w2
    have h72 : I2 20 7 = zI A.length := by rw [w2.1 20 (by decide) (by decide), w1.1 20 (by decide) (by decide), h7]
    refine s_X7_note_17 _ _ _ ?_
    rw [h72, z_le (by omega) (by omega) (by omega) (by omega), bt_test x (show k < 32 by omega), hx k (by omega), decide_eq_true hk, Bool.true_and, show (15 : Int32) = zI 15 from rfl, z_mul, z_add, show (k : Int) * 15 + (m : Int) = ((15 * k + m : Nat) : Int) by omega, z_in (by omega) (by omega), z_cl (by omega), z_s]
    have nxt : ∀ I3, (∀ c, c ≠ 26 → c ≠ 27 → I3 c = I1 c) → (∀ y, I3 26 y = I1 26 y) → (∀ y, I3 27 y = I1 27 y + zI ((if decide (y / 15 < k + 1 ∧ y % 15 = m) && f (A.getD (y / 15) 0) then 1 else 0 : Nat))) → l_X7_note_17 I3 J P x (zI m) (zI ((k + 1 : Nat) : Int)) := fun I3 a b c => ih I3 ⟨a, fun y => by rw [b y]; exact (zadd0 _).symm, c⟩
    have w26 : ∀ y, I2 26 y = I1 26 y := fun y => by rw [w2.2.1]; exact zadd0 _
    refine ⟨fun c => absurd c (by omega), fun _ => ⟨fun c => nxt I2 w2.1 w26 (fun y => ?_), fun c => ⟨by omega, by omega, fun I3 e3 => nxt I3 (fun q a b => by rw [e3, u2_other _ _ _ _ b]; exact w2.1 q a b) (fun y => by rw [e3, u2_other _ _ _ _ (by decide)]; exact w26 y) (fun y => ?_)⟩⟩⟩
    · rw [w2.2.2]
      dsimp only
      congr 3
      by_cases e : y / 15 = k
      · rw [e, show f (A.getD k 0) = false by simpa using c, Bool.and_false, Bool.and_false]
      · rw [show decide (y / 15 < k ∧ y % 15 = m) = decide (y / 15 < k + 1 ∧ y % 15 = m) from decide_eq_decide.mpr (by omega)]
    · rw [e3, u2_at]
      by_cases e : y = 15 * k + m
      · rw [if_pos e, ← e, w2.2.2]
        dsimp only
        have e5 : y / 15 = k := by omega
        have e6 : y % 15 = m := by omega
        rw [e5, e6, c, decide_eq_false (by omega), decide_eq_true (by omega)]
        show I1 27 y + zI ((0 : Nat) : Int) + 1 = _
        rw [zadd0]
        rfl
      · rw [if_neg e, w2.2.2]
        dsimp only
        rw [show decide (y / 15 < k ∧ y % 15 = m) = decide (y / 15 < k + 1 ∧ y % 15 = m) from decide_eq_decide.mpr (by omega)]
end XF
