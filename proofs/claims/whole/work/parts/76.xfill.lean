/-! the class: sums over parts, modulo the prime -/
theorem smod {f g : Nat → Nat} : ∀ {n : Nat}, (∀ k, k < n → f k % PP = g k % PP) → fb_sm f n % PP = fb_sm g n % PP
  | 0, _ => rfl
  | n + 1, h => by rw [fb_sm_succ, fb_sm_succ, Nat.add_mod, smod (fun k hk => h k (by omega)), h n (by omega), ← Nat.add_mod]
theorem sm_mul (c : Nat) (f : Nat → Nat) : ∀ n, fb_sm (fun k => c * f k) n = c * fb_sm f n
  | 0 => rfl
  | n + 1 => by rw [fb_sm_succ, fb_sm_succ, sm_mul c f n, Nat.mul_add]
theorem sm_swap (f : Nat → Nat → Nat) (a : Nat) : ∀ b, fb_sm (fun s => fb_sm (fun m => f s m) a) b = fb_sm (fun m => fb_sm (fun s => f s m) b) a
  | 0 => by rw [fb_sm_cong (f := fun m => fb_sm (fun s => f s m) 0) (g := fun _ => 0) (fun _ _ => rfl), fb_sm_const]; rfl
  | b + 1 => by
    rw [fb_sm_succ, sm_swap f a b, ← fb_sm_add]
    exact fb_sm_cong (fun _ _ => rfl)
theorem sm_shift (g : Nat → Nat) {m n : Nat} (h : m ≤ n) : fb_sm (fun s => if m ≤ s then g (s - m) else 0) n = fb_sm g (n - m) := by
  have h1 := fb_sm_split (fun s => if m ≤ s then g (s - m) else 0) m (n - m)
  rw [show m + (n - m) = n by omega] at h1
  rw [h1, fb_sm_cong (f := fun s => if m ≤ s then g (s - m) else 0) (g := fun _ => 0) (fun k hk => if_neg (by omega)), fb_sm_const, Nat.mul_zero, Nat.zero_add]
  exact fb_sm_cong (fun k _ => by rw [if_pos (by omega), show m + k - m = k by omega])
/-- a part's cell is mined: the part's own sum, or one sum for each number of its mines -/
theorem flT_cv {T Z : Nat → Nat} {n : Nat} {ml : Int} (hml : ml ≤ 100) : flT (cv T Z) n ml = fb_sm (fun m => Z m * flT T n (ml - m)) 13 % PP := by
  have e1 : flT (cv T Z) n ml = fb_sm (fun s => fb_sm (fun m => if (s : Int) ≤ ml ∧ m ≤ s then Z m * (T (s - m) * pas n (ml - s).toNat) else 0) 13) 101 % PP := by
    unfold flT
    refine smod (fun s hs => ?_)
    unfold flG
    by_cases c : (s : Int) ≤ ml
    · rw [if_pos c]
      unfold cv
      rw [Nat.mod_mul_mod, Nat.mul_comm, ← sm_mul]
      congr 1
      refine fb_sm_cong (fun m hm => ?_)
      by_cases c2 : m ≤ s
      · rw [if_pos c2, if_pos ⟨c, c2⟩, Nat.mul_comm (T (s - m)) (Z m), Nat.mul_left_comm, Nat.mul_comm (pas n (ml - s).toNat)]
      · rw [if_neg c2, if_neg (fun q => c2 q.2), Nat.mul_zero]
    · rw [if_neg c, fb_sm_cong (g := fun _ => 0) (fun m hm => if_neg (fun q => c q.1)), fb_sm_const]
  rw [e1, sm_swap]
  refine smod (fun m hm => ?_)
  have e2 : fb_sm (fun s => if (s : Int) ≤ ml ∧ m ≤ s then Z m * (T (s - m) * pas n (ml - s).toNat) else 0) 101 = Z m * fb_sm (flG T n (ml - m)) (101 - m) := by
    rw [← sm_shift (flG T n (ml - m)) (show m ≤ 101 by omega), ← sm_mul]
    refine fb_sm_cong (fun s hs => ?_)
    by_cases c : m ≤ s
    · rw [if_pos c]
      unfold flG
      by_cases c2 : (s : Int) ≤ ml
      · rw [if_pos ⟨c2, c⟩, if_pos (by omega), show (ml - (m : Int) - ((s - m : Nat) : Int)).toNat = (ml - (s : Int)).toNat by omega]
      · rw [if_neg (fun q => c2 q.1), if_neg (by omega), Nat.mul_zero]
    · rw [if_neg (fun q => c q.2), if_neg c, Nat.mul_zero]
  rw [e2, ← flT_end (T := T) (n := n) (mm := ml - m) (k := 101 - m) (by omega) (by omega), Nat.mul_mod_mod]
section XW
variable {I : tg_I} {J : tg_J} {P : Option Value → tg_I → tg_J → Prop}
theorem startRow_ok {a0 : Nat} (h0 : isR101 a0) (hp : ∀ J', onlyJ a0 J J' → (∀ t, t ≤ 100 → J' a0 t = lN (if t = 0 then 1 else 0)) → P none I J') : call pgX zX5_startRow [.ref a0] I J P := by
  refine e_X5_startRow _ h0 ?_
  have key := up_loop (L := fun k => ∀ J1, onlyJ a0 J J1 → (∀ t, t < k → J1 a0 t = lN (if t = 0 then 1 else 0)) → l_X5_startRow_2 I J1 P a0 (zI k)) 101 ?_ ?_ 0 (Nat.zero_le _) J (fun _ _ => rfl) (fun t h => absurd h (by omega))
  · exact key
  · intro J1 o1 z1
    exact s_X5_startRow_2 _ _ h0 ⟨fun _ => hp J1 o1 (fun t ht => z1 t (by omega)), fun c => absurd (Int32.le_refl _) c⟩
  · intro k hk ih J1 o1 z1
    have upd : ∀ (x : Int64) (J2 : tg_J), J2 = u2 J1 a0 k x → x = lN (if k = 0 then 1 else 0) → l_X5_startRow_2 I J2 P a0 (zI ((k + 1 : Nat) : Int)) := fun x J2 e2 ex => ih J2 (fun q a => by rw [e2, u2_other _ _ _ _ a]; exact o1 q a) (fun t ht => by
      rw [e2, u2_at]
      by_cases e : t = k
      · rw [if_pos e, ex, e]
      · rw [if_neg e]; exact z1 t (by omega))
    refine s_X5_startRow_2 _ _ h0 ?_
    rw [show (101 : Int32) = zI (101 : Nat) from rfl, z_le (by omega) (by omega) (by omega) (by omega), z_in (by omega) (by omega), z_cl (by omega), z_s, show (0 : Int32) = zI 0 from rfl, z_eq (by omega) (by omega) (by omega) (by omega)]
    refine ⟨fun c => absurd c (by omega), fun _ => ⟨fun c => ⟨by omega, fun J2 e2 => upd _ J2 e2 ?_⟩, fun c => ⟨by omega, fun J2 e2 => upd _ J2 e2 ?_⟩⟩⟩
    · rw [if_neg (by omega)]; rfl
    · rw [if_pos (by omega)]; rfl
theorem zI_l {n : Nat} (h : n < 2147483648) : (zI (n : Int)).toInt64 = lN n := by rw [z_nat]; exact nI_l h
/-- what one sum is so far -/
def acM (T V : Nat → Nat) (s m : Nat) : Nat := fb_sm (fun k => if k ≤ s then T (s - k) * V k % PP else 0) m
theorem acM_cv (T V : Nat → Nat) (s m : Nat) (h : m = 13 ∨ (s < m ∧ m ≤ 13)) : acM T V s m % PP = cv T V s := by
  have e : acM T V s 13 % PP = cv T V s := by
    unfold acM cv
    refine smod (fun k _ => ?_)
    by_cases c : k ≤ s
    · rw [if_pos c, if_pos c, Nat.mod_mod]
    · rw [if_neg c, if_neg c]
  rcases h with q | q
  · rw [q]; exact e
  · rw [← e]
    congr 1
    unfold acM
    have h1 := fb_sm_split (fun k => if k ≤ s then T (s - k) * V k % PP else 0) m (13 - m)
    rw [show m + (13 - m) = 13 by omega, fb_sm_cong (f := fun j => if m + j ≤ s then T (s - (m + j)) * V (m + j) % PP else 0) (g := fun _ => 0) (fun j _ => if_neg (by omega)), fb_sm_const, Nat.mul_zero, Nat.add_zero] at h1
    exact h1.symm
theorem acM_le (T V : Nat → Nat) (s m : Nat) : acM T V s m ≤ m * PP := fb_sm_bound (fun k _ => by
  by_cases c : k ≤ s
  · rw [if_pos c]; exact Nat.le_of_lt (Nat.mod_lt _ (by decide))
  · rw [if_neg c]; exact Nat.zero_le _)
def oJt (J J' : tg_J) : Prop := ∀ q, q ≠ 36 → q ≠ 37 → J' q = J q
theorem countWithout_ok {W : Nat → Nat → Nat} {np : Nat} (hnp : I 17 14 = zI np) (hn : np ≤ 100) (hW : ∀ p m, p < np → m < 13 → I 34 (13 * p + m) = zI (W p m) ∧ W p m ≤ 2 ^ 14) {u : Int} (hu : -1 ≤ u ∧ u < 1000) (hp : ∀ J', oJt J J' → (∀ t, t ≤ 100 → J' 36 t = lN (sT false W u np t)) → P none I J') : call pgX zX5_countWithout [.ref 17, .int (zI u)] I J P := by
  have hPP : PP = 1000000007 := rfl
  refine e_X5_countWithout _ (startRow_ok (a0 := 36) ⟨by decide, rfl⟩ (fun J1 o1 z1 => ⟨rfl, ?_⟩))
  have key := up_loop (L := fun k => ∀ J2, oJt J J2 → (∀ t, t ≤ 100 → J2 36 t = lN (sT false W u k t)) → l_X5_countWithout_9 I J2 P (zI u) (zI k)) np ?_ ?_ 0 (Nat.zero_le _) J1 (fun q a b => o1 q a) z1
  · exact key
  · intro J2 o2 z2
    exact s_X5_countWithout_9 _ _ ⟨fun _ => hp J2 o2 z2, fun c => absurd (by rw [hnp]; exact Int32.le_refl _) c⟩
  · intro k hk ih J2 o2 z2
    have hs : ∀ t, sT false W u (k + 1) t = if (k : Int) = u then sT false W u k t else cv (sT false W u k) (W k) t := fun _ => rfl
    have hTl := fun t => sT_lt false W u k t
    refine s_X5_countWithout_9 _ _ ?_
    rw [hnp, z_le (by omega) (by omega) (by omega) (by omega), z_eq (by omega) (by omega) (by omega) (by omega), z_s]
    refine ⟨fun c => absurd c (by omega), fun _ => ⟨fun c => ?_, fun c => ih J2 o2 (fun t ht => by rw [z2 t ht, hs, if_pos c])⟩⟩
    generalize sT false W u k = T at *
    have key2 := up_loop (L := fun s => ∀ J3, oJt J J3 → (∀ t, t ≤ 100 → J3 36 t = lN (T t)) → (∀ t, t < s → J3 37 t = lN (T t)) → l_X5_countWithout_27 I J3 P (zI u) (zI k) (zI s)) 101 ?_ ?_ 0 (Nat.zero_le _) J2 o2 z2 (fun t h => absurd h (by omega))
    · exact key2
    · intro J3 o3 z3 y3
      refine s_X5_countWithout_27 _ _ _ ⟨fun _ => ?_, fun c => absurd (by decide) c⟩
      have key3 := up_loop (L := fun s => ∀ J4, oJt J J4 → (∀ t, t ≤ 100 → J4 37 t = lN (T t)) → (∀ t, t < s → J4 36 t = lN (cv T (W k) t)) → l_X5_countWithout_53 I J4 P (zI u) (zI k) (zI s)) 101 ?_ ?_ 0 (Nat.zero_le _) J3 o3 (fun t ht => y3 t (by omega)) (fun t h => absurd h (by omega))
      · exact key3
      · intro J4 o4 y4 z4
        refine s_X5_countWithout_53 _ _ _ ⟨fun _ => ?_, fun c => absurd (by decide) c⟩
        rw [z_s]
        exact ih J4 o4 (fun t ht => by rw [z4 t (by omega), hs, if_neg c])
      · intro s hss ih4 J4 o4 y4 z4
        refine s_X5_countWithout_53 _ _ _ ?_
        rw [show (100 : Int32) = zI (100 : Nat) from rfl, z_lt (by omega) (by omega) (by omega) (by omega)]
        refine ⟨fun c => absurd c (by omega), fun _ => ?_⟩
        have fin : ∀ m, (m = 13 ∨ (s < m ∧ m ≤ 13)) → ∀ J5, J5 = u2 J4 36 s (lN (acM T (W k) s m) - lN (acM T (W k) s m) / 1000000007 * 1000000007) → l_X5_countWithout_53 I J5 P (zI u) (zI k) (zI ((s + 1 : Nat) : Int)) := fun m hm J5 e5 => by
          have hb := acM_le T (W k) s m
          have hb2 : m * PP ≤ 13 * PP := Nat.mul_le_mul_right _ (by omega)
          rw [l_rem (by rw [hPP] at hb hb2; omega), acM_cv T (W k) s m hm] at e5
          refine ih4 J5 (fun q a b => by rw [e5, u2_other _ _ _ _ a]; exact o4 q a b) (fun t ht => by rw [e5, u2_other _ _ _ _ (by decide)]; exact y4 t ht) (fun t ht => ?_)
          rw [e5, u2_at]
          by_cases e : t = s
          · rw [if_pos e, e]
          · rw [if_neg e]; exact z4 t (by omega)
        have key5 := up_loop (L := fun m => m ≤ s + 1 → l_X5_countWithout_65 I J4 P (zI u) (zI k) (zI s) (lN (acM T (W k) s m)) (zI m)) 13 ?_ ?_ 0 (Nat.zero_le _) (by omega)
        · exact key5
        · intro _
          refine s_X5_countWithout_65 _ _ _ _ _ ⟨fun _ => ?_, fun c => absurd (Int32.le_refl _) c⟩
          rw [z_in (by omega) (by omega), z_cl (by omega), z_s]
          exact ⟨by omega, fin 13 (Or.inl rfl)⟩
        · intro m hm ih5 hms
          obtain ⟨hw1, hw2⟩ := hW k m hk hm
          have hb := acM_le T (W k) s m
          refine s_X5_countWithout_65 _ _ _ _ _ ?_
          rw [show (13 : Int32) = zI (13 : Nat) from rfl, z_le (by omega) (by omega) (by omega) (by omega), z_lt (by omega) (by omega) (by omega) (by omega), z_in (a := (s : Int)) (by omega) (by omega), z_cl (n := s) (by omega), z_s s, z_s m, z_sub, z_mul, z_add, show (k : Int) * ((13 : Nat) : Int) + (m : Int) = ((13 * k + m : Nat) : Int) by omega, z_in (by omega) (by omega), z_in (by omega) (by omega), z_cl (by omega), hw1, zI_l (by omega)]
          refine ⟨fun c => absurd c (by omega), fun _ => ⟨fun c => ⟨by omega, fin m (Or.inr ⟨by omega, by omega⟩)⟩, fun c => ⟨by omega, by omega, fun y1 e1 => ?_⟩⟩⟩
          have hprod : T (s - m) * W k m < 2 ^ 60 := mulP (hTl _) (by rw [hPP]; omega)
          rw [show (s : Int) - (m : Int) = ((s - m : Nat) : Int) by omega, z_cl (by omega), y4 (s - m) (by omega), lN_mul, l_rem (by omega), lN_add] at e1
          have e2 : acM T (W k) s (m + 1) = acM T (W k) s m + T (s - m) * W k m % PP := by
            unfold acM
            rw [fb_sm_succ, if_pos (by omega)]
          rw [e1, ← e2]
          exact ih5 (by omega)
    · intro s hss ih3 J3 o3 z3 y3
      refine s_X5_countWithout_27 _ _ _ ?_
      rw [show (100 : Int32) = zI (100 : Nat) from rfl, z_lt (by omega) (by omega) (by omega) (by omega), z_in (by omega) (by omega), z_cl (by omega), z_s]
      refine ⟨fun c => absurd c (by omega), fun _ => ⟨by omega, by omega, fun J4 e4 => ih3 J4 (fun q a b => by rw [e4, u2_other _ _ _ _ b]; exact o3 q a b) (fun t ht => by rw [e4, u2_other _ _ _ _ (by decide)]; exact z3 t ht) (fun t ht => ?_)⟩⟩
      rw [e4, u2_at]
      by_cases e : t = s
      · rw [if_pos e, e]; exact z3 s (by omega)
      · rw [if_neg e]; exact y3 t (by omega)
theorem chooseFrom_ok {n : Nat} (hn : n ≤ 100) (hp : ∀ J', onlyJ 38 J J' → (∀ k, k ≤ 100 → J' 38 k = lN (pas n k)) → P none I J') : call pgX zX5_chooseFrom [.ref 17, .int (zI n)] I J P := by
  have hPP : PP = 1000000007 := rfl
  refine e_X5_chooseFrom _ (startRow_ok (a0 := 38) ⟨by decide, rfl⟩ (fun J1 o1 z1 => ⟨rfl, ?_⟩))
  have key := up_loop (L := fun i => ∀ J2, onlyJ 38 J J2 → (∀ t, t ≤ 100 → J2 38 t = lN (pas i t)) → l_X5_chooseFrom_9 I J2 P (zI n) (zI ((i + 1 : Nat) : Int))) n ?_ ?_ 0 (Nat.zero_le _) J1 o1 z1
  · exact key
  · intro J2 o2 z2
    refine s_X5_chooseFrom_9 _ _ ⟨fun _ => hp J2 o2 z2, fun c => absurd ?_ c⟩
    rw [z_lt (by omega) (by omega) (by omega) (by omega)]
    omega
  · intro i hi ih J2 o2 z2
    refine s_X5_chooseFrom_9 _ _ ?_
    rw [z_lt (by omega) (by omega) (by omega) (by omega), show (100 : Int32) = zI (100 : Nat) from rfl, z_lt (by omega) (by omega) (by omega) (by omega)]
    refine ⟨fun c => absurd c (by omega), fun _ => ⟨fun c => absurd c (by omega), fun _ => ?_⟩⟩
    have down : ∀ k, k ≤ i + 1 → ∀ J3, onlyJ 38 J J3 → (∀ t, t ≤ 100 → J3 38 t = lN (if k < t then pas (i + 1) t else pas i t)) → l_X5_chooseFrom_22 I J3 P (zI n) (zI ((i + 1 : Nat) : Int)) (zI k) := by
      intro k
      induction k with
      | zero =>
        intro _ J3 o3 z3
        refine s_X5_chooseFrom_22 _ _ _ ⟨fun _ => ?_, fun c => absurd (by decide) c⟩
        rw [z_s]
        refine ih J3 o3 (fun t ht => ?_)
        rw [z3 t ht]
        by_cases e : t = 0
        · rw [if_neg (by omega), e, pas_0, pas_0]
        · rw [if_pos (by omega)]
      | succ k ihk =>
        intro hk J3 o3 z3
        have h1 := pas_lt i (k + 1)
        have h2 := pas_lt i k
        refine s_X5_chooseFrom_22 _ _ _ ?_
        rw [show (-1 : Int32) = zI (-1) from rfl, z_add, z_s (i + 1), show (1 : Int32) = zI 1 from rfl, z_lt (by omega) (by omega) (by omega) (by omega), z_sub, show ((k + 1 : Nat) : Int) - 1 = (k : Nat) by omega, show ((k + 1 : Nat) : Int) + -1 = (k : Nat) by omega, z_in (by omega) (by omega), z_cl (by omega), z_in (by omega) (by omega), z_cl (by omega), z3 (k + 1) (by omega), z3 k (by omega), if_neg (by omega), if_neg (by omega), lN_add, l_rem (by omega)]
        refine ⟨fun c => absurd c (by omega), fun _ => ⟨by omega, by omega, by omega, fun J4 e4 => ihk (by omega) J4 (fun q hq => by rw [e4, u2_other _ _ _ _ hq]; exact o3 q hq) (fun t ht => ?_)⟩⟩
        rw [e4, u2_at]
        by_cases e : t = k + 1
        · rw [if_pos e, e, if_pos (by omega)]
          show _ = lN (if k + 1 = 0 then 1 else (pas i (k + 1) + pas i (k + 1 - 1)) % PP)
          rw [if_neg (by omega), show k + 1 - 1 = k by omega]
        · rw [if_neg e, z3 t ht]
          by_cases e2 : k + 1 < t
          · rw [if_pos e2, if_pos (by omega)]
          · rw [if_neg e2, if_neg (by omega)]
    refine down (i + 1) (Nat.le_refl _) J2 o2 (fun t ht => ?_)
    rw [z2 t ht]
    by_cases e : i + 1 < t
    · rw [if_pos e, pas_big _ _ e, pas_big _ _ (by omega)]
    · rw [if_neg e]
theorem fill_ok {T : Nat → Nat} {n : Nat} (hT : ∀ s, s ≤ 100 → J 36 s = lN (T s)) (hT2 : ∀ s, T s < PP) (hC : ∀ k, k ≤ 100 → J 38 k = lN (pas n k)) {mm : Int} (h1 : -100 ≤ mm) (h2 : mm ≤ 100) (hp : P (some (.long (lN (flT T n mm)))) I J) : call pgX zX5_fill [.ref 17, .int (zI mm)] I J P := by
  have hPP : PP = 1000000007 := rfl
  refine e_X5_fill _ ?_
  by_cases c : mm < 0
  · refine s_X5_fill_5 _ _ _ ?_
    rw [show (0 : Int32) = zI 0 from rfl, z_lt (by omega) (by omega) (by omega) (by omega)]
    refine ⟨fun _ => ?_, fun q => absurd c q⟩
    rw [← flT_end (k := 0) (by omega) (by omega)] at hp
    exact hp
  · obtain ⟨M0, rfl⟩ := Int.eq_ofNat_of_zero_le (show 0 ≤ mm by omega)
    have key := up_loop (L := fun s => l_X5_fill_5 I J P (zI (M0 : Nat)) (lN (fb_sm (flG T n (M0 : Nat)) s % PP)) (zI s)) (M0 + 1) ?_ ?_ 0 (Nat.zero_le _)
    · exact key
    · refine s_X5_fill_5 _ _ _ ?_
      rw [z_lt (by omega) (by omega) (by omega) (by omega)]
      refine ⟨fun _ => ?_, fun q => absurd (by omega) q⟩
      rw [flT_end (by omega) (by omega)]
      exact hp
    · intro s hs ih
      have hTs := hT2 s
      have hpl := pas_lt n (M0 - s)
      have hprod := mulP hTs hpl
      have hcur : fb_sm (flG T n (M0 : Nat)) s % PP < PP := Nat.mod_lt _ (by decide)
      have e2 : flG T n (M0 : Nat) s = T s * pas n (M0 - s) := by unfold flG; rw [if_pos (by omega)]; congr 2; omega
      have ha : fb_sm (flG T n (M0 : Nat)) (s + 1) % PP = (fb_sm (flG T n (M0 : Nat)) s % PP + T s * pas n (M0 - s)) % PP := by rw [fb_sm_succ, Nat.mod_add_mod, e2]
      rw [ha] at ih
      refine s_X5_fill_5 _ _ _ ?_
      rw [z_lt (by omega) (by omega) (by omega) (by omega), show (100 : Int32) = zI (100 : Nat) from rfl, z_lt (by omega) (by omega) (by omega) (by omega), z_sub, show ((M0 : Nat) : Int) - (s : Int) = ((M0 - s : Nat) : Int) by omega, z_in (by omega) (by omega), z_cl (by omega), z_in (by omega) (by omega), z_cl (by omega), hT s (by omega), hC (M0 - s) (by omega), lN_mul, lN_add, l_rem (by omega), z_s]
      refine ⟨fun q => absurd q (by omega), fun _ => ⟨fun q => absurd q (by omega), fun _ => ⟨by omega, by omega, fun y1 e1 => ?_⟩⟩⟩
      rw [e1]
      exact ih
end XW
