/-! the reference: canBe, choices, ways -/
def wW (w h sh : Nat) (M H N : Nat → Bool) (p m : Nat) : Nat := wy (w * h) (nb w h sh) M N (pL (w * h) (bdr w h sh H N) (ptn w h sh H N) p) m
def wZ (w h sh : Nat) (M H N : Nat → Bool) (c m : Nat) : Nat := wz (w * h) (nb w h sh) M N (pL (w * h) (bdr w h sh H N) (ptn w h sh H N) (ptn w h sh H N c)) c m
def cbl (w h sh : Nat) (M H N : Nat → Bool) (v : Bool) : Prop := rea (sT true (wW w h sh M H N) (-1) (npn w h sh H N)) ((mlN (w * h) M H : Int) - (if v then 1 else 0)) ((lsn w h sh H N : Int) - 1)
def cbb (w h sh : Nat) (M H N : Nat → Bool) (a : Nat) (v : Bool) : Prop := ∃ m : Nat, m < 13 ∧ 0 < (if v then wZ w h sh M H N a m else wW w h sh M H N (ptn w h sh H N a) m - wZ w h sh M H N a m) ∧ rea (sT true (wW w h sh M H N) (ptn w h sh H N a : Nat) (npn w h sh H N)) ((mlN (w * h) M H : Int) - m) (lsn w h sh H N : Int)
/-- what a hidden cell can be -/
def cbe (w h sh : Nat) (M H N : Nat → Bool) (a : Nat) (v : Bool) : Prop := if bdr w h sh H N a = true then cbb w h sh M H N a v else cbl w h sh M H N v
theorem wZ_le {w h sh : Nat} {M H N : Nat → Bool} (c m : Nat) : wZ w h sh M H N c m ≤ wW w h sh M H N (ptn w h sh H N c) m := wz_le c m
theorem wW_le {w h sh : Nat} {M H N : Nat → Bool} (hg : gdp w h sh H N (npn w h sh H N) = true) {p : Nat} (hp : p < npn w h sh H N) (m : Nat) : wW w h sh M H N p m ≤ 2 ^ 14 := by
  have h1 := wy_le (n := w * h) (nbr := nb w h sh) (M := M) (N := N) (A := pL (w * h) (bdr w h sh H N) (ptn w h sh H N) p) m
  have h2 := of_decide_eq_true hg p hp
  have h3 : 2 ^ (pL (w * h) (bdr w h sh H N) (ptn w h sh H N) p).length ≤ 2 ^ 12 := Nat.pow_le_pow_right (by decide) h2
  unfold wW
  omega
/-- the parts and their counts, as the reference keeps them -/
def mPW (w h sh : Nat) (M H N : Nat → Bool) (I : tg_I) (J : tg_J) : Prop := mpt (w * h) (bdr w h sh H N) (ptn w h sh H N) I ∧ I 0 26 = zI (npn w h sh H N) ∧ I 0 27 = zI (lsn w h sh H N) ∧ (∀ p m, p < npn w h sh H N → m < 13 → J 18 (13 * p + m) = lN (wW w h sh M H N p m)) ∧ ∀ c m, c < w * h → bdr w h sh H N c = true → m < 13 → J 19 (13 * c + m) = lN (wZ w h sh M H N c m)
section MB
variable {I : tg_I} {J : tg_J} {P : Option Value → tg_I → tg_J → Prop} {w h sh : Nat} {M H B F N : Nat → Bool}
theorem np_le (gk : gOk w h sh) : npn w h sh H N ≤ 100 := by
  obtain ⟨hn1, hn2⟩ := mul_le100 gk
  have := fb_ct_le (fun s => lo (w * h) (ajw w h sh N) (bdr w h sh H N) s s) (w * h)
  unfold npn npN
  omega
theorem ls_le (gk : gOk w h sh) : lsn w h sh H N ≤ 100 := by
  obtain ⟨hn1, hn2⟩ := mul_le100 gk
  have := fb_ct_le (fun i => H i && !bdr w h sh H N i) (w * h)
  unfold lsn
  omega
theorem ml_le (gk : gOk w h sh) : mlN (w * h) M H ≤ 100 := by
  obtain ⟨hn1, hn2⟩ := mul_le100 gk
  have := fb_ct_le (fun i => H i && M i) (w * h)
  unfold mlN
  omega
theorem canBe_ok (gk : gOk w h sh) (hm : mst w h sh M H B F I) (oS : okS (w * h) M H B F) (hN : N = opS (w * h) H B) (hg : gdp w h sh H N (npn w h sh H N) = true) (hw : mPW w h sh M H N I J) {a : Nat} (ha : a < w * h) (v : Bool) (hp : ∀ J' (r : Bool), oJ2 J J' → (r = true ↔ cbe w h sh M H N a v) → P (some (.int (bi r))) I J') : call pgM zX9_canBe [.ref 0, .int (zI a), .int (bi v)] I J P := by
  obtain ⟨hn1, hn2⟩ := mul_le100 gk
  obtain ⟨w1, w2, w3, w4, w5⟩ := hw
  have hnp := np_le (w := w) (h := h) (sh := sh) (H := H) (N := N) gk
  have hls := ls_le (w := w) (h := h) (sh := sh) (H := H) (N := N) gk
  have hml := ml_le (w := w) (h := h) (sh := sh) (M := M) (H := H) gk
  have hS := bdr_lt (w := w) (h := h) (sh := sh) (N := N) (fun i hi => (oS.1 i hi).1)
  refine e_X9_canBe _ _ ?_
  rw [z_in (by omega) (by omega), z_cl (by omega)]
  refine ⟨by omega, fun x1 ex => ?_⟩
  have hWb : ∀ p m, p < npn w h sh H N → m < 13 → J 18 (13 * p + m) = lN (wW w h sh M H N p m) ∧ wW w h sh M H N p m ≤ 2 ^ 14 := fun p m h1 h2 => ⟨w4 p m h1 h2, wW_le hg h1 m⟩
  cases e : bdr w h sh H N a
  · rw [mpt_f w1 ha e, show (-1 : Int32) = zI (-1) from rfl] at ex
    rw [ex, show (1 : Int32) = bi true from rfl]
    refine sumParts_ok true w2 hnp hWb ⟨by omega, by omega⟩ (fun J1 o1 n1 => ⟨rfl, mineLeft_ok gk hm oS ⟨_, rfl, fun c => absurd c (by decide), fun _ => ?_⟩⟩)
    refine cb29 n1 (fun s => sT_lt _ _ _ _ _) hml hls w3 v (fun r hr => hp J1 r o1 ?_)
    have hc : cbe w h sh M H N a v = cbl w h sh M H N v := if_neg (by rw [e]; simp)
    rw [hc]
    exact hr
  · have hpt' : ptn w h sh H N a < npn w h sh H N := ptN_lt (ajw_sym (w := w) (h := h) (sh := sh) (N := N)) hS e
    rw [mpt_t w1 ha e] at ex
    rw [ex, show (1 : Int32) = bi true from rfl]
    refine sumParts_ok true w2 hnp hWb ⟨by omega, by omega⟩ (fun J1 o1 n1 => ⟨rfl, mineLeft_ok gk hm oS ⟨_, rfl, fun _ => ?_, fun c => absurd (by rw [show (0 : Int32) = zI 0 from rfl, z_le (by omega) (by omega) (by omega) (by omega)]; omega) c⟩⟩)
    have key := up_loop (L := fun k => ∀ r : Bool, (r = true ↔ ∃ s : Nat, s < k ∧ ∃ m : Nat, m < 13 ∧ 0 < sT true (wW w h sh M H N) (ptn w h sh H N a : Nat) (npn w h sh H N) s ∧ 0 < (if v then wZ w h sh M H N a m else wW w h sh M H N (ptn w h sh H N a) m - wZ w h sh M H N a m) ∧ 0 ≤ (mlN (w * h) M H : Int) - s - m ∧ (mlN (w * h) M H : Int) - s - m ≤ (lsn w h sh H N : Int)) → l_X9_canBe_97 I J1 P (zI a) (bi v) (zI (ptn w h sh H N a : Nat)) (zI (mlN (w * h) M H : Nat)) (bi r) (zI k)) 101 ?_ ?_ 0 (Nat.zero_le _) false ⟨fun q => (by cases q), fun q => by obtain ⟨s, s1, -⟩ := q; exact absurd s1 (by omega)⟩
    · exact key
    · intro r hr
      refine s_X9_canBe_97 _ _ _ _ _ _ ⟨fun _ => ⟨nrw01 (bi01 r), hp J1 r o1 ?_⟩, fun c => absurd (by decide) c⟩
      have hc : cbe w h sh M H N a v = cbb w h sh M H N a v := if_pos e
      rw [hr, hc]
      unfold cbb rea
      constructor
      · rintro ⟨s, a, m, b, c, d, f, g⟩; exact ⟨m, b, d, s, by omega, c, by omega, by omega⟩
      · rintro ⟨m, b, d, s, a, c, f, g⟩; exact ⟨s, by omega, m, b, c, d, by omega, by omega⟩
    · intro k hk ih r hr
      refine s_X9_canBe_97 _ _ _ _ _ _ ?_
      rw [show (100 : Int32) = zI (100 : Nat) from rfl, z_lt (by omega) (by omega) (by omega) (by omega)]
      refine ⟨fun c => absurd c (by omega), fun _ => ?_⟩
      refine cb107 (Wp := wW w h sh M H N (ptn w h sh H N a)) (Za := wZ w h sh M H N a) (by omega) (by omega) (fun m hm => ⟨by rw [o1 18 (by decide) (by decide)]; exact w4 _ m hpt' hm, by rw [o1 19 (by decide) (by decide)]; exact w5 a m ha e hm, wZ_le a m, wW_le hg hpt' m⟩) n1 (fun s => sT_lt _ _ _ _ _) hml hls w3 v (show k ≤ 100 by omega) r (fun r' h' => ih r' ?_)
      rw [h', hr]
      constructor
      · rintro (⟨s, a, b⟩ | b)
        · exact ⟨s, by omega, b⟩
        · exact ⟨k, by omega, b⟩
      · rintro ⟨s, a, b⟩
        by_cases e : s = k
        · right; rw [← e]; exact b
        · exact Or.inl ⟨s, by omega, b⟩
theorem findChoices_ok {n : Nat} (hn : n ≤ 100) (hp : ∀ J', onlyJ 22 J J' → (∀ k, k ≤ 100 → J' 22 k = lN (pas n k)) → P none I J') : call pgM zX9_findChoices [.ref 0, .int (zI n)] I J P := by
  have hPP : PP = 1000000007 := rfl
  refine e_X9_findChoices _ ?_
  have key := up_loop (L := fun k => ∀ J1, onlyJ 22 J J1 → (∀ t, t < k → J1 22 t = lN (pas 0 t)) → l_X9_findChoices_2 I J1 P (zI n) (zI k)) 101 ?_ ?_ 0 (Nat.zero_le _) J (fun _ _ => rfl) (fun t h => absurd h (by omega))
  · exact key
  · intro J1 o1 z1
    refine s_X9_findChoices_2 _ _ ⟨fun _ => ?_, fun c => absurd (Int32.le_refl _) c⟩
    have key2 := up_loop (L := fun i => ∀ J2, onlyJ 22 J J2 → (∀ t, t ≤ 100 → J2 22 t = lN (pas i t)) → l_X9_findChoices_31 I J2 P (zI n) (zI i)) n ?_ ?_ 0 (Nat.zero_le _) J1 o1 (fun t ht => z1 t (by omega))
    · exact key2
    · intro J2 o2 z2
      exact s_X9_findChoices_31 _ _ ⟨fun _ => hp J2 o2 z2, fun c => absurd (Int32.le_refl _) c⟩
    · intro i hi ih J2 o2 z2
      refine s_X9_findChoices_31 _ _ ?_
      rw [z_le (by omega) (by omega) (by omega) (by omega)]
      refine ⟨fun c => absurd c (by omega), fun _ => ?_⟩
      have down : ∀ k, k ≤ 100 → ∀ J3, onlyJ 22 J J3 → (∀ t, t ≤ 100 → J3 22 t = lN (if k < t then pas (i + 1) t else pas i t)) → l_X9_findChoices_39 I J3 P (zI n) (zI i) (zI k) := by
        intro k
        induction k with
        | zero =>
          intro _ J3 o3 z3
          refine s_X9_findChoices_39 _ _ _ ⟨fun _ => ?_, fun c => absurd (by decide) c⟩
          rw [z_s]
          refine ih J3 o3 (fun t ht => ?_)
          rw [z3 t ht]
          by_cases e : t = 0
          · rw [if_neg (by omega), e, pas_0, pas_0]
          · rw [if_pos (by omega)]
        | succ k ihk =>
          intro hk J3 o3 z3
          have h1 := pas_lt i (k + 1)
          have h2 := pas_lt i k
          refine s_X9_findChoices_39 _ _ _ ?_
          rw [show (0 : Int32) = zI 0 from rfl, z_le (by omega) (by omega) (by omega) (by omega), show (-1 : Int32) = zI (-1) from rfl, z_add, z_s i, show (1 : Int32) = zI 1 from rfl, z_sub, show ((k + 1 : Nat) : Int) - 1 = (k : Nat) by omega, show ((k + 1 : Nat) : Int) + -1 = (k : Nat) by omega, z_in (by omega) (by omega), z_cl (by omega), z_in (by omega) (by omega), z_cl (by omega), z3 (k + 1) hk, z3 k (by omega), if_neg (by omega), if_neg (by omega), lN_add, l_rem (by omega)]
          refine ⟨fun c => absurd c (by omega), fun _ => ⟨by omega, by omega, by omega, fun J4 e4 => ihk (by omega) J4 (fun q hq => by rw [e4, u2_other _ _ _ _ hq]; exact o3 q hq) (fun t ht => ?_)⟩⟩
          rw [e4, u2_at]
          by_cases e : t = k + 1
          · rw [if_pos e, e, if_pos (by omega)]
            show _ = lN (if k + 1 = 0 then 1 else (pas i (k + 1) + pas i (k + 1 - 1)) % PP)
            rw [if_neg (by omega), show k + 1 - 1 = k by omega]
          · rw [if_neg e, z3 t ht]
            by_cases e2 : k + 1 < t
            · rw [if_pos e2, if_pos (by omega)]
            · rw [if_neg e2, if_neg (by omega)]
      exact down 100 (Nat.le_refl _) J2 o2 (fun t ht => by rw [z2 t ht, if_neg (by omega)])
  · intro k hk ih J1 o1 z1
    have upd : ∀ (x : Int64) (J2 : tg_J), J2 = u2 J1 22 k x → x = lN (pas 0 k) → l_X9_findChoices_2 I J2 P (zI n) (zI ((k + 1 : Nat) : Int)) := fun x J2 e2 ex => ih J2 (fun q a => by rw [e2, u2_other _ _ _ _ a]; exact o1 q a) (fun t ht => by
      rw [e2, u2_at]
      by_cases e : t = k
      · rw [if_pos e, ex, e]
      · rw [if_neg e]; exact z1 t (by omega))
    refine s_X9_findChoices_2 _ _ ?_
    rw [show (101 : Int32) = zI (101 : Nat) from rfl, z_le (by omega) (by omega) (by omega) (by omega), z_in (by omega) (by omega), z_cl (by omega), z_s, show (0 : Int32) = zI 0 from rfl, z_eq (by omega) (by omega) (by omega) (by omega)]
    refine ⟨fun c => absurd c (by omega), fun _ => ⟨fun c => ⟨by omega, fun J2 e2 => upd _ J2 e2 ?_⟩, fun c => ⟨by omega, fun J2 e2 => upd _ J2 e2 ?_⟩⟩⟩
    · show _ = lN (if k = 0 then 1 else 0)
      rw [if_neg (by omega)]; rfl
    · show _ = lN (if k = 0 then 1 else 0)
      rw [if_pos (by omega)]; rfl
def oJ3 (J J' : tg_J) : Prop := ∀ q, q ≠ 22 → J' q = J q
theorem together_ok {T : Nat → Nat} (hT : ∀ s, s ≤ 100 → J 20 s = lN (T s)) (hT2 : ∀ s, T s < PP) {n : Nat} (hn : n ≤ 100) {mm : Int} (h1 : -1 ≤ mm) (h2 : mm ≤ 100) (hp : ∀ J', onlyJ 22 J J' → P (some (.int (zI (flT T n mm : Nat)))) I J') : call pgM zX9_together [.ref 0, .int (zI n), .int (zI mm)] I J P := by
  have hPP : PP = 1000000007 := rfl
  refine e_X9_together _ _ (findChoices_ok hn (fun J1 o1 c1 => ⟨rfl, ?_⟩))
  have key := up_loop (L := fun s => l_X9_together_10 I J1 P (zI n) (zI mm) (lN (fb_sm (flG T n mm) s % PP)) (zI s)) 101 ?_ ?_ 0 (Nat.zero_le _)
  · exact key
  · refine s_X9_together_10 _ _ _ _ ⟨fun _ => ?_, fun c => absurd (by decide) c⟩
    rw [lN_i, ← z_nat]
    exact hp J1 o1
  · intro s hs ih
    have hTs := hT2 s
    have hcur : fb_sm (flG T n mm) s % PP < PP := Nat.mod_lt _ (by decide)
    have ha : fb_sm (flG T n mm) (s + 1) % PP = (fb_sm (flG T n mm) s % PP + flG T n mm s) % PP := by rw [fb_sm_succ, Nat.mod_add_mod]
    rw [ha] at ih
    refine s_X9_together_10 _ _ _ _ ?_
    rw [show (100 : Int32) = zI (100 : Nat) from rfl, z_lt (by omega) (by omega) (by omega) (by omega), z_sub, show (0 : Int32) = zI 0 from rfl, z_lt (by omega) (by omega) (by omega) (by omega), z_lt (by omega) (by omega) (by omega) (by omega), z_in (by omega) (by omega), z_cl (by omega), z_in (by omega) (by omega), z_s]
    refine ⟨fun c => absurd c (by omega), fun _ => ⟨fun c => ?_, fun c => ⟨fun c2 => ?_, fun c2 => ⟨by omega, by omega, fun y1 e1 => ?_⟩⟩⟩⟩
    · unfold flG at ih
      rw [if_neg (by omega), Nat.add_zero, Nat.mod_mod] at ih
      exact ih
    · unfold flG at ih
      rw [if_pos (by omega), pas_big n _ (by omega), Nat.mul_zero, Nat.add_zero, Nat.mod_mod] at ih
      exact ih
    · have hk : (mm - (s : Int)).toNat ≤ 100 := by omega
      have hpl := pas_lt n (mm - (s : Int)).toNat
      have hprod := mulP hTs hpl
      have e2 : flG T n mm s = T s * pas n (mm - (s : Int)).toNat := by unfold flG; rw [if_pos (by omega)]
      rw [z_clI (by omega) (by omega), o1 20 (by decide), hT s (by omega), c1 _ hk, lN_mul, lN_add, l_rem (by omega)] at e1
      rw [e1, ← e2]
      exact ih
end MB
