/-! the reference: the counts of all parts -/
/-- the cells of part p -/
def pL (n : Nat) (Bd : Nat → Bool) (pt : Nat → Nat) (p : Nat) : List Nat := (List.range n).filter (fun a => Bd a && decide (pt a = p))
theorem pL_s (n : Nat) (Bd : Nat → Bool) (pt : Nat → Nat) (p : Nat) : pL (n + 1) Bd pt p = pL n Bd pt p ++ (if (Bd n && decide (pt n = p)) = true then [n] else []) := by
  unfold pL
  rw [List.range_succ, List.filter_append]
  congr 1
  rw [List.filter_cons]
  rfl
theorem pL_len (n : Nat) (Bd : Nat → Bool) (pt : Nat → Nat) (p : Nat) : (pL n Bd pt p).length ≤ n := by
  have := List.length_filter_le (fun a => Bd a && decide (pt a = p)) (List.range n)
  rw [List.length_range] at this
  exact this
theorem pL_mem {n : Nat} {Bd : Nat → Bool} {pt : Nat → Nat} {p x : Nat} : x ∈ pL n Bd pt p ↔ x < n ∧ Bd x = true ∧ pt x = p := by
  unfold pL
  rw [List.mem_filter, List.mem_range]
  simp
/-- the parts are numbered pt, over the border Bd -/
def mpt (n : Nat) (Bd : Nat → Bool) (pt : Nat → Nat) (I : tg_I) : Prop := ∀ a, a < n → I 15 a = if Bd a then zI (pt a : Nat) else -1
/-- what the parts are -/
def ptok (n : Nat) (nbr : Nat → Nat → Bool) (H N : Nat → Bool) (Bd : Nat → Bool) (pt : Nat → Nat) (np : Nat) : Prop := np ≤ 100 ∧ (∀ a, a < n → Bd a = true → pt a < np) ∧ ∀ p, p < np → ptL n nbr H N (pL n Bd pt p) ∧ pL n Bd pt p ≠ []
section MG
variable {I : tg_I} {J : tg_J} {P : Option Value → tg_I → tg_J → Prop} {w h sh : Nat} {M H B F Bd : Nat → Bool} {pt : Nat → Nat}
theorem tryPart_ok (gk : gOk w h sh) (hm : mst w h sh M H B F I) (oS : okS (w * h) M H B F) (hpt : mpt (w * h) Bd pt I) (hpb : ∀ a, a < w * h → Bd a = true → pt a < 100) {p : Nat} (hp100 : p < 100) (hA : ptL (w * h) (nb w h sh) H (opS (w * h) H B) (pL (w * h) Bd pt p)) (hne : pL (w * h) Bd pt p ≠ []) (hl : (pL (w * h) Bd pt p).length ≤ 12) (hp : ∀ I' J', (∀ q, q ≠ 16 → q ≠ 17 → I' q = I q) → wJ J J' (fun i => pcn (okF (w * h) (nb w h sh) M (opS (w * h) H B) (pL (w * h) Bd pt p)) (Q18 p (pL (w * h) Bd pt p) i) 0 (pL (w * h) Bd pt p) (fun _ => false)) (fun i => pcn (okF (w * h) (nb w h sh) M (opS (w * h) H B) (pL (w * h) Bd pt p)) (Q19 (pL (w * h) Bd pt p) i) 0 (pL (w * h) Bd pt p) (fun _ => false)) → P none I' J') : call pgM zX9_tryPart [.ref 0, .int (zI p)] I J P := by
  obtain ⟨hn1, hn2⟩ := mul_le100 gk
  refine e_X9_tryPart _ ?_
  have key := up_loop (L := fun k => ∀ I1, (∀ q, q ≠ 16 → q ≠ 17 → I1 q = I q) → lsI (pL k Bd pt p) I1 → (∀ x, x ∈ pL k Bd pt p → I1 17 x = -1) → l_X9_tryPart_4 I1 J P (zI p) (zI (pL k Bd pt p).length) (zI k)) (w * h) ?_ ?_ 0 (Nat.zero_le _) I (fun _ _ _ => rfl) (fun k hk => absurd hk (by simp [pL])) (fun x hx => by simp [pL] at hx)
  · exact key
  · intro I1 o ls tr
    refine s_X9_tryPart_4 _ _ _ ⟨fun _ => ?_, fun c => absurd (by rw [o 0 (by decide) (by decide), hm.1.2.2.2]; exact Int32.le_refl _) c⟩
    have m1 : mst w h sh M H B F I1 := mst_keep hm (fun q hq => o q (by omega) (by omega))
    refine tries (I0 := I1) gk m1 oS hA hl hp100 ls (pL (w * h) Bd pt p) [] rfl hne (fun _ => false) I1 J ⟨fun x hx => by simp at hx, fun x hx => tr x (by simpa using hx)⟩ (fun _ _ => rfl) (fun I' J' a o2 wj => ?_)
    refine s_X9_tryPart_47 _ _ _ ⟨fun _ => hp I' J' (fun q a b => (o2 q b).trans (o q a b)) wj, fun c => absurd (by decide) c⟩
  · intro k hk ih I1 o ls tr
    have hlen := pL_len k Bd pt p
    refine s_X9_tryPart_4 _ _ _ ?_
    rw [o 0 (by decide) (by decide), o 15 (by decide) (by decide), hm.1.2.2.2, z_le (by omega) (by omega) (by omega) (by omega), z_in (by omega) (by omega), z_cl (by omega), hpt k hk, z_s]
    have hb := hpb k hk
    rw [pL_s] at ih
    have hcond : (if Bd k = true then zI (pt k : Nat) else -1) = zI p ↔ (Bd k && decide (pt k = p)) = true := by
      cases e : Bd k
      · rw [if_neg (by simp), show (-1 : Int32) = zI (-1) from rfl, z_eq (by omega) (by omega) (by omega) (by omega)]
        simp
      · have := hb e
        rw [if_pos rfl, z_eq (by omega) (by omega) (by omega) (by omega)]
        simp
        omega
    rw [hcond]
    refine ⟨fun c => absurd c (by omega), fun _ => ⟨by omega, fun c => ?_, fun c => ?_⟩⟩
    · rw [if_neg c, List.append_nil] at ih
      exact ih I1 o ls tr
    · rw [if_pos c] at ih
      have hkn : k ∉ pL k Bd pt p := fun q => absurd (pL_mem.mp q).1 (by omega)
      rw [z_in (by omega) (by omega), z_cl (by omega), z_s]
      refine ⟨by omega, fun I2 e2 => ⟨by omega, fun I3 e3 => ?_⟩⟩
      rw [List.length_append, show [k].length = 1 from rfl] at ih
      refine ih I3 (fun q a b => by rw [e3, u2_other _ _ _ _ b, e2, u2_other _ _ _ _ a]; exact o q a b) (fun j hj => ?_) (fun x hx => ?_)
      · rw [e3, u2_other _ _ _ _ (by decide), e2, u2_at]
        rw [List.length_append, show [k].length = 1 from rfl] at hj
        by_cases e : j = (pL k Bd pt p).length
        · rw [if_pos e, e]; simp
        · rw [if_neg e, ls j (by omega)]
          congr 2
          rw [List.getD_eq_getElem?_getD, List.getD_eq_getElem?_getD, List.getElem?_append_left (by omega)]
      · rw [e3, u2_at]
        by_cases e : x = k
        · rw [if_pos e]
        · rw [if_neg e, e2, u2_other _ _ _ _ (by decide)]
          rcases List.mem_append.mp hx with z | z
          · exact tr x z
          · exact absurd (List.mem_singleton.mp z) e
/-- how many fitting sets each part has -/
def mwy (w h sh : Nat) (M H B Bd : Nat → Bool) (pt : Nat → Nat) (np : Nat) (J : tg_J) : Prop := (∀ p m, p < np → m < 13 → J 18 (13 * p + m) = lN (wy (w * h) (nb w h sh) M (opS (w * h) H B) (pL (w * h) Bd pt p) m)) ∧ ∀ c m, c < w * h → Bd c = true → m < 13 → J 19 (13 * c + m) = lN (wz (w * h) (nb w h sh) M (opS (w * h) H B) (pL (w * h) Bd pt (pt c)) c m)
theorem findWays_ok (gk : gOk w h sh) (hm : mst w h sh M H B F I) (oS : okS (w * h) M H B F) (hpt : mpt (w * h) Bd pt I) {np : Nat} (hnp : I 0 26 = zI np) (hok : ptok (w * h) (nb w h sh) H (opS (w * h) H B) Bd pt np) (hl : ∀ p, p < np → (pL (w * h) Bd pt p).length ≤ 12) (hp : ∀ I' J', (∀ q, q ≠ 16 → q ≠ 17 → I' q = I q) → (∀ q, q ≠ 18 → q ≠ 19 → J' q = J q) → mwy w h sh M H B Bd pt np J' → P none I' J') : call pgM zX9_findWays [.ref 0] I J P := by
  obtain ⟨hn1, hn2⟩ := mul_le100 gk
  obtain ⟨k1, k2, k3⟩ := hok
  refine e_X9_findWays ?_
  have key := up_loop (L := fun k => ∀ J1, (∀ q, q ≠ 18 → q ≠ 19 → J1 q = J q) → (∀ i, i < k → J1 18 i = 0 ∧ J1 19 i = 0) → l_X9_findWays_2 I J1 P (zI k)) 1300 ?_ ?_ 0 (Nat.zero_le _) J (fun _ _ _ => rfl) (fun i hi => absurd hi (by omega))
  · exact key
  · intro J1 o z
    refine s_X9_findWays_2 _ ⟨fun _ => ?_, fun c => absurd (Int32.le_refl _) c⟩
    have key2 := up_loop (L := fun k => ∀ I2 J2, (∀ q, q ≠ 16 → q ≠ 17 → I2 q = I q) → (∀ q, q ≠ 18 → q ≠ 19 → J2 q = J q) → (∀ p m, p < np → m < 13 → J2 18 (13 * p + m) = lN (if p < k then wy (w * h) (nb w h sh) M (opS (w * h) H B) (pL (w * h) Bd pt p) m else 0)) → (∀ c m, c < w * h → Bd c = true → m < 13 → J2 19 (13 * c + m) = lN (if pt c < k then wz (w * h) (nb w h sh) M (opS (w * h) H B) (pL (w * h) Bd pt (pt c)) c m else 0)) → l_X9_findWays_31 I2 J2 P (zI k)) np ?_ ?_ 0 (Nat.zero_le _) I J1 (fun _ _ _ => rfl) o (fun p m hp hm => by rw [(z (13 * p + m) (by omega)).1, if_neg (by omega)]; rfl) (fun c m hc _ hm => by rw [(z (13 * c + m) (by omega)).2, if_neg (by omega)]; rfl)
    · exact key2
    · intro I2 J2 o2 oj z1 z2
      refine s_X9_findWays_31 _ ⟨fun _ => hp I2 J2 o2 oj ⟨fun p m h1 h2 => ?_, fun c m h1 h2 h3 => ?_⟩, fun c => absurd (by rw [o2 0 (by decide) (by decide), hnp]; exact Int32.le_refl _) c⟩
      · rw [z1 p m h1 h2, if_pos h1]
      · rw [z2 c m h1 h2 h3, if_pos (k2 c h1 h2)]
    · intro p hpn ih I2 J2 o2 oj z1 z2
      have m2 : mst w h sh M H B F I2 := mst_keep hm (fun q hq => o2 q (by omega) (by omega))
      refine s_X9_findWays_31 _ ?_
      rw [o2 0 (by decide) (by decide), hnp, z_le (by omega) (by omega) (by omega) (by omega), z_s]
      refine ⟨fun c => absurd c (by omega), fun _ => tryPart_ok gk m2 oS (fun a ha => by rw [o2 15 (by decide) (by decide)]; exact hpt a ha) (fun a ha hb => by have := k2 a ha hb; omega) (show p < 100 by omega) (k3 p hpn).1 (k3 p hpn).2 (hl p hpn) (fun I3 J3 o3 wj => ⟨rfl, ?_⟩)⟩
      have hs : ∀ i j, i < w * h → j < w * h → nb w h sh i j = true → nb w h sh j i = true := fun i j a b c => nb_sym1 gk a c
      have hAn : ∀ x, x ∈ pL (w * h) Bd pt p → x < w * h := fun x hx => (pL_mem.mp hx).1
      refine ih I3 J3 (fun q a b => (o3 q a b).trans (o2 q a b)) (fun q a b => (wj.1 q a b).trans (oj q a b)) (fun q m h1 h2 => ?_) (fun c m h1 h2 h3 => ?_)
      · rw [wj.2.1, z1 q m h1 h2, l_add]
        congr 1
        dsimp only
        rw [pcn_fit hs hAn (k3 p hpn).1.1]
        by_cases e : q = p
        · subst e
          rw [if_neg (by omega), if_pos (by omega), Nat.zero_add]
          unfold wy
          refine cnt_cong _ _ (fun g _ => ?_)
          unfold Q18
          rw [Bool.and_comm]
          congr 1
          apply decide_eq_decide.mpr
          omega
        · rw [cnt_0 _ _ (fun g _ => by unfold Q18; rw [decide_eq_false (by omega)]; rfl), Nat.add_zero]
          by_cases e2 : q < p
          · rw [if_pos e2, if_pos (by omega)]
          · rw [if_neg e2, if_neg (by omega)]
      · rw [wj.2.2, z2 c m h1 h2 h3, l_add]
        congr 1
        dsimp only
        rw [pcn_fit hs hAn (k3 p hpn).1.1]
        have e5 : (13 * c + m) / 13 = c := by omega
        have e6 : (13 * c + m) % 13 = m := by omega
        by_cases e : pt c = p
        · rw [if_neg (by omega), if_pos (by omega), Nat.zero_add]
          unfold wz
          rw [e]
          refine cnt_cong _ _ (fun g _ => ?_)
          unfold Q19
          rw [e5, e6, show decide (c ∈ pL (w * h) Bd pt p ∧ m = (pL (w * h) Bd pt p).countP g) = decide ((pL (w * h) Bd pt p).countP g = m) from decide_eq_decide.mpr ⟨fun q => q.2.symm, fun q => ⟨pL_mem.mpr ⟨h1, h2, e⟩, q.symm⟩⟩]
          cases fitF (w * h) (nb w h sh) M (opS (w * h) H B) (pL (w * h) Bd pt p) g <;> simp
        · rw [cnt_0 _ _ (fun g _ => by unfold Q19; rw [e5, decide_eq_false (fun q => e (pL_mem.mp q.1).2.2)]; rfl), Nat.add_zero]
          by_cases e2 : pt c < p
          · rw [if_pos e2, if_pos (by omega)]
          · rw [if_neg e2, if_neg (by omega)]
  · intro k hk ih J1 o z
    refine s_X9_findWays_2 _ ?_
    rw [show (1300 : Int32) = zI (1300 : Nat) from rfl, z_le (by omega) (by omega) (by omega) (by omega), z_in (by omega) (by omega), z_cl (by omega), z_s]
    refine ⟨fun c => absurd c (by omega), fun _ => ⟨by omega, fun J2 e2 => ⟨by omega, fun J3 e3 => ?_⟩⟩⟩
    refine ih J3 (fun q a b => by rw [e3, u2_other _ _ _ _ b, e2, u2_other _ _ _ _ a]; exact o q a b) (fun i hi => ⟨?_, ?_⟩)
    · rw [e3, u2_other _ _ _ _ (by decide), e2, u2_at]
      by_cases e : i = k
      · rw [if_pos e]
      · rw [if_neg e]; exact (z i (by omega)).1
    · rw [e3, u2_at]
      by_cases e : i = k
      · rw [if_pos e]
      · rw [if_neg e, e2, u2_other _ _ _ _ (by decide)]; exact (z i (by omega)).2
end MG
