/-! the reference: sums over parts -/
section MS
variable {I : tg_I} {J : tg_J} {P : Option Value → tg_I → tg_J → Prop}
def oJ2 (J J' : tg_J) : Prop := ∀ q, q ≠ 20 → q ≠ 21 → J' q = J q
theorem ap38 {J0 : tg_J} (pl wi : Bool) {T V : Nat → Nat} {fr : Nat} (hfr : fr + 12 < 1300) (hV : ∀ m, m < 13 → J0 (if wi then 19 else 18) (fr + m) = lN (V m) ∧ V m ≤ 2 ^ 14) (hT : ∀ s, s ≤ 100 → J0 20 s = lN (T s)) (hT2 : ∀ s, T s < PP) {s : Nat} (hs : s ≤ 100) {J1 : tg_J} (o1 : ∀ q, q ≠ 21 → J1 q = J0 q) (n1 : ∀ t, t < 201 → J1 21 t = lN (vA pl T V s 0 t))
    (hp : ∀ J', (∀ q, q ≠ 21 → J' q = J0 q) → (∀ t, t < 201 → J' 21 t = lN (vA pl T V (s + 1) 0 t)) → l_X9_addPart_28 I J' P (zI fr) (bi pl) (bi wi) (zI ((s + 1 : Nat) : Int))) : l_X9_addPart_38 I J1 P (zI fr) (bi pl) (bi wi) (zI s) 0 := by
  have hTs := hT2 s
  have hPP : PP = 1000000007 := rfl
  have key := up_loop (L := fun m => ∀ J2, (∀ q, q ≠ 21 → J2 q = J0 q) → (∀ t, t < 201 → J2 21 t = lN (vA pl T V s m t)) → l_X9_addPart_38 I J2 P (zI fr) (bi pl) (bi wi) (zI s) (zI m)) 13 ?_ ?_ 0 (Nat.zero_le _) J1 o1 n1
  · exact key
  · intro J2 o2 n2
    refine s_X9_addPart_38 _ _ _ _ _ ⟨fun _ => ?_, fun c => absurd (Int32.le_refl _) c⟩
    rw [z_s]
    exact hp J2 o2 (fun t ht => by rw [n2 t ht, vA_row])
  · intro m hm ih J2 o2 n2
    obtain ⟨hv1, hv2⟩ := hV m hm
    have hval := vA_lt pl T V s m (s + m)
    have hprod : T s * V m < 2 ^ 60 := mulP hTs (by rw [hPP]; omega)
    refine s_X9_addPart_38 _ _ _ _ _ ?_
    rw [show (13 : Int32) = zI (13 : Nat) from rfl, z_le (by omega) (by omega) (by omega) (by omega), z_in (by omega) (by omega), z_cl (by omega), o2 20 (by decide), hT s hs, cmp_le0 (by omega), z_add, z_add, show (fr : Int) + (m : Int) = ((fr + m : Nat) : Int) by omega, show (s : Int) + (m : Int) = ((s + m : Nat) : Int) by omega, z_in (by omega) (by omega), z_cl (by omega), z_in (by omega) (by omega), z_cl (by omega), n2 (s + m) (by omega), z_s s, z_s m, o2 18 (by decide), o2 19 (by decide), bi_0, bi_0]
    refine ⟨fun c => absurd c (by omega), fun _ => ⟨by omega, fun c => hp J2 o2 (fun t ht => by rw [n2 t ht, vA_skip pl c]), fun c => ?_⟩⟩
    have hy : ∀ y1 : Int64, y1 = lN (V m) → ∀ y2, y2 = lN (vA pl T V s m (s + m)) + lN (T s) * y1 - (lN (vA pl T V s m (s + m)) + lN (T s) * y1) / 1000000007 * 1000000007 → y2 = lN ((vA pl T V s m (s + m) + T s * V m) % PP) := fun y1 e1 y2 e2 => by
      rw [e2, e1, lN_mul, lN_add, l_rem (by omega)]
    have upd : ∀ (x : Int64) (J3 : tg_J), J3 = u2 J2 21 (s + m) x → x = lN (vA pl T V s (m + 1) (s + m)) → l_X9_addPart_38 I J3 P (zI fr) (bi pl) (bi wi) (zI s) (zI ((m + 1 : Nat) : Int)) := fun x J3 e3 ex => ih J3 (fun q hq => by rw [e3, u2_other _ _ _ _ hq]; exact o2 q hq) (fun t ht => by
      rw [e3, u2_at]
      by_cases e : t = s + m
      · rw [if_pos e, ex, e]
      · rw [if_neg e, n2 t ht, vA_off pl e])
    have body : ∀ y1 : Int64, y1 = lN (V m) → ∀ y2, y2 = lN (vA pl T V s m (s + m)) + lN (T s) * y1 - (lN (vA pl T V s m (s + m)) + lN (T s) * y1) / 1000000007 * 1000000007 → ((pl = false → (0 ≤ ((s + m : Nat) : Int) ∧ ((s + m : Nat) : Int) < ((201 : Nat) : Int)) ∧ ∀ J4, J4 = u2 J2 21 (s + m) y2 → l_X9_addPart_38 I J4 P (zI fr) (bi pl) (bi wi) (zI s) (zI ((m + 1 : Nat) : Int))) ∧ (¬ pl = false → ((lg_cmp y1 0 ≤ 0 → (0 ≤ ((s + m : Nat) : Int) ∧ ((s + m : Nat) : Int) < ((201 : Nat) : Int)) ∧ (0 ≤ ((s + m : Nat) : Int) ∧ ((s + m : Nat) : Int) < ((201 : Nat) : Int)) ∧ ∀ J4, J4 = u2 J2 21 (s + m) (lN (vA pl T V s m (s + m))) → l_X9_addPart_38 I J4 P (zI fr) (bi pl) (bi wi) (zI s) (zI ((m + 1 : Nat) : Int))) ∧ (¬ lg_cmp y1 0 ≤ 0 → (0 ≤ ((s + m : Nat) : Int) ∧ ((s + m : Nat) : Int) < ((201 : Nat) : Int)) ∧ ∀ J4, J4 = u2 J2 21 (s + m) 1 → l_X9_addPart_38 I J4 P (zI fr) (bi pl) (bi wi) (zI s) (zI ((m + 1 : Nat) : Int)))))) := fun y1 e1 y2 e2 => by
      refine ⟨fun cp => ⟨by omega, fun J4 e4 => upd _ J4 e4 ?_⟩, fun cp => ?_⟩
      · rw [hy y1 e1 y2 e2, cp, vA_on hm]
      · have cp : pl = true := by simpa using cp
        rw [e1, cmp_le0 (by omega)]
        refine ⟨fun c0 => ⟨by omega, by omega, fun J4 e4 => upd _ J4 e4 ?_⟩, fun c0 => ⟨by omega, fun J4 e4 => upd _ J4 e4 ?_⟩⟩
        · rw [cp, vA_onP hm (by omega), if_neg (by omega)]
        · rw [cp, vA_onP hm (by omega), if_pos (by omega)]; rfl
    refine ⟨fun cw => ⟨by omega, fun y1 e1 => ⟨by omega, by omega, fun y2 e2 => ?_⟩⟩, fun cw => ⟨by omega, fun y1 e1 => ⟨by omega, by omega, fun y2 e2 => ?_⟩⟩⟩
    · rw [cw] at hv1
      exact body y1 (by rw [e1]; exact hv1) y2 e2
    · rw [show wi = true by simpa using cw] at hv1
      exact body y1 (by rw [e1]; exact hv1) y2 e2
theorem addPart_ok (pl wi : Bool) {T V : Nat → Nat} {fr : Nat} (hfr : fr + 12 < 1300) (hV : ∀ m, m < 13 → J (if wi then 19 else 18) (fr + m) = lN (V m) ∧ V m ≤ 2 ^ 14) (hT : ∀ s, s ≤ 100 → J 20 s = lN (T s)) (hT2 : ∀ s, T s < PP)
    (hp : ∀ J', oJ2 J J' → (∀ t, t ≤ 100 → J' 20 t = lN (if pl then cvp T V t else cv T V t)) → P none I J') : call pgM zX9_addPart [.ref 0, .int (zI fr), .int (bi pl), .int (bi wi)] I J P := by
  refine e_X9_addPart _ _ _ ?_
  have key := up_loop (L := fun k => ∀ J1, (∀ q, q ≠ 21 → J1 q = J q) → (∀ t, t < k → J1 21 t = 0) → l_X9_addPart_3 I J1 P (zI fr) (bi pl) (bi wi) (zI k)) 201 ?_ ?_ 0 (Nat.zero_le _) J (fun _ _ => rfl) (fun t h => absurd h (by omega))
  · exact key
  · intro J1 o1 z1
    refine s_X9_addPart_3 _ _ _ _ ⟨fun _ => ?_, fun c => absurd (Int32.le_refl _) c⟩
    have key2 := up_loop (L := fun s => ∀ J2, (∀ q, q ≠ 21 → J2 q = J q) → (∀ t, t < 201 → J2 21 t = lN (vA pl T V s 0 t)) → l_X9_addPart_28 I J2 P (zI fr) (bi pl) (bi wi) (zI s)) 101 ?_ ?_ 0 (Nat.zero_le _) J1 o1 (fun t ht => by rw [z1 t ht, vA_0]; rfl)
    · exact key2
    · intro J2 o2 n2
      refine s_X9_addPart_28 _ _ _ _ ⟨fun _ => ?_, fun c => absurd (by decide) c⟩
      have key3 := up_loop (L := fun k => ∀ J3, oJ2 J J3 → (∀ t, t < 201 → J3 21 t = lN (vA pl T V 101 0 t)) → (∀ t, t < k → J3 20 t = lN (vA pl T V 101 0 t)) → l_X9_addPart_166 I J3 P (zI k)) 201 ?_ ?_ 0 (Nat.zero_le _) J2 (fun q _ b => o2 q b) n2 (fun t h => absurd h (by omega))
      · exact key3
      · intro J3 o3 n3 z3
        exact s_X9_addPart_166 _ ⟨fun _ => hp J3 o3 (fun t ht => by rw [z3 t (by omega), vA_end pl T V ht]), fun c => absurd (Int32.le_refl _) c⟩
      · intro k hk ih J3 o3 n3 z3
        refine s_X9_addPart_166 _ ?_
        rw [show (201 : Int32) = zI (201 : Nat) from rfl, z_le (by omega) (by omega) (by omega) (by omega), z_in (by omega) (by omega), z_cl (by omega), z_s, n3 k hk]
        refine ⟨fun c => absurd c (by omega), fun _ => ⟨by omega, by omega, fun J4 e4 => ih J4 (fun q a b => by rw [e4, u2_other _ _ _ _ a]; exact o3 q a b) (fun t ht => by rw [e4, u2_other _ _ _ _ (by decide)]; exact n3 t ht) (fun t ht => ?_)⟩⟩
        rw [e4, u2_at]
        by_cases e : t = k
        · rw [if_pos e, e]
        · rw [if_neg e]; exact z3 t (by omega)
    · intro s hs ih J2 o2 n2
      refine s_X9_addPart_28 _ _ _ _ ?_
      rw [show (100 : Int32) = zI (100 : Nat) from rfl, z_lt (by omega) (by omega) (by omega) (by omega)]
      exact ⟨fun c => absurd c (by omega), fun _ => ap38 pl wi hfr hV hT hT2 (show s ≤ 100 by omega) o2 n2 ih⟩
  · intro k hk ih J1 o1 z1
    refine s_X9_addPart_3 _ _ _ _ ?_
    rw [show (201 : Int32) = zI (201 : Nat) from rfl, z_le (by omega) (by omega) (by omega) (by omega), z_in (by omega) (by omega), z_cl (by omega), z_s]
    refine ⟨fun c => absurd c (by omega), fun _ => ⟨by omega, fun J2 e2 => ih J2 (fun q hq => by rw [e2, u2_other _ _ _ _ hq]; exact o1 q hq) (fun t ht => ?_)⟩⟩
    rw [e2, u2_at]
    by_cases e : t = k
    · rw [if_pos e]
    · rw [if_neg e]; exact z1 t (by omega)
theorem sumParts_ok (pl : Bool) {W : Nat → Nat → Nat} {np : Nat} (hnp : I 0 26 = zI np) (hn : np ≤ 100) (hW : ∀ p m, p < np → m < 13 → J 18 (13 * p + m) = lN (W p m) ∧ W p m ≤ 2 ^ 14) {u : Int} (hu : -1 ≤ u ∧ u < 1000)
    (hp : ∀ J', oJ2 J J' → (∀ t, t ≤ 100 → J' 20 t = lN (sT pl W u np t)) → P none I J') : call pgM zX9_sumParts [.ref 0, .int (zI u), .int (bi pl)] I J P := by
  refine e_X9_sumParts _ _ ?_
  have key := up_loop (L := fun k => ∀ J1, oJ2 J J1 → (∀ t, t < k → J1 20 t = lN (if t = 0 then 1 else 0)) → l_X9_sumParts_2 I J1 P (zI u) (bi pl) (zI k)) 201 ?_ ?_ 0 (Nat.zero_le _) J (fun _ _ _ => rfl) (fun t h => absurd h (by omega))
  · exact key
  · intro J1 o1 z1
    refine s_X9_sumParts_2 _ _ _ ⟨fun _ => ?_, fun c => absurd (Int32.le_refl _) c⟩
    have key2 := up_loop (L := fun k => ∀ J2, oJ2 J J2 → (∀ t, t ≤ 100 → J2 20 t = lN (sT pl W u k t)) → l_X9_sumParts_32 I J2 P (zI u) (bi pl) (zI k)) np ?_ ?_ 0 (Nat.zero_le _) J1 o1 (fun t ht => z1 t (by omega))
    · exact key2
    · intro J2 o2 n2
      exact s_X9_sumParts_32 _ _ _ ⟨fun _ => hp J2 o2 n2, fun c => absurd (by rw [hnp]; exact Int32.le_refl _) c⟩
    · intro k hk ih J2 o2 n2
      have hs : ∀ t, sT pl W u (k + 1) t = if (k : Int) = u then sT pl W u k t else if pl then cvp (sT pl W u k) (W k) t else cv (sT pl W u k) (W k) t := fun _ => rfl
      refine s_X9_sumParts_32 _ _ _ ?_
      rw [hnp, z_le (by omega) (by omega) (by omega) (by omega), z_eq (by omega) (by omega) (by omega) (by omega), z_s, show (13 : Int32) = zI 13 from rfl, z_mul, show (13 : Int) * (k : Int) = ((13 * k : Nat) : Int) by omega]
      refine ⟨fun c => absurd c (by omega), fun _ => ⟨fun c => ih J2 o2 (fun t ht => by rw [n2 t ht, hs, if_pos c]), fun c => ?_⟩⟩
      refine addPart_ok pl false (by omega) (fun m hm => ?_) n2 (fun s => sT_lt pl W u k s) (fun J3 o3 n3 => ⟨rfl, ih J3 (fun q a b => (o3 q a b).trans (o2 q a b)) (fun t ht => by rw [n3 t ht, hs, if_neg c])⟩)
      rw [if_neg (by simp), o2 18 (by decide) (by decide)]
      exact hW k m hk hm
  · intro k hk ih J1 o1 z1
    have upd : ∀ (x : Int64) (J2 : tg_J), J2 = u2 J1 20 k x → x = lN (if k = 0 then 1 else 0) → l_X9_sumParts_2 I J2 P (zI u) (bi pl) (zI ((k + 1 : Nat) : Int)) := fun x J2 e2 ex => ih J2 (fun q a b => by rw [e2, u2_other _ _ _ _ a]; exact o1 q a b) (fun t ht => by
      rw [e2, u2_at]
      by_cases e : t = k
      · rw [if_pos e, ex, e]
      · rw [if_neg e]; exact z1 t (by omega))
    refine s_X9_sumParts_2 _ _ _ ?_
    rw [show (201 : Int32) = zI (201 : Nat) from rfl, z_le (by omega) (by omega) (by omega) (by omega), z_in (by omega) (by omega), z_cl (by omega), z_s, show (0 : Int32) = zI 0 from rfl, z_eq (by omega) (by omega) (by omega) (by omega)]
    refine ⟨fun c => absurd c (by omega), fun _ => ⟨fun c => ⟨by omega, fun J2 e2 => upd _ J2 e2 ?_⟩, fun c => ⟨by omega, fun J2 e2 => upd _ J2 e2 ?_⟩⟩⟩
    · rw [if_neg (by omega)]; rfl
    · rw [if_pos (by omega)]; rfl
end MS
