/-! the reference: find, hint -/
section MFn
variable {I : tg_I} {J : tg_J} {P : Option Value → tg_I → tg_J → Prop} {w h sh : Nat} {M H B F : Nat → Bool} {mv kd md : Nat} {hist : Nat → hS} {R T : Nat → Bool}
/-- what finding may change -/
def oFm (I I' : tg_I) : Prop := (∀ q, q ≠ 0 → q ≠ 11 → q ≠ 12 → q ≠ 13 → q ≠ 14 → q ≠ 15 → q ≠ 16 → q ≠ 17 → I' q = I q) ∧ ∀ x, x ≠ 23 → x ≠ 24 → x ≠ 26 → x ≠ 27 → I' 0 x = I 0 x
theorem oFm.tr {I I1 I2 : tg_I} (h1 : oFm I I1) (h2 : oFm I1 I2) : oFm I I2 := ⟨fun q a b c d e f g k => (h2.1 q a b c d e f g k).trans (h1.1 q a b c d e f g k), fun x a b c d => (h2.2 x a b c d).trans (h1.2 x a b c d)⟩
theorem oFm.mst {I I' : tg_I} (o : oFm I I') (hm : mst w h sh M H B F I) : mst w h sh M H B F I' := mst_K hm (fun q a b => o.1 q (by omega) (by omega) (by omega) (by omega) (by omega) (by omega) (by omega) (by omega)) (fun x hx => o.2 x (by omega) (by omega) (by omega) (by omega))
theorem oRu.fm {I I' : tg_I} (o : oRu I I') : oFm I I' := ⟨fun q a _ _ b c d e f => o.1 q a b c d e f, fun x _ _ a b => o.2 x a b⟩
theorem fn49 (gk : gOk w h sh) (hm : mst w h sh M H B F I) {G : Nat → Bool} {v : Bool} {W : Nat → Bool} (hg : mgv G v W I) (h23 : I 0 23 = -1) {v1 : Int32}
    (hp0 : (∀ c, c < w * h → ¬ isN F G v c) → ∀ I', (∀ q, q ≠ 0 → I' q = I q) → (∀ x, I' 0 x = I 0 x) → l_X9_find_109 I' J P v1 0) (hp1 : ∀ c, c < w * h → isN F G v c → (∀ c', c' < c → ¬ isN F G v c') → ∀ I', (∀ q, q ≠ 0 → I' q = I q) → (∀ x, x ≠ 23 → I' 0 x = I 0 x) → I' 0 23 = zI c → P none I' J) : l_X9_find_49 I J P v1 (I 0 3 - 1) := by
  obtain ⟨hn1, hn2⟩ := mul_le100 gk
  have down : ∀ k, k ≤ w * h → ∀ I1, (∀ q, q ≠ 0 → I1 q = I q) → (∀ x, x ≠ 23 → I1 0 x = I 0 x) → ((I1 0 23 = -1 ∧ ∀ c, k ≤ c → c < w * h → ¬ isN F G v c) ∨ ∃ c, k ≤ c ∧ c < w * h ∧ I1 0 23 = zI c ∧ isN F G v c ∧ ∀ c', k ≤ c' → c' < c → ¬ isN F G v c') → l_X9_find_49 I1 J P v1 (zI ((k : Int) - 1)) := by
    intro k
    induction k with
    | zero =>
      intro _ I1 o1 o2 st
      refine s_X9_find_49 _ _ ⟨fun _ => ?_, fun c => absurd (by decide) c⟩
      rcases st with ⟨s1, s2⟩ | ⟨c, -, c1, c2, c3, c4⟩
      · rw [s1]
        refine ⟨fun _ => hp0 (fun c hc => s2 c (by omega) hc) I1 o1 (fun x => ?_), fun z => absurd (by decide) z⟩
        by_cases e : x = 23
        · rw [e, s1, h23]
        · exact o2 x e
      · rw [c2, show (0 : Int32) = zI 0 from rfl, z_lt (by omega) (by omega) (by omega) (by omega)]
        exact ⟨fun z => absurd z (by omega), fun _ => hp1 c c1 c3 (fun c' hc' => c4 c' (by omega) hc') I1 o1 o2 c2⟩
    | succ k ih =>
      intro hk I1 o1 o2 st
      have h13 : I1 13 k = if G k then bi v else -1 := by rw [o1 13 (by decide)]; exact hg.1 k (by omega)
      have h4 : I1 4 k = bi (F k) := by rw [o1 4 (by decide)]; exact (hm.2.2 k (by omega)).2.2
      have yes : isN F G v k → ∀ I2, I2 = u2 I1 0 23 (zI k) → l_X9_find_49 I2 J P v1 (zI ((k : Int) - 1)) := fun hi I2 e2 => ih (by omega) I2 (fun q hq => by rw [e2, u2_other _ _ _ _ hq]; exact o1 q hq) (fun x hx => by rw [e2, u2_at, if_neg hx]; exact o2 x hx) (Or.inr ⟨k, Nat.le_refl _, by omega, by rw [e2, u2_eq], hi, fun c' a b => absurd a (by omega)⟩)
      have no : ¬ isN F G v k → ∀ I2, I2 = u2 I1 0 23 (I1 0 23) → l_X9_find_49 I2 J P v1 (zI ((k : Int) - 1)) := fun hi I2 e2 => ih (by omega) I2 (fun q hq => by rw [e2, u2_other _ _ _ _ hq]; exact o1 q hq) (fun x hx => by rw [e2, u2_at, if_neg hx]; exact o2 x hx) (by
        rw [e2, u2_eq]
        have ext : ∀ c', k ≤ c' → (k + 1 ≤ c' → ¬ isN F G v c') → ¬ isN F G v c' := fun c' a b => by
          by_cases e : c' = k
          · rw [e]; exact hi
          · exact b (by omega)
        rcases st with ⟨s1, s2⟩ | ⟨c, c0, c1, c2, c3, c4⟩
        · exact Or.inl ⟨s1, fun c a b => ext c a (fun z => s2 c z b)⟩
        · exact Or.inr ⟨c, by omega, c1, c2, c3, fun c' a b => ext c' a (fun z => c4 c' z b)⟩)
      refine s_X9_find_49 _ _ ?_
      rw [show (((k + 1 : Nat) : Int) - 1) = (k : Nat) by omega, show (-1 : Int32) = zI (-1) from rfl, z_add, show ((k : Nat) : Int) + -1 = (k : Int) - 1 by omega, z_in (by omega) (by omega), z_cl (by omega), h13, h4, bi_0]
      refine ⟨fun z => absurd z (by rw [show (0 : Int32) = zI 0 from rfl, z_lt (by omega) (by omega) (by omega) (by omega)]; omega), fun _ => ⟨by omega, ?_⟩⟩
      cases eg : G k
      · rw [if_neg (by simp)]
        refine ⟨fun z => absurd z (by decide), fun _ => ⟨by omega, fun _ => no (fun z => by rw [z.1] at eg; cases eg), fun z => absurd z (by decide)⟩⟩
      · rw [if_pos rfl]
        cases ev : v
        · exact ⟨fun _ => yes ⟨eg, fun z => by rw [ev] at z; cases z.1⟩, fun z => absurd rfl z⟩
        · refine ⟨fun z => absurd z (by decide), fun _ => ⟨by omega, fun z => absurd rfl z, fun _ => ⟨by omega, fun cf => no (fun z => z.2 ⟨ev, by simpa using cf⟩), fun cf => yes ⟨eg, fun z => by rw [z.2] at cf; cases cf⟩⟩⟩⟩
  rw [hm.1.2.2.2, show zI (w * h : Nat) - (1 : Int32) = zI (((w * h : Nat) : Int) - 1) by rw [show (1 : Int32) = zI 1 from rfl, z_sub]]
  exact down (w * h) (Nat.le_refl _) I (fun _ _ => rfl) (fun _ _ => rfl) (Or.inl ⟨h23, fun c a b => absurd a (by omega)⟩)
theorem fn109 (gk : gOk w h sh) (hm : mst w h sh M H B F I) {K : Nat → Bool} {Y : Nat → Nat → Bool} (hk : mvK M K I) (hY : mY (w * h) K Y I) {G : Nat → Bool} {v : Bool} {W : Nat → Bool} (hg : mgv G v W I) (hG : ∀ i, G i = true → i < w * h ∧ M i = v) {v1 : Int32} (hp : ∀ I', (∀ q, q ≠ 11 → q ≠ 12 → I' q = I q) → mvK M (kAdd K G) I' → mY (w * h) (kAdd K G) (yAdd Y G W) I' → call pgM zX9_rule [.ref 0, .int v1] I' J (fun vr I1 J1 => ∃ r1 : Int32, vr = some (.int r1) ∧ ∀ I2, I2 = u2 I1 0 24 r1 → l_X9_find_35 I2 J1 P v1)) : l_X9_find_109 I J P v1 0 := by
  obtain ⟨hn1, hn2⟩ := mul_le100 gk
  have key := up_loop (L := fun k => ∀ I1, (∀ q, q ≠ 11 → q ≠ 12 → I1 q = I q) → (∀ i, i < 100 → I1 11 i = if i < k ∧ G i = true then bi v else I 11 i) → (∀ x j, x < w * h → j < 101 → I1 12 (101 * x + j) = if x < k ∧ G x = true then bi (W j) else I 12 (101 * x + j)) → l_X9_find_109 I1 J P v1 (zI k)) (w * h) ?_ ?_ 0 (Nat.zero_le _) I (fun _ _ _ => rfl) (fun i _ => by rw [if_neg (by omega)]) (fun x j _ _ => by rw [if_neg (by omega)])
  · exact key
  · intro I1 o1 z1 z2
    refine s_X9_find_109 _ _ ⟨fun _ => hp I1 o1 (fun i hi => ?_) (fun x j hx hj hK => ?_), fun c => absurd (by rw [o1 0 (by decide) (by decide), hm.1.2.2.2]; exact Int32.le_refl _) c⟩
    · rw [z1 i hi]
      unfold kAdd
      cases e : G i
      · rw [if_neg (fun z => by cases z.2), Bool.or_false]; exact hk i hi
      · rw [if_pos ⟨(hG i e).1, rfl⟩, Bool.or_true, if_pos rfl, (hG i e).2]
    · rw [z2 x j hx hj]
      unfold yAdd
      unfold kAdd at hK
      cases e : G x
      · rw [if_neg (fun z => by cases z.2), if_neg (by simp)]
        rw [e, Bool.or_false] at hK
        exact hY x j hx hj hK
      · rw [if_pos ⟨hx, rfl⟩, if_pos rfl]
  · intro k hk2 ih I1 o1 z1 z2
    have h13 : I1 13 k = if G k then bi v else -1 := by rw [o1 13 (by decide) (by decide)]; exact hg.1 k (by omega)
    refine s_X9_find_109 _ _ ?_
    rw [o1 0 (by decide) (by decide), hm.1.2.2.2, z_le (by omega) (by omega) (by omega) (by omega), z_in (by omega) (by omega), z_cl (by omega), h13, z_s]
    refine ⟨fun c => absurd c (by omega), fun _ => ⟨by omega, ?_⟩⟩
    cases eg : G k
    · rw [if_neg (by simp)]
      refine ⟨fun _ => ih I1 o1 (fun i hi => ?_) (fun x j hx hj => ?_), fun z => absurd (by decide) z⟩
      · rw [z1 i hi]
        by_cases e : i = k
        · rw [e, eg, if_neg (fun z => by cases z.2), if_neg (fun z => by cases z.2)]
        · by_cases e2 : i < k ∧ G i = true
          · rw [if_pos e2, if_pos ⟨by omega, e2.2⟩]
          · rw [if_neg e2, if_neg (fun z => e2 ⟨by omega, z.2⟩)]
      · rw [z2 x j hx hj]
        by_cases e : x = k
        · rw [e, eg, if_neg (fun z => by cases z.2), if_neg (fun z => by cases z.2)]
        · by_cases e2 : x < k ∧ G x = true
          · rw [if_pos e2, if_pos ⟨by omega, e2.2⟩]
          · rw [if_neg e2, if_neg (fun z => e2 ⟨by omega, z.2⟩)]
    · rw [if_pos rfl]
      refine ⟨fun z => absurd z (by cases v <;> decide), fun _ => ⟨by omega, by omega, fun I2 e2 => ?_⟩⟩
      have key2 := up_loop (L := fun j => ∀ I3, (∀ q, q ≠ 12 → I3 q = I2 q) → (∀ x i, x < w * h → i < 101 → I3 12 (101 * x + i) = if (x < k ∧ G x = true) ∨ (x = k ∧ i < j) then bi (W i) else I 12 (101 * x + i)) → l_X9_find_140 I3 J P v1 (zI k) (zI j)) 101 ?_ ?_ 0 (Nat.zero_le _) I2 (fun _ _ => rfl) (fun x i hx hi => by
        rw [e2, u2_other _ _ _ _ (by decide), z2 x i hx hi]
        by_cases e : x < k ∧ G x = true
        · rw [if_pos e, if_pos (Or.inl e)]
        · rw [if_neg e, if_neg (fun z => by rcases z with z | z; exact e z; omega)])
      · exact key2
      · intro I3 o3 z3
        refine s_X9_find_140 _ _ _ ⟨fun _ => ?_, fun c => absurd (Int32.le_refl _) c⟩
        rw [z_s]
        refine ih I3 (fun q a b => by rw [o3 q b, e2, u2_other _ _ _ _ a]; exact o1 q a b) (fun i hi => ?_) (fun x j hx hj => ?_)
        · rw [o3 11 (by decide), e2, u2_at]
          by_cases e : i = k
          · rw [if_pos e, e, if_pos ⟨by omega, eg⟩]
          · rw [if_neg e, z1 i hi]
            by_cases e2 : i < k ∧ G i = true
            · rw [if_pos e2, if_pos ⟨by omega, e2.2⟩]
            · rw [if_neg e2, if_neg (fun z => e2 ⟨by omega, z.2⟩)]
        · rw [z3 x j hx hj]
          by_cases e : x < k + 1 ∧ G x = true
          · rw [if_pos e, if_pos (by by_cases e5 : x = k; exact Or.inr ⟨e5, hj⟩; exact Or.inl ⟨by omega, e.2⟩)]
          · rw [if_neg e, if_neg (fun z => by
              rcases z with z | z
              · exact e ⟨by omega, z.2⟩
              · exact e ⟨by omega, by rw [z.1]; exact eg⟩)]
      · intro j hj ih2 I3 o3 z3
        have h14 : I3 14 j = bi (W j) := by rw [o3 14 (by decide), e2, u2_other _ _ _ _ (by decide), o1 14 (by decide) (by decide)]; exact hg.2 j hj
        refine s_X9_find_140 _ _ _ ?_
        rw [show (101 : Int32) = zI (101 : Nat) from rfl, z_le (by omega) (by omega) (by omega) (by omega), z_mul, z_add, show ((101 : Nat) : Int) * (k : Int) + (j : Int) = ((101 * k + j : Nat) : Int) by omega, z_in (by omega) (by omega), z_cl (by omega), z_in (by omega) (by omega), z_cl (by omega), h14, nar01 (bi01 _), z_s j]
        refine ⟨fun c => absurd c (by omega), fun _ => ⟨by omega, by omega, fun I4 e4 => ih2 I4 (fun q hq => by rw [e4, u2_other _ _ _ _ hq]; exact o3 q hq) (fun x i hx hi => ?_)⟩⟩
        rw [e4, u2_at]
        by_cases e : x = k ∧ i = j
        · rw [if_pos (by omega), if_pos (Or.inr ⟨e.1, by omega⟩), e.2]
        · rw [if_neg (by omega), z3 x i hx hi]
          by_cases e5 : (x < k ∧ G x = true) ∨ (x = k ∧ i < j)
          · rw [if_pos e5, if_pos (by rcases e5 with z | z; exact Or.inl z; exact Or.inr ⟨z.1, by omega⟩)]
          · rw [if_neg e5, if_neg (fun z => by
              rcases z with z | z
              · exact e5 (Or.inl z)
              · exact e5 (Or.inr ⟨z.1, by omega⟩))]
/-- what was found -/
def mfd (r : Option (Nat × Nat × Bool × (Nat → Bool))) (I : tg_I) : Prop := match r with
  | none => I 0 23 = -1 ∧ I 0 24 = 0
  | some (kd, c, v, W) => I 0 23 = zI c ∧ I 0 24 = zI kd ∧ I 13 c = bi v ∧ ∀ k, k < 101 → I 14 k = bi (W k)
theorem fnL {I0 : tg_I} (gk : gOk w h sh) (hm0 : mst w h sh M H B F I0) (oS : okS (w * h) M H B F) {gr : Nat} (hg1 : 1 ≤ gr) (hgr : gr ≤ 3) : ∀ (f : Nat) (K : Nat → Bool) (Y : Nat → Nat → Bool) (I : tg_I) (J : tg_J), w * h < f + fb_ct K (w * h) → (∀ i, K i = true → H i = true) → (∀ x k, K x = true → Y x k = true → k ≤ 100) → oFm I0 I → mvK M K I → mY (w * h) K Y I → I 0 23 = -1 → (∀ r I' J', hR w h sh M H B F gr f K Y r → (∀ kd c v W, r = some (kd, c, v, W) → c < w * h ∧ 1 ≤ kd ∧ kd ≤ 3 ∧ M c = v ∧ H c = true ∧ ∀ k, W k = true → k ≤ 100) → oFm I0 I' → mfd r I' → P none I' J') → call pgM zX9_rule [.ref 0, .int (zI gr)] I J (fun vr I1 J1 => ∃ r1 : Int32, vr = some (.int r1) ∧ ∀ I2, I2 = u2 I1 0 24 r1 → l_X9_find_35 I2 J1 P (zI gr)) := by
  obtain ⟨hn1, hn2⟩ := mul_le100 gk
  intro f
  induction f with
  | zero =>
    intro K Y I J hf
    have := fb_ct_le K (w * h)
    omega
  | succ f ih =>
    intro K Y I J hf hK hY o hk hmY h23 hp
    have o24 : ∀ (I1 I2 : tg_I) (r : Int32), oRu I I1 → I2 = u2 I1 0 24 r → oFm I0 I2 := fun I1 I2 r o1 e2 => o.tr (o1.fm.tr ⟨fun q a _ _ _ _ _ _ _ => by rw [e2, u2_other _ _ _ _ a], fun x _ b _ _ => by rw [e2, u2_at, if_neg b]⟩)
    refine rule_ok gk (o.mst hm0) oS hk hmY hg1 hgr (fun hn I1 J1 o1 => ⟨_, rfl, fun I2 e2 => s_X9_find_35 _ ⟨fun _ => ?_, fun z => absurd ?_ z⟩⟩) (fun kd' G v W hs I1 J1 o1 mg => ⟨_, rfl, fun I2 e2 => s_X9_find_35 _ ?_⟩)
    · refine hp none I2 J1 (Or.inl ⟨hn, rfl⟩) (fun _ _ _ _ q => by cases q) (o24 I1 I2 _ o1 e2) ⟨?_, by rw [e2, u2_eq]⟩
      rw [e2, u2_at, if_neg (by decide), o1.2 23 (by decide) (by decide), h23]
    · rw [e2, u2_eq]; decide
    · obtain ⟨hG, hGx, k1, k3⟩ := stR_G oS hK hs
      have hW := stR_W gk hY hs
      have o02 := o24 I1 I2 _ o1 e2
      have m2 := o02.mst hm0
      have e24 : I2 0 24 = zI kd' := by rw [e2, u2_eq]
      have mg2 : mgv G v W I2 := ⟨fun i hi => by rw [e2, u2_other _ _ _ _ (by decide)]; exact mg.1 i hi, fun k hk => by rw [e2, u2_other _ _ _ _ (by decide)]; exact mg.2 k hk⟩
      have h232 : I2 0 23 = -1 := by rw [e2, u2_at, if_neg (by decide), o1.2 23 (by decide) (by decide), h23]
      rw [e24, show (0 : Int32) = zI 0 from rfl, z_le (by omega) (by omega) (by omega) (by omega)]
      refine ⟨fun z => absurd z (by omega), fun _ => fn49 gk m2 mg2 h232 (fun hn I3 a3 b3 => ?_) (fun c hc hi hf1 I3 a3 b3 c3 => ?_)⟩
      · have hI3 : I3 = I2 := funext fun q => by
          by_cases e : q = 0
          · rw [e]; exact funext b3
          · exact a3 q e
        rw [hI3]
        have hk2 : mvK M K I2 := fun i hi => by rw [e2, u2_other _ _ _ _ (by decide), o1.1 11 (by decide) (by decide) (by decide) (by decide) (by decide) (by decide)]; exact hk i hi
        have hY2 : mY (w * h) K Y I2 := fun b k hb hk2 hK => by rw [e2, u2_other _ _ _ _ (by decide), o1.1 12 (by decide) (by decide) (by decide) (by decide) (by decide) (by decide)]; exact hmY b k hb hk2 hK
        refine fn109 gk m2 hk2 hY2 mg2 (fun i hi => ⟨(hG i hi).1, (hG i hi).2.2⟩) (fun I4 o4 hk4 hY4 => ?_)
        have hK2 : ∀ i, kAdd K G i = true → H i = true := fun i q => by
          unfold kAdd at q
          simp only [Bool.or_eq_true] at q
          rcases q with q | q
          · exact hK i q
          · have := (hG i q).2.1
            unfold fre at this
            simp only [Bool.and_eq_true] at this
            exact this.1
        have hlt := kAdd_ct (K := K) (G := G) (n := w * h) (fun i q => by
          have := (hG i q).2.1
          unfold fre at this
          simp only [Bool.and_eq_true, Bool.not_eq_true'] at this
          exact this.2) hGx
        have o04 : oFm I0 I4 := o02.tr ⟨fun q _ a b _ _ _ _ _ => o4 q a b, fun x _ _ _ _ => by rw [o4 0 (by decide) (by decide)]⟩
        exact ih (kAdd K G) (yAdd Y G W) I4 J1 (by omega) hK2 (yAdd_ok hY hW) o04 hk4 hY4 (by rw [o4 0 (by decide) (by decide)]; exact h232) (fun r I' J' q => hp r I' J' (Or.inr ⟨kd', G, v, W, hs, Or.inr ⟨hn, q⟩⟩))
      · have o03 : oFm I0 I3 := o02.tr ⟨fun q a _ _ _ _ _ _ _ => a3 q a, fun x a _ _ _ => b3 x a⟩
        have hcf := (hG c hi.1)
        have hHc : H c = true := by
          have := hcf.2.1
          unfold fre at this
          simp only [Bool.and_eq_true] at this
          exact this.1
        refine hp (some (kd', c, v, W)) I3 J1 (Or.inr ⟨kd', G, v, W, hs, Or.inl ⟨c, hc, hi, hf1, rfl⟩⟩) (fun _ _ _ _ q => by cases q; exact ⟨hc, k1, k3, hcf.2.2, hHc, hW⟩) o03 ⟨c3, by rw [b3 24 (by decide)]; exact e24, ?_, fun k hk => by rw [a3 14 (by decide)]; exact mg2.2 k hk⟩
        rw [a3 13 (by decide), mg2.1 c (by omega), if_pos hi.1]
theorem mfind_ok (gk : gOk w h sh) (hm : mst w h sh M H B F I) (oS : okS (w * h) M H B F) {gr : Nat} (hg1 : 1 ≤ gr) (hgr : gr ≤ 3) (hp : ∀ r I' J', hR w h sh M H B F gr 101 (fun _ => false) (fun _ _ => false) r → (∀ kd c v W, r = some (kd, c, v, W) → c < w * h ∧ 1 ≤ kd ∧ kd ≤ 3 ∧ M c = v ∧ H c = true ∧ ∀ k, W k = true → k ≤ 100) → oFm I I' → mfd r I' → P none I' J') : call pgM zX9_find [.ref 0, .int (zI gr)] I J P := by
  obtain ⟨hn1, hn2⟩ := mul_le100 gk
  refine e_X9_find _ ?_
  have key := up_loop (L := fun k => ∀ I1, onlyI 11 I I1 → (∀ i, i < k → I1 11 i = -1) → l_X9_find_2 I1 J P (zI gr) (zI k)) 100 ?_ ?_ 0 (Nat.zero_le _) I (fun _ _ => rfl) (fun i h => absurd h (by omega))
  · exact key
  · intro I1 o1 z1
    refine s_X9_find_2 _ _ ⟨fun _ I2 e2 => ?_, fun c => absurd (Int32.le_refl _) c⟩
    have o2 : oFm I I2 := ⟨fun q a b _ _ _ _ _ _ => by rw [e2, u2_other _ _ _ _ a]; exact o1 q b, fun x a _ _ _ => by rw [e2, u2_at, if_neg a, o1 0 (by decide)]⟩
    refine fnL gk hm oS hg1 hgr 101 (fun _ => false) (fun _ _ => false) I2 J (by omega) (fun i q => by cases q) (fun x k q => by cases q) o2 (fun i hi => ?_) (fun b k _ _ q => by cases q) (by rw [e2, u2_eq]) hp
    rw [e2, u2_other _ _ _ _ (by decide), z1 i hi]; rfl
  · intro k hk ih I1 o1 z1
    refine s_X9_find_2 _ _ ?_
    rw [show (100 : Int32) = zI (100 : Nat) from rfl, z_le (by omega) (by omega) (by omega) (by omega), z_in (by omega) (by omega), z_cl (by omega), z_s]
    refine ⟨fun c => absurd c (by omega), fun _ => ⟨by omega, fun I2 e2 => ih I2 (fun q hq => by rw [e2, u2_other _ _ _ _ hq]; exact o1 q hq) (fun i hi => ?_)⟩⟩
    rw [e2, u2_at]
    by_cases e : i = k
    · rw [if_pos e]
    · rw [if_neg e]; exact z1 i (by omega)
end MFn
