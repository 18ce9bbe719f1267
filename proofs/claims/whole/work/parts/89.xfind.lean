/-! one rule's verdicts; the class: rule 3, find -/
def r3ok (w h sh : Nat) (M H N : Nat → Bool) (a : Nat) : Prop := ¬ cbe w h sh M H N a true ∨ ¬ cbe w h sh M H N a false
def w3 (w h sh : Nat) (H N : Nat → Bool) : Nat → Bool := fun k => decide (k = 100) || (decide (k < w * h) && N k && decide (0 < nin w h sh H k))
/-- no rule gives a verdict -/
def stN (w h sh : Nat) (M H B K : Nat → Bool) (g : Nat) : Prop := (∀ a, a < w * h → ¬ r1ok w h sh M H B K a) ∧ (2 ≤ g → ∀ a b, a < w * h → b < w * h → ¬ r2ok w h sh M H B K a b) ∧ (3 ≤ g → gdH w h sh H (opS (w * h) H B) = false ∨ ∀ a, a < w * h → fre H K a = true → ¬ r3ok w h sh M H (opS (w * h) H B) a)
/-- rule kd gives the cells G the verdict v, for the reasons W -/
def stR (w h sh : Nat) (M H B K : Nat → Bool) (Y : Nat → Nat → Bool) (g kd : Nat) (G : Nat → Bool) (v : Bool) (W : Nat → Bool) : Prop :=
  (kd = 1 ∧ ∃ a, a < w * h ∧ r1ok w h sh M H B K a ∧ (∀ a', a' < a → ¬ r1ok w h sh M H B K a') ∧ G = (fun i => nb w h sh a i && fre H K i) ∧ v = (!decide (dv w h sh M B K a = 0)) ∧ W = bcs (nb w h sh a) K Y a (w * h))
  ∨ (kd = 2 ∧ 2 ≤ g ∧ (∀ a, a < w * h → ¬ r1ok w h sh M H B K a) ∧ ∃ a b, a < w * h ∧ b < w * h ∧ r2ok w h sh M H B K a b ∧ (∀ a' b', a' < a → b' < w * h → ¬ r2ok w h sh M H B K a' b') ∧ (∀ b', b' < b → ¬ r2ok w h sh M H B K a b') ∧ G = (fun i => (nb w h sh b i && fre H K i) && !(nb w h sh a i && fre H K i)) ∧ v = (!decide (dv w h sh M B K b - dv w h sh M B K a = 0)) ∧ W = fun k => bcs (nb w h sh a) K Y a (w * h) k || bcs (nb w h sh b) K Y b (w * h) k)
  ∨ (kd = 3 ∧ 3 ≤ g ∧ (∀ a, a < w * h → ¬ r1ok w h sh M H B K a) ∧ (∀ a b, a < w * h → b < w * h → ¬ r2ok w h sh M H B K a b) ∧ gdH w h sh H (opS (w * h) H B) = true ∧ ∃ a, a < w * h ∧ fre H K a = true ∧ r3ok w h sh M H (opS (w * h) H B) a ∧ (∀ a', a' < a → fre H K a' = true → ¬ r3ok w h sh M H (opS (w * h) H B) a') ∧ G = (fun i => decide (i = a)) ∧ v = M a ∧ W = w3 w h sh H (opS (w * h) H B))
section XFd
variable {I : tg_I} {J : tg_J} {P : Option Value → tg_I → tg_J → Prop} {w h sh b : Nat} {M H B F K : Nat → Bool} {Y : Nat → Nat → Bool}
/-- what all placements force, as the class keeps it -/
def xfo (w h sh : Nat) (M H N : Nat → Bool) (J : tg_J) : Prop := (∀ i, i < 128 → (sB J 18 i = true ↔ H i = true ∧ ¬ cbe w h sh M H N i false)) ∧ ∀ i, i < 128 → (sB J 19 i = true ↔ H i = true ∧ ¬ cbe w h sh M H N i true)
theorem giveByAll_ok (hb : isBd b) (gk : gOk w h sh) (g : gridX b w h sh I J) (v : bst b (w * h) M H B F J) (ok : okS (w * h) M H B F) (rs : rsX b w h sh M H B K Y I J) (hg : gdH w h sh H (opS (w * h) H B) = true) (hf : xfo w h sh M H (opS (w * h) H B) J) (hp0 : (∀ a, a < w * h → fre H K a = true → ¬ r3ok w h sh M H (opS (w * h) H B) a) → ∀ I' J', oG I I' J J' → P (some (.int 0)) I' J')
    (hp1 : ∀ a, a < w * h → fre H K a = true → r3ok w h sh M H (opS (w * h) H B) a → (∀ a', a' < a → fre H K a' = true → ¬ r3ok w h sh M H (opS (w * h) H B) a') → ∀ I' J', oG I I' J J' → I' 39 3 = 3 → I' 39 2 = bi (M a) → (∀ i, i < 128 → sB J' 40 i = decide (i = a)) → (∀ k, k < 128 → sB J' 41 k = w3 w h sh H (opS (w * h) H B) k) → P (some (.int 1)) I' J') : call pgX zX6_giveByAll [.ref 39] I J P := by
  obtain ⟨hn1, hn2⟩ := mul_le100 gk
  obtain ⟨r1, r2, r3, r4⟩ := id rs
  refine e_X6_giveByAll (copy_ok bits40 bits18 (fun J1 o1 s1 => ⟨rfl, join_ok bits40 bits19 (by decide) (fun J2 o2 s2 => ⟨rfl, meet_ok bits40 bits44 (by decide) (fun J3 o3 s3 => ⟨rfl, least_ok bits40 (fun m hm m1 m2 => ⟨_, rfl, b, r1, hb, ?_⟩)⟩)⟩)⟩))
  have hs3 : ∀ i, i < 128 → (sB J3 40 i = true ↔ fre H K i = true ∧ r3ok w h sh M H (opS (w * h) H B) i) := fun i hi => by
    rw [s3 i, s2 i, s1 i, Bool.and_eq_true, Bool.or_eq_true, sB_of (o1 19 (by decide)), sB_of ((o2 44 (by decide)).trans (o1 44 (by decide))), r2 i hi, hf.1 i hi, hf.2 i hi]
    unfold r3ok
    constructor
    · rintro ⟨q | q, q2⟩
      · exact ⟨q2, Or.inr q.2⟩
      · exact ⟨q2, Or.inl q.2⟩
    · rintro ⟨q2, q⟩
      have hH : H i = true := by unfold fre at q2; simp only [Bool.and_eq_true] at q2; exact q2.1
      rcases q with q | q
      · exact ⟨Or.inr ⟨hH, q⟩, q2⟩
      · exact ⟨Or.inl ⟨hH, q⟩, q2⟩
  have oJ3 : ∀ q, q ≠ 40 → J3 q = J q := fun q hq => (o3 q hq).trans ((o2 q hq).trans (o1 q hq))
  refine holds_ok hb (g.1.2.2.2) hn2 _ ⟨_, rfl, ?_⟩
  rw [z_toInt (by omega) (by omega), bi_0]
  by_cases hmn : m < w * h
  · have hmm := (hs3 m (by omega)).mp (m1 (by omega))
    have hHm : H m = true := by have := hmm.1; unfold fre at this; simp only [Bool.and_eq_true] at this; exact this.1
    rw [decide_eq_true ⟨by omega, by omega⟩]
    refine ⟨fun _ => clear_ok bits40 (fun J4 o4 s4 => ⟨rfl, add_ok bits40 (by omega) (fun J5 o5 s5 => ⟨rfl, has_ok bits18 (by omega) ⟨_, rfl, fit01 (bi01 _), fun I1 e1 I2 e2 => clear_ok bits41 (fun J6 o6 s6 => ⟨rfl, add_ok bits41 (i := 100) (by decide) (fun J7 o7 s7 => ⟨rfl, ?_⟩)⟩)⟩⟩)⟩), fun z => by cases z⟩
    have hM18 : sB J5 18 m = M m := by
      rw [sB_of (o5 18 (by decide)), sB_of (o4 18 (by decide)), sB_of (oJ3 18 (by decide))]
      rcases hmm.2 with q | q
      · have hm0 := cbe_not gk ok hg hHm q
        rw [hm0]
        cases e : sB J 18 m
        · rfl
        · have := cbe_not gk ok hg hHm ((hf.1 m (by omega)).mp e).2
          rw [this] at hm0; cases hm0
      · rw [cbe_not gk ok hg hHm q]
        exact (hf.1 m (by omega)).mpr ⟨hHm, q⟩
    rw [hM18] at e1
    have oI2 : ∀ q, q ≠ 39 → I2 q = I q := fun q hq => by rw [e2, u2_other _ _ _ _ hq, e1, u2_other _ _ _ _ hq]
    have oI39 : ∀ x, x ≠ 2 → x ≠ 3 → I2 39 x = I 39 x := fun x a b => by rw [e2, u2_at, if_neg b, e1, u2_at, if_neg a]
    have oJ7 : ∀ q, q ≠ 40 → q ≠ 41 → J7 q = J q := fun q a b => by rw [o7 q b, o6 q b, o5 q a, o4 q a, oJ3 q a]
    have s40 : ∀ i, i < 128 → sB J7 40 i = decide (i = m) := fun i hi => by
      rw [sB_of (o7 40 (by decide)), sB_of (o6 40 (by decide)), s5 i hi, s4 i, Bool.false_or]
    have og7 : oG I I2 J J7 := ⟨oI2, oI39, oJ7⟩
    have key := up_loop (L := fun k => ∀ J8, onlyJ 41 J7 J8 → (∀ i, i < 128 → (sB J8 41 i = true ↔ i = 100 ∨ (i < k ∧ opS (w * h) H B i = true ∧ 0 < nin w h sh H i))) → l_X6_giveByAll_116 I2 J8 P (zI k)) (w * h) ?_ ?_ 0 (Nat.zero_le _) J7 (fun _ _ => rfl) (fun i hi => by
      rw [s7 i hi, s6 i, Bool.false_or, decide_eq_true_eq]
      exact ⟨fun q => Or.inl q, fun q => by rcases q with q | q; exact q; exact absurd q.1 (by omega)⟩)
    · exact key
    · intro J8 o8 s8
      have hn7 : I2 (b + 1) 7 = zI (w * h : Nat) := by rw [oI2 (b + 1) (by rcases hb with e | e <;> omega)]; exact g.1.2.2.2
      refine s_X6_giveByAll_116 _ ⟨b, by rw [oI39 9 (by decide) (by decide)]; exact r1, hb, fun _ => ?_, fun c => absurd (by rw [hn7]; exact Int32.le_refl _) c⟩
      refine hp1 m hmn hmm.1 hmm.2 (fun a' ha' hfa q => ?_) I2 J8 ⟨oI2, oI39, fun q a b => (o8 q b).trans (oJ7 q a b)⟩ (by rw [e2, u2_eq]) (by rw [e2, u2_at, if_neg (by decide), e1, u2_eq]) (fun i hi => by rw [sB_of (o8 40 (by decide))]; exact s40 i hi) (fun k hk => ?_)
      · have := (hs3 a' (by omega)).mpr ⟨hfa, q⟩
        rw [m2 a' ha'] at this; cases this
      · rw [Bool.eq_iff_iff, s8 k hk]
        unfold w3
        simp only [Bool.or_eq_true, Bool.and_eq_true, decide_eq_true_eq]
        constructor
        · rintro (q | q)
          · exact Or.inl q
          · exact Or.inr ⟨⟨q.1, q.2.1⟩, q.2.2⟩
        · rintro (q | q)
          · exact Or.inl q
          · exact Or.inr ⟨q.1.1, q.1.2, q.2⟩
    · intro k hk ih J8 o8 s8
      have og8 : oG I I2 J J8 := ⟨oI2, oI39, fun q a b => (o8 q b).trans (oJ7 q a b)⟩
      have g8 := og8.grid hb g
      have v8 := og8.bst hb v
      have h9 : (I2 39 9).toNatClampNeg = b := by rw [oI39 9 (by decide) (by decide)]; exact r1
      have same : ¬ (opS (w * h) H B k = true ∧ 0 < nin w h sh H k) → l_X6_giveByAll_116 I2 J8 P (zI ((k + 1 : Nat) : Int)) := fun q => ih J8 o8 (fun i hi => by
        rw [s8 i hi]
        constructor
        · rintro (z | z)
          · exact Or.inl z
          · exact Or.inr ⟨by omega, z.2⟩
        · rintro (z | z)
          · exact Or.inl z
          · by_cases e : i = k
            · rw [e] at z; exact absurd z.2 q
            · exact Or.inr ⟨by omega, z.2⟩)
      refine s_X6_giveByAll_116 _ ⟨b, h9, hb, ?_⟩
      rw [g8.1.2.2.2, z_le (by omega) (by omega) (by omega) (by omega), z_s]
      refine ⟨fun c => absurd c (by omega), fun _ => ⟨b, h9, hb, has_ok (bd_bits hb (by decide) (by decide)) (by omega) ⟨_, rfl, ?_⟩⟩⟩
      rw [(v8 k (by omega)).2.2.1, bi_0]
      refine ⟨fun c => same (fun q => by rw [c] at q; cases q.1), fun c => ⟨b, h9, hb, b, h9, hb, touch_nin hb (bd_bits hb (by decide) (by decide)) gk g8 hk (fun i hi => (v8 i (by omega)).2.1) ⟨_, rfl, ?_⟩⟩⟩
      rw [bi_0]
      refine ⟨fun c2 => same (fun q => of_decide_eq_false c2 q.2), fun c2 => add_ok bits41 (by omega) (fun J9 o9 s9 => ⟨rfl, ih J9 (fun q hq => (o9 q hq).trans (o8 q hq)) (fun i hi => ?_)⟩)⟩
      rw [s9 i hi, Bool.or_eq_true, s8 i hi, decide_eq_true_eq]
      constructor
      · rintro ((z | z) | z)
        · exact Or.inl z
        · exact Or.inr ⟨by omega, z.2⟩
        · exact Or.inr ⟨by omega, by rw [z]; exact ⟨by simpa using c, of_decide_eq_true (Bool.of_not_eq_false c2)⟩⟩
      · rintro (z | z)
        · exact Or.inl (Or.inl z)
        · by_cases e : i = k
          · exact Or.inr e
          · exact Or.inl (Or.inr ⟨by omega, z.2⟩)
  · rw [decide_eq_false (fun z => by omega)]
    refine ⟨fun z => absurd rfl z, fun _ => hp0 (fun a ha hfa q => ?_) I J3 ⟨fun _ _ => rfl, fun _ _ _ => rfl, fun q a b => oJ3 q a⟩⟩
    have := (hs3 a (by omega)).mpr ⟨hfa, q⟩
    rw [m2 a (by omega)] at this; cases this
/-- what finding changes -/
def oF (I I' : tg_I) (J J' : tg_J) : Prop := (∀ q, q < 17 ∨ 46 ≤ q → I' q = I q ∧ J' q = J q) ∧ (∀ x, x ≠ 2 → x ≠ 3 → x ≠ 11 → x ≠ 12 → I' 39 x = I 39 x) ∧ ∀ q, 42 ≤ q → q ≤ 45 → J' q = J q
theorem oF.grid {I I1 : tg_I} {J J1 : tg_J} {b w h sh : Nat} (hb : isBd b) (h1 : oF I I1 J J1) (g : gridX b w h sh I J) : gridX b w h sh I1 J1 := by
  have hh : ∀ n, n ≤ 13 → b + n < 17 ∨ 46 ≤ b + n := fun n hn => by rcases hb with e | e <;> omega
  have e1 := (h1.1 (b + 1) (hh _ (by decide))).1
  have e4 := (h1.1 (b + 4) (hh _ (by decide))).1
  have e5 := (h1.1 (b + 5) (hh _ (by decide))).1
  have j2 := (h1.1 (b + 2) (hh _ (by decide))).2
  have j3 := (h1.1 (b + 3) (hh _ (by decide))).2
  unfold gridX xSz rowX rowB at *
  rw [e1, e4, e5, j2, j3]
  exact g
theorem oF.bst {I I1 : tg_I} {J J1 : tg_J} {b n : Nat} {M H B F : Nat → Bool} (hb : isBd b) (h1 : oF I I1 J J1) (v : bst b n M H B F J) : bst b n M H B F J1 := fun i hi => by
  have hh : ∀ n, n ≤ 13 → b + n < 17 ∨ 46 ≤ b + n := fun n hn => by rcases hb with e | e <;> omega
  have ej : ∀ n, n ≤ 13 → J1 (b + n) = J (b + n) := fun n hn => (h1.1 (b + n) (hh n hn)).2
  have := v i hi
  rw [sB_of (ej 7 (by decide)), sB_of (ej 8 (by decide)), sB_of (ej 9 (by decide)), sB_of (ej 10 (by decide)), sB_of (ej 11 (by decide))]
  exact this
theorem oF.rs {I I1 : tg_I} {J J1 : tg_J} {b w h sh : Nat} {M H B K : Nat → Bool} {Y : Nat → Nat → Bool} (h1 : oF I I1 J J1) (r : rsX b w h sh M H B K Y I J) : rsX b w h sh M H B K Y I1 J1 := by
  obtain ⟨r1, r2, r3, r4⟩ := r
  refine ⟨by rw [h1.2.1 9 (by decide) (by decide) (by decide) (by decide)]; exact r1, fun i hi => by rw [sB_of (h1.2.2 44 (by decide) (by decide))]; exact r2 i hi, fun i hi => by rw [sB_of (h1.2.2 45 (by decide) (by decide))]; exact r3 i hi, ?_⟩
  rw [h1.2.2 42 (by decide) (by decide), h1.2.2 43 (by decide) (by decide)]
  exact r4
theorem oG.toF {I I1 : tg_I} {J J1 : tg_J} (o : oG I I1 J J1) : oF I I1 J J1 := ⟨fun q hq => ⟨o.1 q (by omega), o.2.2 q (by omega) (by omega)⟩, fun x a b _ _ => o.2.1 x a b, fun q a b => o.2.2 q (by omega) (by omega)⟩
theorem oF.tr {I I1 I2 : tg_I} {J J1 J2 : tg_J} (h1 : oF I I1 J J1) (h2 : oF I1 I2 J1 J2) : oF I I2 J J2 := ⟨fun q hq => ⟨((h2.1 q hq).1).trans (h1.1 q hq).1, ((h2.1 q hq).2).trans (h1.1 q hq).2⟩, fun x a b c d => (h2.2.1 x a b c d).trans (h1.2.1 x a b c d), fun q a b => (h2.2.2 q a b).trans (h1.2.2 q a b)⟩
theorem outP.toF {I I1 : tg_I} {J J1 : tg_J} (o : outP I I1 J J1) : oF I I1 J J1 := ⟨fun q hq => o q (by omega), fun x _ _ _ _ => by rw [(o 39 (by omega)).1], fun q a b => (o q (by omega)).2⟩
/-- what the class has found of the placements -/
def xst (w h sh : Nat) (M H N : Nat → Bool) (I : tg_I) (J : tg_J) : Prop := I 39 11 = 0 ∨ (I 39 11 = 1 ∧ I 39 12 = bi (gdH w h sh H N) ∧ (gdH w h sh H N = true → xfo w h sh M H N J))
theorem xst_G {I I1 : tg_I} {J J1 : tg_J} {N : Nat → Bool} (o : oG I I1 J J1) (s : xst w h sh M H N I J) : xst w h sh M H N I1 J1 := by
  unfold xst xfo at *
  rw [o.2.1 11 (by decide) (by decide), o.2.1 12 (by decide) (by decide)]
  rcases s with s | ⟨s1, s2, s3⟩
  · exact Or.inl s
  · refine Or.inr ⟨s1, s2, fun q => ?_⟩
    obtain ⟨a, c⟩ := s3 q
    exact ⟨fun i hi => by rw [sB_of (o.2.2 18 (by decide) (by decide))]; exact a i hi, fun i hi => by rw [sB_of (o.2.2 19 (by decide) (by decide))]; exact c i hi⟩
end XFd
