/-! the class: what all placements force -/
theorem bits18 : isBits 18 := ⟨by decide, rfl⟩
theorem bits19 : isBits 19 := ⟨by decide, rfl⟩
section XFo
variable {I : tg_I} {J : tg_J} {P : Option Value → tg_I → tg_J → Prop}
theorem sumWithout_ok {W : Nat → Nat → Nat} {np : Nat} (hnp : I 17 14 = zI np) (hn : np ≤ 100) (hW : ∀ p m, p < np → m < 13 → I 34 (13 * p + m) = zI (W p m) ∧ W p m ≤ 2 ^ 14) {u : Int} (hu : -1 ≤ u ∧ u < 1000) (hp : ∀ J', (∀ q, q ≠ 29 → q ≠ 30 → J' q = J q) → (∀ t, t < 128 → sB J' 29 t = decide (0 < sT true W u np t)) → P none I J') : call pgX zX5_sumWithout [.ref 17, .int (zI u)] I J P := by
  refine e_X5_sumWithout _ (clear_ok bits29 (fun J1 o1 s1 => ⟨rfl, add_ok bits29 (i := 0) (by decide) (fun J2 o2 s2 => ⟨rfl, ?_⟩)⟩))
  have key := up_loop (L := fun k => ∀ J3, (∀ q, q ≠ 29 → q ≠ 30 → J3 q = J q) → (∀ t, t < 128 → sB J3 29 t = decide (0 < sT true W u k t)) → l_X5_sumWithout_17 I J3 P (zI u) (zI k)) np ?_ ?_ 0 (Nat.zero_le _) J2 (fun q a _ => (o2 q a).trans (o1 q a)) (fun t ht => by
    rw [s2 t ht, s1 t, Bool.false_or]
    have h0 : sT true W u 0 t = if t = 0 then 1 else 0 := rfl
    rw [h0]
    by_cases e : t = 0
    · rw [e]; rfl
    · rw [if_neg e, decide_eq_false e]; rfl)
  · exact key
  · intro J3 o3 s3
    exact s_X5_sumWithout_17 _ _ ⟨fun _ => hp J3 o3 s3, fun c => absurd (by rw [hnp]; exact Int32.le_refl _) c⟩
  · intro k hk ih J3 o3 s3
    have hs : ∀ t, sT true W u (k + 1) t = if (k : Int) = u then sT true W u k t else cvp (sT true W u k) (W k) t := fun _ => rfl
    refine s_X5_sumWithout_17 _ _ ?_
    rw [hnp, z_le (by omega) (by omega) (by omega) (by omega), z_eq (by omega) (by omega) (by omega) (by omega), z_s]
    refine ⟨fun c => absurd c (by omega), fun _ => ⟨fun c => clear_ok bits30 (fun J4 o4 s4 => ⟨rfl, ?_⟩), fun c => ih J3 o3 (fun t ht => by rw [s3 t ht, hs, if_pos c])⟩⟩
    generalize sT true W u k = T at *
    have key2 := up_loop (L := fun m => ∀ J5 : tg_J, (∀ q, q ≠ 30 → J5 q = J3 q) → (∀ t, t < 128 → (sB J5 30 t = true ↔ ∃ m', m' < m ∧ m' ≤ t ∧ 0 < T (t - m') ∧ 0 < W k m')) → l_X5_sumWithout_42 I J5 P (zI u) (zI k) (zI m)) 13 ?_ ?_ 0 (Nat.zero_le _) J4 o4 (fun t _ => by
      rw [s4 t]
      exact ⟨fun q => (by cases q), fun q => by obtain ⟨m', q1, -⟩ := q; exact absurd q1 (by omega)⟩)
    · exact key2
    · intro J5 o5 s5
      refine s_X5_sumWithout_42 _ _ _ ⟨fun _ => copy_ok bits29 bits30 (fun J6 o6 s6 => ⟨rfl, ?_⟩), fun c => absurd (Int32.le_refl _) c⟩
      rw [z_s]
      refine ih J6 (fun q a b => by rw [o6 q a, o5 q b]; exact o3 q a b) (fun t ht => ?_)
      rw [s6 t, hs, if_neg c]
      unfold cvp
      by_cases e : ∃ m : Nat, m < 13 ∧ m ≤ t ∧ 0 < T (t - m) ∧ 0 < W k m
      · rw [if_pos e]
        exact (s5 t ht).mpr e
      · rw [if_neg e]
        cases z : sB J5 30 t
        · rfl
        · exact absurd ((s5 t ht).mp z) e
    · intro m hm ih2 J5 o5 s5
      obtain ⟨w1, w2⟩ := hW k m hk hm
      refine s_X5_sumWithout_42 _ _ _ ?_
      rw [show (13 : Int32) = zI (13 : Nat) from rfl, z_le (by omega) (by omega) (by omega) (by omega), z_mul, z_add, show (k : Int) * ((13 : Nat) : Int) + (m : Int) = ((13 * k + m : Nat) : Int) by omega, z_in (by omega) (by omega), z_cl (by omega), w1, show (0 : Int32) = zI 0 from rfl, z_le (by omega) (by omega) (by omega) (by omega), z_s m]
      refine ⟨fun c => absurd c (by omega), fun _ => ⟨by omega, fun c => ih2 J5 o5 (fun t ht => ?_), fun c => joinMoved_ok bits30 bits29 (by decide) (by omega) (fun J6 o6 s6 => ⟨rfl, ih2 J6 (fun q hq => (o6 q hq).trans (o5 q hq)) (fun t ht => ?_)⟩)⟩⟩
      · rw [s5 t ht]
        constructor
        · rintro ⟨m', a, b⟩; exact ⟨m', by omega, b⟩
        · rintro ⟨m', a, b, d, e⟩
          by_cases e2 : m' = m
          · rw [e2] at e; omega
          · exact ⟨m', by omega, b, d, e⟩
      · rw [s6 t ht, Bool.or_eq_true, s5 t ht, Bool.and_eq_true, decide_eq_true_eq]
        constructor
        · rintro (⟨m', a, b⟩ | ⟨a, b⟩)
          · exact ⟨m', by omega, b⟩
          · rw [sB_of (o5 29 (by decide)), s3 (t - m) (by omega), decide_eq_true_eq] at b
            exact ⟨m, by omega, a, b, by omega⟩
        · rintro ⟨m', a, b, d, e⟩
          by_cases e2 : m' = m
          · right
            rw [e2] at b d
            refine ⟨b, ?_⟩
            rw [sB_of (o5 29 (by decide)), s3 (t - m) (by omega)]
            exact decide_eq_true d
          · exact Or.inl ⟨m', by omega, b, d, e⟩
theorem reaches_ok {T : Nat → Nat} (hT : ∀ t, t < 128 → sB J 29 t = decide (0 < T t)) {mm l : Int} (h1 : -1000 ≤ mm) (h2 : mm ≤ 100) (h3 : 0 ≤ l) (h4 : l ≤ 1000) (hp : ∀ r : Bool, (r = true ↔ rea T mm l) → P (some (.int (bi r))) I J) : call pgX zX5_reaches [.ref 17, .int (zI mm), .int (zI l)] I J P := by
  refine e_X5_reaches _ _ (fun x1 e1 => ?_)
  obtain ⟨s0, hs0, es0⟩ : ∃ s0 : Nat, x1 = zI s0 ∧ ((s0 : Int) = mm - l ∧ 0 ≤ mm - l ∨ s0 = 0 ∧ mm - l ≤ 0) := by
    rw [z_sub, show (0 : Int32) = zI 0 from rfl] at e1
    by_cases c : 0 < mm - l
    · rw [if_pos ((z_lt (by omega) (by omega) (by omega) (by omega)).mpr c)] at e1
      refine ⟨(mm - l).toNat, ?_, Or.inl ⟨by omega, by omega⟩⟩
      rw [e1]; congr 1; omega
    · rw [if_neg (fun q => c ((z_lt (by omega) (by omega) (by omega) (by omega)).mp q))] at e1
      exact ⟨0, e1, Or.inr ⟨rfl, by omega⟩⟩
  rw [hs0]
  have none0 : ∀ s : Nat, (∀ s' : Nat, s0 ≤ s' → s' < s → ¬ 0 < T s') → (mm < s ∨ 100 < s) → P (some (.int 0)) I J := fun s hall hs => by
    refine hp false ⟨fun q => (by cases q), fun q => ?_⟩
    obtain ⟨s', a, b, c, d⟩ := q
    exact absurd b (hall s' (by omega) (by omega))
  have key := up_loop (L := fun s => s0 ≤ s → (∀ s' : Nat, s0 ≤ s' → s' < s → ¬ 0 < T s') → l_X5_reaches_8 I J P (zI mm) (zI s)) 101 ?_ ?_ s0 (by omega) (Nat.le_refl _) (fun s' a b => absurd a (by omega))
  · exact key
  · intro _ hall
    refine s_X5_reaches_8 _ _ ?_
    rw [z_lt (by omega) (by omega) (by omega) (by omega), show (100 : Int32) = zI (100 : Nat) from rfl, z_lt (by omega) (by omega) (by omega) (by omega)]
    exact ⟨fun c => none0 101 hall (Or.inr (by omega)), fun c => ⟨fun _ => none0 101 hall (Or.inr (by omega)), fun c2 => absurd (by omega) c2⟩⟩
  · intro s hs ih hle hall
    refine s_X5_reaches_8 _ _ ?_
    rw [z_lt (by omega) (by omega) (by omega) (by omega), show (100 : Int32) = zI (100 : Nat) from rfl, z_lt (by omega) (by omega) (by omega) (by omega), z_s]
    refine ⟨fun c => none0 s hall (Or.inl c), fun c => ⟨fun c2 => absurd c2 (by omega), fun _ => has_ok bits29 (by omega) ⟨_, rfl, ?_⟩⟩⟩
    rw [hT s (by omega), bi_0]
    refine ⟨fun c3 => ih (by omega) (fun s' a b => ?_), fun c3 => hp true ⟨fun _ => ⟨s, by omega, of_decide_eq_true (Bool.of_not_eq_false c3), by omega, by omega⟩, fun _ => rfl⟩⟩
    by_cases e : s' = s
    · rw [e]; exact of_decide_eq_false c3
    · exact hall s' a (by omega)
/-- what one part forces -/
theorem forcePart_ok {T : Nat → Nat} {Wp : Nat → Nat} {Z : Nat → Nat → Nat} {p f ml ls : Nat} {L : List Nat} (hp100 : p < 100) (hL : ∀ x, x ∈ L → x < 100) (hnd : L.Nodup) (hf : f + L.length ≤ 100) (e1 : I 32 p = zI f) (e2 : I 32 (p + 1) = zI ((f + L.length : Nat) : Int)) (hq : qF f L I) (hW : ∀ m, m < 13 → I 34 (13 * p + m) = zI (Wp m) ∧ Wp m ≤ 2 ^ 14) (hZ : ∀ x m, x ∈ L → m < 13 → I 35 (13 * x + m) = zI (Z x m) ∧ Z x m ≤ Wp m) (hT : ∀ t, t < 128 → sB J 29 t = decide (0 < T t)) (hml : ml ≤ 100) (hls : ls ≤ 100)
    (hp : ∀ J', (∀ q, q ≠ 18 → q ≠ 19 → J' q = J q) → (∀ i, i < 128 → (sB J' 18 i = true ↔ (i ∈ L ∧ ¬ ∃ m : Nat, m < 13 ∧ 0 < Wp m - Z i m ∧ rea T ((ml : Int) - m) ls) ∨ (i ∉ L ∧ sB J 18 i = true))) → (∀ i, i < 128 → (sB J' 19 i = true ↔ (i ∈ L ∧ ¬ ∃ m : Nat, m < 13 ∧ 0 < Z i m ∧ rea T ((ml : Int) - m) ls) ∨ (i ∉ L ∧ sB J 19 i = true))) → P none I J') : call pgX zX5_forcePart [.ref 17, .int (zI p), .int (zI ml), .int (zI ls)] I J P := by
  refine e_X5_forcePart _ _ _ ?_
  rw [z_in (by omega) (by omega), z_cl (by omega), e1]
  refine ⟨by omega, fun x1 ex => ?_⟩
  rw [ex]
  have key := up_loop (L := fun j => ∀ J1, (∀ q, q ≠ 18 → q ≠ 19 → J1 q = J q) → (∀ i, i < 128 → sB J1 18 i = (sB J 18 i || decide (i ∈ L.take j))) → (∀ i, i < 128 → sB J1 19 i = (sB J 19 i || decide (i ∈ L.take j))) → l_X5_forcePart_8 I J1 P (zI p) (zI ml) (zI ls) (zI ((f + j : Nat) : Int))) L.length ?_ ?_ 0 (Nat.zero_le _) J (fun _ _ _ => rfl) (fun i _ => by simp) (fun i _ => by simp)
  · exact key
  · intro J1 o1 a1 b1
    rw [List.take_length] at a1 b1
    refine s_X5_forcePart_8 _ _ _ _ ?_
    rw [z_s, z_in (by omega) (by omega), z_cl (by omega), e2]
    refine ⟨by omega, fun _ => ?_, fun c => absurd (Int32.le_refl _) c⟩
    have key2 := up_loop (L := fun m => ∀ J2, (∀ q, q ≠ 18 → q ≠ 19 → J2 q = J q) → (∀ i, i < 128 → (sB J2 18 i = true ↔ (i ∈ L ∧ ¬ ∃ m' : Nat, m' < m ∧ 0 < Wp m' - Z i m' ∧ rea T ((ml : Int) - m') ls) ∨ (i ∉ L ∧ sB J 18 i = true))) → (∀ i, i < 128 → (sB J2 19 i = true ↔ (i ∈ L ∧ ¬ ∃ m' : Nat, m' < m ∧ 0 < Z i m' ∧ rea T ((ml : Int) - m') ls) ∨ (i ∉ L ∧ sB J 19 i = true))) → l_X5_forcePart_58 I J2 P (zI p) (zI ml) (zI ls) (zI m)) 13 ?_ ?_ 0 (Nat.zero_le _) J1 o1 (fun i hi => ?_) (fun i hi => ?_)
    · exact key2
    · intro J2 o2 a2 b2
      exact s_X5_forcePart_58 _ _ _ _ ⟨fun _ => hp J2 o2 a2 b2, fun c => absurd (Int32.le_refl _) c⟩
    · intro m hm ih J2 o2 a2 b2
      obtain ⟨w1, w2⟩ := hW m hm
      have nothing : (∀ x, x ∈ L → ¬ (0 < Wp m - Z x m ∧ rea T ((ml : Int) - m) ls) ∧ ¬ (0 < Z x m ∧ rea T ((ml : Int) - m) ls)) → l_X5_forcePart_58 I J2 P (zI p) (zI ml) (zI ls) (zI ((m + 1 : Nat) : Int)) := fun hx => by
        refine ih J2 o2 (fun i hi => ?_) (fun i hi => ?_)
        · rw [a2 i hi]
          constructor
          · rintro (⟨q1, q2⟩ | q)
            · refine Or.inl ⟨q1, ?_⟩
              rintro ⟨m', z1, z2⟩
              by_cases e : m' = m
              · rw [e] at z2; exact (hx i q1).1 z2
              · exact q2 ⟨m', by omega, z2⟩
            · exact Or.inr q
          · rintro (⟨q1, q2⟩ | q)
            · refine Or.inl ⟨q1, ?_⟩
              rintro ⟨m', z1, z2⟩
              exact q2 ⟨m', by omega, z2⟩
            · exact Or.inr q
        · rw [b2 i hi]
          constructor
          · rintro (⟨q1, q2⟩ | q)
            · refine Or.inl ⟨q1, ?_⟩
              rintro ⟨m', z1, z2⟩
              by_cases e : m' = m
              · rw [e] at z2; exact (hx i q1).2 z2
              · exact q2 ⟨m', by omega, z2⟩
            · exact Or.inr q
          · rintro (⟨q1, q2⟩ | q)
            · refine Or.inl ⟨q1, ?_⟩
              rintro ⟨m', z1, z2⟩
              exact q2 ⟨m', by omega, z2⟩
            · exact Or.inr q
      refine s_X5_forcePart_58 _ _ _ _ ?_
      rw [show (13 : Int32) = zI (13 : Nat) from rfl, z_le (by omega) (by omega) (by omega) (by omega), z_mul, z_add, show (p : Int) * ((13 : Nat) : Int) + (m : Int) = ((13 * p + m : Nat) : Int) by omega, z_in (by omega) (by omega), z_cl (by omega), w1]
      refine ⟨fun c => absurd c (by omega), fun _ => ⟨by omega, fun x1 ex => ?_⟩⟩
      rw [ex, show (0 : Int32) = zI 0 from rfl, z_eq (by omega) (by omega) (by omega) (by omega), z_sub, z_s m]
      refine ⟨fun c => nothing (fun x hx => ?_), fun c => ?_⟩
      · have := (hZ x m hx hm).2
        exact ⟨fun q => by omega, fun q => by omega⟩
      · refine reaches_ok (T := T) (fun t ht => by rw [sB_of (o2 29 (by decide) (by decide))]; exact hT t ht) (by omega) (by omega) (by omega) (by omega) (fun r hr => ⟨_, rfl, ?_⟩)
        rw [show zI 0 = (0 : Int32) from rfl, bi_0, z_in (by omega) (by omega), z_cl (by omega), e1]
        refine ⟨fun cr => ⟨by omega, fun x2 ex2 => ?_⟩, fun cr => nothing (fun x hx => ⟨fun q => (by rw [hr.mpr q.2] at cr; cases cr), fun q => (by rw [hr.mpr q.2] at cr; cases cr)⟩)⟩
        have hre : rea T ((ml : Int) - m) ls := hr.mp (by simpa using cr)
        rw [ex2]
        have key3 := up_loop (L := fun j => ∀ J3, (∀ q, q ≠ 18 → q ≠ 19 → J3 q = J q) → (∀ i, i < 128 → (sB J3 18 i = true ↔ sB J2 18 i = true ∧ ¬ (i ∈ L.take j ∧ 0 < Wp m - Z i m))) → (∀ i, i < 128 → (sB J3 19 i = true ↔ sB J2 19 i = true ∧ ¬ (i ∈ L.take j ∧ 0 < Z i m))) → l_X5_forcePart_107 I J3 P (zI p) (zI ml) (zI ls) (zI m) (zI (Wp m)) (zI ((f + j : Nat) : Int))) L.length ?_ ?_ 0 (Nat.zero_le _) J2 o2 (fun i _ => by simp) (fun i _ => by simp)
        · exact key3
        · intro J3 o3 a3 b3
          rw [List.take_length] at a3 b3
          refine s_X5_forcePart_107 _ _ _ _ _ _ ?_
          rw [z_s p, z_in (by omega) (by omega), z_cl (by omega), e2, z_s m]
          refine ⟨by omega, fun _ => ih J3 o3 (fun i hi => ?_) (fun i hi => ?_), fun c => absurd (Int32.le_refl _) c⟩
          · rw [a3 i hi, a2 i hi]
            constructor
            · rintro ⟨⟨q1, q2⟩ | q, q3⟩
              · refine Or.inl ⟨q1, ?_⟩
                rintro ⟨m', z1, z2⟩
                by_cases e : m' = m
                · rw [e] at z2; exact q3 ⟨q1, z2.1⟩
                · exact q2 ⟨m', by omega, z2⟩
              · exact Or.inr q
            · rintro (⟨q1, q2⟩ | q)
              · exact ⟨Or.inl ⟨q1, fun ⟨m', z1, z2⟩ => q2 ⟨m', by omega, z2⟩⟩, fun z => q2 ⟨m, by omega, z.2, hre⟩⟩
              · exact ⟨Or.inr q, fun z => q.1 z.1⟩
          · rw [b3 i hi, b2 i hi]
            constructor
            · rintro ⟨⟨q1, q2⟩ | q, q3⟩
              · refine Or.inl ⟨q1, ?_⟩
                rintro ⟨m', z1, z2⟩
                by_cases e : m' = m
                · rw [e] at z2; exact q3 ⟨q1, z2.1⟩
                · exact q2 ⟨m', by omega, z2⟩
              · exact Or.inr q
            · rintro (⟨q1, q2⟩ | q)
              · exact ⟨Or.inl ⟨q1, fun ⟨m', z1, z2⟩ => q2 ⟨m', by omega, z2⟩⟩, fun z => q2 ⟨m, by omega, z.2, hre⟩⟩
              · exact ⟨Or.inr q, fun z => q.1 z.1⟩
        · intro j hj ih3 J3 o3 a3 b3
          have hx := getD_mem hj
          have hx1 := hL _ hx
          have hxn := getD_nin hnd hj
          have hat := qF_at hq hj
          rw [take_s hj] at ih3
          generalize L.getD j 0 = x at *
          obtain ⟨zz1, zz2⟩ := hZ x m hx hm
          -- a set without x, or as it was
          have upd : ∀ (S S2 : Nat → Bool) (Q : Nat → Prop), (∀ i, i < 128 → (S i = true ↔ S2 i = true ∧ ¬ (i ∈ L.take j ∧ Q i))) → ∀ S' : Nat → Bool, ((∀ i, i < 128 → S' i = (S i && !decide (i = x))) ∧ Q x) ∨ ((∀ i, i < 128 → S' i = S i) ∧ ¬ Q x) → ∀ i, i < 128 → (S' i = true ↔ S2 i = true ∧ ¬ (i ∈ L.take j ++ [x] ∧ Q i)) := fun S S2 Q hS S' hS' i hi => by
            rcases hS' with ⟨h1, h2⟩ | ⟨h1, h2⟩
            · rw [h1 i hi, Bool.and_eq_true, hS i hi]
              by_cases e : i = x
              · rw [e, decide_eq_true rfl]
                constructor
                · rintro ⟨-, q⟩; cases q
                · rintro ⟨-, q⟩; exact absurd ⟨by simp, h2⟩ q
              · rw [decide_eq_false e]
                simp [e]
            · rw [h1 i hi, hS i hi]
              by_cases e : i = x
              · rw [e]
                constructor
                · rintro ⟨q1, q2⟩; exact ⟨q1, fun z => h2 z.2⟩
                · rintro ⟨q1, q2⟩; exact ⟨q1, fun z => h2 z.2⟩
              · simp [e]
          have u18 := upd (sB J3 18) (sB J2 18) (fun i => 0 < Wp m - Z i m) a3
          have u19 := upd (sB J3 19) (sB J2 19) (fun i => 0 < Z i m) b3
          refine s_X5_forcePart_107 _ _ _ _ _ _ ?_
          rw [z_s p, z_in (by omega) (by omega), z_cl (by omega), e2, z_le (by omega) (by omega) (by omega) (by omega), z_in (by omega) (by omega), z_cl (by omega), hat, show (13 : Int32) = zI (13 : Nat) from rfl, z_mul, z_add, show (x : Int) * ((13 : Nat) : Int) + (m : Int) = ((13 * x + m : Nat) : Int) by omega, z_in (by omega) (by omega), z_cl (by omega), zz1, z_s (f + j)]
          refine ⟨by omega, fun c => absurd c (by omega), fun _ => ⟨by omega, by omega, fun y1 ey => ?_⟩⟩
          rw [ey, show (0 : Int32) = zI 0 from rfl, z_le (by omega) (by omega) (by omega) (by omega), z_le (by omega) (by omega) (by omega) (by omega)]
          refine ⟨fun c1 => ⟨fun c2 => ih3 J3 o3 (u18 _ (Or.inr ⟨fun _ _ => rfl, by omega⟩)) (u19 _ (Or.inr ⟨fun _ _ => rfl, by omega⟩)), fun c2 => ⟨by omega, drop_ok bits18 (by omega) (fun J4 o4 s4 => ⟨rfl, ih3 J4 (fun q a b => (o4 q a).trans (o3 q a b)) (u18 _ (Or.inl ⟨s4, by omega⟩)) (u19 _ (Or.inr ⟨fun i _ => sB_of (o4 19 (by decide)) i, by omega⟩))⟩)⟩⟩, fun c1 => ⟨by omega, drop_ok bits19 (by omega) (fun J4 o4 s4 => ⟨rfl, fun c2 => ih3 J4 (fun q a b => (o4 q b).trans (o3 q a b)) (u18 _ (Or.inr ⟨fun i _ => sB_of (o4 18 (by decide)) i, by omega⟩)) (u19 _ (Or.inl ⟨s4, by omega⟩)), fun c2 => ⟨by omega, by rw [hat]; exact drop_ok bits18 (by omega) (fun J5 o5 s5 => ⟨rfl, ih3 J5 (fun q a b => (o5 q a).trans ((o4 q b).trans (o3 q a b))) (u18 _ (Or.inl ⟨fun i hi => by rw [s5 i hi, sB_of (o4 18 (by decide))], by omega⟩)) (u19 _ (Or.inl ⟨fun i hi => by rw [sB_of (o5 19 (by decide))]; exact s4 i hi, by omega⟩))⟩)⟩⟩)⟩⟩
    · rw [a1 i hi, Bool.or_eq_true, decide_eq_true_eq]
      by_cases e : i ∈ L
      · exact ⟨fun _ => Or.inl ⟨e, fun ⟨m', z1, _⟩ => absurd z1 (by omega)⟩, fun _ => Or.inr e⟩
      · exact ⟨fun q => Or.inr ⟨e, by rcases q with q | q; exact q; exact absurd q e⟩, fun q => by rcases q with q | q; exact absurd q.1 e; exact Or.inl q.2⟩
    · rw [b1 i hi, Bool.or_eq_true, decide_eq_true_eq]
      by_cases e : i ∈ L
      · exact ⟨fun _ => Or.inl ⟨e, fun ⟨m', z1, _⟩ => absurd z1 (by omega)⟩, fun _ => Or.inr e⟩
      · exact ⟨fun q => Or.inr ⟨e, by rcases q with q | q; exact q; exact absurd q e⟩, fun q => by rcases q with q | q; exact absurd q.1 e; exact Or.inl q.2⟩
  · intro j hj ih J1 o1 a1 b1
    have hx := getD_mem hj
    have hx1 := hL _ hx
    have hat := qF_at hq hj
    rw [take_s hj] at ih
    generalize L.getD j 0 = x at *
    refine s_X5_forcePart_8 _ _ _ _ ?_
    rw [z_s p, z_in (by omega) (by omega), z_cl (by omega), e2, z_le (by omega) (by omega) (by omega) (by omega), z_in (by omega) (by omega), z_cl (by omega), hat, z_s (f + j)]
    refine ⟨by omega, fun c => absurd c (by omega), fun _ => ⟨by omega, add_ok bits18 (by omega) (fun J2 o2 s2 => ⟨rfl, by omega, ?_⟩)⟩⟩
    rw [hat]
    refine add_ok bits19 (by omega) (fun J3 o3 s3 => ⟨rfl, ih J3 (fun q a b => (o3 q b).trans ((o2 q a).trans (o1 q a b))) (fun i hi => ?_) (fun i hi => ?_)⟩)
    · rw [sB_of (o3 18 (by decide)), s2 i hi, a1 i hi, Bool.or_assoc, ← Bool.decide_or]
      congr 1
      exact decide_eq_decide.mpr (by simp)
    · rw [s3 i hi, sB_of (o2 19 (by decide)), b1 i hi, Bool.or_assoc, ← Bool.decide_or]
      congr 1
      exact decide_eq_decide.mpr (by simp)
end XFo
