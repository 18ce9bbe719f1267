/-! the reference: rule 3, rule -/
section M3
variable {I : tg_I} {J : tg_J} {P : Option Value → tg_I → tg_J → Prop} {w h sh : Nat} {M H B F K : Nat → Bool} {Y : Nat → Nat → Bool}
theorem nin_sc0 {a : Nat} : nin w h sh (fun i => decide (sc (w * h) H B i = 0)) a = nin w h sh H a := nin_cong (fun i hi => by
  have := sc_0 (H := H) (B := B) hi
  cases e : H i
  · exact decide_eq_false (fun q => by rw [this.mp q] at e; cases e)
  · exact decide_eq_true (this.mpr e))
/-- what a rule may change -/
def oRu (I I' : tg_I) : Prop := (∀ q, q ≠ 0 → q ≠ 13 → q ≠ 14 → q ≠ 15 → q ≠ 16 → q ≠ 17 → I' q = I q) ∧ ∀ x, x ≠ 26 → x ≠ 27 → I' 0 x = I 0 x
theorem oRu.mst {I I' : tg_I} (o : oRu I I') (hm : mst w h sh M H B F I) : mst w h sh M H B F I' := mst_K hm (fun q a b => o.1 q (by omega) (by omega) (by omega) (by omega) (by omega) (by omega)) (fun x hx => o.2 x (by omega) (by omega))
theorem rt78 (gk : gOk w h sh) (hm : mst w h sh M H B F I) (hW : ∀ k, k < 101 → I 14 k = 0) (hp : ∀ I', onlyI 14 I I' → (∀ k, k < 101 → I' 14 k = bi (w3 w h sh H (opS (w * h) H B) k)) → P (some (.int 1)) I' J) : l_X9_ruleThree_78 I J P 0 := by
  obtain ⟨hn1, hn2⟩ := mul_le100 gk
  have key := up_loop (L := fun k => ∀ I1, onlyI 14 I I1 → (∀ i, i < 101 → I1 14 i = bi (decide (i < k) && (decide (i < w * h) && opS (w * h) H B i && decide (0 < nin w h sh H i)))) → l_X9_ruleThree_78 I1 J P (zI k)) (w * h) ?_ ?_ 0 (Nat.zero_le _) I (fun _ _ => rfl) (fun i hi => by rw [hW i hi]; simp [bi])
  · exact key
  · intro I1 o1 z1
    refine s_X9_ruleThree_78 _ ⟨fun _ => ?_, fun c => absurd (by rw [o1 0 (by decide), hm.1.2.2.2]; exact Int32.le_refl _) c⟩
    rw [show (100 : Int32) = zI ((100 : Nat) : Int) from rfl, z_in (by omega) (by omega), z_cl (by omega)]
    refine ⟨by omega, fun I2 e2 => hp I2 (fun q hq => by rw [e2, u2_other _ _ _ _ hq]; exact o1 q hq) (fun k hk => ?_)⟩
    rw [e2, u2_at]
    unfold w3
    by_cases e : k = 100
    · rw [if_pos e, decide_eq_true e]; rfl
    · rw [if_neg e, decide_eq_false e, z1 k hk, Bool.false_or]
      by_cases e2 : k < w * h
      · rw [decide_eq_true e2]; rfl
      · rw [decide_eq_false e2]; rfl
  · intro k hk ih I1 o1 z1
    have m1 : mst w h sh M H B F I1 := mst_keep hm (fun q hq => o1 q (by omega))
    have h8 := nin_le (w := w) (h := h) (sh := sh) H k
    have upd : ∀ (x : Bool) (I2 : tg_I), I2 = u2 I1 14 k (bi x) → x = (opS (w * h) H B k && decide (0 < nin w h sh H k)) → l_X9_ruleThree_78 I2 J P (zI ((k + 1 : Nat) : Int)) := fun x I2 e2 ex => ih I2 (fun q hq => by rw [e2, u2_other _ _ _ _ hq]; exact o1 q hq) (fun i hi => by
      rw [e2, u2_at]
      by_cases e : i = k
      · rw [if_pos e, ex, e, decide_eq_true (show k < k + 1 by omega), decide_eq_true hk]; rfl
      · rw [if_neg e, z1 i hi, show decide (i < k + 1) = decide (i < k) from decide_eq_decide.mpr (by omega)])
    refine s_X9_ruleThree_78 _ ?_
    rw [m1.1.2.2.2, z_le (by omega) (by omega) (by omega) (by omega), z_in (by omega) (by omega), z_cl (by omega), (m1.2.2 k (by omega)).2.1, sc_1 hk, z_in (by omega) (by omega), z_s, nar0]
    refine ⟨fun c => absurd c (by omega), fun _ => ⟨by omega, fun c => ⟨by omega, fun I2 e2 => upd false I2 e2 (by rw [show opS (w * h) H B k = false by simpa using c]; rfl)⟩, fun c => mnearState_ok gk m1 hk 0 ⟨_, rfl, ?_⟩⟩⟩
    rw [nin_sc0, show (0 : Int32) = zI 0 from rfl, z_le (by omega) (by omega) (by omega) (by omega)]
    exact ⟨fun c2 => ⟨by omega, fun I2 e2 => upd false I2 e2 (by rw [decide_eq_false (by omega), Bool.and_false])⟩, fun c2 => ⟨by omega, fun I2 e2 => upd true I2 e2 (by rw [c, decide_eq_true (by omega)]; rfl)⟩⟩
theorem ruleThree_ok (gk : gOk w h sh) (hm : mst w h sh M H B F I) (oS : okS (w * h) M H B F) (hk : mvK M K I) (hW : ∀ k, k < 101 → I 14 k = 0)
    (hp0 : (gdH w h sh H (opS (w * h) H B) = false ∨ ∀ a, a < w * h → fre H K a = true → ¬ r3ok w h sh M H (opS (w * h) H B) a) → ∀ I' J', oRu I I' → P (some (.int 0)) I' J')
    (hp1 : gdH w h sh H (opS (w * h) H B) = true → ∀ a, a < w * h → fre H K a = true → r3ok w h sh M H (opS (w * h) H B) a → (∀ a', a' < a → fre H K a' = true → ¬ r3ok w h sh M H (opS (w * h) H B) a') → ∀ I' J', oRu I I' → (∀ i, I' 13 i = if i = a then bi (M a) else I 13 i) → (∀ k, k < 101 → I' 14 k = bi (w3 w h sh H (opS (w * h) H B) k)) → P (some (.int 1)) I' J') : call pgM zX9_ruleThree [.ref 0] I J P := by
  obtain ⟨hn1, hn2⟩ := mul_le100 gk
  have kpR : ∀ I', kpW I I' → oRu I I' := fun I' k => ⟨fun q a _ _ d e f => k.1 q a d e f, k.2⟩
  refine e_X9_ruleThree (partsWays gk hm oS (fun e I1 k1 => ⟨_, rfl, fun c => absurd rfl c, fun _ => hp0 (Or.inl e) I1 _ (kpR I1 k1)⟩) (fun e I1 k1 m1 fw => ⟨_, rfl, fun _ => fw _ (fun I2 J2 k2 m2 oj mp => ⟨rfl, ?_⟩), fun c => absurd c ne_1_0⟩))
  have hk2 : mvK M K I2 := fun i hi => by rw [k2.1 11 (by decide) (by decide) (by decide) (by decide)]; exact hk i hi
  have e13 : I2 13 = I 13 := k2.1 13 (by decide) (by decide) (by decide) (by decide)
  have e14 : I2 14 = I 14 := k2.1 14 (by decide) (by decide) (by decide) (by decide)
  have key := up_loop (L := fun a => ∀ J3 : tg_J, oJ2 J2 J3 → (∀ a', a' < a → fre H K a' = true → ¬ r3ok w h sh M H (opS (w * h) H B) a') → l_X9_ruleThree_15 I2 J3 P (zI a)) (w * h) ?_ ?_ 0 (Nat.zero_le _) J2 (fun _ _ _ => rfl) (fun a' h => absurd h (by omega))
  · exact key
  · intro J3 o3 hn
    exact s_X9_ruleThree_15 _ ⟨fun _ => hp0 (Or.inr hn) I2 J3 (kpR I2 k2), fun c => absurd (by rw [m2.1.2.2.2]; exact Int32.le_refl _) c⟩
  · intro a ha ih J3 o3 hn
    have next : ∀ J4 : tg_J, oJ2 J2 J4 → (fre H K a = true → ¬ r3ok w h sh M H (opS (w * h) H B) a) → l_X9_ruleThree_15 I2 J4 P (zI ((a + 1 : Nat) : Int)) := fun J4 o4 q => ih J4 o4 (fun a' ha' => by
      by_cases e : a' = a
      · rw [e]; exact q
      · exact hn a' (by omega))
    have mp3 : ∀ J4 : tg_J, oJ2 J2 J4 → mPW w h sh M H (opS (w * h) H B) I2 J4 := fun J4 o4 => by
      obtain ⟨w1, w2, w3, w4, w5⟩ := mp
      exact ⟨w1, w2, w3, by rw [o4 18 (by decide) (by decide)]; exact w4, by rw [o4 19 (by decide) (by decide)]; exact w5⟩
    have give : ∀ J4 : tg_J, fre H K a = true → r3ok w h sh M H (opS (w * h) H B) a → ∀ I3, I3 = u2 I2 13 a (bi (M a)) → l_X9_ruleThree_78 I3 J4 P 0 := fun J4 hf hr I3 e3 => by
      have m3 : mst w h sh M H B F I3 := mst_keep m2 (fun q hq => by rw [e3, u2_other _ _ _ _ (by omega)])
      refine rt78 gk m3 (fun k hk => by rw [e3, u2_other _ _ _ _ (by decide), e14]; exact hW k hk) (fun I4 o4 z4 => hp1 e a ha hf hr hn I4 J4 ⟨fun q a b c d e f => by rw [o4 q c, e3, u2_other _ _ _ _ b]; exact k2.1 q a d e f, fun x a b => by rw [o4 0 (by decide), e3, u2_other _ _ _ _ (by decide)]; exact k2.2 x a b⟩ (fun i => ?_) z4)
      rw [o4 13 (by decide), e3, u2_at, e13]
    refine s_X9_ruleThree_15 _ ?_
    have hv := mv_sgn (hk2 a (by omega))
    rw [m2.1.2.2.2, z_le (by omega) (by omega) (by omega) (by omega), z_in (by omega) (by omega), z_cl (by omega), (m2.2.2 a (by omega)).2.1, sc_0 ha, hv.1, z_s]
    refine ⟨fun c => absurd c (by omega), fun _ => ⟨by omega, fun c => next J3 o3 (fun q => ?_), fun c => ⟨by omega, fun c2 => next J3 o3 (fun q => ?_), fun c2 => ?_⟩⟩⟩
    · unfold fre at q
      rw [show H a = false by simpa using c] at q; cases q
    · unfold fre at q
      rw [c2] at q; simp at q
    · have hf : fre H K a = true := by unfold fre; rw [c, show K a = false by simpa using c2]; rfl
      refine canBe_ok gk m2 oS rfl e (mp3 J3 o3) ha true (fun J4 r o4 hr => ⟨_, rfl, ?_⟩)
      have o24 : oJ2 J2 J4 := fun q a b => (o4 q a b).trans (o3 q a b)
      rw [bi_0]
      refine ⟨fun cr => ⟨fun _ => ⟨by omega, fun I3 e3 => ?_⟩, fun z => absurd cr z⟩, fun cr => ?_⟩
      · have hnc : ¬ cbe w h sh M H (opS (w * h) H B) a true := fun z => by rw [hr.mpr z] at cr; cases cr
        have hM := cbe_not gk oS e c hnc
        exact give J4 hf (Or.inl hnc) I3 (by rw [e3, hM]; rfl)
      · have hcan : cbe w h sh M H (opS (w * h) H B) a true := hr.mp (by simpa using cr)
        refine canBe_ok gk m2 oS rfl e (mp3 J4 o24) ha false (fun J5 r5 o5 hr5 => ⟨_, rfl, ?_⟩)
        have o25 : oJ2 J2 J5 := fun q a b => (o5 q a b).trans (o24 q a b)
        rw [bi_0]
        refine ⟨fun c5 => next J5 o25 (fun _ q => ?_), fun c5 => ⟨fun z => absurd z cr, fun _ => ⟨by omega, fun I3 e3 => ?_⟩⟩⟩
        · rcases q with q | q
          · exact q hcan
          · exact q (hr5.mp (by simpa using c5))
        · have hnc : ¬ cbe w h sh M H (opS (w * h) H B) a false := fun z => by rw [hr5.mpr z] at c5; cases c5
          have hM := cbe_not gk oS e c hnc
          exact give J5 hf (Or.inr hnc) I3 (by rw [e3, hM]; rfl)
/-- the verdicts that a rule gave, as the reference keeps them -/
def mgv (G : Nat → Bool) (v : Bool) (W : Nat → Bool) (I : tg_I) : Prop := (∀ i, i < 100 → I 13 i = if G i then bi v else -1) ∧ ∀ k, k < 101 → I 14 k = bi (W k)
theorem rule_ok (gk : gOk w h sh) (hm : mst w h sh M H B F I) (oS : okS (w * h) M H B F) (hk : mvK M K I) (hY : mY (w * h) K Y I) {gr : Nat} (hg1 : 1 ≤ gr) (hgr : gr ≤ 3)
    (hp0 : stN w h sh M H B K gr → ∀ I' J', oRu I I' → P (some (.int 0)) I' J') (hp1 : ∀ kd G v W, stR w h sh M H B K Y gr kd G v W → ∀ I' J', oRu I I' → mgv G v W I' → P (some (.int (zI kd))) I' J') : call pgM zX9_rule [.ref 0, .int (zI gr)] I J P := by
  obtain ⟨hn1, hn2⟩ := mul_le100 gk
  refine e_X9_rule _ (clearGiven_ok (fun I1 o1 g1 b1 => ⟨rfl, ?_⟩))
  have or1 : oRu I I1 := ⟨fun q _ b c _ _ _ => o1 q b c, fun x _ _ => by rw [o1 0 (by decide) (by decide)]⟩
  have m1 := or1.mst hm
  have hk1 : mvK M K I1 := fun i hi => by rw [o1 11 (by decide) (by decide)]; exact hk i hi
  have hY1 : mY (w * h) K Y I1 := fun b k hb hk2 hK => by rw [o1 12 (by decide) (by decide)]; exact hY b k hb hk2 hK
  have hW1 : ∀ k, k < 101 → I1 14 k = bi ((fun _ => false : Nat → Bool) k) := b1
  have rt : 3 ≤ gr → (∀ a, a < w * h → ¬ r1ok w h sh M H B K a) → (∀ a b, a < w * h → b < w * h → ¬ r2ok w h sh M H B K a b) → ∀ Q : Option Value → tg_I → tg_J → Prop, (∀ I2 J2, P (some (.int 0)) I2 J2 → Q (some (.int 0)) I2 J2) → (∀ I2 J2, P (some (.int 3)) I2 J2 → Q (some (.int 1)) I2 J2) → call pgM zX9_ruleThree [.ref 0] I1 J Q := fun h3 n1 n2 Q q0 q1 => by
    refine ruleThree_ok gk m1 oS hk1 b1 (fun z I2 J2 o2 => q0 I2 J2 (hp0 ⟨n1, fun _ => n2, fun _ => z⟩ I2 J2 ⟨fun q a b c d e f => (o2.1 q a b c d e f).trans (or1.1 q a b c d e f), fun x a b => (o2.2 x a b).trans (or1.2 x a b)⟩)) (fun hg a ha hf hr hfi I2 J2 o2 z1 z2 => q1 I2 J2 (hp1 3 _ _ _ (Or.inr (Or.inr ⟨rfl, h3, n1, n2, hg, a, ha, hf, hr, hfi, rfl, rfl, rfl⟩)) I2 J2 ⟨fun q a b c d e f => (o2.1 q a b c d e f).trans (or1.1 q a b c d e f), fun x a b => (o2.2 x a b).trans (or1.2 x a b)⟩ ⟨fun i hi => ?_, z2⟩))
    rw [z1 i]
    by_cases e : i = a
    · rw [if_pos e, if_pos (decide_eq_true e)]
    · rw [if_neg e, if_neg (by simpa using e)]; exact g1 i hi
  refine ruleOne_ok gk m1 hk1 oS.2.2.1 hY1 hW1 (fun n1 => ⟨_, rfl, fun _ => ?_, fun z => absurd rfl z⟩) (fun a ha hr hf I2 o2 z1 z2 => ⟨_, rfl, fun z => absurd z (by decide), fun _ => ?_⟩)
  · rw [show (1 : Int32) = zI (1 : Nat) from rfl, z_le (by omega) (by omega) (by omega) (by omega), show (2 : Int32) = zI (2 : Nat) from rfl, z_le (by omega) (by omega) (by omega) (by omega)]
    refine ⟨fun c => ⟨fun _ => hp0 ⟨n1, fun z => absurd z (by omega), fun z => absurd z (by omega)⟩ I1 J or1, fun c2 => absurd (by omega) c2⟩, fun c => ?_⟩
    refine ruleTwo_ok gk m1 hk1 oS.2.2.1 hY1 hW1 (fun n2 => ⟨_, rfl, fun _ => ⟨fun c2 => hp0 ⟨n1, fun _ => n2, fun z => absurd z (by omega)⟩ I1 J or1, fun c2 => rt (by omega) n1 n2 _ (fun I2 J2 q => ⟨_, rfl, fun _ => q, fun z => absurd rfl z⟩) (fun I2 J2 q => ⟨_, rfl, fun z => absurd z (by decide), fun _ => q⟩)⟩, fun z => absurd rfl z⟩) (fun a b ha hb hr hf hf2 I2 o2 z1 z2 => ⟨_, rfl, fun z => absurd z (by decide), fun _ => ?_⟩)
    refine hp1 2 _ _ _ (Or.inr (Or.inl ⟨rfl, by omega, n1, a, b, ha, hb, hr, hf, hf2, rfl, rfl, rfl⟩)) I2 J ⟨fun q a b c d e f => (o2 q b c).trans (or1.1 q a b c d e f), fun x a b => by rw [o2 0 (by decide) (by decide)]; exact or1.2 x a b⟩ ⟨fun i hi => ?_, fun k hk => by rw [z2 k hk, Bool.false_or]⟩
    rw [z1 i]
    by_cases e : i < w * h ∧ ((nb w h sh b i && fre H K i) && !(nb w h sh a i && fre H K i)) = true
    · rw [if_pos e, if_pos e.2]
    · rw [if_neg e, if_neg (fun q => e ⟨?_, q⟩)]
      · exact g1 i hi
      · simp only [Bool.and_eq_true] at q
        exact fre_lt oS q.1.2
  · refine hp1 1 _ _ _ (Or.inl ⟨rfl, a, ha, hr, hf, rfl, rfl, rfl⟩) I2 J ⟨fun q a b c d e f => (o2 q b c).trans (or1.1 q a b c d e f), fun x a b => by rw [o2 0 (by decide) (by decide)]; exact or1.2 x a b⟩ ⟨fun i hi => ?_, fun k hk => by rw [z2 k hk, Bool.false_or]⟩
    rw [z1 i]
    by_cases e : i < w * h ∧ (nb w h sh a i && fre H K i) = true
    · rw [if_pos e, if_pos e.2]
    · rw [if_neg e, if_neg (fun q => e ⟨?_, q⟩)]
      · exact g1 i hi
      · simp only [Bool.and_eq_true] at q
        exact fre_lt oS q.2
end M3
