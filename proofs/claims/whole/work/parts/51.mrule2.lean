/-! the reference: rule 2 -/
def r2ok (w h sh : Nat) (M H B K : Nat → Bool) (a b : Nat) : Prop := opS (w * h) H B a = true ∧ 0 < nin w h sh (fre H K) a ∧ opS (w * h) H B b = true ∧ nin w h sh (fre H K) a < nin w h sh (fre H K) b ∧ (∀ i, i < w * h → nb w h sh a i = true → fre H K i = true → nb w h sh b i = true) ∧ (dv w h sh M B K b - dv w h sh M B K a = 0 ∨ dv w h sh M B K b - dv w h sh M B K a = (nin w h sh (fre H K) b : Nat) - (nin w h sh (fre H K) a : Nat))
section M2
variable {I : tg_I} {J : tg_J} {P : Option Value → tg_I → tg_J → Prop} {w h sh : Nat} {M H B F K : Nat → Bool} {Y : Nat → Nat → Bool}
theorem ruleTwo_ok (gk : gOk w h sh) (hm : mst w h sh M H B F I) (hk : mvK M K I) (hd : ∀ i, H i = true → B i = false) (hY : mY (w * h) K Y I) {W : Nat → Bool} (hW : ∀ k, k < 101 → I 14 k = bi (W k)) (hp0 : (∀ a b, a < w * h → b < w * h → ¬ r2ok w h sh M H B K a b) → P (some (.int 0)) I J)
    (hp1 : ∀ a b, a < w * h → b < w * h → r2ok w h sh M H B K a b → (∀ a' b', a' < a → b' < w * h → ¬ r2ok w h sh M H B K a' b') → (∀ b', b' < b → ¬ r2ok w h sh M H B K a b') → ∀ I', (∀ q, q ≠ 13 → q ≠ 14 → I' q = I q) → (∀ i, I' 13 i = if i < w * h ∧ ((nb w h sh b i && fre H K i) && !(nb w h sh a i && fre H K i)) = true then bi (!decide (dv w h sh M B K b - dv w h sh M B K a = 0)) else I 13 i) → (∀ k, k < 101 → I' 14 k = bi (W k || bcs (nb w h sh a) K Y a (w * h) k || bcs (nb w h sh b) K Y b (w * h) k)) → P (some (.int 1)) I' J) : call pgM zX9_ruleTwo [.ref 0] I J P := by
  obtain ⟨hn1, hn2⟩ := mul_le100 gk
  refine e_X9_ruleTwo ?_
  have key := up_loop (L := fun a => (∀ a' b', a' < a → b' < w * h → ¬ r2ok w h sh M H B K a' b') → l_X9_ruleTwo_2 I J P (zI a)) (w * h) ?_ ?_ 0 (Nat.zero_le _) (fun a' b' h => absurd h (by omega))
  · exact key
  · intro hn
    exact s_X9_ruleTwo_2 _ ⟨fun _ => hp0 (fun a b ha hb => hn a b ha hb), fun c => absurd (by rw [hm.1.2.2.2]; exact Int32.le_refl _) c⟩
  · intro a ha ih hn
    have hnx : zI (a : Int) + 1 = zI ((a + 1 : Nat) : Int) := by rw [show (1 : Int32) = zI 1 from rfl, z_add]; rfl
    have h8 := nin_le (w := w) (h := h) (sh := sh) (fre H K) a
    have hda := dv_rng (w := w) (h := h) (sh := sh) (M := M) (B := B) (K := K) a
    have no : (∀ b', b' < w * h → ¬ r2ok w h sh M H B K a b') → l_X9_ruleTwo_2 I J P (zI ((a + 1 : Nat) : Int)) := fun hno => ih (fun a' b' ha' hb' => by
      by_cases e : a' = a
      · rw [e]; exact hno b' hb'
      · exact hn a' b' (by omega) hb')
    -- the loop over b, with the number of a's cells
    have inner : opS (w * h) H B a = true → ∀ b, b ≤ w * h → (∀ b', b' < b → ¬ r2ok w h sh M H B K a b') → l_X9_ruleTwo_32 I J P (zI a) (zI (nin w h sh (fre H K) a : Nat)) (zI b) := by
      intro hoa
      refine up_loop (w * h) ?_ ?_
      · intro hb
        refine s_X9_ruleTwo_32 _ _ _ ⟨fun _ => ?_, fun c => absurd (by rw [hm.1.2.2.2]; exact Int32.le_refl _) c⟩
        rw [hnx]
        exact no hb
      · intro b hb ihb hnb
        have hnk : zI (b : Int) + 1 = zI ((b + 1 : Nat) : Int) := by rw [show (1 : Int32) = zI 1 from rfl, z_add]; rfl
        have h8b := nin_le (w := w) (h := h) (sh := sh) (fre H K) b
        have hdb := dv_rng (w := w) (h := h) (sh := sh) (M := M) (B := B) (K := K) b
        have nob : ¬ r2ok w h sh M H B K a b → l_X9_ruleTwo_32 I J P (zI a) (zI (nin w h sh (fre H K) a : Nat)) (zI ((b + 1 : Nat) : Int)) := fun hno => ihb (fun b' hb' => by
          by_cases e : b' = b
          · rw [e]; exact hno
          · exact hnb b' (by omega))
        have yes : r2ok w h sh M H B K a b → l_X9_ruleTwo_109 I J P (zI a) (zI b) (zI (dv w h sh M B K b - dv w h sh M B K a)) 0 := fun hok => by
          have hd0 : zI (dv w h sh M B K b - dv w h sh M B K a) = 0 ↔ dv w h sh M B K b - dv w h sh M B K a = 0 := by
            rw [show (0 : Int32) = zI 0 from rfl, z_eq (by omega) (by omega) (by omega) (by omega)]
          have key2 := up_loop (L := fun k => ∀ I1, onlyI 13 I I1 → (∀ i, I1 13 i = if i < k ∧ ((nb w h sh b i && fre H K i) && !(nb w h sh a i && fre H K i)) = true then bi (!decide (dv w h sh M B K b - dv w h sh M B K a = 0)) else I 13 i) → l_X9_ruleTwo_109 I1 J P (zI a) (zI b) (zI (dv w h sh M B K b - dv w h sh M B K a)) (zI k)) (w * h) ?_ ?_ 0 (Nat.zero_le _) I (fun _ _ => rfl) (fun i => by rw [if_neg (by omega)])
          · exact key2
          · intro I1 o z
            have m1 : mst w h sh M H B F I1 := mst_keep hm (fun q hq => o q (by omega))
            refine s_X9_ruleTwo_109 _ _ _ _ ⟨fun _ => ?_, fun c => absurd (by rw [m1.1.2.2.2]; exact Int32.le_refl _) c⟩
            refine becauseOf_ok gk m1 (fun i hi => by rw [o 11 (by decide)]; exact hk i hi) (fun b k hb hk2 hK => by rw [o 12 (by decide)]; exact hY b k hb hk2 hK) (fun k hk2 => by rw [o 14 (by decide)]; exact hW k hk2) ha (fun I2 o2 z2 => ⟨rfl, ?_⟩)
            have m2 : mst w h sh M H B F I2 := mst_keep m1 (fun q hq => o2 q (by omega))
            refine becauseOf_ok gk m2 (fun i hi => by rw [o2 11 (by decide), o 11 (by decide)]; exact hk i hi) (fun b k hb hk2 hK => by rw [o2 12 (by decide), o 12 (by decide)]; exact hY b k hb hk2 hK) z2 hb (fun I3 o3 z3 => ⟨rfl, ?_⟩)
            refine hp1 a b ha hb hok hn hnb I3 (fun q a b => (o3 q b).trans ((o2 q b).trans (o q a))) (fun i => ?_) z3
            rw [o3 13 (by decide), o2 13 (by decide), z i]
          · intro k hk2 ihk I1 o z
            have m1 : mst w h sh M H B F I1 := mst_keep hm (fun q hq => o q (by omega))
            have k1 : mvK M K I1 := fun i hi => by rw [o 11 (by decide)]; exact hk i hi
            have hnk : zI (k : Int) + 1 = zI ((k + 1 : Nat) : Int) := by rw [show (1 : Int32) = zI 1 from rfl, z_add]; rfl
            have same : ((nb w h sh b k && fre H K k) && !(nb w h sh a k && fre H K k)) = false → ∀ I2, I2 = u2 I1 13 k (I1 13 k) → l_X9_ruleTwo_109 I2 J P (zI a) (zI b) (zI (dv w h sh M B K b - dv w h sh M B K a)) (zI ((k + 1 : Nat) : Int)) := fun hf I2 e2 => ihk I2 (fun q hq => by rw [e2, u2_other _ _ _ _ hq]; exact o q hq) (fun i => by
              rw [e2, u2_at]
              by_cases e : i = k
              · rw [if_pos e, e, z k, if_neg (by omega), if_neg (by rw [hf]; simp)]
              · rw [if_neg e, z i]
                by_cases q : i < k ∧ ((nb w h sh b i && fre H K i) && !(nb w h sh a i && fre H K i)) = true
                · rw [if_pos q, if_pos ⟨by omega, q.2⟩]
                · rw [if_neg q, if_neg (fun q2 => q ⟨by omega, q2.2⟩)])
            have take : ((nb w h sh b k && fre H K k) && !(nb w h sh a k && fre H K k)) = true → ∀ (v : Int32) (I2 : tg_I), v = bi (!decide (dv w h sh M B K b - dv w h sh M B K a = 0)) → I2 = u2 I1 13 k v → l_X9_ruleTwo_109 I2 J P (zI a) (zI b) (zI (dv w h sh M B K b - dv w h sh M B K a)) (zI ((k + 1 : Nat) : Int)) := fun ht v I2 ev e2 => ihk I2 (fun q hq => by rw [e2, u2_other _ _ _ _ hq]; exact o q hq) (fun i => by
              rw [e2, u2_at]
              by_cases e : i = k
              · rw [if_pos e, e, if_pos ⟨by omega, ht⟩, ev]
              · rw [if_neg e, z i]
                by_cases q : i < k ∧ ((nb w h sh b i && fre H K i) && !(nb w h sh a i && fre H K i)) = true
                · rw [if_pos q, if_pos ⟨by omega, q.2⟩]
                · rw [if_neg q, if_neg (fun q2 => q ⟨by omega, q2.2⟩)])
            refine s_X9_ruleTwo_109 _ _ _ _ ?_
            rw [m1.1.2.2.2, z_le (by omega) (by omega) (by omega) (by omega), z_in (by omega) (by omega), z_cl (by omega), hnk]
            refine ⟨fun c => absurd c (by omega), fun _ => isUnsure_ok gk m1 k1 hb hk2 ⟨_, rfl, ?_⟩⟩
            rw [bi_0]
            refine ⟨fun c => ⟨by omega, by omega, fun I2 e2 => same (by rw [c]; rfl) I2 e2⟩, fun c => isUnsure_ok gk m1 k1 ha hk2 ⟨_, rfl, ?_⟩⟩
            have hc : (nb w h sh b k && fre H K k) = true := Bool.of_not_eq_false c
            rw [bi_0, hd0]
            refine ⟨fun c2 => ⟨by omega, by omega, fun I2 e2 => same (by rw [Bool.of_not_eq_false c2]; simp) I2 e2⟩, fun c2 => ⟨fun c3 => ⟨by omega, fun I2 e2 => take (by rw [hc, c2]; rfl) 1 I2 (by rw [decide_eq_false c3]; rfl) e2⟩, fun c3 => ⟨by omega, fun I2 e2 => take (by rw [hc, c2]; rfl) 0 I2 (by rw [decide_eq_true c3]; rfl) e2⟩⟩⟩
        refine s_X9_ruleTwo_32 _ _ _ ?_
        rw [hm.1.2.2.2, z_le (by omega) (by omega) (by omega) (by omega), z_in (by omega) (by omega), z_cl (by omega), (hm.2.2 b (by omega)).2.1, sc_1 hb, hnk, hnx, show (0 : Int32) = zI (0 : Nat) from rfl, z_le (by omega) (by omega) (by omega) (by omega)]
        refine ⟨fun c => absurd c (by omega), fun _ => ⟨fun c => no (fun b' _ q => by have := q.2.1; omega), fun c => ⟨by omega, fun c1 => nob (fun q => c1 q.2.2.1), fun c1 => unsure_ok gk hm hk hb ⟨_, rfl, ?_⟩⟩⟩⟩
        rw [z_sub, z_le (by omega) (by omega) (by omega) (by omega)]
        refine ⟨fun c2 => nob (fun q => by have := q.2.2.2.1; omega), fun c2 => isWithin_ok gk hm hk ha hb (fun r hr => ⟨_, rfl, ?_⟩)⟩
        rw [show zI ((0 : Nat) : Int) = (0 : Int32) from rfl, bi_0]
        refine ⟨fun c3 => nob (fun q => by have := hr.mpr q.2.2.2.2.1; rw [c3] at this; cases this), fun c3 => mdue_ok gk hm hk hd hb ⟨_, rfl, mdue_ok gk hm hk hd ha ⟨_, rfl, ?_⟩⟩⟩
        have hw := hr.mp (Bool.of_not_eq_false c3)
        have e0 : ((nin w h sh M b : Nat) - (nin w h sh B b : Nat) - (nin w h sh (fun i => K i && M i) b : Nat) : Int) = dv w h sh M B K b := rfl
        have e1 : ((nin w h sh M a : Nat) - (nin w h sh B a : Nat) - (nin w h sh (fun i => K i && M i) a : Nat) : Int) = dv w h sh M B K a := rfl
        rw [e0, e1, z_sub, show (0 : Int32) = zI 0 from rfl, z_eq (by omega) (by omega) (by omega) (by omega), z_eq (by omega) (by omega) (by omega) (by omega)]
        refine ⟨fun c4 => yes ⟨hoa, by omega, c1, by omega, hw, Or.inl c4⟩, fun c4 => ⟨fun c5 => nob (fun q => by rcases q.2.2.2.2.2 with z | z <;> omega), fun c5 => yes ⟨hoa, by omega, c1, by omega, hw, Or.inr c5⟩⟩⟩
    refine s_X9_ruleTwo_2 _ ?_
    rw [hm.1.2.2.2, z_le (by omega) (by omega) (by omega) (by omega), z_in (by omega) (by omega), z_cl (by omega), (hm.2.2 a (by omega)).2.1, sc_1 ha]
    refine ⟨fun c => absurd c (by omega), fun _ => ⟨by omega, fun c => ?_, fun c => unsure_ok gk hm hk ha ⟨_, rfl, inner c 0 (Nat.zero_le _) (fun b' h => absurd h (by omega))⟩⟩⟩
    refine s_X9_ruleTwo_32 _ _ _ ⟨fun q => ?_, fun _ => ⟨fun _ => ?_, fun q => absurd (Int32.le_refl _) q⟩⟩
    · rw [hnx]; exact no (fun b' _ q => c q.1)
    · rw [hnx]; exact no (fun b' _ q => c q.1)
end M2
