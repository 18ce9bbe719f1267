/-! the reference: rule 1 -/
def dv (w h sh : Nat) (M B K : Nat → Bool) (a : Nat) : Int := (nin w h sh M a : Nat) - (nin w h sh B a : Nat) - (nin w h sh (fun i => K i && M i) a : Nat)
def r1ok (w h sh : Nat) (M H B K : Nat → Bool) (a : Nat) : Prop := opS (w * h) H B a = true ∧ 0 < nin w h sh (fre H K) a ∧ (dv w h sh M B K a = 0 ∨ dv w h sh M B K a = (nin w h sh (fre H K) a : Nat))
section M1
variable {I : tg_I} {J : tg_J} {P : Option Value → tg_I → tg_J → Prop} {w h sh : Nat} {M H B F K : Nat → Bool} {Y : Nat → Nat → Bool}
theorem dv_rng (a : Nat) : -16 ≤ dv w h sh M B K a ∧ dv w h sh M B K a ≤ 8 := by
  have h1 := nin_le (w := w) (h := h) (sh := sh) M a
  have h2 := nin_le (w := w) (h := h) (sh := sh) B a
  have h3 := nin_le (w := w) (h := h) (sh := sh) (fun i => K i && M i) a
  unfold dv
  omega
theorem ruleOne_ok (gk : gOk w h sh) (hm : mst w h sh M H B F I) (hk : mvK M K I) (hd : ∀ i, H i = true → B i = false) (hY : mY (w * h) K Y I) {W : Nat → Bool} (hW : ∀ k, k < 101 → I 14 k = bi (W k)) (hp0 : (∀ a, a < w * h → ¬ r1ok w h sh M H B K a) → P (some (.int 0)) I J)
    (hp1 : ∀ a, a < w * h → r1ok w h sh M H B K a → (∀ a', a' < a → ¬ r1ok w h sh M H B K a') → ∀ I', (∀ q, q ≠ 13 → q ≠ 14 → I' q = I q) → (∀ i, I' 13 i = if i < w * h ∧ (nb w h sh a i && fre H K i) = true then bi (!decide (dv w h sh M B K a = 0)) else I 13 i) → (∀ k, k < 101 → I' 14 k = bi (W k || bcs (nb w h sh a) K Y a (w * h) k)) → P (some (.int 1)) I' J) : call pgM zX9_ruleOne [.ref 0] I J P := by
  obtain ⟨hn1, hn2⟩ := mul_le100 gk
  refine e_X9_ruleOne ?_
  have key := up_loop (L := fun a => (∀ a', a' < a → ¬ r1ok w h sh M H B K a') → l_X9_ruleOne_2 I J P (zI a)) (w * h) ?_ ?_ 0 (Nat.zero_le _) (fun a' h => absurd h (by omega))
  · exact key
  · intro hn
    exact s_X9_ruleOne_2 _ ⟨fun _ => hp0 hn, fun c => absurd (by rw [hm.1.2.2.2]; exact Int32.le_refl _) c⟩
  · intro a ha ih hn
    have hnx : zI (a : Int) + 1 = zI ((a + 1 : Nat) : Int) := by rw [show (1 : Int32) = zI 1 from rfl, z_add]; rfl
    have h8 := nin_le (w := w) (h := h) (sh := sh) (fre H K) a
    have hdv := dv_rng (w := w) (h := h) (sh := sh) (M := M) (B := B) (K := K) a
    have no : ¬ r1ok w h sh M H B K a → l_X9_ruleOne_2 I J P (zI ((a + 1 : Nat) : Int)) := fun hno => ih (fun a' ha' => by
      by_cases e : a' = a
      · rw [e]; exact hno
      · exact hn a' (by omega))
    have yes : r1ok w h sh M H B K a → ∀ v : Bool, v = !decide (dv w h sh M B K a = 0) → l_X9_ruleOne_68 I J P (zI a) (bi v) 0 := fun hok v hv => by
      have key2 := up_loop (L := fun k => ∀ I1, onlyI 13 I I1 → (∀ i, I1 13 i = if i < k ∧ (nb w h sh a i && fre H K i) = true then bi v else I 13 i) → l_X9_ruleOne_68 I1 J P (zI a) (bi v) (zI k)) (w * h) ?_ ?_ 0 (Nat.zero_le _) I (fun _ _ => rfl) (fun i => by rw [if_neg (by omega)])
      · exact key2
      · intro I1 o z
        have m1 : mst w h sh M H B F I1 := mst_keep hm (fun q hq => o q (by omega))
        refine s_X9_ruleOne_68 _ _ _ ⟨fun _ => ?_, fun c => absurd (by rw [m1.1.2.2.2]; exact Int32.le_refl _) c⟩
        refine becauseOf_ok gk m1 (fun i hi => by rw [o 11 (by decide)]; exact hk i hi) (fun b k hb hk2 hK => by rw [o 12 (by decide)]; exact hY b k hb hk2 hK) (fun k hk2 => by rw [o 14 (by decide)]; exact hW k hk2) ha (fun I2 o2 z2 => ⟨rfl, ?_⟩)
        refine hp1 a ha hok hn I2 (fun q a b => (o2 q b).trans (o q a)) (fun i => ?_) z2
        rw [o2 13 (by decide), z i, hv]
      · intro k hk2 ihk I1 o z
        have m1 : mst w h sh M H B F I1 := mst_keep hm (fun q hq => o q (by omega))
        have hnk : zI (k : Int) + 1 = zI ((k + 1 : Nat) : Int) := by rw [show (1 : Int32) = zI 1 from rfl, z_add]; rfl
        refine s_X9_ruleOne_68 _ _ _ ?_
        rw [m1.1.2.2.2, z_le (by omega) (by omega) (by omega) (by omega), z_in (by omega) (by omega), z_cl (by omega), hnk]
        refine ⟨fun c => absurd c (by omega), fun _ => isUnsure_ok gk m1 (fun i hi => by rw [o 11 (by decide)]; exact hk i hi) ha hk2 ⟨_, rfl, ?_⟩⟩
        rw [bi_0]
        refine ⟨fun c => ⟨by omega, by omega, fun I2 e2 => ihk I2 (fun q hq => by rw [e2, u2_other _ _ _ _ hq]; exact o q hq) (fun i => ?_)⟩, fun c => ⟨by omega, fun I2 e2 => ihk I2 (fun q hq => by rw [e2, u2_other _ _ _ _ hq]; exact o q hq) (fun i => ?_)⟩⟩
        · rw [e2, u2_at]
          by_cases e : i = k
          · rw [if_pos e, e, z k, if_neg (by omega), if_neg (by rw [c]; simp)]
          · rw [if_neg e, z i]
            by_cases q : i < k ∧ (nb w h sh a i && fre H K i) = true
            · rw [if_pos q, if_pos ⟨by omega, q.2⟩]
            · rw [if_neg q, if_neg (fun q2 => q ⟨by omega, q2.2⟩)]
        · rw [e2, u2_at]
          by_cases e : i = k
          · rw [if_pos e, e, if_pos ⟨by omega, Bool.of_not_eq_false c⟩]
          · rw [if_neg e, z i]
            by_cases q : i < k ∧ (nb w h sh a i && fre H K i) = true
            · rw [if_pos q, if_pos ⟨by omega, q.2⟩]
            · rw [if_neg q, if_neg (fun q2 => q ⟨by omega, q2.2⟩)]
    have due : ∀ Q : Option Value → tg_I → tg_J → Prop, Q (some (.int (zI (dv w h sh M B K a)))) I J → call pgM zX9_due [.ref 0, .int (zI a)] I J Q := fun Q hq => mdue_ok gk hm hk hd ha hq
    have hd0 : zI (dv w h sh M B K a) = 0 ↔ dv w h sh M B K a = 0 := by
      rw [show (0 : Int32) = zI 0 from rfl, z_eq (by omega) (by omega) (by omega) (by omega)]
    refine s_X9_ruleOne_2 _ ?_
    rw [hm.1.2.2.2, z_le (by omega) (by omega) (by omega) (by omega), z_in (by omega) (by omega), z_cl (by omega), (hm.2.2 a (by omega)).2.1, sc_1 ha, hnx]
    refine ⟨fun c => absurd c (by omega), fun _ => ⟨by omega, fun c => no (fun q => c q.1), fun c => unsure_ok gk hm hk ha ⟨_, rfl, ?_⟩⟩⟩
    rw [show (0 : Int32) = zI (0 : Nat) from rfl, z_le (by omega) (by omega) (by omega) (by omega)]
    refine ⟨fun c1 => no (fun q => by have := q.2.1; omega), fun c1 => due _ ⟨_, rfl, ?_⟩⟩
    rw [show zI ((0 : Nat) : Int) = (0 : Int32) from rfl, hd0]
    refine ⟨fun c2 => due _ ⟨_, rfl, fun c3 => absurd (hd0.mpr c2) c3, fun _ => yes ⟨c, by omega, Or.inl c2⟩ false (by rw [decide_eq_true c2]; rfl)⟩, fun c2 => due _ ⟨_, rfl, ?_⟩⟩
    rw [z_eq (by omega) (by omega) (by omega) (by omega)]
    refine ⟨fun c3 => no (fun q => by rcases q.2.2 with z | z <;> omega), fun c3 => due _ ⟨_, rfl, fun _ => yes ⟨c, by omega, Or.inr c3⟩ true (by rw [decide_eq_false c2]; rfl), fun c4 => absurd (hd0.mp c4) c2⟩⟩
end M1
