/-! the reference: findParts -/
section MP4
variable {I : tg_I} {J : tg_J} {P : Option Value → tg_I → tg_J → Prop} {w h sh : Nat} {M H B F : Nat → Bool}
theorem nin_sc1 {a : Nat} : nin w h sh (fun i => decide (sc (w * h) H B i = 1)) a = nin w h sh (opS (w * h) H B) a := nin_cong (fun i hi => by
  have := sc_1 (H := H) (B := B) hi
  cases e : opS (w * h) H B i
  · exact decide_eq_false (fun q => by rw [this.mp q] at e; cases e)
  · exact decide_eq_true (this.mpr e))
/-- hidden cells that no open one sees -/
def lsn (w h sh : Nat) (H N : Nat → Bool) : Nat := fb_ct (fun i => H i && !bdr w h sh H N i) (w * h)
theorem fp209 {I0 : tg_I} (gk : gOk w h sh) (hm0 : mst w h sh M H B F I0) (oS : okS (w * h) M H B F)
    (hp : ∀ I', kp26 I0 I' → mpt (w * h) (bdr w h sh H (opS (w * h) H B)) (ptn w h sh H (opS (w * h) H B)) I' → I' 0 26 = zI (npn w h sh H (opS (w * h) H B)) → I' 0 27 = zI (lsn w h sh H (opS (w * h) H B)) → P (some (.int (bi (gdp w h sh H (opS (w * h) H B) (npn w h sh H (opS (w * h) H B)))))) I' J)
    (k0 : kp26 I0 I) (h26 : I 0 26 = 0) (h27 : I 0 27 = 0) (hl : mpt (w * h) (bdr w h sh H (opS (w * h) H B)) (ld (w * h) (ajw w h sh (opS (w * h) H B)) (bdr w h sh H (opS (w * h) H B))) I) : l_X9_findParts_209 I J P 1 0 := by
  obtain ⟨hn1, hn2⟩ := mul_le100 gk
  have hS := bdr_lt (w := w) (h := h) (sh := sh) (N := opS (w * h) H B) (fun i hi => (oS.1 i hi).1)
  have hpk := ptok_ok (N := opS (w * h) H B) gk (fun i hi => (oS.1 i hi).1)
  have hnp : npn w h sh H (opS (w * h) H B) = fb_ct (fun s => lo (w * h) (ajw w h sh (opS (w * h) H B)) (bdr w h sh H (opS (w * h) H B)) s s) (w * h) := rfl
  have hpn : ∀ x, ptn w h sh H (opS (w * h) H B) x = fb_ct (fun s => lo (w * h) (ajw w h sh (opS (w * h) H B)) (bdr w h sh H (opS (w * h) H B)) s s) (ld (w * h) (ajw w h sh (opS (w * h) H B)) (bdr w h sh H (opS (w * h) H B)) x) := fun _ => rfl
  have hgd : ∀ k, gdp w h sh H (opS (w * h) H B) k = decide (∀ p, p < k → (pL (w * h) (bdr w h sh H (opS (w * h) H B)) (ptn w h sh H (opS (w * h) H B)) p).length ≤ 12) := fun _ => rfl
  have hls : lsn w h sh H (opS (w * h) H B) = fb_ct (fun i => H i && !bdr w h sh H (opS (w * h) H B) i) (w * h) := rfl
  have hbH : ∀ i, bdr w h sh H (opS (w * h) H B) i = true → H i = true := fun i q => (bdr_iff.mp q).1
  have hsy := ajw_sym (w := w) (h := h) (sh := sh) (N := opS (w * h) H B)
  generalize hSe : bdr w h sh H (opS (w * h) H B) = S at *
  generalize ajw w h sh (opS (w * h) H B) = A at *
  generalize ptn w h sh H (opS (w * h) H B) = pt at *
  generalize hgg : gdp w h sh H (opS (w * h) H B) = gd at *
  have hd : ∀ b, b < w * h → S b = true → ld (w * h) A S b ≤ b := fun b hb _ => ld_le hb
  have hpt : ∀ b, b < w * h → S b = true → pt b < 100 := fun b hb q => by have := hpk.2.1 b hb q; have := hpk.1; omega
  have key := up_loop (L := fun a => ∀ I1, kp26 I0 I1 → mpt (w * h) S (ltl (ld (w * h) A S) pt a) I1 → I1 0 26 = zI (fb_ct (fun s => lo (w * h) A S s s) a : Nat) → I1 0 27 = zI (fb_ct (fun i => H i && !S i) a : Nat) → l_X9_findParts_209 I1 J P (bi (gd (fb_ct (fun s => lo (w * h) A S s s) a))) (zI a)) (w * h) ?_ ?_ 0 (Nat.zero_le _) I k0 (mpt_cong hl (fun a _ _ => by unfold ltl; rw [if_neg (by omega)])) h26 h27
  · rw [hgd] at key
    rw [decide_eq_true (fun p hp => absurd hp (by rw [show fb_ct (fun s => lo (w * h) A S s s) 0 = 0 from rfl]; omega))] at key
    exact key
  · intro I1 o l1 e26 e27
    have h3 : I1 0 3 = zI (w * h : Nat) := by rw [o.2 3 (by decide) (by decide)]; exact hm0.1.2.2.2
    refine s_X9_findParts_209 _ _ ⟨fun _ => ?_, fun c => absurd (by rw [h3]; exact Int32.le_refl _) c⟩
    refine fp391 hn2 h3 (fun b hb hS2 => (ld_spec hb).1) hpt l1 _ (fun I2 o2 l2 => ?_)
    rw [← hnp]
    refine hp I2 ⟨fun q a b => (o2 q b).trans (o.1 q a b), fun x a b => by rw [o2 0 (by decide)]; exact o.2 x a b⟩ l2 (by rw [o2 0 (by decide), e26, hnp]) (by rw [o2 0 (by decide), e27, hls])
  · intro a ha ih I1 o l1 e26 e27
    have h3 : I1 0 3 = zI (w * h : Nat) := by rw [o.2 3 (by decide) (by decide)]; exact hm0.1.2.2.2
    have hc1 := fb_ct_le (fun s => lo (w * h) A S s s) a
    have hc2 := fb_ct_le (fun i => H i && !S i) a
    have e3 : ∀ I2 : tg_I, kp26 I0 I2 → I2 3 a = sc (w * h) H B a := fun I2 o2 => by rw [o2.1 3 (by decide) (by decide)]; exact (hm0.2.2 a (by omega)).2.1
    rw [fb_ct_succ, fb_ct_succ] at ih
    -- behind the count of the cells that no open one sees
    have go : ∀ I2, kp26 I0 I2 → mpt (w * h) S (ltl (ld (w * h) A S) pt a) I2 → I2 0 26 = zI (fb_ct (fun s => lo (w * h) A S s s) a : Nat) → I2 0 27 = zI (fb_ct (fun i => H i && !S i) a + (if (H a && !S a) = true then 1 else 0) : Nat) → (¬ I2 15 a = zI a → l_X9_findParts_209 I2 J P (bi (gd (fb_ct (fun s => lo (w * h) A S s s) a))) (zI ((a + 1 : Nat) : Int))) ∧ (I2 15 a = zI a → l_X9_findParts_265 I2 J P (bi (gd (fb_ct (fun s => lo (w * h) A S s s) a))) (zI a) 0 0) := fun I2 o2 l2 q26 q27 => by
      have hlo := lo_ld (nbr := A) hS a
      have h32 : I2 0 3 = zI (w * h : Nat) := by rw [o2.2 3 (by decide) (by decide)]; exact hm0.1.2.2.2
      have heq : I2 15 a = zI a ↔ lo (w * h) A S a a = true := by
        rw [hlo]
        cases e : S a
        · rw [mpt_f l2 ha e, show (-1 : Int32) = zI (-1) from rfl, z_eq (by omega) (by omega) (by omega) (by omega)]
          constructor
          · intro q; omega
          · intro q; cases q.1
        · have := ltl_sm (a := a) hd hpt ha e hn2
          have h5 := ltl_a (d := ld (w * h) A S) (pt := pt) (b := a) hn2 ha
          rw [mpt_t l2 ha e, z_eq (by omega) (by omega) (by omega) (by omega)]
          constructor
          · intro q; exact ⟨rfl, by omega⟩
          · intro q; have := h5.mpr q.2; omega
      rw [heq]
      refine ⟨fun c => ?_, fun c => ?_⟩
      · rw [if_neg c, Nat.add_zero] at ih
        refine ih I2 o2 (mpt_cong l2 (fun b hb hb2 => ?_)) q26 q27
        have : ld (w * h) A S b ≠ a := fun e => c ((lo_ld hS a).mpr (by rw [← e]; exact ⟨ld_S hS hb2, ld_ld hsy hS hb2⟩))
        unfold ltl
        by_cases e2 : ld (w * h) A S b < a
        · rw [if_pos e2, if_pos (by omega)]
        · rw [if_neg e2, if_neg (by omega)]
      · rw [if_pos c] at ih
        have hq : ∀ b, b < w * h → S b = true → (ld (w * h) A S b = a ↔ pt b = fb_ct (fun s => lo (w * h) A S s s) a) := fun b hb hb2 => by
          rw [hpn b]
          exact (ptN_iff hsy hS c hb2).symm
        refine fp265 hn2 h32 hd hpt ha l2 _ (fp326 hn2 hd hpt ha l2 q26 (fun b hb hb2 e => (hq b hb hb2).mp e) (fun I3 o3 l3 I4 e4 => ?_))
        have hg : (gd (fb_ct (fun s => lo (w * h) A S s s) a) && decide (fb_ct (fun b => S b && decide (ld (w * h) A S b = a)) (w * h) ≤ 12)) = gd (fb_ct (fun s => lo (w * h) A S s s) a + 1) := by
          rw [hgd, hgd, show fb_ct (fun b => S b && decide (ld (w * h) A S b = a)) (w * h) = (pL (w * h) S pt (fb_ct (fun s => lo (w * h) A S s s) a)).length by
            rw [pL_ct]
            refine fb_ct_cong (fun b hb => ?_)
            cases e : S b
            · rfl
            · exact congrArg (true && ·) (decide_eq_decide.mpr (hq b hb e))]
          rw [← Bool.decide_and]
          apply decide_eq_decide.mpr
          constructor
          · rintro ⟨q1, q2⟩ p hp
            by_cases e : p = fb_ct (fun s => lo (w * h) A S s s) a
            · rw [e]; exact q2
            · exact q1 p (by omega)
          · intro q
            exact ⟨fun p hp => q p (by omega), q _ (by omega)⟩
        rw [hg]
        refine ih I4 ⟨fun q a b => by rw [e4, u2_other _ _ _ _ a]; exact (o3 q b).trans (o2.1 q a b), fun x a b => by rw [e4, u2_at, if_neg a, o3 0 (by decide)]; exact o2.2 x a b⟩ (fun b hb => by rw [e4, u2_other _ _ _ _ (by decide)]; exact l3 b hb) (by rw [e4, u2_eq]) (by rw [e4, u2_at, if_neg (by decide), o3 0 (by decide)]; exact q27)
    have up : ∀ (c : Int32) (I2 : tg_I), (H a && !S a) = true → I2 = u2 I1 0 27 (I1 0 27 + 1) → (¬ I2 15 a = zI a → l_X9_findParts_209 I2 J P (bi (gd (fb_ct (fun s => lo (w * h) A S s s) a))) (zI ((a + 1 : Nat) : Int))) ∧ (I2 15 a = zI a → l_X9_findParts_265 I2 J P (bi (gd (fb_ct (fun s => lo (w * h) A S s s) a))) (zI a) 0 0) := fun _ I2 hc e2 => by
      refine go I2 ⟨fun q a b => by rw [e2, u2_other _ _ _ _ a]; exact o.1 q a b, fun x a b => by rw [e2, u2_at, if_neg b]; exact o.2 x a b⟩ (fun b hb => by rw [e2, u2_other _ _ _ _ (by decide)]; exact l1 b hb) (by rw [e2, u2_at, if_neg (by decide)]; exact e26) (by rw [e2, u2_eq, e27, if_pos hc, z_s])
    have same : ∀ (I2 : tg_I), (H a && !S a) = false → I2 = u2 I1 0 27 (I1 0 27 + 0) → (¬ I2 15 a = zI a → l_X9_findParts_209 I2 J P (bi (gd (fb_ct (fun s => lo (w * h) A S s s) a))) (zI ((a + 1 : Nat) : Int))) ∧ (I2 15 a = zI a → l_X9_findParts_265 I2 J P (bi (gd (fb_ct (fun s => lo (w * h) A S s s) a))) (zI a) 0 0) := fun I2 hc e2 => by
      refine go I2 ⟨fun q a b => by rw [e2, u2_other _ _ _ _ a]; exact o.1 q a b, fun x a b => by rw [e2, u2_at, if_neg b]; exact o.2 x a b⟩ (fun b hb => by rw [e2, u2_other _ _ _ _ (by decide)]; exact l1 b hb) (by rw [e2, u2_at, if_neg (by decide)]; exact e26) (by rw [e2, u2_eq, e27, hc, show (0 : Int32) = zI 0 from rfl, z_add]; rfl)
    refine s_X9_findParts_209 _ _ ?_
    rw [h3, z_le (by omega) (by omega) (by omega) (by omega), z_in (by omega) (by omega), z_cl (by omega), e3 I1 o, sc_0 ha, z_s]
    refine ⟨fun c => absurd c (by omega), fun _ => ⟨by omega, fun c I2 e2 => ⟨by omega, same I2 (by simp [show H a = false by simpa using c]) e2⟩, fun c => ⟨by omega, ?_⟩⟩⟩
    have h0 : 0 ≤ I1 15 a ↔ S a = true := by
      cases e : S a
      · rw [mpt_f l1 ha e]; decide
      · have := ltl_sm (a := a) hd hpt ha e hn2
        rw [mpt_t l1 ha e, show (0 : Int32) = zI 0 from rfl, z_le (by omega) (by omega) (by omega) (by omega)]
        exact ⟨fun _ => rfl, fun _ => by omega⟩
    rw [h0]
    exact ⟨fun c2 I2 e2 => ⟨by omega, same I2 (by simp [c2]) e2⟩, fun c2 I2 e2 => ⟨by omega, up 0 I2 (by simp [c, show S a = false by simpa using c2]) e2⟩⟩
theorem findParts_ok (gk : gOk w h sh) (hm : mst w h sh M H B F I) (oS : okS (w * h) M H B F)
    (hp : ∀ I', kp26 I I' → mpt (w * h) (bdr w h sh H (opS (w * h) H B)) (ptn w h sh H (opS (w * h) H B)) I' → I' 0 26 = zI (npn w h sh H (opS (w * h) H B)) → I' 0 27 = zI (lsn w h sh H (opS (w * h) H B)) → P (some (.int (bi (gdp w h sh H (opS (w * h) H B) (npn w h sh H (opS (w * h) H B)))))) I' J) : call pgM zX9_findParts [.ref 0] I J P := by
  obtain ⟨hn1, hn2⟩ := mul_le100 gk
  have hS := bdr_lt (w := w) (h := h) (sh := sh) (N := opS (w * h) H B) (fun i hi => (oS.1 i hi).1)
  refine e_X9_findParts ?_
  have key := up_loop (L := fun k => ∀ I1, on15 I I1 → (∀ a, a < k → I1 15 a = if bdr w h sh H (opS (w * h) H B) a then zI (a : Nat) else -1) → l_X9_findParts_2 I1 J P (zI k)) (w * h) ?_ ?_ 0 (Nat.zero_le _) I (fun _ _ => rfl) (fun a h => absurd h (by omega))
  · exact key
  · intro I1 o l1
    refine s_X9_findParts_2 _ ⟨fun _ => s_X9_findParts_47 _ ⟨fun c => absurd c (by decide), fun _ => ?_⟩, fun c => absurd (by rw [o 0 (by decide), hm.1.2.2.2]; exact Int32.le_refl _) c⟩
    refine fp55 (I0 := I) gk hm oS (fun I2 l o2 l2 lb sm => ?_) _ (fun a => a) I1 (Nat.le_refl _) o l1 (fun a ha _ => ⟨Nat.le_refl _, con_refl⟩)
    refine s_X9_findParts_47 _ ⟨fun _ I3 e3 I4 e4 => ?_, fun c => absurd rfl c⟩
    refine fp209 gk hm oS hp ⟨fun q a b => by rw [e4, u2_other _ _ _ _ a, e3, u2_other _ _ _ _ a]; exact o2 q b, fun x a b => by rw [e4, u2_at, if_neg b, e3, u2_at, if_neg a, o2 0 (by decide)]⟩ (by rw [e4, u2_at, if_neg (by decide), e3, u2_eq]) (by rw [e4, u2_eq]) ?_
    have l3 : mpt (w * h) (bdr w h sh H (opS (w * h) H B)) l I4 := fun a ha => by rw [e4, u2_other _ _ _ _ (by decide), e3, u2_other _ _ _ _ (by decide)]; exact l2 a ha
    exact mpt_cong l3 (fun a ha hb => (lbs_ld hS lb sm hb).symm)
  · intro k hk ih I1 o l1
    have mm : mst w h sh M H B F I1 := mst_keep hm (fun q hq => o q (by omega))
    have h8 := nin_le (w := w) (h := h) (sh := sh) (opS (w * h) H B) k
    have step : ∀ (v : Int32) (I2 : tg_I), I2 = u2 I1 15 k v → v = (if bdr w h sh H (opS (w * h) H B) k then zI (k : Nat) else -1) → l_X9_findParts_2 I2 J P (zI ((k + 1 : Nat) : Int)) := fun v I2 e2 ev => ih I2 (fun q hq => by rw [e2, u2_other _ _ _ _ hq]; exact o q hq) (fun a ha => by
      rw [e2, u2_at]
      by_cases e : a = k
      · rw [if_pos e, e, ev]
      · rw [if_neg e]; exact l1 a (by omega))
    refine s_X9_findParts_2 _ ?_
    rw [mm.1.2.2.2, z_le (by omega) (by omega) (by omega) (by omega), z_in (by omega) (by omega), z_cl (by omega), (mm.2.2 k (by omega)).2.1, sc_0 hk, z_s]
    refine ⟨fun c => absurd c (by omega), fun _ => ⟨by omega, fun c => ⟨by omega, fun I2 e2 => step _ I2 e2 ?_⟩, fun c => mnearState_ok gk mm hk 1 ⟨_, rfl, ?_⟩⟩⟩
    · rw [if_neg (fun q => c (bdr_iff.mp q).1)]
    · rw [nin_sc1, show (0 : Int32) = zI 0 from rfl, z_le (by omega) (by omega) (by omega) (by omega)]
      refine ⟨fun c2 => ⟨by omega, fun I2 e2 => step _ I2 e2 ?_⟩, fun c2 => ⟨by omega, fun I2 e2 => step _ I2 e2 ?_⟩⟩
      · rw [if_neg (fun q => by unfold bdr at q; simp only [Bool.and_eq_true, decide_eq_true_eq] at q; omega)]
      · rw [if_pos (by unfold bdr; rw [c, decide_eq_true (by omega)]; rfl)]
end MP4
