/-! the reference: make -/
section MMm
variable {I : tg_I} {J : tg_J} {P : Option Value → tg_I → tg_J → Prop} {w h sh : Nat} {M H B F : Nat → Bool} {mv kd md : Nat} {hist : Nat → hS} {R T : Nat → Bool}
theorem mmends_ok (gk : gOk w h sh) (hm : mst w h sh M H zB F I) (hp0 : mdR w h sh M H none → P (some (.int 0)) I J) (hp1 : ∀ M', mdR w h sh M H (some M') → ∀ I', onlyI 2 I I' → (∀ i, i < 100 → I' 2 i = bi (M' i)) → P (some (.int 1)) I' J) : call pgM zX9_mends [.ref 0] I J P := by
  obtain ⟨hn1, hn2⟩ := mul_le100 gk
  refine e_X9_mends ?_
  have down : ∀ k, k ≤ w * h → ∀ v1 v2, frst (w * h) (mdF w h sh M H) k v1 → frst (w * h) (mdT w h sh M H) k v2 → l_X9_mends_11 I J P v1 v2 (zI ((k : Int) - 1)) := by
    intro k
    induction k with
    | zero =>
      intro _ v1 v2 f1 f2
      obtain ⟨n1, n1'⟩ := frst_neg hn2 f1
      obtain ⟨n2, n2'⟩ := frst_neg hn2 f2
      refine s_X9_mends_11 _ _ _ ⟨fun _ => ⟨fun c => hp0 (Or.inl ⟨Or.inl (n1.mp c), rfl⟩), fun c => ⟨fun c2 => ?_, fun c2 => hp0 (Or.inl ⟨Or.inr (n2.mp (Classical.not_not.mp (fun z => c2 (n2'.mpr z)))), rfl⟩)⟩⟩, fun c => absurd (by decide) c⟩
      have ex1 : ∃ x, x < w * h ∧ mdF w h sh M H x := Classical.byContradiction fun z => c (n1.mpr (fun x hx q => z ⟨x, hx, q⟩))
      have ex2 : ∃ x, x < w * h ∧ mdT w h sh M H x := Classical.byContradiction fun z => (n2'.mp c2) (n2.mpr (fun x hx q => z ⟨x, hx, q⟩))
      obtain ⟨f, f1a, f1b, f1c, f1d⟩ := frst_pos f1 ex1
      obtain ⟨t, t1a, t1b, t1c, t1d⟩ := frst_pos f2 ex2
      rw [f1b, t1b, z_in (by omega) (by omega), z_cl (by omega), z_in (by omega) (by omega), z_cl (by omega), nar0, nar1]
      refine ⟨by omega, fun I1 e1 => ⟨by omega, fun I2 e2 => hp1 _ (Or.inr ⟨f, t, f1a, f1c, f1d, t1a, t1c, t1d, rfl⟩) I2 (fun q hq => by rw [e2, u2_other _ _ _ _ hq, e1, u2_other _ _ _ _ hq]) (fun i hi => ?_)⟩⟩
      rw [e2, u2_at, e1, u2_at]
      unfold upb
      by_cases ea : i = t
      · rw [if_pos ea, if_pos ea]; rfl
      · rw [if_neg ea, if_neg ea]
        by_cases eb : i = f
        · rw [if_pos eb, if_pos eb]; rfl
        · rw [if_neg eb, if_neg eb]; exact (hm.2.2 i hi).1
    | succ k ih =>
      intro hk v1 v2 f1 f2
      have hkn : k < w * h := by omega
      have go := fun a b c d => ih (by omega) a b c d
      have h8 := nin_le (w := w) (h := h) (sh := sh) (opS (w * h) H zB) k
      refine s_X9_mends_11 _ _ _ ?_
      rw [show (((k + 1 : Nat) : Int) - 1) = (k : Nat) by omega, show (-1 : Int32) = zI (-1) from rfl, z_add, show ((k : Nat) : Int) + -1 = (k : Int) - 1 by omega]
      refine ⟨fun c => absurd c (by rw [show (0 : Int32) = zI 0 from rfl, z_lt (by omega) (by omega) (by omega) (by omega)]; omega), fun _ => mnearState_ok gk hm hkn 1 ⟨_, rfl, ?_⟩⟩
      rw [nin_sc1, z_in (by omega) (by omega), z_cl (by omega), (hm.2.2 k (by omega)).2.1, (hm.2.2 k (by omega)).1, sc_0 hkn, bi_0]
      have hz : zI (nin w h sh (opS (w * h) H zB) k : Nat) ≤ 0 ↔ ¬ 0 < nin w h sh (opS (w * h) H zB) k := by
        rw [show (0 : Int32) = zI 0 from rfl, z_le (by omega) (by omega) (by omega) (by omega)]; omega
      rw [hz]
      have hin : (0 : Int) ≤ (k : Int) ∧ (k : Int) < ((100 : Nat) : Int) := by omega
      cases eh : H k
      · have a1 := frst_no f1 (fun q => by rw [q.1] at eh; cases eh)
        have a2 := frst_no f2 (fun q => by rw [q.1] at eh; cases eh)
        exact ⟨fun _ => ⟨hin, fun _ => ⟨hin, fun _ => go v1 v2 a1 a2, fun z => (by cases z)⟩, fun z => (by cases z)⟩, fun _ => ⟨hin, fun _ => ⟨hin, fun _ => go v1 v2 a1 a2, fun z => (by cases z)⟩, fun z => (by cases z)⟩⟩
      · cases em : M k
        · have a1 := frst_no f1 (fun q => by rw [q.2.1] at em; cases em)
          refine ⟨fun co => ⟨hin, fun z => absurd rfl z, fun _ => ⟨hin, fun _ => ⟨hin, fun z => absurd rfl z, fun _ => ⟨hin, fun z => absurd rfl z, fun _ => go v1 _ a1 (frst_yes hkn ⟨eh, em, co⟩)⟩⟩, fun z => absurd rfl z⟩⟩, fun co => ?_⟩
          have a2 := frst_no f2 (fun q => co q.2.2)
          exact ⟨hin, fun z => absurd rfl z, fun _ => ⟨hin, fun _ => ⟨hin, fun z => absurd rfl z, fun _ => ⟨hin, fun z => absurd rfl z, fun _ => go v1 v2 a1 a2⟩⟩, fun z => absurd rfl z⟩⟩
        · have a2 := frst_no f2 (fun q => by rw [q.2.1] at em; cases em)
          refine ⟨fun co => ?_, fun co => ⟨hin, fun z => absurd rfl z, fun _ => ⟨hin, fun z => (by cases z), fun _ => ⟨hin, fun z => absurd rfl z, fun _ => ⟨hin, fun _ => go _ v2 (frst_yes hkn ⟨eh, em, Classical.not_not.mp co⟩) a2, fun z => (by cases z)⟩⟩⟩⟩⟩
          have a1 := frst_no f1 (fun q => co q.2.2)
          exact ⟨hin, fun z => absurd rfl z, fun _ => ⟨hin, fun z => (by cases z), fun _ => ⟨hin, fun z => absurd rfl z, fun _ => ⟨hin, fun _ => go v1 v2 a1 a2, fun z => (by cases z)⟩⟩⟩⟩
  rw [hm.1.2.2.2, show zI (w * h : Nat) - (1 : Int32) = zI (((w * h : Nat) : Int) - 1) by rw [show (1 : Int32) = zI 1 from rfl, z_sub]]
  exact down (w * h) (Nat.le_refl _) _ _ frst_n frst_n
theorem keepBoard_ok (h2 : ∀ i, i < 100 → is01 (I 2 i) ∧ is01 (I 4 i)) (hp : ∀ I', (∀ q, q ≠ 6 → q ≠ 7 → q ≠ 8 → I' q = I q) → (∀ i, i < 100 → I' 6 i = I 2 i ∧ I' 7 i = I 3 i ∧ I' 8 i = I 4 i) → P none I' J) : call pgM zX9_keepBoard [.ref 0] I J P := by
  refine e_X9_keepBoard ?_
  have key := up_loop (L := fun k => ∀ I1, (∀ q, q ≠ 6 → q ≠ 7 → q ≠ 8 → I1 q = I q) → (∀ i, i < k → I1 6 i = I 2 i ∧ I1 7 i = I 3 i ∧ I1 8 i = I 4 i) → l_X9_keepBoard_2 I1 J P (zI k)) 100 ?_ ?_ 0 (Nat.zero_le _) I (fun _ _ _ _ => rfl) (fun i h => absurd h (by omega))
  · exact key
  · intro I1 o z
    exact s_X9_keepBoard_2 _ ⟨fun _ => hp I1 o z, fun c => absurd (Int32.le_refl _) c⟩
  · intro k hk ih I1 o z
    refine s_X9_keepBoard_2 _ ?_
    rw [show (100 : Int32) = zI (100 : Nat) from rfl, z_le (by omega) (by omega) (by omega) (by omega), z_in (by omega) (by omega), z_cl (by omega), z_s, o 2 (by decide) (by decide) (by decide), nar01 (h2 k hk).1]
    refine ⟨fun c => absurd c (by omega), fun _ => ⟨by omega, by omega, fun I2 e2 => ⟨by omega, by omega, fun I3 e3 => ⟨by omega, by omega, fun I4 e4 => ih I4 (fun q a b c => by rw [e4, u2_other _ _ _ _ c, e3, u2_other _ _ _ _ b, e2, u2_other _ _ _ _ a]; exact o q a b c) (fun i hi => ?_)⟩⟩⟩⟩
    have q3 : I2 3 = I 3 := by rw [e2, u2_other _ _ _ _ (by decide)]; exact o 3 (by decide) (by decide) (by decide)
    have q4 : I3 4 = I 4 := by rw [e3, u2_other _ _ _ _ (by decide), e2, u2_other _ _ _ _ (by decide)]; exact o 4 (by decide) (by decide) (by decide)
    rw [q4, nar01 (h2 k hk).2] at e4
    rw [q3] at e3
    rw [e4, u2_other _ _ _ _ (show 6 ≠ 8 by decide), u2_other _ _ _ _ (show 7 ≠ 8 by decide), u2_at, e3, u2_other _ _ _ _ (show 6 ≠ 7 by decide), u2_other _ _ _ _ (show 8 ≠ 7 by decide), u2_at, e2, u2_at, u2_other _ _ _ _ (show 7 ≠ 6 by decide), u2_other _ _ _ _ (show 8 ≠ 6 by decide)]
    by_cases e : i = k
    · rw [if_pos e, if_pos e, if_pos e, e]; exact ⟨rfl, rfl, rfl⟩
    · rw [if_neg e, if_neg e, if_neg e]; exact z i (by omega)
theorem bringBack_ok (h2 : ∀ i, i < 100 → is01 (I 6 i) ∧ is01 (I 8 i)) (hp : ∀ I', (∀ q, q ≠ 2 → q ≠ 3 → q ≠ 4 → I' q = I q) → (∀ i, i < 100 → I' 2 i = I 6 i ∧ I' 3 i = I 7 i ∧ I' 4 i = I 8 i) → P none I' J) : call pgM zX9_bringBack [.ref 0] I J P := by
  refine e_X9_bringBack ?_
  have key := up_loop (L := fun k => ∀ I1, (∀ q, q ≠ 2 → q ≠ 3 → q ≠ 4 → I1 q = I q) → (∀ i, i < k → I1 2 i = I 6 i ∧ I1 3 i = I 7 i ∧ I1 4 i = I 8 i) → l_X9_bringBack_2 I1 J P (zI k)) 100 ?_ ?_ 0 (Nat.zero_le _) I (fun _ _ _ _ => rfl) (fun i h => absurd h (by omega))
  · exact key
  · intro I1 o z
    exact s_X9_bringBack_2 _ ⟨fun _ => hp I1 o z, fun c => absurd (Int32.le_refl _) c⟩
  · intro k hk ih I1 o z
    refine s_X9_bringBack_2 _ ?_
    rw [show (100 : Int32) = zI (100 : Nat) from rfl, z_le (by omega) (by omega) (by omega) (by omega), z_in (by omega) (by omega), z_cl (by omega), z_s, o 6 (by decide) (by decide) (by decide), nar01 (h2 k hk).1]
    refine ⟨fun c => absurd c (by omega), fun _ => ⟨by omega, by omega, fun I2 e2 => ⟨by omega, by omega, fun I3 e3 => ⟨by omega, by omega, fun I4 e4 => ih I4 (fun q a b c => by rw [e4, u2_other _ _ _ _ c, e3, u2_other _ _ _ _ b, e2, u2_other _ _ _ _ a]; exact o q a b c) (fun i hi => ?_)⟩⟩⟩⟩
    have q3 : I2 7 = I 7 := by rw [e2, u2_other _ _ _ _ (by decide)]; exact o 7 (by decide) (by decide) (by decide)
    have q4 : I3 8 = I 8 := by rw [e3, u2_other _ _ _ _ (by decide), e2, u2_other _ _ _ _ (by decide)]; exact o 8 (by decide) (by decide) (by decide)
    rw [q4, nar01 (h2 k hk).2] at e4
    rw [q3] at e3
    rw [e4, u2_other _ _ _ _ (show 2 ≠ 4 by decide), u2_other _ _ _ _ (show 3 ≠ 4 by decide), u2_at, e3, u2_other _ _ _ _ (show 2 ≠ 3 by decide), u2_other _ _ _ _ (show 4 ≠ 3 by decide), u2_at, e2, u2_at, u2_other _ _ _ _ (show 3 ≠ 2 by decide), u2_other _ _ _ _ (show 4 ≠ 2 by decide)]
    by_cases e : i = k
    · rw [if_pos e, if_pos e, if_pos e, e]; exact ⟨rfl, rfl, rfl⟩
    · rw [if_neg e, if_neg e, if_neg e]; exact z i (by omega)
/-- what making may change before it ends -/
def oMm (I I' : tg_I) : Prop := (∀ q, q ≠ 0 → q ≠ 2 → q ≠ 3 → q ≠ 4 → q ≠ 11 → q ≠ 12 → q ≠ 13 → q ≠ 14 → q ≠ 15 → q ≠ 16 → q ≠ 17 → q ≠ 23 → I' q = I q) ∧ ∀ x, x ≠ 8 → x ≠ 23 → x ≠ 24 → x ≠ 26 → x ≠ 27 → I' 0 x = I 0 x
theorem oPy.mm {I I1 : tg_I} (o : oPy I I1) : oMm I I1 := ⟨fun q a _ b c d e f g i j k l => o.1 q a b c d e f g i j k l, fun x _ a b c d => o.2 x a b c d⟩
theorem oMm.tr {I I1 I2 : tg_I} (h1 : oMm I I1) (h2 : oMm I1 I2) : oMm I I2 := ⟨fun q a a2 b c d e f g i j k l => (h2.1 q a a2 b c d e f g i j k l).trans (h1.1 q a a2 b c d e f g i j k l), fun x z a b c d => (h2.2 x z a b c d).trans (h1.2 x z a b c d)⟩
/-- the loop of mendings: a play has just ended -/
theorem mk180 {I0 : tg_I} (gk : gOk w h sh) (hg0 : mgd w h sh I0) {c gr : Nat} (hc : c < w * h) (hg1 : 1 ≤ gr) (hgr : gr ≤ 3) {v7 v8 v9 : Int32} :
    ∀ (f k : Nat) (M : Nat → Bool) (I : tg_I) (J : tg_J), k + f = 40 → (∀ i, M i = true → i < w * h) → M c = false → oMm I0 I → (∀ i, i < 100 → I 2 i = bi (M i)) → I 0 8 = zI k →
    (∀ f' M' k', tcR w h sh gr c f' k M (some M', k') → (∀ i, M' i = true → i < w * h) → k' ≤ 40 → ∀ H' F' I' J', oMm I0 I' → mst w h sh M' H' zB F' I' → I' 0 8 = zI k' → l_X9_make_180 I' J' P (zI gr) v7 v8 v9 (zI c) 1 1) →
    (∀ f' k', tcR w h sh gr c f' k M (none, k') → k' ≤ 40 → ∀ I' J', oMm I0 I' → I' 0 8 = zI k' → l_X9_make_180 I' J' P (zI gr) v7 v8 v9 (zI c) 0 0) →
    call pgM zX9_plays [.ref 0, .int (zI c), .int (zI gr)] I J (fun vr I3 J2 => ∃ r1 : Int32, vr = some (.int r1) ∧ l_X9_make_180 I3 J2 P (zI gr) v7 v8 v9 (zI c) r1 1) := by
  obtain ⟨hn1, hn2⟩ := mul_le100 gk
  intro f
  induction f with
  | zero =>
    intro k M I J hkf hM hMc o s e8 hp1 hp0
    have hg : mgd w h sh I := mgd_K hg0 (o.1 1 (by decide) (by decide) (by decide) (by decide) (by decide) (by decide) (by decide) (by decide) (by decide) (by decide) (by decide) (by decide)) (fun x hx => o.2 x (by omega) (by omega) (by omega) (by omega) (by omega))
    refine plays_ok gk hg s hM hc hMc hg1 hgr (fun hr H' F' I1 J1 o1 m1 ok1 => ⟨_, rfl, ?_⟩) (fun Hf hr F' I1 J1 o1 m1 ok1 => ⟨_, rfl, ?_⟩)
    · exact hp1 1 M k (Or.inl ⟨hr, rfl⟩) hM (by omega) H' F' I1 J1 (o.tr o1.mm) m1 (by rw [o1.2 8 (by decide) (by decide) (by decide) (by decide)]; exact e8)
    · have e81 : I1 0 8 = zI k := by rw [o1.2 8 (by decide) (by decide) (by decide) (by decide)]; exact e8
      have done := hp0 1 k (Or.inr ⟨Hf, hr, Or.inl ⟨by omega, rfl⟩⟩) (by omega) I1 J1 (o.tr o1.mm) e81
      refine s_X9_make_180 _ _ _ _ _ _ _ ⟨fun z => absurd rfl z, fun _ => ⟨fun z => absurd z (by decide), fun _ => ⟨fun _ => done, fun z => absurd ?_ z⟩⟩⟩
      rw [e81, show (40 : Int32) = zI (40 : Nat) from rfl, z_le (by omega) (by omega) (by omega) (by omega)]
      omega
  | succ f ih =>
    intro k M I J hkf hM hMc o s e8 hp1 hp0
    have hg : mgd w h sh I := mgd_K hg0 (o.1 1 (by decide) (by decide) (by decide) (by decide) (by decide) (by decide) (by decide) (by decide) (by decide) (by decide) (by decide) (by decide)) (fun x hx => o.2 x (by omega) (by omega) (by omega) (by omega) (by omega))
    refine plays_ok gk hg s hM hc hMc hg1 hgr (fun hr H' F' I1 J1 o1 m1 ok1 => ⟨_, rfl, ?_⟩) (fun Hf hr F' I1 J1 o1 m1 ok1 => ⟨_, rfl, ?_⟩)
    · exact hp1 1 M k (Or.inl ⟨hr, rfl⟩) hM (by omega) H' F' I1 J1 (o.tr o1.mm) m1 (by rw [o1.2 8 (by decide) (by decide) (by decide) (by decide)]; exact e8)
    · have e81 : I1 0 8 = zI k := by rw [o1.2 8 (by decide) (by decide) (by decide) (by decide)]; exact e8
      refine s_X9_make_180 _ _ _ _ _ _ _ ⟨fun z => absurd rfl z, fun _ => ⟨fun z => absurd z (by decide), fun _ => ⟨fun z => absurd z ?_, fun _ => ?_⟩⟩⟩
      · rw [e81, show (40 : Int32) = zI (40 : Nat) from rfl, z_le (by omega) (by omega) (by omega) (by omega)]
        omega
      · refine mmends_ok gk m1 (fun hm => ⟨_, rfl, fun _ => hp0 1 k (Or.inr ⟨Hf, hr, Or.inr ⟨by omega, Or.inl ⟨hm, rfl⟩⟩⟩) (by omega) I1 J1 (o.tr o1.mm) e81, fun z => absurd rfl z⟩) (fun M' hm I2 o2 s2 => ⟨_, rfl, fun z => absurd z (by decide), fun _ I3 e3 => ?_⟩)
        obtain ⟨hM', hMc'⟩ := md_c hr hm hM hMc
        refine ih (k + 1) M' I3 J1 (by omega) hM' hMc' ((o.tr o1.mm).tr ⟨fun q a b _ _ _ _ _ _ _ _ _ _ => by rw [e3, u2_other _ _ _ _ a]; exact o2 q b, fun x a _ _ _ _ => by rw [e3, u2_at, if_neg a, o2 0 (by decide)]⟩) (fun i hi => by rw [e3, u2_other _ _ _ _ (by decide)]; exact s2 i hi) (by rw [e3, u2_eq, o2 0 (by decide), e81, z_s]) (fun f' M2 k2 q => hp1 (f' + 1) M2 k2 (Or.inr ⟨Hf, hr, Or.inr ⟨by omega, Or.inr ⟨M', hm, q⟩⟩⟩)) (fun f' k2 q => hp0 (f' + 1) k2 (Or.inr ⟨Hf, hr, Or.inr ⟨by omega, Or.inr ⟨M', hm, q⟩⟩⟩))
end MMm
