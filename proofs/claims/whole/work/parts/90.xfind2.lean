/-! the class: find, firstNews, accept, begin -/
section XFe
variable {I : tg_I} {J : tg_J} {P : Option Value → tg_I → tg_J → Prop} {w h sh b : Nat} {M H B F K : Nat → Bool} {Y : Nat → Nat → Bool}
/-- the verdicts that a rule gave, as the class keeps them -/
def xgv (kd : Nat) (G : Nat → Bool) (v : Bool) (W : Nat → Bool) (I : tg_I) (J : tg_J) : Prop := I 39 3 = zI kd ∧ I 39 2 = bi v ∧ (∀ i, i < 128 → sB J 40 i = G i) ∧ ∀ k, k < 128 → sB J 41 k = W k
theorem fd3 (hb : isBd b) (gk : gOk w h sh) (g : gridX b w h sh I J) (v : bst b (w * h) M H B F J) (ok : okS (w * h) M H B F) (rs : rsX b w h sh M H B K Y I J) (st : xst w h sh M H (opS (w * h) H B) I J) {gr : Nat} (hgr : gr ≤ 3) {x y : Int32} (hxy : x ≤ y) (n1 : ∀ a, a < w * h → ¬ r1ok w h sh M H B K a) (n2 : 2 ≤ gr → ∀ a c, a < w * h → c < w * h → ¬ r2ok w h sh M H B K a c)
    (hp0 : stN w h sh M H B K gr → ∀ I' J', oF I I' J J' → xst w h sh M H (opS (w * h) H B) I' J' → P (some (.int 0)) I' J')
    (hp1 : ∀ kd G u W, stR w h sh M H B K Y gr kd G u W → ∀ I' J', oF I I' J J' → xst w h sh M H (opS (w * h) H B) I' J' → xgv kd G u W I' J' → P (some (.int 1)) I' J') : l_X6_find_50 I J P (zI gr) x y := by
  obtain ⟨hn1, hn2⟩ := mul_le100 gk
  have all : ∀ I1 J1, oF I I1 J J1 → I1 39 11 = 1 → I1 39 12 = bi true → gdH w h sh H (opS (w * h) H B) = true → xfo w h sh M H (opS (w * h) H B) J1 → 3 ≤ gr → ∀ Q : Option Value → tg_I → tg_J → Prop, (∀ I2 J2, P (some (.int 0)) I2 J2 → Q (some (.int 0)) I2 J2) → (∀ I2 J2, P (some (.int 1)) I2 J2 → Q (some (.int 1)) I2 J2) → call pgX zX6_giveByAll [.ref 39] I1 J1 Q := fun I1 J1 o1 a1 a2 hg hf h3 Q q0 q1 => by
    have hst : xst w h sh M H (opS (w * h) H B) I1 J1 := Or.inr ⟨a1, by rw [a2, hg], fun _ => hf⟩
    refine giveByAll_ok hb gk (o1.grid hb g) (o1.bst hb v) ok (o1.rs rs) hg hf (fun q I2 J2 o2 => q0 I2 J2 (hp0 ⟨n1, n2, fun _ => Or.inr q⟩ I2 J2 (o1.tr o2.toF) (xst_G o2 hst))) (fun a ha hfa q qf I2 J2 o2 b1 b2 b3 b4 => q1 I2 J2 (hp1 3 _ _ _ (Or.inr (Or.inr ⟨rfl, h3, n1, n2 (by omega), hg, a, ha, hfa, q, qf, rfl, rfl, rfl⟩)) I2 J2 (o1.tr o2.toF) (xst_G o2 hst) ⟨b1, b2, b3, b4⟩))
  refine s_X6_find_50 _ _ _ ⟨fun _ => ?_, fun c => absurd hxy c⟩
  rw [show (3 : Int32) = zI (3 : Nat) from rfl, z_le (by omega) (by omega) (by omega) (by omega)]
  refine ⟨fun c3 => ⟨fun cs => ?_, fun cs I1 e1 => ?_⟩, fun c3 => hp0 ⟨n1, n2, fun z => absurd (by omega) c3⟩ I J ⟨fun _ _ => ⟨rfl, rfl⟩, fun _ _ _ _ _ => rfl, fun _ _ _ => rfl⟩ st⟩
  · rcases st with s | ⟨s1, s2, s3⟩
    · exact absurd s cs
    · rw [s2, bi_0]
      refine ⟨fun z => hp0 ⟨n1, n2, fun _ => Or.inl z⟩ I J ⟨fun _ _ => ⟨rfl, rfl⟩, fun _ _ _ _ _ => rfl, fun _ _ _ => rfl⟩ (Or.inr ⟨s1, s2, s3⟩), fun z => ?_⟩
      have hg : gdH w h sh H (opS (w * h) H B) = true := by simpa using z
      exact all I J ⟨fun _ _ => ⟨rfl, rfl⟩, fun _ _ _ _ _ => rfl, fun _ _ _ => rfl⟩ s1 (by rw [s2, hg]) hg (s3 hg) (by omega) _ (fun I2 J2 q => ⟨_, rfl, fun _ => q, fun z => absurd rfl z⟩) (fun I2 J2 q => ⟨_, rfl, fun z => absurd z (by decide), fun _ => q⟩)
  · have o1 : oF I I1 J J := ⟨fun q hq => ⟨by rw [e1, u2_other _ _ _ _ (by omega)], rfl⟩, fun x _ _ c _ => by rw [e1, u2_at, if_neg c], fun _ _ _ => rfl⟩
    have h9 : (I1 39 9).toNatClampNeg = b := by rw [e1, u2_at, if_neg (by decide)]; exact rs.1
    have k11 : I1 39 11 = 1 := by rw [e1, u2_eq]
    refine ⟨b, h9, hb, gather_ok hb gk (o1.grid hb g) v ok (fun I2 J2 o2 e x2 => ⟨_, rfl, fit01 (bi01 true), fun I3 e3 => ?_⟩) (fun I2 J2 o2 e => ⟨_, rfl, fit01 (bi01 false), fun I3 e3 => ?_⟩)⟩
    · have hg : gdH w h sh H (opS (w * h) H B) = true := e
      have oF2 := o1.tr o2.out.toF
      have h39 : I2 39 = I1 39 := (o2.out 39 (Or.inr (by decide))).1
      have o3 : oF I I3 J J2 := oF2.tr ⟨fun q hq => ⟨by rw [e3, u2_other _ _ _ _ (by omega)], rfl⟩, fun x _ _ _ d => by rw [e3, u2_at, if_neg d], fun _ _ _ => rfl⟩
      have k12 : I3 39 12 = 1 := by rw [e3, u2_eq]
      have k113 : I3 39 11 = 1 := by rw [e3, u2_at, if_neg (by decide), h39, k11]
      have h93 : (I3 39 9).toNatClampNeg = b := by rw [e3, u2_at, if_neg (by decide), h39]; exact h9
      rw [k12]
      refine ⟨fun z => absurd z (by decide), fun _ => ⟨b, h93, hb, ?_⟩⟩
      have x3 : xpl w h sh H (opS (w * h) H B) I3 J2 := by
        obtain ⟨y1, y2, y3, y4, y5⟩ := x2
        refine ⟨y1, by rw [e3, u2_other _ _ _ _ (by decide)]; exact y2, by rw [e3, u2_other _ _ _ _ (by decide)]; exact y3, fun p hp => ?_, by rw [e3, u2_other _ _ _ _ (by decide)]; exact y5⟩
        obtain ⟨L, l1, l2⟩ := y4 p hp
        exact ⟨L, l1, fun j x hx => by rw [e3, u2_other _ _ _ _ (by decide)]; exact l2 j x hx⟩
      have v3 := o3.bst hb v
      refine study_ok hb gk (o3.grid hb g) v3 ok rfl e x3 (fun I4 o4 c4 => ⟨rfl, ?_⟩)
      have h439 : I4 39 = I3 39 := o4 39 (by decide) (by decide) (by decide) (by decide) (by decide) (by decide) (by decide) (by decide) (by decide) (by decide)
      refine ⟨b, by rw [h439]; exact h93, hb, force_ok hb gk v3 ok hg (xpl_St o4 rfl x3) c4 (fun J5 o5 a5 b5 => ⟨rfl, ?_⟩)⟩
      have oF5 : oF I I4 J J5 := (o3.tr (outP.toF (J1 := J2) o4.out)).tr ⟨fun q hq => ⟨rfl, o5 q (by omega) (by omega) (by omega) (by omega)⟩, fun _ _ _ _ _ => rfl, fun q a b => o5 q (by omega) (by omega) (by omega) (by omega)⟩
      rw [h439, k12]
      refine ⟨fun z => absurd z (by decide), fun _ => ?_⟩
      exact all I4 J5 oF5 (by rw [h439, k113]) (by rw [h439, k12]; rfl) hg ⟨a5, b5⟩ (by omega) _ (fun I2 J2 q => ⟨_, rfl, fun _ => q, fun z => absurd rfl z⟩) (fun I2 J2 q => ⟨_, rfl, fun z => absurd z (by decide), fun _ => q⟩)
    · have hg : gdH w h sh H (opS (w * h) H B) = false := e
      have oF2 := o1.tr o2.out.toF
      have h39 : I2 39 = I1 39 := (o2.out 39 (Or.inr (by decide))).1
      have o3 : oF I I3 J J2 := oF2.tr ⟨fun q hq => ⟨by rw [e3, u2_other _ _ _ _ (by omega)], rfl⟩, fun x _ _ _ d => by rw [e3, u2_at, if_neg d], fun _ _ _ => rfl⟩
      have k12 : I3 39 12 = 0 := by rw [e3, u2_eq]
      have k113 : I3 39 11 = 1 := by rw [e3, u2_at, if_neg (by decide), h39, k11]
      rw [k12]
      refine ⟨fun _ => ⟨fun _ => hp0 ⟨n1, n2, fun _ => Or.inl hg⟩ I3 J2 o3 (Or.inr ⟨k113, by rw [k12, hg]; rfl, fun z => by rw [hg] at z; cases z⟩), fun z => absurd rfl z⟩, fun z => absurd rfl z⟩
theorem find_ok (hb : isBd b) (gk : gOk w h sh) (g : gridX b w h sh I J) (v : bst b (w * h) M H B F J) (ok : okS (w * h) M H B F) (hK : ∀ i, K i = true → H i = true) (rs : rsX b w h sh M H B K Y I J) (st : xst w h sh M H (opS (w * h) H B) I J) {gr : Nat} (hg1 : 1 ≤ gr) (hgr : gr ≤ 3)
    (hp0 : stN w h sh M H B K gr → ∀ I' J', oF I I' J J' → xst w h sh M H (opS (w * h) H B) I' J' → P (some (.int 0)) I' J')
    (hp1 : ∀ kd G u W, stR w h sh M H B K Y gr kd G u W → ∀ I' J', oF I I' J J' → xst w h sh M H (opS (w * h) H B) I' J' → xgv kd G u W I' J' → P (some (.int 1)) I' J') : call pgX zX6_find [.ref 39, .int (zI gr)] I J P := by
  obtain ⟨hn1, hn2⟩ := mul_le100 gk
  refine e_X6_find _ ⟨b, rs.1, hb, ?_⟩
  rw [show I (b + 1) 7 = zI (w * h : Nat) from g.1.2.2.2]
  have key := up_loop (L := fun a => (∀ a', a' < a → ¬ r1ok w h sh M H B K a') → l_X6_find_13 I J P (zI gr) (zI (w * h : Nat)) (zI a)) (w * h) ?_ ?_ 0 (Nat.zero_le _) (fun a' h => absurd h (by omega))
  · exact key
  · intro n1
    refine s_X6_find_13 _ _ _ ⟨fun _ => ?_, fun c => absurd (Int32.le_refl _) c⟩
    by_cases g2 : 2 ≤ gr
    · have key2 := up_loop (L := fun a => (∀ a' c, a' < a → c < w * h → ¬ r2ok w h sh M H B K a' c) → l_X6_find_50 I J P (zI gr) (zI (w * h : Nat)) (zI a)) (w * h) ?_ ?_ 0 (Nat.zero_le _) (fun a' _ h => absurd h (by omega))
      · exact key2
      · intro n2
        exact fd3 hb gk g v ok rs st hgr (Int32.le_refl _) n1 (fun _ a c ha hc => n2 a c ha hc) hp0 hp1
      · intro a ha ih n2
        have next : (∀ c, c < w * h → ¬ r2ok w h sh M H B K a c) → l_X6_find_50 I J P (zI gr) (zI (w * h : Nat)) (zI ((a + 1 : Nat) : Int)) := fun q => ih (fun a' c ha' hc => by
          by_cases e : a' = a
          · rw [e]; exact q c hc
          · exact n2 a' c (by omega) hc)
        refine s_X6_find_50 _ _ _ ?_
        rw [z_le (by omega) (by omega) (by omega) (by omega), show (2 : Int32) = zI (2 : Nat) from rfl, z_lt (by omega) (by omega) (by omega) (by omega), z_s]
        refine ⟨fun c => absurd c (by omega), fun _ => ⟨fun c => absurd c (by omega), fun _ => ⟨b, rs.1, hb, has_ok (bd_bits hb (by decide) (by decide)) (by omega) ⟨_, rfl, ?_⟩⟩⟩⟩
        rw [(v a (by omega)).2.2.1, bi_0]
        refine ⟨fun c => next (fun d _ z => by rw [z.1] at c; cases c), fun c => ?_⟩
        refine giveByTwo_ok hb gk g v ok hK rs ha (by simpa using c) (fun q => ⟨_, rfl, fun _ => next q, fun z => absurd rfl z⟩) (fun d hd q qf I1 J1 o1 a1 a2 a3 a4 => ⟨_, rfl, fun z => absurd z (by decide), fun _ => ?_⟩)
        exact hp1 2 _ _ _ (Or.inr (Or.inl ⟨rfl, g2, n1, a, d, ha, hd, q, n2, qf, rfl, rfl, rfl⟩)) I1 J1 o1.toF (xst_G o1 st) ⟨a1, a2, a3, a4⟩
    · have hg : gr = 1 := by omega
      by_cases hz : w * h ≤ 0
      · omega
      · refine s_X6_find_50 _ _ _ ?_
        rw [show (0 : Int32) = zI ((0 : Nat) : Int) from rfl, z_le (by omega) (by omega) (by omega) (by omega), show (2 : Int32) = zI (2 : Nat) from rfl, z_lt (by omega) (by omega) (by omega) (by omega), show (3 : Int32) = zI (3 : Nat) from rfl, z_le (by omega) (by omega) (by omega) (by omega)]
        refine ⟨fun c => absurd c (by omega), fun _ => ⟨fun _ => ⟨fun c => absurd c (by omega), fun _ => ?_⟩, fun c => absurd (by omega) c⟩⟩
        exact hp0 ⟨n1, fun z => absurd z g2, fun z => absurd z (by omega)⟩ I J ⟨fun _ _ => ⟨rfl, rfl⟩, fun _ _ _ _ _ => rfl, fun _ _ _ => rfl⟩ st
  · intro a ha ih n1
    have next : ¬ r1ok w h sh M H B K a → l_X6_find_13 I J P (zI gr) (zI (w * h : Nat)) (zI ((a + 1 : Nat) : Int)) := fun q => ih (fun a' ha' => by
      by_cases e : a' = a
      · rw [e]; exact q
      · exact n1 a' (by omega))
    refine s_X6_find_13 _ _ _ ?_
    rw [z_le (by omega) (by omega) (by omega) (by omega), z_s]
    refine ⟨fun c => absurd c (by omega), fun _ => ⟨b, rs.1, hb, has_ok (bd_bits hb (by decide) (by decide)) (by omega) ⟨_, rfl, ?_⟩⟩⟩
    rw [(v a (by omega)).2.2.1, bi_0]
    refine ⟨fun c => next (fun z => by rw [z.1] at c; cases c), fun c => ?_⟩
    refine giveByOne_ok hb gk g v ok hK rs ha (by simpa using c) (fun q => ⟨_, rfl, fun _ => next q, fun z => absurd rfl z⟩) (fun q I1 J1 o1 a1 a2 a3 a4 => ⟨_, rfl, fun z => absurd z (by decide), fun _ => ?_⟩)
    exact hp1 1 _ _ _ (Or.inl ⟨rfl, a, ha, q, n1, rfl, rfl, rfl⟩) I1 J1 o1.toF (xst_G o1 st) ⟨a1, a2, a3, a4⟩
/-- the first cell with a verdict that is news -/
def isN (F G : Nat → Bool) (v : Bool) (c : Nat) : Prop := G c = true ∧ ¬ (v = true ∧ F c = true)
theorem firstNews_ok (hb : isBd b) (gk : gOk w h sh) (g : gridX b w h sh I J) (vv : bst b (w * h) M H B F J) (h9 : (I 39 9).toNatClampNeg = b) {kd : Nat} {G : Nat → Bool} {v : Bool} {W : Nat → Bool} (xg : xgv kd G v W I J) (hp0 : (∀ c, c < w * h → ¬ isN F G v c) → P (some (.int (-1))) I J) (hp1 : ∀ c, c < w * h → isN F G v c → (∀ c', c' < c → ¬ isN F G v c') → P (some (.int (zI c))) I J) : call pgX zX6_firstNews [.ref 39] I J P := by
  obtain ⟨hn1, hn2⟩ := mul_le100 gk
  obtain ⟨x1, x2, x3, x4⟩ := xg
  refine e_X6_firstNews ⟨b, h9, hb, ?_⟩
  have key := up_loop (L := fun c => (∀ c', c' < c → ¬ isN F G v c') → l_X6_firstNews_10 I J P b (zI c)) (w * h) ?_ ?_ 0 (Nat.zero_le _) (fun c' h => absurd h (by omega))
  · exact key
  · intro hn
    exact s_X6_firstNews_10 _ _ hb ⟨b, h9, hb, fun _ => hp0 hn, fun c => absurd (by rw [g.1.2.2.2]; exact Int32.le_refl _) c⟩
  · intro c hc ih hn
    have next : ¬ isN F G v c → l_X6_firstNews_10 I J P b (zI ((c + 1 : Nat) : Int)) := fun q => ih (fun c' hc' => by
      by_cases e : c' = c
      · rw [e]; exact q
      · exact hn c' (by omega))
    refine s_X6_firstNews_10 _ _ hb ⟨b, h9, hb, ?_⟩
    rw [g.1.2.2.2, z_le (by omega) (by omega) (by omega) (by omega), z_s]
    refine ⟨fun q => absurd q (by omega), fun _ => has_ok bits40 (by omega) ⟨_, rfl, ?_⟩⟩
    rw [x3 c (by omega), bi_0, x2, bi_0]
    refine ⟨fun q => next (fun z => by rw [z.1] at q; cases q), fun q => ⟨fun q2 => hp1 c hc ⟨by simpa using q, fun z => by rw [z.1] at q2; cases q2⟩ hn, fun q2 => has_ok (bd_bits hb (by decide) (by decide)) (by omega) ⟨_, rfl, ?_⟩⟩⟩
    rw [(vv c (by omega)).2.2.2.2, bi_0]
    exact ⟨fun q3 => next (fun z => z.2 ⟨by simpa using q2, by simpa using q3⟩), fun q3 => hp1 c hc ⟨by simpa using q, fun z => by rw [z.2] at q3; cases q3⟩ hn⟩
/-- more is known -/
def kAdd (K G : Nat → Bool) : Nat → Bool := fun i => K i || G i
def yAdd (Y : Nat → Nat → Bool) (G W : Nat → Bool) : Nat → Nat → Bool := fun x k => if G x then W k else Y x k
theorem accept_ok (hb : isBd b) (gk : gOk w h sh) (g : gridX b w h sh I J) (rs : rsX b w h sh M H B K Y I J) {kd : Nat} (hkd : kd ≤ 3) {G : Nat → Bool} {v : Bool} {W : Nat → Bool} (xg : xgv kd G v W I J) (hG : ∀ i, G i = true → i < w * h ∧ M i = v) (hp : ∀ I' J', (∀ q, q ≠ 39 → I' q = I q) → (∀ x, x ≠ 10 → I' 39 x = I 39 x) → (I' 39 10 = 0 ↔ I 39 10 = 0 ∧ kd ≠ 3) → (∀ q, q ≠ 42 → q ≠ 43 → q ≠ 44 → q ≠ 45 → J' q = J q) → rsX b w h sh M H B (kAdd K G) (yAdd Y G W) I' J' → P none I' J') : call pgX zX6_accept [.ref 39] I J P := by
  obtain ⟨hn1, hn2⟩ := mul_le100 gk
  obtain ⟨x1, x2, x3, x4⟩ := xg
  obtain ⟨r1, r2, r3, r4⟩ := rs
  refine e_X6_accept ?_
  have key := up_loop (L := fun k => ∀ J1 : tg_J, (∀ q, q ≠ 42 → q ≠ 43 → J1 q = J q) → (∀ x j, x < w * h → j < 128 → bh (J1 42 x) (J1 43 x) j = if x < k ∧ G x = true then W j else bh (J 42 x) (J 43 x) j) → l_X6_accept_2 I J1 P (zI k)) (w * h) ?_ ?_ 0 (Nat.zero_le _) J (fun _ _ _ => rfl) (fun x j _ _ => by rw [if_neg (by omega)])
  · exact key
  · intro J1 o1 z1
    refine s_X6_accept_2 _ ⟨b, r1, hb, fun _ => leave_ok bits44 bits40 (by decide) (fun J2 o2 s2 => ⟨rfl, ?_⟩), fun c => absurd (by rw [g.1.2.2.2]; exact Int32.le_refl _) c⟩
    have hY : ∀ (J3 : tg_J), J3 42 = J1 42 → J3 43 = J1 43 → ∀ x j, x < w * h → j < 128 → kAdd K G x = true → bh (J3 42 x) (J3 43 x) j = yAdd Y G W x j := fun J3 q1 q2 x j hx hj hk => by
      rw [q1, q2, z1 x j hx hj]
      unfold yAdd
      cases e : G x
      · rw [if_neg (fun z => by cases z.2), if_neg (by simp)]
        unfold kAdd at hk
        rw [e, Bool.or_false] at hk
        exact r4 x j hx hj hk
      · rw [if_pos ⟨hx, rfl⟩, if_pos rfl]
    have h44 : ∀ i, i < 128 → sB J2 44 i = fre H (kAdd K G) i := fun i hi => by
      rw [s2 i hi, sB_of (o1 44 (by decide) (by decide)), sB_of (o1 40 (by decide) (by decide)), r2 i hi, x3 i hi]
      unfold fre kAdd
      cases H i <;> cases K i <;> cases G i <;> rfl
    have fin : ∀ (I3 : tg_I) (J3 : tg_J) (d : Int32), I3 = u2 I 39 10 d → (d = 0 ↔ I 39 10 = 0 ∧ kd ≠ 3) → (∀ q, q ≠ 45 → J3 q = J2 q) → (∀ i, i < 128 → sB J3 45 i = (B i || (kAdd K G i && M i))) → P none I3 J3 := fun I3 J3 d e3 hd o3 s3 => by
      refine hp I3 J3 (fun q hq => by rw [e3, u2_other _ _ _ _ hq]) (fun x hx => by rw [e3, u2_at, if_neg hx]) (by rw [e3, u2_eq]; exact hd) (fun q a b c d => (o3 q d).trans ((o2 q c).trans (o1 q a b))) ⟨by rw [e3, u2_at, if_neg (by decide)]; exact r1, fun i hi => by rw [sB_of (o3 44 (by decide))]; exact h44 i hi, s3, hY J3 ((o3 42 (by decide)).trans (o2 42 (by decide))) ((o3 43 (by decide)).trans (o2 43 (by decide)))⟩
    have k3 : I 39 3 = (3 : Int32) ↔ kd = 3 := by
      rw [x1, show (3 : Int32) = zI (3 : Nat) from rfl, z_eq (by omega) (by omega) (by omega) (by omega)]
      omega
    rw [x2, bi_0, k3]
    refine ⟨fun cv => ?_, fun cv => join_ok bits45 bits40 (by decide) (fun J3 o3 s3 => ⟨rfl, ?_⟩)⟩
    · have s45 : ∀ i, i < 128 → sB J2 45 i = (B i || (kAdd K G i && M i)) := fun i hi => by
        rw [sB_of (o2 45 (by decide)), sB_of (o1 45 (by decide) (by decide)), r3 i hi]
        unfold kAdd
        cases e : G i
        · rw [Bool.or_false]
        · rw [(hG i e).2, cv]; simp
      exact ⟨fun c10 I3 e3 => fin I3 J2 _ e3 ⟨fun z => absurd z (by decide), fun z => absurd z.1 c10⟩ (fun _ _ => rfl) s45, fun c10 => ⟨fun c3 I3 e3 => fin I3 J2 _ e3 ⟨fun _ => ⟨c10, c3⟩, fun _ => rfl⟩ (fun _ _ => rfl) s45, fun c3 I3 e3 => fin I3 J2 _ e3 ⟨fun z => absurd z (by decide), fun z => absurd c3 z.2⟩ (fun _ _ => rfl) s45⟩⟩
    · have s45 : ∀ i, i < 128 → sB J3 45 i = (B i || (kAdd K G i && M i)) := fun i hi => by
        rw [s3 i, sB_of (o2 45 (by decide)), sB_of (o1 45 (by decide) (by decide)), r3 i hi, sB_of (o2 40 (by decide)), sB_of (o1 40 (by decide) (by decide)), x3 i hi]
        unfold kAdd
        cases e : G i
        · rw [Bool.or_false, Bool.or_false]
        · rw [(hG i e).2, show v = true by simpa using cv]; simp
      exact ⟨fun c10 I3 e3 => fin I3 J3 _ e3 ⟨fun z => absurd z (by decide), fun z => absurd z.1 c10⟩ o3 s45, fun c10 => ⟨fun c3 I3 e3 => fin I3 J3 _ e3 ⟨fun _ => ⟨c10, fun z => c3 (k3.mpr z)⟩, fun _ => rfl⟩ o3 s45, fun c3 I3 e3 => fin I3 J3 _ e3 ⟨fun z => absurd z (by decide), fun z => absurd (k3.mp c3) z.2⟩ o3 s45⟩⟩
  · intro k hk ih J1 o1 z1
    refine s_X6_accept_2 _ ⟨b, r1, hb, ?_⟩
    rw [g.1.2.2.2, z_le (by omega) (by omega) (by omega) (by omega), z_s]
    refine ⟨fun c => absurd c (by omega), fun _ => has_ok bits40 (by omega) ⟨_, rfl, ?_⟩⟩
    rw [sB_of (o1 40 (by decide) (by decide)), x3 k (by omega), bi_0, z_in (by omega) (by omega), z_cl (by omega)]
    refine ⟨fun c => ih J1 o1 (fun x j hx hj => ?_), fun c => ⟨by omega, fun J2 e2 => ⟨by omega, fun J3 e3 => ih J3 (fun q a b => by rw [e3, u2_other _ _ _ _ b, e2, u2_other _ _ _ _ a]; exact o1 q a b) (fun x j hx hj => ?_)⟩⟩⟩
    · rw [z1 x j hx hj]
      by_cases e : x = k
      · rw [e, c, if_neg (fun z => by cases z.2), if_neg (fun z => by cases z.2)]
      · by_cases e2 : x < k ∧ G x = true
        · rw [if_pos e2, if_pos ⟨by omega, e2.2⟩]
        · rw [if_neg e2, if_neg (fun z => e2 ⟨by omega, z.2⟩)]
    · have h41 : bh (J1 41 0) (J1 41 1) j = W j := by rw [o1 41 (by decide) (by decide)]; exact x4 j hj
      rw [e3, u2_other _ _ _ _ (show 42 ≠ 43 by decide), u2_at, e2, u2_at, u2_other _ _ _ _ (show 41 ≠ 42 by decide), u2_other _ _ _ _ (show 43 ≠ 42 by decide)]
      by_cases e : x = k
      · rw [if_pos e, if_pos e, e, if_pos ⟨by omega, by simpa using c⟩]; exact h41
      · rw [if_neg e, if_neg e, z1 x j hx hj]
        by_cases e2 : x < k ∧ G x = true
        · rw [if_pos e2, if_pos ⟨by omega, e2.2⟩]
        · rw [if_neg e2, if_neg (fun z => e2 ⟨by omega, z.2⟩)]
theorem begin_ok (hb : isBd b) (v : bst b (w * h) M H B F J) (Y : Nat → Nat → Bool) (hp : ∀ I' J', (∀ q, q ≠ 39 → I' q = I q) → I' 39 10 = 0 → I' 39 11 = 0 → (∀ q, q ≠ 44 → q ≠ 45 → J' q = J q) → rsX b w h sh M H B (fun _ => false) Y I' J' → P none I' J') : call pgX zX6_begin [.ref 39, .ref b] I J P := by
  refine e_X6_begin _ hb (fun I1 e1 => copy_ok bits44 (bd_bits hb (by decide) (by decide)) (fun J1 o1 s1 => ⟨rfl, copy_ok bits45 (bd_bits hb (by decide) (by decide)) (fun J2 o2 s2 => ⟨rfl, fun I2 e2 I3 e3 => ?_⟩)⟩))
  refine hp I3 J2 (fun q hq => by rw [e3, u2_other _ _ _ _ hq, e2, u2_other _ _ _ _ hq, e1, u2_other _ _ _ _ hq]) (by rw [e3, u2_at, if_neg (by decide), e2, u2_eq]) (by rw [e3, u2_eq]) (fun q a b => (o2 q b).trans (o1 q a)) ⟨?_, fun i hi => ?_, fun i hi => ?_, fun x k _ _ hk => by cases hk⟩
  · rw [e3, u2_at, if_neg (by decide), e2, u2_at, if_neg (by decide), e1, u2_eq]
    rcases hb with e | e <;> rw [e] <;> rfl
  · rw [sB_of (o2 44 (by decide)), s1 i, (v i hi).2.1]
    unfold fre; simp
  · rw [s2 i, sB_of (o1 (b + 10) (by rcases hb with e | e <;> omega)), (v i hi).2.2.2.1]
    simp
end XFe
