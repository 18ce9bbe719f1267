/-! the class: hint -/
section XHi
variable {I : tg_I} {J : tg_J} {P : Option Value → tg_I → tg_J → Prop} {w h sh : Nat} {M H B F : Nat → Bool} {mv kd md : Nat} {hist : Nat → hS} {R T : Nat → Bool}
theorem relX_hint {I' : tg_I} {J' : tg_J} {kd' : Nat} {R' : Nat → Bool} (hr : relX ((w, h, sh), (M, H, B, F), (mv, hist), (kd, R, T, md)) I J) (oI : ∀ q, q < 17 ∨ 46 ≤ q → q ≠ 0 → I' q = I q) (e7 : I' 0 7 = zI kd') (oJ : ∀ q, q < 17 ∨ 46 ≤ q → q ≠ 62 → J' q = J q) (s : ∀ i, i < 128 → sB J' 62 i = R' i) : relX ((w, h, sh), (M, H, B, F), (mv, hist), (kd', R', T, md)) I' J' := by
  obtain ⟨r1, r2, r3, r4, r5, r6, r7, r8, r9⟩ := hr
  refine ⟨?_, fun i hi => ?_, fun i hi => ?_, ?_, fun m hm => ?_, e7, s, fun i hi => ?_, ?_⟩
  · unfold gridX xSz rowX rowB at *
    rw [oI (1 + 1) (by omega) (by omega), oI (1 + 4) (by omega) (by omega), oI (1 + 5) (by omega) (by omega), oJ (1 + 2) (by omega) (by omega), oJ (1 + 3) (by omega) (by omega)]
    exact r1
  · rw [sB_of (oJ 7 (by omega) (by omega))]; exact r2 i hi
  · have := r3 i hi
    rw [sB_of (oJ (1 + 7) (by omega) (by omega)), sB_of (oJ (1 + 8) (by omega) (by omega)), sB_of (oJ (1 + 9) (by omega) (by omega)), sB_of (oJ (1 + 10) (by omega) (by omega)), sB_of (oJ (1 + 11) (by omega) (by omega))]
    exact this
  · rw [oI 15 (by omega) (by omega)]; exact r4
  · unfold xHist
    rw [oJ 16 (by omega) (by omega)]
    exact r5 m hm
  · rw [sB_of (oJ 63 (by omega) (by omega))]; exact r8 i hi
  · rw [oI 46 (by omega) (by omega)]; exact r9
/-- what a round of hints may change -/
def oH (I I' : tg_I) (J J' : tg_J) : Prop := ∀ q, q < 17 ∨ 46 ≤ q → I' q = I q ∧ J' q = J q
theorem oH.grid {I I1 : tg_I} {J J1 : tg_J} {b : Nat} (hb : isBd b) (h1 : oH I I1 J J1) (g : gridX b w h sh I J) : gridX b w h sh I1 J1 := by
  have hh : ∀ n, n ≤ 13 → b + n < 17 ∨ 46 ≤ b + n := fun n hn => by rcases hb with e | e <;> omega
  have e1 := (h1 (b + 1) (hh _ (by decide))).1
  have e4 := (h1 (b + 4) (hh _ (by decide))).1
  have e5 := (h1 (b + 5) (hh _ (by decide))).1
  have j2 := (h1 (b + 2) (hh _ (by decide))).2
  have j3 := (h1 (b + 3) (hh _ (by decide))).2
  unfold gridX xSz rowX rowB at *
  rw [e1, e4, e5, j2, j3]
  exact g
theorem oH.bst {I I1 : tg_I} {J J1 : tg_J} {b n : Nat} (hb : isBd b) (h1 : oH I I1 J J1) (v : bst b n M H B F J) : bst b n M H B F J1 := fun i hi => by
  have hh : ∀ n, n ≤ 13 → b + n < 17 ∨ 46 ≤ b + n := fun n hn => by rcases hb with e | e <;> omega
  have ej : ∀ n, n ≤ 13 → J1 (b + n) = J (b + n) := fun n hn => (h1 (b + n) (hh n hn)).2
  have := v i hi
  rw [sB_of (ej 7 (by decide)), sB_of (ej 8 (by decide)), sB_of (ej 9 (by decide)), sB_of (ej 10 (by decide)), sB_of (ej 11 (by decide))]
  exact this
theorem yAdd_ok {K : Nat → Bool} {Y : Nat → Nat → Bool} {G W : Nat → Bool} (hY : ∀ x k, K x = true → Y x k = true → k ≤ 100) (hW : ∀ k, W k = true → k ≤ 100) : ∀ x k, kAdd K G x = true → yAdd Y G W x k = true → k ≤ 100 := fun x k q1 q2 => by
  unfold yAdd at q2
  unfold kAdd at q1
  cases e : G x
  · rw [e] at q1 q2
    rw [Bool.or_false] at q1
    exact hY x k q1 (by simpa using q2)
  · rw [e] at q2
    exact hW k (by simpa using q2)
theorem hl29 {I0 : tg_I} {J0 : tg_J} (gk : gOk w h sh) (g0 : gridX 1 w h sh I0 J0) (v0 : bst 1 (w * h) M H B F J0) (ok : okS (w * h) M H B F) {gr : Nat} (hg1 : 1 ≤ gr) (hgr : gr ≤ 3) : ∀ (f : Nat) (K : Nat → Bool) (Y : Nat → Nat → Bool) (t : Nat) (I : tg_I) (J : tg_J), w * h < f + fb_ct K (w * h) → t ≤ fb_ct K (w * h) → (∀ i, K i = true → H i = true) → (∀ x k, K x = true → Y x k = true → k ≤ 100) → oH I0 I J0 J → rsX 1 w h sh M H B K Y I J → xst w h sh M H (opS (w * h) H B) I J →
    (hR w h sh M H B F gr f K Y none → ∀ I' J', oH I0 I' J0 J' → P (some (.int 0)) I' J') →
    (∀ kd c v W, hR w h sh M H B F gr f K Y (some (kd, c, v, W)) → c < w * h → kd ≤ 3 → (∀ k, W k = true → k ≤ 100) → ∀ I' J', (∀ q, q < 17 ∨ 46 ≤ q → q ≠ 0 → I' q = I0 q) → I' 0 7 = zI kd → (∀ q, q < 17 ∨ 46 ≤ q → q ≠ 62 → J' q = J0 q) → (∀ i, i < 128 → sB J' 62 i = W i) → P (some (.int (zI ((2 * c + (if v then 1 else 0) + 1 : Nat) : Int)))) I' J') →
    l_X8_hint_29 I J P (zI gr) (zI t) := by
  obtain ⟨hn1, hn2⟩ := mul_le100 gk
  intro f
  induction f with
  | zero =>
    intro K Y t I J hf
    have := fb_ct_le K (w * h)
    omega
  | succ f ih =>
    intro K Y t I J hf ht hK hY o rs st hp0 hp1
    have hct := fb_ct_le K (w * h)
    have oFr : ∀ I1 J1, oF I I1 J J1 → oH I0 I1 J0 J1 := fun I1 J1 o1 q hq => ⟨((o1.1 q hq).1).trans (o q hq).1, ((o1.1 q hq).2).trans (o q hq).2⟩
    have gI := o.grid isBd1 g0
    have vI := o.bst isBd1 v0
    refine s_X8_hint_29 _ _ ?_
    rw [show (100 : Int32) = zI (100 : Nat) from rfl, z_lt (by omega) (by omega) (by omega) (by omega), z_s]
    refine ⟨fun c => absurd c (by omega), fun _ => find_ok isBd1 gk gI vI ok hK rs st hg1 hgr (fun hn I1 J1 o1 st1 => ⟨_, rfl, fun _ => hp0 (Or.inl ⟨hn, rfl⟩) I1 J1 (oFr I1 J1 o1), fun z => absurd rfl z⟩) (fun kd' G v W hs I1 J1 o1 st1 xg => ⟨_, rfl, fun z => absurd z (by decide), fun _ => ?_⟩)⟩
    obtain ⟨hG, hGx, k1, k3⟩ := stR_G ok hK hs
    have hW := stR_W gk hY hs
    have o01 := oFr I1 J1 o1
    have rs1 := o1.rs rs
    refine firstNews_ok isBd1 gk (o01.grid isBd1 g0) (o01.bst isBd1 v0) rs1.1 xg (fun hn => ⟨_, rfl, fun _ => ?_, fun z => absurd (by decide) z⟩) (fun c hc hi hf1 => ⟨_, rfl, fun z => absurd z ?_, fun _ I2 e2 => copy_ok bits62 bits41 (fun J2 o2 s2 => ⟨rfl, ?_⟩)⟩)
    · refine accept_ok isBd1 gk (o01.grid isBd1 g0) rs1 k3 xg (fun i hi => ⟨(hG i hi).1, (hG i hi).2.2⟩) (fun I2 J2 a1 a2 a3 a4 rs2 => ⟨rfl, ?_⟩)
      have hK2 : ∀ i, kAdd K G i = true → H i = true := fun i q => by
        unfold kAdd at q
        simp only [Bool.or_eq_true] at q
        rcases q with q | q
        · exact hK i q
        · have := (hG i q).2.1
          unfold fre at this
          simp only [Bool.and_eq_true] at this
          exact this.1
      have hlt := kAdd_ct (K := K) (G := G) (n := w * h) (fun i q => by
        have := (hG i q).2.1
        unfold fre at this
        simp only [Bool.and_eq_true, Bool.not_eq_true'] at this
        exact this.2) hGx
      have o2 : oH I0 I2 J0 J2 := fun q hq => ⟨by rw [a1 q (by omega)]; exact (o01 q hq).1, by rw [a4 q (by omega) (by omega) (by omega) (by omega)]; exact (o01 q hq).2⟩
      have st2 : xst w h sh M H (opS (w * h) H B) I2 J2 := by
        unfold xst xfo at *
        rw [a2 11 (by decide), a2 12 (by decide)]
        rcases st1 with s | ⟨s1, s2, s3⟩
        · exact Or.inl s
        · refine Or.inr ⟨s1, s2, fun q => ?_⟩
          obtain ⟨x, y⟩ := s3 q
          exact ⟨fun i hi => by rw [sB_of (a4 18 (by decide) (by decide) (by decide) (by decide))]; exact x i hi, fun i hi => by rw [sB_of (a4 19 (by decide) (by decide) (by decide) (by decide))]; exact y i hi⟩
      refine ih (kAdd K G) (yAdd Y G W) (t + 1) I2 J2 (by omega) (by omega) hK2 (yAdd_ok hY hW) o2 rs2 st2 (fun q => hp0 (Or.inr ⟨kd', G, v, W, hs, Or.inr ⟨hn, q⟩⟩)) (fun kd2 c2 v2 W2 q => hp1 kd2 c2 v2 W2 (Or.inr ⟨kd', G, v, W, hs, Or.inr ⟨hn, q⟩⟩))
    · rw [show (0 : Int32) = zI 0 from rfl, z_lt (by omega) (by omega) (by omega) (by omega)]; omega
    · obtain ⟨x1, x2, x3, x4⟩ := xg
      have e39 : I2 39 = I1 39 := by rw [e2, u2_other _ _ _ _ (by decide)]
      have fin := hp1 kd' c v W (Or.inr ⟨kd', G, v, W, hs, Or.inl ⟨c, hc, hi, hf1, rfl⟩⟩) hc k3 hW I2 J2 (fun q hq h0 => by rw [e2, u2_other _ _ _ _ h0]; exact (o01 q hq).1) (by rw [e2, u2_eq]; exact x1) (fun q hq h0 => by rw [o2 q h0]; exact (o01 q hq).2) (fun i hi => by rw [s2 i]; exact x4 i hi)
      rw [e39, x2, bi_0, show (2 : Int32) = zI 2 from rfl, z_mul, show (1 : Int32) = zI 1 from rfl, show (0 : Int32) = zI 0 from rfl, z_add, z_add, z_add, z_add]
      refine ⟨fun z => ?_, fun z => ?_⟩
      · rw [z, if_neg (by simp)] at fin
        rw [show (2 : Int) * (c : Int) + 0 + 1 = ((2 * c + 0 + 1 : Nat) : Int) by omega]
        exact fin
      · rw [show v = true by simpa using z, if_pos rfl] at fin
        rw [show (2 : Int) * (c : Int) + 1 + 1 = ((2 * c + 1 + 1 : Nat) : Int) by omega]
        exact fin
theorem x_hint (ho : okD ((w, h, sh), (M, H, B, F), (mv, hist), (kd, R, T, md))) (hr : relX ((w, h, sh), (M, H, B, F), (mv, hist), (kd, R, T, md)) I J) (x : Int32) (hm1 : (∀ g : Nat, 1 ≤ g → g ≤ 3 → x ≠ zI g) → P (some (.int (-1))) I J)
    (h0 : ∀ g : Nat, 1 ≤ g → g ≤ 3 → x = zI g → hR w h sh M H B F g 101 (fun _ => false) (fun _ _ => false) none → ∀ I' J', relX ((w, h, sh), (M, H, B, F), (mv, hist), (0, (fun _ => false), T, md)) I' J' → P (some (.int 0)) I' J')
    (h1 : ∀ (g kd' c : Nat) (v : Bool) (W : Nat → Bool), 1 ≤ g → g ≤ 3 → x = zI g → hR w h sh M H B F g 101 (fun _ => false) (fun _ _ => false) (some (kd', c, v, W)) → c < w * h → kd' ≤ 3 → (∀ k, W k = true → k ≤ 100) → ∀ I' J', relX ((w, h, sh), (M, H, B, F), (mv, hist), (kd', W, T, md)) I' J' → P (some (.int (zI ((2 * c + (if v then 1 else 0) + 1 : Nat) : Int)))) I' J') : call pgX zX8_hint [.ref 0, .int x] I J P := by
  obtain ⟨gk, ok, -⟩ := ho
  obtain ⟨hn1, hn2⟩ := mul_le100 gk
  obtain ⟨z, z1, z2, z3⟩ := z_of x
  refine e_X8_hint _ ?_
  rw [z3, show (1 : Int32) = zI 1 from rfl, show (3 : Int32) = zI 3 from rfl, z_lt z1 z2 (by omega) (by omega), z_le z1 z2 (by omega) (by omega)]
  refine ⟨fun c => hm1 (fun g g1 g3 e => ?_), fun c => ⟨fun c2 => ?_, fun c2 => hm1 (fun g g1 g3 e => ?_)⟩⟩
  · rw [z3, z_eq z1 z2 (by omega) (by omega)] at e; omega
  · obtain ⟨g, hg⟩ : ∃ g : Nat, z = (g : Int) := ⟨z.toNat, by omega⟩
    have g1 : 1 ≤ g := by omega
    have g3 : g ≤ 3 := by omega
    have hx : x = zI g := by rw [z3, hg]
    rw [hg]
    refine e_X8_forgetHint (fun I1 e1 => clear_ok bits62 (fun J1 o1 s1 => ⟨rfl, rfl, ?_⟩))
    have v1 : bst 1 (w * h) M H B F J1 := fun i hi => by
      have := hr.2.2.1 i hi
      rw [sB_of (o1 (1 + 7) (by decide)), sB_of (o1 (1 + 8) (by decide)), sB_of (o1 (1 + 9) (by decide)), sB_of (o1 (1 + 10) (by decide)), sB_of (o1 (1 + 11) (by decide))]
      exact this
    have hr1 : relX ((w, h, sh), (M, H, B, F), (mv, hist), (0, (fun _ => false), T, md)) I1 J1 := relX_hint hr (fun q _ h0 => by rw [e1, u2_other _ _ _ _ h0]) (by rw [e1, u2_eq]; rfl) (fun q _ h0 => o1 q h0) (fun i _ => s1 i)
    refine begin_ok (w := w) (h := h) (sh := sh) isBd1 v1 (fun _ _ => false) (fun I2 J2 a1 a2 a3 a4 rs => ⟨rfl, ?_⟩)
    have o2 : oH I1 I2 J1 J2 := fun q hq => ⟨a1 q (by omega), a4 q (by omega) (by omega)⟩
    refine hl29 (I0 := I1) (J0 := J1) gk hr1.1 v1 ok g1 g3 101 (fun _ => false) (fun _ _ => false) 0 I2 J2 (by omega) (by omega) (fun i q => by cases q) (fun x k q => by cases q) o2 rs (Or.inl a3) (fun q I' J' o' => h0 g g1 g3 hx q I' J' (relX_P hr1 o')) (fun kd' c v W q hc hk hW I' J' b1 b2 b3 b4 => h1 g kd' c v W g1 g3 hx q hc hk hW I' J' (relX_hint hr1 b1 b2 b3 b4))
  · rw [z3, z_eq z1 z2 (by omega) (by omega)] at e; omega
end XHi
