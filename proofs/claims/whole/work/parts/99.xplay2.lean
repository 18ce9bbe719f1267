/-! the class: a play -/
theorem isBd47 : isBd 47 := Or.inr rfl
section XPl
variable {I : tg_I} {J : tg_J} {P : Option Value → tg_I → tg_J → Prop} {w h sh : Nat} {M : Nat → Bool}
/-- what a play may change -/
def oPl (I I' : tg_I) (J J' : tg_J) : Prop := (∀ q, q < 17 ∨ 46 ≤ q → q ≠ 60 → I' q = I q) ∧ ∀ q, q < 17 ∨ 46 ≤ q → q ≠ 55 → q ≠ 56 → q ≠ 57 → q ≠ 58 → J' q = J q
theorem oPl.tr {I I1 I2 : tg_I} {J J1 J2 : tg_J} (h1 : oPl I I1 J J1) (h2 : oPl I1 I2 J1 J2) : oPl I I2 J J2 := ⟨fun q a b => (h2.1 q a b).trans (h1.1 q a b), fun q a b c d e => (h2.2 q a b c d e).trans (h1.2 q a b c d e)⟩
theorem oPl.grid {I I1 : tg_I} {J J1 : tg_J} (h1 : oPl I I1 J J1) (g : gridX 47 w h sh I J) : gridX 47 w h sh I1 J1 := by
  have e1 := h1.1 (47 + 1) (by omega) (by omega)
  have e4 := h1.1 (47 + 4) (by omega) (by omega)
  have e5 := h1.1 (47 + 5) (by omega) (by omega)
  have j2 := h1.2 (47 + 2) (by omega) (by omega) (by omega) (by omega) (by omega)
  have j3 := h1.2 (47 + 3) (by omega) (by omega) (by omega) (by omega) (by omega)
  unfold gridX xSz rowX rowB at *
  rw [e1, e4, e5, j2, j3]
  exact g
theorem oF.pl {I I1 : tg_I} {J J1 : tg_J} (o : oF I I1 J J1) : oPl I I1 J J1 := ⟨fun q a _ => (o.1 q a).1, fun q a _ _ _ _ => (o.1 q a).2⟩
theorem onlyB.pl {I I1 : tg_I} {J J1 : tg_J} (o : onlyB 47 I I1 J J1) : oPl I I1 J J1 := ⟨fun q _ b => o.1 q b, fun q _ a b c d => o.2 q a b c d⟩
theorem xcl (gk : gOk w h sh) {H : Nat → Bool} (v : bst 47 (w * h) M H zB (fun _ => false) J) (ok : okH w h M H) (hp : ∀ r : Bool, (r = true ↔ sol w h M H) → P (some (.int (bi r))) I J) : call pgX zX1_cleared [.ref 47] I J P := by
  obtain ⟨hn1, hn2⟩ := mul_le100 gk
  refine cleared_ok isBd47 (fun r hr => hp r ?_)
  rw [hr]
  constructor
  · intro q i hi hH
    have := q i (by omega) (by rw [(v i (by omega)).2.1]; exact hH)
    rw [(v i (by omega)).1] at this
    exact this
  · intro q i hi hH
    rw [(v i hi).2.1] at hH
    rw [(v i hi).1]
    refine q i ?_ hH
    rcases Nat.lt_or_ge i (w * h) with z | z
    · exact z
    · rw [(ok.1 i z).1] at hH; cases hH
theorem goOn_ok (gk : gOk w h sh) {H H' K : Nat → Bool} {Y : Nat → Nat → Bool} (v : bst 47 (w * h) M H' zB (fun _ => false) J) (hs : ∀ x, H' x = true → H x = true) (rs : rsX 47 w h sh M H zB K Y I J) (d : Bool) (hd : I 39 10 = 0 ↔ d = false) (hp : ∀ I' J', (∀ q, q ≠ 39 → I' q = I q) → (∀ q, q ≠ 44 → q ≠ 45 → J' q = J q) → I' 39 10 = 0 → I' 39 11 = 0 → rsX 47 w h sh M H' zB (if d then (fun _ => false) else K) Y I' J' → P none I' J') : call pgX zX6_goOn [.ref 39] I J P := by
  refine e_X6_goOn ⟨fun c => ⟨47, rs.1, isBd47, meet_ok bits44 (bd_bits isBd47 (n := 8) (by decide) (by decide)) (by decide) (fun J1 o1 s1 => ⟨rfl, fun I1 e1 => ?_⟩)⟩, fun c => ⟨47, rs.1, isBd47, begin_ok (w := w) (h := h) (sh := sh) isBd47 v Y (fun I1 J1 a1 a2 a3 a4 rs1 => ⟨rfl, ?_⟩)⟩⟩
  · have hd0 := hd.mp c
    rw [hd0] at hp
    obtain ⟨r1, r2, r3, r4⟩ := rs
    refine hp I1 J1 (fun q hq => by rw [e1, u2_other _ _ _ _ hq]) (fun q a _ => o1 q a) (by rw [e1, u2_at, if_neg (by decide)]; exact c) (by rw [e1, u2_eq]) ⟨by rw [e1, u2_at, if_neg (by decide)]; exact r1, fun i hi => ?_, fun i hi => by rw [sB_of (o1 45 (by decide))]; exact r3 i hi, by rw [o1 42 (by decide), o1 43 (by decide)]; exact r4⟩
    rw [s1 i, r2 i hi, show sB J (47 + 8) i = H' i from (v i hi).2.1]
    unfold fre
    rw [if_neg (by simp)]
    cases e : H' i
    · simp
    · rw [hs i e]; simp
  · have hd1 : d = true := by
      cases d
      · exact absurd (hd.mpr rfl) c
      · rfl
    rw [hd1] at hp
    exact hp I1 J1 a1 a4 a2 a3 rs1
theorem pl31 {I0 : tg_I} {J0 : tg_J} (gk : gOk w h sh) (g0 : gridX 47 w h sh I0 J0) {gr : Nat} (hg1 : 1 ≤ gr) (hgr : gr ≤ 3) : ∀ (f : Nat) (H K : Nat → Bool) (Y : Nat → Nat → Bool) (d : Bool) (t : Nat) (I : tg_I) (J : tg_J), fb_ct H (w * h) * (w * h + 1) + (w * h - fb_ct K (w * h)) < f → t + f ≤ 20000 → okH w h M H → FC w h sh M H → kOk M H K → (∀ x k, K x = true → Y x k = true → k ≤ 100) → oPl I0 I J0 J → bst 47 (w * h) M H zB (fun _ => false) J → rsX 47 w h sh M H zB K Y I J → xst w h sh M H (opS (w * h) H zB) I J → (I 39 10 = 0 ↔ d = false) →
    (∀ f', cR w h sh M gr f' H K d none → ∀ H' I' J', okH w h M H' → oPl I0 I' J0 J' → bst 47 (w * h) M H' zB (fun _ => false) J' → P (some (.int 1)) I' J') →
    (∀ f' Hf, cR w h sh M gr f' H K d (some Hf) → okH w h M Hf → ∀ I' J', oPl I0 I' J0 J' → bst 47 (w * h) M Hf zB (fun _ => false) J' → P (some (.int 0)) I' J') →
    l_X3_play_31 I J P (zI gr) (zI t) := by
  obtain ⟨hn1, hn2⟩ := mul_le100 gk
  intro f
  induction f with
  | zero => intro H K Y d t I J hf; omega
  | succ f ih =>
    intro H K Y d t I J hf ht ok hfc hk hY o v rs st hd hp1 hp0
    have gI := o.grid g0
    have hctK := fb_ct_le K (w * h)
    refine s_X3_play_31 _ _ ?_
    rw [show (20000 : Int32) = zI (20000 : Nat) from rfl, z_le (by omega) (by omega) (by omega) (by omega), z_s]
    refine ⟨fun c => absurd c (by omega), fun _ => xcl gk v ok (fun r hr => ⟨_, rfl, ?_⟩)⟩
    rw [bi_0]
    refine ⟨fun cr => xcl gk v ok (fun r2 hr2 => ⟨_, rfl, nrw01 (bi01 _), ?_⟩), fun cr => ?_⟩
    · have hs : sol w h M H := hr.mp (by simpa using cr)
      rw [hr2.mpr hs]
      exact hp1 1 (Or.inl ⟨hs, rfl⟩) H I J ok o v
    · have ns : ¬ sol w h M H := fun z => by rw [hr.mpr z] at cr; cases cr
      refine find_ok isBd47 gk gI v ok (fun i q => (hk i q).1) rs st hg1 hgr (fun hn I1 J1 o1 st1 => ⟨_, rfl, fun z => absurd rfl z, fun _ => ?_⟩) (fun kd G u W hs I1 J1 o1 st1 xg => ⟨_, rfl, fun _ => ?_, fun z => absurd z (by decide)⟩)
      · exact hp0 1 H (Or.inr ⟨ns, Or.inl ⟨hn, rfl⟩⟩) ok I1 J1 (o.tr o1.pl) (o1.bst isBd47 v)
      · have hQ := stR_Q hs
        obtain ⟨hG, hx, k1, k3⟩ := stQ_G ok hk hQ
        have hW := stR_W gk hY hs
        have v1 := o1.bst isBd47 v
        have rs1 := o1.rs rs
        have g1 := (o.tr o1.pl).grid g0
        have h10 : I1 39 10 = I 39 10 := o1.2.1 10 (by decide) (by decide) (by decide) (by decide)
        rw [xg.2.1, bi_0]
        refine ⟨fun cu => ?_, fun cu => ?_⟩
        · rw [cu] at hQ hG
          refine firstNews_ok isBd47 gk g1 v1 rs1.1 xg (fun hn => ?_) (fun c hc hi hfi => ⟨_, rfl, fun _ => ?_, fun z => absurd ?_ z⟩)
          · obtain ⟨i, i1, i2⟩ := hx
            exact absurd ⟨i2, fun z => by cases z.2⟩ (hn i i1)
          · have hGc := hi.1
            have hHc := fre_H (hG c hGc).2.1
            have hMc := (hG c hGc).2.2
            have hfirst : ∀ c', c' < c → G c' = false := fun c' hc' => by
              cases e : G c'
              · rfl
              · exact absurd ⟨e, fun z => by cases z.2⟩ (hfi c' hc')
            refine uncover_ok isBd47 gk g1 hc hHc ok (fun _ => rfl) v1 (fun I2 J2 o2 v2 => ⟨rfl, ?_⟩)
            have eB : uncB M c zB = zB := by unfold uncB; rw [hMc]; rfl
            have eF : (fun i => (fun _ => false : Nat → Bool) i && uncH w h sh M c H i) = (fun _ => false) := rfl
            rw [eB, eF] at v2
            have ok' := uncH_ok (sh := sh) hc hHc hMc ok
            have hfc' := uncH_FC hfc hc hHc hMc ok
            have hk' := kOk_unc hfc hc hHc hMc ok hk
            have hct := uncH_ct hfc hc hHc hMc ok
            have rs2 : rsX 47 w h sh M H zB K Y I2 J2 := by
              obtain ⟨r1, r2, r3, r4⟩ := rs1
              refine ⟨by rw [o2.1 39 (by decide)]; exact r1, fun i hi => by rw [sB_of (o2.2 44 (by decide) (by decide) (by decide) (by decide))]; exact r2 i hi, fun i hi => by rw [sB_of (o2.2 45 (by decide) (by decide) (by decide) (by decide))]; exact r3 i hi, by rw [o2.2 42 (by decide) (by decide) (by decide) (by decide), o2.2 43 (by decide) (by decide) (by decide) (by decide)]; exact r4⟩
            refine goOn_ok gk v2 (fun x q => uncH_le hfc hc hHc hMc ok q) rs2 d (by rw [o2.1 39 (by decide), h10]; exact hd) (fun I3 J3 a3 b3 c3 d3 rs3 => ⟨rfl, ?_⟩)
            have o3 : oPl I0 I3 J0 J3 := (o.tr o1.pl).tr ((onlyB.pl o2).tr ⟨fun q a _ => a3 q (by omega), fun q a _ _ _ _ => b3 q (by omega) (by omega)⟩)
            have v3 : bst 47 (w * h) M (uncH w h sh M c H) zB (fun _ => false) J3 := fun i hi => by
              have := v2 i hi
              rw [sB_of (b3 (47 + 7) (by decide) (by decide)), sB_of (b3 (47 + 8) (by decide) (by decide)), sB_of (b3 (47 + 9) (by decide) (by decide)), sB_of (b3 (47 + 10) (by decide) (by decide)), sB_of (b3 (47 + 11) (by decide) (by decide))]
              exact this
            have hk2 : kOk M (uncH w h sh M c H) (if d then (fun _ => false) else K) := by
              cases d
              · exact hk'
              · exact kOk_0
            have hY2 : ∀ x k, (if d then (fun _ => false) else K : Nat → Bool) x = true → Y x k = true → k ≤ 100 := by
              cases d
              · exact hY
              · intro x k q; cases q
            have hmul : fb_ct (uncH w h sh M c H) (w * h) * (w * h + 1) + (w * h + 1) ≤ fb_ct H (w * h) * (w * h + 1) := by
              have := Nat.mul_le_mul_right (w * h + 1) (show fb_ct (uncH w h sh M c H) (w * h) + 1 ≤ fb_ct H (w * h) from hct)
              rw [Nat.add_mul, Nat.one_mul] at this
              exact this
            refine ih (uncH w h sh M c H) (if d then (fun _ => false) else K) Y false (t + 1) I3 J3 (by omega) (by omega) ok' hfc' hk2 hY2 o3 v3 rs3 (Or.inl d3) ⟨fun _ => rfl, fun _ => c3⟩ (fun f' q => hp1 (f' + 1) (Or.inr ⟨ns, Or.inr ⟨kd, G, false, hQ, Or.inr ⟨rfl, c, hc, hGc, hfirst, q⟩⟩⟩)) (fun f' Hf q => hp0 (f' + 1) Hf (Or.inr ⟨ns, Or.inr ⟨kd, G, false, hQ, Or.inr ⟨rfl, c, hc, hGc, hfirst, q⟩⟩⟩))
          · rw [show (0 : Int32) = zI 0 from rfl, z_le (by omega) (by omega) (by omega) (by omega)]; omega
        · have hu : u = true := by simpa using cu
          rw [hu] at hQ hG
          refine accept_ok isBd47 gk g1 rs1 k3 xg (fun i hi => ⟨(hG i hi).1, by rw [(hG i hi).2.2, hu]⟩) (fun I2 J2 a1 a2 a3 a4 rs2 => ⟨rfl, ?_⟩)
          have o2 : oPl I0 I2 J0 J2 := (o.tr o1.pl).tr ⟨fun q a _ => a1 q (by omega), fun q a _ _ _ _ => a4 q (by omega) (by omega) (by omega) (by omega)⟩
          have v2 : bst 47 (w * h) M H zB (fun _ => false) J2 := fun i hi => by
            have := v1 i hi
            rw [sB_of (a4 (47 + 7) (by decide) (by decide) (by decide) (by decide)), sB_of (a4 (47 + 8) (by decide) (by decide) (by decide) (by decide)), sB_of (a4 (47 + 9) (by decide) (by decide) (by decide) (by decide)), sB_of (a4 (47 + 10) (by decide) (by decide) (by decide) (by decide)), sB_of (a4 (47 + 11) (by decide) (by decide) (by decide) (by decide))]
            exact this
          have st2 : xst w h sh M H (opS (w * h) H zB) I2 J2 := by
            unfold xst xfo at *
            rw [a2 11 (by decide), a2 12 (by decide)]
            rcases st1 with s | ⟨s1, s2, s3⟩
            · exact Or.inl s
            · refine Or.inr ⟨s1, s2, fun q => ?_⟩
              obtain ⟨x, y⟩ := s3 q
              exact ⟨fun i hi => by rw [sB_of (a4 18 (by decide) (by decide) (by decide) (by decide))]; exact x i hi, fun i hi => by rw [sB_of (a4 19 (by decide) (by decide) (by decide) (by decide))]; exact y i hi⟩
          have hlt := kAdd_ct (K := K) (n := w * h) (fun i z => fre_K (hG i z).2.1) hx
          have hctK2 := fb_ct_le (kAdd K G) (w * h)
          refine ih H (kAdd K G) (yAdd Y G W) (d || decide (kd = 3)) (t + 1) I2 J2 (by omega) (by omega) ok hfc (kOk_add hk hG) (yAdd_ok hY hW) o2 v2 rs2 st2 ?_ (fun f' q => hp1 (f' + 1) (Or.inr ⟨ns, Or.inr ⟨kd, G, true, hQ, Or.inl ⟨rfl, q⟩⟩⟩)) (fun f' Hf q => hp0 (f' + 1) Hf (Or.inr ⟨ns, Or.inr ⟨kd, G, true, hQ, Or.inl ⟨rfl, q⟩⟩⟩))
          rw [a3, h10, hd, Bool.or_eq_false_iff, decide_eq_false_iff_not]
/-- the board with its first cell open -/
def fstH (w h sh : Nat) (M : Nat → Bool) (c : Nat) : Nat → Bool := uncH w h sh M c (fun i => decide (i < w * h))
theorem all_ok (hM : ∀ i, M i = true → i < w * h) : okH w h M (fun i => decide (i < w * h)) := ⟨fun i hi => ⟨decide_eq_false (by omega), rfl, by cases e : M i; rfl; exact absurd (hM i e) (by omega)⟩, fun i q => (by cases q), fun i _ => rfl, fun i q => (by cases q), fun i hi q => by have q : decide (i < w * h) = false := q; exact absurd hi (of_decide_eq_false q)⟩
theorem all_FC : FC w h sh M (fun i => decide (i < w * h)) := fun o x ho q => by have q : decide (o < w * h) = false := q; exact absurd ho (of_decide_eq_false q)
theorem play_ok (gk : gOk w h sh) (g : gridX 47 w h sh I J) {H O B F : Nat → Bool} (vw0 : vw 47 M H O B F J) (hA : ∀ i, i < 128 → sB J 53 i = decide (i < w * h)) (hM : ∀ i, M i = true → i < w * h) {c : Nat} (hc : c < w * h) (hMc : M c = false) (h4 : I 46 4 = zI c) {gr : Nat} (hg1 : 1 ≤ gr) (hgr : gr ≤ 3)
    (hp1 : mRr w h sh M gr (fstH w h sh M c) none → ∀ H' I' J', okH w h M H' → oPl I I' J J' → bst 47 (w * h) M H' zB (fun _ => false) J' → P (some (.int 1)) I' J')
    (hp0 : ∀ Hf, mRr w h sh M gr (fstH w h sh M c) (some Hf) → okH w h M Hf → ∀ I' J', oPl I I' J J' → bst 47 (w * h) M Hf zB (fun _ => false) J' → P (some (.int 0)) I' J') : call pgX zX3_play [.ref 46, .int (zI gr)] I J P := by
  obtain ⟨hn1, hn2⟩ := mul_le100 gk
  refine e_X3_play _ (hideAll_ok isBd47 vw0 hA (fun J1 o1 v1 => ⟨rfl, ?_⟩))
  have op1 : oPl I I J J1 := onlyB.pl o1
  have v1' : bst 47 (w * h) M (fun i => decide (i < w * h)) zB (fun _ => false) J1 := fun i hi => by
    have := v1 i hi
    refine ⟨this.1, this.2.1, ?_, this.2.2.2.1, this.2.2.2.2⟩
    rw [this.2.2.1]
    show false = (decide (i < w * h) && !decide (i < w * h) && !false)
    cases decide (i < w * h) <;> rfl
  have ok0 := all_ok hM
  have hcA : (fun i => decide (i < w * h)) c = true := decide_eq_true hc
  rw [h4]
  refine uncover_ok isBd47 gk (op1.grid g) hc hcA ok0 (fun _ => rfl) v1' (fun I2 J2 o2 v2 => ⟨rfl, ?_⟩)
  have eB : uncB M c zB = zB := by unfold uncB; rw [hMc]; rfl
  have eF : (fun i => (fun _ => false : Nat → Bool) i && uncH w h sh M c (fun i => decide (i < w * h)) i) = (fun _ => false) := rfl
  rw [eB, eF] at v2
  have op2 : oPl I I2 J J2 := op1.tr (onlyB.pl o2)
  have ok1 := uncH_ok (sh := sh) hc hcA hMc ok0
  have fc1 := uncH_FC (all_FC (w := w) (h := h) (sh := sh) (M := M)) hc hcA hMc ok0
  refine begin_ok (w := w) (h := h) (sh := sh) isBd47 v2 (fun _ _ => false) (fun I3 J3 a1 a2 a3 a4 rs => ⟨rfl, ?_⟩)
  have op3 : oPl I I3 J J3 := op2.tr ⟨fun q a _ => a1 q (by omega), fun q a _ _ _ _ => a4 q (by omega) (by omega)⟩
  have v3 : bst 47 (w * h) M (uncH w h sh M c (fun i => decide (i < w * h))) zB (fun _ => false) J3 := fun i hi => by
    have := v2 i hi
    rw [sB_of (a4 (47 + 7) (by decide) (by decide)), sB_of (a4 (47 + 8) (by decide) (by decide)), sB_of (a4 (47 + 9) (by decide) (by decide)), sB_of (a4 (47 + 10) (by decide) (by decide)), sB_of (a4 (47 + 11) (by decide) (by decide))]
    exact this
  have hct := fb_ct_le (uncH w h sh M c (fun i => decide (i < w * h))) (w * h)
  have hmul : fb_ct (uncH w h sh M c (fun i => decide (i < w * h))) (w * h) * (w * h + 1) ≤ 100 * 101 := Nat.mul_le_mul (by omega) (by omega)
  refine pl31 (I0 := I) (J0 := J) gk g hg1 hgr 15000 _ (fun _ => false) (fun _ _ => false) false 0 I3 J3 (by omega) (by omega) ok1 fc1 kOk_0 (fun x k q => by cases q) op3 v3 rs (Or.inl a3) ⟨fun _ => rfl, fun _ => a2⟩ (fun f' q H' I' J' okH' o' v' => hp1 (cR_mR f' _ _ _ _ ok1 fc1 kOk_0 (fun _ => Drv_0) (fun z => by cases z) q) H' I' J' okH' o' v') (fun f' Hf q okf I' J' o' v' => hp0 Hf (cR_mR f' _ _ _ _ ok1 fc1 kOk_0 (fun _ => Drv_0) (fun z => by cases z) q) okf I' J' o' v')
end XPl
