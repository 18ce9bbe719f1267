/-! the reference: drawing, playing, mending -/
section MMk
variable {I : tg_I} {J : tg_J} {P : Option Value → tg_I → tg_J → Prop} {w h sh : Nat} {M : Nat → Bool}
def mgd (w h sh : Nat) (I : tg_I) : Prop := mSz w h sh I ∧ ∀ a b, a < 100 → b < 100 → I 1 (100 * a + b) = bi (decide (a < w * h) && nb w h sh a b)
theorem mgd_K {I' : tg_I} (hg : mgd w h sh I) (o1 : I' 1 = I 1) (o0 : ∀ x, x ≤ 3 → I' 0 x = I 0 x) : mgd w h sh I' := by
  unfold mgd mSz at *
  rw [o1, o0 0 (by decide), o0 1 (by decide), o0 2 (by decide), o0 3 (by decide)]
  exact hg
theorem canBeMined_ok (gk : gOk w h sh) (hg : mgd w h sh I) {a c : Nat} (ha : a < w * h) (hc : c < w * h) (hp : P (some (.int (bi (cbm w h sh c a)))) I J) : call pgM zX9_canBeMined [.ref 0, .int (zI a), .int (zI c)] I J P := by
  obtain ⟨hn1, hn2⟩ := mul_le100 gk
  unfold cbm at hp
  rw [decide_eq_true ha, Bool.true_and] at hp
  refine e_X9_canBeMined _ _ ?_
  rw [z_eq (by omega) (by omega) (by omega) (by omega)]
  refine ⟨fun q => ?_, fun q => e_X9_isNear _ _ ?_⟩
  · rw [decide_eq_true (show a = c by omega)] at hp; exact hp
  · rw [decide_eq_false (show ¬ a = c by omega)] at hp
    rw [show (100 : Int32) = zI 100 from rfl, z_mul, z_add, show (100 : Int) * c + a = ((100 * c + a : Nat) : Int) by omega, z_in (by omega) (by omega), z_cl (by omega), hg.2 c a (by omega) (by omega), decide_eq_true hc, Bool.true_and]
    refine ⟨by omega, nrw01 (bi01 _), ⟨_, rfl, ?_⟩⟩
    rw [bi_0]
    refine ⟨fun z => ?_, fun z => ?_⟩
    · rw [show nb w h sh c a = true by simpa using z] at hp; exact hp
    · rw [z] at hp; exact hp
theorem mdraw_ok {I0 : tg_I} (gk : gOk w h sh) (hg0 : mgd w h sh I0) {c : Nat} (hc : c < w * h) : ∀ (m : Nat) (x : Int32) (M : Nat → Bool) (v1 : Nat) (I : tg_I), m ≤ fb_ct (rmm (cbm w h sh c) M) (w * h) → m ≤ v1 → v1 ≤ 100 → onlyI 2 I0 I → (∀ i, i < 100 → I 2 i = bi (M i)) → (∀ I', onlyI 2 I0 I' → (∀ i, i < 100 → I' 2 i = bi (drw (w * h) (cbm w h sh c) m x M i)) → P none I' J) → l_X9_drawMines_9 I J P (zI v1) (zI c) x (zI ((v1 - m : Nat) : Int)) := by
  obtain ⟨hn1, hn2⟩ := mul_le100 gk
  intro m
  induction m with
  | zero =>
    intro x M v1 I hm hv hv2 o s hp
    exact s_X9_drawMines_9 _ _ _ _ ⟨fun _ => hp I o s, fun q => absurd (by rw [Nat.sub_zero]; exact Int32.le_refl _) q⟩
  | succ m ih =>
    intro x M v1 I hm hv hv2 o s hp
    have hg : mgd w h sh I := mgd_K hg0 (o 1 (by decide)) (fun x _ => by rw [o 0 (by decide)])
    have hle := fb_ct_le (rmm (cbm w h sh c) M) (w * h)
    obtain ⟨j, hj, ej⟩ := lcg_nat x
    have hj2 : (lcg x).toNatClampNeg = j := by rw [ej]; exact z_cl (by omega)
    have hk : j / 65536 % fb_ct (rmm (cbm w h sh c) M) (w * h) < fb_ct (rmm (cbm w h sh c) M) (w * h) := Nat.mod_lt _ (by omega)
    obtain ⟨p1, p2, p3⟩ := pck_ok hk
    have hd : drw (w * h) (cbm w h sh c) (m + 1) x M = drw (w * h) (cbm w h sh c) m (lcg x) (upb M (pck (w * h) (rmm (cbm w h sh c) M) (j / 65536 % fb_ct (rmm (cbm w h sh c) M) (w * h))) true) := by
      show drw (w * h) (cbm w h sh c) m (lcg x) (upb M (pck (w * h) (rmm (cbm w h sh c) M) ((lcg x).toNatClampNeg / 65536 % fb_ct (rmm (cbm w h sh c) M) (w * h))) true) = _
      rw [hj2]
    refine s_X9_drawMines_9 _ _ _ _ ?_
    rw [z_le (by omega) (by omega) (by omega) (by omega)]
    refine ⟨fun q => absurd q (by omega), fun _ x1 e1 => ?_⟩
    have e1 : x1 = lcg x := e1
    rw [e1]
    generalize hRR : rmm (cbm w h sh c) M = Rm at *
    have key := up_loop (L := fun k => l_X9_drawMines_35 I J P (zI v1) (zI c) (lcg x) (zI ((v1 - (m + 1) : Nat) : Int)) (zI (fb_ct Rm k : Nat)) (zI k)) (w * h) ?_ ?_ 0 (Nat.zero_le _)
    · exact key
    · refine s_X9_drawMines_35 _ _ _ _ _ _ ⟨fun _ => ?_, fun q => absurd (by rw [hg.1.2.2.2]; exact Int32.le_refl _) q⟩
      rw [show (0 : Int32) = zI 0 from rfl, z_eq (by omega) (by omega) (by omega) (by omega), ej, show (65536 : Int32) = zI ((65536 : Nat) : Int) from rfl, z_div (by omega) (by decide) (by decide), z_rem (by omega) (by omega) (by omega)]
      refine ⟨by omega, fun x2 e2 => ?_⟩
      rw [e2, ← ej]
      generalize hkk : j / 65536 % fb_ct Rm (w * h) = kk at *
      have key2 := up_loop (L := fun k => ∀ v8 : Int32, (kk < fb_ct Rm k → v8 = zI (pck (w * h) Rm kk)) → l_X9_drawMines_96 I J P (zI v1) (zI c) (lcg x) (zI ((v1 - (m + 1) : Nat) : Int)) (zI ((kk : Int) - (fb_ct Rm k : Nat))) v8 (zI k)) (w * h) ?_ ?_ 0 (Nat.zero_le _) (-1) (fun q => absurd q (by rw [show fb_ct Rm 0 = 0 from rfl]; omega))
      · rw [show fb_ct Rm 0 = 0 from rfl, show (kk : Int) - ((0 : Nat) : Int) = (kk : Nat) by omega] at key2
        exact key2
      · intro v8 h8
        refine s_X9_drawMines_96 _ _ _ _ _ _ _ ⟨fun _ => ?_, fun q => absurd (by rw [hg.1.2.2.2]; exact Int32.le_refl _) q⟩
        rw [h8 hk, z_in (by omega) (by omega), z_cl (by omega), nar1, z_s, show v1 - (m + 1) + 1 = v1 - m by omega]
        refine ⟨by omega, fun I1 eI => ?_⟩
        have hR2 : rmm (cbm w h sh c) M (pck (w * h) Rm kk) = true := by rw [hRR]; exact p2
        have up := rmm_upd (C := cbm w h sh c) (M := M) p1 hR2
        rw [hRR] at up
        refine ih (lcg x) (upb M (pck (w * h) Rm kk) true) v1 I1 (by omega) (by omega) hv2 (fun q hq => by rw [eI, u2_other _ _ _ _ hq]; exact o q hq) (fun i hi => ?_) (fun I2 o2 s2 => hp I2 o2 (fun i hi => by rw [s2 i hi, hd]))
        rw [eI, u2_at]
        unfold upb
        by_cases e : i = pck (w * h) Rm kk
        · rw [if_pos e, if_pos e]; rfl
        · rw [if_neg e, if_neg e]; exact s i hi
      · intro k hkn ih2 v8 h8
        have hR : Rm k = (cbm w h sh c k && !M k) := by rw [← hRR]; rfl
        have hck := fb_ct_le Rm k
        rw [fb_ct_succ] at ih2
        have same : Rm k = false → l_X9_drawMines_96 I J P (zI v1) (zI c) (lcg x) (zI ((v1 - (m + 1) : Nat) : Int)) (zI ((kk : Int) - (fb_ct Rm k : Nat))) v8 (zI ((k + 1 : Nat) : Int)) := fun q => by
          rw [q, if_neg (by simp), Nat.add_zero] at ih2
          exact ih2 v8 h8
        refine s_X9_drawMines_96 _ _ _ _ _ _ _ ?_
        rw [hg.1.2.2.2, z_le (by omega) (by omega) (by omega) (by omega), z_s k]
        refine ⟨fun q => absurd q (by omega), fun _ => canBeMined_ok gk hg hkn hc ⟨_, rfl, ?_⟩⟩
        rw [bi_0, z_in (by omega) (by omega), z_cl (by omega), s k (by omega), bi_0]
        refine ⟨fun q => same (by rw [hR, q]; rfl), fun q => ⟨by omega, fun q2 => same (by rw [hR, show M k = true by simpa using q2]; simp), fun q2 => ?_⟩⟩
        have hRk : Rm k = true := by rw [hR, q2, show cbm w h sh c k = true by simpa using q]; rfl
        rw [hRk, if_pos rfl] at ih2
        rw [show (-1 : Int32) = zI (-1) from rfl, z_add, show (kk : Int) - (fb_ct Rm k : Nat) + -1 = (kk : Int) - ((fb_ct Rm k + 1 : Nat) : Int) by omega, show (0 : Int32) = zI 0 from rfl, z_eq (by omega) (by omega) (by omega) (by omega)]
        refine ⟨fun q3 => ih2 v8 (fun q4 => h8 (by omega)), fun q3 => ih2 (zI k) (fun _ => ?_)⟩
        rw [show k = pck (w * h) Rm kk from fb_ct_kth_one hRk p2 (by omega)]
    · intro k hkn ih2
      have hR : Rm k = (cbm w h sh c k && !M k) := by rw [← hRR]; rfl
      have hck := fb_ct_le Rm k
      rw [fb_ct_succ] at ih2
      have zz : zI (fb_ct Rm k : Nat) + (0 : Int32) = zI (fb_ct Rm k : Nat) := by rw [show (0 : Int32) = zI 0 from rfl, z_add, Int.add_zero]
      have same : Rm k = false → l_X9_drawMines_35 I J P (zI v1) (zI c) (lcg x) (zI ((v1 - (m + 1) : Nat) : Int)) (zI (fb_ct Rm k : Nat)) (zI ((k + 1 : Nat) : Int)) := fun q => by
        rw [q, if_neg (by simp), Nat.add_zero] at ih2
        exact ih2
      refine s_X9_drawMines_35 _ _ _ _ _ _ ?_
      rw [hg.1.2.2.2, z_le (by omega) (by omega) (by omega) (by omega), z_s k, zz, z_s (fb_ct Rm k)]
      refine ⟨fun q => absurd q (by omega), fun _ => canBeMined_ok gk hg hkn hc ⟨_, rfl, ?_⟩⟩
      rw [bi_0, z_in (by omega) (by omega), z_cl (by omega), s k (by omega), bi_0]
      refine ⟨fun q => same (by rw [hR, q]; rfl), fun q => ⟨by omega, fun q2 => same (by rw [hR, show M k = true by simpa using q2]; simp), fun q2 => ?_⟩⟩
      have hRk : Rm k = true := by rw [hR, q2, show cbm w h sh c k = true by simpa using q]; rfl
      rw [hRk, if_pos rfl] at ih2
      exact ih2
theorem hR_oc {H B F : Nat → Bool} {g : Nat} (hB : B = zB) : ∀ (f : Nat) (K : Nat → Bool) (Y : Nat → Nat → Bool) (r : Option (Nat × Nat × Bool × (Nat → Bool))), okH w h M H → kOk M H K → hR w h sh M H B F g f K Y r → (r = none → oc w h sh M g H f K none) ∧ ∀ kd c v W, r = some (kd, c, v, W) → (v = false → oc w h sh M g H f K (some c)) ∧ (v = true → F c = false ∧ M c = true) := by
  intro f
  induction f with
  | zero => intro K Y r _ _ q; exact q.elim
  | succ f ih =>
    intro K Y r ok hk q
    rcases q with ⟨a, rfl⟩ | ⟨kd, G, v, W, s, t⟩
    · rw [hB] at a
      exact ⟨fun _ => Or.inl ⟨a, rfl⟩, fun _ _ _ _ e => by cases e⟩
    · rw [hB] at s
      have hQ := stR_Q s
      obtain ⟨hG, hx, -⟩ := stQ_G ok hk hQ
      rcases t with ⟨c, c1, c2, c3, rfl⟩ | ⟨n, t⟩
      · refine ⟨fun e => (by cases e), fun kd' c' v' W' e => ?_⟩
        cases e
        refine ⟨fun hv => Or.inr ⟨kd, G, false, by rw [hv] at hQ; exact hQ, Or.inl ⟨rfl, c, c1, c2.1, fun c' hc' => ?_, rfl⟩⟩, fun hv => ⟨?_, by rw [(hG c c2.1).2.2]; exact hv⟩⟩
        · cases e : G c'
          · rfl
          · exact absurd ⟨e, fun z => by rw [hv] at z; cases z.1⟩ (c3 c' hc')
        · cases e : F c
          · rfl
          · exact absurd ⟨hv, e⟩ c2.2
      · have hv : v = true := by
          obtain ⟨i, i1, i2⟩ := hx
          cases v
          · exact absurd ⟨i2, fun z => by cases z.1⟩ (n i i1)
          · rfl
        rw [hv] at hQ hG
        obtain ⟨i1, i2⟩ := ih (kAdd K G) (yAdd Y G W) r ok (kOk_add hk hG) t
        exact ⟨fun e => Or.inr ⟨kd, G, true, hQ, Or.inr ⟨rfl, i1 e⟩⟩, fun kd' c' v' W' e => ⟨fun z => Or.inr ⟨kd, G, true, hQ, Or.inr ⟨rfl, (i2 kd' c' v' W' e).1 z⟩⟩, (i2 kd' c' v' W' e).2⟩⟩
/-- what a play may change -/
def oPy (I I' : tg_I) : Prop := (∀ q, q ≠ 0 → q ≠ 3 → q ≠ 4 → q ≠ 11 → q ≠ 12 → q ≠ 13 → q ≠ 14 → q ≠ 15 → q ≠ 16 → q ≠ 17 → q ≠ 23 → I' q = I q) ∧ ∀ x, x ≠ 23 → x ≠ 24 → x ≠ 26 → x ≠ 27 → I' 0 x = I 0 x
theorem oPy.tr {I I1 I2 : tg_I} (h1 : oPy I I1) (h2 : oPy I1 I2) : oPy I I2 := ⟨fun q a b c d e f g i j k l => (h2.1 q a b c d e f g i j k l).trans (h1.1 q a b c d e f g i j k l), fun x a b c d => (h2.2 x a b c d).trans (h1.2 x a b c d)⟩
theorem oFm.py {I I1 : tg_I} (o : oFm I I1) : oPy I I1 := ⟨fun q a _ _ b c d e f g i _ => o.1 q a b c d e f g i, o.2⟩
theorem pl11 {I0 : tg_I} (gk : gOk w h sh) {gr : Nat} (hg1 : 1 ≤ gr) (hgr : gr ≤ 3) : ∀ (f : Nat) (H F : Nat → Bool) (I : tg_I) (J : tg_J), fb_ct H (w * h) * (w * h + 1) + (w * h - fb_ct F (w * h)) < f → okS (w * h) M H zB F → FC w h sh M H → (∀ i, F i = true → M i = true) → oPy I0 I → mst w h sh M H zB F I →
    (mRr w h sh M gr H none → ∀ H' F' I' J', oPy I0 I' → mst w h sh M H' zB F' I' → okS (w * h) M H' zB F' → P (some (.int 1)) I' J') →
    (∀ Hf, mRr w h sh M gr H (some Hf) → ∀ F' I' J', oPy I0 I' → mst w h sh M Hf zB F' I' → okS (w * h) M Hf zB F' → P (some (.int 0)) I' J') →
    l_X9_plays_11 I J P (zI gr) 1 := by
  obtain ⟨hn1, hn2⟩ := mul_le100 gk
  intro f
  induction f with
  | zero => intro H F I J hf; omega
  | succ f ih =>
    intro H F I J hf oS fc hFM o hm hp1 hp0
    have ok : okH w h M H := ⟨oS.1, fun i q => (by cases q), oS.2.2.1, oS.2.2.2.1, oS.2.2.2.2⟩
    refine s_X9_plays_11 _ _ ⟨fun z => absurd z (by decide), fun _ => misSolved_ok gk hm (fun r hr => ⟨_, rfl, ?_⟩)⟩
    rw [bi_0]
    refine ⟨fun cr => misSolved_ok gk hm (fun r2 hr2 => ⟨_, rfl, nrw01 (bi01 _), ?_⟩), fun cr => ?_⟩
    · have hs : sol w h M H := hr.mp (by simpa using cr)
      rw [hr2.mpr hs]
      exact hp1 ⟨1, Or.inl ⟨hs, rfl⟩⟩ H F I J o hm oS
    · have ns : ¬ sol w h M H := fun z => by rw [hr.mpr z] at cr; cases cr
      refine mfind_ok gk hm oS hg1 hgr (fun r1 I1 J1 hh hb o1 fd => ⟨rfl, ?_⟩)
      have o01 := o.tr o1.py
      have m1 := o1.mst hm
      obtain ⟨oc0, oc1⟩ := hR_oc (w := w) (h := h) (sh := sh) (M := M) rfl 101 _ _ r1 ok kOk_0 hh
      cases r1 with
      | none =>
        obtain ⟨f1, f2⟩ := fd
        rw [f1]
        refine ⟨fun _ => s_X9_plays_11 _ _ ⟨fun _ => misSolved_ok gk m1 (fun r2 hr2 => ⟨_, rfl, nrw01 (bi01 _), ?_⟩), fun z => absurd rfl z⟩, fun z => absurd (by decide) z⟩
        have : r2 = false := by
          cases r2
          · rfl
          · exact absurd (hr2.mp rfl) ns
        rw [this]
        exact hp0 H ⟨1, Or.inr ⟨ns, Or.inl ⟨⟨101, oc0 rfl⟩, rfl⟩⟩⟩ F I1 J1 o01 m1 oS
      | some y =>
        obtain ⟨kd, c, v, W⟩ := y
        obtain ⟨f1, f2, f3, f4⟩ := fd
        obtain ⟨hc, k1, k3, hMc, hHc, hW⟩ := hb kd c v W rfl
        obtain ⟨oca, ocb⟩ := oc1 kd c v W rfl
        rw [f1, z_in (by omega) (by omega), z_cl (by omega), f3, bi_0, nar1, show (0 : Int32) = zI 0 from rfl, z_lt (by omega) (by omega) (by omega) (by omega)]
        refine ⟨fun z => absurd z (by omega), fun _ => ⟨by omega, fun cv => ⟨by omega, fun I2 e2 => ?_⟩, fun cv => ?_⟩⟩
        · have hv : v = true := by simpa using cv
          obtain ⟨hFc, hMc2⟩ := ocb hv
          have hlt : fb_ct F (w * h) < fb_ct (upb F c true) (w * h) := ct_strict (fun k _ q => by unfold upb; by_cases e : k = c; rw [if_pos e]; rw [if_neg e]; exact q) ⟨c, hc, by unfold upb; rw [if_pos rfl], hFc⟩
          have hle := fb_ct_le (upb F c true) (w * h)
          have m2 : mst w h sh M H zB (upb F c true) I2 := by
            obtain ⟨a1, a2, a3⟩ := m1
            refine ⟨?_, ?_, fun i hi => ?_⟩
            · unfold mSz; rw [e2, u2_other _ _ _ _ (by decide)]; exact a1
            · rw [e2, u2_other _ _ _ _ (by decide)]; exact a2
            · rw [e2, u2_other _ _ _ _ (by decide), u2_other _ _ _ _ (by decide), u2_at]
              refine ⟨(a3 i hi).1, (a3 i hi).2.1, ?_⟩
              unfold upb
              by_cases e : i = c
              · rw [if_pos e, if_pos e]; rfl
              · rw [if_neg e, if_neg e]; exact (a3 i hi).2.2
          refine ih H (upb F c true) I2 J1 (by omega) ⟨oS.1, fun i q => ?_, oS.2.2⟩ fc (fun i q => ?_) (o01.tr ⟨fun q _ _ b _ _ _ _ _ _ _ _ => by rw [e2, u2_other _ _ _ _ b], fun x _ _ _ _ => by rw [e2, u2_other _ _ _ _ (by decide)]⟩) m2 hp1 hp0
          · unfold upb at q
            by_cases e : i = c
            · rw [e]; exact hHc
            · rw [if_neg e] at q; exact oS.2.1 i q
          · unfold upb at q
            by_cases e : i = c
            · rw [e]; exact hMc2
            · rw [if_neg e] at q; exact hFM i q
        · have hMf : M c = false := by rw [hMc]; exact cv
          refine muncover_ok gk m1 hc hHc oS (fun z => by rw [hMf] at z; cases z) (fun I2 o2 m2 => ⟨rfl, ?_⟩)
          have eB : uncB M c zB = zB := by unfold uncB; rw [hMf]; rfl
          rw [eB] at m2
          have oS2 := okS_unc (w := w) (h := h) (sh := sh) hc hHc oS
          rw [eB] at oS2
          have hct := uncH_ct fc hc hHc hMf ok
          have hmul : fb_ct (uncH w h sh M c H) (w * h) * (w * h + 1) + (w * h + 1) ≤ fb_ct H (w * h) * (w * h + 1) := by
            have := Nat.mul_le_mul_right (w * h + 1) (show fb_ct (uncH w h sh M c H) (w * h) + 1 ≤ fb_ct H (w * h) from hct)
            rw [Nat.add_mul, Nat.one_mul] at this
            exact this
          have hopen := mRr_open (w := w) (h := h) (sh := sh) (M := M) (g := gr) ns ⟨101, oca cv⟩
          exact ih (uncH w h sh M c H) (fun i => F i && uncH w h sh M c H i) I2 J1 (by omega) oS2 (uncH_FC fc hc hHc hMf ok) (fun i q => by simp only [Bool.and_eq_true] at q; exact hFM i q.1) (o01.tr ⟨fun q _ a b _ _ _ _ _ _ _ d => o2 q a b d, fun x _ _ _ _ => by rw [o2 0 (by decide) (by decide) (by decide)]⟩) m2 (fun q => hp1 ((hopen none).mpr q)) (fun Hf q => hp0 Hf ((hopen (some Hf)).mpr q))
theorem plays_ok (gk : gOk w h sh) (hg : mgd w h sh I) (s : ∀ i, i < 100 → I 2 i = bi (M i)) (hM : ∀ i, M i = true → i < w * h) {c : Nat} (hc : c < w * h) (hMc : M c = false) {gr : Nat} (hg1 : 1 ≤ gr) (hgr : gr ≤ 3)
    (hp1 : mRr w h sh M gr (fstH w h sh M c) none → ∀ H' F' I' J', oPy I I' → mst w h sh M H' zB F' I' → okS (w * h) M H' zB F' → P (some (.int 1)) I' J')
    (hp0 : ∀ Hf, mRr w h sh M gr (fstH w h sh M c) (some Hf) → ∀ F' I' J', oPy I I' → mst w h sh M Hf zB F' I' → okS (w * h) M Hf zB F' → P (some (.int 0)) I' J') : call pgM zX9_plays [.ref 0, .int (zI c), .int (zI gr)] I J P := by
  obtain ⟨hn1, hn2⟩ := mul_le100 gk
  have ok0 := all_ok hM
  have hcA : (fun i => decide (i < w * h)) c = true := decide_eq_true hc
  refine e_X9_plays _ _ (mhide_gen hg.1 hg.2 s (fun I1 o1 m1 => ⟨rfl, ?_⟩))
  refine muncover_ok gk m1 hc hcA ok0 (fun _ => rfl) (fun I2 o2 m2 => ⟨rfl, ?_⟩)
  have eB : uncB M c (fun _ => false) = zB := by unfold uncB; rw [hMc]; rfl
  have eF : (fun i => (fun _ => false : Nat → Bool) i && uncH w h sh M c (fun i => decide (i < w * h)) i) = (fun _ => false) := rfl
  rw [eB, eF] at m2
  have ok1 := uncH_ok (sh := sh) hc hcA hMc ok0
  have fc1 := uncH_FC (all_FC (w := w) (h := h) (sh := sh) (M := M)) hc hcA hMc ok0
  have op1 : oPy I I1 := ⟨fun q _ a b _ _ _ _ _ _ _ _ => o1 q a b, fun x _ _ _ _ => by rw [o1 0 (by decide) (by decide)]⟩
  have op2 : oPy I I2 := op1.tr ⟨fun q _ a b _ _ _ _ _ _ _ d => o2 q a b d, fun x _ _ _ _ => by rw [o2 0 (by decide) (by decide) (by decide)]⟩
  exact pl11 (I0 := I) gk hg1 hgr _ _ (fun _ => false) I2 J (Nat.lt_succ_self _) ok1 fc1 (fun i q => by cases q) op2 m2 hp1 hp0
end MMk
