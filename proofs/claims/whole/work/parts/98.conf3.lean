/-! plays: both runs end alike -/
section CH
variable {w h sh g : Nat} {M : Nat → Bool}
def sol (w h : Nat) (M H : Nat → Bool) : Prop := ∀ i, i < w * h → H i = true → M i = true
/-- the reference's run: solved, or stuck at a board -/
def mR (w h sh : Nat) (M : Nat → Bool) (g : Nat) : Nat → (Nat → Bool) → Option (Nat → Bool) → Prop
  | 0, _, _ => False
  | f + 1, H, r => (sol w h M H ∧ r = none) ∨ (¬ sol w h M H ∧ ((ocr w h sh M g H (fun _ => false) none ∧ r = some H) ∨ ∃ c, ocr w h sh M g H (fun _ => false) (some c) ∧ mR w h sh M g f (uncH w h sh M c H) r))
def mRr (w h sh : Nat) (M : Nat → Bool) (g : Nat) (H : Nat → Bool) (r : Option (Nat → Bool)) : Prop := ∃ f, mR w h sh M g f H r
theorem mR_det : ∀ (f f' : Nat) (H : Nat → Bool) (r r' : Option (Nat → Bool)), mR w h sh M g f H r → mR w h sh M g f' H r' → r = r'
  | 0, _, _, _, _, h1, _ => h1.elim
  | _ + 1, 0, _, _, _, _, h2 => h2.elim
  | f + 1, f' + 1, H, r, r', h1, h2 => by
    rcases h1 with ⟨s1, rfl⟩ | ⟨s1, t1⟩
    · rcases h2 with ⟨s2, rfl⟩ | ⟨s2, t2⟩
      · rfl
      · exact absurd s1 s2
    · rcases h2 with ⟨s2, rfl⟩ | ⟨s2, t2⟩
      · exact absurd s2 s1
      · rcases t1 with ⟨o1, rfl⟩ | ⟨c, o1, t1⟩
        · rcases t2 with ⟨o2, rfl⟩ | ⟨c', o2, t2⟩
          · rfl
          · have := ocr_det o1 o2; cases this
        · rcases t2 with ⟨o2, rfl⟩ | ⟨c', o2, t2⟩
          · have := ocr_det o1 o2; cases this
          · have := ocr_det o1 o2
            cases this
            exact mR_det f f' _ r r' t1 t2
theorem mRr_det {H : Nat → Bool} {r r' : Option (Nat → Bool)} (h1 : mRr w h sh M g H r) (h2 : mRr w h sh M g H r') : r = r' := by
  obtain ⟨f, h1⟩ := h1
  obtain ⟨f', h2⟩ := h2
  exact mR_det f f' H r r' h1 h2
theorem mRr_open {H : Nat → Bool} {c : Nat} (hs : ¬ sol w h M H) (ho : ocr w h sh M g H (fun _ => false) (some c)) (r : Option (Nat → Bool)) : mRr w h sh M g H r ↔ mRr w h sh M g (uncH w h sh M c H) r := by
  constructor
  · rintro ⟨f, q⟩
    cases f with
    | zero => exact q.elim
    | succ f =>
      rcases q with ⟨s, -⟩ | ⟨-, t⟩
      · exact absurd s hs
      · rcases t with ⟨o1, -⟩ | ⟨c', o1, t⟩
        · have := ocr_det o1 ho; cases this
        · have := ocr_det o1 ho
          cases this
          exact ⟨f, t⟩
  · rintro ⟨f, q⟩
    exact ⟨f + 1, Or.inr ⟨hs, Or.inr ⟨c, ho, q⟩⟩⟩
theorem oc_some {H : Nat → Bool} (ok : okH w h M H) : ∀ (f : Nat) (K : Nat → Bool) (c : Nat), kOk M H K → oc w h sh M g H f K (some c) → c < w * h ∧ H c = true ∧ M c = false := by
  intro f
  induction f with
  | zero => intro K c _ q; exact q.elim
  | succ f ih =>
    intro K c hk q
    rcases q with ⟨-, e⟩ | ⟨kd, G, v, s, t⟩
    · cases e
    · obtain ⟨hG, -⟩ := stQ_G ok hk s
      rcases t with ⟨e, c', h1, h2, h3, e2⟩ | ⟨e, t⟩
      · cases e2
        exact ⟨h1, fre_H (hG c h2).2.1, by rw [(hG c h2).2.2]; exact e⟩
      · rw [e] at hG
        exact ih _ c (kOk_add hk hG) t
theorem uncH_ct {H : Nat → Bool} (hf : FC w h sh M H) {c : Nat} (hc : c < w * h) (hH : H c = true) (hM : M c = false) (ok : okH w h M H) : fb_ct (uncH w h sh M c H) (w * h) < fb_ct H (w * h) := ct_strict (fun k _ q => uncH_le hf hc hH hM ok q) ⟨c, hc, hH, by
  cases e : uncH w h sh M c H c
  · rfl
  · exact absurd con_refl ((uncH_iff hf hc hH hM ok c).mp e).2⟩
/-- two openings, whichever comes first -/
def af2 (w h sh : Nat) (M : Nat → Bool) (H : Nat → Bool) (c : Nat) : Nat → Bool := if H c = true then uncH w h sh M c H else H
theorem af2_iff {H : Nat → Bool} (hf : FC w h sh M H) (ok : okH w h M H) {c c1 : Nat} (hc : c < w * h) (hH : H c = true) (hM : M c = false) (hc1 : c1 < w * h) (hH1 : H c1 = true) (hM1 : M c1 = false) (x : Nat) : af2 w h sh M (uncH w h sh M c1 H) c x = true ↔ H x = true ∧ ¬ rz w h sh M c x ∧ ¬ rz w h sh M c1 x := by
  have i1 := uncH_iff hf hc1 hH1 hM1 ok
  unfold af2
  by_cases e : uncH w h sh M c1 H c = true
  · rw [if_pos e, uncH_iff (uncH_FC hf hc1 hH1 hM1 ok) hc e hM (uncH_ok hc1 hH1 hM1 ok) x, i1 x]
    exact ⟨fun q => ⟨q.1.1, q.2, q.1.2⟩, fun q => ⟨⟨q.1, q.2.2⟩, q.2.1⟩⟩
  · rw [if_neg e, i1 x]
    have hz : rz w h sh M c1 c := Classical.byContradiction fun z => e ((i1 c).mpr ⟨hH, z⟩)
    exact ⟨fun q => ⟨q.1, fun z => q.2 (rz_tr hc1 hc hz z), q.2⟩, fun q => ⟨q.1, q.2.2⟩⟩
theorem af2_comm {H : Nat → Bool} (hf : FC w h sh M H) (ok : okH w h M H) {c c1 : Nat} (hc : c < w * h) (hH : H c = true) (hM : M c = false) (hc1 : c1 < w * h) (hH1 : H c1 = true) (hM1 : M c1 = false) : af2 w h sh M (uncH w h sh M c1 H) c = af2 w h sh M (uncH w h sh M c H) c1 := funext fun x => by
  rw [Bool.eq_iff_iff, af2_iff hf ok hc hH hM hc1 hH1 hM1 x, af2_iff hf ok hc1 hH1 hM1 hc hH hM x]
  exact ⟨fun q => ⟨q.1, q.2.2, q.2.1⟩, fun q => ⟨q.1, q.2.2, q.2.1⟩⟩
/-- opening a safe cell that rules 1 and 2 give changes no end -/
theorem mRr_der : ∀ (N : Nat) (H : Nat → Bool), fb_ct H (w * h) ≤ N → okH w h M H → FC w h sh M H → ∀ (K : Nat → Bool) (c : Nat), kOk M H K → Drv w h sh M g H K → der w h sh M g H K c → M c = false → ∀ r, mRr w h sh M g H r ↔ mRr w h sh M g (uncH w h sh M c H) r := by
  intro N
  induction N with
  | zero =>
    intro H hN ok hf K c hk hd hder hM
    have hcn := fre_lt ok hder.1
    have : 0 < fb_ct H (w * h) := fb_ct_pos.mpr ⟨c, hcn, fre_H hder.1⟩
    omega
  | succ N ih =>
    intro H hN ok hf K c hk hd hder hM r
    have hcn := fre_lt ok hder.1
    have hHc := fre_H hder.1
    have ns : ¬ sol w h M H := fun q => by rw [q c hcn hHc] at hM; cases hM
    obtain ⟨r0, f0, q0⟩ := ocr_tot (sh := sh) (g := g) (K := fun _ => false) ok kOk_0
    obtain ⟨c1, K2, e, hc1, hk2, hd2, hder1, hM1⟩ := oc_safe ok hk hd hder hM f0 _ r0 kOk_0 Drv_0 q0
    rw [e] at q0
    have hH1 := fre_H hder1.1
    rw [mRr_open ns ⟨f0, q0⟩ r]
    have side : ∀ (x y : Nat) (Kx : Nat → Bool), x < w * h → H x = true → M x = false → kOk M H Kx → Drv w h sh M g H Kx → der w h sh M g H Kx x → y < w * h → H y = true → M y = false → (mRr w h sh M g (uncH w h sh M y H) r ↔ mRr w h sh M g (af2 w h sh M (uncH w h sh M y H) x) r) := fun x y Kx hx hHx hMx hkx hdx hderx hy hHy hMy => by
      unfold af2
      by_cases ex : uncH w h sh M y H x = true
      · rw [if_pos ex]
        have oky := uncH_ok (sh := sh) hy hHy hMy ok
        have hky := kOk_unc hf hy hHy hMy ok hkx
        refine ih _ (by have := uncH_ct hf hy hHy hMy ok; omega) oky (uncH_FC hf hy hHy hMy ok) Kx x hky (Drv_unc hdx (fun z q => uncH_le hf hy hHy hMy ok q)) (der_mono ok hkx oky hky (fun z q => uncH_le hf hy hHy hMy ok q) (fun _ q => q) hderx ?_) hMx r
        unfold fre
        rw [ex, fre_K hderx.1]; rfl
      · rw [if_neg ex]
    rw [side c c1 K hcn hHc hM hk hd hder hc1 hH1 hM1, side c1 c K2 hc1 hH1 hM1 hk2 hd2 hder1 hcn hHc hM, af2_comm hf ok hcn hHc hM hc1 hH1 hM1]
/-- the class's run -/
def cR (w h sh : Nat) (M : Nat → Bool) (g : Nat) : Nat → (Nat → Bool) → (Nat → Bool) → Bool → Option (Nat → Bool) → Prop
  | 0, _, _, _, _ => False
  | f + 1, H, K, d, r => (sol w h M H ∧ r = none) ∨ (¬ sol w h M H ∧ ((stN w h sh M H zB K g ∧ r = some H) ∨ ∃ kd G v, stQ w h sh M g H K kd G v ∧ ((v = true ∧ cR w h sh M g f H (kAdd K G) (d || decide (kd = 3)) r) ∨ (v = false ∧ ∃ c, c < w * h ∧ G c = true ∧ (∀ c', c' < c → G c' = false) ∧ cR w h sh M g f (uncH w h sh M c H) (if d then (fun _ => false) else K) false r))))
theorem cR_mR : ∀ (f : Nat) (H K : Nat → Bool) (d : Bool) (r : Option (Nat → Bool)), okH w h M H → FC w h sh M H → kOk M H K → (d = false → Drv w h sh M g H K) → (d = true → ∀ r, ocr w h sh M g H (fun _ => false) r ↔ ocr w h sh M g H K r) → cR w h sh M g f H K d r → mRr w h sh M g H r := by
  intro f
  induction f with
  | zero => intro H K d r _ _ _ _ _ q; exact q.elim
  | succ f ih =>
    intro H K d r ok hf hk hd0 hd1 q
    rcases q with ⟨s, rfl⟩ | ⟨ns, t⟩
    · exact ⟨1, Or.inl ⟨s, rfl⟩⟩
    · rcases t with ⟨hn, rfl⟩ | ⟨kd, G, v, s, t⟩
      · have hK : ocr w h sh M g H K none := ⟨1, Or.inl ⟨hn, rfl⟩⟩
        have h0 : ocr w h sh M g H (fun _ => false) none := by
          cases d
          · exact (ocr_cl (stN_cl ok hk hn) (hd0 rfl) none).mpr hK
          · exact (hd1 rfl none).mpr hK
        exact ⟨1, Or.inr ⟨ns, Or.inl ⟨h0, rfl⟩⟩⟩
      · obtain ⟨hG, hx, -⟩ := stQ_G ok hk s
        rcases t with ⟨e, t⟩ | ⟨e, c, c1, c2, c3, t⟩
        · rw [e] at s hG
          refine ih H (kAdd K G) _ r ok hf (kOk_add hk hG) (fun z => ?_) (fun z r0 => ?_) t
          · simp only [Bool.or_eq_false_iff] at z
            have hkd := of_decide_eq_false z.2
            exact Drv_add ok hk (hd0 z.1) (fun c z => ⟨stQ_der s hkd c z, (hG c z).2.2⟩)
          · rw [← ocr_step s]
            cases d
            · have hkd : kd = 3 := by simpa using z
              rw [hkd] at s
              exact ocr_cl (stQ_cl ok hk s) (hd0 rfl) r0
            · exact hd1 rfl r0
        · rw [e] at s hG
          have hfc := (hG c c2)
          have hHc := fre_H hfc.2.1
          have hMc := hfc.2.2
          have ok' := uncH_ok (sh := sh) c1 hHc hMc ok
          have hf' := uncH_FC hf c1 hHc hMc ok
          have hoK : ocr w h sh M g H K (some c) := ⟨1, Or.inr ⟨kd, G, false, s, Or.inl ⟨rfl, c, c1, c2, c3, rfl⟩⟩⟩
          cases d
          · have next := ih _ K false r ok' hf' (kOk_unc hf c1 hHc hMc ok hk) (fun _ => Drv_unc (hd0 rfl) (fun z q => uncH_le hf c1 hHc hMc ok q)) (fun z => by cases z) t
            by_cases hkd : kd = 3
            · rw [hkd] at s
              exact (mRr_open ns ((ocr_cl (stQ_cl ok hk s) (hd0 rfl) (some c)).mpr hoK) r).mpr next
            · exact (mRr_der (fb_ct H (w * h)) H (Nat.le_refl _) ok hf K c hk (hd0 rfl) (stQ_der s hkd c c2) hMc r).mpr next
          · have next := ih _ (fun _ => false) false r ok' hf' kOk_0 (fun _ => Drv_0) (fun z => by cases z) t
            exact (mRr_open ns ((hd1 rfl (some c)).mpr hoK) r).mpr next
end CH
