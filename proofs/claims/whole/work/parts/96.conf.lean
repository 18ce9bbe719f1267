/-! plays: which cells rules 1 and 2 open does not depend on the order -/
def zB : Nat → Bool := fun _ => false
section CF
variable {w h sh g : Nat} {M : Nat → Bool}
def okH (w h : Nat) (M H : Nat → Bool) : Prop := okS (w * h) M H zB (fun _ => false)
/-- beside an open cell without mined neighbours all are open -/
def FC (w h sh : Nat) (M H : Nat → Bool) : Prop := ∀ o x, o < w * h → H o = false → zr w h sh M o = true → nb w h sh o x = true → H x = false
/-- what is opened with a cell -/
def rz (w h sh : Nat) (M : Nat → Bool) (c x : Nat) : Prop := con (w * h) (fun y x => zr w h sh M y && nb w h sh y x) (fun i => decide (i < w * h)) c x
theorem inn_lt : ∀ i, decide (i < w * h) = true → i < w * h := fun _ q => of_decide_eq_true q
theorem uncH_iff {H : Nat → Bool} (hf : FC w h sh M H) {c : Nat} (hc : c < w * h) (hH : H c = true) (hM : M c = false) (ok : okH w h M H) (x : Nat) : uncH w h sh M c H x = true ↔ H x = true ∧ ¬ rz w h sh M c x := by
  have hlt : ∀ i, H i = true → i < w * h := fun i q => by
    rcases Nat.lt_or_ge i (w * h) with z | z
    · exact z
    · rw [(ok.1 i z).1] at q; cases q
  have e : uncH w h sh M c H = flood (w * h) (nb w h sh) (zr w h sh M) c H := by unfold uncH; rw [hM]; rfl
  rw [e]
  constructor
  · intro q
    have hx : H x = true := by
      have := (fl_sub (n := w * h) (nbr := nb w h sh) (z := zr w h sh M) (w * h) 0 (fun x => H x && !decide (x = c)) [c] x).1 q
      simp only [Bool.and_eq_true] at this
      exact this.1
    refine ⟨hx, fun hz => ?_⟩
    have : x < w * h ∧ (H x = true → flood (w * h) (nb w h sh) (zr w h sh M) c H x = false) := rch_closed (C := fun y => y < w * h ∧ (H y = true → flood (w * h) (nb w h sh) (zr w h sh M) c H y = false)) (a := c) ⟨hc, fun _ => flood_self⟩ (fun u y hu cu hn hy => ⟨of_decide_eq_true hy, fun hHy => by
      simp only [Bool.and_eq_true] at hn
      cases eu : H u
      · have := hf u y hu eu hn.1 hn.2
        rw [hHy] at this; cases this
      · exact flood_done hc hH eu (cu.2 eu) hn.1 (of_decide_eq_true hy) hn.2⟩) (w * h) x hz
    rw [this.2 hx] at q; cases q
  · rintro ⟨hx, hz⟩
    cases ef : flood (w * h) (nb w h sh) (zr w h sh M) c H x
    · exfalso
      apply hz
      refine flood_clo (C := fun y => rz w h sh M c y) con_refl (fun a y ha hza hn hy hHy => ?_) hx ef
      have han : a < w * h := con_lt inn_lt hc ha
      exact con_step hc han hy ha (by simp [hza, hn]) (decide_eq_true hy)
    · rfl
theorem rz_tr {a b c : Nat} (ha : a < w * h) (hb : b < w * h) (h1 : rz w h sh M a b) (h2 : rz w h sh M b c) : rz w h sh M a c := con_tr inn_lt ha hb h1 h2
theorem uncH_FC {H : Nat → Bool} (hf : FC w h sh M H) {c : Nat} (hc : c < w * h) (hH : H c = true) (hM : M c = false) (ok : okH w h M H) : FC w h sh M (uncH w h sh M c H) := fun o x ho hu hz hn => by
  have hx : x < w * h := nb_lt hn
  cases e : uncH w h sh M c H x
  · rfl
  · obtain ⟨e1, e2⟩ := (uncH_iff hf hc hH hM ok x).mp e
    exfalso
    cases eo : H o
    · rw [hf o x ho eo hz hn] at e1; cases e1
    · by_cases q : rz w h sh M c o
      · exact e2 (con_step hc ho hx q (by simp [hz, hn]) (decide_eq_true hx))
      · rw [(uncH_iff hf hc hH hM ok o).mpr ⟨eo, q⟩] at hu; cases hu
theorem uncH_ok {H : Nat → Bool} {c : Nat} (hc : c < w * h) (hH : H c = true) (hM : M c = false) (ok : okH w h M H) : okH w h M (uncH w h sh M c H) := by
  have := okS_unc (w := w) (h := h) (sh := sh) hc hH ok
  have e : uncB M c zB = zB := by unfold uncB; rw [hM]; rfl
  rw [e] at this
  obtain ⟨a, b, d, f, g⟩ := this
  exact ⟨a, fun i q => (by cases q), d, f, g⟩
theorem uncH_le {H : Nat → Bool} {c : Nat} (hf : FC w h sh M H) (hc : c < w * h) (hH : H c = true) (hM : M c = false) (ok : okH w h M H) {x : Nat} (q : uncH w h sh M c H x = true) : H x = true := ((uncH_iff hf hc hH hM ok x).mp q).1
/-- known cells are hidden and mined -/
def kOk (M H K : Nat → Bool) : Prop := ∀ x, K x = true → H x = true ∧ M x = true
theorem kOk_unc {H K : Nat → Bool} {c : Nat} (hf : FC w h sh M H) (hc : c < w * h) (hH : H c = true) (hM : M c = false) (ok : okH w h M H) (hk : kOk M H K) : kOk M (uncH w h sh M c H) K := fun x q => by
  refine ⟨?_, (hk x q).2⟩
  cases e : uncH w h sh M c H x
  · have ok2 := uncH_ok (sh := sh) hc hH hM ok
    have hx : x < w * h := by
      rcases Nat.lt_or_ge x (w * h) with z | z
      · exact z
      · have := (hk x q).1
        rw [(ok.1 x z).1] at this; cases this
    have := ok2.2.2.2.2 x hx e rfl
    rw [(hk x q).2] at this; cases this
  · rfl
/-- some rule 1 or 2 gives the cell a verdict -/
def der (w h sh : Nat) (M : Nat → Bool) (g : Nat) (H K : Nat → Bool) (c : Nat) : Prop := fre H K c = true ∧ ((∃ a, a < w * h ∧ r1ok w h sh M H zB K a ∧ nb w h sh a c = true) ∨ (2 ≤ g ∧ ∃ a b, a < w * h ∧ b < w * h ∧ r2ok w h sh M H zB K a b ∧ nb w h sh b c = true ∧ nb w h sh a c = false))
theorem r2_cnt {H K : Nat → Bool} {a b : Nat} (hwi : ∀ i, i < w * h → nb w h sh a i = true → fre H K i = true → nb w h sh b i = true) (S : Nat → Bool) : nin w h sh (fun i => fre H K i && S i) b = fb_ct (fun i => (nb w h sh b i && fre H K i && !nb w h sh a i) && S i) (w * h) + nin w h sh (fun i => fre H K i && S i) a := by
  unfold nin
  rw [← fb_ct_or (fun k _ q => by
    simp only [Bool.and_eq_true, Bool.not_eq_true'] at q
    have := q.1.1.2
    rw [q.2.1] at this; cases this)]
  refine fb_ct_cong (fun k hk => ?_)
  cases q1 : fre H K k
  · simp [q1]
  · cases q2 : nb w h sh a k
    · simp [q1]
    · simp [q1, hwi k hk q2 q1]
theorem nin_t {S : Nat → Bool} (a : Nat) : nin w h sh (fun i => S i && true) a = nin w h sh S a := nin_cong (fun i _ => Bool.and_true _)
theorem ct_t {S : Nat → Bool} (n : Nat) : fb_ct (fun i => S i && true) n = fb_ct S n := fb_ct_cong (fun i _ => Bool.and_true _)
theorem r1_uni {H K : Nat → Bool} (ok : okH w h M H) (hk : kOk M H K) {a : Nat} (hr : r1ok w h sh M H zB K a) : ∃ u, ∀ i, nb w h sh a i = true → fre H K i = true → M i = u := by
  have hd := dv_eq (w := w) (h := h) (sh := sh) ok (fun i q => (hk i q).1) a
  obtain ⟨h1, h2, h3⟩ := hr
  have e : fb_ct (fun i => (nb w h sh a i && fre H K i) && M i) (w * h) = nin w h sh (fun i => fre H K i && M i) a := fb_ct_cong (fun i _ => by cases nb w h sh a i <;> rfl)
  have key := all_or (M := M) (S := fun i => nb w h sh a i && fre H K i) (n := w * h) (by rw [e]; show _ ∨ _ = nin w h sh (fre H K) a; omega) h2
  exact ⟨_, fun i q1 q2 => key i (fre_lt ok q2) (by rw [q1, q2]; rfl)⟩
theorem r2_uni {H K : Nat → Bool} (ok : okH w h M H) (hk : kOk M H K) {a b : Nat} (hr : r2ok w h sh M H zB K a b) : ∃ u, ∀ i, nb w h sh b i = true → fre H K i = true → nb w h sh a i = false → M i = u := by
  have hda := dv_eq (w := w) (h := h) (sh := sh) ok (fun i q => (hk i q).1) a
  have hdb := dv_eq (w := w) (h := h) (sh := sh) ok (fun i q => (hk i q).1) b
  obtain ⟨h1, h2, h3, h4, h5, h6⟩ := hr
  have c1 := r2_cnt (w := w) (h := h) (sh := sh) h5 M
  have c2 := r2_cnt (w := w) (h := h) (sh := sh) h5 (fun _ => true)
  rw [nin_t, nin_t, ct_t] at c2
  have key := all_or (M := M) (S := fun i => nb w h sh b i && fre H K i && !nb w h sh a i) (n := w * h) (by omega) (by omega)
  exact ⟨_, fun i q1 q2 q3 => key i (fre_lt ok q2) (by rw [q1, q2, q3]; rfl)⟩
theorem uni_ct {S : Nat → Bool} {n : Nat} {u : Bool} (h : ∀ i, i < n → S i = true → M i = u) : fb_ct (fun i => S i && M i) n = 0 ∨ fb_ct (fun i => S i && M i) n = fb_ct S n := by
  cases u
  · left
    exact fb_ct_zero.mpr (fun k hk => by
      cases e : S k
      · rfl
      · rw [h k hk e]; rfl)
  · right
    exact fb_ct_cong (fun k hk => by
      cases e : S k
      · rfl
      · rw [h k hk e]; rfl)
theorem der_mono {H K H1 K1 : Nat → Bool} (ok : okH w h M H) (hk : kOk M H K) (ok1 : okH w h M H1) (hk1 : kOk M H1 K1) (hs : ∀ x, H1 x = true → H x = true) (hKs : ∀ x, K x = true → K1 x = true) {c : Nat} (hd : der w h sh M g H K c) (hc : fre H1 K1 c = true) : der w h sh M g H1 K1 c := by
  have fs : ∀ x, fre H1 K1 x = true → fre H K x = true := fun x q => by
    unfold fre at *
    simp only [Bool.and_eq_true, Bool.not_eq_true'] at *
    refine ⟨hs x q.1, ?_⟩
    cases e : K x
    · rfl
    · rw [hKs x e] at q; cases q.2
  have os : ∀ a, opS (w * h) H zB a = true → opS (w * h) H1 zB a = true := fun a q => by
    unfold opS at *
    simp only [Bool.and_eq_true, Bool.not_eq_true', decide_eq_true_eq] at *
    refine ⟨⟨q.1.1, ?_⟩, rfl⟩
    cases e : H1 a
    · rfl
    · rw [hs a e] at q; cases q.1.2
  have hcn := fre_lt ok1 hc
  have mk1 : ∀ a, a < w * h → opS (w * h) H1 zB a = true → nb w h sh a c = true → (∃ u, ∀ i, nb w h sh a i = true → fre H1 K1 i = true → M i = u) → der w h sh M g H1 K1 c := fun a ha ho hn hu => by
    obtain ⟨u, hu⟩ := hu
    refine ⟨hc, Or.inl ⟨a, ha, ⟨ho, fb_ct_pos.mpr ⟨c, hcn, by rw [hn, hc]; rfl⟩, ?_⟩, hn⟩⟩
    have hd := dv_eq (w := w) (h := h) (sh := sh) ok1 (fun i q => (hk1 i q).1) a
    have e : fb_ct (fun i => (nb w h sh a i && fre H1 K1 i) && M i) (w * h) = nin w h sh (fun i => fre H1 K1 i && M i) a := fb_ct_cong (fun i _ => by cases nb w h sh a i <;> rfl)
    have := uni_ct (M := M) (S := fun i => nb w h sh a i && fre H1 K1 i) (n := w * h) (u := u) (fun i _ q => by simp only [Bool.and_eq_true] at q; exact hu i q.1 q.2)
    rw [e] at this
    rw [hd]
    rcases this with q | q
    · left; omega
    · right
      rw [q]; rfl
  rcases hd.2 with ⟨a, ha, hr, hn⟩ | ⟨hg, a, b, ha, hb, hr, hn, hna⟩
  · obtain ⟨u, hu⟩ := r1_uni ok hk hr
    exact mk1 a ha (os a hr.1) hn ⟨u, fun i q1 q2 => hu i q1 (fs i q2)⟩
  · obtain ⟨u, hu⟩ := r2_uni ok hk hr
    have hwi : ∀ i, i < w * h → nb w h sh a i = true → fre H1 K1 i = true → nb w h sh b i = true := fun i hi q1 q2 => hr.2.2.2.2.1 i hi q1 (fs i q2)
    by_cases hz : 0 < nin w h sh (fre H1 K1) a
    · refine ⟨hc, Or.inr ⟨hg, a, b, ha, hb, ⟨os a hr.1, hz, os b hr.2.2.1, ?_, hwi, ?_⟩, hn, hna⟩⟩
      · have c2 := r2_cnt (w := w) (h := h) (sh := sh) hwi (fun _ => true)
        rw [nin_t, nin_t, ct_t] at c2
        have : 0 < fb_ct (fun i => nb w h sh b i && fre H1 K1 i && !nb w h sh a i) (w * h) := fb_ct_pos.mpr ⟨c, hcn, by rw [hn, hc, hna]; rfl⟩
        omega
      · have hda := dv_eq (w := w) (h := h) (sh := sh) ok1 (fun i q => (hk1 i q).1) a
        have hdb := dv_eq (w := w) (h := h) (sh := sh) ok1 (fun i q => (hk1 i q).1) b
        have c1 := r2_cnt (w := w) (h := h) (sh := sh) hwi M
        have c2 := r2_cnt (w := w) (h := h) (sh := sh) hwi (fun _ => true)
        rw [nin_t, nin_t, ct_t] at c2
        have := uni_ct (M := M) (S := fun i => nb w h sh b i && fre H1 K1 i && !nb w h sh a i) (n := w * h) (u := u) (fun i _ q => by simp only [Bool.and_eq_true, Bool.not_eq_true'] at q; exact hu i q.1.1 (fs i q.1.2) q.2)
        rcases this with q | q
        · left; omega
        · right; omega
    · have hnone : ∀ i, nb w h sh a i = true → fre H1 K1 i = true → False := fun i q1 q2 => hz (fb_ct_pos.mpr ⟨i, fre_lt ok1 q2, by rw [q1, q2]; rfl⟩)
      refine mk1 b hb (os b hr.2.2.1) hn ⟨u, fun i q1 q2 => hu i q1 (fs i q2) ?_⟩
      cases e : nb w h sh a i
      · rfl
      · exact (hnone i e q2).elim
/-- rules 1 and 2 give nothing more -/
def cl (w h sh : Nat) (M : Nat → Bool) (g : Nat) (H K : Nat → Bool) : Prop := okH w h M H ∧ kOk M H K ∧ (∀ a, a < w * h → ¬ r1ok w h sh M H zB K a) ∧ (2 ≤ g → ∀ a b, a < w * h → b < w * h → ¬ r2ok w h sh M H zB K a b)
theorem cl_der {H K : Nat → Bool} (hc : cl w h sh M g H K) {c : Nat} : ¬ der w h sh M g H K c := fun hd => by
  rcases hd.2 with ⟨a, ha, hr, -⟩ | ⟨hg, a, b, ha, hb, hr, -⟩
  · exact hc.2.2.1 a ha hr
  · exact hc.2.2.2 hg a b ha hb hr
def Drv (w h sh : Nat) (M : Nat → Bool) (g : Nat) (H K : Nat → Bool) : Prop := ∀ H1 K1, cl w h sh M g H1 K1 → (∀ x, H1 x = true → H x = true) → ∀ x, K x = true → K1 x = true
theorem Drv_0 {H : Nat → Bool} : Drv w h sh M g H (fun _ => false) := fun _ _ _ _ x q => by cases q
theorem Drv_unc {H H' K : Nat → Bool} (hd : Drv w h sh M g H K) (hs : ∀ x, H' x = true → H x = true) : Drv w h sh M g H' K := fun H1 K1 hc h1 => hd H1 K1 hc (fun x q => hs x (h1 x q))
theorem Drv_add {H K G : Nat → Bool} (ok : okH w h M H) (hk : kOk M H K) (hd : Drv w h sh M g H K) (hG : ∀ c, G c = true → der w h sh M g H K c ∧ M c = true) : Drv w h sh M g H (kAdd K G) := fun H1 K1 hc h1 x q => by
  unfold kAdd at q
  simp only [Bool.or_eq_true] at q
  have hK := hd H1 K1 hc h1
  rcases q with q | q
  · exact hK x q
  · obtain ⟨d1, d2⟩ := hG x q
    have hxn := fre_lt ok d1.1
    cases e : K1 x
    · exfalso
      have hx1 : H1 x = true := by
        cases e1 : H1 x
        · have := hc.1.2.2.2.2 x hxn e1 rfl
          rw [d2] at this; cases this
        · rfl
      exact cl_der hc (der_mono ok hk hc.1 hc.2.1 h1 hK d1 (by unfold fre; rw [hx1, e]; rfl))
    · rfl
end CF
