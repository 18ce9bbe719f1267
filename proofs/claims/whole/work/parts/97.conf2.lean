/-! plays: chains of verdicts, runs -/
section CG
variable {w h sh g : Nat} {M : Nat → Bool}
def stQ (w h sh : Nat) (M : Nat → Bool) (g : Nat) (H K : Nat → Bool) (kd : Nat) (G : Nat → Bool) (v : Bool) : Prop := ∃ W, stR w h sh M H zB K (fun _ _ => false) g kd G v W
theorem stR_Q {H K : Nat → Bool} {Y : Nat → Nat → Bool} {kd : Nat} {G : Nat → Bool} {v : Bool} {W : Nat → Bool} (hs : stR w h sh M H zB K Y g kd G v W) : stQ w h sh M g H K kd G v := by
  rcases hs with ⟨a1, a, a2, a3, a4, a5, a6, -⟩ | ⟨a1, a2, a3, a, b, a4, a5, a6, a7, a8, a9, a10, -⟩ | ⟨a1, a2, a3, a4, a5, a, a6, a7, a8, a9, a10, a11, -⟩
  · exact ⟨_, Or.inl ⟨a1, a, a2, a3, a4, a5, a6, rfl⟩⟩
  · exact ⟨_, Or.inr (Or.inl ⟨a1, a2, a3, a, b, a4, a5, a6, a7, a8, a9, a10, rfl⟩)⟩
  · exact ⟨_, Or.inr (Or.inr ⟨a1, a2, a3, a4, a5, a, a6, a7, a8, a9, a10, a11, rfl⟩)⟩
theorem stQ_det {H K : Nat → Bool} {kd kd' : Nat} {G G' : Nat → Bool} {v v' : Bool} (h1 : stQ w h sh M g H K kd G v) (h2 : stQ w h sh M g H K kd' G' v') : kd = kd' ∧ G = G' ∧ v = v' := by
  obtain ⟨W, h1⟩ := h1
  obtain ⟨W', h2⟩ := h2
  obtain ⟨a, b, c, -⟩ := stR_det h1 h2
  exact ⟨a, b, c⟩
theorem stQ_N {H K : Nat → Bool} {kd : Nat} {G : Nat → Bool} {v : Bool} (h1 : stQ w h sh M g H K kd G v) (h2 : stN w h sh M H zB K g) : False := by
  obtain ⟨W, h1⟩ := h1
  exact stR_stN h1 h2
theorem stQ_G {H K : Nat → Bool} (ok : okH w h M H) (hk : kOk M H K) {kd : Nat} {G : Nat → Bool} {v : Bool} (hs : stQ w h sh M g H K kd G v) : (∀ i, G i = true → i < w * h ∧ fre H K i = true ∧ M i = v) ∧ (∃ i, i < w * h ∧ G i = true) ∧ 1 ≤ kd ∧ kd ≤ 3 := by
  obtain ⟨W, hs⟩ := hs
  exact stR_G ok (fun i q => (hk i q).1) hs
theorem stQ_der {H K : Nat → Bool} {kd : Nat} {G : Nat → Bool} {v : Bool} (hs : stQ w h sh M g H K kd G v) (hkd : kd ≠ 3) : ∀ c, G c = true → der w h sh M g H K c := by
  obtain ⟨W, hs⟩ := hs
  rcases hs with ⟨-, a, a2, a3, a4, rfl, a6, -⟩ | ⟨-, a2, a3, a, b, a4, a5, a6, a7, a8, rfl, a10, -⟩ | ⟨a1, -⟩
  · intro c q
    simp only [Bool.and_eq_true] at q
    exact ⟨q.2, Or.inl ⟨a, a2, a3, q.1⟩⟩
  · intro c q
    simp only [Bool.and_eq_true, Bool.not_eq_true'] at q
    refine ⟨q.1.2, Or.inr ⟨a2, a, b, a4, a5, a6, q.1.1, ?_⟩⟩
    have := q.2
    rw [q.1.2, Bool.and_true] at this
    exact this
  · exact absurd a1 hkd
theorem stQ_cl {H K : Nat → Bool} (ok : okH w h M H) (hk : kOk M H K) {G : Nat → Bool} {v : Bool} (hs : stQ w h sh M g H K 3 G v) : cl w h sh M g H K := by
  obtain ⟨W, hs⟩ := hs
  rcases hs with ⟨a1, -⟩ | ⟨a1, -⟩ | ⟨-, a2, a3, a4, -⟩
  · cases a1
  · cases a1
  · exact ⟨ok, hk, a3, fun _ => a4⟩
theorem stN_cl {H K : Nat → Bool} (ok : okH w h M H) (hk : kOk M H K) (hn : stN w h sh M H zB K g) : cl w h sh M g H K := ⟨ok, hk, hn.1, hn.2.1⟩
theorem least_of {p : Nat → Prop} {n : Nat} (hx : ∃ i, i < n ∧ p i) : ∃ i, i < n ∧ p i ∧ ∀ j, j < i → ¬ p j := @fb_first p (fun _ => Classical.propDecidable _) n hx
theorem st_tot (H K : Nat → Bool) : stN w h sh M H zB K g ∨ ∃ kd G v, stQ w h sh M g H K kd G v := by
  by_cases n1 : ∀ a, a < w * h → ¬ r1ok w h sh M H zB K a
  · by_cases n2 : 2 ≤ g → ∀ a b, a < w * h → b < w * h → ¬ r2ok w h sh M H zB K a b
    · by_cases n3 : 3 ≤ g → gdH w h sh H (opS (w * h) H zB) = false ∨ ∀ a, a < w * h → fre H K a = true → ¬ r3ok w h sh M H (opS (w * h) H zB) a
      · exact Or.inl ⟨n1, n2, n3⟩
      · right
        have ⟨g3, q⟩ := Classical.not_imp.mp n3
        have ⟨q1, q2⟩ := not_or.mp q
        have ⟨a, q3⟩ := Classical.not_forall.mp q2
        have ⟨ha, q4⟩ := Classical.not_imp.mp q3
        have ⟨hf, q5⟩ := Classical.not_imp.mp q4
        obtain ⟨b, b1, b2, b3⟩ := least_of (p := fun b => fre H K b = true ∧ r3ok w h sh M H (opS (w * h) H zB) b) ⟨a, ha, hf, Classical.not_not.mp q5⟩
        exact ⟨3, _, _, _, Or.inr (Or.inr ⟨rfl, g3, n1, n2 (by omega), by simpa using q1, b, b1, b2.1, b2.2, fun a' h1 h2 h3 => b3 a' h1 ⟨h2, h3⟩, rfl, rfl, rfl⟩)⟩
    · right
      have ⟨g2, q⟩ := Classical.not_imp.mp n2
      have ⟨a, q1⟩ := Classical.not_forall.mp q
      have ⟨b, q2⟩ := Classical.not_forall.mp q1
      have ⟨ha, q3⟩ := Classical.not_imp.mp q2
      have ⟨hb, q4⟩ := Classical.not_imp.mp q3
      obtain ⟨a', a1, ⟨b', b1, b2⟩, a3⟩ := least_of (p := fun a => ∃ b, b < w * h ∧ r2ok w h sh M H zB K a b) ⟨a, ha, b, hb, Classical.not_not.mp q4⟩
      obtain ⟨c, c1, c2, c3⟩ := least_of (p := fun b => r2ok w h sh M H zB K a' b) ⟨b', b1, b2⟩
      exact ⟨2, _, _, _, Or.inr (Or.inl ⟨rfl, g2, n1, a', c, a1, c1, c2, fun x y h1 h2 h3 => a3 x h1 ⟨y, h2, h3⟩, c3, rfl, rfl, rfl⟩)⟩
  · right
    have ⟨a, q⟩ := Classical.not_forall.mp n1
    have ⟨ha, q2⟩ := Classical.not_imp.mp q
    obtain ⟨b, b1, b2, b3⟩ := least_of (p := fun a => r1ok w h sh M H zB K a) ⟨a, ha, Classical.not_not.mp q2⟩
    exact ⟨1, _, _, _, Or.inl ⟨rfl, b, b1, b2, b3, rfl, rfl, rfl⟩⟩
/-- at one board, from what is known: the first cell to open, or none -/
def oc (w h sh : Nat) (M : Nat → Bool) (g : Nat) (H : Nat → Bool) : Nat → (Nat → Bool) → Option Nat → Prop
  | 0, _, _ => False
  | f + 1, K, r => (stN w h sh M H zB K g ∧ r = none) ∨ ∃ kd G v, stQ w h sh M g H K kd G v ∧ ((v = false ∧ ∃ c, c < w * h ∧ G c = true ∧ (∀ c', c' < c → G c' = false) ∧ r = some c) ∨ (v = true ∧ oc w h sh M g H f (kAdd K G) r))
theorem oc_det {H : Nat → Bool} : ∀ (f f' : Nat) (K : Nat → Bool) (r r' : Option Nat), oc w h sh M g H f K r → oc w h sh M g H f' K r' → r = r'
  | 0, _, _, _, _, h1, _ => h1.elim
  | _ + 1, 0, _, _, _, _, h2 => h2.elim
  | f + 1, f' + 1, K, r, r', h1, h2 => by
    rcases h1 with ⟨a1, rfl⟩ | ⟨kd, G, v, s1, t1⟩
    · rcases h2 with ⟨a2, rfl⟩ | ⟨kd', G', v', s2, t2⟩
      · rfl
      · exact (stQ_N s2 a1).elim
    · rcases h2 with ⟨a2, rfl⟩ | ⟨kd', G', v', s2, t2⟩
      · exact (stQ_N s1 a2).elim
      · obtain ⟨rfl, rfl, rfl⟩ := stQ_det s1 s2
        rcases t1 with ⟨e1, c, c1, c2, c3, rfl⟩ | ⟨e1, t1⟩
        · rcases t2 with ⟨e2, c', c1', c2', c3', rfl⟩ | ⟨e2, t2⟩
          · rw [one_of (p := fun c => G c = true) c2 (fun k hk q => by rw [c3 k hk] at q; cases q) c2' (fun k hk q => by rw [c3' k hk] at q; cases q)]
          · rw [e1] at e2; cases e2
        · rcases t2 with ⟨e2, c', c1', c2', c3', rfl⟩ | ⟨e2, t2⟩
          · rw [e1] at e2; cases e2
          · exact oc_det f f' _ r r' t1 t2
theorem kOk_add {H K G : Nat → Bool} (hk : kOk M H K) (hG : ∀ i, G i = true → i < w * h ∧ fre H K i = true ∧ M i = true) : kOk M H (kAdd K G) := fun x q => by
  unfold kAdd at q
  simp only [Bool.or_eq_true] at q
  rcases q with q | q
  · exact hk x q
  · have := hG x q
    have h2 := this.2.1
    unfold fre at h2
    simp only [Bool.and_eq_true] at h2
    exact ⟨h2.1, this.2.2⟩
theorem fre_K {H K : Nat → Bool} {i : Nat} (q : fre H K i = true) : K i = false := by
  unfold fre at q
  simp only [Bool.and_eq_true, Bool.not_eq_true'] at q
  exact q.2
theorem fre_H {H K : Nat → Bool} {i : Nat} (q : fre H K i = true) : H i = true := by
  unfold fre at q
  simp only [Bool.and_eq_true] at q
  exact q.1
theorem oc_tot {H : Nat → Bool} (ok : okH w h M H) : ∀ (m : Nat) (K : Nat → Bool), kOk M H K → w * h < m + fb_ct K (w * h) → ∃ f r, oc w h sh M g H f K r := by
  intro m
  induction m with
  | zero =>
    intro K hk hm
    have := fb_ct_le K (w * h)
    omega
  | succ m ih =>
    intro K hk hm
    rcases st_tot (w := w) (h := h) (sh := sh) (M := M) (g := g) H K with q | ⟨kd, G, v, q⟩
    · exact ⟨1, none, Or.inl ⟨q, rfl⟩⟩
    · obtain ⟨hG, hx, -⟩ := stQ_G ok hk q
      cases v
      · obtain ⟨c, c1, c2, c3⟩ := least_of hx
        exact ⟨1, some c, Or.inr ⟨kd, G, false, q, Or.inl ⟨rfl, c, c1, c2, fun c' h1 => by cases e : G c'; rfl; exact absurd e (c3 c' h1), rfl⟩⟩⟩
      · have := kAdd_ct (K := K) (n := w * h) (fun i z => fre_K (hG i z).2.1) hx
        obtain ⟨f, r, hr⟩ := ih (kAdd K G) (kOk_add hk hG) (by omega)
        exact ⟨f + 1, r, Or.inr ⟨kd, G, true, q, Or.inr ⟨rfl, hr⟩⟩⟩
def ocr (w h sh : Nat) (M : Nat → Bool) (g : Nat) (H K : Nat → Bool) (r : Option Nat) : Prop := ∃ f, oc w h sh M g H f K r
theorem ocr_det {H K : Nat → Bool} {r r' : Option Nat} (h1 : ocr w h sh M g H K r) (h2 : ocr w h sh M g H K r') : r = r' := by
  obtain ⟨f, h1⟩ := h1
  obtain ⟨f', h2⟩ := h2
  exact oc_det f f' K r r' h1 h2
theorem ocr_tot {H K : Nat → Bool} (ok : okH w h M H) (hk : kOk M H K) : ∃ r, ocr w h sh M g H K r := by
  obtain ⟨f, r, q⟩ := oc_tot (sh := sh) (g := g) ok (w * h + 1) K hk (by omega)
  exact ⟨r, f, q⟩
/-- a mined verdict more is a step of the chain -/
theorem ocr_step {H K : Nat → Bool} {kd : Nat} {G : Nat → Bool} (hs : stQ w h sh M g H K kd G true) (r : Option Nat) : ocr w h sh M g H K r ↔ ocr w h sh M g H (kAdd K G) r := by
  constructor
  · rintro ⟨f, q⟩
    cases f with
    | zero => exact q.elim
    | succ f =>
      rcases q with ⟨a, -⟩ | ⟨kd', G', v', s, t⟩
      · exact (stQ_N hs a).elim
      · obtain ⟨rfl, rfl, rfl⟩ := stQ_det hs s
        rcases t with ⟨e, -⟩ | ⟨-, t⟩
        · cases e
        · exact ⟨f, t⟩
  · rintro ⟨f, q⟩
    exact ⟨f + 1, Or.inr ⟨kd, G, true, hs, Or.inr ⟨rfl, q⟩⟩⟩
/-- at a closed pair all ways to it end alike -/
theorem oc_cl {H K : Nat → Bool} (hc : cl w h sh M g H K) (hd : Drv w h sh M g H K) : ∀ (f : Nat) (K1 : Nat → Bool) (r : Option Nat), kOk M H K1 → Drv w h sh M g H K1 → oc w h sh M g H f K1 r → ocr w h sh M g H K r := by
  have same : ∀ K1, cl w h sh M g H K1 → Drv w h sh M g H K1 → K1 = K := fun K1 c1 d1 => funext fun x => by
    cases e : K x
    · cases e1 : K1 x
      · rfl
      · rw [d1 H K hc (fun _ q => q) x e1] at e; cases e
    · exact hd H K1 c1 (fun _ q => q) x e
  intro f
  induction f with
  | zero => intro K1 r _ _ q; exact q.elim
  | succ f ih =>
    intro K1 r hk1 d1 q
    rcases q with ⟨a, rfl⟩ | ⟨kd, G, v, s, t⟩
    · have := same K1 (stN_cl hc.1 hk1 a) d1
      rw [this] at a
      exact ⟨1, Or.inl ⟨a, rfl⟩⟩
    · by_cases hkd : kd = 3
      · rw [hkd] at s
        have := same K1 (stQ_cl hc.1 hk1 s) d1
        rw [← this]
        exact ⟨f + 1, Or.inr ⟨3, G, v, s, t⟩⟩
      · obtain ⟨hG, hx, -⟩ := stQ_G hc.1 hk1 s
        have hder := stQ_der s hkd
        have hK1 := d1 H K hc (fun _ q => q)
        have inK : ∀ c, G c = true → K c = true := fun c z => by
          cases e : K c
          · exact (cl_der hc (der_mono hc.1 hk1 hc.1 hc.2.1 (fun _ q => q) hK1 (hder c z) (by unfold fre; rw [fre_H (hG c z).2.1, e]; rfl))).elim
          · rfl
        obtain ⟨i, -, hi⟩ := hx
        have hv : v = true := by rw [← (hG i hi).2.2]; exact (hc.2.1 i (inK i hi)).2
        rcases t with ⟨e, -⟩ | ⟨-, t⟩
        · rw [hv] at e; cases e
        · rw [hv] at hG
          exact ih (kAdd K1 G) r (kOk_add hk1 hG) (Drv_add hc.1 hk1 d1 (fun c z => ⟨hder c z, (hG c z).2.2⟩)) t
theorem kOk_0 {H : Nat → Bool} : kOk M H (fun _ => false) := fun x q => by cases q
theorem ocr_cl {H K : Nat → Bool} (hc : cl w h sh M g H K) (hd : Drv w h sh M g H K) (r : Option Nat) : ocr w h sh M g H (fun _ => false) r ↔ ocr w h sh M g H K r := by
  constructor
  · rintro ⟨f, q⟩
    exact oc_cl hc hd f _ r kOk_0 Drv_0 q
  · intro q
    obtain ⟨r0, q0⟩ := ocr_tot (sh := sh) (g := g) (K := fun _ => false) hc.1 kOk_0
    obtain ⟨f0, q1⟩ := q0
    have := ocr_det (oc_cl hc hd f0 _ r0 kOk_0 Drv_0 q1) q
    rw [← this]
    exact ⟨f0, q1⟩
/-- where rules 1 and 2 give a safe cell, the chain opens a cell that they give -/
theorem oc_safe {H K : Nat → Bool} (ok : okH w h M H) (hk : kOk M H K) (hd : Drv w h sh M g H K) {c : Nat} (hder : der w h sh M g H K c) (hM : M c = false) : ∀ (f : Nat) (K1 : Nat → Bool) (r : Option Nat), kOk M H K1 → Drv w h sh M g H K1 → oc w h sh M g H f K1 r → ∃ c1 K2, r = some c1 ∧ c1 < w * h ∧ kOk M H K2 ∧ Drv w h sh M g H K2 ∧ der w h sh M g H K2 c1 ∧ M c1 = false := by
  have ncl : ∀ K1, Drv w h sh M g H K1 → ¬ cl w h sh M g H K1 := fun K1 d1 c1 => by
    have hs := hd H K1 c1 (fun _ q => q)
    refine cl_der c1 (der_mono ok hk ok c1.2.1 (fun _ q => q) hs hder ?_)
    unfold fre
    rw [fre_H hder.1]
    cases e : K1 c
    · rfl
    · rw [(c1.2.1 c e).2] at hM; cases hM
  intro f
  induction f with
  | zero => intro K1 r _ _ q; exact q.elim
  | succ f ih =>
    intro K1 r hk1 d1 q
    rcases q with ⟨a, rfl⟩ | ⟨kd, G, v, s, t⟩
    · exact (ncl K1 d1 (stN_cl ok hk1 a)).elim
    · by_cases hkd : kd = 3
      · rw [hkd] at s
        exact (ncl K1 d1 (stQ_cl ok hk1 s)).elim
      · obtain ⟨hG, hx, -⟩ := stQ_G ok hk1 s
        have hdd := stQ_der s hkd
        rcases t with ⟨e, c1, h1, h2, h3, rfl⟩ | ⟨e, t⟩
        · exact ⟨c1, K1, rfl, h1, hk1, d1, hdd c1 h2, by rw [(hG c1 h2).2.2]; exact e⟩
        · rw [e] at hG
          exact ih (kAdd K1 G) r (kOk_add hk1 hG) (Drv_add ok hk1 d1 (fun c z => ⟨hdd c z, (hG c z).2.2⟩)) t
end CG
