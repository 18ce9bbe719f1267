/-! a board's state: mined, hidden, blown, flagged cells; the other cells are open -/
def zr (w h sh : Nat) (M : Nat → Bool) : Nat → Bool := fun a => decide (nin w h sh M a = 0)
def opS (n : Nat) (H B : Nat → Bool) : Nat → Bool := fun i => decide (i < n) && !H i && !B i
def bst (b n : Nat) (M H B F : Nat → Bool) (J : tg_J) : Prop := vw b M H (opS n H B) B F J
def okS (n : Nat) (M H B F : Nat → Bool) : Prop := (∀ i, n ≤ i → H i = false ∧ B i = false ∧ M i = false) ∧ (∀ i, F i = true → H i = true) ∧ (∀ i, H i = true → B i = false) ∧ (∀ i, B i = true → M i = true) ∧ ∀ i, i < n → H i = false → B i = false → M i = false
def uncH (w h sh : Nat) (M : Nat → Bool) (a : Nat) (H : Nat → Bool) : Nat → Bool := if M a then (fun i => H i && !decide (i = a)) else flood (w * h) (nb w h sh) (zr w h sh M) a H
def uncB (M : Nat → Bool) (a : Nat) (B : Nat → Bool) : Nat → Bool := if M a then (fun i => B i || decide (i = a)) else B
theorem fl_why {n : Nat} {nbr : Nat → Nat → Bool} {z : Nat → Bool} : ∀ (f k : Nat) (H : Nat → Bool) (L : List Nat) (x : Nat), H x = true → fl n nbr z f k H L x = false → ∃ a, z a = true ∧ nbr a x = true
  | 0, k, H, L, x, h1, h2 => by rw [show fl n nbr z 0 k H L = H from rfl, h1] at h2; cases h2
  | f + 1, k, H, L, x, h1, h2 => by
    cases e : L[k]? with
    | none =>
      rw [fl_out (by simpa using e), h1] at h2
      cases h2
    | some a =>
      rw [fl_in e] at h2
      by_cases hz : z a = true
      · rw [if_pos hz] at h2
        cases e2 : fHid (nbr a) H n x
        · refine ⟨a, hz, ?_⟩
          unfold fHid at e2
          rw [h1] at e2
          simp at e2
          exact e2.2
        · exact fl_why f (k + 1) _ _ x e2 h2
      · rw [if_neg hz] at h2
        exact fl_why f (k + 1) _ _ x h1 h2
theorem nin_zero {w h sh : Nat} {M : Nat → Bool} {a x : Nat} (hz : nin w h sh M a = 0) (hn : nb w h sh a x = true) : M x = false := by
  have := fb_ct_zero.mp hz x (nb_lt hn)
  rw [hn] at this
  simpa using this
theorem flood_sub {n : Nat} {nbr : Nat → Nat → Bool} {z : Nat → Bool} {c : Nat} {H : Nat → Bool} {x : Nat} (h : flood n nbr z c H x = true) : H x = true ∧ x ≠ c := by
  have := (fl_sub _ _ _ _ x).1 h
  simp at this
  exact this
theorem uncH_sub {w h sh : Nat} {M : Nat → Bool} {a : Nat} {H : Nat → Bool} {x : Nat} (hx : uncH w h sh M a H x = true) : H x = true ∧ x ≠ a := by
  unfold uncH at hx
  split at hx
  · simp at hx
    exact hx
  · exact flood_sub hx
theorem okS_unc {w h sh : Nat} {M H B F : Nat → Bool} {a : Nat} (ha : a < w * h) (hH : H a = true) (ho : okS (w * h) M H B F) : okS (w * h) M (uncH w h sh M a H) (uncB M a B) (fun i => F i && uncH w h sh M a H i) := by
  obtain ⟨o1, o2, o3, o4, o5⟩ := ho
  have hsub : ∀ i, uncH w h sh M a H i = true → H i = true ∧ i ≠ a := fun i => uncH_sub
  refine ⟨fun i hi => ?_, fun i hi => ?_, fun i hi => ?_, fun i hi => ?_, fun i hi h1 h2 => ?_⟩
  · obtain ⟨q1, q2, q3⟩ := o1 i hi
    refine ⟨?_, ?_, q3⟩
    · cases e : uncH w h sh M a H i
      · rfl
      · rw [(hsub i e).1] at q1; cases q1
    · unfold uncB
      split
      · simp [q2]; omega
      · exact q2
  · simp at hi
    exact hi.2
  · obtain ⟨q1, q2⟩ := hsub i hi
    unfold uncB
    split
    · simp [o3 i q1, q2]
    · exact o3 i q1
  · unfold uncB at hi
    split at hi
    · rename_i hm
      simp at hi
      rcases hi with q | q
      · exact o4 i q
      · rw [q]; exact hm
    · exact o4 i hi
  · unfold uncH at h1
    unfold uncB at h2
    by_cases hm : M a = true
    · rw [if_pos hm] at h1 h2
      simp at h1 h2
      refine o5 i hi ?_ h2.1
      cases e : H i
      · rfl
      · exact absurd (h1 e) h2.2
    · rw [if_neg hm] at h1 h2
      by_cases e : i = a
      · rw [e]; simpa using hm
      · cases eh : H i
        · exact o5 i hi eh h2
        · obtain ⟨x, x1, x2⟩ := fl_why _ _ _ _ i (by simp [eh, e]) h1
          unfold zr at x1
          simp at x1
          exact nin_zero x1 x2
section XU
variable {I : tg_I} {J : tg_J} {P : Option Value → tg_I → tg_J → Prop} {w h sh b : Nat}
theorem nin_cong {S S' : Nat → Bool} {a : Nat} (hS : ∀ i, i < w * h → S i = S' i) : nin w h sh S a = nin w h sh S' a := fb_ct_cong (fun i hi => by rw [hS i hi])
theorem zI_0 {n : Nat} (hn : n < 2147483648) : zI (n : Int) = 0 ↔ n = 0 := by
  rw [show (0 : Int32) = zI (0 : Nat) from rfl, z_eq (by omega) (by omega) (by omega) (by omega)]
  omega
theorem unc44 {M H0 O0 B F0 Hf : Nat → Bool} (hb : isBd b) (gk : gOk w h sh) (hp : ∀ I' J', onlyB b I I' J J' → vw b M Hf (opn H0 O0 Hf) B (opf H0 F0 Hf) J' → P none I' J') : ∀ (f k : Nat) (H : Nat → Bool) (L : List Nat) (I1 : tg_I) (J1 : tg_J), f + k = w * h → onlyB b I I1 J J1 → gridX b w h sh I1 J1 → (∀ i, H i = true → H0 i = true) → (∀ i, w * h ≤ i → H i = false) → vw b M H (opn H0 O0 H) B (opf H0 F0 H) J1 → inQ (b + 13) L I1 → fb_ct H (w * h) + L.length ≤ w * h → (∀ x, x ∈ L → x < w * h) → fl (w * h) (nb w h sh) (zr w h sh M) f k H L = Hf → l_X1_uncover_44 I1 J1 P b (zI (L.length : Nat)) (zI k) := by
  obtain ⟨hn1, hn2⟩ := mul_le100 gk
  intro f
  induction f with
  | zero =>
    intro k H L I1 J1 hfk o g h0 hH v q hl hx hf
    refine s_X1_uncover_44 _ _ _ hb ⟨fun _ => ?_, fun c => absurd ?_ c⟩
    · subst hf
      exact hp I1 J1 o v
    · rw [z_le (by omega) (by omega) (by omega) (by omega)]
      omega
  | succ f ih =>
    intro k H L I1 J1 hfk o g h0 hH v q hl hx hf
    refine s_X1_uncover_44 _ _ _ hb ?_
    rw [z_le (by omega) (by omega) (by omega) (by omega)]
    refine ⟨fun c => ?_, fun c => ?_⟩
    · rw [fl_out (by omega)] at hf
      subst hf
      exact hp I1 J1 o v
    · have hk : k < L.length := by omega
      have e : L[k]? = some L[k] := List.getElem?_eq_getElem hk
      have hxk := hx _ (List.getElem_mem hk)
      rw [fl_in e] at hf
      have hread := q k _ e
      generalize L[k] = x at *
      rw [show (100 : Int32) = zI (100 : Nat) from rfl, z_le (by omega) (by omega) (by omega) (by omega), z_in (by omega) (by omega), z_cl (by omega), hread]
      refine ⟨fun c2 => absurd c2 (by omega), fun _ => ⟨by omega, fun x1 ex => ?_⟩⟩
      subst ex
      have hM : nin w h sh (sB J1 (b + 7)) x = nin w h sh M x := nin_cong (fun i hi => (v i (by omega)).1)
      have h8 := nin_le (w := w) (h := h) (sh := sh) M x
      refine number_ok hb gk g hxk ⟨_, rfl, ?_⟩
      rw [hM, zI_0 (by omega), show (1 : Int32) = zI 1 from rfl, z_add]
      refine ⟨fun c3 => ?_, fun c3 => ?_⟩
      · rw [if_neg (by simp [zr, c3])] at hf
        exact ih (k + 1) H L I1 J1 (by omega) o g h0 hH v q hl hx hf
      · rw [if_pos (by simp [zr, c3])] at hf
        refine showAround_ok hb gk g hxk h0 hH v q hl (fun I2 J2 o2 v2 q2 => ⟨_, rfl, ?_⟩)
        refine ih (k + 1) (fHid (nb w h sh x) H (w * h)) (L ++ fNew (nb w h sh x) H (w * h)) I2 J2 (by omega) (o.tr o2) (o2.grid g) (fun i hi => h0 i (fHid_le hi)) (fun i hi => ?_) v2 q2 ?_ (fun y hy => ?_) hf
        · cases z : fHid (nb w h sh x) H (w * h) i
          · rfl
          · exact absurd (hH i hi) (by rw [fHid_le z]; decide)
        · have := fHid_ct (nb w h sh x) H (w * h) (w * h) (Nat.le_refl _)
          rw [List.length_append]
          omega
        · rcases List.mem_append.mp hy with z | z
          · exact hx y z
          · exact (fNew_lt z).1
theorem uncover_ok {M H B F : Nat → Bool} {a : Nat} (hb : isBd b) (gk : gOk w h sh) (g : gridX b w h sh I J) (ha : a < w * h) (hHa : H a = true) (ho : okS (w * h) M H B F) (hF : M a = true → F a = false) (hv : bst b (w * h) M H B F J)
    (hp : ∀ I' J', onlyB b I I' J J' → bst b (w * h) M (uncH w h sh M a H) (uncB M a B) (fun i => F i && uncH w h sh M a H i) J' → P none I' J') : call pgX zX1_uncover [.ref b, .int (zI a)] I J P := by
  obtain ⟨hn1, hn2⟩ := mul_le100 gk
  obtain ⟨o1, o2, o3, o4, o5⟩ := ho
  refine e_X1_uncover _ _ hb (has_ok (bd_bits hb (by decide) (by decide)) (by omega) ⟨_, rfl, ?_⟩)
  rw [(hv a (by omega)).1]
  refine ⟨fun c => ?_, fun c => ?_⟩
  · have hm : M a = false := by
      cases e : M a
      · rfl
      · rw [e] at c; exact absurd c (by decide)
    refine show_ok hb (by omega) hv (fun J2 ob2 v2 => ⟨rfl, ?_, fun I3 e3 => ?_⟩)
    · exact (z_in (a := 0) (n := 100) (by omega) (by omega)).mpr (by omega)
    · have ob3 : onlyB b I I3 J J2 := ob2.tr (onlyB_I (fun z hz => by rw [e3, u2_other _ _ _ _ hz]))
      refine unc44 (I := I) (J := J) (M := M) (H0 := H) (O0 := opS (w * h) H B) (B := B) (F0 := F) (Hf := flood (w * h) (nb w h sh) (zr w h sh M) a H) hb gk (fun I' J' o' v' => ?_) (w * h) 0 (fun i => H i && !decide (i = a)) [a] I3 J2 (by omega) ob3 (ob3.grid g) (fun i hi => ?_) (fun i hi => ?_) ?_ ?_ ?_ ?_ rfl
      · have e1 : uncH w h sh M a H = flood (w * h) (nb w h sh) (zr w h sh M) a H := by
          unfold uncH
          rw [hm]
          rfl
        have e2 : uncB M a B = B := by
          unfold uncB
          rw [hm]
          rfl
        refine hp I' J' o' ?_
        rw [e1, e2]
        refine vw_cong v' (fun _ _ => rfl) (fun _ _ => rfl) (fun i hi => ?_) (fun _ _ => rfl) (fun i hi => ?_)
        · unfold opn opS
          cases eh : H i
          · cases ef : flood (w * h) (nb w h sh) (zr w h sh M) a H i
            · simp
            · rw [(flood_sub ef).1] at eh; cases eh
          · have hlt : i < w * h := by
              rcases Nat.lt_or_ge i (w * h) with z | z
              · exact z
              · rw [(o1 i z).1] at eh; cases eh
            simp [hlt, o3 i eh]
        · unfold opf
          cases ef : F i
          · rfl
          · simp [o2 i ef]
      · simp at hi
        exact hi.1
      · simp [(o1 i hi).1]
      · refine vw_cong v2 (fun _ _ => rfl) (fun _ _ => rfl) (fun i hi => ?_) (fun _ _ => rfl) (fun i hi => ?_)
        · unfold opn
          by_cases q : i = a
          · subst q; simp [hHa]
          · simp [q]
        · unfold opf
          by_cases q : i = a
          · subst q; simp [hHa]
          · simp [q]
      · intro k x hk
        cases k with
        | zero =>
          simp at hk
          rw [e3, u2_at, if_pos (show 0 = Int32.toNatClampNeg 0 by decide), hk]
        | succ k => simp at hk
      · have u := fb_ct_upd H false (i := a) (n := w * h) ha
        rw [hHa, if_pos rfl, if_neg Bool.false_ne_true] at u
        have e : (fun i => H i && !decide (i = a)) = fun k => if k = a then false else H k := by
          funext i
          by_cases q : i = a <;> simp [q]
        have hle := fb_ct_le H (w * h)
        rw [e]
        simp only [List.length_cons, List.length_nil]
        omega
      · intro x hx
        simp at hx
        rw [hx]; exact ha
  · have hm : M a = true := by
      cases e : M a
      · rw [e] at c; exact absurd rfl c
      · rfl
    refine drop_ok (bd_bits hb (by decide) (by decide)) (by omega) (fun J1 q1 s1 => ⟨rfl, add_ok (bd_bits hb (by decide) (by decide)) (by omega) (fun J2 q2 s2 => ⟨rfl, ?_⟩)⟩)
    refine hp I J2 ((onlyB_J (by omega) q1).tr (onlyB_J (by omega) q2)) (fun i hi => ?_)
    obtain ⟨v1, v2, v3, v4, v5⟩ := hv i hi
    unfold uncH uncB
    rw [if_pos hm, if_pos hm]
    refine ⟨?_, ?_, ?_, ?_, ?_⟩
    · rw [sB_of (q2 _ (by omega)), sB_of (q1 _ (by omega))]; exact v1
    · rw [sB_of (q2 _ (by omega)), s1 i hi, v2]
    · rw [sB_of (q2 _ (by omega)), sB_of (q1 _ (by omega)), v3]
      unfold opS
      by_cases q : i = a
      · subst q; simp [hHa]
      · simp [q]
    · rw [s2 i hi, sB_of (q1 _ (by omega)), v4]
    · rw [sB_of (q2 _ (by omega)), sB_of (q1 _ (by omega)), v5]
      by_cases q : i = a
      · subst q; simp [hF hm]
      · cases ef : F i
        · simp [ef]
        · simp [ef, o2 i ef, q]
end XU
