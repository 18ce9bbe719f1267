/-! the class: heaps of quiet cells -/
def qt (w h sh : Nat) (M H : Nat → Bool) : Nat → Bool := fun i => H i && !M i && zr w h sh M i
/-- what going over heaps may change -/
def onlyH (b : Nat) (I I' : tg_I) (J J' : tg_J) : Prop := (∀ q, q ≠ b + 13 → I' q = I q) ∧ ∀ q, q ≠ b + 12 → J' q = J q
section XH
variable {I : tg_I} {J : tg_J} {P : Option Value → tg_I → tg_J → Prop} {w h sh b : Nat} {M H B F : Nat → Bool}
theorem onlyH.rf : onlyH b I I J J := ⟨fun _ _ => rfl, fun _ _ => rfl⟩
theorem onlyH.tr {I1 I2 : tg_I} {J1 J2 : tg_J} (h1 : onlyH b I I1 J J1) (h2 : onlyH b I1 I2 J1 J2) : onlyH b I I2 J J2 := ⟨fun q x => (h2.1 q x).trans (h1.1 q x), fun q x => (h2.2 q x).trans (h1.2 q x)⟩
theorem onlyH.grid {I1 : tg_I} {J1 : tg_J} (h1 : onlyH b I I1 J J1) (g : gridX b w h sh I J) : gridX b w h sh I1 J1 := by
  obtain ⟨o1, o2⟩ := h1
  have e1 := o1 (b + 1) (by omega)
  have e4 := o1 (b + 4) (by omega)
  have e5 := o1 (b + 5) (by omega)
  have j2 := o2 (b + 2) (by omega)
  have j3 := o2 (b + 3) (by omega)
  unfold gridX xSz rowX rowB at *
  rw [e1, e4, e5, j2, j3]
  exact g
theorem onlyH.bst {I1 : tg_I} {J1 : tg_J} {n : Nat} (h1 : onlyH b I I1 J J1) (v : bst b n M H B F J) : bst b n M H B F J1 := fun i hi => by
  have := v i hi
  rw [sB_of (h1.2 (b + 7) (by omega)), sB_of (h1.2 (b + 8) (by omega)), sB_of (h1.2 (b + 9) (by omega)), sB_of (h1.2 (b + 10) (by omega)), sB_of (h1.2 (b + 11) (by omega))]
  exact this
theorem touch_nin {a k : Nat} {S : Nat → Bool} (hb : isBd b) (hk : isBits k) (gk : gOk w h sh) (g : gridX b w h sh I J) (ha : a < w * h) (hS : ∀ i, i < w * h → sB J k i = S i) (hp : P (some (.int (bi (decide (0 < nin w h sh S a))))) I J) : call pgX zX2_touches [.ref (b + 1), .int (zI a), .ref k] I J P := by
  obtain ⟨hn1, hn2⟩ := mul_le100 gk
  refine touches_ok hb hk (by omega) (fun r hr => ?_)
  have e : r = decide (0 < nin w h sh S a) := by
    have hx : (∃ i, i < 128 ∧ rowB b a J i = true ∧ sB J k i = true) ↔ 0 < nin w h sh S a := by
      unfold nin
      rw [fb_ct_pos]
      constructor
      · rintro ⟨i, i1, i2, i3⟩
        rw [row_nb g ha i1] at i2
        have := nb_lt i2
        exact ⟨i, this, by rw [i2, ← hS i this, i3]; rfl⟩
      · rintro ⟨i, i1, i2⟩
        simp only [Bool.and_eq_true] at i2
        exact ⟨i, by omega, by rw [row_nb g ha (by omega)]; exact i2.1, by rw [hS i i1]; exact i2.2⟩
    cases r
    · rw [decide_eq_false]
      intro q
      have := hr.mpr (hx.mpr q)
      cases this
    · exact (decide_eq_true (hx.mp (hr.mp rfl))).symm
  rw [e]
  exact hp
theorem isQuiet_ok {a : Nat} (hb : isBd b) (gk : gOk w h sh) (g : gridX b w h sh I J) (ha : a < w * h) (hv : bst b (w * h) M H B F J) (hp : P (some (.int (bi (qt w h sh M H a)))) I J) : call pgX zX1_isQuiet [.ref b, .int (zI a)] I J P := by
  obtain ⟨hn1, hn2⟩ := mul_le100 gk
  obtain ⟨v1, v2, v3, v4, v5⟩ := hv a (by omega)
  unfold qt zr at hp
  refine e_X1_isQuiet _ _ hb (has_ok (bd_bits hb (by decide) (by decide)) (by omega) ⟨_, rfl, ?_⟩)
  rw [v2, bi_0]
  refine ⟨fun c => ?_, fun c => has_ok (bd_bits hb (by decide) (by decide)) (by omega) ⟨_, rfl, ?_⟩⟩
  · rw [c] at hp; exact hp
  · rw [show H a = true by simpa using c] at hp
    rw [v1, bi_0]
    refine ⟨fun c2 => ?_, fun c2 => touch_nin hb (bd_bits hb (by decide) (by decide)) gk g ha (fun i hi => (hv i (by omega)).1) ⟨_, rfl, ?_⟩⟩
    · rw [show M a = true by simpa using c2] at hp; exact hp
    · rw [c2] at hp
      rw [bi_0]
      refine ⟨fun c3 => ?_, fun c3 => ?_⟩
      · have c3 : ¬ nin w h sh M a = 0 := by simpa using c3
        rw [decide_eq_false c3] at hp; exact hp
      · have c3 : ¬ 0 < nin w h sh M a := by simpa using c3
        rw [decide_eq_true (show nin w h sh M a = 0 by omega)] at hp; exact hp
/-- the heaps, while some of the unvisited quiet cells G0 are unvisited still -/
def hpS (X0 G0 G : Nat → Bool) : Nat → Bool := fun i => X0 i || (G0 i && !G i)
theorem hp41 {X0 G : Nat → Bool} {a kk : Nat} {L : List Nat} (hb : isBd b) (gk : gOk w h sh) (ha : a < w * h) (hG0 : ∀ i, G i = true → (qt w h sh M H i && !X0 i) = true) (hl : fb_ct G (w * h) + L.length ≤ w * h) {I0 : tg_I} {J0 : tg_J}
    (hp : ∀ I' J', onlyH b I0 I' J0 J' → gridX b w h sh I' J' → bst b (w * h) M H B F J' → (∀ i, i < 128 → sB J' (b + 12) i = hpS X0 (fun i => qt w h sh M H i && !X0 i) (fHid (nb w h sh a) G (w * h)) i) → inQ (b + 13) (L ++ fNew (nb w h sh a) G (w * h)) I' → l_X1_heapUp_19 I' J' P b (zI ((L ++ fNew (nb w h sh a) G (w * h)).length : Nat)) (zI kk + 1)) :
    ∀ k, k ≤ w * h → ∀ I1 J1, onlyH b I0 I1 J0 J1 → gridX b w h sh I1 J1 → bst b (w * h) M H B F J1 → (∀ i, i < 128 → sB J1 (b + 12) i = hpS X0 (fun i => qt w h sh M H i && !X0 i) (fHid (nb w h sh a) G k) i) → inQ (b + 13) (L ++ fNew (nb w h sh a) G k) I1 → l_X1_heapUp_41 I1 J1 P b (zI ((L ++ fNew (nb w h sh a) G k).length : Nat)) (zI kk) (zI a) (zI (fb_ct (nb w h sh a) k : Nat)) := by
  obtain ⟨hn1, hn2⟩ := mul_le100 gk
  refine up_loop (w * h) ?_ ?_
  · intro I1 J1 o g v s q
    have hct : fb_ct (nb w h sh a) 128 = fb_ct (nb w h sh a) (w * h) := ct_ext (by omega) (fun k h1 _ => by
      cases e : nb w h sh a k
      · rfl
      · exact absurd (nb_lt e) (by omega))
    refine s_X1_heapUp_41 _ _ _ _ _ hb ?_
    rw [z_in (by omega) (by omega), z_cl (by omega)]
    refine ⟨by omega, fun _ => hp I1 J1 o g v s q, fun c => absurd ?_ c⟩
    rw [(g.2 a ha).2.1, hct]
    exact Int32.le_refl _
  · intro k hk ih I1 J1 o g v s q
    obtain ⟨r1, r2, r3⟩ := g.2 a ha
    have hs := fb_ct_succ (nb w h sh a) k
    cases e : nb w h sh a k
    · rw [e] at hs
      simp at hs
      have e1 : fHid (nb w h sh a) G (k + 1) = fHid (nb w h sh a) G k := by
        rw [fHid_succ]
        funext x
        simp [e]
      have e2 : fNew (nb w h sh a) G (k + 1) = fNew (nb w h sh a) G k := by
        rw [fNew_succ]
        simp [e]
      have := ih I1 J1 o g v (by rw [e1]; exact s) (by rw [e2]; exact q)
      rw [e2, hs] at this
      exact this
    · rw [e] at hs
      simp at hs
      have hlt : fb_ct (nb w h sh a) k < fb_ct (nb w h sh a) 128 := by
        have := fb_ct_mono (nb w h sh a) (show k + 1 ≤ 128 by omega)
        omega
      have h8 := nb_ct_le (w := w) (h := h) (sh := sh) a 128
      have hcell := r3 k (by omega) e
      refine s_X1_heapUp_41 _ _ _ _ _ hb ?_
      have hlen : (L ++ fNew (nb w h sh a) G k).length + (if G k then 1 else 0) ≤ w * h := by
        have h1 := fHid_ct (nb w h sh a) G (w * h) (k + 1) (by omega)
        rw [fNew_succ, e, List.length_append] at h1
        rw [List.length_append]
        cases hh : G k
        · rw [hh] at h1; simp at h1 ⊢; omega
        · rw [hh] at h1; simp at h1 ⊢; omega
      have hlen' : (L ++ fNew (nb w h sh a) G k).length ≤ w * h := by omega
      rw [z_in (by omega) (by omega), z_cl (by omega), r2, z_le (by omega) (by omega) (by omega) (by omega), show (8 : Int32) = zI 8 from rfl, z_mul, z_add, z_in (by omega) (by omega), show (a : Int) * 8 + ((fb_ct (nb w h sh a) k : Nat) : Int) = ((8 * a + fb_ct (nb w h sh a) k : Nat) : Int) by omega, z_cl (by omega), hcell]
      refine ⟨by omega, fun c => absurd c (by omega), fun _ => ⟨by omega, fun x1 ex => ?_⟩⟩
      subst ex
      have hnext : zI ((fb_ct (nb w h sh a) k : Nat) : Int) + 1 = zI ((fb_ct (nb w h sh a) (k + 1) : Nat) : Int) := by
        rw [hs, show (1 : Int32) = zI 1 from rfl, z_add]
        rfl
      rw [hnext]
      have same : G k = false → l_X1_heapUp_41 I1 J1 P b (zI ((L ++ fNew (nb w h sh a) G k).length : Nat)) (zI kk) (zI a) (zI ((fb_ct (nb w h sh a) (k + 1) : Nat) : Int)) := fun hh => by
        have e1 : fHid (nb w h sh a) G (k + 1) = fHid (nb w h sh a) G k := by
          funext x
          rw [fHid_succ]
          by_cases q : x = k
          · subst q; simp [fHid_self, hh]
          · simp [q]
        have e2 : fNew (nb w h sh a) G (k + 1) = fNew (nb w h sh a) G k := by
          rw [fNew_succ]
          simp [hh]
        have := ih I1 J1 o g v (by rw [e1]; exact s) (by rw [e2]; exact q)
        rw [e2] at this
        exact this
      have hsk : sB J1 (b + 12) k = (X0 k || ((qt w h sh M H k && !X0 k) && !G k)) := by rw [s k (by omega)]; simp [hpS, fHid_self]
      refine isQuiet_ok hb gk g hk v ⟨_, rfl, ?_⟩
      rw [bi_0]
      refine ⟨fun c => same ?_, fun c => has_ok (bd_bits hb (by decide) (by decide)) (by omega) ⟨_, rfl, ?_⟩⟩
      · cases z : G k
        · rfl
        · have := hG0 k z
          rw [c] at this
          cases this
      · rw [hsk, bi_0]
        have hq : qt w h sh M H k = true := by simpa using c
        rw [hq]
        refine ⟨fun c2 => same ?_, fun c2 => ?_⟩
        · cases z : G k
          · rfl
          · have := hG0 k z
            rw [hq] at this
            simp at this
            rw [this, z] at c2
            simp at c2
        · have hh : G k = true ∧ X0 k = false := by
            cases z : X0 k
            · cases z2 : G k
              · rw [z, z2] at c2; simp at c2
              · exact ⟨rfl, rfl⟩
            · rw [z] at c2; simp at c2
          rw [hh.1] at hlen
          simp at hlen
          rw [show (100 : Int32) = zI (100 : Nat) from rfl, z_le (by omega) (by omega) (by omega) (by omega), z_in (by omega) (by omega), z_cl (by omega)]
          refine ⟨fun c3 => absurd c3 (by rw [List.length_append]; omega), fun _ => add_ok (bd_bits hb (by decide) (by decide)) (by omega) (fun J3 o3 s3 => ⟨rfl, by rw [List.length_append]; omega, fun I4 e4 => ?_⟩)⟩
          have e2 : fNew (nb w h sh a) G (k + 1) = fNew (nb w h sh a) G k ++ [k] := by
            rw [fNew_succ, e, hh.1]
            rfl
          have oo : onlyH b I1 I4 J1 J3 := ⟨fun z hz => by rw [e4, u2_other _ _ _ _ hz], fun z hz => o3 z hz⟩
          have := ih I4 J3 (o.tr oo) (oo.grid g) (oo.bst v) (fun i hi => ?_) ?_
          · rw [e2, ← List.append_assoc, List.length_append] at this
            rw [show (1 : Int32) = zI 1 from rfl, z_add]
            exact this
          · rw [s3 i hi, s i hi, fHid_succ]
            unfold hpS
            by_cases z : i = k
            · subst z
              simp [e, hq, hh.2]
            · simp [z]
          · rw [e2, ← List.append_assoc]
            exact inQ_app q (fun z => by rw [e4, u2_at])
theorem hp19 {X0 Gf : Nat → Bool} (hb : isBd b) (gk : gOk w h sh) {I0 : tg_I} {J0 : tg_J} (hp : ∀ I' J', onlyH b I0 I' J0 J' → gridX b w h sh I' J' → bst b (w * h) M H B F J' → (∀ i, i < 128 → sB J' (b + 12) i = hpS X0 (fun i => qt w h sh M H i && !X0 i) Gf i) → P none I' J') : ∀ (f k : Nat) (G : Nat → Bool) (L : List Nat) (I1 : tg_I) (J1 : tg_J), f + k = w * h → onlyH b I0 I1 J0 J1 → gridX b w h sh I1 J1 → bst b (w * h) M H B F J1 → (∀ i, G i = true → (qt w h sh M H i && !X0 i) = true) → (∀ i, i < 128 → sB J1 (b + 12) i = hpS X0 (fun i => qt w h sh M H i && !X0 i) G i) → inQ (b + 13) L I1 → fb_ct G (w * h) + L.length ≤ w * h → (∀ x, x ∈ L → x < w * h) → fl (w * h) (nb w h sh) (fun _ => true) f k G L = Gf → l_X1_heapUp_19 I1 J1 P b (zI (L.length : Nat)) (zI k) := by
  obtain ⟨hn1, hn2⟩ := mul_le100 gk
  intro f
  induction f with
  | zero =>
    intro k G L I1 J1 hfk o g v h0 s q hl hx hf
    refine s_X1_heapUp_19 _ _ _ hb ⟨fun _ => ?_, fun c => absurd ?_ c⟩
    · subst hf
      exact hp I1 J1 o g v s
    · rw [z_le (by omega) (by omega) (by omega) (by omega)]
      omega
  | succ f ih =>
    intro k G L I1 J1 hfk o g v h0 s q hl hx hf
    refine s_X1_heapUp_19 _ _ _ hb ?_
    rw [z_le (by omega) (by omega) (by omega) (by omega)]
    refine ⟨fun c => ?_, fun c => ?_⟩
    · rw [fl_out (by omega)] at hf
      subst hf
      exact hp I1 J1 o g v s
    · have hk : k < L.length := by omega
      have e : L[k]? = some L[k] := List.getElem?_eq_getElem hk
      have hxk := hx _ (List.getElem_mem hk)
      rw [fl_in e, if_pos rfl] at hf
      have hread := q k _ e
      generalize L[k] = x at *
      rw [show (100 : Int32) = zI (100 : Nat) from rfl, z_le (by omega) (by omega) (by omega) (by omega), z_in (by omega) (by omega), z_cl (by omega), hread]
      refine ⟨fun c2 => absurd c2 (by omega), fun _ => ⟨by omega, fun x1 ex => ?_⟩⟩
      subst ex
      have := hp41 (M := M) (H := H) (B := B) (F := F) (X0 := X0) (G := G) (kk := k) (L := L) (P := P) hb gk hxk h0 hl (I0 := I0) (J0 := J0) (fun I2 J2 o2 g2 v2 s2 q2 => ?_) 0 (Nat.zero_le _) I1 J1 o g v (by rw [fHid_zero]; exact s) (by rw [fNew_zero, List.append_nil]; exact q)
      · rw [fNew_zero, List.append_nil] at this
        exact this
      · rw [show (1 : Int32) = zI 1 from rfl, z_add]
        refine ih (k + 1) (fHid (nb w h sh x) G (w * h)) (L ++ fNew (nb w h sh x) G (w * h)) I2 J2 (by omega) o2 g2 v2 (fun i hi => h0 i (fHid_le hi)) s2 q2 ?_ (fun y hy => ?_) hf
        · have := fHid_ct (nb w h sh x) G (w * h) (w * h) (Nat.le_refl _)
          rw [List.length_append]
          omega
        · rcases List.mem_append.mp hy with z | z
          · exact hx y z
          · exact (fNew_lt z).1
theorem heapUp_ok {X0 : Nat → Bool} {a : Nat} (hb : isBd b) (gk : gOk w h sh) (g : gridX b w h sh I J) (v : bst b (w * h) M H B F J) (ha : a < w * h) (hG : (qt w h sh M H a && !X0 a) = true) (hX : ∀ i, i < 128 → sB J (b + 12) i = X0 i) (hp : ∀ I' J', onlyH b I I' J J' → gridX b w h sh I' J' → bst b (w * h) M H B F J' → (∀ i, i < 128 → sB J' (b + 12) i = hpS X0 (fun i => qt w h sh M H i && !X0 i) (flood (w * h) (nb w h sh) (fun _ => true) a (fun i => qt w h sh M H i && !X0 i)) i) → P none I' J') : call pgX zX1_heapUp [.ref b, .int (zI a)] I J P := by
  obtain ⟨hn1, hn2⟩ := mul_le100 gk
  refine e_X1_heapUp _ _ hb (add_ok (bd_bits hb (by decide) (by decide)) (by omega) (fun J1 o1 s1 => ⟨rfl, (z_in (a := 0) (n := 100) (by omega) (by omega)).mpr (by omega), fun I2 e2 => ?_⟩))
  have oo : onlyH b I I2 J J1 := ⟨fun z hz => by rw [e2, u2_other _ _ _ _ hz], o1⟩
  refine hp19 (X0 := X0) (Gf := flood (w * h) (nb w h sh) (fun _ => true) a (fun i => qt w h sh M H i && !X0 i)) hb gk hp (w * h) 0 (fun i => (qt w h sh M H i && !X0 i) && !decide (i = a)) [a] I2 J1 (by omega) oo (oo.grid g) (oo.bst v) (fun i hi => ?_) (fun i hi => ?_) (fun k x hk => ?_) ?_ ?_ rfl
  · simp only [Bool.and_eq_true] at hi ⊢
    exact hi.1
  · rw [s1 i hi, hX i hi]
    unfold hpS
    by_cases q : i = a
    · subst q
      simp only [hG]
      simp
    · cases qt w h sh M H i <;> cases X0 i <;> simp [q]
  · cases k with
    | zero =>
      simp at hk
      rw [e2, u2_at, if_pos (show 0 = Int32.toNatClampNeg 0 by decide), hk]
    | succ k => simp at hk
  · have u := fb_ct_upd (fun i => qt w h sh M H i && !X0 i) false (i := a) (n := w * h) ha
    simp only [hG, if_true, Bool.false_eq_true, if_false] at u
    have e : (fun i => (qt w h sh M H i && !X0 i) && !decide (i = a)) = fun k => if k = a then false else (qt w h sh M H k && !X0 k) := by
      funext i
      by_cases q : i = a <;> simp [q]
    have hle := fb_ct_le (fun i => qt w h sh M H i && !X0 i) (w * h)
    rw [e]
    simp only [List.length_cons, List.length_nil]
    omega
  · intro x hx
    simp at hx
    rw [hx]; exact ha
end XH
