/-! the reference: clicks -/
def lbI (n : Nat) (q : Nat → Bool) (l : Nat → Nat) (I : tg_I) : Prop := ∀ i, i < n → I 16 i = (if q i then zI (l i) else -1)
def lbOk (n : Nat) (nbr : Nat → Nat → Bool) (q : Nat → Bool) (l : Nat → Nat) : Prop := ∀ i, i < n → q i = true → l i < n ∧ con n nbr q i (l i)
def lbB (n : Nat) (nbr : Nat → Nat → Bool) (q : Nat → Bool) (t : Nat) (l : Nat → Nat) (i : Nat) : Prop := ∀ x, x < n → q x = true → rch n nbr q x t i = true → l i ≤ x
theorem lbB_up {n : Nat} {nbr : Nat → Nat → Bool} {q : Nat → Bool} {t : Nat} {l : Nat → Nat} {i : Nat} (h : lbB n nbr q (t + 1) l i) : lbB n nbr q t l i := fun x h1 h2 h3 => h x h1 h2 (rch_mono h3)
theorem lb_min {n : Nat} {nbr : Nat → Nat → Bool} {q : Nat → Bool} {l : Nat → Nat} (hsy : ∀ i j, i < n → j < n → nbr i j = true → nbr j i = true) (hS : ∀ i, q i = true → i < n) (ok : lbOk n nbr q l) (hb : ∀ i, i < n → q i = true → lbB n nbr q n l i) {a : Nat} (hqa : q a = true) : l a = a ↔ lo n nbr q a a = true := by
  have ha := hS a hqa
  obtain ⟨k1, k2⟩ := ok a ha hqa
  rw [lo_iff]
  constructor
  · intro e
    refine ⟨hqa, fun x hx hc => ?_⟩
    have := hb a ha hqa x hx (rch_S hqa hc) (con_sym hsy hS hqa hc)
    omega
  · rintro ⟨-, h2⟩
    have h3 := h2 (l a) k1 k2
    have h4 := hb a ha hqa a ha hqa con_refl
    omega
section MC
variable {I : tg_I} {J : tg_J} {P : Option Value → tg_I → tg_J → Prop} {w h sh : Nat} {M H B F : Nat → Bool}
theorem isBare_ok (gk : gOk w h sh) (hm : mst w h sh M H B F I) {a : Nat} (ha : a < w * h) (hp : P (some (.int (bi (qt w h sh M H a)))) I J) : call pgM zX9_isBare [.ref 0, .int (zI a)] I J P := by
  obtain ⟨hn1, hn2⟩ := mul_le100 gk
  obtain ⟨b1, b2, b3⟩ := hm.2.2 a (by omega)
  have h8 := nin_le (w := w) (h := h) (sh := sh) M a
  unfold qt zr at hp
  refine e_X9_isBare _ ?_
  rw [z_in (by omega) (by omega), z_cl (by omega), b1, b2, sc_0 ha, bi_0]
  refine ⟨by omega, fun c => ?_, fun c => ⟨by omega, fun c2 => ?_, fun c2 => mnumber_ok gk hm ha ⟨_, rfl, ?_⟩⟩⟩
  · rw [show H a = false by simpa using c] at hp; exact hp
  · rw [show M a = true by simpa using c2, c] at hp; exact hp
  · rw [c, c2] at hp
    rw [zI_0 (by omega)]
    refine ⟨fun c3 => ?_, fun c3 => ?_⟩
    · rw [decide_eq_false c3] at hp; exact hp
    · rw [decide_eq_true c3] at hp; exact hp
theorem lb_neg {q : Nat → Bool} {l : Nat → Nat} {i n : Nat} (hl : q i = true → l i < n) (hn : n ≤ 100) {v : Int32} (hv : v = if q i then zI (l i) else -1) : (v < 0 ↔ q i = false) ∧ (0 ≤ v ↔ q i = true) := by
  rw [hv, show (0 : Int32) = zI 0 from rfl]
  cases e : q i
  · rw [if_neg (by simp), show (-1 : Int32) = zI (-1) from rfl, z_lt (by omega) (by omega) (by omega) (by omega), z_le (by omega) (by omega) (by omega) (by omega)]
    simp
  · have := hl e
    rw [if_pos rfl, z_lt (by omega) (by omega) (by omega) (by omega), z_le (by omega) (by omega) (by omega) (by omega)]
    simp
theorem mc60 (gk : gOk w h sh) {I0 : tg_I} (hm0 : mst w h sh M H B F I0) (hS : ∀ i, qt w h sh M H i = true → i < w * h) {c t a : Nat} (ha : a < w * h)
    (hp : ∀ (l : Nat → Nat) (I' : tg_I), onlyI 16 I0 I' → lbI (w * h) (qt w h sh M H) l I' → lbOk (w * h) (nb w h sh) (qt w h sh M H) l → (∀ i, i < w * h → qt w h sh M H i = true → (if i < a + 1 then lbB (w * h) (nb w h sh) (qt w h sh M H) (t + 1) l i else lbB (w * h) (nb w h sh) (qt w h sh M H) t l i)) → l_X9_clicks_49 I' J P (zI c) (zI t) (zI a + 1)) :
    ∀ k, k ≤ w * h → ∀ (l : Nat → Nat) (I1 : tg_I), onlyI 16 I0 I1 → lbI (w * h) (qt w h sh M H) l I1 → lbOk (w * h) (nb w h sh) (qt w h sh M H) l → (∀ i, i < w * h → qt w h sh M H i = true → (if i < a then lbB (w * h) (nb w h sh) (qt w h sh M H) (t + 1) l i else lbB (w * h) (nb w h sh) (qt w h sh M H) t l i)) → (∀ y, y < k → nb w h sh a y = true → qt w h sh M H y = true → qt w h sh M H a = true → ∀ x, x < w * h → qt w h sh M H x = true → rch (w * h) (nb w h sh) (qt w h sh M H) x t y = true → l a ≤ x) → l_X9_clicks_60 I1 J P (zI c) (zI t) (zI a) (zI k) := by
  obtain ⟨hn1, hn2⟩ := mul_le100 gk
  refine up_loop (w * h) ?_ ?_
  · intro l I1 o hl ok hb hy
    have m1 : mst w h sh M H B F I1 := mst_keep hm0 (fun q hq => o q (by omega))
    refine s_X9_clicks_60 _ _ _ _ ⟨fun _ => hp l I1 o hl ok (fun i hi hq => ?_), fun c => absurd (by rw [m1.1.2.2.2]; exact Int32.le_refl _) c⟩
    have hbi := hb i hi hq
    by_cases e : i = a
    · subst e
      rw [if_neg (by omega)] at hbi
      rw [if_pos (by omega)]
      intro x hx hqx hr
      have er : rch (w * h) (nb w h sh) (qt w h sh M H) x (t + 1) i = (rch (w * h) (nb w h sh) (qt w h sh M H) x t i || (qt w h sh M H i && decide (∃ y, y < w * h ∧ rch (w * h) (nb w h sh) (qt w h sh M H) x t y = true ∧ nb w h sh y i = true))) := rfl
      rw [er] at hr
      simp only [Bool.or_eq_true, Bool.and_eq_true, decide_eq_true_eq] at hr
      rcases hr with hr | ⟨-, y, y1, y2, y3⟩
      · exact hbi x hx hqx hr
      · exact hy y y1 (nb_sym1 gk y1 y3) (rch_S hqx y2) hq x hx hqx y2
    · by_cases e2 : i < a
      · rw [if_pos e2] at hbi
        rw [if_pos (by omega)]
        exact hbi
      · rw [if_neg e2] at hbi
        rw [if_neg (by omega)]
        exact hbi
  · intro k hk ih l I1 o hl ok hb hy
    have m1 : mst w h sh M H B F I1 := mst_keep hm0 (fun q hq => o q (by omega))
    have hnx : zI (k : Int) + 1 = zI ((k + 1 : Nat) : Int) := by rw [show (1 : Int32) = zI 1 from rfl, z_add]; rfl
    have bt : ∀ i, i < w * h → qt w h sh M H i = true → lbB (w * h) (nb w h sh) (qt w h sh M H) t l i := fun i hi hq => by
      have := hb i hi hq
      split at this
      · exact lbB_up this
      · exact this
    have skip : (nb w h sh a k = true → qt w h sh M H k = true → qt w h sh M H a = true → l a ≤ l k) → l_X9_clicks_60 I1 J P (zI c) (zI t) (zI a) (zI ((k + 1 : Nat) : Int)) := fun hs => ih l I1 o hl ok hb (fun y hy1 hn hq hqa x hx hqx hr => by
      by_cases e : y = k
      · subst e
        have := bt y hk hq x hx hqx hr
        have := hs hn hq hqa
        omega
      · exact hy y (by omega) hn hq hqa x hx hqx hr)
    refine s_X9_clicks_60 _ _ _ _ ?_
    rw [m1.1.2.2.2, z_le (by omega) (by omega) (by omega) (by omega), z_in (by omega) (by omega), z_in (by omega) (by omega), z_cl (by omega), z_cl (by omega), hnx]
    obtain ⟨na1, na2⟩ := lb_neg (fun hq => (ok a ha hq).1) hn2 (hl a ha)
    obtain ⟨nk1, nk2⟩ := lb_neg (fun hq => (ok k hk hq).1) hn2 (hl k hk)
    refine ⟨fun c => absurd c (by omega), fun _ => mnear_ok gk m1 ha hk ⟨_, rfl, fun c => skip (fun q => by rw [bi_0] at c; rw [c] at q; cases q), fun c => ⟨by omega, fun c1 => skip (fun _ _ q => by rw [na1.mp c1] at q; cases q), fun c1 => ⟨by omega, fun c2 => skip (fun _ q _ => by rw [nk1.mp c2] at q; cases q), fun c2 => ⟨by omega, by omega, ?_⟩⟩⟩⟩⟩
    have hqa : qt w h sh M H a = true := by
      cases e : qt w h sh M H a
      · exact absurd (na1.mpr e) c1
      · rfl
    have hqk : qt w h sh M H k = true := by
      cases e : qt w h sh M H k
      · exact absurd (nk1.mpr e) c2
      · rfl
    have hnk : nb w h sh a k = true := by
      rw [bi_0] at c
      simpa using c
    obtain ⟨la1, la2⟩ := ok a ha hqa
    obtain ⟨lk1, lk2⟩ := ok k hk hqk
    have va := hl a ha
    have vk := hl k hk
    rw [if_pos hqa] at va
    rw [if_pos hqk] at vk
    rw [va, vk, z_le (by omega) (by omega) (by omega) (by omega)]
    refine ⟨fun c3 => skip (fun _ _ _ => by omega), fun c3 => ⟨by omega, by omega, fun I2 e2 => ?_⟩⟩
    refine ih (fun i => if i = a then l k else l i) I2 (fun q hq => by rw [e2, u2_other _ _ _ _ hq]; exact o q hq) (fun i hi => ?_) (fun i hi hq => ?_) (fun i hi hq => ?_) (fun y hy1 hn hq hqa2 x hx hqx hr => ?_)
    · rw [e2, u2_at]
      by_cases e : i = a
      · rw [if_pos e, e, hqa, if_pos rfl]
        simp only [if_true]
      · rw [if_neg e]
        simp only [if_neg e]
        exact hl i hi
    · by_cases e : i = a
      · simp only [if_pos e]
        rw [e]
        exact ⟨lk1, con_tr hS ha hk (con_step ha ha hk con_refl hnk hqk) lk2⟩
      · simp only [if_neg e]
        exact ok i hi hq
    · have hbi := hb i hi hq
      by_cases e : i = a
      · subst e
        rw [if_neg (by omega)] at hbi ⊢
        intro x hx hqx hr
        have := hbi x hx hqx hr
        simp only [if_true]
        omega
      · unfold lbB at hbi ⊢
        simp only [if_neg e]
        exact hbi
    · simp only [if_true]
      by_cases e : y = k
      · subst e
        exact bt y hk hq x hx hqx hr
      · have := hy y (by omega) hn hq hqa2 x hx hqx hr
        omega
theorem mc39 (gk : gOk w h sh) {I0 : tg_I} (hm0 : mst w h sh M H B F I0) (hS : ∀ i, qt w h sh M H i = true → i < w * h) {c : Nat}
    (hp : ∀ (l : Nat → Nat) (I' : tg_I), onlyI 16 I0 I' → lbI (w * h) (qt w h sh M H) l I' → lbOk (w * h) (nb w h sh) (qt w h sh M H) l → (∀ i, i < w * h → qt w h sh M H i = true → lbB (w * h) (nb w h sh) (qt w h sh M H) (w * h) l i) → l_X9_clicks_147 I' J P (zI c) 0) :
    ∀ t, t ≤ w * h → ∀ (l : Nat → Nat) (I1 : tg_I), onlyI 16 I0 I1 → lbI (w * h) (qt w h sh M H) l I1 → lbOk (w * h) (nb w h sh) (qt w h sh M H) l → (∀ i, i < w * h → qt w h sh M H i = true → lbB (w * h) (nb w h sh) (qt w h sh M H) t l i) → l_X9_clicks_39 I1 J P (zI c) (zI t) := by
  obtain ⟨hn1, hn2⟩ := mul_le100 gk
  refine up_loop (w * h) ?_ ?_
  · intro l I1 o hl ok hb
    have m1 : mst w h sh M H B F I1 := mst_keep hm0 (fun q hq => o q (by omega))
    exact s_X9_clicks_39 _ _ ⟨fun _ => hp l I1 o hl ok hb, fun c => absurd (by rw [m1.1.2.2.2]; exact Int32.le_refl _) c⟩
  · intro t ht ih l I1 o hl ok hb
    have m1 : mst w h sh M H B F I1 := mst_keep hm0 (fun q hq => o q (by omega))
    refine s_X9_clicks_39 _ _ ⟨fun c => absurd c ?_, fun _ => ?_⟩
    · rw [m1.1.2.2.2, z_le (by omega) (by omega) (by omega) (by omega)]; omega
    · have inner : ∀ a, a ≤ w * h → ∀ (l : Nat → Nat) (I1 : tg_I), onlyI 16 I0 I1 → lbI (w * h) (qt w h sh M H) l I1 → lbOk (w * h) (nb w h sh) (qt w h sh M H) l → (∀ i, i < w * h → qt w h sh M H i = true → (if i < a then lbB (w * h) (nb w h sh) (qt w h sh M H) (t + 1) l i else lbB (w * h) (nb w h sh) (qt w h sh M H) t l i)) → l_X9_clicks_49 I1 J P (zI c) (zI t) (zI a) := by
        refine up_loop (w * h) ?_ ?_
        · intro l I1 o hl ok hb
          have m1 : mst w h sh M H B F I1 := mst_keep hm0 (fun q hq => o q (by omega))
          refine s_X9_clicks_49 _ _ _ ⟨fun _ => ?_, fun c => absurd (by rw [m1.1.2.2.2]; exact Int32.le_refl _) c⟩
          rw [show (1 : Int32) = zI 1 from rfl, z_add]
          exact ih l I1 o hl ok (fun i hi hq => by have := hb i hi hq; rw [if_pos hi] at this; exact this)
        · intro a ha iha l I1 o hl ok hb
          have m1 : mst w h sh M H B F I1 := mst_keep hm0 (fun q hq => o q (by omega))
          refine s_X9_clicks_49 _ _ _ ⟨fun c => absurd c ?_, fun _ => ?_⟩
          · rw [m1.1.2.2.2, z_le (by omega) (by omega) (by omega) (by omega)]; omega
          · refine mc60 gk hm0 hS ha (fun l' I' o' hl' ok' hb' => ?_) 0 (Nat.zero_le _) l I1 o hl ok hb (fun y hy => absurd hy (by omega))
            rw [show (1 : Int32) = zI 1 from rfl, z_add]
            exact iha l' I' o' hl' ok' hb'
      exact inner 0 (Nat.zero_le _) l I1 o hl ok (fun i hi hq => by rw [if_neg (by omega)]; exact hb i hi hq)
theorem mc147 (gk : gOk w h sh) {I0 : tg_I} (hm0 : mst w h sh M H B F I0) (hS : ∀ i, qt w h sh M H i = true → i < w * h) {l : Nat → Nat} (hl : lbI (w * h) (qt w h sh M H) l I0) (ok : lbOk (w * h) (nb w h sh) (qt w h sh M H) l) (hb : ∀ i, i < w * h → qt w h sh M H i = true → lbB (w * h) (nb w h sh) (qt w h sh M H) (w * h) l i) (hp : P (some (.int (zI (clk w h sh M H : Nat)))) I0 J) : l_X9_clicks_147 I0 J P 0 0 := by
  obtain ⟨hn1, hn2⟩ := mul_le100 gk
  have hsy : ∀ i j, i < w * h → j < w * h → nb w h sh i j = true → nb w h sh j i = true := fun i j hi hj hn => nb_sym1 gk hi hn
  have key := up_loop (L := fun k => l_X9_clicks_147 I0 J P (zI ((fb_ct (fun s => lo (w * h) (nb w h sh) (qt w h sh M H) s s) k + fb_ct (fun i => H i && !M i && !qt w h sh M H i && decide (nin w h sh (qt w h sh M H) i = 0)) k : Nat) : Int)) (zI k)) (w * h) ?_ ?_ 0 (Nat.zero_le _)
  · exact key
  · exact s_X9_clicks_147 _ _ ⟨fun _ => hp, fun c => absurd (by rw [hm0.1.2.2.2]; exact Int32.le_refl _) c⟩
  · intro a ha ih
    have h1 := fb_ct_succ (fun s => lo (w * h) (nb w h sh) (qt w h sh M H) s s) a
    have h2 := fb_ct_succ (fun i => H i && !M i && !qt w h sh M H i && decide (nin w h sh (qt w h sh M H) i = 0)) a
    have hnx : zI (a : Int) + 1 = zI ((a + 1 : Nat) : Int) := by rw [show (1 : Int32) = zI 1 from rfl, z_add]; rfl
    obtain ⟨na1, na2⟩ := lb_neg (fun hq => (ok a ha hq).1) hn2 (hl a ha)
    obtain ⟨b1, b2, b3⟩ := hm0.2.2 a (by omega)
    have hself : I0 16 a = zI a ↔ lo (w * h) (nb w h sh) (qt w h sh M H) a a = true := by
      cases e : qt w h sh M H a
      · have v := hl a ha
        rw [e, if_neg (by simp), show (-1 : Int32) = zI (-1) from rfl] at v
        rw [v, z_eq (by omega) (by omega) (by omega) (by omega), lo_iff, e]
        constructor
        · intro q; omega
        · intro q; cases q.1
      · have v := hl a ha
        rw [if_pos e] at v
        have := (ok a ha e).1
        rw [v, z_eq (by omega) (by omega) (by omega) (by omega), ← lb_min hsy hS ok hb e]
        omega
    -- the loop over the neighbours: alone as long as no neighbour is quiet
    have inner : ∀ k, k ≤ w * h → ∀ r : Bool, (r = true ↔ (H a && !M a && !qt w h sh M H a) = true ∧ ∀ y, y < k → ¬ (nb w h sh a y = true ∧ qt w h sh M H y = true)) → l_X9_clicks_191 I0 J P (zI ((fb_ct (fun s => lo (w * h) (nb w h sh) (qt w h sh M H) s s) a + fb_ct (fun i => H i && !M i && !qt w h sh M H i && decide (nin w h sh (qt w h sh M H) i = 0)) a : Nat) : Int)) (zI a) (bi r) (zI k) := by
      refine up_loop (w * h) ?_ ?_
      · intro r hr
        have hr2 : r = (H a && !M a && !qt w h sh M H a && decide (nin w h sh (qt w h sh M H) a = 0)) := by
          have hz : nin w h sh (qt w h sh M H) a = 0 ↔ ∀ y, y < w * h → ¬ (nb w h sh a y = true ∧ qt w h sh M H y = true) := by
            unfold nin
            rw [fb_ct_zero]
            constructor
            · intro q y hy hh
              have := q y hy
              rw [hh.1, hh.2] at this; cases this
            · intro q y hy
              have := q y hy
              cases e1 : nb w h sh a y
              · rfl
              · cases e2 : qt w h sh M H y
                · rfl
                · exact absurd ⟨e1, e2⟩ this
          cases e : r
          · cases e2 : (H a && !M a && !qt w h sh M H a && decide (nin w h sh (qt w h sh M H) a = 0))
            · rfl
            · rw [Bool.and_eq_true, decide_eq_true_eq] at e2
              have := hr.mpr ⟨e2.1, hz.mp e2.2⟩
              rw [e] at this; cases this
          · obtain ⟨q1, q2⟩ := hr.mp e
            rw [q1, decide_eq_true (hz.mpr q2)]
            rfl
        refine s_X9_clicks_191 _ _ _ _ ⟨fun _ => ?_, fun c => absurd (by rw [hm0.1.2.2.2]; exact Int32.le_refl _) c⟩
        rw [z_in (by omega) (by omega), z_cl (by omega), hself, bi_0, hnx]
        rw [h1, h2, ← hr2] at ih
        refine ⟨by omega, fun c => ?_, fun c => ⟨fun c2 => ?_, fun c2 => ?_⟩⟩
        · have hrf : r = false := by
            rw [hr2, (lo_iff.mp c).1]
            simp
          rw [c, hrf] at ih
          simp only [if_true, Bool.false_eq_true, if_false, Nat.add_zero] at ih
          rw [show (1 : Int32) = zI 1 from rfl, z_add]
          rw [show (((fb_ct (fun s => lo (w * h) (nb w h sh) (qt w h sh M H) s s) a + fb_ct (fun i => H i && !M i && !qt w h sh M H i && decide (nin w h sh (qt w h sh M H) i = 0)) a : Nat) : Int)) + 1 = ((fb_ct (fun s => lo (w * h) (nb w h sh) (qt w h sh M H) s s) a + 1 + fb_ct (fun i => H i && !M i && !qt w h sh M H i && decide (nin w h sh (qt w h sh M H) i = 0)) a : Nat) : Int) by omega]
          exact ih
        · rw [show lo (w * h) (nb w h sh) (qt w h sh M H) a a = false by simpa using c, c2] at ih
          simp only [Bool.false_eq_true, if_false, Nat.add_zero] at ih
          rw [show (0 : Int32) = zI 0 from rfl, z_add, Int.add_zero]
          exact ih
        · rw [show lo (w * h) (nb w h sh) (qt w h sh M H) a a = false by simpa using c, show r = true by simpa using c2] at ih
          simp only [Bool.false_eq_true, if_false, if_true, Nat.add_zero] at ih
          rw [show (1 : Int32) = zI 1 from rfl, z_add]
          rw [show (((fb_ct (fun s => lo (w * h) (nb w h sh) (qt w h sh M H) s s) a + fb_ct (fun i => H i && !M i && !qt w h sh M H i && decide (nin w h sh (qt w h sh M H) i = 0)) a : Nat) : Int)) + 1 = ((fb_ct (fun s => lo (w * h) (nb w h sh) (qt w h sh M H) s s) a + (fb_ct (fun i => H i && !M i && !qt w h sh M H i && decide (nin w h sh (qt w h sh M H) i = 0)) a + 1) : Nat) : Int) by omega]
          exact ih
      · intro k hk ihk r hr
        have hnk : zI (k : Int) + 1 = zI ((k + 1 : Nat) : Int) := by rw [show (1 : Int32) = zI 1 from rfl, z_add]; rfl
        obtain ⟨nk1, nk2⟩ := lb_neg (fun hq => (ok k hk hq).1) hn2 (hl k hk)
        refine s_X9_clicks_191 _ _ _ _ ?_
        rw [hm0.1.2.2.2, z_le (by omega) (by omega) (by omega) (by omega), hnk, bi_0]
        refine ⟨fun c => absurd c (by omega), fun _ => ⟨fun c => ihk false ⟨fun q => (by cases q), fun q => ?_⟩, fun c => mnear_ok gk hm0 ha hk ⟨_, rfl, ?_⟩⟩⟩
        · have := hr.mpr ⟨q.1, fun y hy => q.2 y (by omega)⟩
          rw [c] at this; cases this
        · have hrt : r = true := by simpa using c
          obtain ⟨q1, q2⟩ := hr.mp hrt
          rw [bi_0, z_in (by omega) (by omega), z_cl (by omega), nk2]
          have yes : ¬ (nb w h sh a k = true ∧ qt w h sh M H k = true) → l_X9_clicks_191 I0 J P (zI ((fb_ct (fun s => lo (w * h) (nb w h sh) (qt w h sh M H) s s) a + fb_ct (fun i => H i && !M i && !qt w h sh M H i && decide (nin w h sh (qt w h sh M H) i = 0)) a : Nat) : Int)) (zI a) 1 (zI ((k + 1 : Nat) : Int)) := fun hno => ihk true ⟨fun _ => ⟨q1, fun y hy => by
            by_cases e : y = k
            · rw [e]; exact hno
            · exact q2 y (by omega)⟩, fun _ => rfl⟩
          refine ⟨fun c1 => yes (fun q => by rw [c1] at q; cases q.1), fun c1 => ⟨by omega, fun c2 => ihk false ⟨fun q => (by cases q), fun q => absurd ⟨by simpa using c1, c2⟩ (q.2 k (by omega))⟩, fun c2 => yes (fun q => c2 q.2)⟩⟩
    have start : ∀ r : Bool, (r = true ↔ (H a && !M a && !qt w h sh M H a) = true) → l_X9_clicks_191 I0 J P (zI ((fb_ct (fun s => lo (w * h) (nb w h sh) (qt w h sh M H) s s) a + fb_ct (fun i => H i && !M i && !qt w h sh M H i && decide (nin w h sh (qt w h sh M H) i = 0)) a : Nat) : Int)) (zI a) (bi r) 0 := fun r hr => inner 0 (Nat.zero_le _) r (hr.trans ⟨fun q => ⟨q, fun y hy => absurd hy (by omega)⟩, fun q => q.1⟩)
    refine s_X9_clicks_147 _ _ ?_
    rw [hm0.1.2.2.2, z_le (by omega) (by omega) (by omega) (by omega), z_in (by omega) (by omega), z_cl (by omega), b1, b2, sc_0 ha, bi_0, na2]
    refine ⟨fun c => absurd c (by omega), fun _ => ⟨by omega, fun c => start false ?_, fun c => ⟨by omega, fun c2 => start false ?_, fun c2 => ⟨by omega, fun c3 => start false ?_, fun c3 => start true ?_⟩⟩⟩⟩
    · rw [show H a = false by simpa using c]; simp
    · rw [show M a = true by simpa using c2]; simp
    · rw [c3]; simp
    · rw [c, c2, show qt w h sh M H a = false by simpa using c3]; simp
theorem m_clicks {mv kd md : Nat} {hist : Nat → hS} {R T : Nat → Bool} (ho : okD ((w, h, sh), (M, H, B, F), (mv, hist), (kd, R, T, md))) (hr : relM ((w, h, sh), (M, H, B, F), (mv, hist), (kd, R, T, md)) I) (hp : ∀ I', relM ((w, h, sh), (M, H, B, F), (mv, hist), (kd, R, T, md)) I' → P (some (.int (zI (clk w h sh M H : Nat)))) I' J) : call pgM zX9_clicks [.ref 0] I J P := by
  obtain ⟨r1, r2, r3, r4, r5, r6, r7⟩ := id hr
  obtain ⟨gk, oS, -⟩ := ho
  obtain ⟨hn1, hn2⟩ := mul_le100 gk
  have hS : ∀ i, qt w h sh M H i = true → i < w * h := fun i hi => by
    rcases Nat.lt_or_ge i (w * h) with z | z
    · exact z
    · unfold qt at hi
      rw [(oS.1 i z).1] at hi
      simp at hi
  refine e_X9_clicks ?_
  have key := up_loop (L := fun k => ∀ I1, onlyI 16 I I1 → (∀ i, i < k → I1 16 i = (if qt w h sh M H i then zI i else -1)) → l_X9_clicks_4 I1 J P 0 (zI k)) (w * h) ?_ ?_ 0 (Nat.zero_le _) I (fun _ _ => rfl) (fun i hi => absurd hi (by omega))
  · exact key
  · intro I1 o z
    have m1 : mst w h sh M H B F I1 := mst_keep r1 (fun q hq => o q (by omega))
    refine s_X9_clicks_4 _ _ ⟨fun _ => ?_, fun c => absurd (by rw [m1.1.2.2.2]; exact Int32.le_refl _) c⟩
    refine mc39 (c := 0) gk m1 hS (fun l I2 o2 hl ok hb => ?_) 0 (Nat.zero_le _) (fun i => i) I1 (fun _ _ => rfl) z (fun i hi hq => ⟨hi, con_refl⟩) (fun i hi hq x hx hqx hr => ?_)
    · have m2 : mst w h sh M H B F I2 := mst_keep m1 (fun q hq => o2 q (by omega))
      refine mc147 gk m2 hS hl ok hb (hp I2 ⟨m2, ?_, ?_, ?_, ?_, ?_, ?_⟩)
      · rw [o2 0 (by decide), o 0 (by decide)]; exact r2
      · rw [o2 5 (by decide), o 5 (by decide)]; exact r3
      · rw [o2 0 (by decide), o 0 (by decide)]; exact r4
      · rw [o2 9 (by decide), o 9 (by decide)]; exact r5
      · rw [o2 10 (by decide), o 10 (by decide)]; exact r6
      · rw [o2 0 (by decide), o 0 (by decide)]; exact r7
    · simp [rch] at hr
      show i ≤ x
      omega
  · intro k hk ih I1 o z
    have m1 : mst w h sh M H B F I1 := mst_keep r1 (fun q hq => o q (by omega))
    have hnx : zI (k : Int) + 1 = zI ((k + 1 : Nat) : Int) := by rw [show (1 : Int32) = zI 1 from rfl, z_add]; rfl
    have fin : ∀ (v : Int32) (I2 : tg_I), v = (if qt w h sh M H k then zI k else -1) → I2 = u2 I1 16 k v → l_X9_clicks_4 I2 J P 0 (zI ((k + 1 : Nat) : Int)) := fun v I2 ev e2 => by
      refine ih I2 (fun q hq => by rw [e2, u2_other _ _ _ _ hq]; exact o q hq) (fun i hi => ?_)
      rw [e2, u2_at]
      by_cases e : i = k
      · rw [if_pos e, e]; exact ev
      · rw [if_neg e]; exact z i (by omega)
    refine s_X9_clicks_4 _ _ ?_
    rw [m1.1.2.2.2, z_le (by omega) (by omega) (by omega) (by omega), hnx]
    refine ⟨fun c => absurd c (by omega), fun _ => isBare_ok gk m1 hk ⟨_, rfl, ?_⟩⟩
    rw [bi_0, z_in (by omega) (by omega), z_cl (by omega)]
    refine ⟨fun c => ⟨by omega, fun I2 e2 => fin _ I2 (by rw [c]; rfl) e2⟩, fun c => ⟨by omega, fun I2 e2 => fin _ I2 (by rw [show qt w h sh M H k = true by simpa using c]; rfl) e2⟩⟩
end MC
