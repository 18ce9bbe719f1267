/-! clicks: the least cells of the heaps -/
/-- cells of S whose heap has no cell below k -/
def lo (n : Nat) (nbr : Nat → Nat → Bool) (S : Nat → Bool) (k : Nat) : Nat → Bool := fun i => S i && decide (∀ x, x < n → rch n nbr S i n x = true → k ≤ x)
theorem lo_iff {n : Nat} {nbr : Nat → Nat → Bool} {S : Nat → Bool} {k i : Nat} : lo n nbr S k i = true ↔ S i = true ∧ ∀ x, x < n → con n nbr S i x → k ≤ x := by
  unfold lo con
  simp
theorem lo_zero {n : Nat} {nbr : Nat → Nat → Bool} {S : Nat → Bool} {i : Nat} : lo n nbr S 0 i = S i := by
  cases e : S i
  · cases e2 : lo n nbr S 0 i
    · rfl
    · rw [(lo_iff.mp e2).1] at e; cases e
  · exact lo_iff.mpr ⟨e, fun x _ _ => Nat.zero_le x⟩
theorem lo_n {n : Nat} {nbr : Nat → Nat → Bool} {S : Nat → Bool} (hS : ∀ i, S i = true → i < n) {i : Nat} : lo n nbr S n i = false := by
  cases e : lo n nbr S n i
  · rfl
  · obtain ⟨h1, h2⟩ := lo_iff.mp e
    have := h2 i (hS i h1) con_refl
    have := hS i h1
    omega
theorem con_sub {n : Nat} {nbr : Nat → Nat → Bool} {S S' : Nat → Bool} {a : Nat} (hS : ∀ i, S i = true → i < n) (ha : a < n) (hs : ∀ i, S' i = true → S i = true) {x : Nat} (h : con n nbr S' a x) : con n nbr S a x :=
  rch_closed (C := fun x => con n nbr S a x) con_refl (fun y z hy h hn hz => con_step ha hy (hS z (hs z hz)) h hn (hs z hz)) n x h
theorem lo_step {n : Nat} {nbr : Nat → Nat → Bool} {S : Nat → Bool} {k : Nat} (hsy : ∀ i j, i < n → j < n → nbr i j = true → nbr j i = true) (hS : ∀ i, S i = true → i < n) (hk : lo n nbr S k k = true) : ∀ x, flood n nbr (fun _ => true) k (lo n nbr S k) x = lo n nbr S (k + 1) x := by
  intro x
  obtain ⟨k1, k2⟩ := lo_iff.mp hk
  have hkn := hS k k1
  have hin : ∀ y, con n nbr S k y → S y = true → lo n nbr S k y = true := fun y hy hs => lo_iff.mpr ⟨hs, fun z hz hc => k2 z hz (con_tr hS hkn (hS y hs) hy hc)⟩
  have hto : ∀ y, con n nbr S k y → con n nbr (lo n nbr S k) k y := fun y hy =>
    (rch_closed (n := n) (nbr := nbr) (S := S) (a := k) (C := fun y => con n nbr S k y ∧ con n nbr (lo n nbr S k) k y) ⟨con_refl, con_refl⟩ (fun a b ha h hn hb => ⟨con_step hkn ha (hS b hb) h.1 hn hb, con_step hkn ha (hS b hb) h.2 hn (hin b (con_step hkn ha (hS b hb) h.1 hn hb) hb)⟩) n y hy).2
  have hlS : ∀ i, lo n nbr S k i = true → S i = true := fun i hi => (lo_iff.mp hi).1
  have key := flood_con (n := n) (nbr := nbr) (H := lo n nbr S k) (c := k) (fun i hi => hS i (hlS i hi)) hk x
  have iff2 : flood n nbr (fun _ => true) k (lo n nbr S k) x = true ↔ lo n nbr S (k + 1) x = true := by
    rw [key, lo_iff, lo_iff]
    constructor
    · rintro ⟨⟨a1, a2⟩, a3⟩
      refine ⟨a1, fun z hz hc => ?_⟩
      have := a2 z hz hc
      rcases Nat.lt_or_ge k z with q | q
      · exact q
      · exfalso
        have e : z = k := by omega
        rw [e] at hc
        exact a3 (hto x (con_sym hsy hS a1 hc))
    · rintro ⟨a1, a2⟩
      refine ⟨⟨a1, fun z hz hc => by have := a2 z hz hc; omega⟩, fun q => ?_⟩
      have hc := con_sub hS hkn hlS q
      have := a2 k hkn (con_sym hsy hS k1 hc)
      omega
  cases e1 : flood n nbr (fun _ => true) k (lo n nbr S k) x
  · cases e2 : lo n nbr S (k + 1) x
    · rfl
    · rw [iff2.mpr e2] at e1; cases e1
  · exact (iff2.mp e1).symm
theorem lo_same {n : Nat} {nbr : Nat → Nat → Bool} {S : Nat → Bool} {k : Nat} (hsy : ∀ i j, i < n → j < n → nbr i j = true → nbr j i = true) (hS : ∀ i, S i = true → i < n) (hk : lo n nbr S k k = false) : ∀ x, lo n nbr S (k + 1) x = lo n nbr S k x := by
  intro x
  have iff2 : lo n nbr S (k + 1) x = true ↔ lo n nbr S k x = true := by
    rw [lo_iff, lo_iff]
    constructor
    · rintro ⟨a1, a2⟩
      exact ⟨a1, fun z hz hc => by have := a2 z hz hc; omega⟩
    · rintro ⟨a1, a2⟩
      refine ⟨a1, fun z hz hc => ?_⟩
      have := a2 z hz hc
      rcases Nat.lt_or_ge k z with q | q
      · exact q
      · exfalso
        have e : z = k := by omega
        subst e
        have hz1 : S z = true := rch_S a1 hc
        have : lo n nbr S z z = true := lo_iff.mpr ⟨hz1, fun y hy hc2 => a2 y hy (con_tr hS (hS x a1) hz hc hc2)⟩
        rw [hk] at this; cases this
  cases e1 : lo n nbr S (k + 1) x
  · cases e2 : lo n nbr S k x
    · rfl
    · rw [iff2.mpr e2] at e1; cases e1
  · exact (iff2.mp e1).symm
def clk (w h sh : Nat) (M H : Nat → Bool) : Nat := fb_ct (fun s => lo (w * h) (nb w h sh) (qt w h sh M H) s s) (w * h) + fb_ct (fun i => H i && !M i && !qt w h sh M H i && decide (nin w h sh (qt w h sh M H) i = 0)) (w * h)
section XK
variable {I : tg_I} {J : tg_J} {P : Option Value → tg_I → tg_J → Prop} {w h sh b : Nat} {M H B F : Nat → Bool}
theorem leastOpenings_ok (hb : isBd b) (gk : gOk w h sh) (g : gridX b w h sh I J) (ho : okS (w * h) M H B F) (v : bst b (w * h) M H B F J) (hp : ∀ I' J', onlyH b I I' J J' → P (some (.int (zI (clk w h sh M H : Nat)))) I' J') : call pgX zX1_leastOpenings [.ref b] I J P := by
  obtain ⟨hn1, hn2⟩ := mul_le100 gk
  have hsy : ∀ i j, i < w * h → j < w * h → nb w h sh i j = true → nb w h sh j i = true := fun i j hi hj hn => nb_sym1 gk hi hn
  have hS : ∀ i, qt w h sh M H i = true → i < w * h := fun i hi => by
    rcases Nat.lt_or_ge i (w * h) with z | z
    · exact z
    · unfold qt at hi
      rw [(ho.1 i z).1] at hi
      simp at hi
  refine e_X1_leastOpenings _ hb (clear_ok (bd_bits hb (by decide) (by decide)) (fun J1 o1 s1 => ⟨rfl, ?_⟩))
  have o1' : onlyH b I I J J1 := ⟨fun _ _ => rfl, o1⟩
  have second : ∀ (c : Nat) (Ia : tg_I) (Ja : tg_J), onlyH b I Ia J Ja → (∀ i, i < 128 → sB Ja (b + 12) i = qt w h sh M H i) → c = fb_ct (fun s => lo (w * h) (nb w h sh) (qt w h sh M H) s s) (w * h) → l_X1_leastOpenings_57 Ia Ja P b (zI c) 0 := by
    intro c Ia Ja oa sa hc
    have ga := oa.grid g
    have va := oa.bst v
    have key := up_loop (L := fun k => l_X1_leastOpenings_57 Ia Ja P b (zI ((c + fb_ct (fun i => H i && !M i && !qt w h sh M H i && decide (nin w h sh (qt w h sh M H) i = 0)) k : Nat) : Int)) (zI k)) (w * h) ?_ ?_ 0 (Nat.zero_le _)
    · exact key
    · refine s_X1_leastOpenings_57 _ _ _ hb ⟨fun _ => ?_, fun c => absurd (by rw [ga.1.2.2.2]; exact Int32.le_refl _) c⟩
      have := hp Ia Ja oa
      unfold clk at this
      rw [← hc] at this
      exact this
    · intro k hk ih
      have hs := fb_ct_succ (fun i => H i && !M i && !qt w h sh M H i && decide (nin w h sh (qt w h sh M H) i = 0)) k
      have hnx : zI (k : Int) + 1 = zI ((k + 1 : Nat) : Int) := by rw [show (1 : Int32) = zI 1 from rfl, z_add]; rfl
      obtain ⟨v1, v2, v3, v4, v5⟩ := va k (by omega)
      have no : (H k && !M k && !qt w h sh M H k && decide (nin w h sh (qt w h sh M H) k = 0)) = false → l_X1_leastOpenings_57 Ia Ja P b (zI ((c + fb_ct (fun i => H i && !M i && !qt w h sh M H i && decide (nin w h sh (qt w h sh M H) i = 0)) k : Nat) : Int)) (zI ((k + 1 : Nat) : Int)) := fun hf => by
        rw [hs] at ih
        simp only [hf, Bool.false_eq_true, if_false, Nat.add_zero] at ih
        exact ih
      refine s_X1_leastOpenings_57 _ _ _ hb ?_
      rw [ga.1.2.2.2, z_le (by omega) (by omega) (by omega) (by omega), hnx]
      refine ⟨fun c => absurd c (by omega), fun _ => has_ok (bd_bits hb (by decide) (by decide)) (by omega) ⟨_, rfl, ?_⟩⟩
      rw [sa k (by omega), bi_0]
      refine ⟨fun c1 => ?_, fun c1 => ?_⟩
      · have hq : qt w h sh M H k = true := by simpa using c1
        have hf := no (by rw [hq]; simp)
        exact has_ok (bd_bits hb (by decide) (by decide)) (by omega) ⟨_, rfl, fun _ => hf, fun _ => has_ok (bd_bits hb (by decide) (by decide)) (by omega) ⟨_, rfl, fun _ => hf, fun _ => hf⟩⟩
      · refine touch_nin hb (bd_bits hb (by decide) (by decide)) gk ga hk (fun i hi => sa i (by omega)) ⟨_, rfl, ?_⟩
        rw [bi_0]
        refine ⟨fun c2 => ?_, fun c2 => ?_⟩
        · have c2 : nin w h sh (qt w h sh M H) k = 0 := by
            have : ¬ 0 < nin w h sh (qt w h sh M H) k := by simpa using c2
            omega
          refine has_ok (bd_bits hb (by decide) (by decide)) (by omega) ⟨_, rfl, ?_⟩
          rw [v2, bi_0]
          refine ⟨fun c3 => no (by rw [c3]; rfl), fun c3 => has_ok (bd_bits hb (by decide) (by decide)) (by omega) ⟨_, rfl, ?_⟩⟩
          rw [v1, bi_0]
          refine ⟨fun c4 => no (by rw [show M k = true by simpa using c4]; simp), fun c4 => ?_⟩
          have ht : (H k && !M k && !qt w h sh M H k && decide (nin w h sh (qt w h sh M H) k = 0)) = true := by
            rw [show H k = true by simpa using c3, c4, c1, decide_eq_true c2]
            rfl
          rw [hs] at ih
          simp only [ht, if_true] at ih
          rw [show (1 : Int32) = zI 1 from rfl, z_add]
          exact ih
        · have c2 : ¬ nin w h sh (qt w h sh M H) k = 0 := by simpa using c2
          have hf := no (by rw [decide_eq_false c2]; simp)
          exact has_ok (bd_bits hb (by decide) (by decide)) (by omega) ⟨_, rfl, fun _ => hf, fun _ => has_ok (bd_bits hb (by decide) (by decide)) (by omega) ⟨_, rfl, fun _ => hf, fun _ => hf⟩⟩
  have key := up_loop (L := fun k => ∀ Ia Ja, onlyH b I Ia J Ja → (∀ i, i < 128 → sB Ja (b + 12) i = (qt w h sh M H i && !lo (w * h) (nb w h sh) (qt w h sh M H) k i)) → l_X1_leastOpenings_11 Ia Ja P b (zI ((fb_ct (fun s => lo (w * h) (nb w h sh) (qt w h sh M H) s s) k : Nat) : Int)) (zI k)) (w * h) ?_ ?_ 0 (Nat.zero_le _) I J1 o1' (fun i hi => by rw [s1 i, lo_zero]; cases qt w h sh M H i <;> rfl)
  · exact key
  · intro Ia Ja oa sa
    have ga := oa.grid g
    refine s_X1_leastOpenings_11 _ _ _ hb ⟨fun _ => second _ Ia Ja oa (fun i hi => ?_) rfl, fun c => absurd (by rw [ga.1.2.2.2]; exact Int32.le_refl _) c⟩
    rw [sa i hi, lo_n hS]
    simp
  · intro k hk ih Ia Ja oa sa
    have ga := oa.grid g
    have va := oa.bst v
    have hs := fb_ct_succ (fun s => lo (w * h) (nb w h sh) (qt w h sh M H) s s) k
    have hnx : zI (k : Int) + 1 = zI ((k + 1 : Nat) : Int) := by rw [show (1 : Int32) = zI 1 from rfl, z_add]; rfl
    have no : lo (w * h) (nb w h sh) (qt w h sh M H) k k = false → l_X1_leastOpenings_11 Ia Ja P b (zI ((fb_ct (fun s => lo (w * h) (nb w h sh) (qt w h sh M H) s s) k : Nat) : Int)) (zI ((k + 1 : Nat) : Int)) := fun hf => by
      have := ih Ia Ja oa (fun i hi => by rw [lo_same hsy hS hf]; exact sa i hi)
      rw [hs] at this
      simp only [hf, Bool.false_eq_true, if_false, Nat.add_zero] at this
      exact this
    refine s_X1_leastOpenings_11 _ _ _ hb ?_
    rw [ga.1.2.2.2, z_le (by omega) (by omega) (by omega) (by omega), hnx]
    refine ⟨fun c => absurd c (by omega), fun _ => isQuiet_ok hb gk ga hk va ⟨_, rfl, ?_⟩⟩
    rw [bi_0]
    refine ⟨fun c => no ?_, fun c => has_ok (bd_bits hb (by decide) (by decide)) (by omega) ⟨_, rfl, ?_⟩⟩
    · cases e : lo (w * h) (nb w h sh) (qt w h sh M H) k k
      · rfl
      · rw [(lo_iff.mp e).1] at c; cases c
    · have hq : qt w h sh M H k = true := by simpa using c
      rw [sa k (by omega), hq, bi_0]
      refine ⟨fun c2 => no ?_, fun c2 => ?_⟩
      · simpa using c2
      · have hl : lo (w * h) (nb w h sh) (qt w h sh M H) k k = true := by simpa using c2
        have eX : (fun i => qt w h sh M H i && !(qt w h sh M H i && !lo (w * h) (nb w h sh) (qt w h sh M H) k i)) = lo (w * h) (nb w h sh) (qt w h sh M H) k := by
          funext i
          cases e : lo (w * h) (nb w h sh) (qt w h sh M H) k i
          · cases qt w h sh M H i <;> rfl
          · rw [(lo_iff.mp e).1]; rfl
        refine heapUp_ok (X0 := fun i => qt w h sh M H i && !lo (w * h) (nb w h sh) (qt w h sh M H) k i) hb gk ga va hk (by rw [hq, hl]; rfl) sa (fun I3 J3 o3 g3 v3 s3 => ⟨rfl, ?_⟩)
        have := ih I3 J3 (oa.tr o3) (fun i hi => ?_)
        · rw [hs] at this
          simp only [hl, if_true] at this
          rw [show (1 : Int32) = zI 1 from rfl, z_add]
          exact this
        · rw [s3 i hi]
          unfold hpS
          rw [eX, lo_step hsy hS hl]
          cases e1 : lo (w * h) (nb w h sh) (qt w h sh M H) k i
          · cases e2 : lo (w * h) (nb w h sh) (qt w h sh M H) (k + 1) i
            · simp [e1]
            · have := lo_iff.mp e2
              rw [lo_iff.mpr ⟨this.1, fun x hx hc => by have := this.2 x hx hc; omega⟩] at e1
              cases e1
          · have hq2 := (lo_iff.mp e1).1
            simp [e1, hq2]
end XK
