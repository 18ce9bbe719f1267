/-! the class: force; the true placement is one of those that fit -/
section XFq
variable {I : tg_I} {J : tg_J} {P : Option Value → tg_I → tg_J → Prop} {w h sh b : Nat} {M H B F N : Nat → Bool}
theorem cbl_u (v : Bool) : cbl w h sh M H N v ↔ rea (sT true (wW w h sh M H N) (npn w h sh H N : Nat) (npn w h sh H N)) ((mlN (w * h) M H : Int) - (if v then 1 else 0)) ((lsn w h sh H N : Int) - 1) := by
  unfold cbl
  rw [show sT true (wW w h sh M H N) (-1) (npn w h sh H N) = sT true (wW w h sh M H N) (npn w h sh H N : Nat) (npn w h sh H N) from funext fun t => sT_out true _ _ (fun j hj => ⟨by omega, by omega⟩) t]
theorem force_ok (hb : isBd b) (gk : gOk w h sh) (v : bst b (w * h) M H B F J) (ok : okS (w * h) M H B F) (hg : gdH w h sh H N = true) (hx : xpl w h sh H N I J) (hc : xct w h sh M H N I) (hp : ∀ J', (∀ q, q ≠ 18 → q ≠ 19 → q ≠ 29 → q ≠ 30 → J' q = J q) → (∀ i, i < 128 → (sB J' 18 i = true ↔ H i = true ∧ ¬ cbe w h sh M H N i false)) → (∀ i, i < 128 → (sB J' 19 i = true ↔ H i = true ∧ ¬ cbe w h sh M H N i true)) → P none I J') : call pgX zX5_force [.ref 17, .ref b] I J P := by
  obtain ⟨hn1, hn2⟩ := mul_le100 gk
  obtain ⟨x1, x2, x3, x4, x5⟩ := id hx
  have hnp := np_le (w := w) (h := h) (sh := sh) (H := H) (N := N) gk
  have hls := ls_le (w := w) (h := h) (sh := sh) (H := H) (N := N) gk
  have hml := ml_le (w := w) (h := h) (sh := sh) (M := M) (H := H) gk
  have hS := bdr_lt (w := w) (h := h) (sh := sh) (N := N) (fun i hi => (ok.1 i hi).1)
  have hpt : ∀ x, bdr w h sh H N x = true → ptn w h sh H N x < npn w h sh H N := fun x hx => ptN_lt (ajw_sym (w := w) (h := h) (sh := sh) (N := N)) hS hx
  refine e_X5_force _ hb (clear_ok bits18 (fun J1 o1 s1 => ⟨rfl, clear_ok bits19 (fun J2 o2 s2 => ⟨rfl, ?_⟩)⟩))
  have ob : ∀ n, n ≤ 13 → b + n < 17 ∨ 39 ≤ b + n := fun n hn => by rcases hb with e | e <;> omega
  have v2 : bst b (w * h) M H B F J2 := outP.bst (I := I) (I1 := I) hb (fun q hq => ⟨rfl, (o2 q (by omega)).trans (o1 q (by omega))⟩) v
  have x12 : ∀ i, i < 128 → sB J2 28 i = bdr w h sh H N i := fun i hi => by rw [sB_of ((o2 28 (by decide)).trans (o1 28 (by decide)))]; exact x1 i hi
  refine xml hb gk v2 ok ⟨_, rfl, size_ok (bd_bits hb (by decide) (by decide)) ⟨_, rfl, size_ok bits28 ⟨_, rfl, ?_⟩⟩⟩
  rw [xsz gk v2 ok x12]
  have key := up_loop (L := fun k => ∀ J3 : tg_J, (∀ q, q ≠ 18 → q ≠ 19 → q ≠ 29 → q ≠ 30 → J3 q = J q) → (∀ i, i < 128 → (sB J3 18 i = true ↔ bdr w h sh H N i = true ∧ ptn w h sh H N i < k ∧ ¬ cbb w h sh M H N i false)) → (∀ i, i < 128 → (sB J3 19 i = true ↔ bdr w h sh H N i = true ∧ ptn w h sh H N i < k ∧ ¬ cbb w h sh M H N i true)) → l_X5_force_38 I J3 P b (zI (mlN (w * h) M H : Nat)) (zI (lsn w h sh H N : Nat)) (zI k)) (npn w h sh H N) ?_ ?_ 0 (Nat.zero_le _) J2 (fun q a b _ _ => (o2 q b).trans (o1 q a)) (fun i _ => by
    rw [sB_of (o2 18 (by decide)), s1 i]
    exact ⟨fun q => (by cases q), fun q => absurd q.2.1 (by omega)⟩) (fun i _ => by
    rw [s2 i]
    exact ⟨fun q => (by cases q), fun q => absurd q.2.1 (by omega)⟩)
  · exact key
  · intro J3 o3 a3 b3
    have v3 : bst b (w * h) M H B F J3 := outP.bst (I := I) (I1 := I) hb (fun q hq => ⟨rfl, o3 q (by omega) (by omega) (by omega) (by omega)⟩) v
    have done : ∀ J', (∀ q, q ≠ 18 → q ≠ 19 → q ≠ 29 → q ≠ 30 → J' q = J q) → (∀ i, i < 128 → (sB J' 18 i = true ↔ sB J3 18 i = true ∨ (H i = true ∧ bdr w h sh H N i = false ∧ ¬ cbl w h sh M H N false))) → (∀ i, i < 128 → (sB J' 19 i = true ↔ sB J3 19 i = true ∨ (H i = true ∧ bdr w h sh H N i = false ∧ ¬ cbl w h sh M H N true))) → P none I J' := fun J' o' a' b' => by
      refine hp J' o' (fun i hi => ?_) (fun i hi => ?_)
      · rw [a' i hi, a3 i hi]
        unfold cbe
        cases e : bdr w h sh H N i
        · simp
        · have := (bdr_iff.mp e).1
          have := hpt i e
          simp [*]
      · rw [b' i hi, b3 i hi]
        unfold cbe
        cases e : bdr w h sh H N i
        · simp
        · have := (bdr_iff.mp e).1
          have := hpt i e
          simp [*]
    refine s_X5_force_38 _ _ _ _ hb ⟨fun _ => ?_, fun c => absurd (by rw [x2]; exact Int32.le_refl _) c⟩
    rw [show (0 : Int32) = zI 0 from rfl, z_le (by omega) (by omega) (by omega) (by omega)]
    refine ⟨fun c => done J3 o3 (fun i hi => ⟨fun q => Or.inl q, fun q => ?_⟩) (fun i hi => ⟨fun q => Or.inl q, fun q => ?_⟩), fun c => ?_⟩
    · rcases q with q | q
      · exact q
      · have hi2 : i < w * h := by
          rcases Nat.lt_or_ge i (w * h) with z | z
          · exact z
          · rw [(ok.1 i z).1] at q; cases q.1
        have : 0 < lsn w h sh H N := fb_ct_pos.mpr ⟨i, hi2, by rw [q.1, q.2.1]; rfl⟩
        omega
    · rcases q with q | q
      · exact q
      · have hi2 : i < w * h := by
          rcases Nat.lt_or_ge i (w * h) with z | z
          · exact z
          · rw [(ok.1 i z).1] at q; cases q.1
        have : 0 < lsn w h sh H N := fb_ct_pos.mpr ⟨i, hi2, by rw [q.1, q.2.1]; rfl⟩
        omega
    · rw [x2]
      refine sumWithout_ok x2 hnp (wWx gk hg hc) ⟨by omega, by omega⟩ (fun J4 o4 t4 => ⟨rfl, e_X5_forceLoose _ _ _ hb (copy_ok bits30 (bd_bits hb (by decide) (by decide)) (fun J5 o5 s5 => ⟨rfl, leave_ok bits30 bits28 (by decide) (fun J6 o6 s6 => ⟨rfl, ?_⟩)⟩))⟩)
      have t6 : ∀ t, t < 128 → sB J6 29 t = decide (0 < sT true (wW w h sh M H N) (npn w h sh H N : Nat) (npn w h sh H N) t) := fun t ht => by rw [sB_of ((o6 29 (by decide)).trans (o5 29 (by decide)))]; exact t4 t ht
      have f6 : ∀ i, i < 128 → sB J6 30 i = (H i && !bdr w h sh H N i) := fun i hi => by
        rw [s6 i hi, s5 i, sB_of (o4 (b + 8) (by rcases hb with e | e <;> omega) (by rcases hb with e | e <;> omega)), (v3 i hi).2.1, sB_of ((o5 28 (by decide)).trans (o4 28 (by decide) (by decide))), sB_of (o3 28 (by decide) (by decide) (by decide) (by decide)), x1 i hi]
      have o36 : ∀ q, q ≠ 29 → q ≠ 30 → J6 q = J3 q := fun q a b => by rw [o6 q b, o5 q b, o4 q a b]
      have oJ6 : ∀ q, q ≠ 18 → q ≠ 19 → q ≠ 29 → q ≠ 30 → J6 q = J q := fun q a b c d => (o36 q c d).trans (o3 q a b c d)
      rw [show (1 : Int32) = zI 1 from rfl, z_sub, z_sub]
      have ht := (cbl_u (w := w) (h := h) (sh := sh) (M := M) (H := H) (N := N) true)
      have hf := (cbl_u (w := w) (h := h) (sh := sh) (M := M) (H := H) (N := N) false)
      rw [if_pos rfl] at ht
      rw [if_neg (by simp), Int.sub_zero] at hf
      refine reaches_ok t6 (by omega) (by omega) (by omega) (by omega) (fun r hr => ⟨_, rfl, ?_⟩)
      rw [← ht] at hr
      rw [bi_0]
      refine ⟨fun c1 => reaches_ok t6 (by omega) (by omega) (by omega) (by omega) (fun r2 hr2 => ⟨_, rfl, ?_⟩), fun c1 => join_ok bits19 bits30 (by decide) (fun J7 o7 s7 => ⟨rfl, reaches_ok (fun t ht => by rw [sB_of (o7 29 (by decide))]; exact t6 t ht) (by omega) (by omega) (by omega) (by omega) (fun r2 hr2 => ⟨_, rfl, ?_⟩)⟩)⟩
      · rw [← hf] at hr2
        rw [bi_0]
        refine ⟨fun c2 => ⟨rfl, done J6 oJ6 (fun i hi => ?_) (fun i hi => ?_)⟩, fun c2 => join_ok bits18 bits30 (by decide) (fun J8 o8 s8 => ⟨rfl, ⟨rfl, done J8 (fun q a b c d => (o8 q a).trans (oJ6 q a b c d)) (fun i hi => ?_) (fun i hi => ?_)⟩⟩)⟩
        · rw [sB_of (o36 18 (by decide) (by decide))]
          have : cbl w h sh M H N false := hr2.mp (by simpa using c2)
          simp [this]
        · rw [sB_of (o36 19 (by decide) (by decide))]
          have : cbl w h sh M H N true := hr.mp (by simpa using c1)
          simp [this]
        · have : ¬ cbl w h sh M H N false := fun z => by rw [hr2.mpr z] at c2; cases c2
          rw [s8 i, f6 i hi, sB_of (o36 18 (by decide) (by decide))]
          simp [this]
        · have : cbl w h sh M H N true := hr.mp (by simpa using c1)
          rw [sB_of (o8 19 (by decide)), sB_of (o36 19 (by decide) (by decide))]
          simp [this]
      · rw [← hf] at hr2
        have nt : ¬ cbl w h sh M H N true := fun z => by rw [hr.mpr z] at c1; cases c1
        rw [bi_0]
        refine ⟨fun c2 => ⟨rfl, done J7 (fun q a b c d => (o7 q b).trans (oJ6 q a b c d)) (fun i hi => ?_) (fun i hi => ?_)⟩, fun c2 => join_ok bits18 bits30 (by decide) (fun J8 o8 s8 => ⟨rfl, ⟨rfl, done J8 (fun q a b c d => (o8 q a).trans ((o7 q b).trans (oJ6 q a b c d))) (fun i hi => ?_) (fun i hi => ?_)⟩⟩)⟩
        · rw [sB_of (o7 18 (by decide)), sB_of (o36 18 (by decide) (by decide))]
          have : cbl w h sh M H N false := hr2.mp (by simpa using c2)
          simp [this]
        · rw [s7 i, f6 i hi, sB_of (o36 19 (by decide) (by decide))]
          simp [nt]
        · have : ¬ cbl w h sh M H N false := fun z => by rw [hr2.mpr z] at c2; cases c2
          rw [s8 i, sB_of (o7 18 (by decide)), sB_of (o7 30 (by decide)), f6 i hi, sB_of (o36 18 (by decide) (by decide))]
          simp [this]
        · rw [sB_of (o8 19 (by decide)), s7 i, f6 i hi, sB_of (o36 19 (by decide) (by decide))]
          simp [nt]
  · intro p hpn ih J3 o3 a3 b3
    obtain ⟨L, l1, l2⟩ := x4 p hpn
    obtain ⟨k1, k2, k3⟩ := ptok_ok (w := w) (h := h) (sh := sh) (N := N) gk (fun i hi => (ok.1 i hi).1)
    have hptL := ptL_perm l1 (k3 p hpn).1
    have hfs := fo_s (w * h) (bdr w h sh H N) (ptn w h sh H N) p
    have hf1 := fo_le (w * h) (bdr w h sh H N) (ptn w h sh H N) (p + 1)
    rw [← l1.length_eq] at hfs
    have f1 := x3 p (by omega)
    have f2 := x3 (p + 1) (by omega)
    rw [hfs] at f2
    have hmem : ∀ x, x ∈ L ↔ bdr w h sh H N x = true ∧ ptn w h sh H N x = p := fun x => by
      rw [l1.mem_iff, pL_mem]
      exact ⟨fun q => q.2, fun q => ⟨hS x q.1, q⟩⟩
    refine s_X5_force_38 _ _ _ _ hb ?_
    rw [x2, z_le (by omega) (by omega) (by omega) (by omega), z_s p]
    refine ⟨fun c => absurd c (by omega), fun _ => sumWithout_ok x2 hnp (wWx gk hg hc) ⟨by omega, by omega⟩ (fun J4 o4 t4 => ⟨rfl, ?_⟩)⟩
    refine forcePart_ok (Wp := wW w h sh M H N p) (Z := wZ w h sh M H N) (L := L) (f := fo (w * h) (bdr w h sh H N) (ptn w h sh H N) p) (by omega) (fun x hx => by have := (hptL.2.1 x hx).1; omega) hptL.1 (by omega) f1 f2 l2 (fun m hm => wWx gk hg hc p m hpn hm) (fun x m hx hm => ?_) t4 hml hls (fun J5 o5 a5 b5 => ⟨rfl, ih J5 (fun q a b c d => (o5 q a b).trans ((o4 q c d).trans (o3 q a b c d))) (fun i hi => ?_) (fun i hi => ?_)⟩)
    · obtain ⟨q1, q2⟩ := (hmem x).mp hx
      have := wZ_le (w := w) (h := h) (sh := sh) (M := M) (H := H) (N := N) x m
      rw [q2] at this
      exact ⟨hc.2 x m q1 hm, this⟩
    · rw [a5 i hi, sB_of (o4 18 (by decide) (by decide)), a3 i hi, hmem i]
      constructor
      · rintro (⟨⟨q1, q2⟩, q3⟩ | ⟨q1, q2⟩)
        · refine ⟨q1, by omega, fun z => q3 ?_⟩
          obtain ⟨m, m1, m2, m3⟩ := z
          rw [if_neg (by simp), q2] at m2
          rw [q2] at m3
          exact ⟨m, m1, m2, m3⟩
        · exact ⟨q2.1, by omega, q2.2.2⟩
      · rintro ⟨q1, q2, q3⟩
        by_cases e : ptn w h sh H N i = p
        · refine Or.inl ⟨⟨q1, e⟩, ?_⟩
          rintro ⟨m, m1, m2, m3⟩
          exact q3 ⟨m, m1, by rw [if_neg (by simp), e]; exact m2, by rw [e]; exact m3⟩
        · exact Or.inr ⟨fun z => e z.2, q1, by omega, q3⟩
    · rw [b5 i hi, sB_of (o4 19 (by decide) (by decide)), b3 i hi, hmem i]
      constructor
      · rintro (⟨⟨q1, q2⟩, q3⟩ | ⟨q1, q2⟩)
        · refine ⟨q1, by omega, fun z => q3 ?_⟩
          obtain ⟨m, m1, m2, m3⟩ := z
          rw [if_pos rfl] at m2
          rw [q2] at m3
          exact ⟨m, m1, m2, m3⟩
        · exact ⟨q2.1, by omega, q2.2.2⟩
      · rintro ⟨q1, q2, q3⟩
        by_cases e : ptn w h sh H N i = p
        · refine Or.inl ⟨⟨q1, e⟩, ?_⟩
          rintro ⟨m, m1, m2, m3⟩
          exact q3 ⟨m, m1, by rw [if_pos rfl]; exact m2, by rw [e]; exact m3⟩
        · exact Or.inr ⟨fun z => e z.2, q1, by omega, q3⟩
end XFq
