/-! the reference: check -/
/-- some placement that fits the told numbers has the opposite on the cell -/
def ckP (w h sh : Nat) (M H N : Nat → Bool) (tot : Bool) (c : Nat) (v : Bool) : Prop := ∃ f : Nat → Bool, fitF (w * h) (nb w h sh) M N (spA w h sh H N c) f = true ∧ f c = !v ∧ (tot = true → 0 ≤ (mlN (w * h) M H : Int) - (spA w h sh H N c).countP f ∧ (mlN (w * h) M H : Int) - (spA w h sh H N c).countP f ≤ (fb_ct H (w * h) : Int) - (spA w h sh H N c).length)
section MCk
variable {I : tg_I} {J : tg_J} {P : Option Value → tg_I → tg_J → Prop} {w h sh : Nat} {M H B F T N : Nat → Bool} {A : List Nat}
def kmI (w h sh : Nat) (M H : Nat → Bool) (A K : List Nat) (I : tg_I) : Prop := ∀ i, i < K.length → I 24 i = zI (bn (fun j => nb w h sh (K.getD i 0) (A.getD j 0)) A.length : Nat) ∧ I 25 i = zI (nin w h sh (fun i => H i && M i) (K.getD i 0) : Nat)
def o245 (I I' : tg_I) : Prop := ∀ q, q ≠ 24 → q ≠ 25 → I' q = I q
theorem ck88 {I0 : tg_I} (gk : gOk w h sh) (hm0 : mst w h sh M H B F I0) (oS : okS (w * h) M H B F) (hA : ∀ x, x ∈ A → x < w * h) (hl : A.length ≤ 14) (ls0 : lsI A I0) {K : List Nat} (hK : K.length < 100) {a : Nat} (ha : a < w * h) {v2 : Int32} (o : o245 I0 I) (k0 : kmI w h sh M H A K I) (hp : ∀ I', o245 I0 I' → kmI w h sh M H A (K ++ [a]) I' → l_X9_check_52 I' J P v2 (zI A.length) (zI (K ++ [a]).length) (zI ((a + 1 : Nat) : Int))) : l_X9_check_88 I J P v2 (zI A.length) (zI K.length) (zI a) 0 0 := by
  obtain ⟨hn1, hn2⟩ := mul_le100 gk
  have m1 : mst w h sh M H B F I := mst_keep hm0 (fun q hq => o q (by omega) (by omega))
  have key := up_loop (L := fun k => l_X9_check_88 I J P v2 (zI A.length) (zI K.length) (zI a) (zI (bn (fun j => nb w h sh a (A.getD j 0)) k : Nat)) (zI k)) A.length ?_ ?_ 0 (Nat.zero_le _)
  · exact key
  · refine s_X9_check_88 _ _ _ _ _ _ ⟨fun _ => ?_, fun c => absurd (Int32.le_refl _) c⟩
    rw [z_in (by omega) (by omega), z_cl (by omega)]
    refine ⟨by omega, fun I1 e1 => ?_⟩
    have m2 : mst w h sh M H B F I1 := mst_keep m1 (fun q hq => by rw [e1, u2_other _ _ _ _ (by omega)])
    refine mnumber_ok gk m2 ha ⟨_, rfl, mnearState_ok gk m2 ha 2 ⟨_, rfl, by omega, fun I2 e2 => ?_⟩⟩
    have d1 := nin_due (w := w) (h := h) (sh := sh) oS a
    rw [nin_sc2 oS.2.2.1, z_sub, show ((nin w h sh M a : Nat) : Int) - (nin w h sh B a : Nat) = (nin w h sh (fun i => H i && M i) a : Nat) by omega] at e2
    rw [z_s, z_s]
    have hlen : (K ++ [a]).length = K.length + 1 := by simp
    rw [hlen] at hp
    refine hp I2 (fun q x y => by rw [e2, u2_other _ _ _ _ y, e1, u2_other _ _ _ _ x]; exact o q x y) (fun i hi => ?_)
    rw [getD_app1 hi, e2, u2_other _ _ _ _ (show 24 ≠ 25 by decide), u2_at, e1, u2_at, u2_other _ _ _ _ (show 25 ≠ 24 by decide)]
    by_cases e : i = K.length
    · rw [if_pos e, if_pos e, if_pos e]
      exact ⟨rfl, rfl⟩
    · rw [if_neg e, if_neg e, if_neg e]
      exact k0 i (by rw [hlen] at hi; omega)
  · intro k hk ih
    have hx := hA _ (getD_mem hk)
    have hbl := bn_lt (fun j => nb w h sh a (A.getD j 0)) k
    have hpw : 2 ^ k ≤ 2 ^ 14 := Nat.pow_le_pow_right (by decide) (by omega)
    refine s_X9_check_88 _ _ _ _ _ _ ?_
    rw [z_le (by omega) (by omega) (by omega) (by omega), z_in (a := (k : Int)) (by omega) (by omega), z_cl (n := k) (by omega), o 16 (by decide) (by decide), ls0 k hk, z_s k]
    refine ⟨fun c => absurd c (by omega), fun _ => ⟨by omega, mnear_ok gk m1 ha hx ⟨_, rfl, ?_⟩⟩⟩
    rw [bi_0, shl1 (show k < 31 by omega), z_add]
    have hs : bn (fun j => nb w h sh a (A.getD j 0)) (k + 1) = bn (fun j => nb w h sh a (A.getD j 0)) k + (if nb w h sh a (A.getD k 0) then 2 ^ k else 0) := rfl
    rw [hs] at ih
    refine ⟨fun c => ?_, fun c x1 e1 => ?_⟩
    · rw [c, if_neg (by simp), Nat.add_zero] at ih
      rw [show (0 : Int32) = zI ((0 : Nat) : Int) from rfl, z_add, show ((bn (fun j => nb w h sh a (A.getD j 0)) k : Nat) : Int) + ((0 : Nat) : Int) = (bn (fun j => nb w h sh a (A.getD j 0)) k : Nat) by omega]
      exact ih
    · rw [if_pos (by simpa using c)] at ih
      rw [e1, show ((bn (fun j => nb w h sh a (A.getD j 0)) k : Nat) : Int) + ((2 ^ k : Nat) : Int) = ((bn (fun j => nb w h sh a (A.getD j 0)) k + 2 ^ k : Nat) : Int) by omega]
      exact ih
theorem ck52 {I0 : tg_I} (gk : gOk w h sh) (hm0 : mst w h sh M H B F I0) (oS : okS (w * h) M H B F) (hT : ∀ i, i < 101 → I0 10 i = bi (T i)) (hA : ∀ x, x ∈ A → x < w * h) (hl : A.length ≤ 14) (ls0 : lsI A I0) {v2 : Int32} (hp : ∀ I', o245 I0 I' → kmI w h sh M H A ((List.range (w * h)).filter (tlN T (opS (w * h) H B))) I' → l_X9_check_192 I' J P v2 (zI A.length) (zI ((List.range (w * h)).filter (tlN T (opS (w * h) H B))).length) (zI ((fb_ct H (w * h) : Nat) - (A.length : Nat))) (zI (mlN (w * h) M H : Nat)) 0) : l_X9_check_52 I0 J P v2 (zI A.length) 0 0 := by
  obtain ⟨hn1, hn2⟩ := mul_le100 gk
  have key := up_loop (L := fun k => ∀ I1, o245 I0 I1 → kmI w h sh M H A ((List.range k).filter (tlN T (opS (w * h) H B))) I1 → l_X9_check_52 I1 J P v2 (zI A.length) (zI ((List.range k).filter (tlN T (opS (w * h) H B))).length) (zI k)) (w * h) ?_ ?_ 0 (Nat.zero_le _) I0 (fun _ _ _ => rfl) (fun i hi => by simp at hi)
  · exact key
  · intro I1 o1 k1
    have m1 : mst w h sh M H B F I1 := mst_keep hm0 (fun q hq => o1 q (by omega) (by omega))
    refine s_X9_check_52 _ _ _ _ ⟨fun _ => minState_ok gk m1 0 ⟨_, rfl, mmines_ok gk m1 ⟨_, rfl, minState_ok gk m1 2 ⟨_, rfl, ?_⟩⟩⟩, fun c => absurd (by rw [m1.1.2.2.2]; exact Int32.le_refl _) c⟩
    have h1 := ml_eq oS
    rw [ct_sc0, ct_sc2 oS.2.2.1, z_sub, z_sub, h1, show ((fb_ct B (w * h) + mlN (w * h) M H : Nat) : Int) - (fb_ct B (w * h) : Nat) = (mlN (w * h) M H : Nat) by omega]
    exact hp I1 o1 k1
  · intro a ha ih I1 o1 k1
    have m1 : mst w h sh M H B F I1 := mst_keep hm0 (fun q hq => o1 q (by omega) (by omega))
    have hTa : I1 10 a = bi (T a) := by rw [o1 10 (by decide) (by decide)]; exact hT a (by omega)
    have hlen : ((List.range a).filter (tlN T (opS (w * h) H B))).length ≤ a := by
      have := List.length_filter_le (tlN T (opS (w * h) H B)) (List.range a)
      rw [List.length_range] at this
      exact this
    rw [List.range_succ, List.filter_append, List.filter_cons] at ih
    have skip : tlN T (opS (w * h) H B) a = false → l_X9_check_52 I1 J P v2 (zI A.length) (zI ((List.range a).filter (tlN T (opS (w * h) H B))).length) (zI ((a + 1 : Nat) : Int)) := fun q => by
      rw [if_neg (by rw [q]; simp), List.filter_nil, List.append_nil] at ih
      exact ih I1 o1 k1
    refine s_X9_check_52 _ _ _ _ ?_
    rw [m1.1.2.2.2, z_le (by omega) (by omega) (by omega) (by omega), z_in (a := (a : Int)) (by omega) (by omega), z_cl (n := a) (by omega), hTa, bi_0, z_in (a := (a : Int)) (by omega) (by omega), (m1.2.2 a (by omega)).2.1, sc_1 ha, z_s a]
    refine ⟨fun c => absurd c (by omega), fun _ => ⟨by omega, fun c => skip (by unfold tlN; rw [c]; rfl), fun c => ⟨by omega, fun c2 => skip (by unfold tlN; rw [show opS (w * h) H B a = false by simpa using c2, Bool.and_false]), fun c2 => ?_⟩⟩⟩
    have hta : tlN T (opS (w * h) H B) a = true := by unfold tlN; rw [show T a = true by simpa using c, c2]; rfl
    rw [if_pos hta, List.filter_nil] at ih
    exact ck88 gk hm0 oS hA hl ls0 (by omega) ha o1 k1 ih
/-- what the loop over all sets asks of one -/
def ckS (w h sh : Nat) (M H : Nat → Bool) (A K : List Nat) (tot v : Bool) (s : Nat) : Prop := (s.testBit 0 = !v) ∧ (∀ i, i < K.length → fb_ct (fun j => (s &&& bn (fun j => nb w h sh (K.getD i 0) (A.getD j 0)) A.length).testBit j) 31 = nin w h sh (fun i => H i && M i) (K.getD i 0)) ∧ (tot = true → 0 ≤ (mlN (w * h) M H : Int) - fb_ct (fun j => s.testBit j) 31 ∧ (mlN (w * h) M H : Int) - fb_ct (fun j => s.testBit j) 31 ≤ (fb_ct H (w * h) : Int) - A.length)
theorem ck192 (gk : gOk w h sh) (hl : A.length ≤ 14) {K : List Nat} (hK : K.length ≤ 100) (k0 : kmI w h sh M H A K I) {tot : Bool} (ht : I 10 100 = bi tot) (v : Bool) (h1 : (∀ s, s < 2 ^ A.length → ¬ ckS w h sh M H A K tot v s) → P (some (.int 1)) I J) (h0 : (∃ s, s < 2 ^ A.length ∧ ckS w h sh M H A K tot v s) → P (some (.int 0)) I J) : l_X9_check_192 I J P (bi v) (zI A.length) (zI K.length) (zI ((fb_ct H (w * h) : Nat) - (A.length : Nat))) (zI (mlN (w * h) M H : Nat)) 0 := by
  obtain ⟨hn1, hn2⟩ := mul_le100 gk
  have hpw : 2 ^ A.length ≤ 2 ^ 14 := Nat.pow_le_pow_right (by decide) hl
  have hfH := fb_ct_le H (w * h)
  have hml := ml_le (w := w) (h := h) (sh := sh) (M := M) (H := H) gk
  have key := up_loop (L := fun s => (∀ s', s' < s → ¬ ckS w h sh M H A K tot v s') → l_X9_check_192 I J P (bi v) (zI A.length) (zI K.length) (zI ((fb_ct H (w * h) : Nat) - (A.length : Nat))) (zI (mlN (w * h) M H : Nat)) (zI s)) (2 ^ A.length) ?_ ?_ 0 (Nat.zero_le _) (fun s' h => absurd h (by omega))
  · exact key
  · intro hn
    refine s_X9_check_192 _ _ _ _ _ _ ⟨fun _ => h1 hn, fun c => absurd ?_ c⟩
    rw [shl1 (by omega)]
    exact Int32.le_refl _
  · intro s hs ih hn
    have hpc := fb_ct_le (fun j => s.testBit j) 31
    have next : ¬ ckS w h sh M H A K tot v s → l_X9_check_192 I J P (bi v) (zI A.length) (zI K.length) (zI ((fb_ct H (w * h) : Nat) - (A.length : Nat))) (zI (mlN (w * h) M H : Nat)) (zI ((s + 1 : Nat) : Int)) := fun q => ih (fun s' hs' => by
      by_cases e : s' = s
      · rw [e]; exact q
      · exact hn s' (by omega))
    have yes : ckS w h sh M H A K tot v s → P (some (.int 0)) I J := fun q => h0 ⟨s, hs, q⟩
    have loop : ∀ g0 : Bool, (g0 = true ↔ s.testBit 0 = !v) → l_X9_check_218 I J P (bi v) (zI A.length) (zI K.length) (zI ((fb_ct H (w * h) : Nat) - (A.length : Nat))) (zI (mlN (w * h) M H : Nat)) (zI s) (bi g0) (zI ((0 : Nat) : Int)) := fun g0 hg0 => by
      have key2 := up_loop (L := fun k => ∀ g : Bool, (g = true ↔ s.testBit 0 = (!v) ∧ ∀ i, i < k → fb_ct (fun j => (s &&& bn (fun j => nb w h sh (K.getD i 0) (A.getD j 0)) A.length).testBit j) 31 = nin w h sh (fun i => H i && M i) (K.getD i 0)) → l_X9_check_218 I J P (bi v) (zI A.length) (zI K.length) (zI ((fb_ct H (w * h) : Nat) - (A.length : Nat))) (zI (mlN (w * h) M H : Nat)) (zI s) (bi g) (zI k)) K.length ?_ ?_ 0 (Nat.zero_le _) g0 (by rw [hg0]; exact ⟨fun q => ⟨q, fun i h => absurd h (by omega)⟩, fun q => q.1⟩)
      · exact key2
      · intro g hg
        refine s_X9_check_218 _ _ _ _ _ _ _ _ ⟨fun _ => ?_, fun c => absurd (Int32.le_refl _) c⟩
        rw [z_s]
        cases g
        · have nx := next (fun q => by have := hg.mpr ⟨q.1, q.2.1⟩; cases this)
          exact ⟨fun _ => ⟨fun _ => nx, fun c => absurd rfl c⟩, fun c => absurd rfl c⟩
        · obtain ⟨g1, g2⟩ := hg.mp rfl
          refine ⟨fun c => absurd c (by decide), fun _ => mbits_ok (by omega) ⟨_, rfl, fun c => absurd c (by decide), fun _ => ?_⟩⟩
          rw [show (100 : Int32) = zI ((100 : Nat) : Int) from rfl, z_in (by omega) (by omega), z_cl (by omega), ht, bi_0, z_sub, show (0 : Int32) = zI 0 from rfl, z_lt (by omega) (by omega) (by omega) (by omega), z_lt (by omega) (by omega) (by omega) (by omega)]
          refine ⟨by omega, fun c => yes ⟨g1, g2, fun q => by rw [c] at q; cases q⟩, fun c => ⟨fun c2 => next (fun q => ?_), fun c2 => ⟨fun c3 => next (fun q => ?_), fun c3 => yes ⟨g1, g2, fun _ => by omega⟩⟩⟩⟩
          · have := q.2.2 (by simpa using c); omega
          · have := q.2.2 (by simpa using c); omega
      · intro k hk ihk g hg
        obtain ⟨q1, q2⟩ := k0 k hk
        refine s_X9_check_218 _ _ _ _ _ _ _ _ ?_
        rw [z_le (by omega) (by omega) (by omega) (by omega), z_s s]
        refine ⟨fun c => absurd c (by omega), fun _ => ?_⟩
        cases g
        · have nx := next (fun q => by have := hg.mpr ⟨q.1, fun i hi => q.2.1 i (by omega)⟩; cases this)
          exact ⟨fun _ => ⟨fun _ => ⟨fun _ => nx, fun c => absurd rfl c⟩, fun c => absurd rfl c⟩, fun c => absurd rfl c⟩
        · obtain ⟨g1, g2⟩ := hg.mp rfl
          have hbl := bn_lt (fun j => nb w h sh (K.getD k 0) (A.getD j 0)) A.length
          have h8 := nin_le (w := w) (h := h) (sh := sh) (fun i => H i && M i) (K.getD k 0)
          refine ⟨fun c => absurd c (by decide), fun _ => ?_⟩
          rw [z_in (by omega) (by omega), z_cl (by omega), q1, zand]
          have hand : s &&& bn (fun j => nb w h sh (K.getD k 0) (A.getD j 0)) A.length < 2 ^ 31 := by
            have := Nat.and_le_left (n := s) (m := bn (fun j => nb w h sh (K.getD k 0) (A.getD j 0)) A.length)
            omega
          have hc31 := fb_ct_le (fun j => (s &&& bn (fun j => nb w h sh (K.getD k 0) (A.getD j 0)) A.length).testBit j) 31
          refine ⟨by omega, mbits_ok hand ⟨_, rfl, by omega, ?_⟩⟩
          rw [q2, z_eq (by omega) (by omega) (by omega) (by omega), z_s k, show (1 : Int32) = bi true from rfl, show (0 : Int32) = bi false from rfl]
          refine ⟨fun c => ihk false ⟨fun q => (by cases q), fun q => absurd (q.2 k (by omega)) (by omega)⟩, fun c => ihk true ⟨fun _ => ⟨g1, fun i hi => ?_⟩, fun _ => rfl⟩⟩
          by_cases e : i = k
          · rw [e]; omega
          · exact g2 i (by omega)
    refine s_X9_check_192 _ _ _ _ _ _ ?_
    have hb0 : zI (s : Int) &&& 1 = bi (s.testBit 0) := by
      rw [zand1, Nat.testBit_zero]
      rcases Nat.mod_two_eq_zero_or_one s with q | q
      · rw [q]; rfl
      · rw [q]; rfl
    rw [shl1 (by omega), z_le (by omega) (by omega) (by omega) (by omega), hb0]
    refine ⟨fun c => absurd c (by omega), fun _ => ⟨fun c => loop false ⟨fun q => (by cases q), fun q => ?_⟩, fun c => loop true ⟨fun _ => ?_, fun _ => rfl⟩⟩⟩
    · rw [q] at c
      cases v <;> exact absurd c (by decide)
    · cases e : s.testBit 0 <;> cases v
      · rw [e] at c; exact absurd rfl c
      · rfl
      · rfl
      · rw [e] at c; exact absurd rfl c
end MCk
