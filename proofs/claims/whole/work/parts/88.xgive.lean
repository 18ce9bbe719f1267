/-! the class: rules 1 and 2 -/
section XGv
variable {I : tg_I} {J : tg_J} {P : Option Value → tg_I → tg_J → Prop} {w h sh b : Nat} {M H B F K : Nat → Bool} {Y : Nat → Nat → Bool}
theorem due_dv (hb : isBd b) (gk : gOk w h sh) (g : gridX b w h sh I J) (v : bst b (w * h) M H B F J) (ok : okS (w * h) M H B F) (hK : ∀ i, K i = true → H i = true) (rs : rsX b w h sh M H B K Y I J) {a : Nat} (ha : a < w * h) (hp : P (some (.int (zI (dv w h sh M B K a)))) I J) : call pgX zX1_due [.ref b, .int (zI a), .ref 45] I J P := by
  obtain ⟨hn1, hn2⟩ := mul_le100 gk
  refine due_ok hb bits45 gk g ha ?_
  have e2 : nin w h sh (sB J 45) a = nin w h sh B a + nin w h sh (fun i => K i && M i) a := by
    rw [nin_cong (S' := fun i => B i || (K i && M i)) (fun i hi => rs.2.2.1 i (by omega))]
    unfold nin
    rw [← fb_ct_or (fun k hk q => by
      simp only [Bool.and_eq_true] at q
      have := ok.2.2.1 k (hK k q.2.2.1)
      rw [q.1.2] at this; cases this)]
    refine fb_ct_cong (fun k _ => ?_)
    cases nb w h sh a k <;> rfl
  rw [nin_cong (S := sB J (b + 7)) (S' := M) (fun i hi => (v i (by omega)).1), e2]
  unfold dv at hp
  rw [show ((nin w h sh M a : Nat) : Int) - ((nin w h sh B a + nin w h sh (fun i => K i && M i) a : Nat) : Int) = ((nin w h sh M a : Nat) : Int) - (nin w h sh B a : Nat) - (nin w h sh (fun i => K i && M i) a : Nat) by omega]
  exact hp
theorem nin_s128 (hn : w * h ≤ 128) {S : Nat → Bool} {a : Nat} (hS : ∀ i, i < 128 → S i = true → i < w * h) : fb_ct (fun i => nb w h sh a i && S i) 128 = nin w h sh S a := ct_ext hn (fun k h1 h2 => by
  cases e : S k
  · rw [Bool.and_false]
  · exact absurd (hS k h2 e) (by omega))
theorem fre_lt (ok : okS (w * h) M H B F) {i : Nat} (hi : fre H K i = true) : i < w * h := by
  rcases Nat.lt_or_ge i (w * h) with z | z
  · exact z
  · unfold fre at hi; rw [(ok.1 i z).1] at hi; cases hi
theorem giveByOne_ok (hb : isBd b) (gk : gOk w h sh) (g : gridX b w h sh I J) (v : bst b (w * h) M H B F J) (ok : okS (w * h) M H B F) (hK : ∀ i, K i = true → H i = true) (rs : rsX b w h sh M H B K Y I J) {a : Nat} (ha : a < w * h) (ho : opS (w * h) H B a = true) (hp0 : ¬ r1ok w h sh M H B K a → P (some (.int 0)) I J)
    (hp1 : r1ok w h sh M H B K a → ∀ I' J', oG I I' J J' → I' 39 3 = 1 → I' 39 2 = bi (!decide (dv w h sh M B K a = 0)) → (∀ i, i < 128 → sB J' 40 i = (nb w h sh a i && fre H K i)) → (∀ k, k < 128 → sB J' 41 k = bcs (nb w h sh a) K Y a (w * h) k) → P (some (.int 1)) I' J') : call pgX zX6_giveByOne [.ref 39, .int (zI a)] I J P := by
  obtain ⟨hn1, hn2⟩ := mul_le100 gk
  obtain ⟨r1, r2, r3, r4⟩ := id rs
  have hdv := dv_rng (w := w) (h := h) (sh := sh) (M := M) (B := B) (K := K) a
  refine e_X6_giveByOne _ ⟨b, r1, hb, ?_⟩
  rw [z_in (by omega) (by omega), z_cl (by omega)]
  refine ⟨by omega, fun y1 e1 => ⟨b, r1, hb, by omega, fun y2 e2 => ?_⟩⟩
  have hbh : ∀ i, i < 128 → bh y1 y2 i = (nb w h sh a i && fre H K i) := fun i hi => by
    rw [e1, e2, bh_and, ← r2 i hi]
    congr 1
    exact row_nb g ha hi
  have hct : fb_ct (bh y1 y2) 128 = nin w h sh (fre H K) a := by
    rw [fb_ct_cong hbh]
    exact nin_s128 (w := w) (h := h) (sh := sh) (by omega) (fun i _ hi => fre_lt ok hi)
  rw [bh_or0]
  have h0 : (∀ i, i < 128 → bh y1 y2 i = false) ↔ nin w h sh (fre H K) a = 0 := by rw [← hct, fb_ct_zero]
  rw [h0]
  refine ⟨fun c => hp0 (fun q => by have := q.2.1; omega), fun c => ⟨b, r1, hb, due_dv hb gk g v ok hK rs ha ⟨_, rfl, give_ok y1 y2 (by omega) (by omega) (fun c1 c2 => ⟨_, rfl, fun z => absurd rfl z, fun _ => hp0 (fun q => ?_)⟩) (fun c1 I1 J1 o1 m1 s1 w1 => ⟨_, rfl, fun _ I2 eI => clear_ok bits41 (fun J2 o2 s2 => ⟨rfl, ?_⟩), fun z => absurd z (by decide)⟩)⟩⟩⟩
  · rw [hct] at c2
    rcases q.2.2 with z | z
    · exact c1 z
    · exact c2 z
  · have og : oG I I2 J J2 := ⟨fun q hq => by rw [eI, u2_other _ _ _ _ hq]; exact o1.1 q hq, fun x a b => by rw [eI, u2_at, if_neg b]; exact o1.2.1 x a b, fun q a b => (o2 q b).trans (o1.2.2 q a b)⟩
    refine blame_ok hb gk (og.grid hb g) (og.bst hb v) hK (og.rs rs) ha (fun J3 o3 s3 => ⟨rfl, ?_⟩)
    have og3 : oG I I2 J J3 := ⟨og.1, og.2.1, fun q a b => (o3 q b).trans (og.2.2 q a b)⟩
    rw [hct] at c1
    refine hp1 ⟨ho, by omega, c1⟩ I2 J3 og3 (by rw [eI, u2_eq]) (by rw [eI, u2_at, if_neg (by decide)]; exact m1) (fun i hi => ?_) (fun k hk => ?_)
    · rw [sB_of (o3 40 (by decide)), sB_of (o2 40 (by decide)), s1 i]; exact hbh i hi
    · rw [s3 k hk, s2 k, Bool.false_or]
theorem giveByPair_ok (hb : isBd b) (gk : gOk w h sh) (g : gridX b w h sh I J) (v : bst b (w * h) M H B F J) (ok : okS (w * h) M H B F) (hK : ∀ i, K i = true → H i = true) (rs : rsX b w h sh M H B K Y I J) {a c : Nat} (ha : a < w * h) (hc : c < w * h) (ho : opS (w * h) H B a = true) (hpos : 0 < nin w h sh (fre H K) a) (hoc : opS (w * h) H B c = true) (hwi : ∀ i, i < w * h → nb w h sh a i = true → fre H K i = true → nb w h sh c i = true) (hp0 : ¬ r2ok w h sh M H B K a c → P (some (.int 0)) I J)
    (hp1 : r2ok w h sh M H B K a c → ∀ I' J', oG I I' J J' → I' 39 3 = 2 → I' 39 2 = bi (!decide (dv w h sh M B K c - dv w h sh M B K a = 0)) → (∀ i, i < 128 → sB J' 40 i = ((nb w h sh c i && fre H K i) && !(nb w h sh a i && fre H K i))) → (∀ k, k < 128 → sB J' 41 k = (bcs (nb w h sh a) K Y a (w * h) k || bcs (nb w h sh c) K Y c (w * h) k)) → P (some (.int 1)) I' J') : call pgX zX6_giveByPair [.ref 39, .int (zI a), .int (zI c)] I J P := by
  obtain ⟨hn1, hn2⟩ := mul_le100 gk
  obtain ⟨r1, r2, r3, r4⟩ := id rs
  have hdv := dv_rng (w := w) (h := h) (sh := sh) (M := M) (B := B) (K := K) a
  have hdv2 := dv_rng (w := w) (h := h) (sh := sh) (M := M) (B := B) (K := K) c
  refine e_X6_giveByPair _ _ ⟨b, r1, hb, ?_⟩
  rw [z_in (by omega) (by omega), z_cl (by omega), z_in (by omega) (by omega), z_cl (by omega)]
  refine ⟨by omega, by omega, fun y1 e1 => ⟨by omega, by omega, fun y2 e2 => ⟨b, r1, hb, due_dv hb gk g v ok hK rs hc ⟨_, rfl, b, r1, hb, due_dv hb gk g v ok hK rs ha ⟨_, rfl, ?_⟩⟩⟩⟩⟩
  have hbh : ∀ i, i < 128 → bh y1 y2 i = ((nb w h sh c i && fre H K i) && !(nb w h sh a i && fre H K i)) := fun i hi => by
    rw [e1, e2, bh_and, bh_and, bh_not _ _ hi]
    have q1 : bh (J (b + 2) c) (J (b + 3) c) i = nb w h sh c i := row_nb g hc hi
    have q2 : bh (J (b + 2) a) (J (b + 3) a) i = nb w h sh a i := row_nb g ha hi
    have q3 : bh (J 44 0) (J 44 1) i = fre H K i := r2 i hi
    rw [q1, q2, q3]
    cases nb w h sh c i <;> cases fre H K i <;> cases nb w h sh a i <;> rfl
  have hct : nin w h sh (fre H K) c = fb_ct (bh y1 y2) 128 + nin w h sh (fre H K) a := by
    rw [fb_ct_cong hbh, ← nin_s128 (w := w) (h := h) (sh := sh) (S := fre H K) (a := c) (by omega) (fun i _ hi => fre_lt ok hi), ← nin_s128 (w := w) (h := h) (sh := sh) (S := fre H K) (a := a) (by omega) (fun i _ hi => fre_lt ok hi), ← fb_ct_or (fun k _ q => by
      rw [q.2] at q; simp at q)]
    refine fb_ct_cong (fun i hi => ?_)
    cases q1 : nb w h sh a i
    · simp
    · cases q2 : fre H K i
      · simp
      · rw [hwi i (fre_lt ok q2) q1 q2]; rfl
  have h8 := nin_le (w := w) (h := h) (sh := sh) (fre H K) c
  rw [bh_or0, z_sub]
  have h0 : (∀ i, i < 128 → bh y1 y2 i = false) ↔ fb_ct (bh y1 y2) 128 = 0 := fb_ct_zero.symm
  rw [h0]
  refine ⟨fun c1 => hp0 (fun q => by have := q.2.2.2.1; omega), fun c1 => give_ok y1 y2 (by omega) (by omega) (fun c2 c3 => ⟨_, rfl, fun z => absurd rfl z, fun _ => hp0 (fun q => ?_)⟩) (fun c2 I1 J1 o1 m1 s1 w1 => ⟨_, rfl, fun _ I2 eI => clear_ok bits41 (fun J2 o2 s2 => ⟨rfl, ?_⟩), fun z => absurd z (by decide)⟩)⟩
  · rcases q.2.2.2.2.2 with z | z
    · exact c2 z
    · exact c3 (by omega)
  · have og : oG I I2 J J2 := ⟨fun q hq => by rw [eI, u2_other _ _ _ _ hq]; exact o1.1 q hq, fun x a b => by rw [eI, u2_at, if_neg b]; exact o1.2.1 x a b, fun q a b => (o2 q b).trans (o1.2.2 q a b)⟩
    refine blame_ok hb gk (og.grid hb g) (og.bst hb v) hK (og.rs rs) ha (fun J3 o3 s3 => ⟨rfl, ?_⟩)
    have og3 : oG I I2 J J3 := ⟨og.1, og.2.1, fun q a b => (o3 q b).trans (og.2.2 q a b)⟩
    refine blame_ok hb gk (og3.grid hb g) (og3.bst hb v) hK (og3.rs rs) hc (fun J4 o4 s4 => ⟨rfl, ?_⟩)
    have og4 : oG I I2 J J4 := ⟨og.1, og.2.1, fun q a b => (o4 q b).trans (og3.2.2 q a b)⟩
    refine hp1 ⟨ho, hpos, hoc, by omega, hwi, by rcases c2 with z | z; exact Or.inl z; exact Or.inr (by omega)⟩ I2 J4 og4 (by rw [eI, u2_eq]) (by rw [eI, u2_at, if_neg (by decide)]; exact m1) (fun i hi => ?_) (fun k hk => ?_)
    · rw [sB_of (o4 40 (by decide)), sB_of (o3 40 (by decide)), sB_of (o2 40 (by decide)), s1 i]; exact hbh i hi
    · rw [s4 k hk, s3 k hk, s2 k, Bool.false_or]
theorem gb76 (hb : isBd b) (gk : gOk w h sh) (g : gridX b w h sh I J) (v : bst b (w * h) M H B F J) (ok : okS (w * h) M H B F) (hK : ∀ i, K i = true → H i = true) (rs : rsX b w h sh M H B K Y I J) {a f : Nat} (ha : a < w * h) (hf : f < w * h) (ho : opS (w * h) H B a = true) (hfa : nb w h sh a f = true) (hff : fre H K f = true) {y1 y2 : Int64} (hbh : ∀ i, i < 128 → bh y1 y2 i = (nb w h sh a i && fre H K i)) (hp0 : (∀ c, c < w * h → ¬ r2ok w h sh M H B K a c) → P (some (.int 0)) I J)
    (hp1 : ∀ c, c < w * h → r2ok w h sh M H B K a c → (∀ c', c' < c → ¬ r2ok w h sh M H B K a c') → ∀ I' J', oG I I' J J' → I' 39 3 = 2 → I' 39 2 = bi (!decide (dv w h sh M B K c - dv w h sh M B K a = 0)) → (∀ i, i < 128 → sB J' 40 i = ((nb w h sh c i && fre H K i) && !(nb w h sh a i && fre H K i))) → (∀ k, k < 128 → sB J' 41 k = (bcs (nb w h sh a) K Y a (w * h) k || bcs (nb w h sh c) K Y c (w * h) k)) → P (some (.int 1)) I' J') : l_X6_giveByTwo_76 I J P b (zI a) y1 y2 (zI f) 0 := by
  obtain ⟨hn1, hn2⟩ := mul_le100 gk
  obtain ⟨r1, r2, r3, r4⟩ := id rs
  obtain ⟨rl, rl8⟩ := row_len gk g hf
  have hpos : 0 < nin w h sh (fre H K) a := fb_ct_pos.mpr ⟨f, hf, by rw [hfa, hff]; rfl⟩
  have near : ∀ c, c < w * h → r2ok w h sh M H B K a c → c ∈ nbl w h sh f := fun c hc q => nbl_mem.mpr (nb_sym1 gk hc (q.2.2.2.2.1 f hf hfa hff))
  have srt : ∀ i j : Nat, i < j → j < (nbl w h sh f).length → (nbl w h sh f).getD i 0 < (nbl w h sh f).getD j 0 := fun i j hij hj => by
    have e1 := filt_idx (nb w h sh f) (w * h) i (by show i < (nbl w h sh f).length; omega)
    have e2 := filt_idx (nb w h sh f) (w * h) j hj
    rcases Nat.lt_or_ge ((nbl w h sh f).getD i 0) ((nbl w h sh f).getD j 0) with z | z
    · exact z
    · have := fb_ct_mono (nb w h sh f) z
      have e1' : fb_ct (nb w h sh f) ((nbl w h sh f).getD i 0) = i := e1
      have e2' : fb_ct (nb w h sh f) ((nbl w h sh f).getD j 0) = j := e2
      omega
  have key := up_loop (L := fun i => (∀ j, j < i → ¬ r2ok w h sh M H B K a ((nbl w h sh f).getD j 0)) → l_X6_giveByTwo_76 I J P b (zI a) y1 y2 (zI f) (zI i)) (nbl w h sh f).length ?_ ?_ 0 (Nat.zero_le _) (fun j h => absurd h (by omega))
  · exact key
  · intro hn
    refine s_X6_giveByTwo_76 _ _ _ _ _ _ hb ?_
    rw [z_in (by omega) (by omega), z_cl (by omega), rl]
    refine ⟨by omega, fun _ => hp0 (fun c hc q => ?_), fun c => absurd (Int32.le_refl _) c⟩
    obtain ⟨j, hj, e⟩ := mem_idx (near c hc q)
    exact hn j hj (by rw [e]; exact q)
  · intro i hi ih hn
    have hcell := row_at gk g hf hi
    have hmem := getD_mem hi
    have hless : ∀ c', c' < (nbl w h sh f).getD i 0 → ¬ r2ok w h sh M H B K a c' := fun c' hc' q => by
      have hx := nb_lt (nbl_mem.mp hmem)
      obtain ⟨j, hj, e⟩ := mem_idx (near c' (by omega) q)
      rcases Nat.lt_or_ge j i with z | z
      · exact hn j z (by rw [e]; exact q)
      · by_cases e2 : j = i
        · rw [← e, e2] at hc'; omega
        · have := srt i j (by omega) hj
          omega
    have next : ¬ r2ok w h sh M H B K a ((nbl w h sh f).getD i 0) → l_X6_giveByTwo_76 I J P b (zI a) y1 y2 (zI f) (zI ((i + 1 : Nat) : Int)) := fun q => ih (fun j hj => by
      by_cases e : j = i
      · rw [e]; exact q
      · exact hn j (by omega))
    clear ih hn srt
    generalize (nbl w h sh f).getD i 0 = c at *
    have hcn := nb_lt (nbl_mem.mp hmem)
    refine s_X6_giveByTwo_76 _ _ _ _ _ _ hb ?_
    rw [z_in (by omega) (by omega), z_cl (by omega), rl, z_le (by omega) (by omega) (by omega) (by omega), show (8 : Int32) = zI 8 from rfl, z_mul, z_add, z_in (by omega) (by omega), show (f : Int) * 8 + (i : Int) = ((8 * f + i : Nat) : Int) by omega, z_cl (by omega), hcell, z_s i]
    refine ⟨by omega, fun q => absurd q (by omega), fun _ => ⟨by omega, fun x1 ex => ?_⟩⟩
    rw [ex, z_in (by omega) (by omega), z_cl (by omega), z_eq (by omega) (by omega) (by omega) (by omega)]
    refine ⟨by omega, by omega, fun z1 ez => ?_⟩
    rw [ez, bh_or0]
    have hw : (∀ i, i < 128 → bh (y1 &&& (J (b + 2) c ^^^ (-1))) (y2 &&& (J (b + 3) c ^^^ (-1))) i = false) ↔ ∀ i, i < w * h → nb w h sh a i = true → fre H K i = true → nb w h sh c i = true := by
      have hi' : ∀ i, i < 128 → bh (y1 &&& (J (b + 2) c ^^^ (-1))) (y2 &&& (J (b + 3) c ^^^ (-1))) i = ((nb w h sh a i && fre H K i) && !nb w h sh c i) := fun i hi => by
        rw [bh_and, bh_not _ _ hi, hbh i hi]
        have q1 : bh (J (b + 2) c) (J (b + 3) c) i = nb w h sh c i := row_nb g hcn hi
        rw [q1]
      constructor
      · intro q i hi q1 q2
        have := q i (by omega)
        rw [hi' i (by omega), q1, q2] at this
        simpa using this
      · intro q i hi
        rw [hi' i hi]
        cases q1 : nb w h sh a i
        · rfl
        · cases q2 : fre H K i
          · rfl
          · rw [q i (fre_lt ok q2) q1 q2]; rfl
    rw [hw]
    refine ⟨fun q => next (fun z => q z.2.2.2.2.1), fun q => ⟨fun q2 => next (fun z => ?_), fun q2 => ⟨b, r1, hb, has_ok (bd_bits hb (by decide) (by decide)) (by omega) ⟨_, rfl, ?_⟩⟩⟩⟩
    · have := z.2.2.2.1
      rw [show c = a by omega] at this
      omega
    · rw [(v c (by omega)).2.2.1, bi_0]
      refine ⟨fun q3 => next (fun z => by rw [z.2.2.1] at q3; cases q3), fun q3 => ?_⟩
      refine giveByPair_ok hb gk g v ok hK rs ha hcn ho hpos (by simpa using q3) q (fun z => ⟨_, rfl, fun _ => next z, fun z2 => absurd rfl z2⟩) (fun z I1 J1 o1 a1 a2 a3 a4 => ⟨_, rfl, fun z2 => absurd z2 (by decide), fun _ => hp1 c hcn z hless I1 J1 o1 a1 a2 a3 a4⟩)
theorem giveByTwo_ok (hb : isBd b) (gk : gOk w h sh) (g : gridX b w h sh I J) (v : bst b (w * h) M H B F J) (ok : okS (w * h) M H B F) (hK : ∀ i, K i = true → H i = true) (rs : rsX b w h sh M H B K Y I J) {a : Nat} (ha : a < w * h) (ho : opS (w * h) H B a = true) (hp0 : (∀ c, c < w * h → ¬ r2ok w h sh M H B K a c) → P (some (.int 0)) I J)
    (hp1 : ∀ c, c < w * h → r2ok w h sh M H B K a c → (∀ c', c' < c → ¬ r2ok w h sh M H B K a c') → ∀ I' J', oG I I' J J' → I' 39 3 = 2 → I' 39 2 = bi (!decide (dv w h sh M B K c - dv w h sh M B K a = 0)) → (∀ i, i < 128 → sB J' 40 i = ((nb w h sh c i && fre H K i) && !(nb w h sh a i && fre H K i))) → (∀ k, k < 128 → sB J' 41 k = (bcs (nb w h sh a) K Y a (w * h) k || bcs (nb w h sh c) K Y c (w * h) k)) → P (some (.int 1)) I' J') : call pgX zX6_giveByTwo [.ref 39, .int (zI a)] I J P := by
  obtain ⟨hn1, hn2⟩ := mul_le100 gk
  obtain ⟨r1, r2, r3, r4⟩ := id rs
  refine e_X6_giveByTwo _ ⟨b, r1, hb, ?_⟩
  rw [z_in (by omega) (by omega), z_cl (by omega)]
  refine ⟨by omega, fun y1 e1 => ⟨by omega, fun y2 e2 => ?_⟩⟩
  have hbh : ∀ i, i < 128 → bh y1 y2 i = (nb w h sh a i && fre H K i) := fun i hi => by
    rw [e1, e2, bh_and, ← r2 i hi]
    congr 1
    exact row_nb g ha hi
  have none0 : (∀ i, i < 128 → bh y1 y2 i = false) → P (some (.int 0)) I J := fun q => hp0 (fun c hc z => by
    obtain ⟨k, k1, k2⟩ := fb_ct_pos.mp z.2.1
    rw [← hbh k (by omega), q k (by omega)] at k2; cases k2)
  have some1 : ∀ m : Nat, m < 128 → bh y1 y2 m = true → m < w * h ∧ nb w h sh a m = true ∧ fre H K m = true := fun m hm q => by
    rw [hbh m hm] at q
    simp only [Bool.and_eq_true] at q
    exact ⟨fre_lt ok q.2, q.1, q.2⟩
  have hn7 : I (b + 1) 7 = zI (w * h : Nat) := g.1.2.2.2
  rw [cmp_eq0]
  refine ⟨fun c => lowest_ok _ (fun m hm h1 h2 => ⟨_, rfl, ?_⟩), fun c => lowest_ok _ (fun m hm h1 h2 => ⟨_, rfl, ?_⟩)⟩
  · rw [show (64 : Int32) = zI (64 : Nat) from rfl, z_add, show ((64 : Nat) : Int) + (m : Int) = ((64 + m : Nat) : Int) by omega]
    refine holds_ok hb hn7 hn2 _ ⟨_, rfl, ?_⟩
    rw [z_toInt (by omega) (by omega), bi_0]
    by_cases hm64 : m < 64
    · have hbm : bh y1 y2 (64 + m) = true := by unfold bh; rw [if_neg (by omega), show 64 + m - 64 = m by omega]; exact h1 hm64
      obtain ⟨q1, q2, q3⟩ := some1 (64 + m) (by omega) hbm
      rw [decide_eq_true ⟨by omega, by omega⟩]
      exact ⟨fun _ => gb76 hb gk g v ok hK rs ha q1 ho q2 q3 hbh hp0 hp1, fun z => by cases z⟩
    · rw [decide_eq_false (fun z => by omega)]
      refine ⟨fun z => absurd rfl z, fun _ => none0 (fun i hi => ?_)⟩
      unfold bh
      by_cases ci : i < 64
      · rw [if_pos ci, c, bq_0]
      · rw [if_neg ci]; exact h2 (i - 64) (by omega)
  · have hm64 : m < 64 := by
      rcases Nat.lt_or_ge m 64 with z | z
      · exact z
      · exact absurd (bq_eq0.mpr (fun i hi => h2 i (by omega))) c
    refine holds_ok hb hn7 hn2 _ ⟨_, rfl, ?_⟩
    rw [z_toInt (by omega) (by omega), bi_0]
    have hbm : bh y1 y2 m = true := by unfold bh; rw [if_pos hm64]; exact h1 hm64
    obtain ⟨q1, q2, q3⟩ := some1 m (by omega) hbm
    rw [decide_eq_true ⟨by omega, by omega⟩]
    exact ⟨fun _ => gb76 hb gk g v ok hK rs ha q1 ho q2 q3 hbh hp0 hp1, fun z => by cases z⟩
end XGv
