/-! the class: the counts of all parts -/
theorem ptL_perm {n : Nat} {nbr : Nat → Nat → Bool} {H N : Nat → Bool} {A A' : List Nat} (hp : A'.Perm A) (h : ptL n nbr H N A) : ptL n nbr H N A' := ⟨hp.nodup_iff.mpr h.1, fun x hx => h.2.1 x (hp.mem_iff.mp hx), fun o x y ho hN hx hxo hy hHy hoy => hp.mem_iff.mpr (h.2.2 o x y ho hN (hp.mem_iff.mp hx) hxo hy hHy hoy)⟩
theorem mem_take_idx {L : List Nat} {j : Nat} {x : Nat} (h : x ∈ L.take j) : x ∈ L := List.mem_of_mem_take h
section XK
variable {I : tg_I} {J : tg_J} {P : Option Value → tg_I → tg_J → Prop} {w h sh b : Nat} {M H B F N : Nat → Bool} {L : List Nat}
theorem qF_at {f : Nat} {I : tg_I} (hq : qF f L I) {j : Nat} (hj : j < L.length) : I 31 (f + j) = zI (L.getD j 0) := hq j _ (by rw [List.getD_eq_getElem?_getD, List.getElem?_eq_getElem hj]; rfl)
def o45 (I I' : tg_I) : Prop := ∀ q, q ≠ 34 → q ≠ 35 → I' q = I q
theorem keepCounts_ok (hl : L.length ≤ 12) (hL : ∀ x, x ∈ L → x < 100) (h7 : I 20 7 = zI L.length) (hc : srC w h sh M N L I) {p f : Nat} (hp100 : p < 100) (hf : f + L.length ≤ 100) (e1 : I 32 p = zI f) (e2 : I 32 (p + 1) = zI ((f + L.length : Nat) : Int)) (hq : qF f L I)
    (hp : ∀ I', o45 I I' → (∀ x, I' 34 x = if x / 13 = p then zI (wy (w * h) (nb w h sh) M N L (x % 13)) else I 34 x) → (∀ x, I' 35 x = if x / 13 ∈ L then zI (wz (w * h) (nb w h sh) M N L (x / 13) (x % 13)) else I 35 x) → P none I' J) : call pgX zX5_keepCounts [.ref 17, .int (zI p)] I J P := by
  refine e_X5_keepCounts _ ?_
  have key := up_loop (L := fun m => ∀ I1, o45 I I1 → (∀ x, I1 34 x = if x / 13 = p ∧ x % 13 < m then zI (wy (w * h) (nb w h sh) M N L (x % 13)) else I 34 x) → (∀ x, I1 35 x = if x / 13 ∈ L ∧ x % 13 < m then zI (wz (w * h) (nb w h sh) M N L (x / 13) (x % 13)) else I 35 x) → l_X5_keepCounts_2 I1 J P (zI p) (zI m)) 13 ?_ ?_ 0 (Nat.zero_le _) I (fun _ _ _ => rfl) (fun x => by rw [if_neg (by omega)]) (fun x => by rw [if_neg (by omega)])
  · exact key
  · intro I1 o z1 z2
    refine s_X5_keepCounts_2 _ _ ⟨fun _ => hp I1 o (fun x => ?_) (fun x => ?_), fun c => absurd (Int32.le_refl _) c⟩
    · rw [z1 x]
      by_cases e : x / 13 = p
      · rw [if_pos ⟨e, by omega⟩, if_pos e]
      · rw [if_neg (fun q => e q.1), if_neg e]
    · rw [z2 x]
      by_cases e : x / 13 ∈ L
      · rw [if_pos ⟨e, by omega⟩, if_pos e]
      · rw [if_neg (fun q => e q.1), if_neg e]
  · intro m hm ih I1 o z1 z2
    have h71 : I1 20 7 = zI L.length := by rw [o 20 (by decide) (by decide), h7]
    have hc1 : srC w h sh M N L I1 := by unfold srC at hc ⊢; rw [o 26 (by decide) (by decide), o 27 (by decide) (by decide)]; exact hc
    refine s_X5_keepCounts_2 _ _ ?_
    rw [show (13 : Int32) = zI (13 : Nat) from rfl, z_le (by omega) (by omega) (by omega) (by omega), z_mul, z_add, show (p : Int) * ((13 : Nat) : Int) + (m : Int) = ((13 * p + m : Nat) : Int) by omega, z_in (by omega) (by omega), z_cl (by omega), z_in (by omega) (by omega), z_cl (by omega)]
    refine ⟨fun c => absurd c (by omega), fun _ => found_ok (by omega) h71 hc1 (show m < 15 by omega) ⟨_, rfl, by omega, fun I2 eI => ⟨by omega, fun x1 ex => ?_⟩⟩⟩
    rw [ex, eI, u2_other _ _ _ _ (by decide), o 32 (by decide) (by decide), e1]
    have z13 : ∀ x, I2 34 x = if x / 13 = p ∧ x % 13 < m + 1 then zI (wy (w * h) (nb w h sh) M N L (x % 13)) else I 34 x := fun x => by
      rw [eI, u2_at]
      by_cases e : x = 13 * p + m
      · rw [if_pos e, if_pos (by omega), show x % 13 = m by omega]
      · rw [if_neg e, z1 x]
        by_cases e3 : x / 13 = p ∧ x % 13 < m
        · rw [if_pos e3, if_pos (by omega)]
        · rw [if_neg e3, if_neg (by omega)]
    have o2 : o45 I I2 := fun q a b => by rw [eI, u2_other _ _ _ _ a]; exact o q a b
    have z23 : ∀ x, I2 35 x = if x / 13 ∈ L ∧ x % 13 < m then zI (wz (w * h) (nb w h sh) M N L (x / 13) (x % 13)) else I 35 x := fun x => by rw [eI, u2_other _ _ _ _ (by decide)]; exact z2 x
    have key2 := up_loop (L := fun j => ∀ I3, o45 I I3 → (∀ x, I3 34 x = if x / 13 = p ∧ x % 13 < m + 1 then zI (wy (w * h) (nb w h sh) M N L (x % 13)) else I 34 x) → (∀ x, I3 35 x = if (x / 13 ∈ L ∧ x % 13 < m) ∨ (x / 13 ∈ L.take j ∧ x % 13 = m) then zI (wz (w * h) (nb w h sh) M N L (x / 13) (x % 13)) else I 35 x) → l_X5_keepCounts_34 I3 J P (zI p) (zI m) (zI ((f + j : Nat) : Int))) L.length ?_ ?_ 0 (Nat.zero_le _) I2 o2 z13 (fun x => by
      rw [z23 x]
      by_cases e : x / 13 ∈ L ∧ x % 13 < m
      · rw [if_pos e, if_pos (Or.inl e)]
      · rw [if_neg e, if_neg (fun q => by rcases q with q | q; exact e q; simp at q)])
    · rw [← eI]
      exact key2
    · intro I3 o3 y1 y2
      refine s_X5_keepCounts_34 _ _ _ ?_
      rw [o3 32 (by decide) (by decide), z_s p, z_s m, z_in (by omega) (by omega), z_cl (by omega), e2]
      refine ⟨by omega, fun _ => ih I3 o3 y1 (fun x => ?_), fun c => absurd (Int32.le_refl _) c⟩
      rw [y2 x, List.take_length]
      by_cases e : x / 13 ∈ L ∧ x % 13 < m + 1
      · rw [if_pos e, if_pos (by by_cases e3 : x % 13 < m; exact Or.inl ⟨e.1, e3⟩; exact Or.inr ⟨e.1, by omega⟩)]
      · rw [if_neg e, if_neg (fun q => by rcases q with q | q; exact e ⟨q.1, by omega⟩; exact e ⟨q.1, by omega⟩)]
    · intro j hj ih2 I3 o3 y1 y2
      have h73 : I3 20 7 = zI L.length := by rw [o3 20 (by decide) (by decide), h7]
      have hc3 : srC w h sh M N L I3 := by unfold srC at hc ⊢; rw [o3 26 (by decide) (by decide), o3 27 (by decide) (by decide)]; exact hc
      have hx := getD_mem hj
      have hx1 := hL _ hx
      have hat := qF_at hq hj
      have hts := take_s hj
      refine s_X5_keepCounts_34 _ _ _ ?_
      rw [o3 32 (by decide) (by decide), o3 31 (by decide) (by decide), z_s p, z_in (by omega) (by omega), z_cl (by omega), e2, z_le (by omega) (by omega) (by omega) (by omega), z_in (by omega) (by omega), z_cl (by omega), e1, z_in (by omega) (by omega), z_cl (by omega), z_sub, show ((f + j : Nat) : Int) - (f : Int) = (j : Nat) by omega, hat]
      refine ⟨by omega, fun c => absurd c (by omega), fun _ => ⟨by omega, fun x1 e1 => ⟨by omega, ?_⟩⟩⟩
      rw [e1]
      refine holding_ok (by omega) h73 hc3 hj (show m < 15 by omega) ⟨_, rfl, ?_⟩
      rw [hts] at ih2
      generalize L.getD j 0 = y at *
      rw [show (13 : Int32) = zI (13 : Nat) from rfl, z_mul, z_add, show (y : Int) * ((13 : Nat) : Int) + (m : Int) = ((13 * y + m : Nat) : Int) by omega, z_in (by omega) (by omega), z_cl (by omega), z_s (f + j)]
      refine ⟨by omega, fun I4 e4 => ih2 I4 (fun q a b => by rw [e4, u2_other _ _ _ _ b]; exact o3 q a b) (fun x => by rw [e4, u2_other _ _ _ _ (by decide)]; exact y1 x) (fun x => ?_)⟩
      rw [e4, u2_at]
      by_cases e : x = 13 * y + m
      · rw [if_pos e, if_pos (Or.inr ⟨by rw [show x / 13 = y by omega]; simp, by omega⟩), show x / 13 = y by omega, show x % 13 = m by omega]
      · rw [if_neg e, y2 x]
        by_cases e3 : (x / 13 ∈ L ∧ x % 13 < m) ∨ (x / 13 ∈ L.take j ∧ x % 13 = m)
        · rw [if_pos e3, if_pos (by rcases e3 with q | q; exact Or.inl q; exact Or.inr ⟨List.mem_append_left _ q.1, q.2⟩)]
        · rw [if_neg e3, if_neg (fun q => by
            rcases q with q | q
            · exact e3 (Or.inl q)
            · rcases List.mem_append.mp q.1 with z | z
              · exact e3 (Or.inr ⟨z, q.2⟩)
              · have := List.mem_singleton.mp z
                omega)]
/-- the counts as the class keeps them -/
def xct (w h sh : Nat) (M H N : Nat → Bool) (I : tg_I) : Prop := (∀ p m, p < npn w h sh H N → m < 13 → I 34 (13 * p + m) = zI (wy (w * h) (nb w h sh) M N (pL (w * h) (bdr w h sh H N) (ptn w h sh H N) p) m)) ∧ ∀ c m, bdr w h sh H N c = true → m < 13 → I 35 (13 * c + m) = zI (wz (w * h) (nb w h sh) M N (pL (w * h) (bdr w h sh H N) (ptn w h sh H N) (ptn w h sh H N c)) c m)
def oSt (I I' : tg_I) : Prop := ∀ q, q ≠ 20 → q ≠ 21 → q ≠ 22 → q ≠ 23 → q ≠ 24 → q ≠ 25 → q ≠ 26 → q ≠ 27 → q ≠ 34 → q ≠ 35 → I' q = I q
theorem oSt.out {I I' : tg_I} {J : tg_J} (o : oSt I I') : outP I I' J J := fun q hq => ⟨o q (by omega) (by omega) (by omega) (by omega) (by omega) (by omega) (by omega) (by omega) (by omega) (by omega), rfl⟩
theorem study_ok (hb : isBd b) (gk : gOk w h sh) (g : gridX b w h sh I J) (v : bst b (w * h) M H B F J) (ok : okS (w * h) M H B F) (hN : N = opS (w * h) H B) (hg : gdp w h sh H N (npn w h sh H N) = true) (hx : xpl w h sh H N I J) (hp : ∀ I', oSt I I' → xct w h sh M H N I' → P none I' J) : call pgX zX5_study [.ref 17, .ref b] I J P := by
  obtain ⟨hn1, hn2⟩ := mul_le100 gk
  obtain ⟨x1, x2, x3, x4, x5⟩ := hx
  have hS := bdr_lt (w := w) (h := h) (sh := sh) (N := N) (fun i hi => (ok.1 i hi).1)
  obtain ⟨k1, k2, k3⟩ := ptok_ok (w := w) (h := h) (sh := sh) (N := N) gk (fun i hi => (ok.1 i hi).1)
  have hg : ∀ p, p < npn w h sh H N → (pL (w * h) (bdr w h sh H N) (ptn w h sh H N) p).length ≤ 12 := of_decide_eq_true hg
  have hct : ∀ I', xct w h sh M H N I' ↔ (∀ p m, p < npn w h sh H N → m < 13 → I' 34 (13 * p + m) = zI (wy (w * h) (nb w h sh) M N (pL (w * h) (bdr w h sh H N) (ptn w h sh H N) p) m)) ∧ ∀ c m, bdr w h sh H N c = true → m < 13 → I' 35 (13 * c + m) = zI (wz (w * h) (nb w h sh) M N (pL (w * h) (bdr w h sh H N) (ptn w h sh H N) (ptn w h sh H N c)) c m) := fun _ => Iff.rfl
  generalize bdr w h sh H N = S at *
  generalize ptn w h sh H N = pt at *
  generalize npn w h sh H N = np at *
  refine e_X5_study _ hb ?_
  have key := up_loop (L := fun k => ∀ I1, oSt I I1 → (∀ p m, p < k → m < 13 → I1 34 (13 * p + m) = zI (wy (w * h) (nb w h sh) M N (pL (w * h) S pt p) m)) → (∀ c m, S c = true → pt c < k → m < 13 → I1 35 (13 * c + m) = zI (wz (w * h) (nb w h sh) M N (pL (w * h) S pt (pt c)) c m)) → l_X5_study_2 I1 J P b (zI k)) np ?_ ?_ 0 (Nat.zero_le _) I (fun _ _ _ _ _ _ _ _ _ _ _ => rfl) (fun p m h => absurd h (by omega)) (fun c m _ h => absurd h (by omega))
  · exact key
  · intro I1 o z1 z2
    refine s_X5_study_2 _ _ hb ⟨fun _ => hp I1 o ((hct I1).mpr ⟨z1, fun c m h1 h2 => z2 c m h1 (k2 c (hS c h1) h1) h2⟩), fun c => absurd (by rw [o 17 (by decide) (by decide) (by decide) (by decide) (by decide) (by decide) (by decide) (by decide) (by decide) (by decide), x2]; exact Int32.le_refl _) c⟩
  · intro p hpn ih I1 o z1 z2
    obtain ⟨L, l1, l2⟩ := x4 p hpn
    have hl12 := hg p hpn
    rw [← l1.length_eq] at hl12
    have hpt := ptL_perm l1 (k3 p hpn).1
    have hLn : ∀ x, x ∈ L → x < w * h := fun x hx => (hpt.2.1 x hx).1
    have hfs := fo_s (w * h) S pt p
    have hf1 := fo_le (w * h) S pt (p + 1)
    rw [← l1.length_eq] at hfs
    have f1 := x3 p (by omega)
    have f2 := x3 (p + 1) (by omega)
    rw [hfs] at f2
    generalize hff : fo (w * h) S pt p = f at *
    refine s_X5_study_2 _ _ hb ?_
    rw [o 17 (by decide) (by decide) (by decide) (by decide) (by decide) (by decide) (by decide) (by decide) (by decide) (by decide), x2, z_le (by omega) (by omega) (by omega) (by omega), z_in (by omega) (by omega), z_cl (by omega)]
    refine ⟨fun c => absurd c (by omega), fun _ => e_X7_clear (fun I2 e2 => ⟨rfl, by omega, fun y1 ey => ?_⟩)⟩
    rw [ey, e2, u2_other _ _ _ _ (by decide), o 32 (by decide) (by decide) (by decide) (by decide) (by decide) (by decide) (by decide) (by decide) (by decide) (by decide), f1]
    have key2 := up_loop (L := fun j => ∀ I3, (∀ q, q ≠ 20 → q ≠ 21 → I3 q = I1 q) → I3 20 7 = zI j → (∀ i, i < j → I3 21 i = zI (L.getD i 0)) → l_X5_study_24 I3 J P b (zI p) (zI ((f + j : Nat) : Int))) L.length ?_ ?_ 0 (Nat.zero_le _) I2 (fun q a _ => by rw [e2, u2_other _ _ _ _ a]) (by rw [e2, u2_eq]; rfl) (fun i hi => absurd hi (by omega))
    · rw [← e2]; exact key2
    · intro I3 o3 s3 t3
      have o31 : oSt I I3 := fun q a1 a2 a3 a4 a5 a6 a7 a8 a9 a10 => (o3 q a1 a2).trans (o q a1 a2 a3 a4 a5 a6 a7 a8 a9 a10)
      have g3 := outP.grid (J1 := J) hb o31.out g
      have e32 : I3 32 = I 32 := o31 32 (by decide) (by decide) (by decide) (by decide) (by decide) (by decide) (by decide) (by decide) (by decide) (by decide)
      have e31 : I3 31 = I 31 := o31 31 (by decide) (by decide) (by decide) (by decide) (by decide) (by decide) (by decide) (by decide) (by decide) (by decide)
      refine s_X5_study_24 _ _ _ hb ?_
      rw [e32, z_s p, z_in (by omega) (by omega), z_cl (by omega), f2]
      refine ⟨by omega, fun _ => bind_ok (N := N) (A := L) hb (bd_bits hb (by decide) (by decide)) gk g3 v (fun i hi => by rw [hN]; exact (v i hi).2.2.1) hLn (by omega) ⟨s3, t3⟩ (fun I4 o4 r4 => ⟨rfl, ?_⟩), fun c => absurd (Int32.le_refl _) c⟩
      have h74 : I4 20 7 = zI L.length := by rw [o4 20 (by decide) (by decide) (by decide) (by decide), s3]
      refine run_ok gk ok (fun o ho => by rw [hN] at ho; exact ho) hpt (by omega) r4 h74 (fun I5 o5 c5 => ⟨rfl, ?_⟩)
      have h75 : I5 20 7 = zI L.length := by rw [o5 20 (by decide) (by decide), h74]
      have e52 : I5 32 = I 32 := by rw [o5 32 (by decide) (by decide), o4 32 (by decide) (by decide) (by decide) (by decide), e32]
      have e51 : I5 31 = I 31 := by rw [o5 31 (by decide) (by decide), o4 31 (by decide) (by decide) (by decide) (by decide), e31]
      refine keepCounts_ok (f := f) (by omega) (fun x hx => by have := hLn x hx; omega) h75 c5 (show p < 100 by omega) (by omega) (by rw [e52, f1]) (by rw [e52, f2]) (fun j x hx => by rw [e51]; exact l2 j x hx) (fun I6 o6 a6 b6 => ⟨rfl, ?_⟩)
      have k34 : I5 34 = I1 34 := by rw [o5 34 (by decide) (by decide), o4 34 (by decide) (by decide) (by decide) (by decide), o3 34 (by decide) (by decide)]
      have k35 : I5 35 = I1 35 := by rw [o5 35 (by decide) (by decide), o4 35 (by decide) (by decide) (by decide) (by decide), o3 35 (by decide) (by decide)]
      refine ih I6 (fun q a1 a2 a3 a4 a5 a6 a7 a8 a9 a10 => by rw [o6 q a9 a10, o5 q a7 a8, o4 q a3 a4 a5 a6]; exact o31 q a1 a2 a3 a4 a5 a6 a7 a8 a9 a10) (fun q m hq hm => ?_) (fun c m hc hq hm => ?_)
      · rw [a6, k34, show (13 * q + m) / 13 = q by omega, show (13 * q + m) % 13 = m by omega]
        by_cases e : q = p
        · rw [if_pos e, wy_perm l1, e]
        · rw [if_neg e]; exact z1 q m (by omega) hm
      · have hmem : c ∈ L ↔ pt c = p := by
          rw [l1.mem_iff, pL_mem]
          exact ⟨fun q => q.2.2, fun q => ⟨hS c hc, hc, q⟩⟩
        rw [b6, k35, show (13 * c + m) / 13 = c by omega, show (13 * c + m) % 13 = m by omega]
        by_cases e : pt c = p
        · rw [if_pos (hmem.mpr e), wz_perm l1, e]
        · rw [if_neg (fun q => e (hmem.mp q))]; exact z2 c m hc (by omega) hm
    · intro j hj ih2 I3 o3 s3 t3
      have o31 : oSt I I3 := fun q a1 a2 a3 a4 a5 a6 a7 a8 a9 a10 => (o3 q a1 a2).trans (o q a1 a2 a3 a4 a5 a6 a7 a8 a9 a10)
      have e32 : I3 32 = I 32 := o31 32 (by decide) (by decide) (by decide) (by decide) (by decide) (by decide) (by decide) (by decide) (by decide) (by decide)
      have e31 : I3 31 = I 31 := o31 31 (by decide) (by decide) (by decide) (by decide) (by decide) (by decide) (by decide) (by decide) (by decide) (by decide)
      have hat := qF_at l2 hj
      refine s_X5_study_24 _ _ _ hb ?_
      rw [e32, e31, z_s p, z_in (by omega) (by omega), z_cl (by omega), f2, z_le (by omega) (by omega) (by omega) (by omega), z_in (by omega) (by omega), z_cl (by omega), hat, z_s (f + j)]
      refine ⟨by omega, fun c => absurd c (by omega), fun _ => ⟨by omega, e_X7_push _ ?_⟩⟩
      rw [s3, show (14 : Int32) = zI (14 : Nat) from rfl, z_lt (by omega) (by omega) (by omega) (by omega), z_in (by omega) (by omega), z_cl (by omega)]
      refine ⟨fun _ => ⟨by omega, fun I4 e4 I5 e5 => ⟨_, rfl, ?_⟩⟩, fun c => absurd (by omega) c⟩
      refine ih2 I5 (fun q a b => by rw [e5, u2_other _ _ _ _ a, e4, u2_other _ _ _ _ b]; exact o3 q a b) (by rw [e5, u2_eq, e4, u2_other _ _ _ _ (by decide), s3, z_s]) (fun i hi => ?_)
      rw [e5, u2_other _ _ _ _ (by decide), e4, u2_at]
      by_cases e : i = j
      · rw [if_pos e, e]
      · rw [if_neg e]; exact t3 i (by omega)
end XK
