/-! the class: the parts of the border -/
def fo (n : Nat) (Bd : Nat → Bool) (pt : Nat → Nat) (p : Nat) : Nat := fb_ct (fun x => Bd x && decide (pt x < p)) n
theorem fo_s (n : Nat) (Bd : Nat → Bool) (pt : Nat → Nat) (p : Nat) : fo n Bd pt (p + 1) = fo n Bd pt p + (pL n Bd pt p).length := by
  rw [pL_ct]
  unfold fo
  rw [← fb_ct_or (fun k _ q => by
    simp only [Bool.and_eq_true, decide_eq_true_eq] at q
    omega)]
  refine fb_ct_cong (fun k _ => ?_)
  cases Bd k
  · rfl
  · simp only [Bool.true_and]
    rw [← Bool.decide_or]
    exact decide_eq_decide.mpr (by omega)
theorem fo_0 (n : Nat) (Bd : Nat → Bool) (pt : Nat → Nat) : fo n Bd pt 0 = 0 := fb_ct_zero.mpr (fun k _ => by simp)
theorem fo_le (n : Nat) (Bd : Nat → Bool) (pt : Nat → Nat) (p : Nat) : fo n Bd pt p ≤ n := fb_ct_le _ _
/-- the parts as the class keeps them, up to part k, whose cells satisfy D -/
def xpk (n : Nat) (Bd : Nat → Bool) (pt : Nat → Nat) (k : Nat) (D : Nat → Bool) (I : tg_I) (J : tg_J) : Prop := (∀ i, i < 128 → sB J 28 i = D i) ∧ I 17 14 = zI k ∧ (∀ p, p ≤ k → I 32 p = zI (fo n Bd pt p)) ∧ (∀ p, p < k → ∃ L : List Nat, L.Perm (pL n Bd pt p) ∧ qF (fo n Bd pt p) L I) ∧ ∀ x, D x = true → I 33 x = zI (pt x)
def gfr (I I' : tg_I) (J J' : tg_J) : Prop := (∀ q, q ≠ 17 → q ≠ 31 → q ≠ 32 → q ≠ 33 → I' q = I q) ∧ (∀ x, x ≠ 14 → I' 17 x = I 17 x) ∧ onlyJ 28 J J'
theorem gfr.out {I I1 : tg_I} {J J1 : tg_J} (h1 : gfr I I1 J J1) : outP I I1 J J1 := fun q hq => ⟨h1.1 q (by omega) (by omega) (by omega) (by omega), h1.2.2 q (by omega)⟩
section XG
variable {I : tg_I} {J : tg_J} {P : Option Value → tg_I → tg_J → Prop} {w h sh b : Nat} {M H B F : Nat → Bool}
/-- the parts of the whole border -/
def xpl (w h sh : Nat) (H N : Nat → Bool) (I : tg_I) (J : tg_J) : Prop := xpk (w * h) (bdr w h sh H N) (ptn w h sh H N) (npn w h sh H N) (bdr w h sh H N) I J
theorem gather_ok (hb : isBd b) (gk : gOk w h sh) (g : gridX b w h sh I J) (v : bst b (w * h) M H B F J) (ok : okS (w * h) M H B F)
    (hp1 : ∀ I' J', gfr I I' J J' → gdp w h sh H (opS (w * h) H B) (npn w h sh H (opS (w * h) H B)) = true → xpl w h sh H (opS (w * h) H B) I' J' → P (some (.int 1)) I' J')
    (hp0 : ∀ I' J', gfr I I' J J' → gdp w h sh H (opS (w * h) H B) (npn w h sh H (opS (w * h) H B)) = false → P (some (.int 0)) I' J') : call pgX zX5_gather [.ref 17, .ref b] I J P := by
  obtain ⟨hn1, hn2⟩ := mul_le100 gk
  have hS := bdr_lt (w := w) (h := h) (sh := sh) (N := opS (w * h) H B) (fun i hi => (ok.1 i hi).1)
  have hsy := ajw_sym (w := w) (h := h) (sh := sh) (N := opS (w * h) H B)
  have hpc := fun s x hs => pL_con (w := w) (h := h) (sh := sh) (N := opS (w * h) H B) (H := H) (fun i hi => (ok.1 i hi).1) (s := s) (x := x) hs
  have hpl : xpl w h sh H (opS (w * h) H B) = xpk (w * h) (bdr w h sh H (opS (w * h) H B)) (ptn w h sh H (opS (w * h) H B)) (npn w h sh H (opS (w * h) H B)) (bdr w h sh H (opS (w * h) H B)) := rfl
  have hnp : npn w h sh H (opS (w * h) H B) = fb_ct (fun s => lo (w * h) (ajw w h sh (opS (w * h) H B)) (bdr w h sh H (opS (w * h) H B)) s s) (w * h) := rfl
  have hpn : ∀ x, ptn w h sh H (opS (w * h) H B) x = fb_ct (fun s => lo (w * h) (ajw w h sh (opS (w * h) H B)) (bdr w h sh H (opS (w * h) H B)) s s) (ld (w * h) (ajw w h sh (opS (w * h) H B)) (bdr w h sh H (opS (w * h) H B)) x) := fun _ => rfl
  have hgd : gdp w h sh H (opS (w * h) H B) (npn w h sh H (opS (w * h) H B)) = decide (∀ p, p < npn w h sh H (opS (w * h) H B) → (pL (w * h) (bdr w h sh H (opS (w * h) H B)) (ptn w h sh H (opS (w * h) H B)) p).length ≤ 12) := rfl
  have hbi : ∀ x, bdr w h sh H (opS (w * h) H B) x = (H x && decide (0 < nin w h sh (opS (w * h) H B) x)) := fun _ => rfl
  have hspr := fun (s f : Nat) (E0 : Nat → Bool) (I1 : tg_I) (J1 : tg_J) (P1 : Option Value → tg_I → tg_J → Prop) a1 a2 a3 a4 a5 a6 a7 => spread_ok (P := P1) (I := I1) (J := J1) (N := opS (w * h) H B) (E0 := E0) (s := s) (f := f) (M := M) (H := H) (B := B) (F := F) hb gk a1 a2 rfl hS a3 a4 a5 a6 a7
  generalize bdr w h sh H (opS (w * h) H B) = S at *
  generalize ajw w h sh (opS (w * h) H B) = A at *
  generalize ptn w h sh H (opS (w * h) H B) = pt at *
  have ptlt : ∀ x k, S x = true → (pt x < fb_ct (fun s => lo (w * h) A S s s) k ↔ ld (w * h) A S x < k) := fun x k hx => by
    rw [hpn x]
    constructor
    · intro q
      rcases Nat.lt_or_ge (ld (w * h) A S x) k with z | z
      · exact z
      · have := fb_ct_mono (fun s => lo (w * h) A S s s) z
        omega
    · intro q
      have := fb_ct_mono (fun s => lo (w * h) A S s s) (show ld (w * h) A S x + 1 ≤ k from q)
      rw [fb_ct_succ, if_pos ((lo_ld hS _).mpr ⟨ld_S hS hx, ld_ld hsy hS hx⟩)] at this
      omega
  refine e_X5_gather _ hb (clear_ok bits28 (fun J1 oj sj => ⟨rfl, fun I1 e1 => ?_⟩))
  rw [show (0 : Int32) = zI ((0 : Nat) : Int) from rfl, z_in (by omega) (by omega), z_cl (by omega)]
  refine ⟨by omega, fun I2 e2 => ?_⟩
  have key := up_loop (L := fun k => ∀ I3 J3, gfr I I3 J J3 → xpk (w * h) S pt (fb_ct (fun s => lo (w * h) A S s s) k) (fun i => S i && decide (ld (w * h) A S i < k)) I3 J3 → (∀ p, p < fb_ct (fun s => lo (w * h) A S s s) k → (pL (w * h) S pt p).length ≤ 12) → l_X5_gather_21 I3 J3 P b (zI k)) (w * h) ?_ ?_ 0 (Nat.zero_le _) I2 J1 ⟨fun q x1 x2 x3 x4 => by rw [e2, u2_other _ _ _ _ x3, e1, u2_other _ _ _ _ x1], fun x hx => by rw [e2, u2_other _ _ _ _ (by decide), e1, u2_at, if_neg hx], oj⟩ ⟨fun i _ => by rw [sj i]; simp, by rw [e2, u2_other _ _ _ _ (by decide), e1, u2_eq]; first | done | rfl, fun p hp => by rw [show p = 0 from Nat.le_zero.mp hp, e2, u2_eq, fo_0]; first | done | rfl, fun p hp => absurd hp (by rw [show fb_ct (fun s => lo (w * h) A S s s) 0 = 0 from rfl]; omega), fun x hx => by simp at hx⟩ (fun p hp => absurd hp (by rw [show fb_ct (fun s => lo (w * h) A S s s) 0 = 0 from rfl]; omega))
  · exact key
  · intro I3 J3 o3 x3 l3
    have hcl : I3 (b + 1) 7 = zI (w * h : Nat) := (o3.out.grid hb g).1.2.2.2
    refine s_X5_gather_21 _ _ hb ⟨fun _ => ?_, fun c => absurd (by rw [hcl]; exact Int32.le_refl _) c⟩
    refine hp1 I3 J3 o3 (by rw [hgd, hnp]; exact decide_eq_true l3) ?_
    rw [hpl, hnp]
    have hD : (fun i => S i && decide (ld (w * h) A S i < w * h)) = S := funext fun i => by
      cases e : S i
      · rfl
      · rw [decide_eq_true (ld_spec (hS i e)).1]; rfl
    rw [hD] at x3
    exact x3
  · intro k hk ih I3 J3 o3 x3 l3
    have g3 := o3.out.grid hb g
    have v3 := o3.out.bst hb v
    have hcl : I3 (b + 1) 7 = zI (w * h : Nat) := g3.1.2.2.2
    have hck := fb_ct_le (fun s => lo (w * h) A S s s) k
    rw [fb_ct_succ] at ih
    have skip : lo (w * h) A S k k = false → l_X5_gather_21 I3 J3 P b (zI ((k + 1 : Nat) : Int)) := fun hl => by
      rw [hl, if_neg Bool.false_ne_true, Nat.add_zero] at ih
      have hD : (fun i => S i && decide (ld (w * h) A S i < k + 1)) = fun i => S i && decide (ld (w * h) A S i < k) := funext fun i => by
        cases e : S i
        · rfl
        · have : ld (w * h) A S i ≠ k := fun q => by
            rw [(lo_ld hS k).mpr (by rw [← q]; exact ⟨ld_S hS e, ld_ld hsy hS e⟩)] at hl; cases hl
          simp only [Bool.true_and]
          exact decide_eq_decide.mpr (by omega)
      rw [hD] at ih
      exact ih I3 J3 o3 x3 l3
    obtain ⟨y1, y2, y3, y4, y5⟩ := x3
    have y1 : ∀ i, i < 128 → sB J3 28 i = (S i && decide (ld (w * h) A S i < k)) := y1
    have y5 : ∀ x, (S x && decide (ld (w * h) A S x < k)) = true → I3 33 x = zI (pt x) := y5
    refine s_X5_gather_21 _ _ hb ?_
    rw [hcl, z_le (by omega) (by omega) (by omega) (by omega), z_s k]
    refine ⟨fun c => absurd c (by omega), fun _ => has_ok (bd_bits hb (by decide) (by decide)) (by omega) ⟨_, rfl, ?_⟩⟩
    rw [(v3 k (by omega)).2.1, bi_0]
    refine ⟨fun c => skip ?_, fun c => has_ok bits28 (by omega) ⟨_, rfl, ?_⟩⟩
    · cases e : lo (w * h) A S k k
      · rfl
      · have := ((lo_ld hS k).mp e).1
        rw [hbi k, c] at this; cases this
    rw [y1 k (by omega), bi_0, y2, show (100 : Int32) = zI (100 : Nat) from rfl, z_le (by omega) (by omega) (by omega) (by omega)]
    refine ⟨fun c2 => skip ?_, fun c2 => ⟨fun c3 => absurd c3 (by omega), fun _ => touch_nin hb (bd_bits hb (by decide) (by decide)) gk g3 hk (fun i hi => (v3 i (by omega)).2.2.1) ⟨_, rfl, ?_⟩⟩⟩
    · cases e : lo (w * h) A S k k
      · rfl
      · have := ((lo_ld hS k).mp e)
        rw [this.2, this.1] at c2; simp at c2
    rw [bi_0]
    refine ⟨fun c3 => skip ?_, fun c3 => ?_⟩
    · cases e : lo (w * h) A S k k
      · rfl
      · have := ((lo_ld hS k).mp e).1
        rw [hbi k, c3, Bool.and_false] at this; cases this
    · have hSk : S k = true := by rw [hbi k, show H k = true by simpa using c, Bool.of_not_eq_false c3]; rfl
      have hlk : ld (w * h) A S k = k := by
        rw [hSk, Bool.true_and] at c2
        have := of_decide_eq_false c2
        have := ld_le (nbr := A) (S := S) hk
        omega
      have hlo : lo (w * h) A S k k = true := (lo_ld hS k).mpr ⟨hSk, hlk⟩
      rw [if_pos hlo] at ih
      have hf : fb_ct (fun i => S i && decide (ld (w * h) A S i < k)) (w * h) = fo (w * h) S pt (fb_ct (fun s => lo (w * h) A S s s) k) := fb_ct_cong (fun i _ => by
        cases e : S i
        · rfl
        · exact congrArg (true && ·) (decide_eq_decide.mpr (ptlt i k e).symm))
      rw [y2, z_in (by omega) (by omega), z_cl (by omega)]
      refine ⟨by omega, fun x1 ex => ?_⟩
      rw [ex, y3 _ (Nat.le_refl _)]
      refine hspr k _ _ I3 J3 _ g3 v3 hSk hf (fun y hy => ?_) y1 (fun I4 J4 L hnd hmem hlen o4 p33 q33 s4 q4 => ⟨_, rfl, fun I5 e5 => ?_⟩)
      · rw [← (ld_con hsy hS hSk (con_S hSk hy)).mpr hy, hlk, decide_eq_false (by omega), Bool.and_false]
      · have perm : L.Perm (pL (w * h) S pt (fb_ct (fun s => lo (w * h) A S s s) k)) := (List.perm_ext_iff_of_nodup hnd (List.Nodup.sublist List.filter_sublist List.nodup_range)).mpr (fun x => (hmem x).trans (hpc k x hlo).symm)
        have hplen := perm.length_eq
        have hfl := fo_le (w * h) S pt (fb_ct (fun s => lo (w * h) A S s s) k)
        have e17 : I5 17 14 = zI ((fb_ct (fun s => lo (w * h) A S s s) k + 1 : Nat) : Int) := by rw [e5, u2_eq, o4.1 17 (by decide) (by decide), y2, z_s]
        rw [e17, z_in (by omega) (by omega), z_cl (by omega), z_sub, show (12 : Int32) = zI (12 : Nat) from rfl, z_le (by omega) (by omega) (by omega) (by omega)]
        refine ⟨by omega, fun I6 e6 => ?_⟩
        have o6 : gfr I I6 J J4 := ⟨fun q x1 x2 x3 x4 => by rw [e6, u2_other _ _ _ _ x3, e5, u2_other _ _ _ _ x1]; exact (o4.1 q x2 x4).trans (o3.1 q x1 x2 x3 x4), fun x hx => by rw [e6, u2_other _ _ _ _ (by decide), e5, u2_at, if_neg hx, o4.1 17 (by decide) (by decide)]; exact o3.2.1 x hx, fun q hq => (o4.2.2 q hq).trans (o3.2.2 q hq)⟩
        have hkn : fb_ct (fun s => lo (w * h) A S s s) k < npn w h sh H (opS (w * h) H B) := by
          rw [hnp]
          have := fb_ct_mono (fun s => lo (w * h) A S s s) (show k + 1 ≤ w * h from hk)
          rw [fb_ct_succ, if_pos hlo] at this
          omega
        refine ⟨fun c4 => ?_, fun c4 => hp0 I6 J4 o6 ?_⟩
        · refine ih I6 J4 o6 ⟨fun i hi => ?_, by rw [e6, u2_other _ _ _ _ (by decide), e17], fun p hp => ?_, fun p hp => ?_, fun x hx => ?_⟩ (fun p hp => ?_)
          · rw [s4 i hi]
            show (S i && decide (ld (w * h) A S i < k) || decide (i ∈ L)) = (S i && decide (ld (w * h) A S i < k + 1))
            cases e : S i
            · rw [show decide (i ∈ L) = false from decide_eq_false (fun q => by have := con_S hSk ((hmem i).mp q); rw [e] at this; cases this)]; rfl
            · simp only [Bool.true_and]
              have : i ∈ L ↔ ld (w * h) A S i = k := by
                rw [hmem i, ← ld_con hsy hS hSk e, hlk]
                exact ⟨fun q => q.symm, fun q => q.symm⟩
              rw [← Bool.decide_or]
              apply decide_eq_decide.mpr
              rw [this]
              omega
          · rw [e6, u2_at]
            by_cases e : p = fb_ct (fun s => lo (w * h) A S s s) k + 1
            · rw [if_pos e, e, fo_s, hplen]
            · rw [if_neg e, e5, u2_other _ _ _ _ (by decide), o4.1 32 (by decide) (by decide)]
              exact y3 p (by omega)
          · by_cases e : p = fb_ct (fun s => lo (w * h) A S s s) k
            · rw [e]
              exact ⟨L, perm, fun j x hx => by rw [e6, u2_other _ _ _ _ (by decide), e5, u2_other _ _ _ _ (by decide)]; exact q4 j x hx⟩
            · obtain ⟨L', l1, l2⟩ := y4 p (by omega)
              refine ⟨L', l1, fun j x hx => ?_⟩
              have hj := (List.getElem?_eq_some_iff.mp hx).1
              rw [l1.length_eq] at hj
              have h6 : fo (w * h) S pt (p + 1) ≤ fo (w * h) S pt (fb_ct (fun s => lo (w * h) A S s s) k) := fb_ct_sub (fun x _ hx => by
                simp only [Bool.and_eq_true, decide_eq_true_eq] at hx ⊢
                exact ⟨hx.1, by omega⟩)
              rw [fo_s] at h6
              rw [e6, u2_other _ _ _ _ (by decide), e5, u2_other _ _ _ _ (by decide), o4.2.1 _ (by omega)]
              exact l2 j x hx
          · simp only [Bool.and_eq_true, decide_eq_true_eq] at hx
            rw [e6, u2_other _ _ _ _ (by decide), e5, u2_other _ _ _ _ (by decide)]
            by_cases e : x ∈ L
            · rw [p33 x e, y2, hpn x]
              rw [← (ld_con hsy hS hSk hx.1).mpr ((hmem x).mp e), hlk]
            · rw [q33 x e]
              refine y5 x ?_
              rw [hx.1, Bool.true_and]
              have : ld (w * h) A S x ≠ k := fun q => e ((hmem x).mpr ((ld_con hsy hS hSk hx.1).mp (by rw [hlk, q])))
              exact decide_eq_true (by omega)
          · by_cases e : p = fb_ct (fun s => lo (w * h) A S s s) k
            · rw [e, ← hplen]; omega
            · exact l3 p (by omega)
        · rw [hgd]
          refine decide_eq_false (fun q => ?_)
          have := q _ hkn
          omega
end XG
