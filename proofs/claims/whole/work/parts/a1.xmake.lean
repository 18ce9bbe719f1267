/-! the class: prepare, draw, mend -/
theorem bits61 : isBits 61 := ⟨by decide, rfl⟩
section XMk
variable {I : tg_I} {J : tg_J} {P : Option Value → tg_I → tg_J → Prop} {w h sh : Nat} {M : Nat → Bool}
/-- the first cell to open -/
def fcl (w h : Nat) : Nat := h / 2 * w + w / 2
theorem fcl_lt (gk : gOk w h sh) : fcl w h < w * h := by
  obtain ⟨g1, g2, g3, g4, -⟩ := gk
  unfold fcl
  have h1 : w / 2 < w := by omega
  have h2 : h / 2 + 1 ≤ h := by omega
  have h3 := Nat.mul_le_mul_right w h2
  rw [Nat.add_mul, Nat.one_mul, Nat.mul_comm h w] at h3
  omega
/-- what making changes on the maker's side -/
def oMk (I I' : tg_I) (J J' : tg_J) : Prop := (∀ q, q < 17 ∨ 62 ≤ q → I' q = I q ∧ J' q = J q)
theorem prepare_ok (gk : gOk w h sh) (hp : ∀ I' J', (∀ q, q < 46 ∨ 62 ≤ q → I' q = I q ∧ J' q = J q) → I' 46 2 = I 46 2 → I' 46 4 = zI (fcl w h) → gridX 47 w h sh I' J' → (∀ i, i < 128 → sB J' 53 i = decide (i < w * h)) → bst 47 (w * h) (fun _ => false) (fun i => decide (i < w * h)) (fun _ => false) (fun _ => false) J' → (∀ i, i < 128 → sB J' 61 i = cbm w h sh (fcl w h) i) → P none I' J') : call pgX zX3_prepare [.ref 46, .int (zI w), .int (zI h), .int (zI sh)] I J P := by
  obtain ⟨hn1, hn2⟩ := mul_le100 gk
  have hc := fcl_lt gk
  obtain ⟨g1, g2, g3, g4, -⟩ := id gk
  refine e_X3_prepare _ _ _ (start_ok isBd47 gk (fun I1 J1 o1 gr a1 v1 => ⟨rfl, fun I2 e2 => copy_ok bits61 (bd_bits isBd47 (n := 6) (by decide) (by decide)) (fun J2 o2 s2 => ⟨rfl, ?_⟩)⟩))
  have hsh : ∀ a : Nat, a < 100 → zI (a : Int) >>> ((1 : Int32) &&& 31) = zI ((a / 2 : Nat) : Int) := fun a ha => by
    rw [z_nat, pk_shrN (by omega) _ 1 (by decide), z_nat]
  have e4 : I2 46 4 = zI (fcl w h) := by
    rw [e2, u2_eq, hsh h (by omega), hsh w (by omega), z_mul, z_add]
    unfold fcl
    congr 1
  rw [e4]
  have gr2 : gridX 47 w h sh I2 J2 := by
    unfold gridX xSz rowX rowB at gr ⊢
    rw [e2, u2_other _ _ _ _ (by decide), u2_other _ _ _ _ (by decide), u2_other _ _ _ _ (by decide), o2 (47 + 2) (by decide), o2 (47 + 3) (by decide)]
    exact gr
  obtain ⟨rl, rl8⟩ := row_len gk gr2 hc
  refine drop_ok bits61 (by omega) (fun J3 o3 s3 => ⟨rfl, ?_⟩)
  have key := up_loop (L := fun i => ∀ J4, onlyJ 61 J3 J4 → (∀ x, x < 128 → sB J4 61 x = (decide (x < w * h) && !decide (x = fcl w h) && !decide (x ∈ (nbl w h sh (fcl w h)).take i))) → l_X3_prepare_51 I2 J4 P (zI i)) (nbl w h sh (fcl w h)).length ?_ ?_ 0 (Nat.zero_le _) J3 (fun _ _ => rfl) (fun x hx => by rw [s3 x hx, s2 x, show sB J1 (47 + 6) x = decide (x < w * h) from a1 x hx]; simp)
  · exact key
  · intro J4 o4 s4
    refine s_X3_prepare_51 _ ?_
    rw [e4, z_in (by omega) (by omega), z_cl (by omega), show I2 52 (fcl w h) = zI (nbl w h sh (fcl w h)).length from rl]
    refine ⟨by omega, fun _ => ?_, fun c => absurd (Int32.le_refl _) c⟩
    have oJ : ∀ q, q ≠ 61 → J4 q = J1 q := fun q hq => (o4 q hq).trans ((o3 q hq).trans (o2 q hq))
    refine hp I2 J4 (fun q hq => ⟨by rw [e2, u2_other _ _ _ _ (by omega)]; exact o1.1 q (by omega) (by omega) (by omega), by rw [oJ q (by omega)]; exact o1.2 q (by omega)⟩) (by rw [e2, u2_at, if_neg (by decide)]; rw [o1.1 46 (by decide) (by decide) (by decide)]) e4 ?_ (fun i hi => by rw [sB_of (oJ 53 (by decide))]; exact a1 i hi) (fun i hi => ?_) (fun i hi => ?_)
    · unfold gridX xSz rowX rowB at gr2 ⊢
      rw [o4 (47 + 2) (by decide), o4 (47 + 3) (by decide), o3 (47 + 2) (by decide), o3 (47 + 3) (by decide)]
      exact gr2
    · have := v1 i hi
      rw [sB_of (oJ (47 + 7) (by decide)), sB_of (oJ (47 + 8) (by decide)), sB_of (oJ (47 + 9) (by decide)), sB_of (oJ (47 + 10) (by decide)), sB_of (oJ (47 + 11) (by decide))]
      exact this
    · rw [s4 i hi, List.take_length]
      unfold cbm
      congr 2
      cases e : nb w h sh (fcl w h) i
      · exact decide_eq_false (fun q => by rw [nbl_mem.mp q] at e; cases e)
      · exact decide_eq_true (nbl_mem.mpr e)
  · intro i hi ih J4 o4 s4
    have hat := row_at gk gr2 hc hi
    have hmem := getD_mem hi
    rw [take_s hi] at ih
    generalize (nbl w h sh (fcl w h)).getD i 0 = y at *
    have hy := nb_lt (nbl_mem.mp hmem)
    refine s_X3_prepare_51 _ ?_
    rw [e4, z_in (by omega) (by omega), z_cl (by omega), show I2 52 (fcl w h) = zI (nbl w h sh (fcl w h)).length from rl, z_le (by omega) (by omega) (by omega) (by omega), show (8 : Int32) = zI 8 from rfl, z_mul, z_add, z_in (by omega) (by omega), show (fcl w h : Int) * 8 + (i : Int) = ((8 * fcl w h + i : Nat) : Int) by omega, z_cl (by omega), show I2 51 (8 * fcl w h + i) = zI y from hat, z_s i]
    refine ⟨by omega, fun c => absurd c (by omega), fun _ => ⟨by omega, drop_ok bits61 (by omega) (fun J5 o5 s5 => ⟨rfl, ih J5 (fun q hq => (o5 q hq).trans (o4 q hq)) (fun x hx => ?_)⟩)⟩⟩
    rw [s5 x hx, s4 x hx]
    by_cases e : x = y
    · rw [e, decide_eq_true rfl, decide_eq_true (show y ∈ (nbl w h sh (fcl w h)).take i ++ [y] by simp)]; simp
    · rw [decide_eq_false e, show decide (x ∈ (nbl w h sh (fcl w h)).take i ++ [y]) = decide (x ∈ (nbl w h sh (fcl w h)).take i) from decide_eq_decide.mpr (by simp [e])]; simp
theorem draw_ok (gk : gOk w h sh) {I0 : tg_I} (g7 : I0 48 7 = zI (w * h : Nat)) {C : Nat → Bool} (hC : ∀ i, C i = true → i < w * h) : ∀ (m : Nat) (x : Int32) (M : Nat → Bool) (v1 : Nat) (J : tg_J), m ≤ fb_ct (rmm C M) (w * h) → m ≤ v1 → v1 ≤ 100 → (∀ i, i < 128 → sB J 54 i = M i) → (∀ i, i < 128 → sB J 61 i = rmm C M i) → (∀ J', (∀ q, q ≠ 54 → q ≠ 61 → J' q = J q) → (∀ i, i < 128 → sB J' 54 i = drw (w * h) C m x M i) → P none I0 J') → l_X3_draw_8 I0 J P (zI v1) x (zI ((v1 - m : Nat) : Int)) := by
  obtain ⟨hn1, hn2⟩ := mul_le100 gk
  intro m
  induction m with
  | zero =>
    intro x M v1 J hm hv hv2 s54 s61 hp
    exact s_X3_draw_8 _ _ _ ⟨fun _ => hp J (fun _ _ _ => rfl) s54, fun c => absurd (by rw [Nat.sub_zero]; exact Int32.le_refl _) c⟩
  | succ m ih =>
    intro x M v1 J hm hv hv2 s54 s61 hp
    have hR : ∀ i, rmm C M i = true → i < w * h := fun i q => by unfold rmm at q; simp only [Bool.and_eq_true] at q; exact hC i q.1
    have hct : fb_ct (sB J 61) 128 = fb_ct (rmm C M) (w * h) := set_ct (w := w) (h := h) (by omega) s61 (fun i hi => by
      cases e : rmm C M i
      · rfl
      · exact absurd (hR i e) (by omega))
    have hle := fb_ct_le (rmm C M) (w * h)
    obtain ⟨j, hj, ej⟩ := lcg_nat x
    have hk : (lcg x).toNatClampNeg / 65536 % fb_ct (rmm C M) (w * h) < fb_ct (rmm C M) (w * h) := Nat.mod_lt _ (by omega)
    obtain ⟨p1, p2, p3⟩ := pck_ok hk
    have hj2 : (lcg x).toNatClampNeg = j := by rw [ej]; exact z_cl (by omega)
    have hidx : ((lcg x).toUInt32 >>> ((16 : Int32).toUInt32 &&& Int32.toUInt32 31)).toInt32 - ((lcg x).toUInt32 >>> ((16 : Int32).toUInt32 &&& Int32.toUInt32 31)).toInt32 / zI (fb_ct (rmm C M) (w * h) : Nat) * zI (fb_ct (rmm C M) (w * h) : Nat) = zI ((j / 65536 % fb_ct (rmm C M) (w * h) : Nat) : Int) := by
      rw [ej, z_nat j, pk_ushrN (by omega) 16 16 (by decide), ← z_nat, show (2 : Nat) ^ 16 = 65536 from rfl]
      exact z_rem (by omega) (by omega) (by omega)
    rw [hj2] at hk p1 p2 p3
    have hd : drw (w * h) C (m + 1) x M = drw (w * h) C m (lcg x) (upb M (pck (w * h) (rmm C M) (j / 65536 % fb_ct (rmm C M) (w * h))) true) := by
      show drw (w * h) C m (lcg x) (upb M (pck (w * h) (rmm C M) ((lcg x).toNatClampNeg / 65536 % fb_ct (rmm C M) (w * h))) true) = _
      rw [hj2]
    refine s_X3_draw_8 _ _ _ ?_
    rw [z_le (by omega) (by omega) (by omega) (by omega), z_s, show v1 - (m + 1) + 1 = v1 - m by omega]
    refine ⟨fun c => absurd c (by omega), fun _ x1 e1 => ?_⟩
    have e1 : x1 = lcg x := e1
    rw [e1]
    refine size_ok bits61 ⟨_, rfl, ?_⟩
    rw [hct, show (0 : Int32) = zI 0 from rfl, z_le (by omega) (by omega) (by omega) (by omega), z_eq (by omega) (by omega) (by omega) (by omega), hidx, g7]
    generalize hkk : j / 65536 % fb_ct (rmm C M) (w * h) = k at *
    refine ⟨fun c => absurd c (by omega), fun _ => ⟨by omega, nth_ok bits61 (by omega) _ (fun c hc hsc hcc => ⟨_, rfl, ?_⟩) (fun hno => ?_)⟩⟩
    · have hcR : rmm C M c = true := by rw [← s61 c (by omega)]; exact hsc
      have hcp : c = pck (w * h) (rmm C M) k := by
        refine fb_ct_kth_one hcR p2 ?_
        rw [p3]
        rw [z_toInt (by omega) (by omega)] at hcc
        have e2 : fb_ct (sB J 61) c = fb_ct (rmm C M) c := fb_ct_cong (fun i hi => s61 i (by omega))
        omega
      rw [z_lt (by omega) (by omega) (by omega) (by omega)]
      refine ⟨fun q => absurd q (by omega), fun _ => add_ok (bd_bits isBd47 (n := 7) (by decide) (by decide)) (by omega) (fun J1 o1 s1 => ⟨rfl, drop_ok bits61 (by omega) (fun J2 o2 s2 => ⟨rfl, ?_⟩)⟩)⟩
      have up := rmm_upd (C := C) (M := M) hc hcR
      refine ih (lcg x) (upb M c true) v1 J2 (by omega) (by omega) hv2 (fun i hi => ?_) (fun i hi => ?_) (fun J3 o3 s3 => hp J3 (fun q a b => (o3 q a b).trans ((o2 q b).trans (o1 q a))) (fun i hi => ?_))
      · rw [sB_of (o2 54 (by decide)), show sB J1 54 i = sB J1 (47 + 7) i from rfl, s1 i hi, show sB J (47 + 7) i = sB J 54 i from rfl, s54 i hi]
        unfold upb
        by_cases e : i = c
        · rw [if_pos e, decide_eq_true e, Bool.or_true]
        · rw [if_neg e, decide_eq_false e, Bool.or_false]
      · rw [s2 i hi, sB_of (o1 61 (by decide)), s61 i hi]
        unfold rmm upb
        by_cases e : i = c
        · rw [if_pos e, decide_eq_true e]; simp
        · rw [if_neg e, decide_eq_false e]; simp
      · rw [s3 i hi, hd, hcp]
    · exfalso
      refine hno (pck (w * h) (rmm C M) k) p1 (by rw [s61 _ (by omega)]; exact p2) ?_
      rw [z_toInt (by omega) (by omega), fb_ct_cong (p := sB J 61) (q := rmm C M) (fun i hi => s61 i (by omega)), p3]
theorem mend_ok (gk : gOk w h sh) (g : gridX 47 w h sh I J) {H : Nat → Bool} (v : bst 47 (w * h) M H zB (fun _ => false) J) (hp0 : mdR w h sh M H none → P (some (.int 0)) I J) (hp1 : ∀ M', mdR w h sh M H (some M') → ∀ J', onlyJ 54 J J' → (∀ i, i < 128 → sB J' 54 i = M' i) → P (some (.int 1)) I J') : call pgX zX3_mend [.ref 46] I J P := by
  obtain ⟨hn1, hn2⟩ := mul_le100 gk
  have h7 : I 48 7 = zI (w * h : Nat) := g.1.2.2.2
  refine e_X3_mend ?_
  have down : ∀ k, k ≤ w * h → ∀ v1 v2, frst (w * h) (mdF w h sh M H) k v1 → frst (w * h) (mdT w h sh M H) k v2 → l_X3_mend_17 I J P v1 v2 (zI ((k : Int) - 1)) := by
    intro k
    induction k with
    | zero =>
      intro _ v1 v2 f1 f2
      obtain ⟨n1, n1'⟩ := frst_neg hn2 f1
      obtain ⟨n2, n2'⟩ := frst_neg hn2 f2
      refine s_X3_mend_17 _ _ _ ⟨fun _ => ⟨fun c => hp0 (Or.inl ⟨Or.inl (n1.mp c), rfl⟩), fun c => ⟨fun c2 => ?_, fun c2 => hp0 (Or.inl ⟨Or.inr (n2.mp (Classical.not_not.mp (fun z => c2 (n2'.mpr z)))), rfl⟩)⟩⟩, fun c => absurd (by decide) c⟩
      have ex1 : ∃ x, x < w * h ∧ mdF w h sh M H x := Classical.byContradiction fun z => c (n1.mpr (fun x hx q => z ⟨x, hx, q⟩))
      have ex2 : ∃ x, x < w * h ∧ mdT w h sh M H x := Classical.byContradiction fun z => (n2'.mp c2) (n2.mpr (fun x hx q => z ⟨x, hx, q⟩))
      obtain ⟨f, f1a, f1b, f1c, f1d⟩ := frst_pos f1 ex1
      obtain ⟨t, t1a, t1b, t1c, t1d⟩ := frst_pos f2 ex2
      rw [f1b, t1b]
      refine drop_ok (bd_bits isBd47 (n := 7) (by decide) (by decide)) (by omega) (fun J1 o1 s1 => ⟨rfl, add_ok (bd_bits isBd47 (n := 7) (by decide) (by decide)) (by omega) (fun J2 o2 s2 => ⟨rfl, hp1 _ (Or.inr ⟨f, t, f1a, f1c, f1d, t1a, t1c, t1d, rfl⟩) J2 (fun q hq => (o2 q hq).trans (o1 q hq)) (fun i hi => ?_)⟩)⟩)
      rw [show sB J2 54 i = sB J2 (47 + 7) i from rfl, s2 i hi, s1 i hi, (v i hi).1]
      unfold upb
      by_cases e1 : i = t
      · rw [if_pos e1, decide_eq_true e1, Bool.or_true]
      · rw [if_neg e1, decide_eq_false e1, Bool.or_false]
        by_cases e2 : i = f
        · rw [if_pos e2, decide_eq_true e2]; simp
        · rw [if_neg e2, decide_eq_false e2]; simp
    | succ k ih =>
      intro hk v1 v2 f1 f2
      have hkn : k < w * h := by omega
      have go := fun a b c d => ih (by omega) a b c d
      refine s_X3_mend_17 _ _ _ ?_
      rw [show (((k + 1 : Nat) : Int) - 1) = (k : Nat) by omega, show (-1 : Int32) = zI (-1) from rfl, z_add, show ((k : Nat) : Int) + -1 = (k : Int) - 1 by omega]
      refine ⟨fun c => absurd c (by rw [show (0 : Int32) = zI 0 from rfl, z_lt (by omega) (by omega) (by omega) (by omega)]; omega), fun _ => has_ok (bd_bits isBd47 (n := 8) (by decide) (by decide)) (by omega) ⟨_, rfl, ?_⟩⟩
      rw [(v k (by omega)).2.1, bi_0]
      refine ⟨fun c => go v1 v2 (frst_no f1 (fun q => by rw [q.1] at c; cases c)) (frst_no f2 (fun q => by rw [q.1] at c; cases c)), fun c => touch_nin isBd47 (bd_bits isBd47 (n := 9) (by decide) (by decide)) gk g hkn (fun i hi => (v i (by omega)).2.2.1) ⟨_, rfl, has_ok (bd_bits isBd47 (n := 7) (by decide) (by decide)) (by omega) ⟨_, rfl, ?_⟩⟩⟩
      have hH : H k = true := by simpa using c
      rw [(v k (by omega)).1, bi_0, bi_0]
      cases em : M k
      · have f1' := frst_no f1 (fun q => by rw [q.2.1] at em; cases em)
        refine ⟨fun _ => ⟨fun z => absurd rfl z, fun _ => ⟨fun z => go v1 v2 f1' (frst_no f2 (fun q => q.2.2 (of_decide_eq_true (Bool.of_not_eq_false z)))), fun z => go v1 _ f1' (frst_yes hkn ⟨hH, em, of_decide_eq_false z⟩)⟩⟩, fun z => absurd rfl z⟩
      · have f2' := frst_no f2 (fun q => by rw [q.2.1] at em; cases em)
        refine ⟨fun z => (by cases z), fun _ => ⟨fun z => ⟨fun _ => go v1 v2 (frst_no f1 (fun q => of_decide_eq_false z q.2.2)) f2', fun y => (by cases y)⟩, fun z => ⟨fun _ => go _ v2 (frst_yes hkn ⟨hH, em, of_decide_eq_true (Bool.of_not_eq_false z)⟩) f2', fun y => (by cases y)⟩⟩⟩
  rw [h7, show zI (w * h : Nat) - (1 : Int32) = zI (((w * h : Nat) : Int) - 1) by rw [show (1 : Int32) = zI 1 from rfl, z_sub]]
  exact down (w * h) (Nat.le_refl _) _ _ frst_n frst_n
end XMk
