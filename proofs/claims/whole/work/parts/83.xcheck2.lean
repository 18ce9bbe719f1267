/-! the class: check, as the desk's call -/
section XC2
variable {I : tg_I} {J : tg_J} {P : Option Value → tg_I → tg_J → Prop} {w h sh b : Nat} {M H B F N : Nat → Bool} {mv kd md : Nat} {hist : Nat → hS} {R T : Nat → Bool}
theorem nodup_sub {L A : List Nat} (h : L.Nodup) (hA : A.Nodup) (hs : ∀ x, x ∈ L → x ∈ A) : L.length ≤ A.length := by
  obtain ⟨n, hn⟩ : ∃ n, ∀ x, x ∈ A → x < n := by
    clear h hs hA
    induction A with
    | nil => exact ⟨0, fun x hx => by cases hx⟩
    | cons a A ih =>
      obtain ⟨n, hn⟩ := ih
      refine ⟨n + a + 1, fun x hx => ?_⟩
      rcases List.mem_cons.mp hx with q | q
      · omega
      · have := hn x q; omega
  have h1 := cp_ct (n := n) (p := fun _ => true) L h (fun x hx => hn x (hs x hx))
  have h2 := cp_ct (n := n) (p := fun _ => true) A hA hn
  rw [List.countP_true] at h1 h2
  rw [h1, h2]
  exact fb_ct_sub (fun k _ q => by simp at q ⊢; exact hs k q)
theorem studyTold_ok {k2 c : Nat} (hb : isBd b) (hk2 : isBits k2) (hk3 : k2 < 17 ∨ 39 ≤ k2) (gk : gOk w h sh) (g : gridX b w h sh I J) (v : bst b (w * h) M H B F J) (ok : okS (w * h) M H B F) (hT : ∀ i, i < 128 → sB J k2 i = T i) (hc : c < w * h) (hHc : H c = true)
    (h1 : ∀ I' J' (L : List Nat), outP I I' J J' → L.Perm (spA w h sh H (tlN T (opS (w * h) H B)) c) → L.getD 0 0 = c → L.length ≤ 14 → I' 20 7 = zI L.length → srC w h sh M (tlN T (opS (w * h) H B)) L I' → P (some (.int 1)) I' J')
    (h0 : ∀ I' J', outP I I' J J' → 14 < (spA w h sh H (tlN T (opS (w * h) H B)) c).length → P (some (.int 0)) I' J') : call pgX zX5_studyTold [.ref 17, .ref b, .ref k2, .int (zI c)] I J P := by
  obtain ⟨hn1, hn2⟩ := mul_le100 gk
  refine e_X5_studyTold _ _ _ hb hk2 (clear_ok bits28 (fun J1 oj1 sj1 => ⟨rfl, add_ok bits28 (by omega) (fun J2 oj2 sj2 => ⟨rfl, e_X7_clear (fun I1 e1 => ⟨rfl, push_ok (L := []) ⟨by rw [e1, u2_eq]; rfl, fun k hk => by simp at hk⟩ (by simp) (fun _ I2 oi2 sa2 => ⟨_, rfl, ?_⟩) (fun q => by simp at q)⟩)⟩)⟩))
  have sA2 : srA [c] I2 := sa2 c rfl
  have ouJ : onlyJ 28 J J2 := fun q hq => (oj2 q hq).trans (oj1 q hq)
  have oi : ∀ q, q ≠ 20 → q ≠ 21 → I2 q = I q := fun q a b => by rw [oi2 q a b, e1, u2_other _ _ _ _ a]
  have key := up_loop (L := fun k => ∀ I3 J3 (L : List Nat), [c] <+: L → L.Nodup → L.length ≤ 14 → (∀ y, y ∈ L ↔ y = c ∨ (y < w * h ∧ H y = true ∧ ∃ a, a < k ∧ tlN T (opS (w * h) H B) a = true ∧ nb w h sh a y = true)) → oPu I I3 J J3 → srA L I3 → (∀ i, i < 128 → sB J3 28 i = decide (i ∈ L)) → l_X5_studyTold_34 I3 J3 P b k2 (zI k)) (w * h) ?_ ?_ 0 (Nat.zero_le _) I2 J2 [c] (List.prefix_refl _) (by simp) (by simp) (fun y => ⟨fun q => Or.inl (List.mem_singleton.mp q), fun q => by rcases q with q | ⟨-, -, a, a1, -⟩; exact List.mem_singleton.mpr q; exact absurd a1 (by omega)⟩) ⟨oi, ouJ⟩ sA2 (fun i hi => by rw [sj2 i hi, sj1 i]; simp)
  · exact key
  · intro I3 J3 L pf nd l14 mm o3 s3 e3
    have hcl : I3 (b + 1) 7 = zI (w * h : Nat) := (o3.out.grid hb g).1.2.2.2
    refine s_X5_studyTold_34 _ _ _ hb hk2 ⟨fun _ => ?_, fun q => absurd (by rw [hcl]; exact Int32.le_refl _) q⟩
    have perm : L.Perm (spA w h sh H (tlN T (opS (w * h) H B)) c) := (List.perm_ext_iff_of_nodup nd spA_nodup).mpr (fun y => by rw [mm y, spA_mem])
    have hpt := ptL_perm perm (spA_ptL gk hc hHc)
    refine copy_ok bits29 hk2 (fun J4 oj4 sj4 => ⟨rfl, meet_ok bits29 (bd_bits hb (by decide) (by decide)) (by rcases hb with e | e <;> omega) (fun J5 oj5 sj5 => ⟨rfl, ?_⟩)⟩)
    have ou5 : outP I I3 J J5 := fun q hq => ⟨(o3.out q hq).1, by rw [oj5 q (by omega), oj4 q (by omega)]; exact (o3.out q hq).2⟩
    have g5 := ou5.grid hb g
    have v5 := ou5.bst hb v
    have hN5 : ∀ i, i < 128 → sB J5 29 i = tlN T (opS (w * h) H B) i := fun i hi => by
      rw [sj5 i, sj4 i, sB_of (o3.2 k2 (by omega)), hT i hi, sB_of (oj4 (b + 9) (by rcases hb with e | e <;> omega)), sB_of (o3.2 (b + 9) (by rcases hb with e | e <;> omega))]
      unfold tlN
      rw [(v i hi).2.2.1]
    refine bind_ok (N := tlN T (opS (w * h) H B)) (A := L) hb bits29 gk g5 v5 hN5 (fun x hx => (hpt.2.1 x hx).1) l14 s3 (fun I6 o6 r6 => ⟨rfl, ?_⟩)
    have h76 : I6 20 7 = zI L.length := by rw [o6 20 (by decide) (by decide) (by decide) (by decide)]; exact s3.1
    refine run_ok gk ok (fun o ho => by unfold tlN at ho; simp only [Bool.and_eq_true] at ho; exact ho.2) hpt l14 r6 h76 (fun I7 o7 c7 => ⟨rfl, ?_⟩)
    refine h1 I7 J5 L (ou5.tr (fun q hq => ⟨by rw [o7 q (by omega) (by omega), o6 q (by omega) (by omega) (by omega) (by omega)], rfl⟩)) perm ?_ l14 (by rw [o7 20 (by decide) (by decide)]; exact h76) c7
    obtain ⟨t, ht⟩ := pf
    rw [← ht]; rfl
  · intro k hk ih I3 J3 L pf nd l14 mm o3 s3 e3
    have hcl : I3 (b + 1) 7 = zI (w * h : Nat) := (o3.out.grid hb g).1.2.2.2
    have g3 := o3.out.grid hb g
    have v3 := o3.out.bst hb v
    have same : tlN T (opS (w * h) H B) k = false → l_X5_studyTold_34 I3 J3 P b k2 (zI ((k + 1 : Nat) : Int)) := fun q => ih I3 J3 L pf nd l14 (fun y => by
      rw [mm y]
      constructor
      · rintro (z | ⟨a, b, d, e, f⟩)
        · exact Or.inl z
        · exact Or.inr ⟨a, b, d, by omega, f⟩
      · rintro (z | ⟨a, b, d, e, f, g⟩)
        · exact Or.inl z
        · by_cases e2 : d = k
          · rw [e2, q] at f; cases f
          · exact Or.inr ⟨a, b, d, by omega, f, g⟩) o3 s3 e3
    refine s_X5_studyTold_34 _ _ _ hb hk2 ?_
    rw [hcl, z_le (by omega) (by omega) (by omega) (by omega), z_s]
    refine ⟨fun q => absurd q (by omega), fun _ => has_ok hk2 (by omega) ⟨_, rfl, ?_⟩⟩
    rw [sB_of (o3.2 k2 (by omega)), hT k (by omega), bi_0]
    refine ⟨fun q => same (by unfold tlN; rw [q]; rfl), fun q => has_ok (bd_bits hb (by decide) (by decide)) (by omega) ⟨_, rfl, ?_⟩⟩
    rw [(v3 k (by omega)).2.2.1, bi_0]
    refine ⟨fun q2 => same (by unfold tlN; rw [q2, Bool.and_false]), fun q2 => ?_⟩
    have hNk : tlN T (opS (w * h) H B) k = true := by unfold tlN; rw [show T k = true by simpa using q, show opS (w * h) H B k = true by simpa using q2]; rfl
    refine pushAround_ok hb gk g3 v3 hk s3 l14 nd e3 (fun I4 J4 L' pf' nd' l' mm' o4 s4 e4 => ⟨_, rfl, fun _ => ?_, fun z => absurd z (by decide)⟩) (fun I4 J4 L' nd' l' mm' o4 => ⟨_, rfl, fun z => absurd rfl z, fun _ => h0 I4 J4 ?_ ?_⟩)
    · refine ih I4 J4 L' (pf.trans pf') nd' l' (fun y => ?_) ⟨fun q a b => (o4.1 q a b).trans (o3.1 q a b), fun q hq => (o4.2 q hq).trans (o3.2 q hq)⟩ s4 e4
      rw [mm' y, mm y]
      constructor
      · rintro ((z | ⟨a, b, d, e, f⟩) | z)
        · exact Or.inl z
        · exact Or.inr ⟨a, b, d, by omega, f⟩
        · exact Or.inr ⟨nb_lt z.1, z.2, k, by omega, hNk, z.1⟩
      · rintro (z | ⟨a, b, d, e, f, g⟩)
        · exact Or.inl (Or.inl z)
        · by_cases e2 : d = k
          · rw [e2] at g; exact Or.inr ⟨g, b⟩
          · exact Or.inl (Or.inr ⟨a, b, d, by omega, f, g⟩)
    · exact o3.out.tr o4.out
    · have := nodup_sub nd' (spA_nodup (w := w) (h := h) (sh := sh) (H := H) (N := tlN T (opS (w * h) H B)) (c := c)) (fun y hy => by
        rw [spA_mem]
        rcases mm' y hy with z | z
        · rcases (mm y).mp z with z | ⟨a, b, d, e, f⟩
          · exact Or.inl z
          · exact Or.inr ⟨a, b, d, by omega, f⟩
        · exact Or.inr ⟨nb_lt z.1, z.2, k, hk, hNk, z.1⟩)
      omega
theorem fitsOpposite_ok {c : Nat} {L : List Nat} (hb : isBd b) (gk : gOk w h sh) (v : bst b (w * h) M H B F J) (ok : okS (w * h) M H B F) (perm : L.Perm (spA w h sh H N c)) (hc0 : L.getD 0 0 = c) (l14 : L.length ≤ 14) (h7 : I 20 7 = zI L.length) (hc : srC w h sh M N L I) (tot vm : Bool) (h1 : ckP w h sh M H N tot c vm → P (some (.int 1)) I J) (h0 : ¬ ckP w h sh M H N tot c vm → P (some (.int 0)) I J) : call pgX zX5_fitsOpposite [.ref 17, .ref b, .int (bi tot), .int (bi vm)] I J P := by
  obtain ⟨hn1, hn2⟩ := mul_le100 gk
  have hfH := fb_ct_le H (w * h)
  have hml := ml_le (w := w) (h := h) (sh := sh) (M := M) (H := H) gk
  have hlen := perm.length_eq
  have hpos : 0 < L.length := by rw [hlen]; unfold spA; simp
  rw [ckP_iff] at h1 h0
  simp only [← wy_perm perm, ← wz_perm perm, ← hlen] at h1 h0
  refine e_X5_fitsOpposite _ _ _ hb (size_ok (bd_bits hb (by decide) (by decide)) ⟨_, rfl, e_X7_size ⟨_, rfl, xml hb gk v ok ⟨_, rfl, ?_⟩⟩⟩)
  rw [set_ct (w := w) (h := h) (J := J) (S := H) (by omega) (fun i hi => (v i hi).2.1) (fun i hi => (ok.1 i hi).1), h7, z_sub]
  have key := up_loop (L := fun m => (∀ m', m' < m → ¬ (0 < (if vm then wy (w * h) (nb w h sh) M N L m' - wz (w * h) (nb w h sh) M N L c m' else wz (w * h) (nb w h sh) M N L c m') ∧ (tot = true → 0 ≤ (mlN (w * h) M H : Int) - m' ∧ (mlN (w * h) M H : Int) - m' ≤ (fb_ct H (w * h) : Int) - L.length))) → l_X5_fitsOpposite_26 I J P (bi tot) (bi vm) (zI ((fb_ct H (w * h) : Nat) - (L.length : Nat))) (zI (mlN (w * h) M H : Nat)) (zI m)) (L.length + 1) ?_ ?_ 0 (Nat.zero_le _) (fun m' h => absurd h (by omega))
  · exact key
  · intro hn
    refine s_X5_fitsOpposite_26 _ _ _ _ _ (e_X7_size ⟨_, rfl, fun _ => h0 ?_, fun q => absurd ?_ q⟩)
    · rintro ⟨m, m1, m2⟩
      exact hn m (by omega) m2
    · rw [h7, z_lt (by omega) (by omega) (by omega) (by omega)]; omega
  · intro m hm ih hn
    have yes : (0 < (if vm then wy (w * h) (nb w h sh) M N L m - wz (w * h) (nb w h sh) M N L c m else wz (w * h) (nb w h sh) M N L c m) ∧ (tot = true → 0 ≤ (mlN (w * h) M H : Int) - m ∧ (mlN (w * h) M H : Int) - m ≤ (fb_ct H (w * h) : Int) - L.length)) → P (some (.int 1)) I J := fun q => h1 ⟨m, by omega, q⟩
    have no : ¬ (0 < (if vm then wy (w * h) (nb w h sh) M N L m - wz (w * h) (nb w h sh) M N L c m else wz (w * h) (nb w h sh) M N L c m) ∧ (tot = true → 0 ≤ (mlN (w * h) M H : Int) - m ∧ (mlN (w * h) M H : Int) - m ≤ (fb_ct H (w * h) : Int) - L.length)) → l_X5_fitsOpposite_26 I J P (bi tot) (bi vm) (zI ((fb_ct H (w * h) : Nat) - (L.length : Nat))) (zI (mlN (w * h) M H : Nat)) (zI ((m + 1 : Nat) : Int)) := fun q => ih (fun m' hm' => by
      by_cases e : m' = m
      · rw [e]; exact q
      · exact hn m' (by omega))
    have hw1 := wz_le (n := w * h) (nbr := nb w h sh) (M := M) (N := N) (A := L) c m
    have hw2 := wy_le (n := w * h) (nbr := nb w h sh) (M := M) (N := N) (A := L) m
    have hpw : 2 ^ L.length ≤ 2 ^ 14 := Nat.pow_le_pow_right (by decide) l14
    have hh := fun Q hq => holding_ok (P := Q) (J := J) l14 h7 hc hpos (show m < 15 by omega) hq
    have hfo := fun Q hq => found_ok (P := Q) (J := J) l14 h7 hc (show m < 15 by omega) hq
    rw [hc0] at hh
    generalize wy (w * h) (nb w h sh) M N L m = Wm at *
    generalize wz (w * h) (nb w h sh) M N L c m = Zm at *
    refine s_X5_fitsOpposite_26 _ _ _ _ _ (e_X7_size ⟨_, rfl, fun q => absurd q ?_, fun _ => ?_⟩)
    · rw [h7, z_lt (by omega) (by omega) (by omega) (by omega)]; omega
    · refine hh _ ⟨_, rfl, ?_⟩
      rw [z_s m]
      cases vm
      · refine ⟨fun _ => ?_, fun q => absurd rfl q⟩
        rw [if_neg (by simp)] at yes no
        rw [z_lt (by omega) (by omega) (by omega) (by omega), z_sub, z_lt (by omega) (by omega) (by omega) (by omega), bi_0, show (0 : Int32) = zI 0 from rfl, z_le (by omega) (by omega) (by omega) (by omega)]
        refine ⟨fun q1 => ⟨fun q2 => no (fun z => by omega), fun q2 => ⟨fun q3 => no (fun z => ?_), fun q3 => yes ⟨by omega, fun z => by rw [q3] at z; cases z⟩⟩⟩, fun q1 => ⟨fun q2 => ⟨fun q3 => no (fun z => by omega), fun q3 => ⟨fun q4 => no (fun z => ?_), fun q4 => yes ⟨by omega, fun z => by rw [q4] at z; cases z⟩⟩⟩, fun q2 => ⟨fun q3 => no (fun z => by omega), fun q3 => yes ⟨by omega, fun _ => by omega⟩⟩⟩⟩
        · have := z.2 (by simpa using q3); omega
        · have := z.2 (by simpa using q4); omega
      · refine ⟨fun q => absurd q (by decide), fun _ => hfo _ ⟨_, rfl, ?_⟩⟩
        rw [if_pos rfl] at yes no
        rw [z_lt (by omega) (by omega) (by omega) (by omega), z_sub, z_sub, z_lt (by omega) (by omega) (by omega) (by omega), bi_0, show (0 : Int32) = zI 0 from rfl, z_le (by omega) (by omega) (by omega) (by omega)]
        refine ⟨fun q1 => ⟨fun q2 => no (fun z => by omega), fun q2 => ⟨fun q3 => no (fun z => ?_), fun q3 => yes ⟨by omega, fun z => by rw [q3] at z; cases z⟩⟩⟩, fun q1 => ⟨fun q2 => ⟨fun q3 => no (fun z => by omega), fun q3 => ⟨fun q4 => no (fun z => ?_), fun q4 => yes ⟨by omega, fun z => by rw [q4] at z; cases z⟩⟩⟩, fun q2 => ⟨fun q3 => no (fun z => by omega), fun q3 => yes ⟨by omega, fun _ => by omega⟩⟩⟩⟩
        · have := z.2 (by simpa using q3); omega
        · have := z.2 (by simpa using q4); omega
theorem x_check (ho : okD ((w, h, sh), (M, H, B, F), (mv, hist), (kd, R, T, md))) (hr : relX ((w, h, sh), (M, H, B, F), (mv, hist), (kd, R, T, md)) I J) (x y : Int32) (hm1 : (¬ inC (w * h) x ∨ ¬ is01 y) → P (some (.int (-1))) I J) (hm2 : ∀ a : Nat, a < w * h → x = zI a → is01 y → H a = false → P (some (.int (-2))) I J)
    (h3 : ∀ a : Nat, a < w * h → x = zI a → is01 y → H a = true → 14 < (spA w h sh H (tlN T (opS (w * h) H B)) a).length → ∀ I' J', relX ((w, h, sh), (M, H, B, F), (mv, hist), (kd, R, T, md)) I' J' → P (some (.int (-3))) I' J')
    (h1 : ∀ (a : Nat) (v : Bool), a < w * h → x = zI a → y = bi v → H a = true → (spA w h sh H (tlN T (opS (w * h) H B)) a).length ≤ 14 → ¬ ckP w h sh M H (tlN T (opS (w * h) H B)) (T 100) a v → ∀ I' J', relX ((w, h, sh), (M, H, B, F), (mv, hist), (kd, R, T, md)) I' J' → P (some (.int 1)) I' J')
    (h0 : ∀ (a : Nat) (v : Bool), a < w * h → x = zI a → y = bi v → H a = true → (spA w h sh H (tlN T (opS (w * h) H B)) a).length ≤ 14 → ckP w h sh M H (tlN T (opS (w * h) H B)) (T 100) a v → ∀ I' J', relX ((w, h, sh), (M, H, B, F), (mv, hist), (kd, R, T, md)) I' J' → P (some (.int 0)) I' J') : call pgX zX8_check [.ref 0, .int x, .int y] I J P := by
  obtain ⟨gk, ok, -⟩ := ho
  obtain ⟨hn1, hn2⟩ := mul_le100 gk
  have y01 : ¬ y < 0 → y ≤ 1 → is01 y := fun a b => by
    obtain ⟨z, z1, z2, z3⟩ := z_of y
    rw [z3, show (0 : Int32) = zI 0 from rfl, z_lt z1 z2 (by omega) (by omega)] at a
    rw [z3, show (1 : Int32) = zI 1 from rfl, z_le z1 z2 (by omega) (by omega)] at b
    rw [z3]
    have : z = 0 ∨ z = 1 := by omega
    rcases this with q | q
    · rw [q]; exact Or.inl rfl
    · rw [q]; exact Or.inr rfl
  refine e_X8_check _ _ (xholds hr.1.1.2.2.2 hn2 x (fun a ha hx => ⟨_, rfl, fun c => absurd c ne_1_0, fun _ => ⟨fun c => hm1 (Or.inr (fun q => ?_)), fun c => ⟨fun c2 => ?_, fun c2 => hm1 (Or.inr (fun q => ?_))⟩⟩⟩) (fun c => ⟨_, rfl, fun _ => hm1 (Or.inl c), fun c2 => absurd rfl c2⟩))
  · rcases q with q | q <;> (rw [q] at c; exact absurd c (by decide))
  · have hy := y01 c c2
    obtain ⟨v, hv⟩ : ∃ v, y = bi v := by rcases hy with q | q; exact ⟨false, q⟩; exact ⟨true, q⟩
    have hHa := (hr.2.2.1 a (by omega)).2.1
    rw [hx]
    refine has_ok (k := 9) (bd_bits isBd1 (n := 8) (by decide) (by decide)) (by omega) ⟨_, rfl, ?_⟩
    rw [show sB J 9 a = H a from hHa, bi_0]
    refine ⟨fun cH => ?_, fun cH => hm2 a ha hx hy cH⟩
    have cH : H a = true := by simpa using cH
    refine studyTold_ok (T := T) isBd1 bits63 (Or.inr (by decide)) gk hr.1 hr.2.2.1 ok (fun i hi => hr.2.2.2.2.2.2.2.1 i hi) ha cH (fun I1 J1 L ou perm hc0 l14 h7 c1 => ⟨_, rfl, fun _ => ?_, fun z => absurd z (by decide)⟩) (fun I1 J1 ou hl => ⟨_, rfl, fun z => absurd rfl z, fun _ => h3 a ha hx hy cH hl I1 J1 (relX_P hr ou.rel)⟩)
    have r1 := relX_P hr ou.rel
    have hl : (spA w h sh H (tlN T (opS (w * h) H B)) a).length ≤ 14 := by rw [← perm.length_eq]; exact l14
    refine has_ok (k := 63) bits63 (i := 100) (by decide) ⟨_, rfl, ?_⟩
    rw [show sB J1 63 100 = T 100 from r1.2.2.2.2.2.2.2.1 100 (by decide)]
    have opp := fun (Q : Option Value → tg_I → tg_J → Prop) => fitsOpposite_ok (P := Q) (I := I1) (J := J1) isBd1 gk r1.2.2.1 ok perm hc0 l14 h7 c1 (T 100)
    cases v
    · refine ⟨fun _ => opp _ false (fun q => ⟨_, rfl, fun z => absurd z (by decide), fun _ => h0 a false ha hx hv cH hl q I1 J1 r1⟩) (fun q => ⟨_, rfl, fun _ => h1 a false ha hx hv cH hl q I1 J1 r1, fun z => absurd rfl z⟩), fun z => ?_⟩
      rw [hv] at z; exact absurd z (by decide)
    · refine ⟨fun z => ?_, fun _ => opp _ true (fun q => ⟨_, rfl, fun z => absurd z (by decide), fun _ => h0 a true ha hx hv cH hl q I1 J1 r1⟩) (fun q => ⟨_, rfl, fun _ => h1 a true ha hx hv cH hl q I1 J1 r1, fun z => absurd rfl z⟩)⟩
      rw [hv] at z; exact absurd rfl z
  · rcases q with q | q <;> (rw [q] at c2; exact absurd (by decide) c2)
end XC2
