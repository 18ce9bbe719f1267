/-! the reference: finding the parts, all passes -/
section MP2
variable {I : tg_I} {J : tg_J} {P : Option Value → tg_I → tg_J → Prop} {w h sh : Nat} {M H B F : Nat → Bool}
/-- at each open cell one label -/
def sme (n : Nat) (nbr : Nat → Nat → Bool) (N S : Nat → Bool) (l : Nat → Nat) (o : Nat) : Prop := N o = true → ∀ b b', b < n → b' < n → nbr o b = true → nbr o b' = true → S b = true → S b' = true → l b = l b'
theorem fp55 {I0 : tg_I} (gk : gOk w h sh) (hm0 : mst w h sh M H B F I0) (oS : okS (w * h) M H B F)
    (hp : ∀ I' l, on15 I0 I' → mpt (w * h) (bdr w h sh H (opS (w * h) H B)) l I' → lbs (w * h) (ajw w h sh (opS (w * h) H B)) (bdr w h sh H (opS (w * h) H B)) l → (∀ o, o < w * h → sme (w * h) (nb w h sh) (opS (w * h) H B) (bdr w h sh H (opS (w * h) H B)) l o) → l_X9_findParts_47 I' J P (bi false)) : ∀ (s : Nat) (l0 : Nat → Nat) (I : tg_I), smL (w * h) (bdr w h sh H (opS (w * h) H B)) l0 ≤ s → on15 I0 I → mpt (w * h) (bdr w h sh H (opS (w * h) H B)) l0 I → lbs (w * h) (ajw w h sh (opS (w * h) H B)) (bdr w h sh H (opS (w * h) H B)) l0 → l_X9_findParts_55 I J P (bi false) (zI ((0 : Nat) : Int)) := by
  obtain ⟨hn1, hn2⟩ := mul_le100 gk
  have hS := bdr_lt (w := w) (h := h) (sh := sh) (N := opS (w * h) H B) (fun i hi => (oS.1 i hi).1)
  generalize hSe : bdr w h sh H (opS (w * h) H B) = S at *
  intro s
  induction s with
  | zero =>
    intro l0 I hs o0 hl lb
    have z0 := fb_sm_zero (Nat.le_zero.mp hs)
    have zz : ∀ a, a < w * h → S a = true → l0 a = 0 := fun a ha hb => by have := z0 a ha; rw [if_pos hb] at this; exact this
    have key := up_loop (L := fun o => ∀ I1, on15 I0 I1 → mpt (w * h) S l0 I1 → l_X9_findParts_55 I1 J P (bi false) (zI o)) (w * h) ?_ ?_ 0 (Nat.zero_le _) I o0 hl
    · exact key
    · intro I1 o1 l1
      refine s_X9_findParts_55 _ _ ⟨fun _ => hp I1 l0 o1 l1 lb (fun o ho hN b b' hb hb' _ _ q q' => by rw [zz b hb q, zz b' hb' q']), fun c => absurd (by rw [o1 0 (by decide), hm0.1.2.2.2]; exact Int32.le_refl _) c⟩
    · intro o ho ih I1 o1 l1
      have mm : mst w h sh M H B F I1 := mst_keep hm0 (fun q hq => o1 q (by omega))
      refine s_X9_findParts_55 _ _ ?_
      rw [mm.1.2.2.2, z_le (by omega) (by omega) (by omega) (by omega), z_in (by omega) (by omega), z_cl (by omega), z_s, (mm.2.2 o (by omega)).2.1, sc_1 ho]
      refine ⟨fun c => absurd c (by omega), fun _ => ⟨by omega, fun _ => ih I1 o1 l1, fun hN => fp79 gk mm l1 (fun a ha hb => by rw [zz a ha hb]; omega) ho (fun v hv a b => fp140 gk hm0 o1 l1 (fun a ha hb => by rw [zz a ha hb]; omega) ho false hv b (fun I2 m2 o2 l2 e2 => ?_))⟩⟩
      have hm2 : m2 = false := by
        cases m2
        · rfl
        · rcases e2.mp rfl with q | ⟨x, x1, x2, x3, x4⟩
          · cases q
          · rw [zz x x1 x3] at x4; omega
      rw [hm2]
      refine ih I2 o2 (mpt_cong l2 (fun x hx e => ?_))
      by_cases q : nb w h sh o x = true
      · have := b x hx q e
        rw [zz x hx e] at this
        rw [if_pos q, zz x hx e, show v = 0 by omega]
      · rw [if_neg q]
  | succ s ihs =>
    intro l0 I hs o0 hl lb
    have key := up_loop (L := fun o => ∀ I1 l (m : Bool), on15 I0 I1 → mpt (w * h) S l I1 → lbs (w * h) (ajw w h sh (opS (w * h) H B)) S l → (∀ a, a < w * h → S a = true → l a ≤ l0 a) → (m = false → (∀ a, a < w * h → S a = true → l a = l0 a) ∧ ∀ o', o' < o → sme (w * h) (nb w h sh) (opS (w * h) H B) S l0 o') → (m = true → smL (w * h) S l < smL (w * h) S l0) → l_X9_findParts_55 I1 J P (bi m) (zI o)) (w * h) ?_ ?_ 0 (Nat.zero_le _) I l0 false o0 hl lb (fun _ _ _ => Nat.le_refl _) (fun _ => ⟨fun _ _ _ => rfl, fun o' h => absurd h (by omega)⟩) (fun q => by cases q)
    · exact key
    · intro I1 l m o1 l1 lb1 h1 h2 h3
      refine s_X9_findParts_55 _ _ ⟨fun _ => ?_, fun c => absurd (by rw [o1 0 (by decide), hm0.1.2.2.2]; exact Int32.le_refl _) c⟩
      cases m
      · obtain ⟨q1, q2⟩ := h2 rfl
        refine hp I1 l o1 l1 lb1 (fun o ho hN b b' hb hb' a a' q q' => ?_)
        rw [q1 b hb q, q1 b' hb' q']
        exact q2 o ho hN b b' hb hb' a a' q q'
      · refine s_X9_findParts_47 _ ⟨fun c => absurd c (by decide), fun _ => ?_⟩
        exact ihs l I1 (by have := h3 rfl; omega) o1 l1 lb1
    · intro o ho ih I1 l m o1 l1 lb1 h1 h2 h3
      have mm : mst w h sh M H B F I1 := mst_keep hm0 (fun q hq => o1 q (by omega))
      have hl100 : ∀ a, a < w * h → S a = true → l a < 100 := fun a ha hb => by have := (lb1 a ha hb).1; omega
      refine s_X9_findParts_55 _ _ ?_
      rw [mm.1.2.2.2, z_le (by omega) (by omega) (by omega) (by omega), z_in (by omega) (by omega), z_cl (by omega), z_s, (mm.2.2 o (by omega)).2.1, sc_1 ho]
      refine ⟨fun c => absurd c (by omega), fun _ => ⟨by omega, fun c => ih I1 l m o1 l1 lb1 h1 (fun q => ⟨(h2 q).1, fun o' ho' => ?_⟩) h3, fun hN => fp79 gk mm l1 hl100 ho (fun v hv a b => fp140 gk hm0 o1 l1 hl100 ho m hv b (fun I2 m2 o2 l2 e2 => ?_))⟩⟩
      · by_cases e : o' = o
        · rw [e]; exact fun q => absurd q c
        · exact (h2 q).2 o' (by omega)
      · have hle : ∀ x, x < w * h → S x = true → (if nb w h sh o x = true then v else l x) ≤ l x := fun x hx hb => by
          by_cases q : nb w h sh o x = true
          · rw [if_pos q]; exact b x hx q hb
          · rw [if_neg q]; exact Nat.le_refl _
        refine ih I2 _ m2 o2 l2 (fun x hx hb => ?_) (fun x hx hb => Nat.le_trans (hle x hx hb) (h1 x hx hb)) (fun q => ?_) (fun q => ?_)
        · have := lb1 x hx hb
          refine ⟨Nat.le_trans (hle x hx hb) this.1, ?_⟩
          by_cases q : nb w h sh o x = true
          · rw [if_pos q]
            rcases a with e | ⟨y, y1, y2, y3, y4⟩
            · have := b x hx q hb
              have := hl100 x hx hb
              omega
            · rw [← y4]
              exact con_tr hS hx y1 (con_step hx hx y1 con_refl (decide_eq_true ⟨o, ho, hN, q, y2⟩) y3) (lb1 y y1 y3).2
          · rw [if_neg q]; exact this.2
        · rw [q] at e2
          have e3 : m = false ∧ ∀ x, x < w * h → nb w h sh o x = true → S x = true → l x = v := by
            refine ⟨?_, fun x hx hn hb => ?_⟩
            · cases m
              · rfl
              · exact absurd (e2.mpr (Or.inl rfl)) (by simp)
            · have := b x hx hn hb
              rcases Nat.lt_or_ge v (l x) with z | z
              · exact absurd (e2.mpr (Or.inr ⟨x, hx, hn, hb, z⟩)) (by simp)
              · omega
          obtain ⟨q1, q2⟩ := h2 e3.1
          refine ⟨fun x hx hb => ?_, fun o' ho' => ?_⟩
          · by_cases z : nb w h sh o x = true
            · rw [if_pos z, ← e3.2 x hx z hb]; exact q1 x hx hb
            · rw [if_neg z]; exact q1 x hx hb
          · by_cases e : o' = o
            · rw [e]
              intro _ x x' hx hx' n1 n2 s1 s2
              rw [← q1 x hx s1, ← q1 x' hx' s2, e3.2 x hx n1 s1, e3.2 x' hx' n2 s2]
            · exact q2 o' (by omega)
        · rcases e2.mp q with z | ⟨x, x1, x2, x3, x4⟩
          · have h4 := h3 z
            have h5 : smL (w * h) S (fun x => if nb w h sh o x = true then v else l x) ≤ smL (w * h) S l := fb_sm_le (fun k hk => by
              cases e : S k
              · simp
              · have := hle k hk e
                simpa using this)
            omega
          · have h5 := smL_lt (n := w * h) (S := S) (l := l) (l' := fun x => if nb w h sh o x = true then v else l x) hle x1 x3 (by rw [if_pos x2]; exact x4)
            have h6 : smL (w * h) S l ≤ smL (w * h) S l0 := fb_sm_le (fun k hk => by
              cases e : S k
              · simp
              · simpa using h1 k hk e)
            omega
theorem lbs_ld {n : Nat} {nbr : Nat → Nat → Bool} {N S : Nat → Bool} {l : Nat → Nat} (hS : ∀ i, S i = true → i < n) (hb : lbs n (aj n nbr N) S l) (hs : ∀ o, o < n → sme n nbr N S l o) {x : Nat} (hx : S x = true) : ld n (aj n nbr N) S x = l x := by
  have hxn := hS x hx
  have h1 := hb x hxn hx
  have eqc : ∀ y, con n (aj n nbr N) S x y → l y = l x := fun y hy => by
    refine (rch_closed (C := fun y => S y = true ∧ l y = l x) (a := x) ⟨hx, rfl⟩ (fun u v hu c hn hv => ⟨hv, ?_⟩) n y hy).2
    obtain ⟨o, a, b, c1, d⟩ := of_decide_eq_true hn
    rw [← c.2]
    exact hs o a b v u (hS v hv) hu d c1 hv c.1
  refine ld_eq hxn h1.2 (fun y hy => ?_)
  have := hb y (con_lt hS hxn hy) (con_S hx hy)
  rw [← eqc y hy]
  exact this.1
end MP2
