/-! the reference opens a cell -/
section MU
variable {I : tg_I} {J : tg_J} {P : Option Value → tg_I → tg_J → Prop} {w h sh : Nat} {M H B F : Nat → Bool}
theorem mst_cong {M' H' B' F' : Nat → Bool} (hm : mst w h sh M H B F I) (e1 : ∀ i, i < 100 → M i = M' i) (e2 : ∀ i, i < 100 → H i = H' i) (e3 : ∀ i, i < 100 → B i = B' i) (e4 : ∀ i, i < 100 → F i = F' i) : mst w h sh M' H' B' F' I := by
  refine ⟨hm.1, hm.2.1, fun i hi => ?_⟩
  obtain ⟨a1, a2, a3⟩ := hm.2.2 i hi
  refine ⟨by rw [a1, e1 i hi], ?_, by rw [a3, e4 i hi]⟩
  rw [a2]
  unfold sc
  rw [e2 i hi, e3 i hi]
theorem mst_keep {I' : tg_I} (hm : mst w h sh M H B F I) (o : ∀ q, q ≤ 4 → I' q = I q) : mst w h sh M H B F I' := by
  unfold mst mSz
  rw [o 0 (by decide), o 1 (by decide), o 2 (by decide), o 3 (by decide), o 4 (by decide)]
  exact hm
theorem mst_open {I' : tg_I} {k : Nat} (hm : mst w h sh M H B F I) (hk : k < w * h) (hB : B k = false) (e3 : ∀ i, I' 3 i = if i = k then 1 else I 3 i) (e4 : ∀ i, I' 4 i = if i = k then 0 else I 4 i) (eo : ∀ q, q ≤ 2 → I' q = I q) : mst w h sh M (fun i => H i && !decide (i = k)) B (fun i => F i && !decide (i = k)) I' := by
  obtain ⟨a1, a2, a3⟩ := hm
  refine ⟨?_, ?_, fun i hi => ?_⟩
  · unfold mSz
    rw [eo 0 (by decide)]
    exact a1
  · rw [eo 1 (by decide)]
    exact a2
  · obtain ⟨b1, b2, b3⟩ := a3 i hi
    rw [eo 2 (by decide), e3, e4]
    refine ⟨b1, ?_, ?_⟩
    · by_cases e : i = k
      · subst e
        rw [if_pos rfl]
        unfold sc
        simp [hB, show ¬ w * h ≤ i by omega]
      · rw [if_neg e, b2]
        unfold sc
        simp [e]
    · by_cases e : i = k
      · subst e
        rw [if_pos rfl]
        simp [bi]
      · rw [if_neg e, b3]
        simp [e]
/-- what opening may change -/
def onlyM3 (I I' : tg_I) : Prop := ∀ q, q ≠ 3 → q ≠ 4 → q ≠ 23 → I' q = I q
theorem onlyM3.tr {I1 I2 : tg_I} (h1 : onlyM3 I I1) (h2 : onlyM3 I1 I2) : onlyM3 I I2 := fun q a b c => (h2 q a b c).trans (h1 q a b c)
theorem m63 {F0 : Nat → Bool} {x kk : Nat} {L : List Nat} (gk : gOk w h sh) (hx : x < w * h) (hkk : L[kk]? = some x) (hB : ∀ i, H i = true → B i = false) (hl : fb_ct H (w * h) + L.length ≤ w * h) {I0 : tg_I}
    (hp : ∀ I', onlyM3 I0 I' → mst w h sh M (fHid (nb w h sh x) H (w * h)) B (fun i => F0 i && fHid (nb w h sh x) H (w * h) i) I' → inQ 23 (L ++ fNew (nb w h sh x) H (w * h)) I' → l_X9_uncover_42 I' J P (zI ((L ++ fNew (nb w h sh x) H (w * h)).length : Nat)) (zI kk + 1)) :
    ∀ k, k ≤ w * h → ∀ I1, onlyM3 I0 I1 → mst w h sh M (fHid (nb w h sh x) H k) B (fun i => F0 i && fHid (nb w h sh x) H k i) I1 → inQ 23 (L ++ fNew (nb w h sh x) H k) I1 → l_X9_uncover_63 I1 J P (zI ((L ++ fNew (nb w h sh x) H k).length : Nat)) (zI kk) (zI k) := by
  obtain ⟨hn1, hn2⟩ := mul_le100 gk
  have hkl : kk < L.length := (List.getElem?_eq_some_iff.mp hkk).1
  refine up_loop (w * h) ?_ ?_
  · intro I1 o m q
    refine s_X9_uncover_63 _ _ _ ⟨fun _ => hp I1 o m q, fun c => absurd ?_ c⟩
    rw [m.1.2.2.2]; exact Int32.le_refl _
  · intro k hk ih I1 o m q
    refine s_X9_uncover_63 _ _ _ ?_
    have hrd : I1 23 kk = zI x := q kk x (by rw [List.getElem?_append_left hkl]; exact hkk)
    have hlen : (L ++ fNew (nb w h sh x) H k).length + (if nb w h sh x k && H k then 1 else 0) ≤ w * h := by
      have h1 := fHid_ct (nb w h sh x) H (w * h) (k + 1) (by omega)
      rw [fNew_succ, List.length_append] at h1
      rw [List.length_append]
      cases hh : nb w h sh x k && H k
      · rw [hh] at h1; simp at h1 ⊢; omega
      · rw [hh] at h1; simp at h1 ⊢; omega
    have hlen' : (L ++ fNew (nb w h sh x) H k).length ≤ w * h := by omega
    rw [m.1.2.2.2, z_le (by omega) (by omega) (by omega) (by omega), z_in (by omega) (by omega), z_cl (by omega), z_cl (by omega), hrd, z_in (by omega) (by omega), z_in (by omega) (by omega), z_cl (by omega), nar0]
    refine ⟨fun c => absurd c (by omega), fun _ => ⟨by omega, mnear_ok gk m hx hk ⟨_, rfl, ?_⟩⟩⟩
    rw [bi_0, (m.2.2 k (by omega)).2.1, sc_0 hk, fHid_self, show (1 : Int32) = zI 1 from rfl, z_add]
    have same : (nb w h sh x k && H k) = false → l_X9_uncover_63 I1 J P (zI ((L ++ fNew (nb w h sh x) H k).length : Nat)) (zI kk) (zI ((k : Int) + 1)) := by
      intro hf
      have e1 : fHid (nb w h sh x) H (k + 1) = fHid (nb w h sh x) H k := by
        rw [fHid_succ]
        funext y
        by_cases q : y = k
        · subst q
          cases e : nb w h sh x y
          · simp
          · rw [e] at hf
            simp at hf
            simp [fHid_self, hf]
        · simp [q]
      have e2 : fNew (nb w h sh x) H (k + 1) = fNew (nb w h sh x) H k := by
        rw [fNew_succ, hf]
        simp
      have := ih I1 o (by rw [e1]; exact m) (by rw [e2]; exact q)
      rw [e2] at this
      exact this
    refine ⟨fun c => same (by rw [c]; rfl), fun c => ⟨by omega, fun c2 => same (by rw [show H k = false by simpa using c2]; simp), fun c2 => ⟨by omega, fun I2 e2 => ⟨by omega, fun I3 e3 => ⟨?_, fun I4 e4 => ?_⟩⟩⟩⟩⟩
    · rw [List.length_append] at hlen ⊢
      rw [show nb w h sh x k = true by simpa using c, c2] at hlen
      simp at hlen
      omega
    · have hn : nb w h sh x k = true := by simpa using c
      have ee2 : fNew (nb w h sh x) H (k + 1) = fNew (nb w h sh x) H k ++ [k] := by
        rw [fNew_succ, hn, c2]
        rfl
      have ee1 : fHid (nb w h sh x) H (k + 1) = fun i => fHid (nb w h sh x) H k i && !decide (i = k) := by
        rw [fHid_succ]
        funext y
        by_cases q : y = k
        · subst q; simp [hn]
        · simp [q]
      have := ih I4 (o.tr (fun z a b c => by rw [e4, u2_other _ _ _ _ c, e3, u2_other _ _ _ _ b, e2, u2_other _ _ _ _ a])) ?_ ?_
      · rw [ee2, ← List.append_assoc, List.length_append] at this
        rw [z_add]
        exact this
      · rw [ee1]
        have mo := mst_open (I' := I4) (k := k) m hk (hB k c2) (fun i => by rw [e4, u2_ne _ _ (by decide), e3, u2_ne _ _ (by decide), e2, u2_at]; rfl) (fun i => by rw [e4, u2_ne _ _ (by decide), e3, u2_at, e2, u2_ne _ _ (by decide)]) (fun z hz => by rw [e4, u2_other _ _ _ _ (by omega), e3, u2_other _ _ _ _ (by omega), e2, u2_other _ _ _ _ (by omega)])
        refine mst_cong mo (fun _ _ => rfl) (fun _ _ => rfl) (fun _ _ => rfl) (fun i hi => ?_)
        rw [Bool.and_assoc]
      · rw [ee2, ← List.append_assoc]
        exact inQ_app q (fun z => by
          rw [e4, u2_at]
          by_cases ez : z = (L ++ fNew (nb w h sh x) H k).length
          · rw [if_pos ez, if_pos ez]
          · rw [if_neg ez, if_neg ez, e3, u2_ne _ _ (by decide), e2, u2_ne _ _ (by decide)])
theorem m42 {F0 Hf : Nat → Bool} (gk : gOk w h sh) {I0 : tg_I} (hp : ∀ I', onlyM3 I0 I' → mst w h sh M Hf B (fun i => F0 i && Hf i) I' → P none I' J) : ∀ (f k : Nat) (H : Nat → Bool) (L : List Nat) (I1 : tg_I), f + k = w * h → onlyM3 I0 I1 → (∀ i, H i = true → B i = false) → mst w h sh M H B (fun i => F0 i && H i) I1 → inQ 23 L I1 → fb_ct H (w * h) + L.length ≤ w * h → (∀ x, x ∈ L → x < w * h) → fl (w * h) (nb w h sh) (zr w h sh M) f k H L = Hf → l_X9_uncover_42 I1 J P (zI (L.length : Nat)) (zI k) := by
  obtain ⟨hn1, hn2⟩ := mul_le100 gk
  intro f
  induction f with
  | zero =>
    intro k H L I1 hfk o hB m q hl hx hf
    refine s_X9_uncover_42 _ _ ⟨fun _ => ?_, fun c => absurd ?_ c⟩
    · subst hf
      exact hp I1 o m
    · rw [z_le (by omega) (by omega) (by omega) (by omega)]
      omega
  | succ f ih =>
    intro k H L I1 hfk o hB m q hl hx hf
    refine s_X9_uncover_42 _ _ ?_
    rw [z_le (by omega) (by omega) (by omega) (by omega)]
    refine ⟨fun c => ?_, fun c => ?_⟩
    · rw [fl_out (by omega)] at hf
      subst hf
      exact hp I1 o m
    · have hk : k < L.length := by omega
      have e : L[k]? = some L[k] := List.getElem?_eq_getElem hk
      have hxk := hx _ (List.getElem_mem hk)
      rw [fl_in e] at hf
      have hread := q k _ e
      generalize L[k] = x at *
      rw [z_in (by omega) (by omega), z_cl (by omega), hread]
      refine ⟨by omega, mnumber_ok gk m hxk ⟨_, rfl, ?_⟩⟩
      have h8 := nin_le (w := w) (h := h) (sh := sh) M x
      rw [zI_0 (by omega)]
      refine ⟨fun c3 => ?_, fun c3 => ?_⟩
      · rw [if_neg (by simp [zr, c3])] at hf
        rw [show (1 : Int32) = zI 1 from rfl, z_add]
        exact ih (k + 1) H L I1 (by omega) o hB m q hl hx hf
      · rw [if_pos (by simp [zr, c3])] at hf
        have := m63 (M := M) (H := H) (B := B) (F0 := F0) (J := J) (P := P) gk hxk e hB hl (I0 := I0) (fun I2 o2 m2 q2 => ?_) 0 (Nat.zero_le _) I1 o (by rw [fHid_zero]; exact m) (by rw [fNew_zero, List.append_nil]; exact q)
        · rw [fNew_zero, List.append_nil] at this
          exact this
        · rw [show (1 : Int32) = zI 1 from rfl, z_add]
          refine ih (k + 1) (fHid (nb w h sh x) H (w * h)) (L ++ fNew (nb w h sh x) H (w * h)) I2 (by omega) o2 (fun i hi => hB i (fHid_le hi)) m2 q2 ?_ (fun y hy => ?_) hf
          · have := fHid_ct (nb w h sh x) H (w * h) (w * h) (Nat.le_refl _)
            rw [List.length_append]
            omega
          · rcases List.mem_append.mp hy with z | z
            · exact hx y z
            · exact (fNew_lt z).1
theorem muncover_ok {a : Nat} (gk : gOk w h sh) (hm : mst w h sh M H B F I) (ha : a < w * h) (hHa : H a = true) (ho : okS (w * h) M H B F) (hF : M a = true → F a = false)
    (hp : ∀ I', onlyM3 I I' → mst w h sh M (uncH w h sh M a H) (uncB M a B) (fun i => F i && uncH w h sh M a H i) I' → P none I' J) : call pgM zX9_uncover [.ref 0, .int (zI a)] I J P := by
  obtain ⟨hn1, hn2⟩ := mul_le100 gk
  obtain ⟨o1, o2, o3, o4, o5⟩ := ho
  refine e_X9_uncover _ ?_
  rw [z_in (by omega) (by omega), z_cl (by omega), (hm.2.2 a (by omega)).1, bi_0, nar0]
  refine ⟨by omega, fun c => ⟨(z_in (a := 0) (n := 100) (by omega) (by omega)).mpr (by omega), fun I1 e1 => ⟨by omega, fun I2 e2 => ⟨by omega, fun I3 e3 => ?_⟩⟩⟩, fun c => ⟨by omega, fun I4 e4 => ?_⟩⟩
  · have e1' : uncH w h sh M a H = flood (w * h) (nb w h sh) (zr w h sh M) a H := by
      unfold uncH
      rw [c]
      rfl
    have e2' : uncB M a B = B := by
      unfold uncB
      rw [c]
      rfl
    rw [e1', e2'] at hp
    have m1 : mst w h sh M H B F I1 := mst_keep hm (fun z hz => by rw [e1, u2_other _ _ _ _ (by omega)])
    have mo := mst_open (I' := I3) (k := a) m1 ha (o3 a hHa) (fun i => by rw [e3, u2_ne _ _ (by decide), e2, u2_at]) (fun i => by rw [e3, u2_at, e2, u2_ne _ _ (by decide)]) (fun z hz => by rw [e3, u2_other _ _ _ _ (by omega), e2, u2_other _ _ _ _ (by omega)])
    refine m42 (I0 := I) (F0 := F) (Hf := flood (w * h) (nb w h sh) (zr w h sh M) a H) gk hp (w * h) 0 (fun i => H i && !decide (i = a)) [a] I3 (by omega) (fun z a b c => by rw [e3, u2_other _ _ _ _ b, e2, u2_other _ _ _ _ a, e1, u2_other _ _ _ _ c]) (fun i hi => ?_) (mst_cong mo (fun _ _ => rfl) (fun _ _ => rfl) (fun _ _ => rfl) (fun i hi => ?_)) (fun k x hk => ?_) ?_ ?_ rfl
    · simp at hi
      exact o3 i hi.1
    · cases ef : F i
      · rfl
      · simp [o2 i ef]
    · cases k with
      | zero =>
        simp at hk
        rw [e3, u2_ne _ _ (by decide), e2, u2_ne _ _ (by decide), e1, u2_at, if_pos (show 0 = Int32.toNatClampNeg 0 by decide), hk]
      | succ k => simp at hk
    · have u := fb_ct_upd H false (i := a) (n := w * h) ha
      rw [hHa, if_pos rfl, if_neg Bool.false_ne_true] at u
      have e : (fun i => H i && !decide (i = a)) = fun k => if k = a then false else H k := by
        funext i
        by_cases q : i = a <;> simp [q]
      have hle := fb_ct_le H (w * h)
      rw [e]
      simp only [List.length_cons, List.length_nil]
      omega
    · intro x hx
      simp at hx
      rw [hx]; exact ha
  · have hma : M a = true := by simpa using c
    refine hp I4 (fun z a b c => by rw [e4, u2_other _ _ _ _ a]) ?_
    unfold uncH uncB
    rw [if_pos hma, if_pos hma]
    refine ⟨?_, ?_, fun i hi => ?_⟩
    · unfold mSz
      rw [e4, u2_other _ _ _ _ (by decide)]
      exact hm.1
    · rw [e4, u2_other _ _ _ _ (by decide)]
      exact hm.2.1
    · obtain ⟨b1, b2, b3⟩ := hm.2.2 i hi
      rw [e4, u2_ne _ _ (by decide), u2_at, u2_ne _ _ (by decide)]
      refine ⟨b1, ?_, ?_⟩
      · by_cases e : i = a
        · subst e
          rw [if_pos rfl]
          unfold sc
          simp [show ¬ w * h ≤ i by omega]
        · rw [if_neg e, b2]
          unfold sc
          simp [e]
      · rw [b3]
        congr 1
        by_cases e : i = a
        · subst e; simp [hF hma]
        · cases ef : F i
          · simp [ef]
          · simp [ef, o2 i ef, e]
theorem mhideAll_ok (gk : gOk w h sh) (hm : mst w h sh M H B F I) (hp : ∀ I', (∀ q, q ≠ 3 → q ≠ 4 → I' q = I q) → mst w h sh M (fun i => decide (i < w * h)) (fun _ => false) (fun _ => false) I' → P none I' J) : call pgM zX9_hideAll [.ref 0] I J P := by
  refine e_X9_hideAll ?_
  have key := up_loop (L := fun k => ∀ I1, (∀ q, q ≠ 3 → q ≠ 4 → I1 q = I q) → (∀ i, i < k → I1 3 i = 0 ∧ I1 4 i = 0) → l_X9_hideAll_2 I1 J P (zI k)) 100 ?_ ?_ 0 (Nat.zero_le _) I (fun _ _ _ => rfl) (fun i hi => absurd hi (by omega))
  · exact key
  · intro I1 o z
    refine s_X9_hideAll_2 _ ⟨fun _ => hp I1 o ⟨?_, ?_, fun i hi => ?_⟩, fun c => absurd (Int32.le_refl _) c⟩
    · unfold mSz
      rw [o 0 (by decide) (by decide)]
      exact hm.1
    · rw [o 1 (by decide) (by decide)]
      exact hm.2.1
    · rw [o 2 (by decide) (by decide)]
      obtain ⟨z1, z2⟩ := z i hi
      refine ⟨(hm.2.2 i hi).1, ?_, z2⟩
      rw [z1]
      unfold sc
      by_cases e : i < w * h
      · simp [e]
      · simp [e, show w * h ≤ i by omega]
  · intro k hk ih I1 o z
    refine s_X9_hideAll_2 _ ?_
    rw [show (100 : Int32) = zI (100 : Nat) from rfl, z_le (by omega) (by omega) (by omega) (by omega), z_in (by omega) (by omega), z_cl (by omega), nar0, show (1 : Int32) = zI 1 from rfl, z_add]
    refine ⟨fun c => absurd c (by omega), fun _ => ⟨by omega, fun I2 e2 => ⟨by omega, fun I3 e3 => ?_⟩⟩⟩
    refine ih I3 (fun q h3 h4 => by rw [e3, u2_other _ _ _ _ h4, e2, u2_other _ _ _ _ h3]; exact o q h3 h4) (fun i hi => ?_)
    rw [e3, u2_ne _ _ (by decide), u2_at, e2, u2_at, u2_ne _ _ (by decide)]
    by_cases e : i = k
    · rw [if_pos e, if_pos e]
      exact ⟨rfl, rfl⟩
    · rw [if_neg e, if_neg e]
      exact z i (by omega)
theorem misSolved_ok (gk : gOk w h sh) (hm : mst w h sh M H B F I) (hp : ∀ r : Bool, (r = true ↔ ∀ i, i < w * h → H i = true → M i = true) → P (some (.int (bi r))) I J) : call pgM zX9_isSolved [.ref 0] I J P := by
  obtain ⟨hn1, hn2⟩ := mul_le100 gk
  refine e_X9_isSolved ?_
  have key := up_loop (L := fun k => ∀ r : Bool, (r = true ↔ ∀ i, i < k → H i = true → M i = true) → l_X9_isSolved_4 I J P (bi r) (zI k)) (w * h) ?_ ?_ 0 (Nat.zero_le _) true ⟨fun _ i hi => absurd hi (by omega), fun _ => rfl⟩
  · exact key
  · intro r hr
    refine s_X9_isSolved_4 _ _ ⟨fun _ => ⟨nrw01 (bi01 r), hp r hr⟩, fun c => absurd ?_ c⟩
    rw [hm.1.2.2.2]; exact Int32.le_refl _
  · intro k hk ih r hr
    refine s_X9_isSolved_4 _ _ ?_
    rw [hm.1.2.2.2, z_le (by omega) (by omega) (by omega) (by omega), z_in (by omega) (by omega), z_cl (by omega), bi_0, (hm.2.2 k (by omega)).1, bi_0, (hm.2.2 k (by omega)).2.1, sc_0 hk, show (zI (k : Int) + 1) = zI ((k + 1 : Nat) : Int) by rw [show (1 : Int32) = zI 1 from rfl, z_add]; rfl]
    have f0 : (¬ ∀ i, i < k + 1 → H i = true → M i = true) → l_X9_isSolved_4 I J P 0 (zI ((k + 1 : Nat) : Int)) := fun hn => ih false ⟨fun c => (by cases c), fun c => absurd c hn⟩
    have f1 : (∀ i, i < k + 1 → H i = true → M i = true) → l_X9_isSolved_4 I J P 1 (zI ((k + 1 : Nat) : Int)) := fun hn => ih true ⟨fun _ => hn, fun _ => rfl⟩
    have ext : r = true → (H k = true → M k = true) → ∀ i, i < k + 1 → H i = true → M i = true := fun h1 h2 i hi => by
      by_cases e : i = k
      · rw [e]; exact h2
      · exact hr.mp h1 i (by omega)
    refine ⟨fun c => absurd c (by omega), fun _ => ⟨fun c => f0 (fun q => ?_), fun c => ⟨by omega, fun c2 => f1 (ext (by simpa using c) (fun _ => by simpa using c2)), fun c2 => ⟨by omega, fun c3 => f0 (fun q => ?_), fun c3 => f1 (ext (by simpa using c) (fun z => absurd z c3))⟩⟩⟩⟩
    · have : r = true := hr.mpr (fun i hi => q i (by omega))
      rw [c] at this; cases this
    · have := q k (by omega) c3
      rw [c2] at this; cases this
end MU
