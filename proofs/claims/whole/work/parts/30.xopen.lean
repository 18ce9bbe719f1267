/-! the class opens a cell -/
section XO
variable {I : tg_I} {J : tg_J} {P : Option Value → tg_I → tg_J → Prop} {w h sh b : Nat}
/-- the list stands in the queue -/
def inQ (q : Nat) (L : List Nat) (I : tg_I) : Prop := ∀ (k x : Nat), L[k]? = some x → I q k = zI x
theorem inQ_app {q : Nat} {L : List Nat} {I I' : tg_I} {x : Nat} (hq : inQ q L I) (hI : ∀ k, I' q k = if k = L.length then zI x else I q k) : inQ q (L ++ [x]) I' := by
  intro k y hk
  rw [hI]
  by_cases e : k = L.length
  · subst e
    simp at hk
    rw [if_pos rfl, hk]
  · rw [if_neg e]
    have hl : k < (L ++ [x]).length := (List.getElem?_eq_some_iff.mp hk).1
    rw [List.length_append] at hl
    simp at hl
    rw [List.getElem?_append_left (by omega)] at hk
    exact hq k y hk
/-- sets behind an opening: what is hidden no more is open, without flag -/
def opn (H0 O0 : Nat → Bool) (H : Nat → Bool) : Nat → Bool := fun i => O0 i || (H0 i && !H i)
def opf (H0 F0 : Nat → Bool) (H : Nat → Bool) : Nat → Bool := fun i => F0 i && !(H0 i && !H i)
theorem vw_cong {M H O B F M' H' O' B' F' : Nat → Bool} (hv : vw b M H O B F J) (e1 : ∀ i, i < 128 → M i = M' i) (e2 : ∀ i, i < 128 → H i = H' i) (e3 : ∀ i, i < 128 → O i = O' i) (e4 : ∀ i, i < 128 → B i = B' i) (e5 : ∀ i, i < 128 → F i = F' i) : vw b M' H' O' B' F' J := by
  intro i hi
  obtain ⟨a1, a2, a3, a4, a5⟩ := hv i hi
  exact ⟨a1.trans (e1 i hi), a2.trans (e2 i hi), a3.trans (e3 i hi), a4.trans (e4 i hi), a5.trans (e5 i hi)⟩
theorem fHid_le {nbA H : Nat → Bool} {k x : Nat} (h : fHid nbA H k x = true) : H x = true := by
  unfold fHid at h
  simp at h
  exact h.1
theorem showAround_ok {M H0 O0 B F0 H : Nat → Bool} {a : Nat} {L : List Nat} (hb : isBd b) (gk : gOk w h sh) (g : gridX b w h sh I J) (ha : a < w * h) (hH0 : ∀ i, H i = true → H0 i = true) (hH : ∀ i, w * h ≤ i → H i = false) (hv : vw b M H (opn H0 O0 H) B (opf H0 F0 H) J) (hq : inQ (b + 13) L I) (hl : fb_ct H (w * h) + L.length ≤ w * h)
    (hp : ∀ I' J', onlyB b I I' J J' → vw b M (fHid (nb w h sh a) H (w * h)) (opn H0 O0 (fHid (nb w h sh a) H (w * h))) B (opf H0 F0 (fHid (nb w h sh a) H (w * h))) J' → inQ (b + 13) (L ++ fNew (nb w h sh a) H (w * h)) I' → P (some (.int (zI ((L ++ fNew (nb w h sh a) H (w * h)).length : Nat)))) I' J') : call pgX zX1_showAround [.ref b, .int (zI a), .int (zI (L.length : Nat))] I J P := by
  obtain ⟨hn1, hn2⟩ := mul_le100 gk
  refine e_X1_showAround _ _ _ hb ?_
  have key := up_loop (L := fun k => ∀ I1 J1, onlyB b I I1 J J1 → vw b M (fHid (nb w h sh a) H k) (opn H0 O0 (fHid (nb w h sh a) H k)) B (opf H0 F0 (fHid (nb w h sh a) H k)) J1 → inQ (b + 13) (L ++ fNew (nb w h sh a) H k) I1 → l_X1_showAround_5 I1 J1 P b (zI a) (zI ((L ++ fNew (nb w h sh a) H k).length : Nat)) (zI (fb_ct (nb w h sh a) k : Nat))) (w * h) ?_ ?_ 0 (Nat.zero_le _) I J onlyB.rf (by rw [fHid_zero]; exact hv) (by rw [fNew_zero, List.append_nil]; exact hq)
  · rw [fNew_zero, List.append_nil] at key
    exact key
  · intro I1 J1 o v q
    have g1 := o.grid g
    have hd := (g1.2 a ha).2.1
    have hct : fb_ct (nb w h sh a) 128 = fb_ct (nb w h sh a) (w * h) := ct_ext (by omega) (fun k h1 _ => by
      cases e : nb w h sh a k
      · rfl
      · exact absurd (nb_lt e) (by omega))
    refine s_X1_showAround_5 _ _ _ _ hb ?_
    rw [z_in (by omega) (by omega), z_cl (by omega)]
    refine ⟨by omega, fun _ => hp I1 J1 o v q, fun c => absurd ?_ c⟩
    rw [hd, hct]
    exact Int32.le_refl _
  · intro k hk ih I1 J1 o v q
    have g1 := o.grid g
    obtain ⟨r1, r2, r3⟩ := g1.2 a ha
    have hs := fb_ct_succ (nb w h sh a) k
    cases e : nb w h sh a k
    · rw [e] at hs
      simp at hs
      have e1 : fHid (nb w h sh a) H (k + 1) = fHid (nb w h sh a) H k := by
        rw [fHid_succ]
        funext x
        simp [e]
      have e2 : fNew (nb w h sh a) H (k + 1) = fNew (nb w h sh a) H k := by
        rw [fNew_succ]
        simp [e]
      have := ih I1 J1 o (by rw [e1]; exact v) (by rw [e2]; exact q)
      rw [e2, hs] at this
      exact this
    · rw [e] at hs
      simp at hs
      have hlt : fb_ct (nb w h sh a) k < fb_ct (nb w h sh a) 128 := by
        have := fb_ct_mono (nb w h sh a) (show k + 1 ≤ 128 by omega)
        omega
      have h8 := nb_ct_le (w := w) (h := h) (sh := sh) a 128
      have hcell := r3 k (by omega) e
      refine s_X1_showAround_5 _ _ _ _ hb ?_
      have hlen : (L ++ fNew (nb w h sh a) H k).length + (if H k then 1 else 0) ≤ w * h := by
        have h1 := fHid_ct (nb w h sh a) H (w * h) (k + 1) (by omega)
        rw [fNew_succ, e, List.length_append] at h1
        rw [List.length_append]
        cases hh : H k
        · rw [hh] at h1; simp at h1 ⊢; omega
        · rw [hh] at h1; simp at h1 ⊢; omega
      have hlen' : (L ++ fNew (nb w h sh a) H k).length ≤ w * h := by omega
      rw [z_in (by omega) (by omega), z_cl (by omega), r2, z_le (by omega) (by omega) (by omega) (by omega), show (8 : Int32) = zI 8 from rfl, z_mul, z_add, z_in (by omega) (by omega), show (a : Int) * 8 + ((fb_ct (nb w h sh a) k : Nat) : Int) = ((8 * a + fb_ct (nb w h sh a) k : Nat) : Int) by omega, z_cl (by omega), hcell]
      refine ⟨by omega, fun c => absurd c (by omega), fun _ => ⟨by omega, fun x1 ex => ?_⟩⟩
      subst ex
      have hk8 : sB J1 (b + 8) k = H k := by rw [(v k (by omega)).2.1, fHid_self]
      refine has_ok (bd_bits hb (by decide) (by decide)) (by omega) ⟨_, rfl, fun c => ?_, fun c => ?_⟩
      · rw [hk8] at c
        have hh : H k = false := by
          cases z : H k
          · rfl
          · rw [z] at c; exact absurd c (by decide)
        have e1 : ∀ x, fHid (nb w h sh a) H (k + 1) x = fHid (nb w h sh a) H k x := by
          intro x
          rw [fHid_succ]
          by_cases q : x = k
          · subst q; simp [fHid_self, hh]
          · simp [q]
        have e2 : fNew (nb w h sh a) H (k + 1) = fNew (nb w h sh a) H k := by
          rw [fNew_succ]
          simp [hh]
        have e1' : fHid (nb w h sh a) H (k + 1) = fHid (nb w h sh a) H k := funext e1
        have := ih I1 J1 o (by rw [e1']; exact v) (by rw [e2]; exact q)
        rw [e2, hs] at this
        rw [show (1 : Int32) = zI 1 from rfl, z_add]
        exact this
      · rw [hk8] at c
        have hh : H k = true := by
          cases z : H k
          · rw [z] at c; exact absurd rfl c
          · rfl
        rw [hh] at hlen
        simp at hlen
        rw [show (100 : Int32) = zI (100 : Nat) from rfl, z_le (by omega) (by omega) (by omega) (by omega), z_in (by omega) (by omega), z_cl (by omega)]
        refine ⟨fun c2 => absurd c2 ?_, fun _ => show_ok hb (by omega) v (fun J2 o2 v2 => ⟨rfl, ?_, fun I3 e3 => ?_⟩)⟩
        · rw [List.length_append]; omega
        · rw [List.length_append]; omega
        · have e2 : fNew (nb w h sh a) H (k + 1) = fNew (nb w h sh a) H k ++ [k] := by
            rw [fNew_succ, e, hh]
            rfl
          have e1 : fHid (nb w h sh a) H (k + 1) = fun i => fHid (nb w h sh a) H k i && !decide (i = k) := by
            rw [fHid_succ]
            funext x
            by_cases q : x = k
            · subst q; simp [e]
            · simp [q]
          have := ih I3 J2 ((o.tr o2).tr (onlyB_I (fun z hz => by rw [e3, u2_other _ _ _ _ hz]))) ?_ ?_
          · rw [e2, ← List.append_assoc, List.length_append, hs] at this
            rw [show (1 : Int32) = zI 1 from rfl, z_add, z_add]
            exact this
          · rw [e1]
            refine vw_cong v2 (fun _ _ => rfl) (fun _ _ => rfl) (fun i hi => ?_) (fun _ _ => rfl) (fun i hi => ?_)
            · unfold opn
              by_cases q : i = k
              · subst q
                have := hH0 i hh
                simp [this, fHid_self, hh]
              · simp [q]
            · unfold opf
              by_cases q : i = k
              · subst q
                have := hH0 i hh
                simp [this, fHid_self, hh]
              · simp [q]
          · rw [e2, ← List.append_assoc]
            exact inQ_app q (fun z => by rw [e3, u2_at])
end XO
