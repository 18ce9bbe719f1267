/-! the class: neighbours as a list; pairs of longs -/
theorem bh_and (x y x' y' : Int64) (i : Nat) : bh (x &&& y) (x' &&& y') i = (bh x x' i && bh y y' i) := by
  unfold bh
  by_cases c : i < 64
  · rw [if_pos c, if_pos c, if_pos c, bq_and]
  · rw [if_neg c, if_neg c, if_neg c, bq_and]
theorem bh_or (x y x' y' : Int64) (i : Nat) : bh (x ||| y) (x' ||| y') i = (bh x x' i || bh y y' i) := by
  unfold bh
  by_cases c : i < 64
  · rw [if_pos c, if_pos c, if_pos c, bq_or]
  · rw [if_neg c, if_neg c, if_neg c, bq_or]
theorem bh_not (x x' : Int64) {i : Nat} (hi : i < 128) : bh (x ^^^ (-1)) (x' ^^^ (-1)) i = !bh x x' i := by
  unfold bh
  by_cases c : i < 64
  · rw [if_pos c, if_pos c, bq_not _ c]
  · rw [if_neg c, if_neg c, bq_not _ (by omega)]
theorem bh_or0 (x y : Int64) : lg_cmp (x ||| y) 0 = 0 ↔ ∀ i, i < 128 → bh x y i = false := by
  rw [cmp_eq0, bq_eq0]
  constructor
  · intro q i hi
    unfold bh
    by_cases c : i < 64
    · have := q i c
      rw [bq_or] at this
      rw [if_pos c]
      simp at this
      exact this.1
    · have := q (i - 64) (by omega)
      rw [bq_or] at this
      rw [if_neg c]
      simp at this
      exact this.2
  · intro q i hi
    have h1 := q i (by omega)
    have h2 := q (64 + i) (by omega)
    unfold bh at h1 h2
    rw [if_pos hi] at h1
    rw [if_neg (by omega), show 64 + i - 64 = i by omega] at h2
    rw [bq_or, h1, h2]
    rfl
theorem filt_len (p : Nat → Bool) : ∀ n, ((List.range n).filter p).length = fb_ct p n
  | 0 => rfl
  | n + 1 => by
    rw [List.range_succ, List.filter_append, List.length_append, filt_len p n, fb_ct_succ, List.filter_cons]
    cases p n <;> rfl
theorem filt_idx (p : Nat → Bool) : ∀ n i, i < ((List.range n).filter p).length → fb_ct p (((List.range n).filter p).getD i 0) = i
  | 0, i, h => absurd h (by simp)
  | n + 1, i, h => by
    rw [List.range_succ, List.filter_append] at h ⊢
    by_cases c : i < ((List.range n).filter p).length
    · rw [List.getD_eq_getElem?_getD, List.getElem?_append_left c, ← List.getD_eq_getElem?_getD]
      exact filt_idx p n i c
    · rw [List.length_append] at h
      rw [List.getD_eq_getElem?_getD, List.getElem?_append_right (by omega)]
      have hl := filt_len p n
      cases e : p n
      · rw [List.filter_cons, e] at h
        simp at h
        exact absurd h c
      · rw [List.filter_cons, e] at h ⊢
        simp at h ⊢
        rw [show i - (List.filter p (List.range n)).length = 0 by omega]
        simp
        rw [← hl]
        omega
/-- the neighbours of a cell -/
def nbl (w h sh a : Nat) : List Nat := (List.range (w * h)).filter (nb w h sh a)
section XN
variable {I : tg_I} {J : tg_J} {w h sh b : Nat}
theorem nbl_mem {a x : Nat} : x ∈ nbl w h sh a ↔ nb w h sh a x = true := by
  unfold nbl
  rw [List.mem_filter, List.mem_range]
  exact ⟨fun q => q.2, fun q => ⟨nb_lt q, q⟩⟩
theorem nbl_nodup (a : Nat) : (nbl w h sh a).Nodup := List.Nodup.sublist List.filter_sublist List.nodup_range
theorem row_len (gk : gOk w h sh) (g : gridX b w h sh I J) {a : Nat} (ha : a < w * h) : I (b + 5) a = zI (nbl w h sh a).length ∧ (nbl w h sh a).length ≤ 8 := by
  obtain ⟨hn1, hn2⟩ := mul_le100 gk
  obtain ⟨r1, r2, r3⟩ := g.2 a ha
  have hct : fb_ct (nb w h sh a) 128 = fb_ct (nb w h sh a) (w * h) := ct_ext (by omega) (fun k h1 _ => by
    cases e : nb w h sh a k
    · rfl
    · exact absurd (nb_lt e) (by omega))
  have h8 := nb_ct_le (w := w) (h := h) (sh := sh) a 128
  have hl := filt_len (nb w h sh a) (w * h)
  unfold nbl
  rw [r2, hct, hl]
  exact ⟨rfl, by omega⟩
theorem row_at (gk : gOk w h sh) (g : gridX b w h sh I J) {a : Nat} (ha : a < w * h) {i : Nat} (hi : i < (nbl w h sh a).length) : I (b + 4) (8 * a + i) = zI ((nbl w h sh a).getD i 0 : Nat) := by
  obtain ⟨hn1, hn2⟩ := mul_le100 gk
  obtain ⟨r1, r2, r3⟩ := g.2 a ha
  have hm := nbl_mem.mp (getD_mem hi)
  have hx := nb_lt hm
  have := r3 _ (by omega) hm
  rw [show fb_ct (nb w h sh a) ((nbl w h sh a).getD i 0) = i from filt_idx _ _ _ hi] at this
  exact this
end XN
