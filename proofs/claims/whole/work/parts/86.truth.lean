/-! the true placement is one of those that fit -/
section TR
variable {w h sh : Nat} {M H B F N : Nat → Bool}
theorem fit_M (n : Nat) (nbr : Nat → Nat → Bool) (M N : Nat → Bool) (A : List Nat) : fitF n nbr M N A M = true := decide_eq_true (fun _ _ _ _ => rfl)
theorem wW_pos (gk : gOk w h sh) (hH : ∀ i, w * h ≤ i → H i = false) {p : Nat} (hp : p < npn w h sh H N) : 0 < wW w h sh M H N p ((pL (w * h) (bdr w h sh H N) (ptn w h sh H N) p).countP M) := by
  obtain ⟨k1, k2, k3⟩ := ptok_ok (w := w) (h := h) (sh := sh) (N := N) gk hH
  obtain ⟨x, hx⟩ := List.exists_mem_of_ne_nil _ (k3 p hp).2
  unfold wW
  cases e : M x
  · have := (wz_f (n := w * h) (nbr := nb w h sh) (M := M) (N := N) hx).mpr ⟨M, fit_M _ _ _ _ _, rfl, e⟩
    omega
  · have h1 := (wz_t (n := w * h) (nbr := nb w h sh) (M := M) (N := N) hx).mpr ⟨M, fit_M _ _ _ _ _, rfl, e⟩
    have h2 := wz_le (n := w * h) (nbr := nb w h sh) (M := M) (N := N) (A := pL (w * h) (bdr w h sh H N) (ptn w h sh H N) p) x ((pL (w * h) (bdr w h sh H N) (ptn w h sh H N) p).countP M)
    omega
/-- the mines of the first k parts but u -/
def tmc (w h sh : Nat) (M H N : Nat → Bool) (u : Int) (k : Nat) : Nat := fb_ct (fun x => bdr w h sh H N x && M x && decide (ptn w h sh H N x < k) && !decide ((ptn w h sh H N x : Int) = u)) (w * h)
theorem pL_mines (p : Nat) : (pL (w * h) (bdr w h sh H N) (ptn w h sh H N) p).countP M = fb_ct (fun x => bdr w h sh H N x && M x && decide (ptn w h sh H N x = p)) (w * h) := by
  rw [cp_ct (n := w * h) (pL (w * h) (bdr w h sh H N) (ptn w h sh H N) p) (List.Nodup.sublist List.filter_sublist List.nodup_range) (fun x hx => (pL_mem.mp hx).1)]
  refine fb_ct_cong (fun k hk => ?_)
  cases e : bdr w h sh H N k
  · rw [decide_eq_false (fun q => by rw [(pL_mem.mp q).2.1] at e; cases e)]; rfl
  · rw [show decide (k ∈ pL (w * h) (bdr w h sh H N) (ptn w h sh H N) p) = decide (ptn w h sh H N k = p) from decide_eq_decide.mpr ⟨fun q => (pL_mem.mp q).2.2, fun q => pL_mem.mpr ⟨hk, e, q⟩⟩, Bool.true_and, Bool.and_comm]
theorem tmc_s (u : Int) (k : Nat) : tmc w h sh M H N u (k + 1) = tmc w h sh M H N u k + (if (k : Int) = u then 0 else (pL (w * h) (bdr w h sh H N) (ptn w h sh H N) k).countP M) := by
  unfold tmc
  by_cases e : (k : Int) = u
  · rw [if_pos e, Nat.add_zero]
    refine fb_ct_cong (fun x hx => ?_)
    by_cases e2 : ptn w h sh H N x = k
    · rw [decide_eq_true (show (ptn w h sh H N x : Int) = u by omega)]; simp
    · rw [show decide (ptn w h sh H N x < k + 1) = decide (ptn w h sh H N x < k) from decide_eq_decide.mpr (by omega)]
  · rw [if_neg e, pL_mines, ← fb_ct_or (fun x _ q => by
      simp only [Bool.and_eq_true, decide_eq_true_eq] at q
      omega)]
    refine fb_ct_cong (fun x hx => ?_)
    cases bdr w h sh H N x && M x
    · rfl
    · simp only [Bool.true_and]
      by_cases e2 : ptn w h sh H N x = k
      · rw [decide_eq_true e2, decide_eq_true (show ptn w h sh H N x < k + 1 by omega), decide_eq_false (show ¬ (ptn w h sh H N x : Int) = u by omega)]; simp
      · rw [decide_eq_false e2, Bool.or_false, show decide (ptn w h sh H N x < k + 1) = decide (ptn w h sh H N x < k) from decide_eq_decide.mpr (by omega)]
theorem sT_true (gk : gOk w h sh) (hH : ∀ i, w * h ≤ i → H i = false) (hg : gdH w h sh H N = true) (u : Int) : ∀ k, k ≤ npn w h sh H N → 0 < sT true (wW w h sh M H N) u k (tmc w h sh M H N u k)
  | 0, _ => by
    have : tmc w h sh M H N u 0 = 0 := fb_ct_zero.mpr (fun k _ => by simp)
    rw [this]
    exact Nat.one_pos
  | k + 1, hk => by
    have ih := sT_true gk hH hg u k (by omega)
    have hl := of_decide_eq_true hg k (by omega)
    have hcl : (pL (w * h) (bdr w h sh H N) (ptn w h sh H N) k).countP M ≤ _ := List.countP_le_length
    have hs : ∀ t, sT true (wW w h sh M H N) u (k + 1) t = if (k : Int) = u then sT true (wW w h sh M H N) u k t else cvp (sT true (wW w h sh M H N) u k) (wW w h sh M H N k) t := fun _ => rfl
    rw [hs, tmc_s]
    by_cases e : (k : Int) = u
    · rw [if_pos e, if_pos e, Nat.add_zero]; exact ih
    · rw [if_neg e, if_neg e]
      unfold cvp
      rw [if_pos ⟨(pL (w * h) (bdr w h sh H N) (ptn w h sh H N) k).countP M, by omega, by omega, by rw [Nat.add_sub_cancel]; exact ih, wW_pos gk hH (by omega)⟩]
      exact Nat.one_pos
/-- mines on cells that no open one sees -/
def lmc (w h sh : Nat) (M H N : Nat → Bool) : Nat := fb_ct (fun x => H x && !bdr w h sh H N x && M x) (w * h)
theorem ml_split : mlN (w * h) M H = fb_ct (fun x => bdr w h sh H N x && M x) (w * h) + lmc w h sh M H N := by
  unfold mlN lmc
  rw [← fb_ct_or (fun k _ q => by
    simp only [Bool.and_eq_true, Bool.not_eq_true'] at q
    rw [q.1.1] at q; cases q.2.1.2)]
  refine fb_ct_cong (fun k _ => ?_)
  cases e : bdr w h sh H N k
  · simp
  · rw [(bdr_iff.mp e).1]; simp
theorem cbe_true (gk : gOk w h sh) (oS : okS (w * h) M H B F) (hg : gdH w h sh H N = true) {a : Nat} (hHa : H a = true) : cbe w h sh M H N a (M a) := by
  obtain ⟨hn1, hn2⟩ := mul_le100 gk
  have hH : ∀ i, w * h ≤ i → H i = false := fun i hi => (oS.1 i hi).1
  have hS := bdr_lt (w := w) (h := h) (sh := sh) (N := N) hH
  have han : a < w * h := by
    rcases Nat.lt_or_ge a (w * h) with z | z
    · exact z
    · rw [hH a z] at hHa; cases hHa
  have hml := ml_split (w := w) (h := h) (sh := sh) (M := M) (H := H) (N := N)
  have hll : lmc w h sh M H N ≤ lsn w h sh H N := fb_ct_sub (fun k _ q => by
    simp only [Bool.and_eq_true] at q
    rw [q.1.1, q.1.2]; rfl)
  unfold cbe
  cases e : bdr w h sh H N a
  · rw [if_neg (by simp)]
    have hs := sT_true (M := M) gk hH hg (-1) (npn w h sh H N) (Nat.le_refl _)
    have ht : tmc w h sh M H N (-1) (npn w h sh H N) = fb_ct (fun x => bdr w h sh H N x && M x) (w * h) := fb_ct_cong (fun x _ => by
      cases z : bdr w h sh H N x
      · rfl
      · have : ptn w h sh H N x < npn w h sh H N := ptN_lt (ajw_sym (w := w) (h := h) (sh := sh) (N := N)) hS z
        rw [decide_eq_true this, decide_eq_false (show ¬ (ptn w h sh H N x : Int) = -1 by omega)]; simp)
    have hb := fb_ct_le (fun x => bdr w h sh H N x && M x) (w * h)
    refine ⟨tmc w h sh M H N (-1) (npn w h sh H N), by rw [ht]; omega, hs, ?_⟩
    rw [ht]
    cases em : M a
    · have : lmc w h sh M H N < lsn w h sh H N := ct_strict (fun k _ q => by
        simp only [Bool.and_eq_true] at q
        rw [q.1.1, q.1.2]; rfl) ⟨a, han, by rw [hHa, e]; rfl, by rw [em, Bool.and_false]⟩
      rw [if_neg (by simp)]
      omega
    · have : 0 < lmc w h sh M H N := fb_ct_pos.mpr ⟨a, han, by rw [hHa, e, em]; rfl⟩
      rw [if_pos rfl]
      omega
  · rw [if_pos rfl]
    have hpt : ptn w h sh H N a < npn w h sh H N := ptN_lt (ajw_sym (w := w) (h := h) (sh := sh) (N := N)) hS e
    have hmem : a ∈ pL (w * h) (bdr w h sh H N) (ptn w h sh H N) (ptn w h sh H N a) := pL_mem.mpr ⟨han, e, rfl⟩
    have hs := sT_true (M := M) gk hH hg (ptn w h sh H N a : Nat) (npn w h sh H N) (Nat.le_refl _)
    have hl := of_decide_eq_true hg _ hpt
    have hcl : (pL (w * h) (bdr w h sh H N) (ptn w h sh H N) (ptn w h sh H N a)).countP M ≤ _ := List.countP_le_length
    have hsum : fb_ct (fun x => bdr w h sh H N x && M x) (w * h) = tmc w h sh M H N (ptn w h sh H N a : Nat) (npn w h sh H N) + (pL (w * h) (bdr w h sh H N) (ptn w h sh H N) (ptn w h sh H N a)).countP M := by
      rw [pL_mines]
      unfold tmc
      rw [← fb_ct_or (fun x _ q => by
        simp only [Bool.and_eq_true, decide_eq_true_eq, Bool.not_eq_true', decide_eq_false_iff_not] at q
        omega)]
      refine fb_ct_cong (fun x _ => ?_)
      cases z : bdr w h sh H N x
      · rfl
      · have : ptn w h sh H N x < npn w h sh H N := ptN_lt (ajw_sym (w := w) (h := h) (sh := sh) (N := N)) hS z
        rw [decide_eq_true this]
        cases M x
        · rfl
        · by_cases e2 : ptn w h sh H N x = ptn w h sh H N a
          · rw [decide_eq_true e2]; simp
          · rw [decide_eq_false e2, decide_eq_false (show ¬ (ptn w h sh H N x : Int) = (ptn w h sh H N a : Nat) by omega)]; rfl
    have hb := fb_ct_le (fun x => bdr w h sh H N x && M x) (w * h)
    refine ⟨(pL (w * h) (bdr w h sh H N) (ptn w h sh H N) (ptn w h sh H N a)).countP M, by omega, ?_, tmc w h sh M H N (ptn w h sh H N a : Nat) (npn w h sh H N), by omega, hs, by omega, by omega⟩
    cases em : M a
    · rw [if_neg (by simp)]
      exact (wz_f hmem).mpr ⟨M, fit_M _ _ _ _ _, rfl, em⟩
    · rw [if_pos rfl]
      exact (wz_t hmem).mpr ⟨M, fit_M _ _ _ _ _, rfl, em⟩
/-- what is forced is true -/
theorem cbe_not (gk : gOk w h sh) (oS : okS (w * h) M H B F) (hg : gdH w h sh H N = true) {a : Nat} (hHa : H a = true) {v : Bool} (hn : ¬ cbe w h sh M H N a v) : M a = !v := by
  have := cbe_true gk oS hg hHa
  cases e : M a <;> cases v
  · rw [e] at this; exact absurd this hn
  · rfl
  · rfl
  · rw [e] at this; exact absurd this hn
end TR
