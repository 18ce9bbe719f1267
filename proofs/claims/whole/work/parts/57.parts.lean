/-! parts of the border -/
/-- two cells see the same open cell -/
def aj (n : Nat) (nbr : Nat → Nat → Bool) (N : Nat → Bool) (x y : Nat) : Bool := decide (∃ o, o < n ∧ N o = true ∧ nbr o x = true ∧ nbr o y = true)
theorem aj_sym {n : Nat} {nbr : Nat → Nat → Bool} {N : Nat → Bool} (i j : Nat) (_ : i < n) (_ : j < n) (h : aj n nbr N i j = true) : aj n nbr N j i = true := by
  unfold aj at h ⊢
  obtain ⟨o, a, b, c, d⟩ := of_decide_eq_true h
  exact decide_eq_true ⟨o, a, b, d, c⟩
/-- the first of those that hang together with a cell -/
def ld (n : Nat) (nbr : Nat → Nat → Bool) (S : Nat → Bool) (x : Nat) : Nat := ((List.range n).find? (fun y => rch n nbr S x n y)).getD 0
section LD
variable {n : Nat} {nbr : Nat → Nat → Bool} {S : Nat → Bool}
theorem ld_spec {x : Nat} (hx : x < n) : ld n nbr S x < n ∧ con n nbr S x (ld n nbr S x) ∧ ∀ y, con n nbr S x y → ld n nbr S x ≤ y := by
  obtain ⟨i, i1, i2, i3⟩ := fb_first (p := fun y => rch n nbr S x n y = true) ⟨x, hx, con_refl⟩
  have e : (List.range n).find? (fun y => rch n nbr S x n y) = some i := by
    rw [List.find?_range_eq_some]
    exact ⟨i2, by simpa using i1, fun j hj => by simpa using i3 j hj⟩
  have e2 : ld n nbr S x = i := by unfold ld; rw [e]; rfl
  rw [e2]
  exact ⟨i1, i2, fun y hy => Nat.le_of_not_lt (fun q => i3 y q hy)⟩
theorem ld_eq {x l : Nat} (hx : x < n) (h1 : con n nbr S x l) (h2 : ∀ y, con n nbr S x y → l ≤ y) : ld n nbr S x = l := by
  obtain ⟨a, b, c⟩ := ld_spec (n := n) (nbr := nbr) (S := S) hx
  have := c l h1
  have := h2 _ b
  omega
theorem ld_con (hsy : ∀ i j, i < n → j < n → nbr i j = true → nbr j i = true) (hS : ∀ i, S i = true → i < n) {x y : Nat} (hx : S x = true) (hy : S y = true) : ld n nbr S x = ld n nbr S y ↔ con n nbr S x y := by
  have hxn := hS x hx
  have hyn := hS y hy
  obtain ⟨a, b, c⟩ := ld_spec (n := n) (nbr := nbr) (S := S) hxn
  obtain ⟨a', b', c'⟩ := ld_spec (n := n) (nbr := nbr) (S := S) hyn
  constructor
  · intro e
    rw [e] at b
    exact con_tr hS hxn a' b (con_sym hsy hS hy b')
  · intro h
    have h2 := con_sym hsy hS hx h
    refine ld_eq hxn (con_tr hS hxn hyn h b') (fun z hz => c' z (con_tr hS hyn hxn h2 hz))
theorem con_S {x y : Nat} (hx : S x = true) (h : con n nbr S x y) : S y = true := rch_S hx h
theorem ld_S (hS : ∀ i, S i = true → i < n) {x : Nat} (hx : S x = true) : S (ld n nbr S x) = true := con_S hx (ld_spec (hS x hx)).2.1
theorem ld_ld (hsy : ∀ i j, i < n → j < n → nbr i j = true → nbr j i = true) (hS : ∀ i, S i = true → i < n) {x : Nat} (hx : S x = true) : ld n nbr S (ld n nbr S x) = ld n nbr S x := ((ld_con hsy hS hx (ld_S hS hx)).mpr (ld_spec (hS x hx)).2.1).symm
theorem ld_le {x : Nat} (hx : x < n) : ld n nbr S x ≤ x := (ld_spec hx).2.2 x con_refl
theorem lo_ld (hS : ∀ i, S i = true → i < n) (s : Nat) : lo n nbr S s s = true ↔ S s = true ∧ ld n nbr S s = s := by
  rw [lo_iff]
  constructor
  · rintro ⟨a, b⟩
    refine ⟨a, ld_eq (hS s a) con_refl (fun y hy => b y (con_lt hS (hS s a) hy) hy)⟩
  · rintro ⟨a, b⟩
    refine ⟨a, fun y hy hc => ?_⟩
    have := (ld_spec (n := n) (nbr := nbr) (S := S) (hS s a)).2.2 y hc
    omega
/-- what lies below k -/
theorem lo_k (hS : ∀ i, S i = true → i < n) (k i : Nat) : lo n nbr S k i = true ↔ S i = true ∧ k ≤ ld n nbr S i := by
  rw [lo_iff]
  constructor
  · rintro ⟨a, b⟩
    exact ⟨a, b _ (ld_spec (hS i a)).1 (ld_spec (hS i a)).2.1⟩
  · rintro ⟨a, b⟩
    exact ⟨a, fun y _ hc => Nat.le_trans b ((ld_spec (hS i a)).2.2 y hc)⟩
/-- the number of a cell's part, and how many there are -/
def ptN (n : Nat) (nbr : Nat → Nat → Bool) (S : Nat → Bool) (x : Nat) : Nat := fb_ct (fun s => lo n nbr S s s) (ld n nbr S x)
def npN (n : Nat) (nbr : Nat → Nat → Bool) (S : Nat → Bool) : Nat := fb_ct (fun s => lo n nbr S s s) n
theorem ptN_iff (hsy : ∀ i j, i < n → j < n → nbr i j = true → nbr j i = true) (hS : ∀ i, S i = true → i < n) {s x : Nat} (hs : lo n nbr S s s = true) (hx : S x = true) : ptN n nbr S x = fb_ct (fun s => lo n nbr S s s) s ↔ ld n nbr S x = s := by
  constructor
  · intro e
    exact fb_ct_kth_one (p := fun s => lo n nbr S s s) ((lo_ld hS _).mpr ⟨ld_S hS hx, ld_ld hsy hS hx⟩) hs e
  · intro e
    unfold ptN
    rw [e]
theorem ptN_lt (hsy : ∀ i j, i < n → j < n → nbr i j = true → nbr j i = true) (hS : ∀ i, S i = true → i < n) {x : Nat} (hx : S x = true) : ptN n nbr S x < npN n nbr S := by
  have h1 := (ld_spec (n := n) (nbr := nbr) (S := S) (hS x hx)).1
  have h2 : fb_ct (fun s => lo n nbr S s s) (ld n nbr S x + 1) ≤ npN n nbr S := fb_ct_mono _ (by omega)
  rw [fb_ct_succ, if_pos ((lo_ld hS _).mpr ⟨ld_S hS hx, ld_ld hsy hS hx⟩)] at h2
  unfold ptN
  omega
end LD
/-- the border: hidden cells beside open ones -/
def bdr (w h sh : Nat) (H N : Nat → Bool) : Nat → Bool := fun x => H x && decide (0 < nin w h sh N x)
def ajw (w h sh : Nat) (N : Nat → Bool) : Nat → Nat → Bool := aj (w * h) (nb w h sh) N
def ptn (w h sh : Nat) (H N : Nat → Bool) : Nat → Nat := ptN (w * h) (ajw w h sh N) (bdr w h sh H N)
def npn (w h sh : Nat) (H N : Nat → Bool) : Nat := npN (w * h) (ajw w h sh N) (bdr w h sh H N)
section PW
variable {w h sh : Nat} {H N : Nat → Bool}
theorem bdr_lt (hH : ∀ i, w * h ≤ i → H i = false) : ∀ i, bdr w h sh H N i = true → i < w * h := fun i hi => by
  unfold bdr at hi
  simp only [Bool.and_eq_true] at hi
  rcases Nat.lt_or_ge i (w * h) with q | q
  · exact q
  · rw [hH i q] at hi; cases hi.1
theorem bdr_iff {x : Nat} : bdr w h sh H N x = true ↔ H x = true ∧ ∃ o, o < w * h ∧ nb w h sh x o = true ∧ N o = true := by
  unfold bdr nin
  rw [Bool.and_eq_true, decide_eq_true_eq, fb_ct_pos]
  constructor
  · rintro ⟨a, o, b, c⟩
    simp only [Bool.and_eq_true] at c
    exact ⟨a, o, b, c⟩
  · rintro ⟨a, o, b, c⟩
    exact ⟨a, o, b, by rw [c.1, c.2]; rfl⟩
theorem ajw_sym : ∀ i j, i < w * h → j < w * h → ajw w h sh N i j = true → ajw w h sh N j i = true := aj_sym
/-- the cells of a part are those that hang together with its first -/
theorem pL_con (hH : ∀ i, w * h ≤ i → H i = false) {s : Nat} (hs : lo (w * h) (ajw w h sh N) (bdr w h sh H N) s s = true) {x : Nat} : x ∈ pL (w * h) (bdr w h sh H N) (ptn w h sh H N) (fb_ct (fun s => lo (w * h) (ajw w h sh N) (bdr w h sh H N) s s) s) ↔ con (w * h) (ajw w h sh N) (bdr w h sh H N) s x := by
  have hS := bdr_lt (w := w) (h := h) (sh := sh) (N := N) hH
  have hss := ((lo_ld hS s).mp hs)
  rw [pL_mem]
  constructor
  · rintro ⟨a, b, c⟩
    have := (ptN_iff ajw_sym hS hs b).mp c
    exact (ld_con ajw_sym hS hss.1 b).mp (hss.2.trans this.symm)
  · intro hc
    have b := con_S hss.1 hc
    refine ⟨hS x b, b, (ptN_iff ajw_sym hS hs b).mpr ?_⟩
    rw [← (ld_con ajw_sym hS hss.1 b).mpr hc]
    exact hss.2
theorem ptok_ok (gk : gOk w h sh) (hH : ∀ i, w * h ≤ i → H i = false) : ptok (w * h) (nb w h sh) H N (bdr w h sh H N) (ptn w h sh H N) (npn w h sh H N) := by
  obtain ⟨hn1, hn2⟩ := mul_le100 gk
  have hS := bdr_lt (w := w) (h := h) (sh := sh) (N := N) hH
  refine ⟨?_, fun a ha hb => ptN_lt ajw_sym hS hb, fun p hp => ?_⟩
  · have := fb_ct_le (fun s => lo (w * h) (ajw w h sh N) (bdr w h sh H N) s s) (w * h)
    unfold npn npN
    omega
  · obtain ⟨s, s1, s2, s3⟩ := fb_ct_kth (p := fun s => lo (w * h) (ajw w h sh N) (bdr w h sh H N) s s) hp
    have hm := fun x => pL_con (x := x) hH s2
    rw [s3] at hm
    have hss := ((lo_ld hS s).mp s2)
    refine ⟨⟨List.Nodup.sublist List.filter_sublist List.nodup_range, fun x hx => ?_, fun o x y ho hN hx hxo hy hHy hoy => ?_⟩, fun q => ?_⟩
    · have := (pL_mem.mp hx)
      exact ⟨this.1, (bdr_iff.mp this.2.1).1⟩
    · have hxb := pL_mem.mp hx
      have hyb : bdr w h sh H N y = true := bdr_iff.mpr ⟨hHy, o, ho, nb_sym1 gk ho hoy, hN⟩
      rw [hm]
      refine con_step s1 hxb.1 hy ((hm x).mp hx) ?_ hyb
      exact decide_eq_true ⟨o, ho, hN, nb_sym1 gk hxb.1 hxo, hoy⟩
    · have : s ∈ pL (w * h) (bdr w h sh H N) (ptn w h sh H N) p := (hm s).mpr con_refl
      rw [q] at this
      cases this
end PW
