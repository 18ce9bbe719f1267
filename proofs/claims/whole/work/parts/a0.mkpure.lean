/-! drawing and mending boards -/
def lcg (x : Int32) : Int32 := 1103515245 * x + 12345 &&& 2147483647
theorem lcg_nat (x : Int32) : ∃ j : Nat, j < 2147483648 ∧ lcg x = zI j := by
  obtain ⟨j, h1, h2⟩ := pk_andE (1103515245 * x + 12345) (m := 2147483647) 31 (by decide)
  exact ⟨j, h1, by rw [z_nat]; exact h2⟩
/-- number k of a set -/
def pck (n : Nat) (R : Nat → Bool) (k : Nat) : Nat := ((List.range n).filter R).getD k 0
theorem pck_ok {n : Nat} {R : Nat → Bool} {k : Nat} (h : k < fb_ct R n) : pck n R k < n ∧ R (pck n R k) = true ∧ fb_ct R (pck n R k) = k := by
  have hl : k < ((List.range n).filter R).length := by rw [filt_len]; exact h
  have hm := List.mem_filter.mp (getD_mem hl)
  exact ⟨List.mem_range.mp hm.1, hm.2, filt_idx R n k hl⟩
/-- the cells that can be mined -/
def cbm (w h sh c : Nat) : Nat → Bool := fun i => decide (i < w * h) && !decide (i = c) && !nb w h sh c i
def rmm (C M : Nat → Bool) : Nat → Bool := fun i => C i && !M i
def drw (n : Nat) (C : Nat → Bool) : Nat → Int32 → (Nat → Bool) → (Nat → Bool)
  | 0, _, M => M
  | m + 1, x, M => drw n C m (lcg x) (upb M (pck n (rmm C M) ((lcg x).toNatClampNeg / 65536 % fb_ct (rmm C M) n)) true)
theorem rmm_upd {C M : Nat → Bool} {c n : Nat} (hc : c < n) (hR : rmm C M c = true) : fb_ct (rmm C (upb M c true)) n + 1 = fb_ct (rmm C M) n := by
  have h1 := fb_ct_upd (rmm C M) false (i := c) (n := n) hc
  rw [hR, if_pos rfl, if_neg Bool.false_ne_true] at h1
  have h2 : fb_ct (rmm C (upb M c true)) n = fb_ct (fun k => if k = c then false else rmm C M k) n := fb_ct_cong (fun k _ => by
    unfold rmm upb
    by_cases e : k = c
    · rw [if_pos e, if_pos e]; simp
    · rw [if_neg e, if_neg e])
  omega
theorem drw_ok {n : Nat} {C : Nat → Bool} (hC : ∀ i, C i = true → i < n) : ∀ (m : Nat) (x : Int32) (M : Nat → Bool), m ≤ fb_ct (rmm C M) n → (∀ i, M i = true → C i = true) → ∀ i, drw n C m x M i = true → C i = true
  | 0, x, M, _, hM, i, q => hM i q
  | m + 1, x, M, hm, hM, i, q => by
    have hk : (lcg x).toNatClampNeg / 65536 % fb_ct (rmm C M) n < fb_ct (rmm C M) n := Nat.mod_lt _ (by omega)
    obtain ⟨p1, p2, p3⟩ := pck_ok hk
    refine drw_ok hC m (lcg x) _ ?_ (fun j z => ?_) i q
    · have := rmm_upd p1 p2
      omega
    · unfold upb at z
      by_cases e : j = pck n (rmm C M) ((lcg x).toNatClampNeg / 65536 % fb_ct (rmm C M) n)
      · rw [e]
        unfold rmm at p2
        simp only [Bool.and_eq_true] at p2
        exact p2.1
      · rw [if_neg e] at z; exact hM j z
/-- a mending: a mine beside open cells goes to a cell that none sees -/
def mdF (w h sh : Nat) (M H : Nat → Bool) (x : Nat) : Prop := H x = true ∧ M x = true ∧ 0 < nin w h sh (opS (w * h) H zB) x
def mdT (w h sh : Nat) (M H : Nat → Bool) (x : Nat) : Prop := H x = true ∧ M x = false ∧ ¬ 0 < nin w h sh (opS (w * h) H zB) x
/-- the first of some cells, as an int; -1 for none -/
def frst (n : Nat) (p : Nat → Prop) (k : Nat) (v : Int32) : Prop := (v = -1 ∧ ∀ x, k ≤ x → x < n → ¬ p x) ∨ ∃ x, k ≤ x ∧ x < n ∧ v = zI x ∧ p x ∧ ∀ y, k ≤ y → y < x → ¬ p y
theorem frst_no {n : Nat} {p : Nat → Prop} {k : Nat} {v : Int32} (h : frst n p (k + 1) v) (hp : ¬ p k) : frst n p k v := by
  have ext : ∀ y, k ≤ y → (k + 1 ≤ y → ¬ p y) → ¬ p y := fun y a b => by
    by_cases e : y = k
    · rw [e]; exact hp
    · exact b (by omega)
  rcases h with ⟨h1, h2⟩ | ⟨x, h1, h2, h3, h4, h5⟩
  · exact Or.inl ⟨h1, fun x a b => ext x a (fun z => h2 x z b)⟩
  · exact Or.inr ⟨x, by omega, h2, h3, h4, fun y a b => ext y a (fun z => h5 y z b)⟩
theorem frst_yes {n : Nat} {p : Nat → Prop} {k : Nat} (hk : k < n) (hp : p k) : frst n p k (zI k) := Or.inr ⟨k, Nat.le_refl _, hk, rfl, hp, fun y a b => absurd a (by omega)⟩
theorem frst_n {n : Nat} {p : Nat → Prop} : frst n p n (-1) := Or.inl ⟨rfl, fun x a b => absurd a (by omega)⟩
theorem frst_neg {n : Nat} {p : Nat → Prop} {v : Int32} (hn : n ≤ 100) (h : frst n p 0 v) : (v < 0 ↔ ∀ x, x < n → ¬ p x) ∧ (0 ≤ v ↔ ¬ v < 0) := by
  rcases h with ⟨h1, h2⟩ | ⟨x, h1, h2, h3, h4, h5⟩
  · rw [h1]
    exact ⟨⟨fun _ x hx => h2 x (by omega) hx, fun _ => by decide⟩, by decide⟩
  · rw [h3, show (0 : Int32) = zI 0 from rfl, z_lt (by omega) (by omega) (by omega) (by omega), z_le (by omega) (by omega) (by omega) (by omega)]
    exact ⟨⟨fun z => absurd z (by omega), fun z => absurd h4 (z x h2)⟩, by omega⟩
theorem frst_pos {n : Nat} {p : Nat → Prop} {v : Int32} (h : frst n p 0 v) (hx : ∃ x, x < n ∧ p x) : ∃ x, x < n ∧ v = zI x ∧ p x ∧ ∀ y, y < x → ¬ p y := by
  rcases h with ⟨h1, h2⟩ | ⟨x, h1, h2, h3, h4, h5⟩
  · obtain ⟨x, x1, x2⟩ := hx
    exact absurd x2 (h2 x (by omega) x1)
  · exact ⟨x, h2, h3, h4, fun y a => h5 y (by omega) a⟩
def mdR (w h sh : Nat) (M H : Nat → Bool) (r : Option (Nat → Bool)) : Prop := (((∀ x, x < w * h → ¬ mdF w h sh M H x) ∨ ∀ x, x < w * h → ¬ mdT w h sh M H x) ∧ r = none) ∨ ∃ f t, f < w * h ∧ mdF w h sh M H f ∧ (∀ y, y < f → ¬ mdF w h sh M H y) ∧ t < w * h ∧ mdT w h sh M H t ∧ (∀ y, y < t → ¬ mdT w h sh M H y) ∧ r = some (upb (upb M f false) t true)
theorem mdR_det {w h sh : Nat} {M H : Nat → Bool} {r r' : Option (Nat → Bool)} (h1 : mdR w h sh M H r) (h2 : mdR w h sh M H r') : r = r' := by
  rcases h1 with ⟨a, rfl⟩ | ⟨f, t, a1, a2, a3, a4, a5, a6, rfl⟩
  · rcases h2 with ⟨b, rfl⟩ | ⟨f', t', b1, b2, b3, b4, b5, b6, rfl⟩
    · rfl
    · rcases a with a | a
      · exact absurd b2 (a f' b1)
      · exact absurd b5 (a t' b4)
  · rcases h2 with ⟨b, rfl⟩ | ⟨f', t', b1, b2, b3, b4, b5, b6, rfl⟩
    · rcases b with b | b
      · exact absurd a2 (b f a1)
      · exact absurd a5 (b t a4)
    · rw [one_of a2 a3 b2 b3, one_of a5 a6 b5 b6]
/-- a board mended until it is cleared, or given up; and how many mendings -/
def tcR (w h sh g c : Nat) : Nat → Nat → (Nat → Bool) → Option (Nat → Bool) × Nat → Prop
  | 0, _, _, _ => False
  | f + 1, k, M, r => (mRr w h sh M g (fstH w h sh M c) none ∧ r = (some M, k)) ∨ ∃ Hf, mRr w h sh M g (fstH w h sh M c) (some Hf) ∧ ((k = 40 ∧ r = (none, k)) ∨ (k < 40 ∧ ((mdR w h sh M Hf none ∧ r = (none, k)) ∨ ∃ M', mdR w h sh M Hf (some M') ∧ tcR w h sh g c f (k + 1) M' r)))
theorem tcR_det {w h sh g c : Nat} : ∀ (f f' k : Nat) (M : Nat → Bool) (r r' : Option (Nat → Bool) × Nat), tcR w h sh g c f k M r → tcR w h sh g c f' k M r' → r = r'
  | 0, _, _, _, _, _, h1, _ => h1.elim
  | _ + 1, 0, _, _, _, _, _, h2 => h2.elim
  | f + 1, f' + 1, k, M, r, r', h1, h2 => by
    rcases h1 with ⟨a1, rfl⟩ | ⟨Hf, a1, t1⟩
    · rcases h2 with ⟨b1, rfl⟩ | ⟨Hf', b1, t2⟩
      · rfl
      · have := mRr_det a1 b1; cases this
    · rcases h2 with ⟨b1, rfl⟩ | ⟨Hf', b1, t2⟩
      · have := mRr_det a1 b1; cases this
      · have e := mRr_det a1 b1
        cases e
        rcases t1 with ⟨k1, rfl⟩ | ⟨k1, t1⟩
        · rcases t2 with ⟨k2, rfl⟩ | ⟨k2, t2⟩
          · rfl
          · omega
        · rcases t2 with ⟨k2, rfl⟩ | ⟨k2, t2⟩
          · omega
          · rcases t1 with ⟨m1, rfl⟩ | ⟨M1, m1, t1⟩
            · rcases t2 with ⟨m2, rfl⟩ | ⟨M2, m2, t2⟩
              · rfl
              · have := mdR_det m1 m2; cases this
            · rcases t2 with ⟨m2, rfl⟩ | ⟨M2, m2, t2⟩
              · have := mdR_det m1 m2; cases this
              · have := mdR_det m1 m2
                cases this
                exact tcR_det f f' (k + 1) M1 r r' t1 t2
/-- cells that a stuck play leaves hidden were hidden as it began -/
theorem mR_sub {w h sh g : Nat} {M : Nat → Bool} : ∀ (f : Nat) (H Hf : Nat → Bool), mR w h sh M g f H (some Hf) → ∀ x, Hf x = true → H x = true
  | 0, _, _, q, _, _ => q.elim
  | f + 1, H, Hf, q, x, hx => by
    rcases q with ⟨-, e⟩ | ⟨-, t⟩
    · cases e
    · rcases t with ⟨-, e⟩ | ⟨c, -, t⟩
      · cases e; exact hx
      · exact (uncH_sub (mR_sub f _ Hf t x hx)).1
/-- the first cell stays without mine -/
theorem md_c {w h sh g c : Nat} {M M' Hf : Nat → Bool} (hr : mRr w h sh M g (fstH w h sh M c) (some Hf)) (hm : mdR w h sh M Hf (some M')) (hM : ∀ i, M i = true → i < w * h) (hMc : M c = false) : (∀ i, M' i = true → i < w * h) ∧ M' c = false := by
  rcases hm with ⟨-, e⟩ | ⟨f, t, a1, a2, a3, a4, a5, a6, e⟩
  · cases e
  · cases e
    refine ⟨fun i q => ?_, ?_⟩
    · unfold upb at q
      by_cases e1 : i = t
      · omega
      · rw [if_neg e1] at q
        by_cases e2 : i = f
        · omega
        · rw [if_neg e2] at q; exact hM i q
    · have htc : c ≠ t := fun e => by
        obtain ⟨f0, q0⟩ := hr
        have := mR_sub f0 _ Hf q0 c (by rw [e]; exact a5.1)
        exact (uncH_sub this).2 rfl
      unfold upb
      rw [if_neg htc]
      by_cases e2 : c = f
      · rw [if_pos e2]
      · rw [if_neg e2]; exact hMc
