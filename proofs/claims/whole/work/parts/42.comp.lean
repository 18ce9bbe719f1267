/-! what hangs together -/
/-- within k steps through cells of S -/
def rch (n : Nat) (nbr : Nat → Nat → Bool) (S : Nat → Bool) (a : Nat) : Nat → Nat → Bool
  | 0, x => decide (x = a)
  | k + 1, x => rch n nbr S a k x || (S x && decide (∃ y, y < n ∧ rch n nbr S a k y = true ∧ nbr y x = true))
theorem rch_mono {n : Nat} {nbr : Nat → Nat → Bool} {S : Nat → Bool} {a k x : Nat} (h : rch n nbr S a k x = true) : rch n nbr S a (k + 1) x = true := by
  unfold rch
  rw [h]
  rfl
theorem rch_le {n : Nat} {nbr : Nat → Nat → Bool} {S : Nat → Bool} {a x : Nat} {j k : Nat} (hjk : j ≤ k) (h : rch n nbr S a j x = true) : rch n nbr S a k x = true := by
  induction hjk with
  | refl => exact h
  | step _ ih => exact rch_mono ih
theorem rch_stop {n : Nat} {nbr : Nat → Nat → Bool} {S : Nat → Bool} {a k : Nat} (h : ∀ x, x < n → rch n nbr S a (k + 1) x = rch n nbr S a k x) : ∀ d x, x < n → rch n nbr S a (k + d) x = rch n nbr S a k x := by
  intro d
  induction d with
  | zero => intro x _; rfl
  | succ d ih =>
    intro x hx
    have e : rch n nbr S a (k + (d + 1)) x = (rch n nbr S a (k + d) x || (S x && decide (∃ y, y < n ∧ rch n nbr S a (k + d) y = true ∧ nbr y x = true))) := rfl
    have e2 := h x hx
    have e3 : rch n nbr S a (k + 1) x = (rch n nbr S a k x || (S x && decide (∃ y, y < n ∧ rch n nbr S a k y = true ∧ nbr y x = true))) := rfl
    rw [e, ih x hx]
    refine Eq.trans ?_ e2
    rw [e3]
    congr 2
    apply decide_eq_decide.mpr
    constructor
    · rintro ⟨y, y1, y2, y3⟩
      exact ⟨y, y1, by rw [← ih y y1]; exact y2, y3⟩
    · rintro ⟨y, y1, y2, y3⟩
      exact ⟨y, y1, by rw [ih y y1]; exact y2, y3⟩
theorem ct_strict {p q : Nat → Bool} {n : Nat} (hs : ∀ k, k < n → p k = true → q k = true) (hx : ∃ x, x < n ∧ q x = true ∧ p x = false) : fb_ct p n < fb_ct q n := by
  obtain ⟨x, x1, x2, x3⟩ := hx
  have h1 : fb_ct (fun k => if k = x then true else p k) n ≤ fb_ct q n := fb_ct_sub (fun k hk hp => by
    by_cases e : k = x
    · rw [e]; exact x2
    · rw [if_neg e] at hp; exact hs k hk hp)
  have h2 := fb_ct_upd p true (i := x) (n := n) x1
  rw [x3, if_pos rfl, if_neg Bool.false_ne_true] at h2
  omega
/-- within n steps all is reached -/
theorem rch_n {n : Nat} {nbr : Nat → Nat → Bool} {S : Nat → Bool} {a : Nat} (ha : a < n) : ∀ k x, x < n → rch n nbr S a k x = true → rch n nbr S a n x = true := by
  have grow : ∀ k, (∃ j, j ≤ k ∧ ∀ x, x < n → rch n nbr S a (j + 1) x = rch n nbr S a j x) ∨ k + 1 ≤ fb_ct (rch n nbr S a k) n := by
    intro k
    induction k with
    | zero =>
      right
      have : 0 < fb_ct (rch n nbr S a 0) n := fb_ct_pos.mpr ⟨a, ha, by simp [rch]⟩
      omega
    | succ k ih =>
      rcases ih with ⟨j, j1, j2⟩ | ih
      · exact Or.inl ⟨j, by omega, j2⟩
      · by_cases q : ∀ x, x < n → rch n nbr S a (k + 1) x = rch n nbr S a k x
        · exact Or.inl ⟨k, by omega, q⟩
        · right
          have : fb_ct (rch n nbr S a k) n < fb_ct (rch n nbr S a (k + 1)) n := by
            refine ct_strict (fun x _ hx => rch_mono hx) ?_
            obtain ⟨x, hx⟩ := Classical.not_forall.mp q
            obtain ⟨x1, x2⟩ := Classical.not_imp.mp hx
            refine ⟨x, x1, ?_⟩
            cases e1 : rch n nbr S a k x
            · cases e2 : rch n nbr S a (k + 1) x
              · rw [e1, e2] at x2; exact absurd rfl x2
              · exact ⟨rfl, rfl⟩
            · rw [e1, rch_mono e1] at x2; exact absurd rfl x2
          omega
  intro k x hx hk
  rcases grow n with ⟨j, j1, j2⟩ | h
  · have st := rch_stop j2
    rcases Nat.lt_or_ge k j with z | z
    · exact rch_le (by omega) hk
    · have e1 := st (k - j) x hx
      rw [show j + (k - j) = k by omega, hk] at e1
      exact rch_le j1 e1.symm
  · have := fb_ct_le (rch n nbr S a n) n
    omega
/-- a set closed under steps that has the start has all that is reached -/
theorem rch_closed {n : Nat} {nbr : Nat → Nat → Bool} {S : Nat → Bool} {a : Nat} {C : Nat → Prop} (h0 : C a) (hc : ∀ x y, x < n → C x → nbr x y = true → S y = true → C y) : ∀ k x, rch n nbr S a k x = true → C x := by
  intro k
  induction k with
  | zero => intro x hx; simp [rch] at hx; rw [hx]; exact h0
  | succ k ih =>
    intro x hx
    have e : rch n nbr S a (k + 1) x = (rch n nbr S a k x || (S x && decide (∃ y, y < n ∧ rch n nbr S a k y = true ∧ nbr y x = true))) := rfl
    rw [e] at hx
    simp only [Bool.or_eq_true, Bool.and_eq_true, decide_eq_true_eq] at hx
    rcases hx with hx | ⟨h1, y, y1, y2, y3⟩
    · exact ih x hx
    · exact hc y x y1 (ih y y2) y3 h1
theorem rch_S {n : Nat} {nbr : Nat → Nat → Bool} {S : Nat → Bool} {a k x : Nat} (ha : S a = true) (h : rch n nbr S a k x = true) : S x = true :=
  rch_closed (C := fun x => S x = true) ha (fun _ _ _ _ _ h => h) k x h
/-- one step more -/
theorem rch_step {n : Nat} {nbr : Nat → Nat → Bool} {S : Nat → Bool} {a k x y : Nat} (hx : x < n) (h : rch n nbr S a k x = true) (hn : nbr x y = true) (hS : S y = true) : rch n nbr S a (k + 1) y = true := by
  have e : rch n nbr S a (k + 1) y = (rch n nbr S a k y || (S y && decide (∃ z, z < n ∧ rch n nbr S a k z = true ∧ nbr z y = true))) := rfl
  rw [e, hS, decide_eq_true (show ∃ z, z < n ∧ rch n nbr S a k z = true ∧ nbr z y = true from ⟨x, hx, h, hn⟩)]
  simp
/-- hanging together, both ways -/
def con (n : Nat) (nbr : Nat → Nat → Bool) (S : Nat → Bool) (a x : Nat) : Prop := rch n nbr S a n x = true
theorem con_refl {n : Nat} {nbr : Nat → Nat → Bool} {S : Nat → Bool} {a : Nat} : con n nbr S a a := rch_le (Nat.zero_le n) (by simp [rch])
theorem con_step {n : Nat} {nbr : Nat → Nat → Bool} {S : Nat → Bool} {a x y : Nat} (ha : a < n) (hx : x < n) (hy : y < n) (h : con n nbr S a x) (hn : nbr x y = true) (hS : S y = true) : con n nbr S a y := rch_n ha (n + 1) y hy (rch_step hx h hn hS)
theorem con_lt {n : Nat} {nbr : Nat → Nat → Bool} {S : Nat → Bool} {a x : Nat} (hS : ∀ i, S i = true → i < n) (ha : a < n) (h : con n nbr S a x) : x < n :=
  rch_closed (C := fun x => x < n) ha (fun _ y _ _ _ h => hS y h) n x h
theorem con_tr {n : Nat} {nbr : Nat → Nat → Bool} {S : Nat → Bool} {a b x : Nat} (hS : ∀ i, S i = true → i < n) (ha : a < n) (hb : b < n) (h1 : con n nbr S a b) (h2 : con n nbr S b x) : con n nbr S a x :=
  rch_closed (C := fun x => con n nbr S a x) h1 (fun x y hx h hn hs => con_step ha hx (hS y hs) h hn hs) n x h2
theorem con_sym {n : Nat} {nbr : Nat → Nat → Bool} {S : Nat → Bool} {a x : Nat} (hs : ∀ i j, i < n → j < n → nbr i j = true → nbr j i = true) (hS : ∀ i, S i = true → i < n) (ha : S a = true) (h : con n nbr S a x) : con n nbr S x a := by
  refine (rch_closed (C := fun x => S x = true ∧ con n nbr S x a) (a := a) ⟨ha, con_refl⟩ (fun x y hx c hn hy => ⟨hy, ?_⟩) n x h).2
  have hyn := hS y hy
  exact con_tr hS hyn hx (con_step hyn hyn hx con_refl (hs x y hx hyn hn) c.1) c.2
