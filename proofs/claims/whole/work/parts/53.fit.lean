/-! what fits: the numbers N, over the cells of the list A -/
def nd (nbr : Nat → Nat → Bool) (M : Nat → Bool) (A : List Nat) (o : Nat) : Nat := A.countP (fun x => nbr o x && M x)
def okF (n : Nat) (nbr : Nat → Nat → Bool) (M N : Nat → Bool) (A : List Nat) (j : Nat) (f : Nat → Bool) : Bool := decide (∀ o, o < n → N o = true → nbr (A.getD (j - 1) 0) o = true → (A.take j).countP (fun x => nbr o x && f x) ≤ nd nbr M A o ∧ nd nbr M A o ≤ (A.take j).countP (fun x => nbr o x && f x) + (A.drop j).countP (nbr o))
def fitF (n : Nat) (nbr : Nat → Nat → Bool) (M N : Nat → Bool) (A : List Nat) (f : Nat → Bool) : Bool := decide (∀ o, o < n → N o = true → (∃ x, x ∈ A ∧ nbr x o = true) → A.countP (fun x => nbr o x && f x) = nd nbr M A o)
section FT
variable {n : Nat} {nbr : Nat → Nat → Bool} {M N : Nat → Bool} {A : List Nat}
theorem cp_cong {p q : Nat → Bool} : ∀ (L : List Nat), (∀ x, x ∈ L → p x = q x) → L.countP p = L.countP q
  | [], _ => rfl
  | c :: L, h => by
    rw [List.countP_cons, List.countP_cons, cp_cong L (fun x hx => h x (List.mem_cons_of_mem _ hx)), h c List.mem_cons_self]
theorem cp_sub {p q : Nat → Bool} : ∀ (L : List Nat), (∀ x, x ∈ L → p x = true → q x = true) → L.countP p ≤ L.countP q
  | [], _ => Nat.le_refl _
  | c :: L, h => by
    have := cp_sub L (fun x hx => h x (List.mem_cons_of_mem _ hx))
    have h1 := h c List.mem_cons_self
    rw [List.countP_cons, List.countP_cons]
    cases e : p c
    · simp; omega
    · rw [h1 e]; simp; exact this
theorem cp_split (p : Nat → Bool) (j : Nat) (L : List Nat) : L.countP p = (L.take j).countP p + (L.drop j).countP p := by
  conv => lhs; rw [← List.take_append_drop j L]
  rw [List.countP_append]
theorem cp_false {p : Nat → Bool} (L : List Nat) (h : ∀ x, x ∈ L → p x = false) : L.countP p = 0 := by
  rw [cp_cong (q := fun _ => false) L (fun x hx => h x hx)]
  induction L with
  | nil => rfl
  | cons c L ih => rw [List.countP_cons, ih (fun x hx => h x (List.mem_cons_of_mem _ hx))]; rfl
/-- cells counted one by one, or over a list of them -/
theorem cp_ct {p : Nat → Bool} : ∀ (L : List Nat), L.Nodup → (∀ x, x ∈ L → x < n) → L.countP p = fb_ct (fun x => decide (x ∈ L) && p x) n
  | [], _, _ => by
    symm
    rw [List.countP_nil]
    exact fb_ct_zero.mpr (fun k _ => by simp)
  | c :: L, hn, hl => by
    obtain ⟨h1, h2⟩ := List.nodup_cons.mp hn
    have ih := cp_ct (p := p) L h2 (fun x hx => hl x (List.mem_cons_of_mem _ hx))
    have hc := hl c List.mem_cons_self
    have e := fb_ct_upd (fun x => decide (x ∈ L) && p x) (p c) (i := c) (n := n) hc
    rw [List.countP_cons, ih]
    have e2 : fb_ct (fun x => decide (x ∈ c :: L) && p x) n = fb_ct (fun k => if k = c then p c else (decide (k ∈ L) && p k)) n := fb_ct_cong (fun k _ => by
      by_cases q : k = c
      · rw [if_pos q, q]; simp
      · rw [if_neg q]
        congr 1
        apply decide_eq_decide.mpr
        simp [q])
    rw [e2]
    rw [show (decide (c ∈ L) && p c) = false by simp [h1]] at e
    simp at e
    omega
theorem okF_cong {j : Nat} {g g' : Nat → Bool} (h : ∀ x, x ∈ A.take j → g x = g' x) : okF n nbr M N A j g = okF n nbr M N A j g' := by
  unfold okF
  have e : ∀ o, (A.take j).countP (fun x => nbr o x && g x) = (A.take j).countP (fun x => nbr o x && g' x) := fun o => cp_cong _ (fun x hx => by rw [h x hx])
  apply decide_eq_decide.mpr
  simp only [e]
theorem last_of {p : Nat → Bool} : ∀ (A : List Nat), (∃ x, x ∈ A ∧ p x = true) → ∃ j, j < A.length ∧ p (A.getD j 0) = true ∧ ∀ y, y ∈ A.drop (j + 1) → p y = false
  | [], h => by obtain ⟨x, hx, -⟩ := h; cases hx
  | c :: A, h => by
    by_cases q : ∃ x, x ∈ A ∧ p x = true
    · obtain ⟨j, j1, j2, j3⟩ := last_of A q
      exact ⟨j + 1, by simp; omega, by simpa using j2, fun y hy => j3 y (by simpa using hy)⟩
    · refine ⟨0, by simp, ?_, fun y hy => ?_⟩
      · obtain ⟨x, hx, hp⟩ := h
        rcases List.mem_cons.mp hx with z | z
        · rw [← z]; simpa using hp
        · exact absurd ⟨x, z, hp⟩ q
      · cases e : p y
        · rfl
        · exact absurd ⟨y, by simpa using hy, e⟩ q
theorem okF_fit (hs : ∀ i j, i < n → j < n → nbr i j = true → nbr j i = true) (hA : ∀ x, x ∈ A → x < n) (f : Nat → Bool) : (∀ j, j < A.length → okF n nbr M N A (0 + 1 + j) f = true) ↔ fitF n nbr M N A f = true := by
  unfold okF fitF
  simp only [decide_eq_true_eq]
  constructor
  · intro h o ho hN hx
    obtain ⟨j, j1, j2, j3⟩ := last_of (p := fun x => nbr x o) A hx
    have := h j j1 o ho hN (by rw [show 0 + 1 + j - 1 = j by omega]; exact j2)
    rw [show 0 + 1 + j = j + 1 by omega] at this
    have h0 : (A.drop (j + 1)).countP (nbr o) = 0 := cp_false _ (fun y hy => by
      cases e : nbr o y
      · rfl
      · have := hs o y ho (hA y (List.mem_of_mem_drop hy)) e
        rw [j3 y hy] at this; cases this)
    have h1 : (A.drop (j + 1)).countP (fun x => nbr o x && f x) ≤ (A.drop (j + 1)).countP (nbr o) := cp_sub _ (fun x _ hx => by simp at hx; exact hx.1)
    have h2 := cp_split (fun x => nbr o x && f x) (j + 1) A
    omega
  · intro h j hj o ho hN hnb
    have hmem : A.getD j 0 ∈ A := by
      rw [List.getD_eq_getElem?_getD, List.getElem?_eq_getElem hj]
      exact List.getElem_mem hj
    have := h o ho hN ⟨A.getD (0 + 1 + j - 1) 0, by rw [show 0 + 1 + j - 1 = j by omega]; exact hmem, hnb⟩
    have h2 := cp_split (fun x => nbr o x && f x) (0 + 1 + j) A
    have h1 : (A.drop (0 + 1 + j)).countP (fun x => nbr o x && f x) ≤ (A.drop (0 + 1 + j)).countP (nbr o) := cp_sub _ (fun x _ hx => by simp at hx; exact hx.1)
    omega
theorem fitF_perm {A' : List Nat} (h : A.Perm A') (f : Nat → Bool) : fitF n nbr M N A f = fitF n nbr M N A' f := by
  unfold fitF nd
  apply decide_eq_decide.mpr
  have e : ∀ p : Nat → Bool, A.countP p = A'.countP p := fun p => h.countP_eq p
  simp only [e, h.mem_iff]
/-- how many fitting sets have m cells; how many of these have the cell c -/
def wy (n : Nat) (nbr : Nat → Nat → Bool) (M N : Nat → Bool) (A : List Nat) (m : Nat) : Nat := cnt (fun f => fitF n nbr M N A f && decide (A.countP f = m)) A (fun _ => false)
def wz (n : Nat) (nbr : Nat → Nat → Bool) (M N : Nat → Bool) (A : List Nat) (c m : Nat) : Nat := cnt (fun f => fitF n nbr M N A f && decide (A.countP f = m) && f c) A (fun _ => false)
theorem wy_perm {A' : List Nat} (h : A.Perm A') (m : Nat) : wy n nbr M N A m = wy n nbr M N A' m := by
  unfold wy
  rw [cnt_perm h]
  refine cnt_cong _ _ (fun g _ => ?_)
  rw [fitF_perm h, h.countP_eq]
theorem wz_perm {A' : List Nat} (h : A.Perm A') (c m : Nat) : wz n nbr M N A c m = wz n nbr M N A' c m := by
  unfold wz
  rw [cnt_perm h]
  refine cnt_cong _ _ (fun g _ => ?_)
  rw [fitF_perm h, h.countP_eq]
theorem wz_le (c m : Nat) : wz n nbr M N A c m ≤ wy n nbr M N A m := cnt_mono (fun g h => by simp at h ⊢; exact h.1) A _
theorem wy_le (m : Nat) : wy n nbr M N A m ≤ 2 ^ A.length := cnt_le A _
theorem wy_big {m : Nat} (h : A.length < m) : wy n nbr M N A m = 0 := cnt_0 A _ (fun g _ => by
  have := List.countP_le_length (p := g) (l := A)
  rw [decide_eq_false (by omega), Bool.and_false])
/-- the search's count is the count of what fits -/
theorem pcn_fit (hs : ∀ i j, i < n → j < n → nbr i j = true → nbr j i = true) (hA : ∀ x, x ∈ A → x < n) (hn : A.Nodup) (Q : (Nat → Bool) → Bool) (f : Nat → Bool) : pcn (okF n nbr M N A) Q 0 A f = cnt (fun g => Q g && fitF n nbr M N A g) A f := by
  rw [pcn_cnt (ok := okF n nbr M N A) (Q := Q) A [] 0 f rfl hn (fun j g g' h => okF_cong h)]
  refine cnt_cong A f (fun g _ => ?_)
  congr 1
  have := okF_fit (n := n) (nbr := nbr) (M := M) (N := N) hs hA g
  cases e : fitF n nbr M N A g
  · rw [decide_eq_false]
    intro q
    rw [this.mp q] at e; cases e
  · exact decide_eq_true (this.mpr e)
end FT
