/-! opening a cell: the flood, as lists and sets -/
def fNew (nbA H : Nat → Bool) (k : Nat) : List Nat := (List.range k).filter fun x => nbA x && H x
def fHid (nbA H : Nat → Bool) (k : Nat) : Nat → Bool := fun x => H x && !(decide (x < k) && nbA x)
theorem fNew_succ (nbA H : Nat → Bool) (k : Nat) : fNew nbA H (k + 1) = fNew nbA H k ++ (if nbA k && H k then [k] else []) := by
  unfold fNew
  rw [List.range_succ, List.filter_append]
  congr 1
  by_cases h : nbA k && H k <;> simp [h]
theorem fHid_succ (nbA H : Nat → Bool) (k : Nat) : fHid nbA H (k + 1) = fun x => if x = k ∧ nbA k = true then false else fHid nbA H k x := by
  funext x
  unfold fHid
  by_cases e : x = k
  · subst e
    cases nbA x <;> simp
  · rw [if_neg (by simp [e])]
    congr 2
    by_cases q : x < k
    · rw [decide_eq_true q, decide_eq_true (by omega)]
    · rw [decide_eq_false q, decide_eq_false (by omega)]
theorem fHid_self (nbA H : Nat → Bool) (k : Nat) : fHid nbA H k k = H k := by simp [fHid]
theorem fHid_zero (nbA H : Nat → Bool) : fHid nbA H 0 = H := by
  funext x
  simp [fHid]
theorem fNew_zero (nbA H : Nat → Bool) : fNew nbA H 0 = [] := rfl
theorem fHid_ct (nbA H : Nat → Bool) (n : Nat) : ∀ k, k ≤ n → fb_ct (fHid nbA H k) n + (fNew nbA H k).length = fb_ct H n
  | 0, _ => by rw [fHid_zero, fNew_zero]; rfl
  | k + 1, hk => by
    have ih := fHid_ct nbA H n k (by omega)
    rw [fNew_succ, List.length_append]
    by_cases hn : nbA k = true
    · have e : fHid nbA H (k + 1) = fun x => if x = k then false else fHid nbA H k x := by
        rw [fHid_succ]
        funext x
        simp [hn]
      have u := fb_ct_upd (fHid nbA H k) false (i := k) (n := n) (by omega)
      rw [fHid_self] at u
      rw [e, hn]
      by_cases hh : H k = true
      · rw [hh, if_pos rfl, if_neg Bool.false_ne_true] at u
        simp only [hh, Bool.and_self, if_true, List.length_cons, List.length_nil]
        omega
      · have hf : H k = false := by simpa using hh
        simp only [hf, Bool.and_false, if_false, Bool.false_eq_true, List.length_nil] at u ⊢
        omega
    · have hf : nbA k = false := by simpa using hn
      have e : fHid nbA H (k + 1) = fHid nbA H k := by
        rw [fHid_succ]
        funext x
        simp [hf]
      rw [e, hf]
      simp
      exact ih
/-- the flood from the place k of the list on -/
def fl (n : Nat) (nbr : Nat → Nat → Bool) (z : Nat → Bool) : Nat → Nat → (Nat → Bool) → List Nat → Nat → Bool
  | 0, _, H, _ => H
  | f + 1, k, H, L => match L[k]? with
    | none => H
    | some a => if z a then fl n nbr z f (k + 1) (fHid (nbr a) H n) (L ++ fNew (nbr a) H n) else fl n nbr z f (k + 1) H L
def flood (n : Nat) (nbr : Nat → Nat → Bool) (z : Nat → Bool) (c : Nat) (H : Nat → Bool) : Nat → Bool := fl n nbr z n 0 (fun x => H x && !decide (x = c)) [c]
theorem fl_out {n : Nat} {nbr : Nat → Nat → Bool} {z : Nat → Bool} {f k : Nat} {H : Nat → Bool} {L : List Nat} (h : L.length ≤ k) : fl n nbr z f k H L = H := by
  cases f with
  | zero => rfl
  | succ f =>
    show (match L[k]? with
      | none => H
      | some a => if z a then fl n nbr z f (k + 1) (fHid (nbr a) H n) (L ++ fNew (nbr a) H n) else fl n nbr z f (k + 1) H L) = H
    rw [List.getElem?_eq_none h]
theorem fl_in {n : Nat} {nbr : Nat → Nat → Bool} {z : Nat → Bool} {f k a : Nat} {H : Nat → Bool} {L : List Nat} (h : L[k]? = some a) : fl n nbr z (f + 1) k H L = if z a then fl n nbr z f (k + 1) (fHid (nbr a) H n) (L ++ fNew (nbr a) H n) else fl n nbr z f (k + 1) H L := by
  show (match L[k]? with
      | none => H
      | some a => if z a then fl n nbr z f (k + 1) (fHid (nbr a) H n) (L ++ fNew (nbr a) H n) else fl n nbr z f (k + 1) H L) = _
  rw [h]
theorem fNew_lt {nbA H : Nat → Bool} {k x : Nat} (h : x ∈ fNew nbA H k) : x < k ∧ nbA x = true ∧ H x = true := by
  unfold fNew at h
  simp at h
  exact h
/-- a flood only takes away, and only below n -/
theorem fl_sub {n : Nat} {nbr : Nat → Nat → Bool} {z : Nat → Bool} : ∀ (f k : Nat) (H : Nat → Bool) (L : List Nat) (x : Nat), (fl n nbr z f k H L x = true → H x = true) ∧ (n ≤ x → fl n nbr z f k H L x = H x)
  | 0, k, H, L, x => ⟨id, fun _ => rfl⟩
  | f + 1, k, H, L, x => by
    cases e : L[k]? with
    | none =>
      rw [fl_out (by simpa using e)]
      exact ⟨id, fun _ => rfl⟩
    | some a =>
      rw [fl_in e]
      split
      · obtain ⟨i1, i2⟩ := fl_sub f (k + 1) (fHid (nbr a) H n) (L ++ fNew (nbr a) H n) x
        refine ⟨fun q => ?_, fun q => ?_⟩
        · have := i1 q
          unfold fHid at this
          simp at this
          exact this.1
        · rw [i2 q]
          unfold fHid
          rw [decide_eq_false (by omega)]
          simp
      · exact fl_sub f (k + 1) H L x
