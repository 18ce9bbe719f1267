/-! what a flood takes: what hangs together, all of it and no more -/
theorem fl_clo {n : Nat} {nbr : Nat → Nat → Bool} {z H0 : Nat → Bool} {C : Nat → Prop} (hc : ∀ a y, C a → z a = true → nbr a y = true → y < n → H0 y = true → C y) : ∀ (f k : Nat) (H : Nat → Bool) (L : List Nat), (∀ x, x ∈ L → C x) → (∀ i, H i = true → H0 i = true) → ∀ x, H x = true → fl n nbr z f k H L x = false → C x
  | 0, k, H, L, hL, hH, x, h1, h2 => by rw [show fl n nbr z 0 k H L = H from rfl, h1] at h2; cases h2
  | f + 1, k, H, L, hL, hH, x, h1, h2 => by
    cases e : L[k]? with
    | none =>
      rw [fl_out (by simpa using e), h1] at h2
      cases h2
    | some a =>
      have ha := hL a (List.mem_of_getElem? e)
      rw [fl_in e] at h2
      by_cases hz : z a = true
      · rw [if_pos hz] at h2
        have hnew : ∀ y, y ∈ fNew (nbr a) H n → C y := fun y hy => by
          obtain ⟨y1, y2, y3⟩ := fNew_lt hy
          exact hc a y ha hz y2 y1 (hH y y3)
        cases e2 : fHid (nbr a) H n x
        · unfold fHid at e2
          rw [h1] at e2
          simp at e2
          exact hc a x ha hz e2.2 e2.1 (hH x h1)
        · exact fl_clo hc f (k + 1) _ _ (fun y hy => by
            rcases List.mem_append.mp hy with q | q
            · exact hL y q
            · exact hnew y q) (fun i hi => hH i (fHid_le hi)) x e2 h2
      · rw [if_neg hz] at h2
        exact fl_clo hc f (k + 1) H L hL hH x h1 h2
theorem fl_done {n : Nat} {nbr : Nat → Nat → Bool} {z : Nat → Bool} : ∀ (f k : Nat) (H : Nat → Bool) (L : List Nat), f + k = n → fb_ct H n + L.length ≤ n → (∀ (j x : Nat), j < k → L[j]? = some x → z x = true → ∀ y, y < n → nbr x y = true → H y = false) → ∀ x, (x ∈ L ∨ (H x = true ∧ fl n nbr z f k H L x = false)) → z x = true → ∀ y, y < n → nbr x y = true → fl n nbr z f k H L y = false
  | 0, k, H, L, hk, hl, hd, x, hx, hz, y, hy, hn => by
    show H y = false
    rcases hx with hx | ⟨h1, h2⟩
    · obtain ⟨j, hj⟩ := List.getElem?_of_mem hx
      have : j < L.length := (List.getElem?_eq_some_iff.mp hj).1
      exact hd j x (by omega) hj hz y hy hn
    · rw [show fl n nbr z 0 k H L = H from rfl, h1] at h2; cases h2
  | f + 1, k, H, L, hk, hl, hd, x, hx, hz, y, hy, hn => by
    cases e : L[k]? with
    | none =>
      have hlen : L.length ≤ k := by simpa using e
      rw [fl_out hlen] at hx ⊢
      rcases hx with hx | ⟨h1, h2⟩
      · obtain ⟨j, hj⟩ := List.getElem?_of_mem hx
        have : j < L.length := (List.getElem?_eq_some_iff.mp hj).1
        exact hd j x (by omega) hj hz y hy hn
      · rw [h1] at h2; cases h2
    | some a =>
      rw [fl_in e] at hx ⊢
      have hkl : k < L.length := (List.getElem?_eq_some_iff.mp e).1
      by_cases hza : z a = true
      · rw [if_pos hza] at hx ⊢
        refine fl_done f (k + 1) _ _ (by omega) ?_ ?_ x ?_ hz y hy hn
        · have := fHid_ct (nbr a) H n n (Nat.le_refl _)
          rw [List.length_append]
          omega
        · intro j x' hj hjx hz' y' hy' hn'
          rw [List.getElem?_append_left (by omega)] at hjx
          by_cases q : j = k
          · rw [q, e] at hjx
            cases hjx
            unfold fHid
            rw [hn', decide_eq_true hy']
            simp
          · have := hd j x' (by omega) hjx hz' y' hy' hn'
            unfold fHid
            rw [this]
            rfl
        · rcases hx with hx | ⟨h1, h2⟩
          · exact Or.inl (List.mem_append_left _ hx)
          · cases e2 : fHid (nbr a) H n x
            · left
              refine List.mem_append_right _ ?_
              unfold fHid at e2
              rw [h1] at e2
              simp at e2
              unfold fNew
              simp [h1, e2]
            · exact Or.inr ⟨rfl, h2⟩
      · rw [if_neg hza] at hx ⊢
        refine fl_done f (k + 1) H L (by omega) hl ?_ x hx hz y hy hn
        intro j x' hj hjx hz' y' hy' hn'
        by_cases q : j = k
        · rw [q, e] at hjx
          cases hjx
          exact absurd hz' hza
        · exact hd j x' (by omega) hjx hz' y' hy' hn'
theorem ct_take {H : Nat → Bool} {a n : Nat} (ha : a < n) (hH : H a = true) : fb_ct (fun x => H x && !decide (x = a)) n + [a].length ≤ n := by
  have u := fb_ct_upd H false (i := a) (n := n) ha
  rw [hH, if_pos rfl, if_neg Bool.false_ne_true] at u
  have e : (fun i => H i && !decide (i = a)) = fun k => if k = a then false else H k := by
    funext i
    by_cases q : i = a <;> simp [q]
  have hle := fb_ct_le H n
  rw [e]
  simp only [List.length_cons, List.length_nil]
  omega
/-- what is taken is in every closed set that has the start -/
theorem flood_clo {n : Nat} {nbr : Nat → Nat → Bool} {z H : Nat → Bool} {c : Nat} {C : Nat → Prop} (h0 : C c) (hc : ∀ a y, C a → z a = true → nbr a y = true → y < n → H y = true → C y) {x : Nat} (h1 : H x = true) (h2 : flood n nbr z c H x = false) : C x := by
  by_cases e : x = c
  · rw [e]; exact h0
  · refine fl_clo (H0 := H) hc n 0 (fun x => H x && !decide (x = c)) [c] (fun y hy => by simp at hy; rw [hy]; exact h0) (fun i hi => by simp at hi; exact hi.1) x (by simp [h1, e]) h2
/-- around a cell that was taken, and is to be gone on from, nothing is left -/
theorem flood_done {n : Nat} {nbr : Nat → Nat → Bool} {z H : Nat → Bool} {c : Nat} (hcn : c < n) (hH : H c = true) {x : Nat} (h1 : H x = true) (h2 : flood n nbr z c H x = false) (hz : z x = true) {y : Nat} (hy : y < n) (hn : nbr x y = true) : flood n nbr z c H y = false := by
  refine fl_done n 0 (fun x => H x && !decide (x = c)) [c] (by omega) (ct_take hcn hH) (fun j x hj => absurd hj (by omega)) x ?_ hz y hy hn
  by_cases e : x = c
  · exact Or.inl (by rw [e]; simp)
  · exact Or.inr ⟨by simp [h1, e], h2⟩
theorem flood_self {n : Nat} {nbr : Nat → Nat → Bool} {z H : Nat → Bool} {c : Nat} : flood n nbr z c H c = false := by
  cases e : flood n nbr z c H c
  · rfl
  · exact absurd rfl (flood_sub e).2
/-- a flood that goes on everywhere takes what hangs together with its start -/
theorem flood_con {n : Nat} {nbr : Nat → Nat → Bool} {H : Nat → Bool} {c : Nat} (hH : ∀ i, H i = true → i < n) (hc : H c = true) (x : Nat) : flood n nbr (fun _ => true) c H x = true ↔ H x = true ∧ ¬ con n nbr H c x := by
  have hcn := hH c hc
  constructor
  · intro hx
    refine ⟨(flood_sub hx).1, fun q => ?_⟩
    have key := rch_closed (n := n) (nbr := nbr) (S := H) (a := c) (C := fun x => H x = true ∧ flood n nbr (fun _ => true) c H x = false) ⟨hc, flood_self⟩ (fun a y ha h hn hy => ⟨hy, flood_done hcn hc h.1 h.2 rfl (hH y hy) hn⟩) n x q
    rw [hx] at key
    cases key.2
  · rintro ⟨h1, h2⟩
    cases e : flood n nbr (fun _ => true) c H x
    · exfalso
      apply h2
      refine flood_clo (C := fun x => x < n ∧ con n nbr H c x) ⟨hcn, con_refl⟩ (fun a y h _ hn hy hs => ⟨hy, con_step hcn h.1 hy h.2 hn hs⟩) h1 e |>.2
    · rfl
