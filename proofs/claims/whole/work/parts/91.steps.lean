/-! rules give what is true; one hint after another rule's verdicts -/
section ST
variable {w h sh : Nat} {M H B F K : Nat → Bool} {Y : Nat → Nat → Bool}
theorem nin_fre (hK : ∀ i, K i = true → H i = true) (a : Nat) : nin w h sh (fun i => H i && M i) a = nin w h sh (fun i => K i && M i) a + nin w h sh (fun i => fre H K i && M i) a := by
  unfold nin
  rw [← fb_ct_or (fun k _ q => by
    simp only [Bool.and_eq_true] at q
    unfold fre at q
    rw [q.1.2.1] at q; simp at q)]
  refine fb_ct_cong (fun k _ => ?_)
  unfold fre
  cases e : K k
  · simp [e]
  · simp [e, hK k e]
theorem dv_eq (ok : okS (w * h) M H B F) (hK : ∀ i, K i = true → H i = true) (a : Nat) : dv w h sh M B K a = (nin w h sh (fun i => fre H K i && M i) a : Nat) := by
  have h1 := nin_due (w := w) (h := h) (sh := sh) ok a
  have h2 := nin_fre (w := w) (h := h) (sh := sh) (M := M) hK a
  unfold dv
  omega
/-- among some cells none are mined, or all -/
theorem all_or {S : Nat → Bool} {n : Nat} (h : fb_ct (fun i => S i && M i) n = 0 ∨ fb_ct (fun i => S i && M i) n = fb_ct S n) (hp : 0 < fb_ct S n) : ∀ i, i < n → S i = true → M i = !decide (fb_ct (fun i => S i && M i) n = 0) := fun i hi hS => by
  rcases h with q | q
  · rw [decide_eq_true q]
    have := fb_ct_zero.mp q i hi
    rw [hS] at this
    simpa using this
  · rw [decide_eq_false (by omega)]
    cases e : M i
    · have := ct_strict (p := fun i => S i && M i) (q := S) (n := n) (fun k _ q => by simp at q; exact q.1) ⟨i, hi, hS, by rw [e, Bool.and_false]⟩
      omega
    · rfl
theorem stR_G (ok : okS (w * h) M H B F) (hK : ∀ i, K i = true → H i = true) {g kd : Nat} {G : Nat → Bool} {v : Bool} {W : Nat → Bool} (hs : stR w h sh M H B K Y g kd G v W) : (∀ i, G i = true → i < w * h ∧ fre H K i = true ∧ M i = v) ∧ (∃ i, i < w * h ∧ G i = true) ∧ 1 ≤ kd ∧ kd ≤ 3 := by
  rcases hs with ⟨rfl, a, ha, hr, -, rfl, rfl, -⟩ | ⟨rfl, -, -, a, b, ha, hb, hr, -, -, rfl, rfl, -⟩ | ⟨rfl, -, -, -, -, a, ha, hf, -, -, rfl, rfl, -⟩
  · have hd := dv_eq (w := w) (h := h) (sh := sh) ok hK a
    obtain ⟨h1, h2, h3⟩ := hr
    have e : fb_ct (fun i => (nb w h sh a i && fre H K i) && M i) (w * h) = nin w h sh (fun i => fre H K i && M i) a := fb_ct_cong (fun i _ => by cases nb w h sh a i <;> rfl)
    have key := all_or (M := M) (S := fun i => nb w h sh a i && fre H K i) (n := w * h) (by rw [e]; show _ ∨ _ = nin w h sh (fre H K) a; omega) h2
    refine ⟨fun i hi => ?_, fb_ct_pos.mp h2, by omega, by omega⟩
    have hi2 : fre H K i = true := by simp only [Bool.and_eq_true] at hi; exact hi.2
    have hin := fre_lt ok hi2
    refine ⟨hin, hi2, ?_⟩
    rw [key i hin hi, e]
    congr 1
    exact decide_eq_decide.mpr (by omega)
  · have hda := dv_eq (w := w) (h := h) (sh := sh) ok hK a
    have hdb := dv_eq (w := w) (h := h) (sh := sh) ok hK b
    obtain ⟨h1, h2, h3, h4, h5, h6⟩ := hr
    have cnt : ∀ S : Nat → Bool, nin w h sh (fun i => fre H K i && S i) b = fb_ct (fun i => ((nb w h sh b i && fre H K i) && !(nb w h sh a i && fre H K i)) && S i) (w * h) + nin w h sh (fun i => fre H K i && S i) a := fun S => by
      unfold nin
      rw [← fb_ct_or (fun k _ q => by
        simp only [Bool.and_eq_true, Bool.not_eq_true'] at q
        have := q.1.1.2
        rw [q.2.1, q.2.2.1] at this; cases this)]
      refine fb_ct_cong (fun k hk => ?_)
      cases q1 : fre H K k
      · simp [q1]
      · cases q2 : nb w h sh a k
        · simp [q1]
        · simp [q1, h5 k hk q2 q1]
    have c1 := cnt M
    have c2 := cnt (fun _ => true)
    have e1 : ∀ x, nin w h sh (fun i => fre H K i && true) x = nin w h sh (fre H K) x := fun x => nin_cong (fun i _ => Bool.and_true _)
    rw [e1, e1] at c2
    have e2 : fb_ct (fun i => ((nb w h sh b i && fre H K i) && !(nb w h sh a i && fre H K i)) && true) (w * h) = fb_ct (fun i => (nb w h sh b i && fre H K i) && !(nb w h sh a i && fre H K i)) (w * h) := fb_ct_cong (fun i _ => Bool.and_true _)
    rw [e2] at c2
    have key := all_or (M := M) (S := fun i => (nb w h sh b i && fre H K i) && !(nb w h sh a i && fre H K i)) (n := w * h) (by omega) (by omega)
    refine ⟨fun i hi => ?_, fb_ct_pos.mp (by omega), by omega, by omega⟩
    have hi2 : fre H K i = true := by simp only [Bool.and_eq_true] at hi; exact hi.1.2
    have hin := fre_lt ok hi2
    refine ⟨hin, hi2, ?_⟩
    rw [key i hin hi]
    congr 1
    exact decide_eq_decide.mpr (by omega)
  · refine ⟨fun i hi => ?_, ⟨a, ha, by simp⟩, by omega, by omega⟩
    have := of_decide_eq_true hi
    rw [this]
    exact ⟨ha, hf, rfl⟩
theorem stR_W (gk : gOk w h sh) (hY : ∀ x k, K x = true → Y x k = true → k ≤ 100) {g kd : Nat} {G : Nat → Bool} {v : Bool} {W : Nat → Bool} (hs : stR w h sh M H B K Y g kd G v W) : ∀ k, W k = true → k ≤ 100 := by
  obtain ⟨hn1, hn2⟩ := mul_le100 gk
  have hb : ∀ a, a < w * h → ∀ k, bcs (nb w h sh a) K Y a (w * h) k = true → k ≤ 100 := fun a ha k q => by
    unfold bcs at q
    simp only [Bool.or_eq_true, decide_eq_true_eq] at q
    rcases q with q | ⟨x, -, -, q1, q2⟩
    · omega
    · exact hY x k q1 q2
  rcases hs with ⟨-, a, ha, -, -, -, -, rfl⟩ | ⟨-, -, -, a, b, ha, hb2, -, -, -, -, -, rfl⟩ | ⟨-, -, -, -, -, a, ha, -, -, -, -, -, rfl⟩
  · exact hb a ha
  · intro k q
    simp only [Bool.or_eq_true] at q
    rcases q with q | q
    · exact hb a ha k q
    · exact hb b hb2 k q
  · intro k q
    unfold w3 at q
    simp only [Bool.or_eq_true, Bool.and_eq_true, decide_eq_true_eq] at q
    omega
theorem one_of {p : Nat → Prop} {i j : Nat} (hi : p i) (hi2 : ∀ k, k < i → ¬ p k) (hj : p j) (hj2 : ∀ k, k < j → ¬ p k) : i = j := fb_first_one hi hi2 hj hj2
theorem stR_det {g kd kd' : Nat} {G G' : Nat → Bool} {v v' : Bool} {W W' : Nat → Bool} (h1 : stR w h sh M H B K Y g kd G v W) (h2 : stR w h sh M H B K Y g kd' G' v' W') : kd = kd' ∧ G = G' ∧ v = v' ∧ W = W' := by
  rcases h1 with ⟨rfl, a, ha, hr, hf, rfl, rfl, rfl⟩ | ⟨rfl, g2, n1, a, b, ha, hb, hr, hf, hf2, rfl, rfl, rfl⟩ | ⟨rfl, g3, n1, n2, hg, a, ha, hfr, hr, hf, rfl, rfl, rfl⟩
  · rcases h2 with ⟨rfl, a', ha', hr', hf', rfl, rfl, rfl⟩ | ⟨rfl, g2', n1', -⟩ | ⟨rfl, g3', n1', -⟩
    · have := one_of hr hf hr' hf'
      subst this
      exact ⟨rfl, rfl, rfl, rfl⟩
    · exact absurd hr (n1' a ha)
    · exact absurd hr (n1' a ha)
  · rcases h2 with ⟨rfl, a', ha', hr', hf', rfl, rfl, rfl⟩ | ⟨rfl, g2', n1', a', b', ha', hb', hr', hf', hf2', rfl, rfl, rfl⟩ | ⟨rfl, g3', n1', n2', -⟩
    · exact absurd hr' (n1 a' ha')
    · have e : a = a' := by
        rcases Nat.lt_trichotomy a a' with q | q | q
        · exact absurd hr (hf' a b q hb)
        · exact q
        · exact absurd hr' (hf a' b' q hb')
      subst e
      have := one_of (p := fun b => r2ok w h sh M H B K a b) hr hf2 hr' hf2'
      subst this
      exact ⟨rfl, rfl, rfl, rfl⟩
    · exact absurd hr (n2' a b ha hb)
  · rcases h2 with ⟨rfl, a', ha', hr', hf', rfl, rfl, rfl⟩ | ⟨rfl, g2', n1', a', b', ha', hb', hr', hf', hf2', rfl, rfl, rfl⟩ | ⟨rfl, g3', n1', n2', hg', a', ha', hfr', hr', hf', rfl, rfl, rfl⟩
    · exact absurd hr' (n1 a' ha')
    · exact absurd hr' (n2 a' b' ha' hb')
    · have e : a = a' := by
        rcases Nat.lt_trichotomy a a' with q | q | q
        · exact absurd hr (hf' a q hfr)
        · exact q
        · exact absurd hr' (hf a' q hfr')
      subst e
      exact ⟨rfl, rfl, rfl, rfl⟩
theorem stR_stN {g kd : Nat} {G : Nat → Bool} {v : Bool} {W : Nat → Bool} (h1 : stR w h sh M H B K Y g kd G v W) (h2 : stN w h sh M H B K g) : False := by
  obtain ⟨n1, n2, n3⟩ := h2
  rcases h1 with ⟨-, a, ha, hr, -⟩ | ⟨-, g2, -, a, b, ha, hb, hr, -⟩ | ⟨-, g3, -, -, hg, a, ha, hfr, hr, -⟩
  · exact n1 a ha hr
  · exact n2 g2 a b ha hb hr
  · rcases n3 g3 with q | q
    · rw [hg] at q; cases q
    · exact q a ha hfr hr
/-- a hint: rule, cell, verdict, reasons; or none -/
def hR (w h sh : Nat) (M H B F : Nat → Bool) (g : Nat) : Nat → (Nat → Bool) → (Nat → Nat → Bool) → Option (Nat × Nat × Bool × (Nat → Bool)) → Prop
  | 0, _, _, _ => False
  | f + 1, K, Y, r => (stN w h sh M H B K g ∧ r = none) ∨ ∃ kd G v W, stR w h sh M H B K Y g kd G v W ∧ ((∃ c, c < w * h ∧ isN F G v c ∧ (∀ c', c' < c → ¬ isN F G v c') ∧ r = some (kd, c, v, W)) ∨ ((∀ c, c < w * h → ¬ isN F G v c) ∧ hR w h sh M H B F g f (kAdd K G) (yAdd Y G W) r))
theorem hR_det {g : Nat} : ∀ (f f' : Nat) (K : Nat → Bool) (Y : Nat → Nat → Bool) (r r' : Option (Nat × Nat × Bool × (Nat → Bool))), hR w h sh M H B F g f K Y r → hR w h sh M H B F g f' K Y r' → r = r'
  | 0, _, _, _, _, _, h1, _ => h1.elim
  | _ + 1, 0, _, _, _, _, _, h2 => h2.elim
  | f + 1, f' + 1, K, Y, r, r', h1, h2 => by
    rcases h1 with ⟨a1, rfl⟩ | ⟨kd, G, v, W, s1, t1⟩
    · rcases h2 with ⟨a2, rfl⟩ | ⟨kd', G', v', W', s2, t2⟩
      · rfl
      · exact (stR_stN s2 a1).elim
    · rcases h2 with ⟨a2, rfl⟩ | ⟨kd', G', v', W', s2, t2⟩
      · exact (stR_stN s1 a2).elim
      · obtain ⟨rfl, rfl, rfl, rfl⟩ := stR_det s1 s2
        rcases t1 with ⟨c, c1, c2, c3, rfl⟩ | ⟨n1, t1⟩
        · rcases t2 with ⟨c', c1', c2', c3', rfl⟩ | ⟨n2, t2⟩
          · rw [one_of c2 c3 c2' c3']
          · exact absurd c2 (n2 c c1)
        · rcases t2 with ⟨c', c1', c2', c3', rfl⟩ | ⟨n2, t2⟩
          · exact absurd c2' (n1 c' c1')
          · exact hR_det f f' _ _ r r' t1 t2
theorem kAdd_ct {G : Nat → Bool} {n : Nat} (h1 : ∀ i, G i = true → K i = false) (h2 : ∃ i, i < n ∧ G i = true) : fb_ct K n < fb_ct (kAdd K G) n := ct_strict (fun k _ q => by unfold kAdd; rw [q]; rfl) (by
  obtain ⟨i, i1, i2⟩ := h2
  exact ⟨i, i1, by unfold kAdd; rw [i2, Bool.or_true], h1 i i2⟩)
end ST
