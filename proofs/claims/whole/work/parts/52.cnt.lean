/-! counting what fits -/
def upb (f : Nat → Bool) (c : Nat) (v : Bool) : Nat → Bool := fun x => if x = c then v else f x
theorem upb_comm (f : Nat → Bool) {c d : Nat} (u v : Bool) (h : c ≠ d) : upb (upb f c u) d v = upb (upb f d v) c u := by
  funext x
  unfold upb
  by_cases e : x = d
  · rw [if_pos e, if_neg (by omega), if_pos e]
  · rw [if_neg e]
    by_cases e2 : x = c
    · rw [if_pos e2, if_pos e2]
    · rw [if_neg e2, if_neg e2, if_neg e]
def cnt (P : (Nat → Bool) → Bool) : List Nat → (Nat → Bool) → Nat
  | [], f => if P f then 1 else 0
  | c :: L, f => cnt P L (upb f c false) + cnt P L (upb f c true)
theorem cnt_perm {P : (Nat → Bool) → Bool} {L L' : List Nat} (h : L.Perm L') : ∀ f, cnt P L f = cnt P L' f := by
  induction h with
  | nil => intro f; rfl
  | cons x _ ih =>
    intro f
    show cnt P _ _ + cnt P _ _ = cnt P _ _ + cnt P _ _
    rw [ih, ih]
  | swap x y l =>
    intro f
    show cnt P l (upb (upb f y false) x false) + cnt P l (upb (upb f y false) x true) + (cnt P l (upb (upb f y true) x false) + cnt P l (upb (upb f y true) x true)) = cnt P l (upb (upb f x false) y false) + cnt P l (upb (upb f x false) y true) + (cnt P l (upb (upb f x true) y false) + cnt P l (upb (upb f x true) y true))
    by_cases e : x = y
    · rw [e]
    · rw [upb_comm f false false (show y ≠ x from fun q => e q.symm), upb_comm f false true (show y ≠ x from fun q => e q.symm), upb_comm f true false (show y ≠ x from fun q => e q.symm), upb_comm f true true (show y ≠ x from fun q => e q.symm)]
      omega
  | trans _ _ ih1 ih2 => intro f; rw [ih1, ih2]
theorem upb_off {f : Nat → Bool} {c : Nat} {v : Bool} {L : List Nat} {g : Nat → Bool} (h : ∀ x, x ∉ L → g x = upb f c v x) : ∀ x, x ∉ c :: L → g x = f x := fun x hx => by
  have h1 : x ≠ c := fun e => hx (by rw [e]; exact List.mem_cons_self)
  have h2 : x ∉ L := fun e => hx (List.mem_cons_of_mem _ e)
  rw [h x h2]
  unfold upb
  rw [if_neg h1]
theorem cnt_cong {P P' : (Nat → Bool) → Bool} : ∀ (L : List Nat) (f : Nat → Bool), (∀ g, (∀ x, x ∉ L → g x = f x) → P g = P' g) → cnt P L f = cnt P' L f
  | [], f, h => by show (if P f then 1 else 0) = (if P' f then 1 else 0); rw [h f (fun _ _ => rfl)]
  | c :: L, f, h => by
    show cnt P L _ + cnt P L _ = cnt P' L _ + cnt P' L _
    rw [cnt_cong L _ (fun g hg => h g (upb_off hg)), cnt_cong L _ (fun g hg => h g (upb_off hg))]
theorem cnt_0 {P : (Nat → Bool) → Bool} : ∀ (L : List Nat) (f : Nat → Bool), (∀ g, (∀ x, x ∉ L → g x = f x) → P g = false) → cnt P L f = 0
  | [], f, h => by show (if P f then 1 else 0) = 0; rw [h f (fun _ _ => rfl)]; rfl
  | c :: L, f, h => by
    show cnt P L _ + cnt P L _ = 0
    rw [cnt_0 L _ (fun g hg => h g (upb_off hg)), cnt_0 L _ (fun g hg => h g (upb_off hg))]
theorem cnt_pos {P : (Nat → Bool) → Bool} : ∀ (L : List Nat) (f : Nat → Bool), 0 < cnt P L f ↔ ∃ g, (∀ x, x ∉ L → g x = f x) ∧ P g = true
  | [], f => by
    show 0 < (if P f then 1 else 0) ↔ _
    constructor
    · intro h
      cases e : P f
      · rw [e] at h; exact absurd h (by decide)
      · exact ⟨f, fun _ _ => rfl, e⟩
    · rintro ⟨g, g1, g2⟩
      rw [show g = f from funext fun x => g1 x (by simp)] at g2
      rw [g2]; decide
  | c :: L, f => by
    have a := cnt_pos (P := P) L (upb f c false)
    have b := cnt_pos (P := P) L (upb f c true)
    show 0 < cnt P L _ + cnt P L _ ↔ _
    constructor
    · intro h
      have : 0 < cnt P L (upb f c false) ∨ 0 < cnt P L (upb f c true) := by omega
      rcases this with q | q
      · obtain ⟨g, g1, g2⟩ := a.mp q
        exact ⟨g, upb_off g1, g2⟩
      · obtain ⟨g, g1, g2⟩ := b.mp q
        exact ⟨g, upb_off g1, g2⟩
    · rintro ⟨g, g1, g2⟩
      have key : ∀ v, g c = v → ∀ x, x ∉ L → g x = upb f c v x := fun v hv x hx => by
        unfold upb
        by_cases e : x = c
        · rw [if_pos e, e, hv]
        · rw [if_neg e]
          exact g1 x (fun q => by rcases List.mem_cons.mp q with z | z; exact e z; exact hx z)
      cases e : g c
      · have := a.mpr ⟨g, key false e, g2⟩
        omega
      · have := b.mpr ⟨g, key true e, g2⟩
        omega
theorem cnt_le {P : (Nat → Bool) → Bool} : ∀ (L : List Nat) (f : Nat → Bool), cnt P L f ≤ 2 ^ L.length
  | [], f => by show (if P f then 1 else 0) ≤ _; split <;> simp
  | c :: L, f => by
    have a := cnt_le (P := P) L (upb f c false)
    have b := cnt_le (P := P) L (upb f c true)
    show cnt P L _ + cnt P L _ ≤ 2 ^ (L.length + 1)
    rw [Nat.pow_succ]
    omega
theorem cnt_mono {P P' : (Nat → Bool) → Bool} (h : ∀ g, P g = true → P' g = true) : ∀ (L : List Nat) (f : Nat → Bool), cnt P L f ≤ cnt P' L f
  | [], f => by
    show (if P f then 1 else 0) ≤ (if P' f then 1 else 0)
    cases e : P f
    · simp
    · rw [h f e]; exact Nat.le_refl _
  | c :: L, f => by
    have a := cnt_mono h L (upb f c false)
    have b := cnt_mono h L (upb f c true)
    show cnt P L _ + cnt P L _ ≤ cnt P' L _ + cnt P' L _
    omega
theorem cnt_add {P P' Q : (Nat → Bool) → Bool} (h : ∀ g, (if Q g then 1 else 0) = (if P g then 1 else 0) + (if P' g then (1 : Nat) else 0)) : ∀ (L : List Nat) (f : Nat → Bool), cnt Q L f = cnt P L f + cnt P' L f
  | [], f => h f
  | c :: L, f => by
    have a := cnt_add h L (upb f c false)
    have b := cnt_add h L (upb f c true)
    show cnt Q L _ + cnt Q L _ = cnt P L _ + cnt P L _ + (cnt P' L _ + cnt P' L _)
    omega
/-- the same, where what can't fit is left at once -/
def pcn (ok : Nat → (Nat → Bool) → Bool) (Q : (Nat → Bool) → Bool) : Nat → List Nat → (Nat → Bool) → Nat
  | _, [], f => if Q f then 1 else 0
  | k, c :: L, f => (if ok (k + 1) (upb f c false) then pcn ok Q (k + 1) L (upb f c false) else 0) + (if ok (k + 1) (upb f c true) then pcn ok Q (k + 1) L (upb f c true) else 0)
theorem pcn_cnt {ok : Nat → (Nat → Bool) → Bool} {Q : (Nat → Bool) → Bool} : ∀ (L pre : List Nat) (k : Nat) (f : Nat → Bool), pre.length = k → (pre ++ L).Nodup → (∀ j g g', (∀ x, x ∈ (pre ++ L).take j → g x = g' x) → ok j g = ok j g') → pcn ok Q k L f = cnt (fun g => Q g && decide (∀ j, j < L.length → ok (k + 1 + j) g = true)) L f
  | [], pre, k, f, hk, hn, ho => by
    show (if Q f then 1 else 0) = (if (Q f && decide (∀ j, j < ([] : List Nat).length → ok (k + 1 + j) f = true)) then 1 else 0)
    rw [decide_eq_true (fun j hj => absurd hj (by simp)), Bool.and_true]
  | c :: L, pre, k, f, hk, hn, ho => by
    have e : pre ++ c :: L = (pre ++ [c]) ++ L := by simp
    have one : ∀ v, (if ok (k + 1) (upb f c v) then pcn ok Q (k + 1) L (upb f c v) else 0) = cnt (fun g => Q g && decide (∀ j, j < (c :: L).length → ok (k + 1 + j) g = true)) L (upb f c v) := fun v => by
      have hsame : ∀ g, (∀ x, x ∉ L → g x = upb f c v x) → ok (k + 1) g = ok (k + 1) (upb f c v) := fun g hg => ho (k + 1) g _ (fun x hx => hg x (fun hxL => by
        rw [e, List.take_append_of_le_length (by simp [hk])] at hx
        have hx2 := List.mem_of_mem_take hx
        rw [e] at hn
        exact (List.nodup_append.mp hn).2.2 x hx2 x hxL rfl))
      have alls : ∀ g, (∀ j, j < (c :: L).length → ok (k + 1 + j) g = true) ↔ ok (k + 1) g = true ∧ ∀ j, j < L.length → ok (k + 1 + 1 + j) g = true := fun g => by
        constructor
        · intro q
          refine ⟨q 0 (by simp), fun j hj => ?_⟩
          have := q (j + 1) (by simp; omega)
          rw [show k + 1 + (j + 1) = k + 1 + 1 + j by omega] at this
          exact this
        · rintro ⟨q1, q2⟩ j hj
          cases j with
          | zero => exact q1
          | succ j =>
            rw [show k + 1 + (j + 1) = k + 1 + 1 + j by omega]
            exact q2 j (by simp at hj; omega)
      cases hk1 : ok (k + 1) (upb f c v)
      · rw [if_neg (by simp)]
        symm
        refine cnt_0 L _ (fun g hg => ?_)
        rw [decide_eq_false (fun q => ?_), Bool.and_false]
        have := ((alls g).mp q).1
        rw [hsame g hg, hk1] at this
        cases this
      · rw [if_pos rfl, pcn_cnt L (pre ++ [c]) (k + 1) (upb f c v) (by simp [hk]) (by rw [← e]; exact hn) (by rw [← e]; exact ho)]
        refine cnt_cong L _ (fun g hg => ?_)
        congr 1
        apply decide_eq_decide.mpr
        rw [alls g, hsame g hg, hk1]
        simp
    show _ + _ = cnt _ L _ + cnt _ L _
    rw [one false, one true]
