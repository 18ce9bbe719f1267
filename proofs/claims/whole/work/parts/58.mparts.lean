/-! the reference: finding the parts -/
def lbs (n : Nat) (nbr : Nat → Nat → Bool) (S : Nat → Bool) (l : Nat → Nat) : Prop := ∀ a, a < n → S a = true → l a ≤ a ∧ con n nbr S a (l a)
def smL (n : Nat) (S : Nat → Bool) (l : Nat → Nat) : Nat := fb_sm (fun a => if S a then l a else 0) n
theorem smL_lt {n : Nat} {S : Nat → Bool} {l l' : Nat → Nat} (h : ∀ a, a < n → S a = true → l' a ≤ l a) {x : Nat} (hx : x < n) (hS : S x = true) (hl : l' x < l x) : smL n S l' < smL n S l := by
  have h1 := fb_sm_upd (fun a => if S a then l' a else 0) (l x) (i := x) (n := n) hx
  have h2 : fb_sm (fun k => if k = x then l x else (if S k then l' k else 0)) n ≤ smL n S l := fb_sm_le (fun k hk => by
    by_cases e : k = x
    · rw [if_pos e, e, if_pos hS]; exact Nat.le_refl _
    · rw [if_neg e]
      cases e2 : S k
      · simp
      · simpa using h k hk e2)
  rw [if_pos hS] at h1
  unfold smL at *
  omega
theorem mpt_t {n : Nat} {S : Nat → Bool} {l : Nat → Nat} {I : tg_I} (h : mpt n S l I) {a : Nat} (ha : a < n) (hS : S a = true) : I 15 a = zI (l a : Nat) := by rw [h a ha, if_pos hS]
theorem mpt_f {n : Nat} {S : Nat → Bool} {l : Nat → Nat} {I : tg_I} (h : mpt n S l I) {a : Nat} (ha : a < n) (hS : S a = false) : I 15 a = -1 := by rw [h a ha, hS]; rfl
theorem mpt_cong {n : Nat} {S : Nat → Bool} {l l' : Nat → Nat} {I : tg_I} (h : mpt n S l I) (e : ∀ a, a < n → S a = true → l a = l' a) : mpt n S l' I := fun a ha => by
  rw [h a ha]
  cases q : S a
  · rfl
  · rw [if_pos rfl, if_pos rfl, e a ha q]
theorem mpt_upd {n : Nat} {S : Nat → Bool} {l l' : Nat → Nat} {I I' : tg_I} {k : Nat} {v : Int32} (h : mpt n S l I) (eI : I' = u2 I 15 k v) (hk : S k = true) (hv : v = zI (l' k : Nat)) (e : ∀ a, a < n → a ≠ k → S a = true → l a = l' a) : mpt n S l' I' := fun a ha => by
  rw [eI, u2_at]
  by_cases q : a = k
  · rw [if_pos q, q, if_pos hk, hv]
  · rw [if_neg q, h a ha]
    cases z : S a
    · rfl
    · rw [if_pos rfl, if_pos rfl, e a ha q z]
section MP
variable {I : tg_I} {J : tg_J} {P : Option Value → tg_I → tg_J → Prop} {w h sh : Nat} {M H B F : Nat → Bool}
def on15 (I I' : tg_I) : Prop := ∀ q, q ≠ 15 → I' q = I q
/-- the least label at an open cell -/
theorem fp79 (gk : gOk w h sh) (hm : mst w h sh M H B F I) {S : Nat → Bool} {l : Nat → Nat} (hl : mpt (w * h) S l I) (hl2 : ∀ a, a < w * h → S a = true → l a < 100) {o : Nat} (ho : o < w * h) {v1 : Int32}
    (hp : ∀ v : Nat, v ≤ 100 → (v = 100 ∨ ∃ b, b < w * h ∧ nb w h sh o b = true ∧ S b = true ∧ l b = v) → (∀ b, b < w * h → nb w h sh o b = true → S b = true → v ≤ l b) → l_X9_findParts_140 I J P v1 (zI o) (zI v) 0) : l_X9_findParts_79 I J P v1 (zI o) 100 0 := by
  obtain ⟨hn1, hn2⟩ := mul_le100 gk
  have key := up_loop (L := fun k => ∀ v : Nat, v ≤ 100 → (v = 100 ∨ ∃ b, b < k ∧ nb w h sh o b = true ∧ S b = true ∧ l b = v) → (∀ b, b < k → nb w h sh o b = true → S b = true → v ≤ l b) → l_X9_findParts_79 I J P v1 (zI o) (zI v) (zI k)) (w * h) ?_ ?_ 0 (Nat.zero_le _) 100 (by omega) (Or.inl rfl) (fun b hb => absurd hb (by omega))
  · exact key
  · intro v hv h1 h2
    exact s_X9_findParts_79 _ _ _ _ ⟨fun _ => hp v hv h1 h2, fun c => absurd (by rw [hm.1.2.2.2]; exact Int32.le_refl _) c⟩
  · intro k hk ih v hv h1 h2
    have h1' : v = 100 ∨ ∃ b, b < k + 1 ∧ nb w h sh o b = true ∧ S b = true ∧ l b = v := by
      rcases h1 with e | ⟨b, b1, b2⟩
      · exact Or.inl e
      · exact Or.inr ⟨b, by omega, b2⟩
    have h2' : (nb w h sh o k = true → S k = true → v ≤ l k) → ∀ b, b < k + 1 → nb w h sh o b = true → S b = true → v ≤ l b := fun q b hb => by
      by_cases e : b = k
      · rw [e]; exact q
      · exact h2 b (by omega)
    refine s_X9_findParts_79 _ _ _ _ ?_
    rw [hm.1.2.2.2, z_le (by omega) (by omega) (by omega) (by omega), z_in (by omega) (by omega), z_cl (by omega), z_s]
    refine ⟨fun c => absurd c (by omega), fun _ => mnear_ok gk hm ho hk ⟨_, rfl, ?_⟩⟩
    rw [bi_0]
    cases e : S k
    · rw [mpt_f hl hk e]
      refine ⟨fun c => ih v hv h1' (h2' (fun q => by rw [c] at q; cases q)), fun c => ⟨by omega, fun _ => ih v hv h1' (h2' (fun _ q => by rw [e] at q; cases q)), fun q => absurd (by decide) q⟩⟩
    · have hlk := hl2 k hk e
      rw [mpt_t hl hk e, show (0 : Int32) = zI 0 from rfl, z_lt (by omega) (by omega) (by omega) (by omega), z_le (by omega) (by omega) (by omega) (by omega)]
      refine ⟨fun c => ih v hv h1' (h2' (fun q => by rw [c] at q; cases q)), fun c => ⟨by omega, fun q => absurd q (by omega), fun _ => ⟨by omega, fun q => ih v hv h1' (h2' (fun _ _ => by omega)), fun q => ⟨by omega, fun x1 e1 => ?_⟩⟩⟩⟩
      rw [e1]
      refine ih (l k) (by omega) (Or.inr ⟨k, by omega, by simpa using c, e, rfl⟩) (fun b hb hb2 hb3 => ?_)
      by_cases e5 : b = k
      · rw [e5]; exact Nat.le_refl _
      · have := h2 b (by omega) hb2 hb3
        omega
/-- the labels at an open cell become the least -/
theorem fp140 {I0 : tg_I} (gk : gOk w h sh) (hm0 : mst w h sh M H B F I0) {S : Nat → Bool} {l : Nat → Nat} (o0 : on15 I0 I) (hl : mpt (w * h) S l I) (hl2 : ∀ a, a < w * h → S a = true → l a < 100) {o : Nat} (ho : o < w * h) (m : Bool) {v : Nat} (hv : v ≤ 100) (h2 : ∀ b, b < w * h → nb w h sh o b = true → S b = true → v ≤ l b)
    (hp : ∀ I' (m' : Bool), on15 I0 I' → mpt (w * h) S (fun b => if nb w h sh o b = true then v else l b) I' → (m' = true ↔ m = true ∨ ∃ b, b < w * h ∧ nb w h sh o b = true ∧ S b = true ∧ v < l b) → l_X9_findParts_55 I' J P (bi m') (zI ((o + 1 : Nat) : Int))) : l_X9_findParts_140 I J P (bi m) (zI o) (zI v) 0 := by
  obtain ⟨hn1, hn2⟩ := mul_le100 gk
  have key := up_loop (L := fun k => ∀ I1 (m1 : Bool), on15 I0 I1 → mpt (w * h) S (fun b => if b < k ∧ nb w h sh o b = true then v else l b) I1 → (m1 = true ↔ m = true ∨ ∃ b, b < k ∧ nb w h sh o b = true ∧ S b = true ∧ v < l b) → l_X9_findParts_140 I1 J P (bi m1) (zI o) (zI v) (zI k)) (w * h) ?_ ?_ 0 (Nat.zero_le _) I m o0 (mpt_cong hl (fun a ha _ => by rw [if_neg (fun q => absurd q.1 (by omega))])) ⟨fun q => Or.inl q, fun q => by rcases q with q | ⟨b, b1, -⟩; exact q; exact absurd b1 (by omega)⟩
  · exact key
  · intro I1 m1 o1 l1 e1
    refine s_X9_findParts_140 _ _ _ _ ⟨fun _ => ?_, fun c => absurd (by rw [o1 0 (by decide), hm0.1.2.2.2]; exact Int32.le_refl _) c⟩
    rw [z_s]
    refine hp I1 m1 o1 (mpt_cong l1 (fun a ha _ => ?_)) e1
    simp only [ha, true_and]
  · intro k hk ih I1 m1 o1 l1 e1
    have mm : mst w h sh M H B F I1 := mst_keep hm0 (fun q hq => o1 q (by omega))
    refine s_X9_findParts_140 _ _ _ _ ?_
    rw [mm.1.2.2.2, z_le (by omega) (by omega) (by omega) (by omega), z_in (by omega) (by omega), z_cl (by omega), z_s k]
    have stay : (nb w h sh o k = true → S k = true → l k = v) → l_X9_findParts_140 I1 J P (bi m1) (zI o) (zI v) (zI ((k + 1 : Nat) : Int)) := fun q => ih I1 m1 o1 (mpt_cong l1 (fun a ha hb => by
      by_cases e : a = k
      · subst e
        rw [if_neg (fun q => absurd q.1 (by omega))]
        by_cases e2 : nb w h sh o a = true
        · rw [if_pos ⟨by omega, e2⟩, q e2 hb]
        · rw [if_neg (fun q => e2 q.2)]
      · by_cases e2 : a < k ∧ nb w h sh o a = true
        · rw [if_pos e2, if_pos ⟨by omega, e2.2⟩]
        · rw [if_neg e2, if_neg (fun q => e2 ⟨by omega, q.2⟩)])) (by
      rw [e1]
      constructor
      · rintro (z | ⟨b, b1, b2⟩)
        · exact Or.inl z
        · exact Or.inr ⟨b, by omega, b2⟩
      · rintro (z | ⟨b, b1, b2, b3, b4⟩)
        · exact Or.inl z
        · by_cases e : b = k
          · subst e
            have := q b2 b3
            omega
          · exact Or.inr ⟨b, by omega, b2, b3, b4⟩)
    refine ⟨fun c => absurd c (by omega), fun _ => mnear_ok gk mm ho hk ⟨_, rfl, ?_⟩⟩
    rw [bi_0]
    cases e : S k
    · rw [mpt_f l1 hk e]
      refine ⟨fun c => stay (fun q => by rw [c] at q; cases q), fun c => ⟨by omega, fun _ => stay (fun _ q => by rw [e] at q; cases q), fun q => absurd ?_ q⟩⟩
      rw [show (-1 : Int32) = zI (-1) from rfl, z_le (by omega) (by omega) (by omega) (by omega)]
      omega
    · have hlk := hl2 k hk e
      rw [mpt_t l1 hk e, if_neg (fun q => absurd q.1 (by omega)), z_le (by omega) (by omega) (by omega) (by omega)]
      refine ⟨fun c => stay (fun q => by rw [c] at q; cases q), fun c => ⟨by omega, fun q => stay (fun a b => by have := h2 k hk a b; omega), fun q => ⟨by omega, fun I2 e2 => ?_⟩⟩⟩
      have hnk : nb w h sh o k = true := by simpa using c
      refine ih I2 true (fun q hq => by rw [e2, u2_other _ _ _ _ hq]; exact o1 q hq) (mpt_upd l1 e2 e ?_ (fun a ha e5 _ => ?_)) ⟨fun _ => Or.inr ⟨k, by omega, hnk, e, by omega⟩, fun _ => rfl⟩
      · rw [if_pos ⟨by omega, hnk⟩]
      · by_cases e6 : a < k ∧ nb w h sh o a = true
        · rw [if_pos e6, if_pos ⟨by omega, e6.2⟩]
        · rw [if_neg e6, if_neg (fun q => e6 ⟨by omega, q.2⟩)]
end MP
