/-! the reference: the parts are numbered -/
def ltl (d pt : Nat → Nat) (a b : Nat) : Nat := if d b < a then 1000 + pt b else d b
def kp26 (I0 I : tg_I) : Prop := (∀ q, q ≠ 0 → q ≠ 15 → I q = I0 q) ∧ ∀ x, x ≠ 26 → x ≠ 27 → I 0 x = I0 0 x
/-- all parts are short enough -/
def gdp (w h sh : Nat) (H N : Nat → Bool) (k : Nat) : Bool := decide (∀ p, p < k → (pL (w * h) (bdr w h sh H N) (ptn w h sh H N) p).length ≤ 12)
theorem pL_ct (n : Nat) (Bd : Nat → Bool) (pt : Nat → Nat) (p : Nat) : (pL n Bd pt p).length = fb_ct (fun a => Bd a && decide (pt a = p)) n := by
  induction n with
  | zero => rfl
  | succ n ih =>
    rw [pL_s, List.length_append, ih, fb_ct_succ]
    cases (Bd n && decide (pt n = p)) <;> rfl
theorem mpt_updf {n : Nat} {S : Nat → Bool} {l l' : Nat → Nat} {I I' : tg_I} {k : Nat} {v : Int32} (h : mpt n S l I) (eI : I' = u2 I 15 k v) (hk : S k = false) (hv : v = -1) (e : ∀ a, a < n → a ≠ k → S a = true → l a = l' a) : mpt n S l' I' := fun a ha => by
  rw [eI, u2_at]
  by_cases q : a = k
  · rw [if_pos q, q, hk, hv]; rfl
  · rw [if_neg q, h a ha]
    cases z : S a
    · rfl
    · rw [if_pos rfl, if_pos rfl, e a ha q z]
section MP3
variable {I : tg_I} {J : tg_J} {P : Option Value → tg_I → tg_J → Prop} {n : Nat} {S : Nat → Bool} {d pt : Nat → Nat}
theorem ltl_a (hn : n ≤ 100) {a b : Nat} (ha : a < n) : ltl d pt a b = a ↔ d b = a := by
  unfold ltl
  by_cases e : d b < a
  · rw [if_pos e]; omega
  · rw [if_neg e]
theorem ltl_sm (hd : ∀ b, b < n → S b = true → d b ≤ b) (hpt : ∀ b, b < n → S b = true → pt b < 100) {a b : Nat} (hb : b < n) (hS : S b = true) (hn : n ≤ 100) : ltl d pt a b < 2000 := by
  have := hd b hb hS
  have := hpt b hb hS
  unfold ltl
  by_cases e : d b < a
  · rw [if_pos e]; omega
  · rw [if_neg e]; omega
theorem fp265 (hn : n ≤ 100) (h3 : I 0 3 = zI n) (hd : ∀ b, b < n → S b = true → d b ≤ b) (hpt : ∀ b, b < n → S b = true → pt b < 100) {a : Nat} (ha : a < n) (hl : mpt n S (ltl d pt a) I) (g : Bool) (hp : l_X9_findParts_326 I J P (bi (g && decide (fb_ct (fun b => S b && decide (d b = a)) n ≤ 12))) (zI a) (zI ((n : Int) - 1))) : l_X9_findParts_265 I J P (bi g) (zI a) 0 0 := by
  have key := up_loop (L := fun k => l_X9_findParts_265 I J P (bi g) (zI a) (zI (fb_ct (fun b => S b && decide (d b = a)) k : Nat)) (zI k)) n ?_ ?_ 0 (Nat.zero_le _)
  · exact key
  · have hle := fb_ct_le (fun b => S b && decide (d b = a)) n
    refine s_X9_findParts_265 _ _ _ _ ?_
    rw [h3, bi_0, show (12 : Int32) = zI (12 : Nat) from rfl, z_lt (by omega) (by omega) (by omega) (by omega), show zI n - (1 : Int32) = zI ((n : Int) - 1) by rw [show (1 : Int32) = zI 1 from rfl, z_sub]]
    refine ⟨fun _ => ⟨fun c => ?_, fun c => ⟨fun c2 => ?_, fun c2 => ?_⟩⟩, fun c => absurd (Int32.le_refl _) c⟩
    · rw [c] at hp; exact hp
    · rw [decide_eq_false (by omega), Bool.and_false] at hp; exact hp
    · rw [decide_eq_true (by omega), Bool.and_true, Bool.of_not_eq_false c] at hp; exact hp
  · intro k hk ih
    have hle := fb_ct_le (fun b => S b && decide (d b = a)) k
    rw [fb_ct_succ] at ih
    refine s_X9_findParts_265 _ _ _ _ ?_
    rw [h3, z_le (by omega) (by omega) (by omega) (by omega), z_in (by omega) (by omega), z_cl (by omega), z_s k]
    refine ⟨fun c => absurd c (by omega), fun _ => ⟨by omega, ?_⟩⟩
    have e0 : zI (fb_ct (fun b => S b && decide (d b = a)) k : Nat) + (0 : Int32) = zI (fb_ct (fun b => S b && decide (d b = a)) k + 0 : Nat) := by rw [show (0 : Int32) = zI 0 from rfl, z_add]; rfl
    have e1 : zI (fb_ct (fun b => S b && decide (d b = a)) k : Nat) + (1 : Int32) = zI (fb_ct (fun b => S b && decide (d b = a)) k + 1 : Nat) := z_s _
    rw [e0, e1]
    cases e : S k
    · rw [mpt_f hl hk e, show (-1 : Int32) = zI (-1) from rfl, z_eq (by omega) (by omega) (by omega) (by omega)]
      rw [e, Bool.false_and, if_neg Bool.false_ne_true] at ih
      exact ⟨fun _ => ih, fun c => absurd c (by omega)⟩
    · have := ltl_sm (a := a) hd hpt hk e hn
      rw [mpt_t hl hk e, z_eq (by omega) (by omega) (by omega) (by omega)]
      rw [e, Bool.true_and] at ih
      have q : ((ltl d pt a k : Nat) : Int) = a ↔ d k = a := by rw [← ltl_a (d := d) (pt := pt) (b := k) hn ha]; omega
      rw [q]
      refine ⟨fun c => ?_, fun c => ?_⟩
      · rw [decide_eq_false c] at ih; exact ih
      · rw [decide_eq_true c] at ih; exact ih
theorem fp326 (hn : n ≤ 100) (hd : ∀ b, b < n → S b = true → d b ≤ b) (hpt : ∀ b, b < n → S b = true → pt b < 100) {a : Nat} (ha : a < n) (hl : mpt n S (ltl d pt a) I) {q0 : Nat} (h26 : I 0 26 = zI q0) (hq : ∀ b, b < n → S b = true → d b = a → pt b = q0) {v2 : Int32} (hp : ∀ I', on15 I I' → mpt n S (ltl d pt (a + 1)) I' → ∀ I2, I2 = u2 I' 0 26 (zI ((q0 + 1 : Nat) : Int)) → l_X9_findParts_209 I2 J P v2 (zI ((a + 1 : Nat) : Int))) : l_X9_findParts_326 I J P v2 (zI a) (zI ((n : Int) - 1)) := by
  have down : ∀ k, k ≤ n → ∀ I1, on15 I I1 → mpt n S (fun b => if k ≤ b ∧ d b = a then 1000 + q0 else ltl d pt a b) I1 → l_X9_findParts_326 I1 J P v2 (zI a) (zI ((k : Int) - 1)) := by
    intro k
    induction k with
    | zero =>
      intro _ I1 o l1
      refine s_X9_findParts_326 _ _ _ ⟨fun _ I2 e2 => ?_, fun c => absurd (by decide) c⟩
      rw [o 0 (by decide), h26, z_s] at e2
      rw [z_s]
      refine hp I1 o (mpt_cong l1 (fun b hb hS => ?_)) I2 e2
      unfold ltl
      by_cases e : d b = a
      · rw [if_pos ⟨by omega, e⟩, if_pos (by omega), hq b hb hS e]
      · rw [if_neg (fun q => e q.2)]
        by_cases e2 : d b < a
        · rw [if_pos e2, if_pos (by omega)]
        · rw [if_neg e2, if_neg (by omega)]
    | succ k ih =>
      intro hk I1 o l1
      refine s_X9_findParts_326 _ _ _ ?_
      rw [show (((k + 1 : Nat) : Int) - 1) = (k : Nat) by omega, show (0 : Int32) = zI 0 from rfl, show (-1 : Int32) = zI (-1) from rfl, show (1000 : Int32) = zI (1000 : Nat) from rfl, o 0 (by decide), h26, z_add, z_add, z_lt (by omega) (by omega) (by omega) (by omega), z_in (by omega) (by omega), z_cl (by omega)]
      rw [show (k : Int) + -1 = (k : Int) - 1 by omega]
      refine ⟨fun c => absurd c (by omega), fun _ => ⟨by omega, ?_⟩⟩
      cases e : S k
      · rw [mpt_f l1 (by omega) e, show (-1 : Int32) = zI (-1) from rfl, z_eq (by omega) (by omega) (by omega) (by omega)]
        refine ⟨fun _ => ⟨by omega, by omega, fun I2 e2 => ih (by omega) I2 (fun q hq => by rw [e2, u2_other _ _ _ _ hq]; exact o q hq) (mpt_updf l1 e2 e rfl (fun b hb e5 e6 => ?_))⟩, fun c => absurd c (by omega)⟩
        by_cases e7 : k + 1 ≤ b ∧ d b = a
        · rw [if_pos e7, if_pos ⟨by omega, e7.2⟩]
        · rw [if_neg e7, if_neg (fun q => e7 ⟨by omega, q.2⟩)]
      · have h1 := ltl_sm (a := a) hd hpt (show k < n by omega) e hn
        have h2 := ltl_a (d := d) (pt := pt) (b := k) hn ha
        rw [mpt_t l1 (by omega) e, if_neg (fun q => absurd q.1 (by omega)), z_eq (by omega) (by omega) (by omega) (by omega)]
        refine ⟨fun c => ⟨by omega, by omega, fun I2 e2 => ih (by omega) I2 (fun q hq => by rw [e2, u2_other _ _ _ _ hq]; exact o q hq) (mpt_upd l1 e2 e ?_ (fun b hb e5 e6 => ?_))⟩, fun c => ⟨by omega, fun I2 e2 => ih (by omega) I2 (fun q hq => by rw [e2, u2_other _ _ _ _ hq]; exact o q hq) (mpt_upd l1 e2 e ?_ (fun b hb e5 e6 => ?_))⟩⟩
        · rw [if_neg (fun q => c (by omega))]
        · by_cases e7 : k + 1 ≤ b ∧ d b = a
          · rw [if_pos e7, if_pos ⟨by omega, e7.2⟩]
          · rw [if_neg e7, if_neg (fun q => e7 ⟨by omega, q.2⟩)]
        · rw [if_pos ⟨by omega, by omega⟩]; rfl
        · by_cases e7 : k + 1 ≤ b ∧ d b = a
          · rw [if_pos e7, if_pos ⟨by omega, e7.2⟩]
          · rw [if_neg e7, if_neg (fun q => e7 ⟨by omega, q.2⟩)]
  exact down n (Nat.le_refl _) I (fun _ _ => rfl) (mpt_cong hl (fun b hb _ => by rw [if_neg (fun q => absurd q.1 (by omega))]))
theorem fp391 (hn : n ≤ 100) (h3 : I 0 3 = zI n) (hd : ∀ b, b < n → S b = true → d b < n) (hpt : ∀ b, b < n → S b = true → pt b < 100) (hl : mpt n S (ltl d pt n) I) (g : Bool) (hp : ∀ I', on15 I I' → mpt n S pt I' → P (some (.int (bi g))) I' J) : l_X9_findParts_391 I J P (bi g) 0 := by
  have key := up_loop (L := fun k => ∀ I1, on15 I I1 → mpt n S (fun b => if b < k then pt b else 1000 + pt b) I1 → l_X9_findParts_391 I1 J P (bi g) (zI k)) n ?_ ?_ 0 (Nat.zero_le _) I (fun _ _ => rfl) (mpt_cong hl (fun b hb hS => ?_))
  · exact key
  · intro I1 o l1
    refine s_X9_findParts_391 _ _ ⟨fun _ => ⟨nrw01 (bi01 g), hp I1 o (mpt_cong l1 (fun b hb _ => by rw [if_pos hb]))⟩, fun c => absurd (by rw [o 0 (by decide), h3]; exact Int32.le_refl _) c⟩
  · intro k hk ih I1 o l1
    refine s_X9_findParts_391 _ _ ?_
    rw [o 0 (by decide), h3, z_le (by omega) (by omega) (by omega) (by omega), z_in (by omega) (by omega), z_cl (by omega), z_s]
    refine ⟨fun c => absurd c (by omega), fun _ => ⟨by omega, ?_⟩⟩
    cases e : S k
    · rw [mpt_f l1 hk e]
      refine ⟨fun _ => ⟨by omega, fun I2 e2 => ih I2 (fun q hq => by rw [e2, u2_other _ _ _ _ hq]; exact o q hq) (mpt_updf l1 e2 e rfl (fun b hb e5 e6 => ?_))⟩, fun c => absurd (by decide) c⟩
      by_cases e7 : b < k
      · rw [if_pos e7, if_pos (by omega)]
      · rw [if_neg e7, if_neg (by omega)]
    · have := hpt k hk e
      rw [mpt_t l1 hk e, if_neg (by omega), show (0 : Int32) = zI 0 from rfl, show (1000 : Int32) = zI (1000 : Nat) from rfl, z_sub, z_lt (by omega) (by omega) (by omega) (by omega)]
      refine ⟨fun c => absurd c (by omega), fun _ => ⟨by omega, by omega, fun I2 e2 => ih I2 (fun q hq => by rw [e2, u2_other _ _ _ _ hq]; exact o q hq) (mpt_upd l1 e2 e ?_ (fun b hb e5 e6 => ?_))⟩⟩
      · rw [if_pos (by omega)]; congr 1; omega
      · by_cases e7 : b < k
        · rw [if_pos e7, if_pos (by omega)]
        · rw [if_neg e7, if_neg (by omega)]
  · unfold ltl
    rw [if_pos (hd b hb hS), if_neg (by omega)]
end MP3
