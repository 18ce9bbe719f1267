/-! the reference: hint, as the desk's call -/
section MHi
variable {I : tg_I} {J : tg_J} {P : Option Value → tg_I → tg_J → Prop} {w h sh : Nat} {M H B F : Nat → Bool} {mv kd md : Nat} {hist : Nat → hS} {R T : Nat → Bool}
theorem relM_hint {I' : tg_I} {kd' : Nat} {R' : Nat → Bool} (hr : relM ((w, h, sh), (M, H, B, F), (mv, hist), (kd, R, T, md)) I) (o : ∀ q, 1 ≤ q → q ≤ 10 → q ≠ 9 → I' q = I q) (o0 : ∀ x, x ≤ 13 → I' 0 x = I 0 x) (e16 : I' 0 16 = zI kd') (e9 : ∀ i, i < 101 → I' 9 i = bi (R' i)) : relM ((w, h, sh), (M, H, B, F), (mv, hist), (kd', R', T, md)) I' := by
  obtain ⟨r1, r2, r3, r4, r5, r6, r7⟩ := hr
  refine ⟨mst_K r1 (fun q a b => o q a (by omega) (by omega)) (fun x hx => o0 x (by omega)), ?_, ?_, e16, e9, ?_, ?_⟩
  · rw [o0 10 (by decide)]; exact r2
  · rw [o 5 (by decide) (by decide) (by decide)]; exact r3
  · rw [o 10 (by decide) (by decide) (by decide)]; exact r6
  · rw [o0 8 (by decide)]; exact r7
theorem ht59 {I0 : tg_I} (b : Bool) (W : Nat → Bool) (h23 : (I0 0 23 < 0 ↔ b = false) ∧ (0 ≤ I0 0 23 ↔ b = true)) (hW : b = true → ∀ k, k < 101 → I0 14 k = bi (W k)) (hp1 : b = true → ∀ I', onlyI 9 I0 I' → (∀ k, k < 101 → I' 9 k = bi (W k)) → P (some (.int (2 * I' 0 14 + I' 0 15 + 1))) I' J) (hp0 : b = false → ∀ I', onlyI 9 I0 I' → (∀ k, k < 101 → I' 9 k = bi false) → P (some (.int 0)) I' J) : l_X9_hint_59 I0 J P 0 := by
  have key := up_loop (L := fun k => ∀ I1, onlyI 9 I0 I1 → (∀ i, i < k → I1 9 i = bi (b && W i)) → l_X9_hint_59 I1 J P (zI k)) 101 ?_ ?_ 0 (Nat.zero_le _) I0 (fun _ _ => rfl) (fun i h => absurd h (by omega))
  · exact key
  · intro I1 o1 z1
    refine s_X9_hint_59 _ ⟨fun _ => ?_, fun c => absurd (Int32.le_refl _) c⟩
    rw [o1 0 (by decide), h23.2]
    refine ⟨fun c => ?_, fun c => ?_⟩
    · have := hp1 c I1 o1 (fun k hk => by rw [z1 k hk, c]; rfl)
      rw [o1 0 (by decide)] at this
      exact this
    · have c : b = false := by simpa using c
      exact hp0 c I1 o1 (fun k hk => by rw [z1 k hk, c]; rfl)
  · intro k hk ih I1 o1 z1
    have upd : ∀ (x : Bool) (I2 : tg_I), I2 = u2 I1 9 k (bi x) → x = (b && W k) → l_X9_hint_59 I2 J P (zI ((k + 1 : Nat) : Int)) := fun x I2 e2 ex => ih I2 (fun q hq => by rw [e2, u2_other _ _ _ _ hq]; exact o1 q hq) (fun i hi => by
      rw [e2, u2_at]
      by_cases e : i = k
      · rw [if_pos e, ex, e]
      · rw [if_neg e]; exact z1 i (by omega))
    refine s_X9_hint_59 _ ?_
    rw [o1 0 (by decide), h23.1, show (101 : Int32) = zI (101 : Nat) from rfl, z_le (by omega) (by omega) (by omega) (by omega), z_in (by omega) (by omega), z_cl (by omega), z_s, nar0, nar1]
    refine ⟨fun c => absurd c (by omega), fun _ => ⟨fun c => ⟨by omega, fun I2 e2 => upd false I2 e2 (by rw [c]; rfl)⟩, fun c => ⟨by omega, ?_⟩⟩⟩
    have c : b = true := by simpa using c
    rw [o1 14 (by decide), hW c k hk, bi_0]
    exact ⟨fun cw => ⟨by omega, fun I2 e2 => upd false I2 e2 (by rw [cw, Bool.and_false])⟩, fun cw => ⟨by omega, fun I2 e2 => upd true I2 e2 (by rw [c, show W k = true by simpa using cw]; rfl)⟩⟩
theorem m_hint (ho : okD ((w, h, sh), (M, H, B, F), (mv, hist), (kd, R, T, md))) (hr : relM ((w, h, sh), (M, H, B, F), (mv, hist), (kd, R, T, md)) I) (x : Int32) (hm1 : (∀ g : Nat, 1 ≤ g → g ≤ 3 → x ≠ zI g) → P (some (.int (-1))) I J)
    (h0 : ∀ g : Nat, 1 ≤ g → g ≤ 3 → x = zI g → hR w h sh M H B F g 101 (fun _ => false) (fun _ _ => false) none → ∀ I' J', relM ((w, h, sh), (M, H, B, F), (mv, hist), (0, (fun _ => false), T, md)) I' → P (some (.int 0)) I' J')
    (h1 : ∀ (g kd' c : Nat) (v : Bool) (W : Nat → Bool), 1 ≤ g → g ≤ 3 → x = zI g → hR w h sh M H B F g 101 (fun _ => false) (fun _ _ => false) (some (kd', c, v, W)) → c < w * h → kd' ≤ 3 → (∀ k, W k = true → k ≤ 100) → ∀ I' J', relM ((w, h, sh), (M, H, B, F), (mv, hist), (kd', W, T, md)) I' → P (some (.int (zI ((2 * c + (if v then 1 else 0) + 1 : Nat) : Int)))) I' J') : call pgM zX9_hint [.ref 0, .int x] I J P := by
  obtain ⟨gk, oS, -⟩ := ho
  obtain ⟨hn1, hn2⟩ := mul_le100 gk
  obtain ⟨z, z1, z2, z3⟩ := z_of x
  refine e_X9_hint _ ?_
  rw [z3, show (1 : Int32) = zI 1 from rfl, show (3 : Int32) = zI 3 from rfl, z_lt z1 z2 (by omega) (by omega), z_le z1 z2 (by omega) (by omega)]
  refine ⟨fun c => hm1 (fun g g1 g3 e => ?_), fun c => ⟨fun c2 => ?_, fun c2 => hm1 (fun g g1 g3 e => ?_)⟩⟩
  · rw [z3, z_eq z1 z2 (by omega) (by omega)] at e; omega
  · obtain ⟨g, hg⟩ : ∃ g : Nat, z = (g : Int) := ⟨z.toNat, by omega⟩
    have g1 : 1 ≤ g := by omega
    have g3 : g ≤ 3 := by omega
    have hx : x = zI g := by rw [z3, hg]
    rw [hg]
    refine mfind_ok gk hr.1 oS g1 g3 (fun r I1 J1 hh hb o1 fd => ⟨rfl, fun I2 e2 I3 e3 => ?_⟩)
    have e23 : I3 0 23 = I1 0 23 := by rw [e3, u2_at, if_neg (by decide), e2, u2_at, if_neg (by decide)]
    have e14 : I3 0 14 = I1 0 23 := by rw [e3, u2_at, if_neg (by decide), e2, u2_eq]
    have e16 : I3 0 16 = I1 0 24 := by rw [e3, u2_eq, e2, u2_at, if_neg (by decide)]
    have oq : ∀ q, q ≠ 0 → I3 q = I1 q := fun q hq => by rw [e3, u2_other _ _ _ _ hq, e2, u2_other _ _ _ _ hq]
    have ox : ∀ x, x ≤ 13 → I3 0 x = I 0 x := fun x hx => by rw [e3, u2_at, if_neg (by omega), e2, u2_at, if_neg (by omega)]; exact o1.2 x (by omega) (by omega) (by omega) (by omega)
    have fr : ∀ I4 I5 : tg_I, (∀ q, q ≠ 0 → I4 q = I3 q) → (∀ x, x ≠ 15 → I4 0 x = I3 0 x) → onlyI 9 I4 I5 → (∀ q, 1 ≤ q → q ≤ 10 → q ≠ 9 → I5 q = I q) ∧ (∀ x, x ≤ 13 → I5 0 x = I 0 x) ∧ I5 0 16 = I1 0 24 := fun I4 I5 a b c => ⟨fun q q1 q2 q3 => by rw [c q q3, a q (by omega), oq q (by omega)]; exact o1.1 q (by omega) (by omega) (by omega) (by omega) (by omega) (by omega) (by omega) (by omega), fun x hx => by rw [c 0 (by decide), b x (by omega)]; exact ox x hx, by rw [c 0 (by decide), b 16 (by decide)]; exact e16⟩
    rw [e23]
    cases r with
    | none =>
      obtain ⟨f1, f2⟩ := fd
      rw [f1]
      refine ⟨fun z => absurd z (by decide), fun _ I4 e4 => ?_⟩
      have a4 : ∀ q, q ≠ 0 → I4 q = I3 q := fun q hq => by rw [e4, u2_other _ _ _ _ hq]
      have b4 : ∀ x, x ≠ 15 → I4 0 x = I3 0 x := fun x hx => by rw [e4, u2_at, if_neg hx]
      refine ht59 false (fun _ => false) ?_ (fun z => by cases z) (fun z => by cases z) (fun _ I5 o5 z5 => ?_)
      · rw [b4 23 (by decide), e23, f1]; decide
      · obtain ⟨p1, p2, p3⟩ := fr I4 I5 a4 b4 o5
        exact h0 g g1 g3 hx hh I5 J1 (relM_hint hr p1 p2 (by rw [p3, f2]; rfl) z5)
    | some y =>
      obtain ⟨kd', c, v, W⟩ := y
      obtain ⟨f1, f2, f3, f4⟩ := fd
      obtain ⟨hc, k1, k3, hMc, hHc, hW⟩ := hb kd' c v W rfl
      rw [f1, z_in (by omega) (by omega), z_cl (by omega), show (0 : Int32) = zI 0 from rfl, z_le (by omega) (by omega) (by omega) (by omega)]
      refine ⟨fun _ => ⟨by omega, fun I4 e4 => ?_⟩, fun z => absurd (by omega) z⟩
      have a4 : ∀ q, q ≠ 0 → I4 q = I3 q := fun q hq => by rw [e4, u2_other _ _ _ _ hq]
      have b4 : ∀ x, x ≠ 15 → I4 0 x = I3 0 x := fun x hx => by rw [e4, u2_at, if_neg hx]
      have c4 : I4 0 15 = bi v := by rw [e4, u2_eq, oq 13 (by decide)]; exact f3
      refine ht59 true W ?_ (fun _ k hk => by rw [a4 14 (by decide), oq 14 (by decide)]; exact f4 k hk) (fun _ I5 o5 z5 => ?_) (fun z => by cases z)
      · rw [b4 23 (by decide), e23, f1, show (0 : Int32) = zI 0 from rfl, z_lt (by omega) (by omega) (by omega) (by omega), z_le (by omega) (by omega) (by omega) (by omega)]
        exact ⟨⟨fun z => absurd z (by omega), fun z => by cases z⟩, ⟨fun _ => rfl, fun _ => by omega⟩⟩
      · obtain ⟨p1, p2, p3⟩ := fr I4 I5 a4 b4 o5
        have fin := h1 g kd' c v W g1 g3 hx hh hc k3 hW I5 J1 (relM_hint hr p1 p2 (by rw [p3, f2]) z5)
        rw [o5 0 (by decide), b4 14 (by decide), e14, f1, c4, show (2 : Int32) = zI 2 from rfl, z_mul, show (1 : Int32) = zI 1 from rfl]
        cases v
        · rw [show bi false = zI 0 from rfl, z_add, z_add, show (2 : Int) * (c : Int) + 0 + 1 = ((2 * c + 0 + 1 : Nat) : Int) by omega]
          exact fin
        · rw [show bi true = zI 1 from rfl, z_add, z_add, show (2 : Int) * (c : Int) + 1 + 1 = ((2 * c + 1 + 1 : Nat) : Int) by omega]
          exact fin
  · rw [z3, z_eq z1 z2 (by omega) (by omega)] at e; omega
end MHi
