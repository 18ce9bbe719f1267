/-! the reference: check, as the desk's call -/
section MCl
variable {I : tg_I} {J : tg_J} {P : Option Value → tg_I → tg_J → Prop} {w h sh : Nat} {M H B F N : Nat → Bool} {mv kd md : Nat} {hist : Nat → hS} {R T : Nat → Bool}
theorem ct_31 {s n : Nat} (hs : s < 2 ^ n) (hn : n ≤ 31) (p : Nat → Bool) : fb_ct (fun j => p j && s.testBit j) 31 = fb_ct (fun j => p j && s.testBit j) n := ct_ext hn (fun k h1 _ => by
  rw [Nat.testBit_lt_two_pow (Nat.lt_of_lt_of_le hs (Nat.pow_le_pow_right (by decide) h1)), Bool.and_false])
theorem ckS_iff (gk : gOk w h sh) (oS : okS (w * h) M H B F) {c : Nat} (hc : c < w * h) (hH : H c = true) (hl : (spA w h sh H N c).length ≤ 14) (tot v : Bool) : (∃ s, s < 2 ^ (spA w h sh H N c).length ∧ ckS w h sh M H (spA w h sh H N c) ((List.range (w * h)).filter N) tot v s) ↔ ckP w h sh M H N tot c v := by
  have hnd := spA_nodup (w := w) (h := h) (sh := sh) (H := H) (N := N) (c := c)
  have hc0 : (spA w h sh H N c).getD 0 0 = c := rfl
  have hlen0 : 0 < (spA w h sh H N c).length := by unfold spA; simp
  have hfit := fun f => fit_all (N := N) gk oS hc hH f
  unfold ckP
  generalize spA w h sh H N c = A at *
  have sets : ∀ s, s < 2 ^ A.length → ((∀ i, i < ((List.range (w * h)).filter N).length → fb_ct (fun j => (s &&& bn (fun j => nb w h sh (((List.range (w * h)).filter N).getD i 0) (A.getD j 0)) A.length).testBit j) 31 = nin w h sh (fun i => H i && M i) (((List.range (w * h)).filter N).getD i 0)) ↔ fitF (w * h) (nb w h sh) M N A (fOf A s) = true) := fun s hs => by
    rw [hfit]
    have one : ∀ o, fb_ct (fun j => (s &&& bn (fun j => nb w h sh o (A.getD j 0)) A.length).testBit j) 31 = A.countP (fun x => nb w h sh o x && fOf A s x) := fun o => by
      rw [cp_fOf hnd, ← ct_31 hs (by omega)]
      refine fb_ct_cong (fun j hj => ?_)
      rw [Nat.testBit_and, bn_bit]
      by_cases e : j < A.length
      · rw [decide_eq_true e, Bool.true_and, Bool.and_comm]
      · rw [Nat.testBit_lt_two_pow (Nat.lt_of_lt_of_le hs (Nat.pow_le_pow_right (by decide) (by omega))), Bool.and_false, Bool.false_and]
    constructor
    · intro q o ho hN
      obtain ⟨i, hi, e⟩ := mem_idx (List.mem_filter.mpr ⟨List.mem_range.mpr ho, hN⟩)
      have := q i hi
      rw [e, one] at this
      exact this
    · intro q i hi
      have hm := List.mem_filter.mp (getD_mem hi)
      rw [one]
      exact q _ (List.mem_range.mp hm.1) hm.2
  have cnt : ∀ s, s < 2 ^ A.length → fb_ct (fun j => s.testBit j) 31 = A.countP (fOf A s) := fun s hs => by
    have h1 := cp_fOf hnd s (fun _ => true)
    have h2 := ct_31 hs (by omega) (fun _ => true)
    simp only [Bool.true_and] at h1 h2
    rw [h2, ← h1]
  constructor
  · rintro ⟨s, hs, q1, q2, q3⟩
    refine ⟨fOf A s, (sets s hs).mp q2, ?_, ?_⟩
    · rw [← hc0, fOf_at hnd s hlen0]; exact q1
    · rw [← cnt s hs]; exact q3
  · rintro ⟨f, q1, q2, q3⟩
    have hs := bn_lt (fun j => f (A.getD j 0)) A.length
    have agree : ∀ x, x ∈ A → fOf A (bn (fun j => f (A.getD j 0)) A.length) x = f x := fun x hx => by
      obtain ⟨j, hj, e⟩ := mem_idx hx
      rw [← e, fOf_at hnd _ hj, bn_bit, decide_eq_true hj]; rfl
    refine ⟨bn (fun j => f (A.getD j 0)) A.length, hs, ?_, (sets _ hs).mpr ?_, ?_⟩
    · rw [bn_bit, decide_eq_true hlen0, Bool.true_and, hc0]; exact q2
    · rw [← q1]
      unfold fitF
      have e : ∀ o, A.countP (fun x => nb w h sh o x && fOf A (bn (fun j => f (A.getD j 0)) A.length) x) = A.countP (fun x => nb w h sh o x && f x) := fun o => cp_cong A (fun x hx => by rw [agree x hx])
      simp only [e]
    · rw [cnt _ hs, cp_cong A agree]; exact q3
theorem m_check (ho : okD ((w, h, sh), (M, H, B, F), (mv, hist), (kd, R, T, md))) (hr : relM ((w, h, sh), (M, H, B, F), (mv, hist), (kd, R, T, md)) I) (x y : Int32) (hm1 : (¬ inC (w * h) x ∨ ¬ is01 y) → P (some (.int (-1))) I J) (hm2 : ∀ a : Nat, a < w * h → x = zI a → is01 y → H a = false → P (some (.int (-2))) I J)
    (h3 : ∀ a : Nat, a < w * h → x = zI a → is01 y → H a = true → 14 < (spA w h sh H (tlN T (opS (w * h) H B)) a).length → ∀ I' J', relM ((w, h, sh), (M, H, B, F), (mv, hist), (kd, R, T, md)) I' → P (some (.int (-3))) I' J')
    (h1 : ∀ (a : Nat) (v : Bool), a < w * h → x = zI a → y = bi v → H a = true → (spA w h sh H (tlN T (opS (w * h) H B)) a).length ≤ 14 → ¬ ckP w h sh M H (tlN T (opS (w * h) H B)) (T 100) a v → ∀ I' J', relM ((w, h, sh), (M, H, B, F), (mv, hist), (kd, R, T, md)) I' → P (some (.int 1)) I' J')
    (h0 : ∀ (a : Nat) (v : Bool), a < w * h → x = zI a → y = bi v → H a = true → (spA w h sh H (tlN T (opS (w * h) H B)) a).length ≤ 14 → ckP w h sh M H (tlN T (opS (w * h) H B)) (T 100) a v → ∀ I' J', relM ((w, h, sh), (M, H, B, F), (mv, hist), (kd, R, T, md)) I' → P (some (.int 0)) I' J') : call pgM zX9_check [.ref 0, .int x, .int y] I J P := by
  obtain ⟨gk, oS, -⟩ := ho
  obtain ⟨hn1, hn2⟩ := mul_le100 gk
  obtain ⟨r1, r2, r3, r4, r5, r6, r7⟩ := id hr
  have y01 : ¬ y < 0 → y ≤ 1 → is01 y := fun a b => by
    obtain ⟨z, z1, z2, z3⟩ := z_of y
    rw [z3, show (0 : Int32) = zI 0 from rfl, z_lt z1 z2 (by omega) (by omega)] at a
    rw [z3, show (1 : Int32) = zI 1 from rfl, z_le z1 z2 (by omega) (by omega)] at b
    rw [z3]
    have : z = 0 ∨ z = 1 := by omega
    rcases this with q | q
    · rw [q]; exact Or.inl rfl
    · rw [q]; exact Or.inr rfl
  refine e_X9_check _ _ (mholds r1.1.2.2.2 hn2 x (fun a ha hx => ⟨_, rfl, fun c => absurd c ne_1_0, fun _ => ⟨fun c => hm1 (Or.inr (fun q => ?_)), fun c => ⟨fun c2 => ?_, fun c2 => hm1 (Or.inr (fun q => ?_))⟩⟩⟩) (fun c => ⟨_, rfl, fun _ => hm1 (Or.inl c), fun c2 => absurd rfl c2⟩))
  · rcases q with q | q <;> (rw [q] at c; exact absurd c (by decide))
  · have hy := y01 c c2
    obtain ⟨v, hv⟩ : ∃ v, y = bi v := by rcases hy with q | q; exact ⟨false, q⟩; exact ⟨true, q⟩
    rw [hx, z_in (by omega) (by omega), z_cl (by omega), (r1.2.2 a (by omega)).2.1, sc_0 ha]
    refine ⟨by omega, fun cH => ?_, fun cH => hm2 a ha hx hy (by simpa using cH)⟩
    have hll : (spA w h sh H (tlN T (opS (w * h) H B)) a).length ≤ w * h := nodup_le spA_nodup (fun x hx => ((spA_ptL gk ha cH).2.1 x hx).1)
    refine spokenOf_ok gk r1 r6 ha (fun I1 o1 l1 => ⟨_, rfl, ?_⟩)
    have rl : ∀ I', (∀ q, q ≠ 16 → q ≠ 24 → q ≠ 25 → I' q = I q) → relM ((w, h, sh), (M, H, B, F), (mv, hist), (kd, R, T, md)) I' := fun I' k => relM_K hr (fun q a b => k q (by omega) (by omega) (by omega)) (fun x hx => by rw [k 0 (by decide) (by decide) (by decide)])
    rw [show (14 : Int32) = zI (14 : Nat) from rfl, z_le (by omega) (by omega) (by omega) (by omega)]
    refine ⟨fun c3 => ?_, fun c3 => h3 a ha hx hy cH (by omega) I1 J (rl I1 (fun q a _ _ => o1 q a))⟩
    have m1 : mst w h sh M H B F I1 := mst_keep r1 (fun q hq => o1 q (by omega))
    refine ck52 gk m1 oS (fun i hi => by rw [o1 10 (by decide)]; exact r6 i hi) (fun x hx => ((spA_ptL gk ha cH).2.1 x hx).1) (by omega) l1 (fun I2 o2 k2 => ?_)
    have rl2 := rl I2 (fun q a b c => (o2 q b c).trans (o1 q a))
    have hKl : ((List.range (w * h)).filter (tlN T (opS (w * h) H B))).length ≤ 100 := by
      have := List.length_filter_le (tlN T (opS (w * h) H B)) (List.range (w * h))
      rw [List.length_range] at this
      omega
    rw [hv]
    refine ck192 gk (by omega) hKl k2 (tot := T 100) (by rw [o2 10 (by decide) (by decide), o1 10 (by decide)]; exact r6 100 (by decide)) v (fun q => ?_) (fun q => ?_)
    · refine h1 a v ha hx hv cH (by omega) (fun z => ?_) I2 J rl2
      obtain ⟨s, s1, s2⟩ := (ckS_iff gk oS ha cH (by omega) (T 100) v).mpr z
      exact q s s1 s2
    · exact h0 a v ha hx hv cH (by omega) ((ckS_iff gk oS ha cH (by omega) (T 100) v).mp q) I2 J rl2
  · rcases q with q | q <;> (rw [q] at c2; exact absurd (by decide) c2)
end MCl
