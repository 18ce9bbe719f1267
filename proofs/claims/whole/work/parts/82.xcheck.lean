/-! the class: check -/
section CQ
variable {n : Nat} {nbr : Nat → Nat → Bool} {M N : Nat → Bool} {A : List Nat}
theorem fitF_cong {f g : Nat → Bool} (h : ∀ x, x ∈ A → f x = g x) : fitF n nbr M N A f = fitF n nbr M N A g := by
  unfold fitF
  have e : ∀ o, A.countP (fun x => nbr o x && f x) = A.countP (fun x => nbr o x && g x) := fun o => cp_cong A (fun x hx => by rw [h x hx])
  simp only [e]
theorem wz_t {c m : Nat} (hc : c ∈ A) : 0 < wz n nbr M N A c m ↔ ∃ f, fitF n nbr M N A f = true ∧ A.countP f = m ∧ f c = true := by
  unfold wz
  rw [cnt_pos]
  constructor
  · rintro ⟨g, -, q⟩
    simp only [Bool.and_eq_true, decide_eq_true_eq] at q
    exact ⟨g, q.1.1, q.1.2, q.2⟩
  · rintro ⟨f, a, b, d⟩
    have ag : ∀ x, x ∈ A → (decide (x ∈ A) && f x) = f x := fun x hx => by rw [decide_eq_true hx]; rfl
    refine ⟨fun x => decide (x ∈ A) && f x, fun x hx => by simp [hx], ?_⟩
    rw [fitF_cong ag, a, cp_cong A ag, b]
    simp [hc, d]
theorem wz_f {c m : Nat} (hc : c ∈ A) : 0 < wy n nbr M N A m - wz n nbr M N A c m ↔ ∃ f, fitF n nbr M N A f = true ∧ A.countP f = m ∧ f c = false := by
  have e : wy n nbr M N A m = wz n nbr M N A c m + cnt (fun f => fitF n nbr M N A f && decide (A.countP f = m) && !f c) A (fun _ => false) := cnt_add (fun g => by
    cases fitF n nbr M N A g && decide (A.countP g = m) <;> cases g c <;> rfl) A _
  rw [e, Nat.add_sub_cancel_left, cnt_pos]
  constructor
  · rintro ⟨g, -, q⟩
    simp only [Bool.and_eq_true, decide_eq_true_eq, Bool.not_eq_true'] at q
    exact ⟨g, q.1.1, q.1.2, q.2⟩
  · rintro ⟨f, a, b, d⟩
    have ag : ∀ x, x ∈ A → (decide (x ∈ A) && f x) = f x := fun x hx => by rw [decide_eq_true hx]; rfl
    refine ⟨fun x => decide (x ∈ A) && f x, fun x hx => by simp [hx], ?_⟩
    rw [fitF_cong ag, a, cp_cong A ag, b]
    simp [hc, d]
end CQ
theorem ckP_iff {w h sh : Nat} {M H N : Nat → Bool} {tot : Bool} {c : Nat} {v : Bool} : ckP w h sh M H N tot c v ↔ ∃ m : Nat, m ≤ (spA w h sh H N c).length ∧ 0 < (if v then wy (w * h) (nb w h sh) M N (spA w h sh H N c) m - wz (w * h) (nb w h sh) M N (spA w h sh H N c) c m else wz (w * h) (nb w h sh) M N (spA w h sh H N c) c m) ∧ (tot = true → 0 ≤ (mlN (w * h) M H : Int) - m ∧ (mlN (w * h) M H : Int) - m ≤ (fb_ct H (w * h) : Int) - (spA w h sh H N c).length) := by
  have hc : c ∈ spA w h sh H N c := by unfold spA; simp
  unfold ckP
  generalize spA w h sh H N c = A at *
  constructor
  · rintro ⟨f, a, b, d⟩
    refine ⟨A.countP f, List.countP_le_length, ?_, d⟩
    cases v
    · rw [if_neg (by simp)]
      exact (wz_t hc).mpr ⟨f, a, rfl, b⟩
    · rw [if_pos rfl]
      exact (wz_f hc).mpr ⟨f, a, rfl, b⟩
  · rintro ⟨m, -, b, d⟩
    cases v
    · rw [if_neg (by simp)] at b
      obtain ⟨f, f1, f2, f3⟩ := (wz_t hc).mp b
      exact ⟨f, f1, f3, by rw [f2]; exact d⟩
    · rw [if_pos rfl] at b
      obtain ⟨f, f1, f2, f3⟩ := (wz_f hc).mp b
      exact ⟨f, f1, f3, by rw [f2]; exact d⟩
theorem bits29 : isBits 29 := ⟨by decide, rfl⟩
theorem bits30 : isBits 30 := ⟨by decide, rfl⟩
section XC
variable {I : tg_I} {J : tg_J} {P : Option Value → tg_I → tg_J → Prop} {w h sh b : Nat} {M H B F N : Nat → Bool} {mv kd md : Nat} {hist : Nat → hS} {R T : Nat → Bool}
def oPu (I I' : tg_I) (J J' : tg_J) : Prop := (∀ q, q ≠ 20 → q ≠ 21 → I' q = I q) ∧ onlyJ 28 J J'
theorem oPu.out {I I1 : tg_I} {J J1 : tg_J} (h1 : oPu I I1 J J1) : outP I I1 J J1 := fun q hq => ⟨h1.1 q (by omega) (by omega), h1.2 q (by omega)⟩
theorem push_ok {L : List Nat} {x : Int32} (sA : srA L I) (hl : L.length ≤ 14) (h1 : L.length < 14 → ∀ I', (∀ q, q ≠ 20 → q ≠ 21 → I' q = I q) → (∀ y : Nat, x = zI y → srA (L ++ [y]) I') → P (some (.int 1)) I' J) (h0 : L.length = 14 → P (some (.int 0)) I J) : call pgX zX7_push [.ref 20, .int x] I J P := by
  refine e_X7_push _ ?_
  rw [sA.1, show (14 : Int32) = zI (14 : Nat) from rfl, z_lt (by omega) (by omega) (by omega) (by omega), z_in (by omega) (by omega), z_cl (by omega)]
  refine ⟨fun c => ⟨by omega, fun I1 e1 I2 e2 => h1 (by omega) I2 (fun q a b => by rw [e2, u2_other _ _ _ _ a, e1, u2_other _ _ _ _ b]) (fun y hy => ⟨?_, fun k hk => ?_⟩)⟩, fun c => h0 (by omega)⟩
  · rw [e2, u2_eq, e1, u2_other _ _ _ _ (by decide), sA.1, z_s]; simp
  · rw [getD_app1 hk, e2, u2_other _ _ _ _ (by decide), e1, u2_at]
    rw [List.length_append, show [y].length = 1 from rfl] at hk
    by_cases e : k = L.length
    · rw [if_pos e, if_pos e, hy]
    · rw [if_neg e, if_neg e]; exact sA.2 k (by omega)
theorem pushAround_ok {L : List Nat} {o : Nat} (hb : isBd b) (gk : gOk w h sh) (g : gridX b w h sh I J) (v : bst b (w * h) M H B F J) (ho : o < w * h) (sA : srA L I) (hl : L.length ≤ 14) (hnd : L.Nodup) (hE : ∀ i, i < 128 → sB J 28 i = decide (i ∈ L))
    (h1 : ∀ I' J' (L' : List Nat), L <+: L' → L'.Nodup → L'.length ≤ 14 → (∀ y, y ∈ L' ↔ y ∈ L ∨ (nb w h sh o y = true ∧ H y = true)) → oPu I I' J J' → srA L' I' → (∀ i, i < 128 → sB J' 28 i = decide (i ∈ L')) → P (some (.int 1)) I' J')
    (h0 : ∀ I' J' (L' : List Nat), L'.Nodup → 14 < L'.length → (∀ y, y ∈ L' → y ∈ L ∨ (nb w h sh o y = true ∧ H y = true)) → oPu I I' J J' → P (some (.int 0)) I' J') : call pgX zX5_pushAround [.ref 17, .ref b, .int (zI o)] I J P := by
  obtain ⟨hn1, hn2⟩ := mul_le100 gk
  obtain ⟨rl, rl8⟩ := row_len gk g ho
  refine e_X5_pushAround _ _ hb ?_
  have key := up_loop (L := fun i => ∀ I1 J1 L1, L <+: L1 → L1.Nodup → L1.length ≤ 14 → (∀ y, y ∈ L1 ↔ y ∈ L ∨ (y ∈ (nbl w h sh o).take i ∧ H y = true)) → oPu I I1 J J1 → srA L1 I1 → (∀ i, i < 128 → sB J1 28 i = decide (i ∈ L1)) → l_X5_pushAround_2 I1 J1 P b (zI o) (zI i)) (nbl w h sh o).length ?_ ?_ 0 (Nat.zero_le _) I J L (List.prefix_refl _) hnd hl (fun y => by simp) ⟨fun _ _ _ => rfl, fun _ _ => rfl⟩ sA hE
  · exact key
  · intro I1 J1 L1 pf nd l1 mm o1 s1 e1
    refine s_X5_pushAround_2 _ _ _ hb ?_
    rw [z_in (by omega) (by omega), z_cl (by omega), o1.1 (b + 5) (by rcases hb with e | e <;> omega) (by rcases hb with e | e <;> omega), rl]
    refine ⟨by omega, fun _ => h1 I1 J1 L1 pf nd l1 (fun y => ?_) o1 s1 e1, fun c => absurd (Int32.le_refl _) c⟩
    rw [mm y, List.take_length, nbl_mem]
  · intro i hi ih I1 J1 L1 pf nd l1 mm o1 s1 e1
    have g1 := o1.out.grid hb g
    have v1 := o1.out.bst hb v
    have hcell := row_at gk g1 ho hi
    have hmem := getD_mem hi
    rw [take_s hi] at ih
    generalize (nbl w h sh o).getD i 0 = y at *
    have hoy := nbl_mem.mp hmem
    have hy := nb_lt hoy
    have same : (H y = false ∨ y ∈ L1) → l_X5_pushAround_2 I1 J1 P b (zI o) (zI ((i + 1 : Nat) : Int)) := fun hh => ih I1 J1 L1 pf nd l1 (fun z => by
      rw [mm z]
      constructor
      · rintro (q | q)
        · exact Or.inl q
        · exact Or.inr ⟨List.mem_append_left _ q.1, q.2⟩
      · rintro (q | ⟨q1, q2⟩)
        · exact Or.inl q
        · rcases List.mem_append.mp q1 with q | q
          · exact Or.inr ⟨q, q2⟩
          · rw [List.mem_singleton.mp q] at q2 ⊢
            rcases hh with hh | hh
            · rw [hh] at q2; cases q2
            · exact (mm y).mp hh) o1 s1 e1
    refine s_X5_pushAround_2 _ _ _ hb ?_
    rw [z_in (by omega) (by omega), z_cl (by omega), o1.1 (b + 5) (by rcases hb with e | e <;> omega) (by rcases hb with e | e <;> omega), rl, z_le (by omega) (by omega) (by omega) (by omega), show (8 : Int32) = zI 8 from rfl, z_mul, z_add, z_in (by omega) (by omega), show (o : Int) * 8 + (i : Int) = ((8 * o + i : Nat) : Int) by omega, z_cl (by omega), hcell, z_s i]
    refine ⟨by omega, fun c => absurd c (by omega), fun _ => ⟨by omega, fun x1 ex => ?_⟩⟩
    rw [ex]
    refine has_ok (bd_bits hb (by decide) (by decide)) (by omega) ⟨_, rfl, ?_⟩
    rw [(v1 y (by omega)).2.1, bi_0]
    refine ⟨fun c => same (Or.inl c), fun c => has_ok bits28 (by omega) ⟨_, rfl, ?_⟩⟩
    rw [e1 y (by omega), bi_0]
    refine ⟨fun c2 => same (Or.inr (by simpa using c2)), fun c2 => add_ok bits28 (by omega) (fun J2 oj sj => ⟨rfl, ?_⟩)⟩
    have hyL : y ∉ L1 := of_decide_eq_false c2
    have hHy : H y = true := by simpa using c
    have nd2 : (L1 ++ [y]).Nodup := List.nodup_append.mpr ⟨nd, by simp, fun a ha z hz e => hyL (by rw [List.mem_singleton.mp hz] at e; rw [← e]; exact ha)⟩
    have o2 : oPu I I1 J J2 := ⟨o1.1, fun q hq => (oj q hq).trans (o1.2 q hq)⟩
    have mm2 : ∀ z, z ∈ L1 ++ [y] ↔ z ∈ L ∨ (z ∈ (nbl w h sh o).take i ++ [y] ∧ H z = true) := fun z => by
      rw [List.mem_append, mm z, List.mem_append, List.mem_singleton]
      constructor
      · rintro ((q | q) | q)
        · exact Or.inl q
        · exact Or.inr ⟨Or.inl q.1, q.2⟩
        · exact Or.inr ⟨Or.inr q, by rw [q]; exact hHy⟩
      · rintro (q | ⟨q | q, q2⟩)
        · exact Or.inl (Or.inl q)
        · exact Or.inl (Or.inr ⟨q, q2⟩)
        · exact Or.inr q
    refine push_ok s1 l1 (fun c3 I2 oi sa => ⟨_, rfl, fun _ => ih I2 J2 (L1 ++ [y]) (pf.trans (List.prefix_append _ _)) nd2 (by simp; omega) mm2 ⟨fun q a b => (oi q a b).trans (o1.1 q a b), o2.2⟩ (sa y rfl) (fun x hx => ?_), fun c => absurd c (by decide)⟩) (fun c3 => ⟨_, rfl, fun c => absurd rfl c, fun _ => h0 I1 J2 (L1 ++ [y]) nd2 (by simp; omega) (fun z hz => ?_) o2⟩)
    · rw [sj x hx, e1 x hx, ← Bool.decide_or]
      exact decide_eq_decide.mpr (by simp)
    · rcases (mm2 z).mp hz with q | q
      · exact Or.inl q
      · right
        refine ⟨?_, q.2⟩
        rcases List.mem_append.mp q.1 with q | q
        · exact nbl_mem.mp (List.mem_of_mem_take q)
        · rw [List.mem_singleton.mp q]; exact hoy
end XC
