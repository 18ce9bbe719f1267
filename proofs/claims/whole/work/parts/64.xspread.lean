/-! the class: one part of the border -/
section XS
variable {I : tg_I} {J : tg_J} {P : Option Value → tg_I → tg_J → Prop} {w h sh b : Nat} {M H B F : Nat → Bool}
def spI (w h sh : Nat) (H N E0 : Nat → Bool) (s : Nat) (L : List Nat) : Prop := L.Nodup ∧ ∀ x, x ∈ L → con (w * h) (ajw w h sh N) (bdr w h sh H N) s x ∧ E0 x = false
/-- all that an open cell sees is listed -/
def spC (w h sh : Nat) (H N E0 : Nat → Bool) (L : List Nat) (o : Nat) : Prop := N o = true → ∀ y, nb w h sh o y = true → H y = true → E0 y = true ∨ y ∈ L
theorem spI_len {N E0 : Nat → Bool} {s f : Nat} {L : List Nat} (hS : ∀ i, bdr w h sh H N i = true → i < w * h) (hs : bdr w h sh H N s = true) (hf : fb_ct E0 (w * h) = f) (hL : spI w h sh H N E0 s L) : f + L.length ≤ w * h := by
  have h1 := cp_ct (n := w * h) (p := fun _ => true) L hL.1 (fun x hx => hS x (con_S hs (hL.2 x hx).1))
  rw [List.countP_true] at h1
  rw [h1, ← hf, ← fb_ct_or (fun k hk q => by
    simp only [Bool.and_true, decide_eq_true_eq] at q
    have := (hL.2 k q.2).2
    rw [q.1] at this; cases this)]
  exact fb_ct_le _ _
theorem spI_step {N E0 : Nat → Bool} {s o a : Nat} {L : List Nat} (gk : gOk w h sh) (hS : ∀ i, bdr w h sh H N i = true → i < w * h) (hs : bdr w h sh H N s = true) (hL : spI w h sh H N E0 s L) (ha : a ∈ L) (hao : nb w h sh a o = true) (hN : N o = true) : spI w h sh H N E0 s (L ++ (nbl w h sh o).filter (fun y => H y && !(E0 y || decide (y ∈ L)))) := by
  have han := hS a (con_S hs (hL.2 a ha).1)
  refine ⟨List.nodup_append.mpr ⟨hL.1, List.Nodup.sublist List.filter_sublist (nbl_nodup o), fun x hx y hy e => ?_⟩, fun x hx => ?_⟩
  · subst e
    have := (List.mem_filter.mp hy).2
    rw [decide_eq_true hx] at this
    simp at this
  · rcases List.mem_append.mp hx with q | q
    · exact hL.2 x q
    · obtain ⟨q1, q2⟩ := List.mem_filter.mp q
      simp only [Bool.and_eq_true, Bool.not_eq_true', Bool.or_eq_false_iff] at q2
      have hno := nbl_mem.mp q1
      have hon := nb_lt hao
      have hxn := nb_lt hno
      refine ⟨con_step (hS s hs) han hxn (hL.2 a ha).1 (decide_eq_true ⟨o, hon, hN, nb_sym1 gk han hao, hno⟩) ?_, q2.2.1⟩
      exact bdr_iff.mpr ⟨q2.1, o, hon, nb_sym1 gk hon hno, hN⟩
/-- what one part's listing changes -/
def oS (f : Nat) (I I' : tg_I) (J J' : tg_J) : Prop := (∀ q, q ≠ 31 → q ≠ 33 → I' q = I q) ∧ (∀ j, j < f → I' 31 j = I 31 j) ∧ onlyJ 28 J J'
theorem oS.out {f : Nat} {I I1 : tg_I} {J J1 : tg_J} (h1 : oS f I I1 J J1) : outP I I1 J J1 := fun q hq => ⟨h1.1 q (by omega) (by omega), h1.2.2 q (by omega)⟩
theorem sp68 {N E0 : Nat → Bool} {s f hd a : Nat} {L0 : List Nat} {I0 : tg_I} {J0 : tg_J} (hb : isBd b) (gk : gOk w h sh) (g0 : gridX b w h sh I0 J0) (v0 : bst b (w * h) M H B F J0) (hN : N = opS (w * h) H B) (hS : ∀ i, bdr w h sh H N i = true → i < w * h) (hs : bdr w h sh H N s = true) (hf : fb_ct E0 (w * h) = f) (ha : a ∈ L0) (hL0 : spI w h sh H N E0 s L0)
    (hp : ∀ I' J' L, L0 <+: L → spI w h sh H N E0 s L → oS f I0 I' J0 J' → I' 33 = I 33 → (∀ i, i < 128 → sB J' 28 i = (E0 i || decide (i ∈ L))) → qF f L I' → (∀ o, nb w h sh a o = true → spC w h sh H N E0 L o) → l_X5_spread_31 I' J' P b (zI ((f + L.length : Nat) : Int)) (zI ((hd + 1 : Nat) : Int)))
    (o0 : oS f I0 I J0 J) (s0 : ∀ i, i < 128 → sB J 28 i = (E0 i || decide (i ∈ L0))) (q0 : qF f L0 I) : l_X5_spread_68 I J P b (zI ((f + L0.length : Nat) : Int)) (zI hd) (zI a) 0 := by
  obtain ⟨hn1, hn2⟩ := mul_le100 gk
  have han := hS a (con_S hs (hL0.2 a ha).1)
  have key := up_loop (L := fun i => ∀ I1 J1 L, L0 <+: L → spI w h sh H N E0 s L → oS f I0 I1 J0 J1 → I1 33 = I 33 → (∀ i, i < 128 → sB J1 28 i = (E0 i || decide (i ∈ L))) → qF f L I1 → (∀ o, o ∈ (nbl w h sh a).take i → spC w h sh H N E0 L o) → l_X5_spread_68 I1 J1 P b (zI ((f + L.length : Nat) : Int)) (zI hd) (zI a) (zI i)) (nbl w h sh a).length ?_ ?_ 0 (Nat.zero_le _) I J L0 (List.prefix_refl _) hL0 o0 rfl s0 q0 (fun o ho => by simp at ho)
  · exact key
  · intro I1 J1 L pf sp o1 k33 s1 q1 c1
    have g1 := o1.out.grid hb g0
    obtain ⟨rl, rl8⟩ := row_len gk g1 han
    refine s_X5_spread_68 _ _ _ _ _ hb ?_
    rw [z_in (by omega) (by omega), z_cl (by omega), rl, z_s]
    refine ⟨by omega, fun _ => hp I1 J1 L pf sp o1 k33 s1 q1 (fun o ho => c1 o (by rw [List.take_length]; exact nbl_mem.mpr ho)), fun c => absurd (Int32.le_refl _) c⟩
  · intro i hi ih I1 J1 L pf sp o1 k33 s1 q1 c1
    have g1 := o1.out.grid hb g0
    have v1 := o1.out.bst hb v0
    obtain ⟨rl, rl8⟩ := row_len gk g1 han
    have hcell := row_at gk g1 han hi
    have hmem := getD_mem hi
    rw [take_s hi] at ih
    generalize (nbl w h sh a).getD i 0 = o at *
    have hao := nbl_mem.mp hmem
    have hon := nb_lt hao
    have hlen := spI_len hS hs hf sp
    refine s_X5_spread_68 _ _ _ _ _ hb ?_
    rw [z_in (by omega) (by omega), z_cl (by omega), rl, z_le (by omega) (by omega) (by omega) (by omega), show (8 : Int32) = zI 8 from rfl, z_mul, z_add, z_in (by omega) (by omega), show (a : Int) * 8 + (i : Int) = ((8 * a + i : Nat) : Int) by omega, z_cl (by omega), hcell, z_s i]
    refine ⟨by omega, fun c => absurd c (by omega), fun _ => ⟨by omega, fun x1 ex => ?_⟩⟩
    rw [ex]
    refine has_ok (bd_bits hb (by decide) (by decide)) (by omega) ⟨_, rfl, ?_⟩
    rw [(v1 o (by omega)).2.2.1, bi_0, ← hN]
    refine ⟨fun c => ih I1 J1 L pf sp o1 k33 s1 q1 (fun o' ho' => ?_), fun c => ?_⟩
    · rcases List.mem_append.mp ho' with q | q
      · exact c1 o' q
      · rw [List.mem_singleton.mp q]
        intro q2; rw [c] at q2; cases q2
    · have hNo : N o = true := by simpa using c
      have sp2 := spI_step gk hS hs sp (pf.subset ha) hao hNo
      have hlen2 := spI_len hS hs hf sp2
      refine listAround_ok (E := fun y => E0 y || decide (y ∈ L)) hb gk g1 v1 hon s1 q1 (by omega) (fun I2 J2 o2 s2 q2 => ⟨_, rfl, ?_⟩)
      have hmemL : ∀ y, y ∈ L ++ (nbl w h sh o).filter (fun y => H y && !(E0 y || decide (y ∈ L))) ↔ y ∈ L ∨ (nb w h sh o y = true ∧ H y = true ∧ E0 y = false ∧ ¬ y ∈ L) := fun y => by
        rw [List.mem_append, List.mem_filter, nbl_mem]
        simp
      refine ih I2 J2 _ (pf.trans (List.prefix_append _ _)) sp2 ⟨fun q x y => (o2.1 q x).trans (o1.1 q x y), fun j hj => (o2.2.1 j hj).trans (o1.2.1 j hj), fun q hq => (o2.2.2 q hq).trans (o1.2.2 q hq)⟩ ((o2.1 33 (by decide)).trans k33) (fun x hx => ?_) q2 (fun o' ho' => ?_)
      · rw [s2 x hx]
        cases e1 : E0 x
        · by_cases e2 : x ∈ L
          · rw [decide_eq_true e2, decide_eq_true ((hmemL x).mpr (Or.inl e2))]; rfl
          · rw [decide_eq_false e2]
            cases e3 : nb w h sh o x
            · rw [decide_eq_false (fun q => by rcases (hmemL x).mp q with z | z; exact e2 z; rw [z.1] at e3; cases e3)]; rfl
            · cases e4 : H x
              · rw [decide_eq_false (fun q => by rcases (hmemL x).mp q with z | z; exact e2 z; rw [z.2.1] at e4; cases e4)]; rfl
              · rw [decide_eq_true ((hmemL x).mpr (Or.inr ⟨e3, e4, e1, e2⟩))]; rfl
        · rfl
      · intro hN' y hy hHy
        rcases List.mem_append.mp ho' with q | q
        · rcases c1 o' q hN' y hy hHy with z | z
          · exact Or.inl z
          · exact Or.inr (List.mem_append_left _ z)
        · rw [List.mem_singleton.mp q] at hy
          cases e1 : E0 y
          · right
            rw [hmemL]
            by_cases e2 : y ∈ L
            · exact Or.inl e2
            · exact Or.inr ⟨hy, hHy, e1, e2⟩
          · exact Or.inl rfl
theorem spread_ok {N E0 : Nat → Bool} {s f : Nat} (hb : isBd b) (gk : gOk w h sh) (g : gridX b w h sh I J) (v : bst b (w * h) M H B F J) (hN : N = opS (w * h) H B) (hS : ∀ i, bdr w h sh H N i = true → i < w * h) (hs : bdr w h sh H N s = true) (hf : fb_ct E0 (w * h) = f) (hE : ∀ y, con (w * h) (ajw w h sh N) (bdr w h sh H N) s y → E0 y = false) (s0 : ∀ i, i < 128 → sB J 28 i = E0 i)
    (hp : ∀ I' J' L, L.Nodup → (∀ x, x ∈ L ↔ con (w * h) (ajw w h sh N) (bdr w h sh H N) s x) → f + L.length ≤ w * h → oS f I I' J J' → (∀ x, x ∈ L → I' 33 x = I 17 14) → (∀ x, x ∉ L → I' 33 x = I 33 x) → (∀ i, i < 128 → sB J' 28 i = (E0 i || decide (i ∈ L))) → qF f L I' → P (some (.int (zI ((f + L.length : Nat) : Int)))) I' J') : call pgX zX5_spread [.ref 17, .ref b, .int (zI s), .int (zI f)] I J P := by
  obtain ⟨hn1, hn2⟩ := mul_le100 gk
  have hsn := hS s hs
  have sp1 : spI w h sh H N E0 s [s] := ⟨by simp, fun x hx => by rw [List.mem_singleton.mp hx]; exact ⟨con_refl, hE s con_refl⟩⟩
  have hl1 := spI_len hS hs hf sp1
  rw [show [s].length = 1 from rfl] at hl1
  have fin : ∀ (hd : Nat) (L : List Nat) (I1 : tg_I) (J1 : tg_J), L.length ≤ hd → spI w h sh H N E0 s L → s ∈ L → oS f I I1 J J1 → (∀ (j x : Nat), j < hd → L[j]? = some x → I1 33 x = I 17 14 ∧ ∀ o, nb w h sh x o = true → spC w h sh H N E0 L o) → (∀ x, x ∉ L → I1 33 x = I 33 x) → (∀ i, i < 128 → sB J1 28 i = (E0 i || decide (i ∈ L))) → qF f L I1 → P (some (.int (zI ((f + L.length : Nat) : Int)))) I1 J1 := by
    intro hd L I1 J1 hh sp hsL o1 c1 c2 s1 q1
    have hmem : ∀ x, x ∈ L → I1 33 x = I 17 14 ∧ ∀ o, nb w h sh x o = true → spC w h sh H N E0 L o := fun x hx => by
      obtain ⟨j, hj⟩ := List.getElem?_of_mem hx
      have := (List.getElem?_eq_some_iff.mp hj).1
      exact c1 j x (by omega) hj
    refine hp I1 J1 L sp.1 (fun x => ⟨fun hx => (sp.2 x hx).1, fun hx => ?_⟩) (spI_len hS hs hf sp) o1 (fun x hx => (hmem x hx).1) c2 s1 q1
    refine (rch_closed (C := fun x => x ∈ L) hsL (fun x y hx c hn hy => ?_) (w * h) x hx)
    obtain ⟨o, o1, o2, o3, o4⟩ := of_decide_eq_true hn
    rcases (hmem x c).2 o (nb_sym1 gk o1 o3) o2 y o4 (bdr_iff.mp hy).1 with z | z
    · have hc : con (w * h) (ajw w h sh N) (bdr w h sh H N) s y := con_step hsn hx (hS y hy) (sp.2 x c).1 hn hy
      rw [hE y hc] at z; cases z
    · exact z
  have main : ∀ (m hd : Nat) (L : List Nat) (I1 : tg_I) (J1 : tg_J), w * h ≤ f + hd + m → hd ≤ L.length → spI w h sh H N E0 s L → s ∈ L → oS f I I1 J J1 → (∀ (j x : Nat), j < hd → L[j]? = some x → I1 33 x = I 17 14 ∧ ∀ o, nb w h sh x o = true → spC w h sh H N E0 L o) → (∀ x, x ∉ L → I1 33 x = I 33 x) → (∀ i, i < 128 → sB J1 28 i = (E0 i || decide (i ∈ L))) → qF f L I1 → l_X5_spread_31 I1 J1 P b (zI ((f + L.length : Nat) : Int)) (zI ((f + hd : Nat) : Int)) := by
    intro m
    induction m with
    | zero =>
      intro hd L I1 J1 hm hh sp hsL o1 c1 c2 s1 q1
      have hlen := spI_len hS hs hf sp
      refine s_X5_spread_31 _ _ _ hb ?_
      rw [z_le (by omega) (by omega) (by omega) (by omega)]
      exact ⟨fun _ => fin hd L I1 J1 (by omega) sp hsL o1 c1 c2 s1 q1, fun c => absurd c (by omega)⟩
    | succ m ihm =>
      intro hd L I1 J1 hm hh sp hsL o1 c1 c2 s1 q1
      have hlen := spI_len hS hs hf sp
      refine s_X5_spread_31 _ _ _ hb ?_
      rw [z_le (by omega) (by omega) (by omega) (by omega), show (100 : Int32) = zI (100 : Nat) from rfl, z_le (by omega) (by omega) (by omega) (by omega), z_in (by omega) (by omega), z_cl (by omega)]
      refine ⟨fun c => fin hd L I1 J1 (by omega) sp hsL o1 c1 c2 s1 q1, fun c => ⟨fun c2 => absurd c2 (by omega), fun _ => ⟨by omega, fun x1 e1 => ?_⟩⟩⟩
      have hhd : hd < L.length := by omega
      have hget : L[hd]? = some (L.getD hd 0) := by rw [List.getD_eq_getElem?_getD, List.getElem?_eq_getElem hhd]; rfl
      have haL := getD_mem hhd
      rw [q1 hd _ hget] at e1
      generalize L.getD hd 0 = a at *
      have han := hS a (con_S hs (sp.2 a haL).1)
      rw [e1, z_in (by omega) (by omega), z_cl (by omega)]
      refine ⟨by omega, fun I2 eI => ?_⟩
      have o2 : oS f I I2 J J1 := ⟨fun q x y => by rw [eI, u2_other _ _ _ _ y]; exact o1.1 q x y, fun j hj => by rw [eI, u2_other _ _ _ _ (by decide)]; exact o1.2.1 j hj, o1.2.2⟩
      refine sp68 (hd := f + hd) (L0 := L) (I0 := I) (J0 := J) hb gk g v hN hS hs hf haL sp (fun I3 J3 L3 pf sp3 o3 k33 s3 q3 c3 => ?_) o2 s1 (fun j x hx => by rw [eI, u2_other _ _ _ _ (by decide)]; exact q1 j x hx)
      have hpl := pf.length_le
      have pre : ∀ (j x : Nat), j < L.length → L3[j]? = some x → L[j]? = some x := fun j x hj hx => by
        obtain ⟨T, hT⟩ := pf
        rw [← hT, List.getElem?_append_left hj] at hx
        exact hx
      refine ihm (hd + 1) L3 I3 J3 (by omega) (by omega) sp3 (pf.subset hsL) o3 (fun j x hj hx => ?_) (fun x hx => ?_) s3 q3
      · have hjx := pre j x (by omega) hx
        rw [k33, eI, u2_at]
        by_cases e : j = hd
        · rw [e, hget] at hjx
          have : a = x := Option.some.inj hjx
          subst this
          rw [if_pos rfl, o1.1 17 (by decide) (by decide)]
          exact ⟨rfl, c3⟩
        · obtain ⟨d1, d2⟩ := c1 j x (by omega) hjx
          refine ⟨?_, fun o ho hN' y hy hHy => ?_⟩
          · by_cases e2 : x = a
            · rw [if_pos e2, o1.1 17 (by decide) (by decide)]
            · rw [if_neg e2]; exact d1
          · rcases d2 o ho hN' y hy hHy with z | z
            · exact Or.inl z
            · exact Or.inr (pf.subset z)
      · rw [k33, eI, u2_at, if_neg (fun e => hx (by rw [e]; exact pf.subset haL))]
        exact c2 x (fun q => hx (pf.subset q))
  refine e_X5_spread _ _ _ hb ?_
  rw [show (100 : Int32) = zI (100 : Nat) from rfl, z_lt (by omega) (by omega) (by omega) (by omega), z_in (by omega) (by omega), z_cl (by omega), z_s]
  refine ⟨fun _ => ⟨by omega, fun I1 e1 => add_ok bits28 (by omega) (fun J1 oj sj => ⟨rfl, ?_⟩)⟩, fun c => absurd (by omega) c⟩
  have := main (w * h) 0 [s] I1 J1 (by omega) (by omega) sp1 (by simp) ⟨fun q x y => by rw [e1, u2_other _ _ _ _ x], fun j hj => by rw [e1, u2_at, if_neg (by omega)], oj⟩ (fun j x hj => absurd hj (by omega)) (fun x _ => by rw [e1, u2_other _ _ _ _ (by decide)]) (fun i hi => by rw [sj i hi, s0 i hi]; simp) (fun j x hx => ?_)
  · exact this
  · have hl := (List.getElem?_eq_some_iff.mp hx).1
    rw [show [s].length = 1 from rfl] at hl
    rw [show j = 0 by omega] at hx ⊢
    simp at hx
    rw [e1, u2_at, if_pos (by omega), hx]
end XS
