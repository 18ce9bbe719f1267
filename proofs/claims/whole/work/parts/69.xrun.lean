/-! the class: the search goes over all that fits -/
section XR
variable {I : tg_I} {J : tg_J} {P : Option Value → tg_I → tg_J → Prop} {w h sh : Nat} {M H B F N : Nat → Bool} {A : List Nat}
def ent (w h sh : Nat) (M N : Nat → Bool) (A : List Nat) (d : Nat) (f : Nat → Bool) : Bool := decide (d = 0) || okF (w * h) (nb w h sh) M N A d f
theorem fitsE (gk : gOk w h sh) (oS : okS (w * h) M H B F) (hN : ∀ o, N o = true → opS (w * h) H B o = true) (hA : ptL (w * h) (nb w h sh) H N A) (hl : A.length ≤ 14) (hr : srR w h sh M B N A I) {d : Nat} (hd : d ≤ A.length) {f : Nat → Bool} {x : Int32} (hx : bset d A f x) (hp : P (some (.int (bi (ent w h sh M N A d f)))) I J) : call pgX zX7_fits [.ref 20, .int x, .int (zI d)] I J P := by
  cases d with
  | zero => exact sfits_0 x hp
  | succ k => exact sfits_ok gk oS hN hA hl hr (by omega) hx hp
theorem visit (gk : gOk w h sh) (oS : okS (w * h) M H B F) (hN : ∀ o, N o = true → opS (w * h) H B o = true) (hA : ptL (w * h) (nb w h sh) H N A) (hl : A.length ≤ 14) {I0 : tg_I} (hr : srR w h sh M B N A I0) (h7 : I0 20 7 = zI A.length) : ∀ (L pre : List Nat), A = pre ++ L → ∀ (f : Nat → Bool) (x : Int32) (I : tg_I) (t : Nat), (∀ q, q ≠ 26 → q ≠ 27 → I q = I0 q) → bset pre.length A f x → t + 2 ^ (L.length + 1) ≤ 100000 → (∀ I' t', t' + 2 ≤ t + 2 ^ (L.length + 1) → wI I I' (fun i => if ent w h sh M N A pre.length f then pcn (okF (w * h) (nb w h sh) M N A) (Q26 A i) pre.length L f else 0) (fun i => if ent w h sh M N A pre.length f then pcn (okF (w * h) (nb w h sh) M N A) (Q27 A i) pre.length L f else 0) → l_X7_run_96 I' J P x (zI pre.length) (zI t')) → l_X7_run_53 I J P x (zI pre.length) (zI t) := by
  have srk : ∀ I : tg_I, (∀ q, q ≠ 26 → q ≠ 27 → I q = I0 q) → srR w h sh M B N A I := fun I o => by
    unfold srR at hr ⊢
    rw [o 22 (by decide) (by decide), o 23 (by decide) (by decide), o 24 (by decide) (by decide), o 25 (by decide) (by decide)]
    exact hr
  intro L
  induction L with
  | nil =>
    intro pre hpre f x I t o hx ht hp
    have hle : pre.length = A.length := by rw [hpre, List.append_nil]
    have ht2 : t + 2 ≤ 100000 := by simpa using ht
    refine s_X7_run_53 _ _ _ ?_
    rw [show (100000 : Int32) = zI (100000 : Nat) from rfl, z_le (by omega) (by omega) (by omega) (by omega)]
    refine ⟨fun c => absurd c (by simp at ht; omega), fun _ => fitsE gk oS hN hA hl (srk I o) (by omega) hx ⟨_, rfl, ?_⟩⟩
    rw [bi_0, o 20 (by decide) (by decide), h7, hle]
    cases e : ent w h sh M N A pre.length f
    · rw [e] at hp
      rw [hle] at e hp
      rw [e]
      exact ⟨fun _ => ⟨fun _ => hp I t (by simp) wI_0, fun c => absurd rfl c⟩, fun c => absurd rfl c⟩
    · rw [e] at hp
      rw [hle] at e hp hx
      rw [e]
      refine ⟨fun c => (by cases c), fun _ => ⟨fun _ => ⟨fun c => (by cases c), fun _ => note_ok hl (by rw [o 20 (by decide) (by decide), h7]) hx (fun I' wi => ⟨rfl, hp I' t (by simp) ?_⟩)⟩, fun c => absurd (Int32.le_refl _) c⟩⟩
      exact wI_eq wi (fun i => by rw [if_pos rfl]; rfl) (fun i => by rw [if_pos rfl]; rfl)
  | cons c L ih =>
    intro pre hpre f x I t o hx ht hp
    have hlen : A.length = pre.length + 1 + L.length := by rw [hpre]; simp; omega
    have hc : A.getD pre.length 0 = c := by rw [hpre]; simp
    have hpw : 2 ^ ((c :: L).length + 1) = 2 ^ (L.length + 1) + 2 ^ (L.length + 1) := by
      rw [List.length_cons, Nat.pow_succ (n := 2) (m := L.length + 1)]; omega
    have hpos : 2 ≤ 2 ^ (L.length + 1) := by rw [Nat.pow_succ]; have := Nat.two_pow_pos L.length; omega
    rw [hpw] at ht hp
    have hnd := hA.1
    have hne : ∀ j, j < pre.length → A.getD j 0 ≠ c := fun j hj e => by
      have := getD_nin hA.1 (show pre.length < A.length by omega)
      rw [hc, ← e] at this
      apply this
      have h2 : (A.take pre.length)[j]? = A[j]? := List.getElem?_take_of_lt hj
      have h3 : A[j]? = some (A.getD j 0) := by rw [List.getD_eq_getElem?_getD, List.getElem?_eq_getElem (show j < A.length by omega)]; rfl
      exact List.mem_of_getElem? (h2.trans h3)
    have hup : ∀ v j, j < pre.length → upb f c v (A.getD j 0) = f (A.getD j 0) := fun v j hj => by unfold upb; rw [if_neg (hne j hj)]
    have hself : ∀ v, upb f c v (A.getD pre.length 0) = v := fun v => by rw [hc]; unfold upb; rw [if_pos rfl]
    have hsplit : A = (pre ++ [c]) ++ L := by rw [hpre]; simp
    have hl1 : (pre ++ [c]).length = pre.length + 1 := by simp
    have ih' := ih (pre ++ [c]) hsplit
    rw [hl1] at ih'
    have he : ∀ v, ent w h sh M N A (pre.length + 1) (upb f c v) = okF (w * h) (nb w h sh) M N A (pre.length + 1) (upb f c v) := fun v => by
      unfold ent; rw [decide_eq_false (by omega), Bool.false_or]
    refine s_X7_run_53 _ _ _ ?_
    rw [show (100000 : Int32) = zI (100000 : Nat) from rfl, z_le (by omega) (by omega) (by omega) (by omega)]
    refine ⟨fun c => absurd c (by omega), fun _ => fitsE gk oS hN hA hl (srk I o) (by omega) hx ⟨_, rfl, ?_⟩⟩
    rw [bi_0, o 20 (by decide) (by decide), h7, z_le (by omega) (by omega) (by omega) (by omega), z_s, z_s]
    cases e : ent w h sh M N A pre.length f
    · rw [e] at hp
      exact ⟨fun _ => ⟨fun _ => hp I t (by omega) wI_0, fun c => absurd rfl c⟩, fun c => absurd rfl c⟩
    · rw [e] at hp
      refine ⟨fun c => (by cases c), fun _ => ⟨fun c => absurd c (by omega), fun _ => ?_⟩⟩
      refine ih' (upb f c false) x I (t + 1) o (bset_grow hx (hup false) (hself false)) (by omega) (fun I1 t1 ht1 w1 => ?_)
      have o1 : ∀ q, q ≠ 26 → q ≠ 27 → I1 q = I0 q := fun q a b => (w1.1 q a b).trans (o q a b)
      have hxd : bt x pre.length = false := by rw [hx _ (by omega), decide_eq_false (by omega)]; rfl
      refine s_X7_run_96 _ _ _ ?_
      rw [show (0 : Int32) = zI 0 from rfl, z_le (by omega) (by omega) (by omega) (by omega), z_eq (by omega) (by omega) (by omega) (by omega), z_s t1]
      have hsub : zI ((pre.length + 1 : Nat) : Int) - 1 = zI (pre.length : Nat) := by rw [show (1 : Int32) = zI 1 from rfl, z_sub]; congr 1; omega
      rw [hsub, bt_test x (show pre.length < 32 by omega), hxd]
      refine ⟨fun c => absurd c (by omega), fun _ => ⟨fun _ => ⟨fun _ x2 e2 => ?_, fun c => absurd c (by omega)⟩, fun c => (by cases c)⟩⟩
      have hx2 : bset (pre.length + 1) A (upb f c true) x2 := by
        rw [e2]
        exact bset_set (by omega) (bset_grow hx (hup false) (hself false)) (fun j hj => by rw [hup true j hj, hup false j hj]) (hself true)
      refine ih' (upb f c true) x2 I1 (t1 + 1) o1 hx2 (by omega) (fun I2 t2 ht2 w2 => ?_)
      have hx2d : bt x2 pre.length = true := by rw [hx2 _ (by omega), hself, decide_eq_true (by omega)]; rfl
      refine s_X7_run_96 _ _ _ ?_
      rw [show (0 : Int32) = zI 0 from rfl, z_le (by omega) (by omega) (by omega) (by omega), hsub, bt_test x2 (show pre.length < 32 by omega), hx2d]
      refine ⟨fun c => absurd c (by omega), fun _ => ⟨fun c => absurd rfl c, fun _ x3 e3 => ?_⟩⟩
      have hx3 : bset pre.length A f x3 := by
        rw [e3]
        exact bset_clear (by omega) hx2 (fun j hj => (hup true j hj).symm)
      have : x3 = x := b_ext (fun j hj => by rw [hx3 j hj, hx j hj])
      rw [this, show (-1 : Int32) = zI (-1) from rfl, z_add, show ((pre.length + 1 : Nat) : Int) + -1 = (pre.length : Nat) by omega]
      refine hp I2 t2 (by omega) (wI_eq (wI_tr w1 w2) (fun i => ?_) (fun i => ?_))
      · rw [if_pos rfl, he, he]; rfl
      · rw [if_pos rfl, he, he]; rfl
/-- the counts of a search -/
def srC (w h sh : Nat) (M N : Nat → Bool) (A : List Nat) (I : tg_I) : Prop := (∀ m, m < 15 → I 26 m = zI (wy (w * h) (nb w h sh) M N A m)) ∧ ∀ k m, k < A.length → m < 15 → I 27 (15 * k + m) = zI (wz (w * h) (nb w h sh) M N A (A.getD k 0) m)
theorem run_ok (gk : gOk w h sh) (oS : okS (w * h) M H B F) (hN : ∀ o, N o = true → opS (w * h) H B o = true) (hA : ptL (w * h) (nb w h sh) H N A) (hl : A.length ≤ 14) (hr : srR w h sh M B N A I) (h7 : I 20 7 = zI A.length) (hp : ∀ I', (∀ q, q ≠ 26 → q ≠ 27 → I' q = I q) → srC w h sh M N A I' → P none I' J) : call pgX zX7_run [.ref 20] I J P := by
  refine e_X7_run ?_
  have key := up_loop (L := fun k => ∀ I1, (∀ q, q ≠ 26 → I1 q = I q) → (∀ i, i < k → I1 26 i = 0) → l_X7_run_2 I1 J P (zI k)) 15 ?_ ?_ 0 (Nat.zero_le _) I (fun _ _ => rfl) (fun i hi => absurd hi (by omega))
  · exact key
  · intro I1 o1 z1
    refine s_X7_run_2 _ ⟨fun _ => ?_, fun c => absurd (Int32.le_refl _) c⟩
    have key2 := up_loop (L := fun k => ∀ I2, (∀ q, q ≠ 26 → q ≠ 27 → I2 q = I q) → (∀ i, i < 15 → I2 26 i = 0) → (∀ i, i < k → I2 27 i = 0) → l_X7_run_23 I2 J P (zI k)) (15 * A.length) ?_ ?_ 0 (Nat.zero_le _) I1 (fun q a _ => o1 q a) z1 (fun i hi => absurd hi (by omega))
    · exact key2
    · intro I2 o2 z2 z3
      have h72 : I2 20 7 = zI A.length := by rw [o2 20 (by decide) (by decide), h7]
      have hm : zI A.length * 15 = zI ((15 * A.length : Nat) : Int) := by rw [show (15 : Int32) = zI 15 from rfl, z_mul]; congr 1; omega
      refine s_X7_run_23 _ ⟨fun _ => ?_, fun c => absurd (by rw [h72, hm]; exact Int32.le_refl _) c⟩
      have sr2 : srR w h sh M B N A I2 := by
        unfold srR at hr ⊢
        rw [o2 22 (by decide) (by decide), o2 23 (by decide) (by decide), o2 24 (by decide) (by decide), o2 25 (by decide) (by decide)]
        exact hr
      have hpw : 2 ^ (A.length + 1) ≤ 2 ^ 15 := Nat.pow_le_pow_right (by decide) (by omega)
      refine visit gk oS hN hA hl sr2 h72 A [] rfl (fun _ => false) 0 I2 0 (fun _ _ _ => rfl) (fun j hj => by rw [b_0]; simp) (by omega) (fun I3 t3 ht3 w3 => ?_)
      refine s_X7_run_96 _ _ _ ⟨fun _ => ⟨fun c => absurd rfl c, fun _ => ?_⟩, fun c => absurd (by decide) c⟩
      have hs : ∀ i j, i < w * h → j < w * h → nb w h sh i j = true → nb w h sh j i = true := fun i j a b c => nb_sym1 gk a c
      have hAn : ∀ x, x ∈ A → x < w * h := fun x hx => (hA.2.1 x hx).1
      have he : ent w h sh M N A 0 (fun _ => false) = true := rfl
      refine hp I3 (fun q a b => (w3.1 q a b).trans (o2 q a b)) ⟨fun m hm => ?_, fun k m hk hm => ?_⟩
      · rw [w3.2.1, z2 m hm]
        dsimp only [List.length_nil]
        rw [if_pos he, pcn_fit hs hAn hA.1]
        rw [show (0 : Int32) = zI 0 from rfl, z_add, Int.zero_add]
        congr 2
        unfold wy
        refine cnt_cong _ _ (fun g _ => ?_)
        unfold Q26
        rw [Bool.and_comm]
        congr 1
        exact decide_eq_decide.mpr ⟨fun q => q.symm, fun q => q.symm⟩
      · rw [w3.2.2, z3 _ (by omega)]
        dsimp only [List.length_nil]
        rw [if_pos he, pcn_fit hs hAn hA.1]
        rw [show (0 : Int32) = zI 0 from rfl, z_add, Int.zero_add]
        congr 2
        unfold wz
        refine cnt_cong _ _ (fun g _ => ?_)
        unfold Q27
        rw [show (15 * k + m) / 15 = k by omega, show (15 * k + m) % 15 = m by omega]
        rw [show decide (k < A.length ∧ m = A.countP g) = decide (A.countP g = m) from decide_eq_decide.mpr ⟨fun q => q.2.symm, fun q => ⟨hk, q.symm⟩⟩]
        cases fitF (w * h) (nb w h sh) M N A g <;> simp
    · intro k hk ih I2 o2 z2 z3
      have h72 : I2 20 7 = zI A.length := by rw [o2 20 (by decide) (by decide), h7]
      have hm : zI A.length * 15 = zI ((15 * A.length : Nat) : Int) := by rw [show (15 : Int32) = zI 15 from rfl, z_mul]; congr 1; omega
      refine s_X7_run_23 _ ?_
      rw [h72, hm, z_le (by omega) (by omega) (by omega) (by omega), z_in (by omega) (by omega), z_cl (by omega), z_s]
      refine ⟨fun c => absurd c (by omega), fun _ => ⟨by omega, fun I3 e3 => ih I3 (fun q a b => by rw [e3, u2_other _ _ _ _ b]; exact o2 q a b) (fun i hi => by rw [e3, u2_other _ _ _ _ (by decide)]; exact z2 i hi) (fun i hi => ?_)⟩⟩
      rw [e3, u2_at]
      by_cases e : i = k
      · rw [if_pos e]
      · rw [if_neg e]; exact z3 i (by omega)
  · intro k hk ih I1 o1 z1
    refine s_X7_run_2 _ ?_
    rw [show (15 : Int32) = zI (15 : Nat) from rfl, z_le (by omega) (by omega) (by omega) (by omega), z_in (by omega) (by omega), z_cl (by omega), z_s]
    refine ⟨fun c => absurd c (by omega), fun _ => ⟨by omega, fun I3 e3 => ih I3 (fun q a => by rw [e3, u2_other _ _ _ _ a]; exact o1 q a) (fun i hi => ?_)⟩⟩
    rw [e3, u2_at]
    by_cases e : i = k
    · rw [if_pos e]
    · rw [if_neg e]; exact z1 i (by omega)
theorem found_ok (hl : A.length ≤ 14) (h7 : I 20 7 = zI A.length) (hc : srC w h sh M N A I) {m : Nat} (hm : m < 15) (hp : P (some (.int (zI (wy (w * h) (nb w h sh) M N A m)))) I J) : call pgX zX7_found [.ref 20, .int (zI m)] I J P := by
  refine e_X7_found _ ?_
  rw [h7, show (0 : Int32) = zI 0 from rfl, z_lt (by omega) (by omega) (by omega) (by omega), z_lt (by omega) (by omega) (by omega) (by omega), z_in (by omega) (by omega), z_cl (by omega), hc.1 m hm]
  refine ⟨fun c => absurd c (by omega), fun _ => ⟨fun c => ?_, fun c => ⟨by omega, hp⟩⟩⟩
  rw [wy_big (by omega)] at hp
  exact hp
theorem holding_ok (hl : A.length ≤ 14) (h7 : I 20 7 = zI A.length) (hc : srC w h sh M N A I) {k m : Nat} (hk : k < A.length) (hm : m < 15) (hp : P (some (.int (zI (wz (w * h) (nb w h sh) M N A (A.getD k 0) m)))) I J) : call pgX zX7_foundHolding [.ref 20, .int (zI k), .int (zI m)] I J P := by
  refine e_X7_foundHolding _ _ ?_
  rw [h7, show (0 : Int32) = zI 0 from rfl, z_lt (by omega) (by omega) (by omega) (by omega), z_le (by omega) (by omega) (by omega) (by omega), z_lt (by omega) (by omega) (by omega) (by omega), z_lt (by omega) (by omega) (by omega) (by omega), show (15 : Int32) = zI 15 from rfl, z_mul, z_add, show (k : Int) * 15 + (m : Int) = ((15 * k + m : Nat) : Int) by omega, z_in (by omega) (by omega), z_cl (by omega), hc.2 k m hk hm]
  refine ⟨fun c => absurd c (by omega), fun _ => ⟨fun c => absurd c (by omega), fun _ => ⟨fun c => absurd c (by omega), fun _ => ⟨fun c => ?_, fun c => ⟨by omega, hp⟩⟩⟩⟩⟩
  have h1 := wz_le (n := w * h) (nbr := nb w h sh) (M := M) (N := N) (A := A) (A.getD k 0) m
  rw [wy_big (show A.length < m by omega)] at h1
  rw [show wz (w * h) (nb w h sh) M N A (A.getD k 0) m = 0 by omega] at hp
  exact hp
end XR
