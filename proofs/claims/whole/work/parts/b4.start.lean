/-! the law's start: both constructors; the first state -/
def h0D : Nat → hS := fun _ => (fun _ => false, fun _ => false, fun _ => false)
def S0 : dS := ((1, 1, 0), (fun _ => false, fun i => decide (i < 1 * 1), fun _ => false, fun _ => false), (0, h0D), (0, fun _ => false, fun _ => false, 0))
theorem g110 : gOk 1 1 0 := ⟨by decide, by decide, by decide, by decide, by decide, by decide⟩
theorem okD_0 : okD S0 := okD_new g110 (fun i q => by cases q) (by decide)
def nPX : nP := fun N ad cA W => N = pgX.2 ∧ ∃ (I : tg_I) (J : tg_J), relX S0 I J ∧ W = tg_W ad cA pgX I J
def nPM : nP := fun N ad cA W => N = pgM.2 ∧ ∃ (I : tg_I) (J : tg_J), relM S0 I ∧ W = tg_W ad cA pgM I J
theorem sB_0 {k : Nat} (i : Nat) : sB nJ0 k i = false := by
  unfold sB bh
  have e0 : nJ0 k 0 = 0 := rfl
  have e1 : nJ0 k 1 = 0 := rfl
  simp [e0, e1, bq_0]
theorem desk_0 : ncall zX8_init 63 7698 [.ref 0] wnx_0 nPX := by
  refine nkDesk ?_
  refine start_ok (w := 1) (h := 1) (sh := 0) isBd1 g110 (fun I' J' o g a v => ⟨rfl, fun ad cA => ⟨rfl, I', J', ?_, rfl⟩⟩)
  refine ⟨g, a, v, ?_, fun m hm => absurd hm (Nat.not_lt_zero m), ?_, fun i _ => ?_, fun i _ => ?_, ?_⟩
  · rw [o.1 15 (by decide) (by decide) (by decide)]; rfl
  · rw [o.1 0 (by decide) (by decide) (by decide)]; rfl
  · rw [sB_of (o.2 62 (Or.inr (by decide)))]; exact sB_0 i
  · rw [sB_of (o.2 63 (Or.inr (by decide)))]; exact sB_0 i
  · rw [o.1 46 (by decide) (by decide) (by decide)]; rfl
theorem model_0 : ncall zX9_init 25 44906 [.ref 0] wnm_130 nPM := by
  refine nkModel ?_
  refine layOut_ok (w := 1) (h := 1) (sh := 0) g110 (fun I' o1 o2 s a => ⟨rfl, fun ad cA => ⟨rfl, I', nJ0, ?_, rfl⟩⟩)
  refine ⟨⟨s, a.1, fun i hi => ⟨?_, ?_, ?_⟩⟩, ?_, fun m i hm => absurd hm (Nat.not_lt_zero m), ?_, fun i _ => ?_, fun i _ => ?_, ?_⟩
  · rw [o1 2 (by decide) (by decide)]; rfl
  · rw [o1 3 (by decide) (by decide)]
    unfold sc
    rw [if_pos (by
      simp only [Bool.or_eq_true, decide_eq_true_eq]
      omega)]
    rfl
  · rw [o1 4 (by decide) (by decide)]; rfl
  · rw [o2 10 (by decide)]; rfl
  · rw [o2 16 (by decide)]; rfl
  · rw [o1 9 (by decide) (by decide)]; rfl
  · rw [o1 10 (by decide) (by decide)]; rfl
  · rw [o2 8 (by decide)]; rfl
theorem nNew_known {own : String} {idx ci : Nat} {fs : List Value} {s : State} {a : Array Value} (h : nNew own idx ci fs) (hts : ∀ w ∈ gt_tbl, w.before a s = true) : ∃ (cC : ClassId) (iS : Nat → Nat), ∀ q : vw_C, vwCl[ci]? = some q → u_Kn s q.1 q.2.1 q.2.2 cC iS := by
  obtain ⟨C, T, n, ty, h1, h2, h3, h4, h5, h6, h7, h8, h9⟩ := h
  obtain ⟨cC, iS, hk⟩ := u_known (ws := gt_tbl) (C := C) (T := T) (N := n) hts h2 (hts _ h5)
  refine ⟨cC, iS, fun q hq => ?_⟩
  rw [h1] at hq
  cases hq
  exact hk
theorem arr_known {s : State} {a : Array Value} {ty : FieldType} (hty : ty = .int ∨ ty = .boolean ∨ ty = .long) (h : (Cond.arrayClass ty).before a s = true) : ∃ cA : ClassId, ArrOfT s cA ty ∧ va_RA s cA ty := by
  obtain ⟨cA, kA, comp, h1, h2, h3⟩ := Cond.arrayClass_spec h
  refine ⟨cA, fun n z => ⟨fun k h => (by cases h), kA, h2, comp, h3⟩, ?_⟩
  rcases hty with rfl | rfl | rfl <;> exact h1
theorem l_known {s : State} {a : Array Value} (hts : ∀ w ∈ gt_tbl, w.before a s = true) : ∃ (D : va_G) (cA : Nat → ClassId), va_K D vwCl (tg_ty cA) s := by
  have hc : ∀ k : Nat, ∃ (cC : ClassId) (iS : Nat → Nat), ∀ q : vw_C, vwCl[k]? = some q → u_Kn s q.1 q.2.1 q.2.2 cC iS := by
    intro k
    match k with
    | 0 => exact nNew_known nnX1_18 hts
    | 1 => exact nNew_known nnX8_9 hts
    | 2 => exact nNew_known nnX1_9 hts
    | 3 => exact nNew_known nnX8_39 hts
    | 4 => exact nNew_known nnX8_16 hts
    | 5 => exact nNew_known nnX8_23 hts
    | 6 => exact nNew_known nnX8_30 hts
    | 7 => exact nNew_known nnX5_21 hts
    | 8 => exact nNew_known nnL_7 hts
    | 9 => exact nNew_known nnL_10 hts
    | k + 10 => exact ⟨0, fun _ => 0, fun q hq => by simp [vwCl] at hq⟩
  obtain ⟨c0, a0⟩ := arr_known (Or.inl rfl) (hts _ ac_int)
  obtain ⟨c1, a1⟩ := arr_known (Or.inr (Or.inl rfl)) (hts _ ac_boolean)
  obtain ⟨c2, a2⟩ := arr_known (Or.inr (Or.inr rfl)) (hts _ ac_long)
  refine ⟨(fun k => Classical.choose (hc k), fun k => Classical.choose (Classical.choose_spec (hc k))), fun k => if k = 0 then c0 else if k = 1 then c1 else c2, fun k q hq => Classical.choose_spec (Classical.choose_spec (hc k)) q hq, fun k q hq => ?_⟩
  match k, hq with
  | 0, hq => cases hq; exact a0
  | 1, hq => cases hq; exact a1
  | 2, hq => cases hq; exact a2
  | k + 3, hq => simp [tg_ty] at hq
/-- an object made in the law, its constructor called; another world is kept -/
theorem l_ctor {p : Program} {l : Launch} {e : Env} {s : State} {m : MethodId} {below : List Frame} {meth : Method} {c : Code} {b L : Nat} {xs : Nat → Int32} {D : va_G} {cA : Nat → ClassId} {H : Heap} {locs : List Loc} {ls : Array Slot} {cc dd pc ci i1 i2 mc ms : Nat} {fs : List Value} {Zi : zM} {P : nP} {Q : State → Prop} {W0 : va_W} {lv : List (Nat × Value)}
    (C0 : lw_At p s m meth c b L xs) (hK : va_K D vwCl (tg_ty cA) s) (hN : nst s) (hS : va_S (l_A s) s.heap H locs) (d1 : decode cL_law pc = .ok (.new i1, 3)) (d2 : decode cL_law (pc + 3) = .ok (.dup, 1)) (d3 : decode cL_law (pc + 4) = .ok (.invokespecial i2, 3)) (hf : nNew "MineDeskLaw" i1 ci fs) (hz : zNi Zi 0) (hm : Cond.methodLink "MineDeskLaw" i2 (z_y Zi) ∈ gt_tbl) (hR : z_f Zi + 1 ≤ 12 ∧ 8 + (z_n Zi + 11) + z_l Zi ≤ 482) (hc : cc + 1 + mc ≤ 90) (hs : dd + fs.length + ms ≤ 52650) (h : ncall Zi mc ms [.ref 0] [.inr (ci, fs)] P) (hl : lv_has ls 4 lv) (hP0 : va_P D vwCl W0 H) (hD0 : va_D (l_A s) W0)
    (kk : ∀ (ad : Nat → Nat) (N : Nat) (W1 : va_W) (H1 : Heap) (locs1 : List Loc), P N ad cA W1 → tg_D ad N (l_A s) → (∀ (i k : Nat) (x : Nat × va_E), i < N → W0[k]? = some x → ad i ≠ x.1) → va_P D vwCl W1 H1 → va_P D vwCl W0 H1 → va_S (l_A s) s.heap H1 locs1 → W p l e room_1 s m #[Value.ref b] below meth c H1 locs1 (cc + 1 + mc) (dd + fs.length + ms) Q (F0 m (pc + 7) ls [.ref (ad 0)])) :
    W p l e room_1 s m #[Value.ref b] below meth c H locs cc dd Q (F0 m pc ls []) := by
  obtain ⟨C1, C2, C3, C4, C5, C6, hX, hbl, C7, hgv⟩ := id C0
  have C6' : ∀ w ∈ gt_tbl, w.before #[Value.ref b] s = true := fun w hw => C6 w (gt_in w hw)
  obtain ⟨Cn, T, n, ty, h1, h2, h3, h4, h5, h6, h7, h8, h9⟩ := hf
  subst h8
  obtain ⟨z0, z1, z2, z3, z4⟩ := hz
  refine va_new (ci := ci) (fs := fs) C1 C2 C6' h2 ty h3 C5 (C6' _ h4) (C6' _ h5) (C6' _ h6) hK hP0 hD0 hS (fun q hq => hq) h1 h7 (Nat.le_trans (Nat.le_add_right _ _) hc) (Nat.le_trans (Nat.le_add_right _ _) hs) d1 (fun q H1 hP1 hD1 hS1 => ?_)
  refine lv_dup C1 C2 d2 rfl ?_
  have hlast : (W0 ++ [(q, (Sum.inr (ci, fs) : va_E))])[W0.length]? = some (q, .inr (ci, fs)) := by
    rw [List.getElem?_append_right (Nat.le_refl _), Nat.sub_self]
    rfl
  have hold : ∀ (k : Nat) (x : Nat × va_E), W0[k]? = some x → (W0 ++ [(q, (Sum.inr (ci, fs) : va_E))])[k]? = some x := by
    intro k x hx
    rw [List.getElem?_append_left (List.getElem?_eq_some_iff.mp hx).1]
    exact hx
  have hne : ∀ (k : Nat) (x : Nat × va_E), W0[k]? = some x → x.1 ≠ q := by
    intro k x hx e
    have := hD1.1 k W0.length _ _ (hold k x hx) hlast e
    have := (List.getElem?_eq_some_iff.mp hx).1
    omega
  have hP0' : va_P D vwCl W0 H1 := fun k x hx => hP1 k x (hold k x hx)
  have e0 : fs.map (tg_v (fun _ => q)) = fs := by
    have : fs.map (tg_v (fun _ => q)) = fs.map id := List.map_congr_left fun v hm => by
      have hz := List.all_eq_true.mp h9 v hm
      cases v with
      | ref k => simp [rfV] at hz
      | _ => rfl
    rw [this, List.map_id]
  have hPq : va_P D vwCl (nw_W (fun _ => q) cA [.inr (ci, fs)]) H1 := by
    intro k x hx
    have ew : nw_W (fun _ => q) cA [.inr (ci, fs)] = [(q, .inr (ci, fs))] := by
      simp only [nw_W, List.mapIdx_cons, List.mapIdx_nil, nw_e, e0]
    rw [ew] at hx
    match k, hx with
    | 0, hx => cases hx; exact hP1 _ _ hlast
    | k + 1, hx => simp at hx
  have hinj : ∀ i j, i < ([.inr (ci, fs)] : List nS).length → j < ([.inr (ci, fs)] : List nS).length → (fun _ : Nat => q) i = (fun _ : Nat => q) j → i = j := by
    intro i j hi hj _
    simp at hi hj
    omega
  have hF : ∀ x, tg_A (fun _ => q) ([.inr (ci, fs)] : List nS).length H1.size x → l_A s x := by
    intro x hx
    rcases hx with ⟨i, hi, rfl⟩ | hx
    · exact hD1.2 _ _ hlast
    · exact Nat.le_trans hS1.1 hx
  have cw : CallB room_1 s #[Value.ref b] "MineDeskLaw" i2 (z_y Zi) (z_c Zi) (z_n Zi) none (z_w Zi) (n_R Zi mc ms) mc ms 0 ∧ (z_y Zi).name = "<init>" ∧ (Cond.instanceMethod (z_y Zi)).before #[Value.ref b] s = true :=
    ⟨callB_of 0 C6' (z_goodIn z0) (by rw [← z4]) rfl rfl (C6' _ z0.2.2.2.2) (C6' _ hm) ⟨z0.2.1, z0.2.2.1, z1⟩ hR, z3, C6' _ z2⟩
  have hpre : PreS s H1 (nw_Pc [.inr (ci, fs)] D (fun _ => q) cA H1.size [.ref 0]) [.ref q] := ⟨nw_blind, nw_pre (av := [.ref 0]) hinj hPq hK hN⟩
  refine nw_after (a := ([Value.ref q] : List Value).toArray) (rest := [.ref q]) (va_runI (As := []) ⟨C1, C2, C4, C5, C6'⟩ (h l D (fun _ => q) cA H1.size) cw hpre rfl rfl hl.1 rfl (lv_room (Nat.le_of_ble_eq_true rfl)) d3 ⟨hc, hs⟩) hS1 hF (fun x _ hx => hF x hx) ?_
  intro ad' N' W' H2 locs2 hg hp hD' hP2 hS2 _ hk2
  have e1 : ad' 0 = q := hg 0 (by simp)
  have hk3 := kk ad' N' W' H2 locs2 hp ⟨hD'.1, fun i hi => hF _ (hD'.2 i hi)⟩ (fun i k x hi hx e => ?_) hP2 (hP0'.kept (fun k x hx => hk2 x.1 ((hP0' k x hx).lt) (fun hA => ?_))) hS2
  · rw [e1] at hk3
    exact hk3
  · rcases hD'.2 i hi with ⟨j, hj, e2⟩ | hA
    · exact hne k x hx (e.symm.trans e2.symm)
    · have := (hP0' k x hx).lt
      rw [e] at hA
      exact absurd this (Nat.not_lt.mpr hA)
  · rcases hA with ⟨j, hj, e2⟩ | hA
    · exact hne k x hx e2.symm
    · exact absurd ((hP0' k x hx).lt) (Nat.not_lt.mpr hA)
