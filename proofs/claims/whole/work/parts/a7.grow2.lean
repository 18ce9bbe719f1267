/-! calls in the growing world -/
def zNi (Z : zM) (n : Nat) : Prop := zOK Z ∧ (parseMethodDescriptor (z_y Z).desc).map (fun d => d.parameters.length) = some n ∧ Cond.instanceMethod (z_y Z) ∈ gt_tbl ∧ (z_y Z).name = "<init>" ∧ z_r Z = none
theorem nw_blind {ws : List nS} {D : va_G} {ad : Nat → Nat} {cA : Nat → ClassId} {sz : Nat} {av : List Value} : FrameBlind (nw_Pc ws D ad cA sz av) := by
  intro a U g mk q
  obtain ⟨q0, q1, q2, q3, q4, q5⟩ := q
  exact ⟨q0, q1, q2, q3, va_K.moved (u := U) (U := U.calling g mk a) (Vm.Alike.refl U.vm) q4, nst_same (s := U) (U := U.calling g mk a) rfl q5⟩
theorem nw_after {p : Program} {l : Launch} {e : Env} {R : Room} {s : State} {m : MethodId} {args : Array Value} {below : List Frame} {meth : Method} {c : Code} {H H0 : Heap} {locs : List Loc} {cells slots mc ms : Nat} {Q : State → Prop} {ws : List nS} {D : va_G} {ad : Nat → Nat} {cA : Nat → ClassId} {P' : nP} {pc : Nat} {ls : Array Slot} {st0 rest : List Value} {a : Array Value} {A0 free : Nat → Prop}
    (hr : va_Run p l e R s m args below meth c H locs cells slots mc ms (F0 m pc ls st0) rest (nw_Q ws D ad cA H.size P' a) free) (hS : va_S A0 H0 H locs) (hf : ∀ q, free q → A0 q) (hA : ∀ q, q < H.size → tg_A ad ws.length H.size q → A0 q)
    (kk : ∀ (ad' : Nat → Nat) (N' : Nat) (W' : va_W) (H1 : Heap) (locs1 : List Loc), (∀ k, k < ws.length → ad' k = ad k) → P' N' ad' cA W' → tg_D ad' N' (tg_A ad ws.length H.size) → va_P D vwCl W' H1 → va_S A0 H0 H1 locs1 → H.size ≤ H1.size → (∀ q : Nat, q < H.size → ¬ tg_A ad ws.length H.size q → H1[q]? = H[q]?) → W p l e R s m args below meth c H1 locs1 (cells + mc) (slots + ms) Q (F0 m (pc + 3) ls rest)) : W p l e R s m args below meth c H locs cells slots Q (F0 m pc ls st0) := by
  intro T hT X
  obtain ⟨v, st₀, t, T', L, h0, X', hL, e1, e2, ⟨⟨ad', N', W', hv, hg, hp, hD', hb⟩, hz, hk⟩, st⟩ := hr T hT X
  have hv' : v = none := by injection hv
  subst hv'
  rw [h0] at hz hk
  obtain ⟨t2, a1, b1⟩ := kk ad' N' W' T'.heap (locs ++ L) hg hp hD' (by rw [e1]; exact hb)
    ⟨Nat.le_trans hS.1 (by rw [e1]; exact hz), fun q h1 h2 => by rw [e1, hk q (Nat.lt_of_lt_of_le h1 hS.1) (fun z => h2 (hA q (Nat.lt_of_lt_of_le h1 hS.1) z))]; exact hS.2.1 q h1 h2, fun q hq => by
      rcases List.mem_append.mp hq with h | h
      · exact hS.2.2 q h
      · exact hf _ (hL q h)⟩ (by rw [e1]; exact hz) (fun q h1 h2 => by rw [e1]; exact hk q h1 h2) T' rfl X'
  exact ⟨t2, st t2 a1, b1⟩
theorem nw_pre {ws : List nS} {D : va_G} {ad : Nat → Nat} {cA : Nat → ClassId} {av : List Value} {s : State} {H : Heap} (hinj : ∀ i j, i < ws.length → j < ws.length → ad i = ad j → i = j) (hP : va_P D vwCl (nw_W ad cA ws) H) (hK : va_K D vwCl (tg_ty cA) s) (hNs : nst s) : ∀ U : State, U.heap = H → s.WarmedH U.vm → nw_Pc ws D ad cA H.size av (av.map (tg_v ad)).toArray U := by
  intro U hU hW
  exact ⟨rfl, by rw [hU], hinj, by rw [hU]; exact hP, va_K.moved hW.alike hK, nst_moved hW hNs⟩
section NC
variable {Z Z' : zM} {mc ms cc dd mc' ms' pc pc' : Nat} {lv lv' : List (Nat × Value)} {st : List Value} {ws ws' : List nS} {P : nP}
def nOut (ws : List nS) : nP := fun N ad cA W => N = ws.length ∧ W = nw_W ad cA ws
theorem n_call {idx k n : Nat} (As rest : List Value) (hd : decode (z_c Z) pc = .ok (.invokespecial idx, 3)) (hz : zNi Z' n) (hm : Cond.methodLink (z_y Z).cls idx (z_y Z') ∈ gt_tbl) (hR : z_f Z' + 1 ≤ z_f Z ∧ 8 + (z_n Z' + 11) + z_l Z' ≤ z_l Z) (hn : As.length = n) (hst : As.reverse ++ .ref k :: rest = st) (hw : (rest.map fun v => v.category).sum ≤ 8) (e : pc + 3 = pc') (hc : cc + mc' ≤ mc) (hs : dd + ms' ≤ ms) (hlv : rfL ws.length lv = true) (hrest : rest.all (rfV ws.length) = true) (hle : ws.length ≤ ws'.length) (h : ncall Z' mc' ms' (.ref k :: As) ws (nOut ws')) (hk2 : nr Z mc ms (cc + mc') (dd + ms') pc' lv rest ws' P) : nr Z mc ms cc dd pc lv st ws P := by
  subst e
  subst hst
  intro p l e s m args below meth c D ad cA A Qc H locs ls C hN hD hA hl hP hS hr
  obtain ⟨C1, C2, C3, C4, C5, C6, C7, C8⟩ := id C
  obtain ⟨h0, h1, h2, h3, h4⟩ := hz
  have hF : ∀ x, tg_A ad ws.length H.size x → A x := by
    intro x hx
    rcases hx with ⟨i, hi, rfl⟩ | hx
    · exact hD.2 i hi
    · exact hA x (Nat.le_trans hS.1 hx)
  have cw : CallB (n_R Z mc ms) s args (z_y Z).cls idx (z_y Z') (z_c Z') (z_n Z') none (z_w Z') (n_R Z' mc' ms') mc' ms' n ∧ (z_y Z').name = "<init>" ∧ (Cond.instanceMethod (z_y Z')).before args s = true :=
    ⟨callB_of n C6 (z_goodIn h0) (by rw [← h4]) rfl rfl (C6 _ h0.2.2.2.2) (C6 _ hm) ⟨h0.2.1, h0.2.2.1, h1⟩ hR, h3, C6 _ h2⟩
  have hpre : PreS s H (nw_Pc ws D ad cA H.size (.ref k :: As)) (.ref (ad k) :: As.map (tg_v ad)) := ⟨nw_blind, nw_pre (av := .ref k :: As) hD.1 hP C8 hN.2⟩
  refine nw_after (a := (Value.ref (ad k) :: As.map (tg_v ad)).toArray) (rest := rest.map (tg_v ad)) (va_runI (As := As.map (tg_v ad)) ⟨C1, C2, C4, C5, C6⟩ (h l D ad cA H.size) cw hpre rfl (by rw [List.length_map]; exact hn) hl.1 (by simp [tg_v]) (lv_room (by rw [tg_sum]; exact hw)) hd ⟨hc, hs⟩) hS hF (fun x _ hx => hF x hx) ?_
  intro ad' N' W' H1 locs1 hg hp hD' hP1 hS1 _ _
  obtain ⟨rfl, rfl⟩ := hp
  have hk3 := hk2 (p := p) (l := l) (e := e) (below := below) (ls := ls) C hN (A := A) (Qc := Qc) ⟨hD'.1, fun i hi => hF _ (hD'.2 i hi)⟩ hA (by rw [rfL_eq hg hlv]; exact hl) hP1 hS1 (fun ad2 N' W' H' locs' t h1 => hr ad2 N' W' H' locs' t (fun i hi => by rw [h1 i (Nat.lt_of_lt_of_le hi hle), hg i hi]))
  rw [rfS_eq hg hrest] at hk3
  exact hk3
theorem n_callN {idx k n : Nat} (As rest : List Value) (hd : decode (z_c Z) pc = .ok (.invokespecial idx, 3)) (hz : zNi Z' n) (hm : ((z_y Z).cls, idx, z_y Z') ∈ nLn) (hR : z_f Z' + 1 ≤ z_f Z ∧ 8 + (z_n Z' + 11) + z_l Z' ≤ z_l Z) (hn : As.length = n) (hst : As.reverse ++ .ref k :: rest = st) (hw : (rest.map fun v => v.category).sum ≤ 8) (e : pc + 3 = pc') (hc : cc + mc' ≤ mc) (hs : dd + ms' ≤ ms) (hlv : rfL ws.length lv = true) (hrest : rest.all (rfV ws.length) = true) (hle : ws.length ≤ ws'.length) (h : ncall Z' mc' ms' (.ref k :: As) ws (nOut ws')) (hk2 : nr Z mc ms (cc + mc') (dd + ms') pc' lv rest ws' P) : nr Z mc ms cc dd pc lv st ws P := by
  subst e
  subst hst
  intro p l e s m args below meth c D ad cA A Qc H locs ls C hN hD hA hl hP hS hr
  obtain ⟨C1, C2, C3, C4, C5, C6, C7, C8⟩ := id C
  obtain ⟨h0, h1, h2, h3, h4⟩ := hz
  have hF : ∀ x, tg_A ad ws.length H.size x → A x := by
    intro x hx
    rcases hx with ⟨i, hi, rfl⟩ | hx
    · exact hD.2 i hi
    · exact hA x (Nat.le_trans hS.1 hx)
  have cw : va_CN (n_R Z mc ms) s args (z_y Z).cls idx (z_y Z') "MineDesk" (z_c Z') (z_n Z') none (z_w Z') (n_R Z' mc' ms') mc' ms' n ∧ (z_y Z').name = "<init>" ∧ (Cond.instanceMethod (z_y Z')).before args s = true :=
    ⟨va_cnB n C6 (z_goodIn h0) (by rw [← h4]) rfl rfl (hN.2 _ hm) (C6 _ h0.2.2.2.2) ⟨h0.2.1, h0.2.2.1, h1⟩ hR, h3, C6 _ h2⟩
  have hpre : PreS s H (nw_Pc ws D ad cA H.size (.ref k :: As)) (.ref (ad k) :: As.map (tg_v ad)) := ⟨nw_blind, nw_pre (av := .ref k :: As) hD.1 hP C8 hN.2⟩
  refine nw_after (a := (Value.ref (ad k) :: As.map (tg_v ad)).toArray) (rest := rest.map (tg_v ad)) (va_runIN (As := As.map (tg_v ad)) ⟨C1, C2, C4, C5, C6⟩ (h l D ad cA H.size) cw hpre rfl (by rw [List.length_map]; exact hn) hl.1 (by simp [tg_v]) (lv_room (by rw [tg_sum]; exact hw)) hd ⟨hc, hs⟩) hS hF (fun x _ hx => hF x hx) ?_
  intro ad' N' W' H1 locs1 hg hp hD' hP1 hS1 _ _
  obtain ⟨rfl, rfl⟩ := hp
  have hk3 := hk2 (p := p) (l := l) (e := e) (below := below) (ls := ls) C hN (A := A) (Qc := Qc) ⟨hD'.1, fun i hi => hF _ (hD'.2 i hi)⟩ hA (by rw [rfL_eq hg hlv]; exact hl) hP1 hS1 (fun ad2 N' W' H' locs' t h1 => hr ad2 N' W' H' locs' t (fun i hi => by rw [h1 i (Nat.lt_of_lt_of_le hi hle), hg i hi]))
  rw [rfS_eq hg hrest] at hk3
  exact hk3
theorem n_virt {G : tg_G} {idx k ci n : Nat} {fk : List (Nat × Nat)} {I : tg_I} {J : tg_J} (As : List Value) (hd : decode (z_c Z) pc = .ok (.invokevirtual idx, 3)) (hz : zV Z' n ci) (hm : Cond.methodLink (z_y Z).cls idx (z_y Z') ∈ gt_tbl) (hR : z_f Z' + 1 ≤ z_f Z ∧ 8 + (z_n Z' + 11) + z_l Z' ≤ z_l Z) (hk : k < G.2) (hs : G.1 k = .inr (ci, fk)) (hn : As.length = n) (hst : As.reverse ++ [.ref k] = st) (hG : G.2 = ws.length) (hW : ∀ ad cA, nw_W ad cA ws = tg_W ad cA G I J) (e : pc + 3 = pc') (hd2 : decode (z_c Z) pc' = .ok (.return_, 1)) (ht : z_r Z = none) (hc : cc ≤ mc) (hs2 : dd ≤ ms) (h : call G Z' (.ref k :: As) I J (fun v I' J' => v = none ∧ ∀ ad cA, P G.2 ad cA (tg_W ad cA G I' J'))) : nr Z mc ms cc dd pc lv st ws P := by
  subst e
  subst hst
  intro p l e s m args below meth c D ad cA A Qc H locs ls C hN hD hA hl hP hS hr
  obtain ⟨C1, C2, C3, C4, C5, C6, C7, C8⟩ := id C
  obtain ⟨h0, h1, h2, h3, q, h4, h5⟩ := hz
  rw [← hG] at hD hr
  rw [hW] at hP
  have hF : ∀ x, tg_A ad G.2 H.size x → A x := by
    intro x hx
    rcases hx with ⟨i, hi, rfl⟩ | hx
    · exact hD.2 i hi
    · exact hA x (Nat.le_trans hS.1 hx)
  have cw : CallW (n_R Z mc ms) s args (z_y Z).cls (z_y Z').cls idx (z_y Z') (z_c Z') (z_n Z') (z_r Z') (z_w Z') (z_R Z') 0 0 n :=
    ⟨callB_of n C6 (z_goodIn h0) rfl rfl rfl (C6 _ h0.2.2.2.2) (C6 _ hm) ⟨h0.2.1, h0.2.2.1, h1⟩ hR, C6 _ h2, C6 _ h3⟩
  have hpre : PreV s H (z_y Z').cls (ad k) (tg_Pc G D ad cA H.size (.ref k :: As) I J) (As.map (tg_v ad)) := by
    refine ⟨tg_blind, ?_, tg_pre (av := .ref k :: As) hD.1 hP C8⟩
    rw [← h5]
    exact va_recv C8 hP h4 (tg_obj hk hs)
  refine tg_after (a := (Value.ref (ad k) :: As.map (tg_v ad)).toArray) (rest := []) (va_runV (As := As.map (tg_v ad)) ⟨C1, C2, C4, C5, C6⟩ (h l D ad cA H.size) cw hpre rfl (by rw [List.length_map]; exact hn) hl.1 (by simp [tg_v]) (lv_room (by simp)) hd ⟨hc, hs2⟩) hS hF (fun x _ hx => hF x hx) ?_
  intro v I' J' H1 locs1 hp hP1 hS1 _ _
  obtain ⟨rfl, hp⟩ := hp
  refine W.widen (k := mc) (n := ms) hc hs2 ?_
  exact W.vret C1 C2 (C3.trans ht) (fun t ht hW => hr ad _ _ H1 locs1 t (fun _ _ => rfl) (hp ad cA) hD hP1 hS1 ht hW) hS1.2.2 hd2
end NC
