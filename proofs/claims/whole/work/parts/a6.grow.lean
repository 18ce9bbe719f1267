/-! THE GROWING WORLD: constructors. Cells in the order of their making; a field may be null. -/
abbrev nS : Type := (Nat × Nat) ⊕ (Nat × List Value)
def nw_e (ad : Nat → Nat) (cA : Nat → ClassId) (q : nS) : va_E := match q with
  | .inl (2, n) => .inl (cA 2, n, .inr (.inl (fun _ => 0)))
  | .inl (t, n) => .inl (cA t, n, .inl (fun _ => 0))
  | .inr (ci, fs) => .inr (ci, fs.map (tg_v ad))
theorem nw_inl (ad' ad : Nat → Nat) {cA : Nat → ClassId} {t n : Nat} : nw_e ad' cA (.inl (t, n)) = nw_e ad cA (.inl (t, n)) := by
  match t with
  | 0 => rfl
  | 1 => rfl
  | 2 => rfl
  | k + 3 => rfl
def nw_W (ad : Nat → Nat) (cA : Nat → ClassId) (ws : List nS) : va_W := ws.mapIdx fun k q => (ad k, nw_e ad cA q)
theorem nw_get {ad : Nat → Nat} {cA : Nat → ClassId} {ws : List nS} {k : Nat} {q : nS} (h : ws[k]? = some q) : (nw_W ad cA ws)[k]? = some (ad k, nw_e ad cA q) := by
  simp [nw_W, h]
theorem nw_len {ad : Nat → Nat} {cA : Nat → ClassId} {ws : List nS} : (nw_W ad cA ws).length = ws.length := by simp [nw_W]
theorem nw_inv {ad : Nat → Nat} {cA : Nat → ClassId} {ws : List nS} {k : Nat} {x : Nat × va_E} (h : (nw_W ad cA ws)[k]? = some x) : k < ws.length ∧ x.1 = ad k := by
  have hl : k < ws.length := by
    have := (List.getElem?_eq_some_iff.mp h).1
    rwa [nw_len] at this
  rw [nw_get (List.getElem?_eq_getElem hl)] at h
  cases h
  exact ⟨hl, rfl⟩
theorem nw_set {ad : Nat → Nat} {cA : Nat → ClassId} {ws : List nS} {k : Nat} {q : nS} : (nw_W ad cA ws).set k (ad k, nw_e ad cA q) = nw_W ad cA (ws.set k q) := by
  apply List.ext_getElem?
  intro i
  by_cases hl : i < ws.length
  · by_cases hi : i = k
    · subst hi
      rw [List.getElem?_set_self (by rw [nw_len]; exact hl), nw_get (List.getElem?_set_self hl)]
    · rw [List.getElem?_set_ne (fun z => hi z.symm), nw_get (List.getElem?_eq_getElem hl), nw_get (by rw [List.getElem?_set_ne (fun z => hi z.symm)]; exact List.getElem?_eq_getElem hl)]
  · rw [List.getElem?_eq_none (by rw [List.length_set, nw_len]; omega), List.getElem?_eq_none (by rw [nw_len, List.length_set]; omega)]
theorem nw_vaD {ad : Nat → Nat} {cA : Nat → ClassId} {ws : List nS} {A : Nat → Prop} (h : tg_D ad ws.length A) : va_D A (nw_W ad cA ws) := by
  refine ⟨fun i j p q hi hj hpq => ?_, fun k q hk => ?_⟩
  · obtain ⟨a1, a2⟩ := nw_inv hi
    obtain ⟨b1, b2⟩ := nw_inv hj
    exact h.1 i j a1 b1 (by rw [← a2, ← b2]; exact hpq)
  · obtain ⟨a1, a2⟩ := nw_inv hk
    rw [a2]
    exact h.2 k a1
def rfV (n : Nat) (v : Value) : Bool := match v with
  | .ref k => decide (k < n)
  | _ => true
def rfL (n : Nat) (lv : List (Nat × Value)) : Bool := lv.all fun q => rfV n q.2
def rfW (n : Nat) (ws : List nS) : Bool := ws.all fun q => match q with
  | .inl _ => true
  | .inr (_, fs) => fs.all (rfV n)
theorem rfV_eq {ad ad' : Nat → Nat} {n : Nat} (h : ∀ k, k < n → ad' k = ad k) {v : Value} (hv : rfV n v = true) : tg_v ad' v = tg_v ad v := by
  cases v with
  | ref k => simp only [rfV, decide_eq_true_eq] at hv; simp only [tg_v, h k hv]
  | _ => rfl
theorem rfS_eq {ad ad' : Nat → Nat} {n : Nat} (h : ∀ k, k < n → ad' k = ad k) {st : List Value} (hv : st.all (rfV n) = true) : st.map (tg_v ad') = st.map (tg_v ad) := by
  refine List.map_congr_left fun v hm => rfV_eq h ?_
  exact List.all_eq_true.mp hv v hm
theorem rfL_eq {ad ad' : Nat → Nat} {n : Nat} (h : ∀ k, k < n → ad' k = ad k) {lv : List (Nat × Value)} (hv : rfL n lv = true) : tg_lv ad' lv = tg_lv ad lv := by
  refine List.map_congr_left fun q hm => ?_
  rw [rfV_eq h (List.all_eq_true.mp hv q hm)]
theorem rfW_eq {ad ad' : Nat → Nat} {cA : Nat → ClassId} {n : Nat} {ws : List nS} (h : ∀ k, k < n → ad' k = ad k) (hw : ws.length ≤ n) (hv : rfW n ws = true) : nw_W ad' cA ws = nw_W ad cA ws := by
  apply List.ext_getElem?
  intro i
  by_cases hl : i < ws.length
  · rw [nw_get (List.getElem?_eq_getElem hl), nw_get (List.getElem?_eq_getElem hl), h i (by omega)]
    have hm := List.all_eq_true.mp hv ws[i] (List.getElem_mem hl)
    generalize ws[i] = q at hm ⊢
    rcases q with ⟨t, m⟩ | ⟨ci, fs⟩
    · rw [nw_inl ad' ad]
    · simp only [nw_e]
      rw [rfS_eq h hm]
  · rw [List.getElem?_eq_none (by rw [nw_len]; omega), List.getElem?_eq_none (by rw [nw_len]; omega)]
def ad_up (ad : Nat → Nat) (n q : Nat) : Nat → Nat := fun k => if k = n then q else ad k
theorem ad_lt {ad : Nat → Nat} {n q : Nat} : ∀ k, k < n → ad_up ad n q k = ad k := fun k hk => if_neg (Nat.ne_of_lt hk)
theorem ad_at {ad : Nat → Nat} {n q : Nat} : ad_up ad n q n = q := if_pos rfl
theorem nw_push {ad : Nat → Nat} {cA : Nat → ClassId} {ws : List nS} {q : nS} {a : Nat} (hv : rfW ws.length ws = true) (hq : nw_e (ad_up ad ws.length a) cA q = nw_e ad cA q) : nw_W (ad_up ad ws.length a) cA (ws ++ [q]) = nw_W ad cA ws ++ [(a, nw_e ad cA q)] := by
  have e1 : nw_W (ad_up ad ws.length a) cA (ws ++ [q]) = nw_W (ad_up ad ws.length a) cA ws ++ [(ad_up ad ws.length a ws.length, nw_e (ad_up ad ws.length a) cA q)] := by
    simp [nw_W, List.mapIdx_append]
  rw [e1, rfW_eq ad_lt (Nat.le_refl _) hv, ad_at, hq]
theorem nw_pushD {ad : Nat → Nat} {cA : Nat → ClassId} {ws : List nS} {A : Nat → Prop} {a : Nat} {e : va_E} (h : tg_D ad ws.length A) (hD : va_D A (nw_W ad cA ws ++ [(a, e)])) : tg_D (ad_up ad ws.length a) (ws.length + 1) A := by
  have ht : (nw_W ad cA ws ++ [(a, e)])[ws.length]? = some (a, e) := by
    rw [List.getElem?_append_right (by rw [nw_len]; exact Nat.le_refl _), nw_len, Nat.sub_self]
    rfl
  have hi : ∀ i, i < ws.length → ∃ x, (nw_W ad cA ws ++ [(a, e)])[i]? = some (ad i, x) := by
    intro i hl
    rw [List.getElem?_append_left (by rw [nw_len]; exact hl), nw_get (List.getElem?_eq_getElem hl)]
    exact ⟨_, rfl⟩
  have ne : ∀ i, i < ws.length → ad i ≠ a := by
    intro i hl q
    obtain ⟨x, hx⟩ := hi i hl
    have := hD.1 i ws.length _ _ hx ht q
    omega
  refine ⟨fun i j h1 h2 q => ?_, fun k hk => ?_⟩
  · by_cases e1 : i = ws.length
    · by_cases e2 : j = ws.length
      · omega
      · subst e1
        rw [ad_at, ad_lt j (by omega)] at q
        exact absurd q.symm (ne j (by omega))
    · by_cases e2 : j = ws.length
      · subst e2
        rw [ad_at, ad_lt i (by omega)] at q
        exact absurd q (ne i (by omega))
      · rw [ad_lt i (by omega), ad_lt j (by omega)] at q
        exact h.1 i j (by omega) (by omega) q
  · by_cases e1 : k = ws.length
    · subst e1
      rw [ad_at]
      exact hD.2 _ _ ht
    · rw [ad_lt k (by omega)]
      exact h.2 k (by omega)
/-- the nest's links: constructors of the nested classes -/
def nLn : List (String × Nat × MethodName) := [("MineDesk", 11, yX1_init), ("MineDesk$Board", 11, yX2_init), ("MineDesk$Board", 20, yX0_init), ("MineDesk", 18, yX4_init), ("MineDesk", 25, yX5_init), ("MineDesk$Placements", 11, yX0_init), ("MineDesk$Placements", 23, yX7_init), ("MineDesk$Reasoner", 11, yX0_init), ("MineDesk$Maker", 11, yX1_init), ("MineDesk$Maker", 20, yX0_init), ("MineDesk", 50, yX0_init)]
def nst (U : State) : Prop := ∀ q ∈ nLn, va_Nw (.methodLinkNest q.1 q.2.1 q.2.2 "MineDesk") U
theorem nst_moved {s U : State} (hW : s.WarmedH U.vm) (h : nst s) : nst U := fun q hq => va_Nw.warmM hW (h q hq)
theorem nst_same {s U : State} (hv : s.vm = U.vm) (h : nst s) : nst U := fun q hq => va_Nw.same rfl hv (h q hq)
abbrev nP : Type := Nat → (Nat → Nat) → (Nat → ClassId) → va_W → Prop
abbrev n_R (Z : zM) (mc ms : Nat) : Room := { frames := z_f Z, cells := mc, slots := ms, locals := z_l Z }
def nr (Z : zM) (mc ms cc dd : Nat) (pc : Nat) (lv : List (Nat × Value)) (st : List Value) (ws : List nS) (P : nP) : Prop :=
  ∀ ⦃p : Program⦄ ⦃l : Launch⦄ ⦃e : Env⦄ ⦃s : State⦄ ⦃m : MethodId⦄ ⦃args : Array Value⦄ ⦃below : List Frame⦄ ⦃meth : Method⦄ ⦃c : Code⦄ ⦃D : va_G⦄ ⦃ad : Nat → Nat⦄ ⦃cA : Nat → ClassId⦄ ⦃A : Nat → Prop⦄ ⦃Qc : Array Value → State → Outcome → State → Prop⦄ ⦃H : Heap⦄ ⦃locs : List Loc⦄ ⦃ls : Array Slot⦄,
    tg_C Z p s m args meth c D cA → (meth.name = "<init>" ∧ nst s) → tg_D ad ws.length A → (∀ q : Nat, s.heap.size ≤ q → A q) → lv_has ls (z_n Z) (tg_lv ad lv) → va_P D vwCl (nw_W ad cA ws) H → va_S A s.heap H locs →
    (∀ (ad' : Nat → Nat) (N' : Nat) (W' : va_W) (H' : Heap) (locs' : List Loc) (t : State), (∀ k, k < ws.length → ad' k = ad k) → P N' ad' cA W' → tg_D ad' N' A → va_P D vwCl W' H' → va_S A s.heap H' locs' → t.heap = H' → s.WarmedH t.vm → Qc args s (.returned none) t) →
    W p l e (n_R Z mc ms) s m args below meth c H locs cc dd (MQ below Qc args s mc ms A) (F0 m pc ls (st.map (tg_v ad)))
def nw_Q (ws : List nS) (D : va_G) (ad : Nat → Nat) (cA : Nat → ClassId) (sz : Nat) (P : nP) : Array Value → State → Outcome → State → Prop := fun _ st oc t => (∃ (ad' : Nat → Nat) (N' : Nat) (W' : va_W), oc = .returned none ∧ (∀ k, k < ws.length → ad' k = ad k) ∧ P N' ad' cA W' ∧ tg_D ad' N' (tg_A ad ws.length sz) ∧ va_P D vwCl W' t.heap) ∧ va_F (tg_A ad ws.length sz) st t
def nw_Pc (ws : List nS) (D : va_G) (ad : Nat → Nat) (cA : Nat → ClassId) (sz : Nat) (av : List Value) : Array Value → State → Prop := va_Pc (av.map (tg_v ad)) (fun U => U.heap.size = sz ∧ (∀ i j, i < ws.length → j < ws.length → ad i = ad j → i = j) ∧ va_P D vwCl (nw_W ad cA ws) U.heap ∧ va_K D vwCl (tg_ty cA) U ∧ nst U)
def ncall (Z : zM) (mc ms : Nat) (av : List Value) (ws : List nS) (P : nP) : Prop :=
  ∀ (l : Launch) (D : va_G) (ad : Nat → Nat) (cA : Nat → ClassId) (sz : Nat), Met l (z_y Z) (z_w Z) (n_R Z mc ms) (nw_Pc ws D ad cA sz av) (nw_Q ws D ad cA sz P) mc ms (tg_A ad ws.length sz)
theorem ncall_of {Z : zM} {mc ms : Nat} {av : List Value} {ws : List nS} {P : nP} (hy : plainName (z_y Z).cls = true) (hin : (z_y Z).name = "<init>") (hlen : ∀ ad, (lg_sl (av.map (tg_v ad))).length ≤ z_n Z) (h : nr Z mc ms 0 0 0 (lv_args 0 av) [] ws P) : ncall Z mc ms av ws P := by
  intro l D ad cA sz
  refine Met.ofW (cc := z_c Z) (maxL := z_n Z) (ret := z_r Z) hy rfl ?_
  intro p e s m args below meth c s₁ B hml hv
  obtain ⟨rfl, hsz, hinj, hP, hK, hNs⟩ := hv
  have hts := atoms_spec (ws := z_w Z) B.pre
  have hl := lv_entry (av.map (tg_v ad)) (n := z_n Z) (hlen ad)
  rw [tg_lv_args] at hl
  rw [lg_entry_eq]
  refine h (Qc := nw_Q ws D ad cA sz P) ⟨B.exec, B.bytes, B.returns, hml, findClass_of_methodNamed B.named, fun w hw => hts w (List.mem_cons_of_mem _ hw), B.notSynchronized, hK⟩ ⟨(name_of_methodNamed B.named B.method).1.trans hin, hNs⟩ ⟨hinj, fun k hk => Or.inl ⟨k, hk, rfl⟩⟩ (fun q hq => Or.inr (by rw [← hsz]; exact hq)) hl hP va_S.rf ?_
  intro ad' N' W' H' locs' t h1 hp hD' hP' hS' ht hW
  exact ⟨⟨ad', N', W', rfl, h1, hp, hD', by rw [ht]; exact hP'⟩, hS'.F ht⟩
section NR
variable {Z : zM} {mc ms cc dd pc pc' : Nat} {lv lv' : List (Nat × Value)} {st : List Value} {ws ws' : List nS} {P : nP}
theorem n_aload {k : Fin 4} {i : Nat} {x : Nat} (hd : decode (z_c Z) pc = .ok (.aload_n k, 1)) (hi : (k : Nat) = i) (j : Nat) (hj : lv[j]? = some (i, .ref x)) (e : pc + 1 = pc') (hk : nr Z mc ms cc dd pc' lv (.ref x :: st) ws P) : nr Z mc ms cc dd pc lv st ws P := by
  subst e
  intro p l e s m args below meth c D ad cA A Qc H locs ls C hN hD hA hl hP hS hr
  exact lv_aload_n C.1 C.2.1 hd hi (lv_at hl j (tg_lv_at hj)) (hk C hN hD hA hl hP hS hr)
theorem n_iconst {n : Int} {v : Int32} (hd : decode (z_c Z) pc = .ok (.iconst n, 1)) (hv : Int32.ofInt n = v) (e : pc + 1 = pc') (hk : nr Z mc ms cc dd pc' lv (.int v :: st) ws P) : nr Z mc ms cc dd pc lv st ws P := by
  subst e
  intro p l e s m args below meth c D ad cA A Qc H locs ls C hN hD hA hl hP hS hr
  exact lv_iconst C.1 C.2.1 hd hv (hk C hN hD hA hl hP hS hr)
theorem n_bipush {n : Int} {v : Int32} (hd : decode (z_c Z) pc = .ok (.bipush n, 2)) (hv : (Int8.ofInt n).toInt32 = v) (e : pc + 2 = pc') (hk : nr Z mc ms cc dd pc' lv (.int v :: st) ws P) : nr Z mc ms cc dd pc lv st ws P := by
  subst e
  intro p l e s m args below meth c D ad cA A Qc H locs ls C hN hD hA hl hP hS hr
  exact lv_bipush C.1 C.2.1 hd hv (hk C hN hD hA hl hP hS hr)
theorem n_sipush {n : Int} {v : Int32} (hd : decode (z_c Z) pc = .ok (.sipush n, 3)) (hv : (Int16.ofInt n).toInt32 = v) (e : pc + 3 = pc') (hk : nr Z mc ms cc dd pc' lv (.int v :: st) ws P) : nr Z mc ms cc dd pc lv st ws P := by
  subst e
  intro p l e s m args below meth c D ad cA A Qc H locs ls C hN hD hA hl hP hS hr
  exact lv_sipush C.1 C.2.1 hd hv (hk C hN hD hA hl hP hS hr)
theorem n_dup {v : Value} (hd : decode (z_c Z) pc = .ok (.dup, 1)) (hv : v.category = 1) (e : pc + 1 = pc') (hk : nr Z mc ms cc dd pc' lv (v :: v :: st) ws P) : nr Z mc ms cc dd pc lv (v :: st) ws P := by
  subst e
  intro p l e s m args below meth c D ad cA A Qc H locs ls C hN hD hA hl hP hS hr
  exact lv_dup C.1 C.2.1 hd (by rw [tg_cat]; exact hv) (hk C hN hD hA hl hP hS hr)
theorem n_obj {idx a : Nat} (hd : decode (z_c Z) pc = .ok (.invokespecial idx, 3)) (hm : Cond.methodLink (z_y Z).cls idx Lib.objectInit ∈ gt_tbl) (h1 : Cond.instanceMethod Lib.objectInit ∈ gt_tbl) (h2 : Cond.code Lib.objectInit ⟨#[0xb1]⟩ 1 none ∈ gt_tbl) (hR : 1 ≤ z_f Z ∧ 12 ≤ z_l Z) (e : pc + 3 = pc') (hk : nr Z mc ms cc dd pc' lv [] ws P) : nr Z mc ms cc dd pc lv [.ref a] ws P := by
  subst e
  intro p l e s m args below meth c D ad cA A Qc H locs ls C hN hD hA hl hP hS hr
  obtain ⟨C1, C2, C3, C4, C5, C6, C7, C8⟩ := id C
  refine W.objInit (a := ad a) (rest := []) C1 C2 C5 (C6 _ hm) (C6 _ h1) (C6 _ h2) rfl (by rw [C4]; exact hl.1) rfl hd hR.1 hR.2 ?_
  exact hk C hN hD hA hl hP hS hr
theorem n_ret (hd : decode (z_c Z) pc = .ok (.return_, 1)) (ht : z_r Z = none) (hc : cc ≤ mc) (hs : dd ≤ ms) (hk : ∀ ad cA, P ws.length ad cA (nw_W ad cA ws)) : nr Z mc ms cc dd pc lv [] ws P := by
  intro p l e s m args below meth c D ad cA A Qc H locs ls C hN hD hA hl hP hS hr
  obtain ⟨C1, C2, C3, C4, C5, C6, C7, C8⟩ := id C
  refine W.widen (k := mc) (n := ms) hc hs ?_
  exact W.vret C1 C2 (C3.trans ht) (fun t ht hW => hr ad _ _ H locs t (fun _ _ => rfl) (hk ad cA) hD hP hS ht hW) hS.2.2 hd
theorem n_get {idx k ci j : Nat} {fs : List Value} {v : Value} (hd : decode (z_c Z) pc = .ok (.getfield idx, 3)) (hf : fOK (z_y Z).cls idx ci j) (hs : ws[k]? = some (.inr (ci, fs))) (hj : fs[j]? = some v) (e : pc + 3 = pc') (hk2 : nr Z mc ms cc dd pc' lv (v :: st) ws P) : nr Z mc ms cc dd pc lv (.ref k :: st) ws P := by
  subst e
  intro p l e s m args below meth c D ad cA A Qc H locs ls C hN hD hA hl hP hS hr
  obtain ⟨Cn, T, n, h1, h2, h3, h4⟩ := hf
  exact va_get (v := tg_v ad v) C.1 C.2.1 C.2.2.2.2.2.1 h3 C.2.2.2.2.1 C.2.2.2.2.2.2.2 hP k (nw_get hs) h1 j h2 (C.2.2.2.2.2.1 _ h4) (fun _ h => h) (by simp [hj]) hd (hk2 C hN hD hA hl hP hS hr)
def fPutN (own : String) (idx ci j : Nat) (ty : FieldType) : Prop := ∃ (C : String) (T : u_T) (n : Nat) (ty0 : Nat → FieldType), vwCl[ci]? = some (C, T, n) ∧ j < n ∧ (∀ w ∈ u_ws C T n, w ∈ gt_tbl) ∧ Cond.fieldLink own idx (T j).1 (T j).2.1 (T j).2.2.1 ∈ gt_tbl ∧ (∀ k, k < n → parseFieldDescriptor (T k).2.2.1 = some (ty0 k)) ∧ (∀ a, a < n → ∀ b, b < n → a ≠ b → (T a).2.1 ≠ (T b).2.1) ∧ (T j).2.2.2 = true ∧ (T j).1 = own ∧ parseFieldDescriptor (T j).2.2.1 = some ty
theorem n_put {idx k ci j : Nat} {fs : List Value} {v : Value} {ty : FieldType} (hd : decode (z_c Z) pc = .ok (.putfield idx, 3)) (hf : fPut (z_y Z).cls idx ci j ty) (hs : ws[k]? = some (.inr (ci, fs))) (hj : j < fs.length) (hn : ∀ ad, narrow ty (tg_v ad v) = tg_v ad v ∧ fits ty (tg_v ad v) = true) (hw : ws.set k (.inr (ci, fs.set j v)) = ws') (e : pc + 3 = pc') (hk2 : nr Z mc ms cc dd pc' lv st ws' P) : nr Z mc ms cc dd pc lv (v :: .ref k :: st) ws P := by
  subst e
  subst hw
  intro p l e s m args below meth c D ad cA A Qc H locs ls C hN hD hA hl hP hS hr
  obtain ⟨Cn, T, n, ty0, h1, h2, h3, h4, h5, h6, h7, h8⟩ := hf
  refine va_put (v := tg_v ad v) (ty := ty) C.1 C.2.1 C.2.2.2.2.2.1 h3 ty0 h5 h6 C.2.2.2.2.1 C.2.2.2.2.2.2.2 hP (nw_vaD hD) hS k (nw_get hs) h1 j h2 (C.2.2.2.2.2.1 _ h4) (fun _ h => h) h7 h8 (hn ad).1 (hn ad).2 (by simpa using hj) hd (fun H1 locs1 hP1 hD1 hS1 => ?_)
  have e2 : (Sum.inr (ci, (fs.map (tg_v ad)).set j (tg_v ad v)) : va_E) = nw_e ad cA (.inr (ci, fs.set j v)) := by
    simp only [nw_e, List.map_set]
  rw [e2, nw_set] at hP1
  exact hk2 C hN (by rw [List.length_set]; exact hD) hA hl hP1 hS1 (fun ad' N' W' H' locs' t h1 => hr ad' N' W' H' locs' t (by rw [List.length_set] at h1; exact h1))
theorem n_putF {idx k ci j : Nat} {fs : List Value} {v : Value} {ty : FieldType} (hd : decode (z_c Z) pc = .ok (.putfield idx, 3)) (hf : fPutN (z_y Z).cls idx ci j ty) (hs : ws[k]? = some (.inr (ci, fs))) (hj : j < fs.length) (hn : ∀ ad, narrow ty (tg_v ad v) = tg_v ad v ∧ fits ty (tg_v ad v) = true) (hw : ws.set k (.inr (ci, fs.set j v)) = ws') (e : pc + 3 = pc') (hk2 : nr Z mc ms cc dd pc' lv st ws' P) : nr Z mc ms cc dd pc lv (v :: .ref k :: st) ws P := by
  subst e
  subst hw
  intro p l e s m args below meth c D ad cA A Qc H locs ls C hN hD hA hl hP hS hr
  obtain ⟨Cn, T, n, ty0, h1, h2, h3, h4, h5, h6, h7, h9, h8⟩ := hf
  refine va_putF (v := tg_v ad v) (ty := ty) C.1 C.2.1 C.2.2.2.2.2.1 h3 ty0 h5 h6 C.2.2.2.2.1 C.2.2.2.2.2.2.2 hP (nw_vaD hD) hS k (nw_get hs) h1 j h2 (C.2.2.2.2.2.1 _ h4) (fun _ h => h) h7 hN.1 h9 h8 (hn ad).1 (hn ad).2 (by simpa using hj) hd (fun H1 locs1 hP1 hD1 hS1 => ?_)
  have e2 : (Sum.inr (ci, (fs.map (tg_v ad)).set j (tg_v ad v)) : va_E) = nw_e ad cA (.inr (ci, fs.set j v)) := by
    simp only [nw_e, List.map_set]
  rw [e2, nw_set] at hP1
  exact hk2 C hN (by rw [List.length_set]; exact hD) hA hl hP1 hS1 (fun ad' N' W' H' locs' t h1 => hr ad' N' W' H' locs' t (by rw [List.length_set] at h1; exact h1))
/-- a class that can be made: own class, place in its pool, the class's number, its fields at birth -/
def nNew (own : String) (idx ci : Nat) (fs : List Value) : Prop := ∃ (C : String) (T : u_T) (n : Nat) (ty : Nat → FieldType), vwCl[ci]? = some (C, T, n) ∧ (∀ w ∈ u_ws C T n, w ∈ gt_tbl) ∧ (∀ k, k < n → parseFieldDescriptor (T k).2.2.1 = some (ty k)) ∧ Cond.classLink own idx C ∈ gt_tbl ∧ Cond.instantiable C n ∈ gt_tbl ∧ Cond.initialized C ∈ gt_tbl ∧ (∀ j, j < n → defaultValue (ty j) = vp_V fs j) ∧ fs.length = n ∧ fs.all (rfV 0) = true
theorem rf0 {fs : List Value} (h : fs.all (rfV 0) = true) : ∀ (ad ad' : Nat → Nat), fs.map (tg_v ad') = fs.map (tg_v ad) := fun ad ad' => rfS_eq (n := 0) (fun k hk => absurd hk (Nat.not_lt_zero k)) h
theorem n_new {idx ci : Nat} {fs : List Value} (hd : decode (z_c Z) pc = .ok (.new idx, 3)) (hf : nNew (z_y Z).cls idx ci fs) (hc : cc + 1 ≤ mc) (hs : dd + fs.length ≤ ms) (hv : rfW ws.length ws = true) (hlv : rfL ws.length lv = true) (hst : st.all (rfV ws.length) = true) (hw : ws ++ [.inr (ci, fs)] = ws') (e : pc + 3 = pc') (hk2 : nr Z mc ms (cc + 1) (dd + fs.length) pc' lv (.ref ws.length :: st) ws' P) : nr Z mc ms cc dd pc lv st ws P := by
  subst e
  subst hw
  intro p l e s m args below meth c D ad cA A Qc H locs ls C hN hD hA hl hP hS hr
  obtain ⟨Cn, T, n, ty, h1, h2, h3, h4, h5, h6, h7, h8, h9⟩ := hf
  subst h8
  refine va_new (ci := ci) (fs := fs) C.1 C.2.1 C.2.2.2.2.2.1 h2 ty h3 C.2.2.2.2.1 (C.2.2.2.2.2.1 _ h4) (C.2.2.2.2.2.1 _ h5) (C.2.2.2.2.2.1 _ h6) C.2.2.2.2.2.2.2 hP (nw_vaD hD) hS hA h1 h7 hc hs hd (fun q H1 hP1 hD1 hS1 => ?_)
  have e0 : fs.map (tg_v ad) = fs := by
    have : fs.map (tg_v ad) = fs.map id := List.map_congr_left fun v hm => by
      have hz := List.all_eq_true.mp h9 v hm
      cases v with
      | ref k => simp [rfV] at hz
      | _ => rfl
    rw [this, List.map_id]
  have e1 : (Sum.inr (ci, fs) : va_E) = nw_e ad cA (.inr (ci, fs)) := by
    simp only [nw_e, e0]
  rw [e1] at hP1 hD1
  have hq : nw_e (ad_up ad ws.length q) cA (.inr (ci, fs)) = nw_e ad cA (.inr (ci, fs)) := by
    simp only [nw_e]
    rw [rf0 h9 ad]
  have hk3 := hk2 (p := p) (l := l) (e := e) (below := below) (ls := ls) C hN (A := A) (Qc := Qc) (by rw [List.length_append]; exact nw_pushD hD hD1) hA (by rw [rfL_eq ad_lt hlv]; exact hl) (by rw [nw_push hv hq]; exact hP1) hS1 (fun ad' N' W' H' locs' t h1 => hr ad' N' W' H' locs' t (fun k hk => by rw [h1 k (by rw [List.length_append]; exact Nat.lt_succ_of_lt hk), ad_lt k hk]))
  have e3 : (Value.ref ws.length :: st).map (tg_v (ad_up ad ws.length q)) = .ref q :: st.map (tg_v ad) := by
    rw [List.map_cons, rfS_eq ad_lt hst]
    simp only [tg_v, ad_at]
  rw [e3] at hk3
  exact hk3
theorem n_newa {atype : ArrayType} {t n : Nat} {x : Int32} {ty : FieldType} (hd : decode (z_c Z) pc = .ok (.newarray atype, 2)) (hty : newarray.typeOf atype = ty) (harr : Cond.arrayClass ty ∈ gt_tbl) (ht : (t = 0 ∧ ty = .int) ∨ (t = 1 ∧ ty = .boolean) ∨ (t = 2 ∧ ty = .long)) (hx : ¬ x < 0) (hN : x.toNatClampNeg = n) (hb : n * componentBytes ty ≤ 536870912) (hc : cc + 1 ≤ mc) (hs : dd + n ≤ ms) (hv : rfW ws.length ws = true) (hlv : rfL ws.length lv = true) (hst : st.all (rfV ws.length) = true) (hw : ws ++ [.inl (t, n)] = ws') (e : pc + 2 = pc') (hk2 : nr Z mc ms (cc + 1) (dd + n) pc' lv (.ref ws.length :: st) ws' P) : nr Z mc ms cc dd pc lv (.int x :: st) ws P := by
  subst e
  subst hw
  subst hty
  intro p l e s m args below meth c D ad cA A Qc H locs ls C hN0 hD hA hl hP hS hr
  have hk9 : ∀ (q : Nat) (H1 : Heap), va_P D vwCl (nw_W ad cA ws ++ [(q, nw_e ad cA (.inl (t, n)))]) H1 → va_D A (nw_W ad cA ws ++ [(q, nw_e ad cA (.inl (t, n)))]) → va_S A s.heap H1 locs → W p l e (n_R Z mc ms) s m args below meth c H1 locs (cc + 1) (dd + n) (MQ below Qc args s mc ms A) (F0 m (pc + 2) ls (.ref q :: st.map (tg_v ad))) := by
    intro q H1 hP1 hD1 hS1
    have hq : nw_e (ad_up ad ws.length q) cA (.inl (t, n)) = nw_e ad cA (.inl (t, n)) := by
      exact nw_inl _ _
    have hk3 := hk2 (p := p) (l := l) (e := e) (below := below) (ls := ls) C hN0 (A := A) (Qc := Qc) (by rw [List.length_append]; exact nw_pushD hD hD1) hA (by rw [rfL_eq ad_lt hlv]; exact hl) (by rw [nw_push hv hq]; exact hP1) hS1 (fun ad' N' W' H' locs' t h1 => hr ad' N' W' H' locs' t (fun k hk => by rw [h1 k (by rw [List.length_append]; exact Nat.lt_succ_of_lt hk), ad_lt k hk]))
    have e3 : (Value.ref ws.length :: st).map (tg_v (ad_up ad ws.length q)) = .ref q :: st.map (tg_v ad) := by
      rw [List.map_cons, rfS_eq ad_lt hst]
      simp only [tg_v, ad_at]
    rw [e3] at hk3
    exact hk3
  have hK := C.2.2.2.2.2.2.2
  have same : ∀ (ty : FieldType) (c1 c2 : ClassId), ty = .int ∨ ty = .boolean ∨ ty = .long → va_RA s c1 ty → va_RA s c2 ty → c1 = c2 := by
    intro ty c1 c2 h h1 h2
    rcases h with rfl | rfl | rfl <;> exact Option.some.inj (Eq.trans (Eq.symm h1) h2)
  rcases ht with ⟨rfl, e1⟩ | ⟨rfl, e1⟩ | ⟨rfl, e1⟩
  · refine va_newa (a0 := (n, .inl (fun _ => 0))) C.1 C.2.1 (C.2.2.2.2.2.1 _ harr) rfl hK hP (nw_vaD hD) hS hA (fun c1 => by rw [e1]; rfl) hx hN hb hc hs hd (fun q c1 H1 hK1 hP1 hD1 hS1 => ?_)
    have h1 : va_RA s c1 (newarray.typeOf atype) := (hK1.2 3 (c1, newarray.typeOf atype) rfl).2
    have h2 : va_RA s (cA 0) .int := (hK.2 0 (cA 0, .int) rfl).2
    rw [e1] at h1
    have h3 := same _ _ _ (Or.inl rfl) h1 h2
    subst h3
    exact hk9 q H1 hP1 hD1 hS1
  · refine va_newa (a0 := (n, .inl (fun _ => 0))) C.1 C.2.1 (C.2.2.2.2.2.1 _ harr) rfl hK hP (nw_vaD hD) hS hA (fun c1 => by rw [e1]; rfl) hx hN hb hc hs hd (fun q c1 H1 hK1 hP1 hD1 hS1 => ?_)
    have h1 : va_RA s c1 (newarray.typeOf atype) := (hK1.2 3 (c1, newarray.typeOf atype) rfl).2
    have h2 : va_RA s (cA 1) .boolean := (hK.2 1 (cA 1, .boolean) rfl).2
    rw [e1] at h1
    have h3 := same _ _ _ (Or.inr (Or.inl rfl)) h1 h2
    subst h3
    exact hk9 q H1 hP1 hD1 hS1
  · refine va_newa (a0 := (n, .inr (.inl (fun _ => 0)))) C.1 C.2.1 (C.2.2.2.2.2.1 _ harr) rfl hK hP (nw_vaD hD) hS hA (fun c1 => by rw [e1]; rfl) hx hN hb hc hs hd (fun q c1 H1 hK1 hP1 hD1 hS1 => ?_)
    have h1 : va_RA s c1 (newarray.typeOf atype) := (hK1.2 3 (c1, newarray.typeOf atype) rfl).2
    have h2 : va_RA s (cA 2) .long := (hK.2 2 (cA 2, .long) rfl).2
    rw [e1] at h1
    have h3 := same _ _ _ (Or.inr (Or.inr rfl)) h1 h2
    subst h3
    exact hk9 q H1 hP1 hD1 hS1
end NR
