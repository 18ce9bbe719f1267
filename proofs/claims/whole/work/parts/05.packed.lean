
/-! THE PACKED MACHINE: a fixed world of cells of fixed shape; ints and longs by cell and place. -/
abbrev tg_S : Type := (Nat × Nat) ⊕ (Nat × List (Nat × Nat))
abbrev tg_G : Type := (Nat → tg_S) × Nat
abbrev tg_I : Type := Nat → Nat → Int32
abbrev tg_J : Type := Nat → Nat → Int64
abbrev zM : Type := MethodName × ByteArray × Nat × Option FieldType × Nat × Nat
abbrev z_y (Z : zM) : MethodName := Z.1
abbrev z_c (Z : zM) : ByteArray := Z.2.1
abbrev z_n (Z : zM) : Nat := Z.2.2.1
abbrev z_r (Z : zM) : Option FieldType := Z.2.2.2.1
abbrev z_f (Z : zM) : Nat := Z.2.2.2.2.1
abbrev z_l (Z : zM) : Nat := Z.2.2.2.2.2
abbrev z_w (Z : zM) : List Cond := Cond.code (z_y Z) (z_c Z) (z_n Z) (z_r Z) :: gt_tbl
abbrev z_R (Z : zM) : Room := { frames := z_f Z, cells := 0, slots := 0, locals := z_l Z }
def tg_v (ad : Nat → Nat) : Value → Value
  | .ref k => .ref (ad k)
  | v => v
def tg_lv (ad : Nat → Nat) (lv : List (Nat × Value)) : List (Nat × Value) := lv.map fun q => (q.1, tg_v ad q.2)
def tg_fv (ad : Nat → Nat) (I : tg_I) (J : tg_J) (k j : Nat) (q : Nat × Nat) : Value := match q.1 with
  | 0 => .int (I k j)
  | 1 => .long (J k j)
  | 2 => .ref (ad q.2)
  | _ => .ref (ad (I k j).toNatClampNeg)
def tg_fs (ad : Nat → Nat) (I : tg_I) (J : tg_J) (k : Nat) (fk : List (Nat × Nat)) : List Value := (List.range fk.length).map fun j => tg_fv ad I J k j (fk.getD j (0, 0))
def tg_e (ad : Nat → Nat) (cA : Nat → ClassId) (G : tg_G) (I : tg_I) (J : tg_J) (k : Nat) : va_E := match G.1 k with
  | .inl (2, n) => .inl (cA 2, n, .inr (.inl (J k)))
  | .inl (t, n) => .inl (cA t, n, .inl (I k))
  | .inr (ci, fk) => .inr (ci, tg_fs ad I J k fk)
def tg_W (ad : Nat → Nat) (cA : Nat → ClassId) (G : tg_G) (I : tg_I) (J : tg_J) : va_W := (List.range G.2).map fun k => (ad k, tg_e ad cA G I J k)
def u2 {α : Type} (f : Nat → Nat → α) (k j : Nat) (v : α) : Nat → Nat → α := fun a b => if a = k ∧ b = j then v else f a b
def tg_D (ad : Nat → Nat) (N : Nat) (A : Nat → Prop) : Prop := (∀ i j, i < N → j < N → ad i = ad j → i = j) ∧ ∀ k, k < N → A (ad k)
def tg_A (ad : Nat → Nat) (N sz : Nat) : Nat → Prop := fun q => (∃ k, k < N ∧ ad k = q) ∨ sz ≤ q
abbrev tg_ty (cA : Nat → ClassId) : List (ClassId × FieldType) := [(cA 0, .int), (cA 1, .boolean), (cA 2, .long)]
theorem tg_get {ad : Nat → Nat} {cA : Nat → ClassId} {G : tg_G} {I : tg_I} {J : tg_J} {k : Nat} (h : k < G.2) : (tg_W ad cA G I J)[k]? = some (ad k, tg_e ad cA G I J k) := by
  simp [tg_W, h]
theorem tg_set {ad : Nat → Nat} {cA : Nat → ClassId} {G : tg_G} {I I' : tg_I} {J J' : tg_J} {k : Nat} (h : k < G.2) (he : ∀ i, i ≠ k → tg_e ad cA G I' J' i = tg_e ad cA G I J i) : (tg_W ad cA G I J).set k (ad k, tg_e ad cA G I' J' k) = tg_W ad cA G I' J' := by
  apply List.ext_getElem?
  intro i
  by_cases hi : i = k
  · subst hi
    rw [List.getElem?_set_self (by simpa [tg_W] using h), tg_get h]
  · rw [List.getElem?_set_ne (fun q => hi q.symm)]
    by_cases hl : i < G.2
    · rw [tg_get hl, tg_get hl, he i hi]
    · have e1 : (tg_W ad cA G I J)[i]? = none := List.getElem?_eq_none (by simp [tg_W]; omega)
      have e2 : (tg_W ad cA G I' J')[i]? = none := List.getElem?_eq_none (by simp [tg_W]; omega)
      rw [e1, e2]
theorem tg_vaD {ad : Nat → Nat} {cA : Nat → ClassId} {G : tg_G} {I : tg_I} {J : tg_J} {A : Nat → Prop} (h : tg_D ad G.2 A) : va_D A (tg_W ad cA G I J) := by
  have key : ∀ (k : Nat) (q : Nat × va_E), (tg_W ad cA G I J)[k]? = some q → k < G.2 ∧ q.1 = ad k := by
    intro k q hk
    have hl : k < G.2 := by
      have := (List.getElem?_eq_some_iff.mp hk).1
      simpa [tg_W] using this
    rw [tg_get hl] at hk
    cases hk
    exact ⟨hl, rfl⟩
  refine ⟨fun i j p q hi hj hpq => ?_, fun k q hk => ?_⟩
  · obtain ⟨a1, a2⟩ := key i p hi
    obtain ⟨b1, b2⟩ := key j q hj
    exact h.1 i j a1 b1 (by rw [← a2, ← b2]; exact hpq)
  · obtain ⟨a1, a2⟩ := key k q hk
    rw [a2]
    exact h.2 k a1
theorem u2_other {α : Type} (f : Nat → Nat → α) (k j : Nat) (v : α) {i : Nat} (h : i ≠ k) : u2 f k j v i = f i := by
  funext b
  simp [u2, h]
theorem u2_same {α : Type} (f : Nat → Nat → α) (k j : Nat) (v : α) : u2 f k j v k = fun b => if b = j then v else f k b := by
  funext b
  simp [u2]
theorem tg_e_otherI {ad : Nat → Nat} {cA : Nat → ClassId} {G : tg_G} {I : tg_I} {J : tg_J} {k j : Nat} {v : Int32} : ∀ i, i ≠ k → tg_e ad cA G (u2 I k j v) J i = tg_e ad cA G I J i := by
  intro i hi
  have h := u2_other I k j v hi
  have h2 : ∀ fk, tg_fs ad (u2 I k j v) J i fk = tg_fs ad I J i fk := by
    intro fk
    unfold tg_fs tg_fv
    simp only [h]
  unfold tg_e
  simp only [h, h2]
theorem tg_e_otherJ {ad : Nat → Nat} {cA : Nat → ClassId} {G : tg_G} {I : tg_I} {J : tg_J} {k j : Nat} {v : Int64} : ∀ i, i ≠ k → tg_e ad cA G I (u2 J k j v) i = tg_e ad cA G I J i := by
  intro i hi
  have h := u2_other J k j v hi
  have h2 : ∀ fk, tg_fs ad I (u2 J k j v) i fk = tg_fs ad I J i fk := by
    intro fk
    unfold tg_fs tg_fv
    simp only [h]
  unfold tg_e
  simp only [h, h2]
theorem tg_fs_get {ad : Nat → Nat} {I : tg_I} {J : tg_J} {k j : Nat} {fk : List (Nat × Nat)} {q : Nat × Nat} (h : fk[j]? = some q) : (tg_fs ad I J k fk)[j]? = some (tg_fv ad I J k j q) := by
  obtain ⟨hl, rfl⟩ := List.getElem?_eq_some_iff.mp h
  simp [tg_fs, hl]
theorem tg_fs_len {ad : Nat → Nat} {I : tg_I} {J : tg_J} {k : Nat} {fk : List (Nat × Nat)} : (tg_fs ad I J k fk).length = fk.length := by simp [tg_fs]
theorem tg_fs_set {ad : Nat → Nat} {I I' : tg_I} {J J' : tg_J} {k j : Nat} {fk : List (Nat × Nat)} {q : Nat × Nat} (h : fk[j]? = some q) (ho : ∀ b, b ≠ j → I' k b = I k b ∧ J' k b = J k b) : (tg_fs ad I J k fk).set j (tg_fv ad I' J' k j q) = tg_fs ad I' J' k fk := by
  have hl : j < fk.length := (List.getElem?_eq_some_iff.mp h).1
  apply List.ext_getElem?
  intro i
  by_cases hi : i = j
  · subst hi
    rw [List.getElem?_set_self (by rw [tg_fs_len]; exact hl), tg_fs_get h]
  · rw [List.getElem?_set_ne (fun z => hi z.symm)]
    by_cases hb : i < fk.length
    · obtain ⟨r, hr⟩ : ∃ r, fk[i]? = some r := ⟨fk[i], List.getElem?_eq_getElem hb⟩
      rw [tg_fs_get hr, tg_fs_get hr]
      obtain ⟨e1, e2⟩ := ho i hi
      unfold tg_fv
      rw [e1, e2]
    · have e1 : (tg_fs ad I J k fk)[i]? = none := List.getElem?_eq_none (by rw [tg_fs_len]; omega)
      have e2 : (tg_fs ad I' J' k fk)[i]? = none := List.getElem?_eq_none (by rw [tg_fs_len]; omega)
      rw [e1, e2]
theorem tg_cat (ad : Nat → Nat) (v : Value) : (tg_v ad v).category = v.category := by cases v <;> rfl
theorem tg_sum (ad : Nat → Nat) (st : List Value) : ((st.map (tg_v ad)).map fun v => v.category).sum = (st.map fun v => v.category).sum := by
  induction st with
  | nil => rfl
  | cons v vs ih => simp only [List.map_cons, List.sum_cons, tg_cat, ih]
theorem tg_lv_at {ad : Nat → Nat} {lv : List (Nat × Value)} {k i : Nat} {v : Value} (h : lv[k]? = some (i, v)) : (tg_lv ad lv)[k]? = some (i, tg_v ad v) := by
  simp [tg_lv, h]
theorem tg_lv_f1 {ad : Nat → Nat} {lv : List (Nat × Value)} {i : Nat} : (tg_lv ad lv).filter (fun q => !(q.1 == i) && !(q.1 + 1 == i && q.2.category == 2)) = tg_lv ad (lv.filter (fun q => !(q.1 == i) && !(q.1 + 1 == i && q.2.category == 2))) := by
  induction lv with
  | nil => rfl
  | cons q qs ih =>
    simp only [tg_lv, List.map_cons, List.filter_cons, tg_cat] at ih ⊢
    split <;> simp_all
theorem tg_lv_f2 {ad : Nat → Nat} {lv : List (Nat × Value)} {i : Nat} : (tg_lv ad lv).filter (fun q => !(q.1 == i) && (!(q.1 == i + 1) && !(q.1 + 1 == i && q.2.category == 2))) = tg_lv ad (lv.filter (fun q => !(q.1 == i) && (!(q.1 == i + 1) && !(q.1 + 1 == i && q.2.category == 2)))) := by
  induction lv with
  | nil => rfl
  | cons q qs ih =>
    simp only [tg_lv, List.map_cons, List.filter_cons, tg_cat] at ih ⊢
    split <;> simp_all
theorem tg_lv_args (ad : Nat → Nat) (vs : List Value) : ∀ i, lv_args i (vs.map (tg_v ad)) = tg_lv ad (lv_args i vs) := by
  induction vs with
  | nil => intro i; rfl
  | cons v vs ih =>
    intro i
    simp only [List.map_cons, lv_args, tg_cat, ih]
    rfl
def tg_C (Z : zM) (p : Program) (s : State) (m : MethodId) (args : Array Value) (meth : Method) (c : Code) (D : va_G) (cA : Nat → ClassId) : Prop :=
  p.tables.exec = Jvm.exec ∧ c.code = z_c Z ∧ meth.sig.returnType = z_r Z ∧ c.maxLocals = z_n Z ∧ s.vm.findClass (z_y Z).cls = some m.cls ∧ (∀ w ∈ gt_tbl, w.before args s = true) ∧ meth.locks = false ∧ va_K D vwCl (tg_ty cA) s
/-- from pc on, with these locals, this stack and this world, the method returns, with P -/
def rr (G : tg_G) (Z : zM) (pc : Nat) (lv : List (Nat × Value)) (st : List Value) (I : tg_I) (J : tg_J) (P : Option Value → tg_I → tg_J → Prop) : Prop :=
  ∀ ⦃p : Program⦄ ⦃l : Launch⦄ ⦃e : Env⦄ ⦃s : State⦄ ⦃m : MethodId⦄ ⦃args : Array Value⦄ ⦃below : List Frame⦄ ⦃meth : Method⦄ ⦃c : Code⦄ ⦃D : va_G⦄ ⦃ad : Nat → Nat⦄ ⦃cA : Nat → ClassId⦄ ⦃A : Nat → Prop⦄ ⦃Qc : Array Value → State → Outcome → State → Prop⦄ ⦃H : Heap⦄ ⦃locs : List Loc⦄ ⦃ls : Array Slot⦄,
    tg_C Z p s m args meth c D cA → tg_D ad G.2 A → (∀ q : Nat, s.heap.size ≤ q → A q) → lv_has ls (z_n Z) (tg_lv ad lv) → va_P D vwCl (tg_W ad cA G I J) H → va_S A s.heap H locs →
    (∀ (v : Option Value) (I' : tg_I) (J' : tg_J) (H' : Heap) (locs' : List Loc) (t : State), P v I' J' → va_P D vwCl (tg_W ad cA G I' J') H' → va_S A s.heap H' locs' → t.heap = H' → s.WarmedH t.vm → Qc args s (.returned (v.map (tg_v ad))) t) →
    W p l e (z_R Z) s m args below meth c H locs 0 0 (MQ below Qc args s 0 0 A) (F0 m pc ls (st.map (tg_v ad)))
def tg_Q (G : tg_G) (D : va_G) (ad : Nat → Nat) (cA : Nat → ClassId) (sz : Nat) (P : Option Value → tg_I → tg_J → Prop) : Array Value → State → Outcome → State → Prop := fun _ st oc t => (∃ (v : Option Value) (I' : tg_I) (J' : tg_J), oc = .returned (v.map (tg_v ad)) ∧ P v I' J' ∧ va_P D vwCl (tg_W ad cA G I' J') t.heap) ∧ va_F (tg_A ad G.2 sz) st t
def tg_Pc (G : tg_G) (D : va_G) (ad : Nat → Nat) (cA : Nat → ClassId) (sz : Nat) (av : List Value) (I : tg_I) (J : tg_J) : Array Value → State → Prop := va_Pc (av.map (tg_v ad)) (fun U => U.heap.size = sz ∧ (∀ i j, i < G.2 → j < G.2 → ad i = ad j → i = j) ∧ va_P D vwCl (tg_W ad cA G I J) U.heap ∧ va_K D vwCl (tg_ty cA) U)
/-- a call of the method, with these arguments, in this world: it returns, with P -/
def call (G : tg_G) (Z : zM) (av : List Value) (I : tg_I) (J : tg_J) (P : Option Value → tg_I → tg_J → Prop) : Prop :=
  ∀ (l : Launch) (D : va_G) (ad : Nat → Nat) (cA : Nat → ClassId) (sz : Nat), Met l (z_y Z) (z_w Z) (z_R Z) (tg_Pc G D ad cA sz av I J) (tg_Q G D ad cA sz P) 0 0 (tg_A ad G.2 sz)
theorem call_of {G : tg_G} {Z : zM} {av : List Value} {I : tg_I} {J : tg_J} {P : Option Value → tg_I → tg_J → Prop} (hy : plainName (z_y Z).cls = true) (hlen : ∀ ad, (lg_sl (av.map (tg_v ad))).length ≤ z_n Z) (h : rr G Z 0 (lv_args 0 av) [] I J P) : call G Z av I J P := by
  intro l D ad cA sz
  refine Met.ofW (cc := z_c Z) (maxL := z_n Z) (ret := z_r Z) hy rfl ?_
  intro p e s m args below meth c s₁ B hml hv
  obtain ⟨rfl, hsz, hinj, hP, hK⟩ := hv
  have hts := atoms_spec (ws := z_w Z) B.pre
  have hl := lv_entry (av.map (tg_v ad)) (n := z_n Z) (hlen ad)
  rw [tg_lv_args] at hl
  rw [lg_entry_eq]
  refine h (Qc := tg_Q G D ad cA sz P) ⟨B.exec, B.bytes, B.returns, hml, findClass_of_methodNamed B.named, fun w hw => hts w (List.mem_cons_of_mem _ hw), B.notSynchronized, hK⟩ ⟨hinj, fun k hk => Or.inl ⟨k, hk, rfl⟩⟩ (fun q hq => Or.inr (by rw [← hsz]; exact hq)) hl hP va_S.rf ?_
  intro v I' J' H' locs' t hp hP' hS' ht hW
  exact ⟨⟨v, I', J', rfl, hp, by rw [ht]; exact hP'⟩, hS'.F ht⟩
theorem call.mono {G : tg_G} {Z : zM} {av : List Value} {I : tg_I} {J : tg_J} {P P' : Option Value → tg_I → tg_J → Prop} (h : call G Z av I J P) (hp : ∀ v I' J', P v I' J' → P' v I' J') : call G Z av I J P' := by
  intro l D ad cA sz
  have hm := h l D ad cA sz
  intro p e ha hc hk s m args below hf happ hP hK
  obtain ⟨k, o, h1, h2, h3, ⟨⟨⟨v, I', J', e1, e2, e3⟩, hF⟩, hE⟩⟩ := hm p e ha hc hk s m args below hf happ hP hK
  exact ⟨k, o, h1, h2, h3, ⟨⟨v, I', J', e1, hp _ _ _ e2, e3⟩, hF⟩, hE⟩


section RR
variable {G : tg_G} {Z : zM} {pc pc' : Nat} {lv lv' : List (Nat × Value)} {st : List Value} {I : tg_I} {J : tg_J} {P : Option Value → tg_I → tg_J → Prop}
theorem rr.sub (ks : List Nat) (hs : lv_pick lv ks = lv') (hk : rr G Z pc lv' st I J P) : rr G Z pc lv st I J P := by
  intro p l e s m args below meth c D ad cA A Qc H locs ls C hD hA hl hP hS hr
  refine hk C hD hA ?_ hP hS hr
  refine lv_sub hl ks ?_
  subst hs
  simp only [lv_pick, tg_lv, List.getElem?_map, List.map_filterMap]
theorem rr.mono {P' : Option Value → tg_I → tg_J → Prop} (hk : rr G Z pc lv st I J P) (hp : ∀ v I' J', P v I' J' → P' v I' J') : rr G Z pc lv st I J P' := by
  intro p l e s m args below meth c D ad cA A Qc H locs ls C hD hA hl hP hS hr
  exact hk C hD hA hl hP hS (fun v I' J' H' locs' t h1 => hr v I' J' H' locs' t (hp _ _ _ h1))

theorem rr_iload_n {k : Fin 4} {i : Nat} {x : Int32} (hd : decode (z_c Z) pc = .ok (.iload_n k, 1)) (hi : (k : Nat) = i) (j : Nat) (hj : lv[j]? = some (i, .int x)) (e : pc + 1 = pc') (hk : rr G Z pc' lv (.int x :: st) I J P) : rr G Z pc lv (st) I J P := by
  subst e
  intro p l e s m args below meth c D ad cA A Qc H locs ls C hD hA hl hP hS hr
  exact lv_iload_n C.1 C.2.1 hd hi (lv_at hl j (tg_lv_at hj)) (hk C hD hA hl hP hS hr)

theorem rr_iload {i : Nat} {x : Int32} (hd : decode (z_c Z) pc = .ok (.iload i, 2)) (j : Nat) (hj : lv[j]? = some (i, .int x)) (e : pc + 2 = pc') (hk : rr G Z pc' lv (.int x :: st) I J P) : rr G Z pc lv (st) I J P := by
  subst e
  intro p l e s m args below meth c D ad cA A Qc H locs ls C hD hA hl hP hS hr
  exact lv_iload C.1 C.2.1 hd (lv_at hl j (tg_lv_at hj)) (hk C hD hA hl hP hS hr)

theorem rr_lload_n {k : Fin 4} {i : Nat} {x : Int64} (hd : decode (z_c Z) pc = .ok (.lload_n k, 1)) (hi : (k : Nat) = i) (j : Nat) (hj : lv[j]? = some (i, .long x)) (e : pc + 1 = pc') (hk : rr G Z pc' lv (.long x :: st) I J P) : rr G Z pc lv (st) I J P := by
  subst e
  intro p l e s m args below meth c D ad cA A Qc H locs ls C hD hA hl hP hS hr
  exact lv_lload_n C.1 C.2.1 hd hi (lv_at hl j (tg_lv_at hj)) (hk C hD hA hl hP hS hr)

theorem rr_lload {i : Nat} {x : Int64} (hd : decode (z_c Z) pc = .ok (.lload i, 2)) (j : Nat) (hj : lv[j]? = some (i, .long x)) (e : pc + 2 = pc') (hk : rr G Z pc' lv (.long x :: st) I J P) : rr G Z pc lv (st) I J P := by
  subst e
  intro p l e s m args below meth c D ad cA A Qc H locs ls C hD hA hl hP hS hr
  exact lv_lload C.1 C.2.1 hd (lv_at hl j (tg_lv_at hj)) (hk C hD hA hl hP hS hr)

theorem rr_aload_n {k : Fin 4} {i : Nat} {x : Nat} (hd : decode (z_c Z) pc = .ok (.aload_n k, 1)) (hi : (k : Nat) = i) (j : Nat) (hj : lv[j]? = some (i, .ref x)) (e : pc + 1 = pc') (hk : rr G Z pc' lv (.ref x :: st) I J P) : rr G Z pc lv (st) I J P := by
  subst e
  intro p l e s m args below meth c D ad cA A Qc H locs ls C hD hA hl hP hS hr
  exact lv_aload_n C.1 C.2.1 hd hi (lv_at hl j (tg_lv_at hj)) (hk C hD hA hl hP hS hr)

theorem rr_aload {i : Nat} {x : Nat} (hd : decode (z_c Z) pc = .ok (.aload i, 2)) (j : Nat) (hj : lv[j]? = some (i, .ref x)) (e : pc + 2 = pc') (hk : rr G Z pc' lv (.ref x :: st) I J P) : rr G Z pc lv (st) I J P := by
  subst e
  intro p l e s m args below meth c D ad cA A Qc H locs ls C hD hA hl hP hS hr
  exact lv_aload C.1 C.2.1 hd (lv_at hl j (tg_lv_at hj)) (hk C hD hA hl hP hS hr)

theorem rr_istore_n {k : Fin 4} {i : Nat} {x : Int32} (hd : decode (z_c Z) pc = .ok (.istore_n k, 1)) (hi : (k : Nat) = i) (hn : i < z_n Z) (hl9 : (i, Value.int x) :: lv.filter (fun q => !(q.1 == i) && !(q.1 + 1 == i && q.2.category == 2)) = lv') (e : pc + 1 = pc') (hk : rr G Z pc' lv' st I J P) : rr G Z pc lv (.int x :: st) I J P := by
  subst e
  intro p l e s m args below meth c D ad cA A Qc H locs ls C hD hA hl hP hS hr
  exact lv_istore_n C.1 C.2.1 hd hi hl hn (lv' := tg_lv ad lv') (by rw [tg_lv_f1, ← hl9]; rfl) (fun ls hl => hk C hD hA hl hP hS hr)

theorem rr_istore {i : Nat} {x : Int32} (hd : decode (z_c Z) pc = .ok (.istore i, 2)) (hn : i < z_n Z) (hl9 : (i, Value.int x) :: lv.filter (fun q => !(q.1 == i) && !(q.1 + 1 == i && q.2.category == 2)) = lv') (e : pc + 2 = pc') (hk : rr G Z pc' lv' st I J P) : rr G Z pc lv (.int x :: st) I J P := by
  subst e
  intro p l e s m args below meth c D ad cA A Qc H locs ls C hD hA hl hP hS hr
  exact lv_istore C.1 C.2.1 hd hl hn (lv' := tg_lv ad lv') (by rw [tg_lv_f1, ← hl9]; rfl) (fun ls hl => hk C hD hA hl hP hS hr)

theorem rr_lstore_n {k : Fin 4} {i : Nat} {x : Int64} (hd : decode (z_c Z) pc = .ok (.lstore_n k, 1)) (hi : (k : Nat) = i) (hn : i + 1 < z_n Z) (hl9 : (i, Value.long x) :: lv.filter (fun q => !(q.1 == i) && (!(q.1 == i + 1) && !(q.1 + 1 == i && q.2.category == 2))) = lv') (e : pc + 1 = pc') (hk : rr G Z pc' lv' st I J P) : rr G Z pc lv (.long x :: st) I J P := by
  subst e
  intro p l e s m args below meth c D ad cA A Qc H locs ls C hD hA hl hP hS hr
  exact lv_lstore_n C.1 C.2.1 hd hi hl hn (lv' := tg_lv ad lv') (by rw [tg_lv_f2, ← hl9]; rfl) (fun ls hl => hk C hD hA hl hP hS hr)

theorem rr_lstore {i : Nat} {x : Int64} (hd : decode (z_c Z) pc = .ok (.lstore i, 2)) (hn : i + 1 < z_n Z) (hl9 : (i, Value.long x) :: lv.filter (fun q => !(q.1 == i) && (!(q.1 == i + 1) && !(q.1 + 1 == i && q.2.category == 2))) = lv') (e : pc + 2 = pc') (hk : rr G Z pc' lv' st I J P) : rr G Z pc lv (.long x :: st) I J P := by
  subst e
  intro p l e s m args below meth c D ad cA A Qc H locs ls C hD hA hl hP hS hr
  exact lv_lstore C.1 C.2.1 hd hl hn (lv' := tg_lv ad lv') (by rw [tg_lv_f2, ← hl9]; rfl) (fun ls hl => hk C hD hA hl hP hS hr)

theorem rr_astore_n {k : Fin 4} {i : Nat} {x : Nat} (hd : decode (z_c Z) pc = .ok (.astore_n k, 1)) (hi : (k : Nat) = i) (hn : i < z_n Z) (hl9 : (i, Value.ref x) :: lv.filter (fun q => !(q.1 == i) && !(q.1 + 1 == i && q.2.category == 2)) = lv') (e : pc + 1 = pc') (hk : rr G Z pc' lv' st I J P) : rr G Z pc lv (.ref x :: st) I J P := by
  subst e
  intro p l e s m args below meth c D ad cA A Qc H locs ls C hD hA hl hP hS hr
  exact lv_astore_n C.1 C.2.1 hd hi hl hn (lv' := tg_lv ad lv') (by rw [tg_lv_f1, ← hl9]; rfl) (fun ls hl => hk C hD hA hl hP hS hr)

theorem rr_astore {i : Nat} {x : Nat} (hd : decode (z_c Z) pc = .ok (.astore i, 2)) (hn : i < z_n Z) (hl9 : (i, Value.ref x) :: lv.filter (fun q => !(q.1 == i) && !(q.1 + 1 == i && q.2.category == 2)) = lv') (e : pc + 2 = pc') (hk : rr G Z pc' lv' st I J P) : rr G Z pc lv (.ref x :: st) I J P := by
  subst e
  intro p l e s m args below meth c D ad cA A Qc H locs ls C hD hA hl hP hS hr
  exact lv_astore C.1 C.2.1 hd hl hn (lv' := tg_lv ad lv') (by rw [tg_lv_f1, ← hl9]; rfl) (fun ls hl => hk C hD hA hl hP hS hr)

theorem rr_iinc {i k : Nat} {n : Int} {x v : Int32} (hd : decode (z_c Z) pc = .ok (.iinc i n, 3)) (hj : lv[k]? = some (i, .int x)) (hv : x + Int32.ofInt n = v) (hn : i < z_n Z) (hl9 : (i, Value.int v) :: lv.filter (fun q => !(q.1 == i) && !(q.1 + 1 == i && q.2.category == 2)) = lv') (e : pc + 3 = pc') (hk : rr G Z pc' lv' st I J P) : rr G Z pc lv st I J P := by
  subst e
  intro p l e s m args below meth c D ad cA A Qc H locs ls C hD hA hl hP hS hr
  exact lv_iinc C.1 C.2.1 hd hl (tg_lv_at hj) hv hn (lv' := tg_lv ad lv') (by rw [tg_lv_f1, ← hl9]; rfl) (fun ls hl => hk C hD hA hl hP hS hr)

theorem rr_iconst {n : Int} {v : Int32} (hd : decode (z_c Z) pc = .ok (.iconst n, 1)) (hv : Int32.ofInt n = v) (e : pc + 1 = pc') (hk : rr G Z pc' lv (.int v :: st) I J P) : rr G Z pc lv (st) I J P := by
  subst e
  intro p l e s m args below meth c D ad cA A Qc H locs ls C hD hA hl hP hS hr
  exact lv_iconst C.1 C.2.1 hd hv (hk C hD hA hl hP hS hr)

theorem rr_bipush {n : Int} {v : Int32} (hd : decode (z_c Z) pc = .ok (.bipush n, 2)) (hv : (Int8.ofInt n).toInt32 = v) (e : pc + 2 = pc') (hk : rr G Z pc' lv (.int v :: st) I J P) : rr G Z pc lv (st) I J P := by
  subst e
  intro p l e s m args below meth c D ad cA A Qc H locs ls C hD hA hl hP hS hr
  exact lv_bipush C.1 C.2.1 hd hv (hk C hD hA hl hP hS hr)

theorem rr_sipush {n : Int} {v : Int32} (hd : decode (z_c Z) pc = .ok (.sipush n, 3)) (hv : (Int16.ofInt n).toInt32 = v) (e : pc + 3 = pc') (hk : rr G Z pc' lv (.int v :: st) I J P) : rr G Z pc lv (st) I J P := by
  subst e
  intro p l e s m args below meth c D ad cA A Qc H locs ls C hD hA hl hP hS hr
  exact lv_sipush C.1 C.2.1 hd hv (hk C hD hA hl hP hS hr)

theorem rr_lconst {n : Fin 2} {v : Int64} (hd : decode (z_c Z) pc = .ok (.lconst n, 1)) (hv : Int64.ofNat (n : Nat) = v) (e : pc + 1 = pc') (hk : rr G Z pc' lv (.long v :: st) I J P) : rr G Z pc lv (st) I J P := by
  subst e
  intro p l e s m args below meth c D ad cA A Qc H locs ls C hD hA hl hP hS hr
  exact lv_lconst C.1 C.2.1 hd hv (hk C hD hA hl hP hS hr)

theorem rr_ldc {i : Nat} {v : Int32} (hd : decode (z_c Z) pc = .ok (.ldc i, 2)) (hw : Cond.constant (z_y Z).cls i v ∈ gt_tbl) (e : pc + 2 = pc') (hk : rr G Z pc' lv (.int v :: st) I J P) : rr G Z pc lv (st) I J P := by
  subst e
  intro p l e s m args below meth c D ad cA A Qc H locs ls C hD hA hl hP hS hr
  exact lv_ldc C.1 C.2.1 C.2.2.2.2.1 (C.2.2.2.2.2.1 _ hw) hd (hk C hD hA hl hP hS hr)

theorem rr_ldc2 {i : Nat} {v : Int64} (hd : decode (z_c Z) pc = .ok (.ldc2_w i, 3)) (hw : Cond.constantLong (z_y Z).cls i v ∈ gt_tbl) (e : pc + 3 = pc') (hk : rr G Z pc' lv (.long v :: st) I J P) : rr G Z pc lv (st) I J P := by
  subst e
  intro p l e s m args below meth c D ad cA A Qc H locs ls C hD hA hl hP hS hr
  exact lv_ldc2 C.1 C.2.1 C.2.2.2.2.1 (C.2.2.2.2.2.1 _ hw) hd (hk C hD hA hl hP hS hr)

theorem rr_iadd {x y : Int32} (hd : decode (z_c Z) pc = .ok (.iadd, 1)) (e : pc + 1 = pc') (hk : rr G Z pc' lv (.int (x + y) :: st) I J P) : rr G Z pc lv (.int y :: .int x :: st) I J P := by
  subst e
  intro p l e s m args below meth c D ad cA A Qc H locs ls C hD hA hl hP hS hr
  exact lv_iadd C.1 C.2.1 hd (hk C hD hA hl hP hS hr)

theorem rr_isub {x y : Int32} (hd : decode (z_c Z) pc = .ok (.isub, 1)) (e : pc + 1 = pc') (hk : rr G Z pc' lv (.int (x - y) :: st) I J P) : rr G Z pc lv (.int y :: .int x :: st) I J P := by
  subst e
  intro p l e s m args below meth c D ad cA A Qc H locs ls C hD hA hl hP hS hr
  exact lv_isub C.1 C.2.1 hd (hk C hD hA hl hP hS hr)

theorem rr_imul {x y : Int32} (hd : decode (z_c Z) pc = .ok (.imul, 1)) (e : pc + 1 = pc') (hk : rr G Z pc' lv (.int (x * y) :: st) I J P) : rr G Z pc lv (.int y :: .int x :: st) I J P := by
  subst e
  intro p l e s m args below meth c D ad cA A Qc H locs ls C hD hA hl hP hS hr
  exact lv_imul C.1 C.2.1 hd (hk C hD hA hl hP hS hr)

theorem rr_iand {x y : Int32} (hd : decode (z_c Z) pc = .ok (.iand, 1)) (e : pc + 1 = pc') (hk : rr G Z pc' lv (.int (x &&& y) :: st) I J P) : rr G Z pc lv (.int y :: .int x :: st) I J P := by
  subst e
  intro p l e s m args below meth c D ad cA A Qc H locs ls C hD hA hl hP hS hr
  exact lv_iand C.1 C.2.1 hd (hk C hD hA hl hP hS hr)

theorem rr_ior {x y : Int32} (hd : decode (z_c Z) pc = .ok (.ior, 1)) (e : pc + 1 = pc') (hk : rr G Z pc' lv (.int (x ||| y) :: st) I J P) : rr G Z pc lv (.int y :: .int x :: st) I J P := by
  subst e
  intro p l e s m args below meth c D ad cA A Qc H locs ls C hD hA hl hP hS hr
  exact lv_ior C.1 C.2.1 hd (hk C hD hA hl hP hS hr)

theorem rr_ixor {x y : Int32} (hd : decode (z_c Z) pc = .ok (.ixor, 1)) (e : pc + 1 = pc') (hk : rr G Z pc' lv (.int (x ^^^ y) :: st) I J P) : rr G Z pc lv (.int y :: .int x :: st) I J P := by
  subst e
  intro p l e s m args below meth c D ad cA A Qc H locs ls C hD hA hl hP hS hr
  exact lv_ixor C.1 C.2.1 hd (hk C hD hA hl hP hS hr)

theorem rr_ishl {x y : Int32} (hd : decode (z_c Z) pc = .ok (.ishl, 1)) (e : pc + 1 = pc') (hk : rr G Z pc' lv (.int (x <<< (y &&& 31)) :: st) I J P) : rr G Z pc lv (.int y :: .int x :: st) I J P := by
  subst e
  intro p l e s m args below meth c D ad cA A Qc H locs ls C hD hA hl hP hS hr
  exact lv_ishl C.1 C.2.1 hd (hk C hD hA hl hP hS hr)

theorem rr_ishr {x y : Int32} (hd : decode (z_c Z) pc = .ok (.ishr, 1)) (e : pc + 1 = pc') (hk : rr G Z pc' lv (.int (x >>> (y &&& 31)) :: st) I J P) : rr G Z pc lv (.int y :: .int x :: st) I J P := by
  subst e
  intro p l e s m args below meth c D ad cA A Qc H locs ls C hD hA hl hP hS hr
  exact lv_ishr C.1 C.2.1 hd (hk C hD hA hl hP hS hr)

theorem rr_idiv {x y : Int32} (hd : decode (z_c Z) pc = .ok (.idiv, 1)) (hne : ¬ y = 0) (e : pc + 1 = pc') (hk : rr G Z pc' lv (.int (x / y) :: st) I J P) : rr G Z pc lv (.int y :: .int x :: st) I J P := by
  subst e
  intro p l e s m args below meth c D ad cA A Qc H locs ls C hD hA hl hP hS hr
  exact lv_idiv C.1 C.2.1 hd hne (hk C hD hA hl hP hS hr)

theorem rr_irem {x y : Int32} (hd : decode (z_c Z) pc = .ok (.irem, 1)) (hne : ¬ y = 0) (e : pc + 1 = pc') (hk : rr G Z pc' lv (.int (x - x / y * y) :: st) I J P) : rr G Z pc lv (.int y :: .int x :: st) I J P := by
  subst e
  intro p l e s m args below meth c D ad cA A Qc H locs ls C hD hA hl hP hS hr
  exact lv_irem C.1 C.2.1 hd hne (hk C hD hA hl hP hS hr)

theorem rr_ladd {x y : Int64} (hd : decode (z_c Z) pc = .ok (.ladd, 1)) (e : pc + 1 = pc') (hk : rr G Z pc' lv (.long (x + y) :: st) I J P) : rr G Z pc lv (.long y :: .long x :: st) I J P := by
  subst e
  intro p l e s m args below meth c D ad cA A Qc H locs ls C hD hA hl hP hS hr
  exact lv_ladd C.1 C.2.1 hd (hk C hD hA hl hP hS hr)

theorem rr_lsub {x y : Int64} (hd : decode (z_c Z) pc = .ok (.lsub, 1)) (e : pc + 1 = pc') (hk : rr G Z pc' lv (.long (x - y) :: st) I J P) : rr G Z pc lv (.long y :: .long x :: st) I J P := by
  subst e
  intro p l e s m args below meth c D ad cA A Qc H locs ls C hD hA hl hP hS hr
  exact lv_lsub C.1 C.2.1 hd (hk C hD hA hl hP hS hr)

theorem rr_lmul {x y : Int64} (hd : decode (z_c Z) pc = .ok (.lmul, 1)) (e : pc + 1 = pc') (hk : rr G Z pc' lv (.long (x * y) :: st) I J P) : rr G Z pc lv (.long y :: .long x :: st) I J P := by
  subst e
  intro p l e s m args below meth c D ad cA A Qc H locs ls C hD hA hl hP hS hr
  exact lv_lmul C.1 C.2.1 hd (hk C hD hA hl hP hS hr)

theorem rr_land {x y : Int64} (hd : decode (z_c Z) pc = .ok (.land, 1)) (e : pc + 1 = pc') (hk : rr G Z pc' lv (.long (x &&& y) :: st) I J P) : rr G Z pc lv (.long y :: .long x :: st) I J P := by
  subst e
  intro p l e s m args below meth c D ad cA A Qc H locs ls C hD hA hl hP hS hr
  exact lv_land C.1 C.2.1 hd (hk C hD hA hl hP hS hr)

theorem rr_lor {x y : Int64} (hd : decode (z_c Z) pc = .ok (.lor, 1)) (e : pc + 1 = pc') (hk : rr G Z pc' lv (.long (x ||| y) :: st) I J P) : rr G Z pc lv (.long y :: .long x :: st) I J P := by
  subst e
  intro p l e s m args below meth c D ad cA A Qc H locs ls C hD hA hl hP hS hr
  exact lv_lor C.1 C.2.1 hd (hk C hD hA hl hP hS hr)

theorem rr_lxor {x y : Int64} (hd : decode (z_c Z) pc = .ok (.lxor, 1)) (e : pc + 1 = pc') (hk : rr G Z pc' lv (.long (x ^^^ y) :: st) I J P) : rr G Z pc lv (.long y :: .long x :: st) I J P := by
  subst e
  intro p l e s m args below meth c D ad cA A Qc H locs ls C hD hA hl hP hS hr
  exact lv_lxor C.1 C.2.1 hd (hk C hD hA hl hP hS hr)

theorem rr_lrem {x y : Int64} (hd : decode (z_c Z) pc = .ok (.lrem, 1)) (hne : ¬ y = 0) (e : pc + 1 = pc') (hk : rr G Z pc' lv (.long (x - x / y * y) :: st) I J P) : rr G Z pc lv (.long y :: .long x :: st) I J P := by
  subst e
  intro p l e s m args below meth c D ad cA A Qc H locs ls C hD hA hl hP hS hr
  exact lv_lrem C.1 C.2.1 hd hne (hk C hD hA hl hP hS hr)

theorem rr_iushr {x y : Int32} (hd : decode (z_c Z) pc = .ok (.iushr, 1)) (e : pc + 1 = pc') (hk : rr G Z pc' lv (.int ((x.toUInt32 >>> (y.toUInt32 &&& Int32.toUInt32 31)).toInt32) :: st) I J P) : rr G Z pc lv (.int y :: .int x :: st) I J P := by
  subst e
  intro p l e s m args below meth c D ad cA A Qc H locs ls C hD hA hl hP hS hr
  exact lv_iushr C.1 C.2.1 hd rfl (hk C hD hA hl hP hS hr)

theorem rr_lushr {x : Int64} {y : Int32} (hd : decode (z_c Z) pc = .ok (.lushr, 1)) (e : pc + 1 = pc') (hk : rr G Z pc' lv (.long ((x.toUInt64 >>> (y.toInt64.toUInt64 &&& Int64.toUInt64 63)).toInt64) :: st) I J P) : rr G Z pc lv (.int y :: .long x :: st) I J P := by
  subst e
  intro p l e s m args below meth c D ad cA A Qc H locs ls C hD hA hl hP hS hr
  exact lv_lushr C.1 C.2.1 hd rfl (hk C hD hA hl hP hS hr)

theorem rr_lshl {x : Int64} {y : Int32} (hd : decode (z_c Z) pc = .ok (.lshl, 1)) (e : pc + 1 = pc') (hk : rr G Z pc' lv (.long (x <<< (y.toInt64 &&& 63)) :: st) I J P) : rr G Z pc lv (.int y :: .long x :: st) I J P := by
  subst e
  intro p l e s m args below meth c D ad cA A Qc H locs ls C hD hA hl hP hS hr
  exact lv_lshl C.1 C.2.1 hd rfl (hk C hD hA hl hP hS hr)

theorem rr_i2l {x : Int32} (hd : decode (z_c Z) pc = .ok (.i2l, 1)) (e : pc + 1 = pc') (hk : rr G Z pc' lv (.long x.toInt64 :: st) I J P) : rr G Z pc lv (.int x :: st) I J P := by
  subst e
  intro p l e s m args below meth c D ad cA A Qc H locs ls C hD hA hl hP hS hr
  exact lv_i2l C.1 C.2.1 hd rfl (hk C hD hA hl hP hS hr)

theorem rr_l2i {x : Int64} (hd : decode (z_c Z) pc = .ok (.l2i, 1)) (e : pc + 1 = pc') (hk : rr G Z pc' lv (.int x.toInt32 :: st) I J P) : rr G Z pc lv (.long x :: st) I J P := by
  subst e
  intro p l e s m args below meth c D ad cA A Qc H locs ls C hD hA hl hP hS hr
  exact lv_l2i C.1 C.2.1 hd rfl (hk C hD hA hl hP hS hr)

theorem rr_lneg {x : Int64} (hd : decode (z_c Z) pc = .ok (.lneg, 1)) (e : pc + 1 = pc') (hk : rr G Z pc' lv (.long (-x) :: st) I J P) : rr G Z pc lv (.long x :: st) I J P := by
  subst e
  intro p l e s m args below meth c D ad cA A Qc H locs ls C hD hA hl hP hS hr
  exact lv_lneg C.1 C.2.1 hd (hk C hD hA hl hP hS hr)

theorem rr_lcmp {x y : Int64} (hd : decode (z_c Z) pc = .ok (.lcmp, 1)) (e : pc + 1 = pc') (hk : rr G Z pc' lv (.int (lg_cmp x y) :: st) I J P) : rr G Z pc lv (.long y :: .long x :: st) I J P := by
  subst e
  intro p l e s m args below meth c D ad cA A Qc H locs ls C hD hA hl hP hS hr
  exact W.lcmp C.1 C.2.1 hd (hk C hD hA hl hP hS hr)

theorem rr_dup {v : Value} (hd : decode (z_c Z) pc = .ok (.dup, 1)) (hv : v.category = 1) (e : pc + 1 = pc') (hk : rr G Z pc' lv (v :: v :: st) I J P) : rr G Z pc lv (v :: st) I J P := by
  subst e
  intro p l e s m args below meth c D ad cA A Qc H locs ls C hD hA hl hP hS hr
  exact lv_dup C.1 C.2.1 hd (by rw [tg_cat]; exact hv) (hk C hD hA hl hP hS hr)

theorem rr_pop {v : Value} (hd : decode (z_c Z) pc = .ok (.pop, 1)) (hv : v.category = 1) (e : pc + 1 = pc') (hk : rr G Z pc' lv (st) I J P) : rr G Z pc lv (v :: st) I J P := by
  subst e
  intro p l e s m args below meth c D ad cA A Qc H locs ls C hD hA hl hP hS hr
  exact lv_pop C.1 C.2.1 hd (by rw [tg_cat]; exact hv) (hk C hD hA hl hP hS hr)

theorem rr_dup2_11 {v w : Value} (hd : decode (z_c Z) pc = .ok (.dup2, 1)) (hv : v.category = 1) (hw : w.category = 1) (e : pc + 1 = pc') (hk : rr G Z pc' lv (v :: w :: v :: w :: st) I J P) : rr G Z pc lv (v :: w :: st) I J P := by
  subst e
  intro p l e s m args below meth c D ad cA A Qc H locs ls C hD hA hl hP hS hr
  exact lv_dup2_11 C.1 C.2.1 hd (by rw [tg_cat]; exact hv) (by rw [tg_cat]; exact hw) (hk C hD hA hl hP hS hr)

theorem rr_dup2_2 {v : Value} (hd : decode (z_c Z) pc = .ok (.dup2, 1)) (hv : v.category = 2) (e : pc + 1 = pc') (hk : rr G Z pc' lv (v :: v :: st) I J P) : rr G Z pc lv (v :: st) I J P := by
  subst e
  intro p l e s m args below meth c D ad cA A Qc H locs ls C hD hA hl hP hS hr
  exact lv_dup2_2 C.1 C.2.1 hd (by rw [tg_cat]; exact hv) (hk C hD hA hl hP hS hr)

theorem rr_if_eq {x : Int32} {off : Int} {tgt : Nat} (hd : decode (z_c Z) pc = .ok (.ifCond .eq off, 3)) (ht : (pc : Int) + off = (tgt : Int)) (e : pc + 3 = pc') (h : (x = 0 → rr G Z tgt lv st I J P) ∧ (¬ x = 0 → rr G Z pc' lv st I J P)) : rr G Z pc lv (.int x :: st) I J P := by
  subst e
  intro p l e s m args below meth c D ad cA A Qc H locs ls C hD hA hl hP hS hr
  exact lv_if_eq C.1 C.2.1 hd ht (fun z => h.1 z C hD hA hl hP hS hr) (fun z => h.2 z C hD hA hl hP hS hr)

theorem rr_icmp_eq {x y : Int32} {off : Int} {tgt : Nat} (hd : decode (z_c Z) pc = .ok (.if_icmp .eq off, 3)) (ht : (pc : Int) + off = (tgt : Int)) (e : pc + 3 = pc') (h : (x = y → rr G Z tgt lv st I J P) ∧ (¬ x = y → rr G Z pc' lv st I J P)) : rr G Z pc lv (.int y :: .int x :: st) I J P := by
  subst e
  intro p l e s m args below meth c D ad cA A Qc H locs ls C hD hA hl hP hS hr
  exact lv_icmp_eq C.1 C.2.1 hd ht (fun z => h.1 z C hD hA hl hP hS hr) (fun z => h.2 z C hD hA hl hP hS hr)

theorem rr_if_ne {x : Int32} {off : Int} {tgt : Nat} (hd : decode (z_c Z) pc = .ok (.ifCond .ne off, 3)) (ht : (pc : Int) + off = (tgt : Int)) (e : pc + 3 = pc') (h : (¬ x = 0 → rr G Z tgt lv st I J P) ∧ (x = 0 → rr G Z pc' lv st I J P)) : rr G Z pc lv (.int x :: st) I J P := by
  subst e
  intro p l e s m args below meth c D ad cA A Qc H locs ls C hD hA hl hP hS hr
  exact lv_if_ne C.1 C.2.1 hd ht (fun z => h.1 z C hD hA hl hP hS hr) (fun z => h.2 z C hD hA hl hP hS hr)

theorem rr_icmp_ne {x y : Int32} {off : Int} {tgt : Nat} (hd : decode (z_c Z) pc = .ok (.if_icmp .ne off, 3)) (ht : (pc : Int) + off = (tgt : Int)) (e : pc + 3 = pc') (h : (¬ x = y → rr G Z tgt lv st I J P) ∧ (x = y → rr G Z pc' lv st I J P)) : rr G Z pc lv (.int y :: .int x :: st) I J P := by
  subst e
  intro p l e s m args below meth c D ad cA A Qc H locs ls C hD hA hl hP hS hr
  exact lv_icmp_ne C.1 C.2.1 hd ht (fun z => h.1 z C hD hA hl hP hS hr) (fun z => h.2 z C hD hA hl hP hS hr)

theorem rr_if_lt {x : Int32} {off : Int} {tgt : Nat} (hd : decode (z_c Z) pc = .ok (.ifCond .lt off, 3)) (ht : (pc : Int) + off = (tgt : Int)) (e : pc + 3 = pc') (h : (x < 0 → rr G Z tgt lv st I J P) ∧ (¬ x < 0 → rr G Z pc' lv st I J P)) : rr G Z pc lv (.int x :: st) I J P := by
  subst e
  intro p l e s m args below meth c D ad cA A Qc H locs ls C hD hA hl hP hS hr
  exact lv_if_lt C.1 C.2.1 hd ht (fun z => h.1 z C hD hA hl hP hS hr) (fun z => h.2 z C hD hA hl hP hS hr)

theorem rr_icmp_lt {x y : Int32} {off : Int} {tgt : Nat} (hd : decode (z_c Z) pc = .ok (.if_icmp .lt off, 3)) (ht : (pc : Int) + off = (tgt : Int)) (e : pc + 3 = pc') (h : (x < y → rr G Z tgt lv st I J P) ∧ (¬ x < y → rr G Z pc' lv st I J P)) : rr G Z pc lv (.int y :: .int x :: st) I J P := by
  subst e
  intro p l e s m args below meth c D ad cA A Qc H locs ls C hD hA hl hP hS hr
  exact lv_icmp_lt C.1 C.2.1 hd ht (fun z => h.1 z C hD hA hl hP hS hr) (fun z => h.2 z C hD hA hl hP hS hr)

theorem rr_if_ge {x : Int32} {off : Int} {tgt : Nat} (hd : decode (z_c Z) pc = .ok (.ifCond .ge off, 3)) (ht : (pc : Int) + off = (tgt : Int)) (e : pc + 3 = pc') (h : (0 ≤ x → rr G Z tgt lv st I J P) ∧ (¬ 0 ≤ x → rr G Z pc' lv st I J P)) : rr G Z pc lv (.int x :: st) I J P := by
  subst e
  intro p l e s m args below meth c D ad cA A Qc H locs ls C hD hA hl hP hS hr
  exact lv_if_ge C.1 C.2.1 hd ht (fun z => h.1 z C hD hA hl hP hS hr) (fun z => h.2 z C hD hA hl hP hS hr)

theorem rr_icmp_ge {x y : Int32} {off : Int} {tgt : Nat} (hd : decode (z_c Z) pc = .ok (.if_icmp .ge off, 3)) (ht : (pc : Int) + off = (tgt : Int)) (e : pc + 3 = pc') (h : (y ≤ x → rr G Z tgt lv st I J P) ∧ (¬ y ≤ x → rr G Z pc' lv st I J P)) : rr G Z pc lv (.int y :: .int x :: st) I J P := by
  subst e
  intro p l e s m args below meth c D ad cA A Qc H locs ls C hD hA hl hP hS hr
  exact lv_icmp_ge C.1 C.2.1 hd ht (fun z => h.1 z C hD hA hl hP hS hr) (fun z => h.2 z C hD hA hl hP hS hr)

theorem rr_if_gt {x : Int32} {off : Int} {tgt : Nat} (hd : decode (z_c Z) pc = .ok (.ifCond .gt off, 3)) (ht : (pc : Int) + off = (tgt : Int)) (e : pc + 3 = pc') (h : (0 < x → rr G Z tgt lv st I J P) ∧ (¬ 0 < x → rr G Z pc' lv st I J P)) : rr G Z pc lv (.int x :: st) I J P := by
  subst e
  intro p l e s m args below meth c D ad cA A Qc H locs ls C hD hA hl hP hS hr
  exact lv_if_gt C.1 C.2.1 hd ht (fun z => h.1 z C hD hA hl hP hS hr) (fun z => h.2 z C hD hA hl hP hS hr)

theorem rr_icmp_gt {x y : Int32} {off : Int} {tgt : Nat} (hd : decode (z_c Z) pc = .ok (.if_icmp .gt off, 3)) (ht : (pc : Int) + off = (tgt : Int)) (e : pc + 3 = pc') (h : (y < x → rr G Z tgt lv st I J P) ∧ (¬ y < x → rr G Z pc' lv st I J P)) : rr G Z pc lv (.int y :: .int x :: st) I J P := by
  subst e
  intro p l e s m args below meth c D ad cA A Qc H locs ls C hD hA hl hP hS hr
  exact lv_icmp_gt C.1 C.2.1 hd ht (fun z => h.1 z C hD hA hl hP hS hr) (fun z => h.2 z C hD hA hl hP hS hr)

theorem rr_if_le {x : Int32} {off : Int} {tgt : Nat} (hd : decode (z_c Z) pc = .ok (.ifCond .le off, 3)) (ht : (pc : Int) + off = (tgt : Int)) (e : pc + 3 = pc') (h : (x ≤ 0 → rr G Z tgt lv st I J P) ∧ (¬ x ≤ 0 → rr G Z pc' lv st I J P)) : rr G Z pc lv (.int x :: st) I J P := by
  subst e
  intro p l e s m args below meth c D ad cA A Qc H locs ls C hD hA hl hP hS hr
  exact lv_if_le C.1 C.2.1 hd ht (fun z => h.1 z C hD hA hl hP hS hr) (fun z => h.2 z C hD hA hl hP hS hr)

theorem rr_icmp_le {x y : Int32} {off : Int} {tgt : Nat} (hd : decode (z_c Z) pc = .ok (.if_icmp .le off, 3)) (ht : (pc : Int) + off = (tgt : Int)) (e : pc + 3 = pc') (h : (x ≤ y → rr G Z tgt lv st I J P) ∧ (¬ x ≤ y → rr G Z pc' lv st I J P)) : rr G Z pc lv (.int y :: .int x :: st) I J P := by
  subst e
  intro p l e s m args below meth c D ad cA A Qc H locs ls C hD hA hl hP hS hr
  exact lv_icmp_le C.1 C.2.1 hd ht (fun z => h.1 z C hD hA hl hP hS hr) (fun z => h.2 z C hD hA hl hP hS hr)

theorem rr_goto {off : Int} {tgt : Nat} (hd : decode (z_c Z) pc = .ok (.goto off, 3)) (ht : (pc : Int) + off = (tgt : Int)) (hk : rr G Z tgt lv st I J P) : rr G Z pc lv st I J P := by
  intro p l e s m args below meth c D ad cA A Qc H locs ls C hD hA hl hP hS hr
  exact lv_goto C.1 C.2.1 hd ht (hk C hD hA hl hP hS hr)

theorem rr_tableIn {dflt lo hi : Int} {offs : Array Int} {len : Nat} {x : Int32} {off : Int} {tgt : Nat} (hd : decode (z_c Z) pc = .ok (.tableswitch dflt lo hi offs, len)) (h1 : ¬ x.toInt < lo) (h2 : ¬ hi < x.toInt) (ho : offs[(x.toInt - lo).toNat]? = some off) (ht : (pc : Int) + off = (tgt : Int)) (hk : rr G Z tgt lv st I J P) : rr G Z pc lv (.int x :: st) I J P := by
  intro p l e s m args below meth c D ad cA A Qc H locs ls C hD hA hl hP hS hr
  exact lv_tableIn C.1 C.2.1 hd h1 h2 ho ht (hk C hD hA hl hP hS hr)

theorem rr_tableOut {dflt lo hi : Int} {offs : Array Int} {len : Nat} {x : Int32} {tgt : Nat} (hd : decode (z_c Z) pc = .ok (.tableswitch dflt lo hi offs, len)) (h : x.toInt < lo ∨ hi < x.toInt) (ht : (pc : Int) + dflt = (tgt : Int)) (hk : rr G Z tgt lv st I J P) : rr G Z pc lv (.int x :: st) I J P := by
  intro p l e s m args below meth c D ad cA A Qc H locs ls C hD hA hl hP hS hr
  exact lv_tableOut C.1 C.2.1 hd h ht (hk C hD hA hl hP hS hr)

theorem rr_iret {x : Int32} (hd : decode (z_c Z) pc = .ok (.ireturn, 1)) (ht : z_r Z = some .int) (hk : P (some (.int x)) I J) : rr G Z pc lv [.int x] I J P := by
  intro p l e s m args below meth c D ad cA A Qc H locs ls C hD hA hl hP hS hr
  exact W.iret (v := x) C.1 C.2.1 (C.2.2.1.trans ht) (fun t h1 h2 => hr (some (.int x)) I J H locs t hk hP hS h1 h2) hS.2.2 hd C.2.2.2.2.2.2.1

theorem rr_zret {x : Int32} (hd : decode (z_c Z) pc = .ok (.ireturn, 1)) (ht : z_r Z = some .boolean) (hn : narrow .boolean (.int x) = .int x) (hk : P (some (.int x)) I J) : rr G Z pc lv [.int x] I J P := by
  intro p l e s m args below meth c D ad cA A Qc H locs ls C hD hA hl hP hS hr
  exact W.zret (v := x) C.1 C.2.1 (C.2.2.1.trans ht) hn (fun t h1 h2 => hr (some (.int x)) I J H locs t hk hP hS h1 h2) hS.2.2 hd C.2.2.2.2.2.2.1

theorem rr_lret {x : Int64} (hd : decode (z_c Z) pc = .ok (.lreturn, 1)) (ht : z_r Z = some .long) (hk : P (some (.long x)) I J) : rr G Z pc lv [.long x] I J P := by
  intro p l e s m args below meth c D ad cA A Qc H locs ls C hD hA hl hP hS hr
  exact W.lret (v := x) C.1 C.2.1 (C.2.2.1.trans ht) (fun t h1 h2 => hr (some (.long x)) I J H locs t hk hP hS h1 h2) hS.2.2 hd C.2.2.2.2.2.2.1

theorem rr_vret (hd : decode (z_c Z) pc = .ok (.return_, 1)) (ht : z_r Z = none) (hk : P none I J) : rr G Z pc lv [] I J P := by
  intro p l e s m args below meth c D ad cA A Qc H locs ls C hD hA hl hP hS hr
  exact W.vret C.1 C.2.1 (C.2.2.1.trans ht) (fun t h1 h2 => hr none I J H locs t hk hP hS h1 h2) hS.2.2 hd C.2.2.2.2.2.2.1

/-- a field's link: own class, place in its pool, number of the field's class, the field's place -/
def fOK (own : String) (idx ci j : Nat) : Prop := ∃ (C : String) (T : u_T) (n : Nat), vwCl[ci]? = some (C, T, n) ∧ j < n ∧ (∀ w ∈ u_ws C T n, w ∈ gt_tbl) ∧ Cond.fieldLink own idx (T j).1 (T j).2.1 (T j).2.2.1 ∈ gt_tbl
def fPut (own : String) (idx ci j : Nat) (ty : FieldType) : Prop := ∃ (C : String) (T : u_T) (n : Nat) (ty0 : Nat → FieldType), vwCl[ci]? = some (C, T, n) ∧ j < n ∧ (∀ w ∈ u_ws C T n, w ∈ gt_tbl) ∧ Cond.fieldLink own idx (T j).1 (T j).2.1 (T j).2.2.1 ∈ gt_tbl ∧ (∀ k, k < n → parseFieldDescriptor (T k).2.2.1 = some (ty0 k)) ∧ (∀ a, a < n → ∀ b, b < n → a ≠ b → (T a).2.1 ≠ (T b).2.1) ∧ (T j).2.2.2 = false ∧ parseFieldDescriptor (T j).2.2.1 = some ty
theorem tg_obj {ad : Nat → Nat} {cA : Nat → ClassId} {I : tg_I} {J : tg_J} {k ci : Nat} {fk : List (Nat × Nat)} (hk : k < G.2) (hs : G.1 k = .inr (ci, fk)) : (tg_W ad cA G I J)[k]? = some (ad k, .inr (ci, tg_fs ad I J k fk)) := by
  rw [tg_get hk]
  simp only [tg_e, hs]
theorem rr_get {idx k ci j : Nat} {fk : List (Nat × Nat)} {q : Nat × Nat} {v : Value} (hd : decode (z_c Z) pc = .ok (.getfield idx, 3)) (hf : fOK (z_y Z).cls idx ci j) (hk : k < G.2) (hs : G.1 k = .inr (ci, fk)) (hj : fk[j]? = some q) (hv : ∀ ad, tg_fv ad I J k j q = tg_v ad v) (e : pc + 3 = pc') (hk2 : rr G Z pc' lv (v :: st) I J P) : rr G Z pc lv (.ref k :: st) I J P := by
  subst e
  intro p l e s m args below meth c D ad cA A Qc H locs ls C hD hA hl hP hS hr
  obtain ⟨Cn, T, n, h1, h2, h3, h4⟩ := hf
  exact va_get (v := tg_v ad v) C.1 C.2.1 C.2.2.2.2.2.1 h3 C.2.2.2.2.1 C.2.2.2.2.2.2.2 hP k (tg_obj hk hs) h1 j h2 (C.2.2.2.2.2.1 _ h4) (fun _ h => h) (by rw [← hv]; exact tg_fs_get hj) hd (hk2 C hD hA hl hP hS hr)
theorem rr_put {idx k ci j : Nat} {fk : List (Nat × Nat)} {q : Nat × Nat} {v : Value} {ty : FieldType} {I' : tg_I} {J' : tg_J} (hd : decode (z_c Z) pc = .ok (.putfield idx, 3)) (hf : fPut (z_y Z).cls idx ci j ty) (hk : k < G.2) (hs : G.1 k = .inr (ci, fk)) (hj : fk[j]? = some q) (hv : ∀ ad, tg_fv ad I' J' k j q = tg_v ad v) (hn : ∀ ad, narrow ty (tg_v ad v) = tg_v ad v ∧ fits ty (tg_v ad v) = true) (ho : ∀ b, b ≠ j → I' k b = I k b ∧ J' k b = J k b) (hoo : ∀ i, i ≠ k → I' i = I i ∧ J' i = J i) (e : pc + 3 = pc') (hk2 : rr G Z pc' lv st I' J' P) : rr G Z pc lv (v :: .ref k :: st) I J P := by
  subst e
  intro p l e s m args below meth c D ad cA A Qc H locs ls C hD hA hl hP hS hr
  obtain ⟨Cn, T, n, ty0, h1, h2, h3, h4, h5, h6, h7, h8⟩ := hf
  have hlen : j < fk.length := (List.getElem?_eq_some_iff.mp hj).1
  refine va_put (v := tg_v ad v) (ty := ty) C.1 C.2.1 C.2.2.2.2.2.1 h3 ty0 h5 h6 C.2.2.2.2.1 C.2.2.2.2.2.2.2 hP (tg_vaD hD) hS k (tg_obj hk hs) h1 j h2 (C.2.2.2.2.2.1 _ h4) (fun _ h => h) h7 h8 (hn ad).1 (hn ad).2 (by rw [tg_fs_len]; exact hlen) hd (fun H1 locs1 hP1 hD1 hS1 => ?_)
  refine hk2 C hD hA hl ?_ hS1 hr
  have e1 : (tg_fs ad I J k fk).set j (tg_v ad v) = tg_fs ad I' J' k fk := by
    rw [← hv ad]
    exact tg_fs_set hj ho
  rw [e1] at hP1
  have e2 : (Sum.inr (ci, tg_fs ad I' J' k fk) : va_E) = tg_e ad cA G I' J' k := by simp only [tg_e, hs]
  rw [e2, tg_set hk] at hP1
  · exact hP1
  · intro i hi
    obtain ⟨a1, a2⟩ := hoo i hi
    have h9 : ∀ fk, tg_fs ad I' J' i fk = tg_fs ad I J i fk := by
      intro fk
      unfold tg_fs tg_fv
      simp only [a1, a2]
    unfold tg_e
    simp only [a1, a2, h9]
theorem rr_getI {idx k ci j z : Nat} {fk : List (Nat × Nat)} (hd : decode (z_c Z) pc = .ok (.getfield idx, 3)) (hf : fOK (z_y Z).cls idx ci j) (hk : k < G.2) (hs : G.1 k = .inr (ci, fk)) (hj : fk[j]? = some (0, z)) (e : pc + 3 = pc') (hk2 : rr G Z pc' lv (.int (I k j) :: st) I J P) : rr G Z pc lv (.ref k :: st) I J P := rr_get hd hf hk hs hj (fun _ => rfl) e hk2
theorem rr_getJ {idx k ci j z : Nat} {fk : List (Nat × Nat)} (hd : decode (z_c Z) pc = .ok (.getfield idx, 3)) (hf : fOK (z_y Z).cls idx ci j) (hk : k < G.2) (hs : G.1 k = .inr (ci, fk)) (hj : fk[j]? = some (1, z)) (e : pc + 3 = pc') (hk2 : rr G Z pc' lv (.long (J k j) :: st) I J P) : rr G Z pc lv (.ref k :: st) I J P := rr_get hd hf hk hs hj (fun _ => rfl) e hk2
theorem rr_getR {idx k ci j z : Nat} {fk : List (Nat × Nat)} (hd : decode (z_c Z) pc = .ok (.getfield idx, 3)) (hf : fOK (z_y Z).cls idx ci j) (hk : k < G.2) (hs : G.1 k = .inr (ci, fk)) (hj : fk[j]? = some (2, z)) (e : pc + 3 = pc') (hk2 : rr G Z pc' lv (.ref z :: st) I J P) : rr G Z pc lv (.ref k :: st) I J P := rr_get hd hf hk hs hj (fun _ => rfl) e hk2
theorem rr_getV {idx k ci j z b : Nat} {fk : List (Nat × Nat)} (hd : decode (z_c Z) pc = .ok (.getfield idx, 3)) (hf : fOK (z_y Z).cls idx ci j) (hk : k < G.2) (hs : G.1 k = .inr (ci, fk)) (hj : fk[j]? = some (3, z)) (hb : (I k j).toNatClampNeg = b) (e : pc + 3 = pc') (hk2 : rr G Z pc' lv (.ref b :: st) I J P) : rr G Z pc lv (.ref k :: st) I J P := rr_get hd hf hk hs hj (fun ad => by show Value.ref (ad (I k j).toNatClampNeg) = _; rw [hb]; rfl) e hk2
theorem u2_ne1 {α : Type} (f : Nat → Nat → α) (k j : Nat) (v : α) {b : Nat} (h : b ≠ j) : u2 f k j v k b = f k b := by simp [u2, h]
theorem u2_eq {α : Type} (f : Nat → Nat → α) (k j : Nat) (v : α) : u2 f k j v k j = v := by simp [u2]
theorem rr_putI {idx k ci j z : Nat} {fk : List (Nat × Nat)} {x : Int32} (hd : decode (z_c Z) pc = .ok (.putfield idx, 3)) (hf : fPut (z_y Z).cls idx ci j .int) (hk : k < G.2) (hs : G.1 k = .inr (ci, fk)) (hj : fk[j]? = some (0, z)) (e : pc + 3 = pc') (hk2 : rr G Z pc' lv st (u2 I k j x) J P) : rr G Z pc lv (.int x :: .ref k :: st) I J P := rr_put hd hf hk hs hj (fun _ => by show Value.int (u2 I k j x k j) = _; rw [u2_eq]; rfl) (fun _ => ⟨rfl, rfl⟩) (fun b hb => ⟨u2_ne1 I k j x hb, rfl⟩) (fun i hi => ⟨u2_other I k j x hi, rfl⟩) e hk2
theorem rr_putZ {idx k ci j z : Nat} {fk : List (Nat × Nat)} {x : Int32} (hd : decode (z_c Z) pc = .ok (.putfield idx, 3)) (hf : fPut (z_y Z).cls idx ci j .boolean) (hk : k < G.2) (hs : G.1 k = .inr (ci, fk)) (hj : fk[j]? = some (0, z)) (hn : narrow .boolean (.int x) = .int x ∧ fits .boolean (.int x) = true) (e : pc + 3 = pc') (hk2 : rr G Z pc' lv st (u2 I k j x) J P) : rr G Z pc lv (.int x :: .ref k :: st) I J P := rr_put (v := .int x) hd hf hk hs hj (fun _ => by show Value.int (u2 I k j x k j) = _; rw [u2_eq]; rfl) (fun _ => hn) (fun b hb => ⟨u2_ne1 I k j x hb, rfl⟩) (fun i hi => ⟨u2_other I k j x hi, rfl⟩) e hk2
theorem rr_putJ {idx k ci j z : Nat} {fk : List (Nat × Nat)} {x : Int64} (hd : decode (z_c Z) pc = .ok (.putfield idx, 3)) (hf : fPut (z_y Z).cls idx ci j .long) (hk : k < G.2) (hs : G.1 k = .inr (ci, fk)) (hj : fk[j]? = some (1, z)) (e : pc + 3 = pc') (hk2 : rr G Z pc' lv st I (u2 J k j x) P) : rr G Z pc lv (.long x :: .ref k :: st) I J P := rr_put hd hf hk hs hj (fun _ => by show Value.long (u2 J k j x k j) = _; rw [u2_eq]; rfl) (fun _ => ⟨rfl, rfl⟩) (fun b hb => ⟨rfl, u2_ne1 J k j x hb⟩) (fun i hi => ⟨rfl, u2_other J k j x hi⟩) e hk2
theorem rr_putV {idx k ci j z b : Nat} {Cn : String} {fk : List (Nat × Nat)} (hd : decode (z_c Z) pc = .ok (.putfield idx, 3)) (hf : fPut (z_y Z).cls idx ci j (.object Cn)) (hk : k < G.2) (hs : G.1 k = .inr (ci, fk)) (hj : fk[j]? = some (3, z)) (hb : b < 2 ^ 31) (e : pc + 3 = pc') (hk2 : rr G Z pc' lv st (u2 I k j (nI b)) J P) : rr G Z pc lv (.ref b :: .ref k :: st) I J P := rr_put hd hf hk hs hj (fun ad => by show Value.ref (ad (u2 I k j (nI b) k j).toNatClampNeg) = _; rw [u2_eq, nI_clamp hb]; rfl) (fun _ => ⟨rfl, rfl⟩) (fun c hc => ⟨u2_ne1 I k j (nI b) hc, rfl⟩) (fun i hi => ⟨u2_other I k j (nI b) hi, rfl⟩) e hk2
/- arrays -/
theorem tg_arrI {ad : Nat → Nat} {cA : Nat → ClassId} {I : tg_I} {J : tg_J} {k n : Nat} (hk : k < G.2) (hs : G.1 k = .inl (0, n)) : (tg_W ad cA G I J)[k]? = some (ad k, .inl (cA 0, n, .inl (I k))) := by
  rw [tg_get hk]
  simp only [tg_e, hs]
theorem tg_arrZ {ad : Nat → Nat} {cA : Nat → ClassId} {I : tg_I} {J : tg_J} {k n : Nat} (hk : k < G.2) (hs : G.1 k = .inl (1, n)) : (tg_W ad cA G I J)[k]? = some (ad k, .inl (cA 1, n, .inl (I k))) := by
  rw [tg_get hk]
  simp only [tg_e, hs]
theorem tg_arrJ {ad : Nat → Nat} {cA : Nat → ClassId} {I : tg_I} {J : tg_J} {k n : Nat} (hk : k < G.2) (hs : G.1 k = .inl (2, n)) : (tg_W ad cA G I J)[k]? = some (ad k, .inl (cA 2, n, .inr (.inl (J k)))) := by
  rw [tg_get hk]
  simp only [tg_e, hs]
theorem rr_iald {k n : Nat} {i : Int32} (hd : decode (z_c Z) pc = .ok (.iaload, 1)) (hk : k < G.2) (hs : G.1 k = .inl (0, n)) (e : pc + 1 = pc') (h : vp_in i n ∧ rr G Z pc' lv (.int (I k i.toNatClampNeg) :: st) I J P) : rr G Z pc lv (.int i :: .ref k :: st) I J P := by
  subst e
  intro p l e s m args below meth c D ad cA A Qc H locs ls C hD hA hl hP hS hr
  exact va_iald C.1 C.2.1 C.2.2.2.2.2.2.2 hP k 0 (tg_arrI hk hs) rfl h.1 hd (h.2 C hD hA hl hP hS hr)
theorem rr_zald {k n : Nat} {i : Int32} (hd : decode (z_c Z) pc = .ok (.baload, 1)) (hk : k < G.2) (hs : G.1 k = .inl (1, n)) (e : pc + 1 = pc') (h : vp_in i n ∧ rr G Z pc' lv (.int (I k i.toNatClampNeg) :: st) I J P) : rr G Z pc lv (.int i :: .ref k :: st) I J P := by
  subst e
  intro p l e s m args below meth c D ad cA A Qc H locs ls C hD hA hl hP hS hr
  exact va_zald C.1 C.2.1 C.2.2.2.2.2.2.2 hP k 1 (tg_arrZ hk hs) rfl h.1 hd (h.2 C hD hA hl hP hS hr)
theorem rr_lald {k n : Nat} {i : Int32} (hd : decode (z_c Z) pc = .ok (.laload, 1)) (hk : k < G.2) (hs : G.1 k = .inl (2, n)) (e : pc + 1 = pc') (h : vp_in i n ∧ rr G Z pc' lv (.long (J k i.toNatClampNeg) :: st) I J P) : rr G Z pc lv (.int i :: .ref k :: st) I J P := by
  subst e
  intro p l e s m args below meth c D ad cA A Qc H locs ls C hD hA hl hP hS hr
  exact va_lald C.1 C.2.1 C.2.2.2.2.2.2.2 hP k 2 (tg_arrJ hk hs) rfl h.1 hd (h.2 C hD hA hl hP hS hr)
theorem rr_iast {k n : Nat} {i x : Int32} (hd : decode (z_c Z) pc = .ok (.iastore, 1)) (hk : k < G.2) (hs : G.1 k = .inl (0, n)) (e : pc + 1 = pc') (h : vp_in i n ∧ rr G Z pc' lv st (u2 I k i.toNatClampNeg x) J P) : rr G Z pc lv (.int x :: .int i :: .ref k :: st) I J P := by
  subst e
  intro p l e s m args below meth c D ad cA A Qc H locs ls C hD hA hl hP hS hr
  refine va_iast C.1 C.2.1 C.2.2.2.2.2.2.2 hP (tg_vaD hD) hS k 0 (tg_arrI hk hs) rfl h.1 hd (fun H1 locs1 hP1 hD1 hS1 => ?_)
  refine h.2 C hD hA hl ?_ hS1 hr
  have e2 : (Sum.inl (cA 0, n, Sum.inl (upd (I k) i.toNatClampNeg x)) : va_E) = tg_e ad cA G (u2 I k i.toNatClampNeg x) J k := by
    simp only [tg_e, hs, u2_same]
    rfl
  rw [e2, tg_set hk tg_e_otherI] at hP1
  exact hP1
theorem rr_zast {k n : Nat} {i x : Int32} (hd : decode (z_c Z) pc = .ok (.bastore, 1)) (hk : k < G.2) (hs : G.1 k = .inl (1, n)) (e : pc + 1 = pc') (h : vp_in i n ∧ rr G Z pc' lv st (u2 I k i.toNatClampNeg (vp_nar .boolean x)) J P) : rr G Z pc lv (.int x :: .int i :: .ref k :: st) I J P := by
  subst e
  intro p l e s m args below meth c D ad cA A Qc H locs ls C hD hA hl hP hS hr
  refine va_zast C.1 C.2.1 C.2.2.2.2.2.2.2 hP (tg_vaD hD) hS k 1 (tg_arrZ hk hs) rfl h.1 hd (fun H1 locs1 hP1 hD1 hS1 => ?_)
  refine h.2 C hD hA hl ?_ hS1 hr
  have e2 : (Sum.inl (cA 1, n, Sum.inl (upd (I k) i.toNatClampNeg (vp_nar .boolean x))) : va_E) = tg_e ad cA G (u2 I k i.toNatClampNeg (vp_nar .boolean x)) J k := by
    simp only [tg_e, hs, u2_same]
    rfl
  rw [e2, tg_set hk tg_e_otherI] at hP1
  exact hP1
theorem rr_last {k n : Nat} {i : Int32} {x : Int64} (hd : decode (z_c Z) pc = .ok (.lastore, 1)) (hk : k < G.2) (hs : G.1 k = .inl (2, n)) (e : pc + 1 = pc') (h : vp_in i n ∧ rr G Z pc' lv st I (u2 J k i.toNatClampNeg x) P) : rr G Z pc lv (.long x :: .int i :: .ref k :: st) I J P := by
  subst e
  intro p l e s m args below meth c D ad cA A Qc H locs ls C hD hA hl hP hS hr
  refine va_last C.1 C.2.1 C.2.2.2.2.2.2.2 hP (tg_vaD hD) hS k 2 (tg_arrJ hk hs) rfl h.1 hd (fun H1 locs1 hP1 hD1 hS1 => ?_)
  refine h.2 C hD hA hl ?_ hS1 hr
  have e2 : (Sum.inl (cA 2, n, Sum.inr (Sum.inl (vp_updL (J k) i.toNatClampNeg x))) : va_E) = tg_e ad cA G I (u2 J k i.toNatClampNeg x) k := by
    simp only [tg_e, hs, u2_same]
    rfl
  rw [e2, tg_set hk tg_e_otherJ] at hP1
  exact hP1
theorem rr_alenJ {k n : Nat} {v : Int32} (hd : decode (z_c Z) pc = .ok (.arraylength, 1)) (hk : k < G.2) (hs : G.1 k = .inl (2, n)) (hv : Int32.ofNat n = v) (e : pc + 1 = pc') (h : rr G Z pc' lv (.int v :: st) I J P) : rr G Z pc lv (.ref k :: st) I J P := by
  subst e
  intro p l e s m args below meth c D ad cA A Qc H locs ls C hD hA hl hP hS hr
  exact va_alen C.1 C.2.1 C.2.2.2.2.2.2.2 hP k 2 (tg_arrJ hk hs) (ty := .long) rfl hv hd (h C hD hA hl hP hS hr)
end RR


/-! calls -/
def zOK (Z : zM) : Prop := plainName (z_y Z).cls = true ∧ (z_y Z).cls ≠ "java/lang/invoke/MethodHandle" ∧ (z_y Z).cls ≠ "java/lang/invoke/VarHandle" ∧ Cond.code (z_y Z) (z_c Z) (z_n Z) (z_r Z) ∈ gt_tbl ∧ Cond.initialized (z_y Z).cls ∈ gt_tbl
def zV (Z : zM) (n ci : Nat) : Prop := zOK Z ∧ (parseMethodDescriptor (z_y Z).desc).map (fun d => d.parameters.length) = some n ∧ Cond.instanceMethod (z_y Z) ∈ gt_tbl ∧ Cond.selects (z_y Z).cls (z_y Z) (z_y Z) ∈ gt_tbl ∧ ∃ q : vw_C, vwCl[ci]? = some q ∧ q.1 = (z_y Z).cls
def zS (Z : zM) (n : Nat) : Prop := zOK Z ∧ (parseMethodDescriptor (z_y Z).desc).map (fun d => d.parameters.length) = some n ∧ Cond.static (z_y Z) ∈ gt_tbl
theorem z_goodIn {Z : zM} (h : zOK Z) : GoodIn gt_tbl (z_w Z) := by
  intro w hw
  rcases List.mem_cons.mp hw with rfl | hw
  · exact gt_good _ h.2.2.2.1
  · exact gt_good _ hw
theorem tg_blind {G : tg_G} {D : va_G} {ad : Nat → Nat} {cA : Nat → ClassId} {sz : Nat} {av : List Value} {I : tg_I} {J : tg_J} : FrameBlind (tg_Pc G D ad cA sz av I J) := by
  intro a U g mk q
  obtain ⟨q0, q1, q2, q3, q4⟩ := q
  exact ⟨q0, q1, q2, q3, va_K.moved (u := U) (U := U.calling g mk a) (Vm.Alike.refl U.vm) q4⟩
theorem tg_after {p : Program} {l : Launch} {e : Env} {R : Room} {s : State} {m : MethodId} {args : Array Value} {below : List Frame} {meth : Method} {c : Code} {H H0 : Heap} {locs : List Loc} {cells slots : Nat} {Q : State → Prop} {G : tg_G} {D : va_G} {ad : Nat → Nat} {cA : Nat → ClassId} {P' : Option Value → tg_I → tg_J → Prop} {pc : Nat} {ls : Array Slot} {st0 rest : List Value} {a : Array Value} {A0 free : Nat → Prop}
    (hr : va_Run p l e R s m args below meth c H locs cells slots 0 0 (F0 m pc ls st0) rest (tg_Q G D ad cA H.size P' a) free) (hS : va_S A0 H0 H locs) (hf : ∀ q, free q → A0 q) (hA : ∀ q, q < H.size → tg_A ad G.2 H.size q → A0 q)
    (kk : ∀ (v : Option Value) (I' : tg_I) (J' : tg_J) (H1 : Heap) (locs1 : List Loc), P' v I' J' → va_P D vwCl (tg_W ad cA G I' J') H1 → va_S A0 H0 H1 locs1 → H.size ≤ H1.size → (∀ q : Nat, q < H.size → ¬ tg_A ad G.2 H.size q → H1[q]? = H[q]?) → W p l e R s m args below meth c H1 locs1 cells slots Q (F0 m (pc + 3) ls ((v.map (tg_v ad)).toList ++ rest))) : W p l e R s m args below meth c H locs cells slots Q (F0 m pc ls st0) := by
  intro T hT X
  obtain ⟨v, st₀, t, T', L, h0, X', hL, e1, e2, ⟨⟨v', I', J', hv, hp, hb⟩, hz, hk⟩, st⟩ := hr T hT X
  have hv' : v = v'.map (tg_v ad) := by injection hv
  subst hv'
  rw [h0] at hz hk
  obtain ⟨t2, a1, b1⟩ := kk v' I' J' T'.heap (locs ++ L) hp (by rw [e1]; exact hb)
    ⟨Nat.le_trans hS.1 (by rw [e1]; exact hz), fun q h1 h2 => by rw [e1, hk q (Nat.lt_of_lt_of_le h1 hS.1) (fun z => h2 (hA q (Nat.lt_of_lt_of_le h1 hS.1) z))]; exact hS.2.1 q h1 h2, fun q hq => by
      rcases List.mem_append.mp hq with h | h
      · exact hS.2.2 q h
      · exact hf _ (hL q h)⟩ (by rw [e1]; exact hz) (fun q h1 h2 => by rw [e1]; exact hk q h1 h2) T' rfl X'
  exact ⟨t2, st t2 a1, b1⟩
theorem tg_pre {G : tg_G} {D : va_G} {ad : Nat → Nat} {cA : Nat → ClassId} {av : List Value} {I : tg_I} {J : tg_J} {s : State} {H : Heap} (hinj : ∀ i j, i < G.2 → j < G.2 → ad i = ad j → i = j) (hP : va_P D vwCl (tg_W ad cA G I J) H) (hK : va_K D vwCl (tg_ty cA) s) : ∀ U : State, U.heap = H → s.WarmedH U.vm → tg_Pc G D ad cA H.size av I J (av.map (tg_v ad)).toArray U := by
  intro U hU hW
  exact ⟨rfl, by rw [hU], hinj, by rw [hU]; exact hP, va_K.moved hW.alike hK⟩
section CC
variable {G : tg_G} {Z Z' : zM} {pc pc' : Nat} {lv : List (Nat × Value)} {st : List Value} {I : tg_I} {J : tg_J} {P : Option Value → tg_I → tg_J → Prop}
theorem rr_V {idx k ci n : Nat} {fk : List (Nat × Nat)} (As : List Value) (rest : List Value) (hd : decode (z_c Z) pc = .ok (.invokevirtual idx, 3)) (hz : zV Z' n ci) (hm : Cond.methodLink (z_y Z).cls idx (z_y Z') ∈ gt_tbl) (hR : z_f Z' + 1 ≤ z_f Z ∧ 8 + (z_n Z' + 11) + z_l Z' ≤ z_l Z) (hk : k < G.2) (hs : G.1 k = .inr (ci, fk)) (hn : As.length = n) (hst : As.reverse ++ .ref k :: rest = st) (hw : (rest.map fun v => v.category).sum ≤ 8) (e : pc + 3 = pc') (h : call G Z' (.ref k :: As) I J (fun v I' J' => rr G Z pc' lv (v.toList ++ rest) I' J' P)) : rr G Z pc lv st I J P := by
  subst e
  subst hst
  intro p l e s m args below meth c D ad cA A Qc H locs ls C hD hA hl hP hS hr
  obtain ⟨C1, C2, C3, C4, C5, C6, C7, C8⟩ := id C
  obtain ⟨h0, h1, h2, h3, q, h4, h5⟩ := hz
  have hF : ∀ x, tg_A ad G.2 H.size x → A x := by
    intro x hx
    rcases hx with ⟨i, hi, rfl⟩ | hx
    · exact hD.2 i hi
    · exact hA x (Nat.le_trans hS.1 hx)
  have cw : CallW (z_R Z) s args (z_y Z).cls (z_y Z').cls idx (z_y Z') (z_c Z') (z_n Z') (z_r Z') (z_w Z') (z_R Z') 0 0 n :=
    ⟨callB_of n C6 (z_goodIn h0) rfl rfl rfl (C6 _ h0.2.2.2.2) (C6 _ hm) ⟨h0.2.1, h0.2.2.1, h1⟩ hR, C6 _ h2, C6 _ h3⟩
  have hpre : PreV s H (z_y Z').cls (ad k) (tg_Pc G D ad cA H.size (.ref k :: As) I J) (As.map (tg_v ad)) := by
    refine ⟨tg_blind, ?_, tg_pre (av := .ref k :: As) hD.1 hP C8⟩
    rw [← h5]
    exact va_recv C8 hP h4 (tg_obj hk hs)
  refine tg_after (a := (Value.ref (ad k) :: As.map (tg_v ad)).toArray) (rest := rest.map (tg_v ad)) (va_runV (As := As.map (tg_v ad)) ⟨C1, C2, C4, C5, C6⟩ (h l D ad cA H.size) cw hpre rfl (by rw [List.length_map]; exact hn) hl.1 (by simp [tg_v]) (lv_room (by rw [tg_sum]; exact hw)) hd ⟨Nat.le_refl _, Nat.le_refl _⟩) hS hF (fun x _ hx => hF x hx) ?_
  intro v I' J' H1 locs1 hp hP1 hS1 _ _
  have hx := hp C hD hA hl hP1 hS1 hr (p := p) (l := l) (e := e) (below := below)
  cases v <;> exact hx
theorem rr_S {idx n : Nat} (As : List Value) (rest : List Value) (hd : decode (z_c Z) pc = .ok (.invokestatic idx, 3)) (hz : zS Z' n) (hm : Cond.methodLink (z_y Z).cls idx (z_y Z') ∈ gt_tbl) (hR : z_f Z' + 1 ≤ z_f Z ∧ 8 + (z_n Z' + 11) + z_l Z' ≤ z_l Z) (hn : As.length = n) (hst : As.reverse ++ rest = st) (hw : (rest.map fun v => v.category).sum ≤ 8) (e : pc + 3 = pc') (h : call G Z' As I J (fun v I' J' => rr G Z pc' lv (v.toList ++ rest) I' J' P)) : rr G Z pc lv st I J P := by
  subst e
  subst hst
  intro p l e s m args below meth c D ad cA A Qc H locs ls C hD hA hl hP hS hr
  obtain ⟨C1, C2, C3, C4, C5, C6, C7, C8⟩ := id C
  obtain ⟨h0, h1, h2⟩ := hz
  have hF : ∀ x, tg_A ad G.2 H.size x → A x := by
    intro x hx
    rcases hx with ⟨i, hi, rfl⟩ | hx
    · exact hD.2 i hi
    · exact hA x (Nat.le_trans hS.1 hx)
  have cw : CallB (z_R Z) s args (z_y Z).cls idx (z_y Z') (z_c Z') (z_n Z') (z_r Z') (z_w Z') (z_R Z') 0 0 n ∧ (Cond.static (z_y Z')).before args s = true :=
    ⟨callB_of n C6 (z_goodIn h0) rfl rfl rfl (C6 _ h0.2.2.2.2) (C6 _ hm) ⟨h0.2.1, h0.2.2.1, h1⟩ hR, C6 _ h2⟩
  have hpre : PreS s H (tg_Pc G D ad cA H.size As I J) (As.map (tg_v ad)) := ⟨tg_blind, tg_pre (av := As) hD.1 hP C8⟩
  refine tg_after (a := (As.map (tg_v ad)).toArray) (rest := rest.map (tg_v ad)) (va_runS (As := As.map (tg_v ad)) ⟨C1, C2, C4, C5, C6⟩ (h l D ad cA H.size) cw hpre rfl (by rw [List.length_map]; exact hn) hl.1 (by simp) (lv_room (by rw [tg_sum]; exact hw)) hd ⟨Nat.le_refl _, Nat.le_refl _⟩) hS hF (fun x _ hx => hF x hx) ?_
  intro v I' J' H1 locs1 hp hP1 hS1 _ _
  have hx := hp C hD hA hl hP1 hS1 hr (p := p) (l := l) (e := e) (below := below)
  cases v <;> exact hx
theorem rr_max {idx : Nat} {x y : Int32} (hd : decode (z_c Z) pc = .ok (.invokestatic idx, 3)) (hm : Cond.methodLink (z_y Z).cls idx Lib.Math.max.name ∈ gt_tbl) (h1 : Cond.static Lib.Math.max.name ∈ gt_tbl) (h2 : Cond.initialized "java/lang/Math" ∈ gt_tbl) (h3 : Cond.code Lib.Math.max.name Lib.Math.max.code 2 (some .int) ∈ gt_tbl) (hR : 1 ≤ z_f Z ∧ (st.map fun v => v.category).sum + 13 ≤ z_l Z) (e : pc + 3 = pc') (h : rr G Z pc' lv (.int (if x < y then y else x) :: st) I J P) : rr G Z pc lv (.int y :: .int x :: st) I J P := by
  subst e
  intro p l e s m args below meth c D ad cA A Qc H locs ls C hD hA hl hP hS hr
  obtain ⟨C1, C2, C3, C4, C5, C6, C7, C8⟩ := id C
  exact va_mmax C1 C2 (C4.trans hl.1.symm) C5 (C6 _ hm) (C6 _ h1) (C6 _ h2) (C6 _ h3) hR.1 (by rw [tg_sum]; exact hR.2) (Nat.le_refl _) (Nat.le_refl _) hd (h C hD hA hl hP hS hr)
end CC
