/-! THE CLAIM OUT OF ONE WALK OF THE LAW'S BODY. Your part is whole_start (and what it stands on); all else here is the same for every law, but numbers. -/
def R_law : String := "MineDeskLaw"
def lw_P (b : Addr) (xs : List Int32) (args : Array Value) (s : State) : Prop := args = #[.ref b] ∧ s.IntsAt b xs ∧ xs.length ≤ 3584 ∧ (Jvm.Cond.and given_1 narrow_1).before args s = true
def lw_Q (_ : Array Value) (s : State) (o : Outcome) (t : State) : Prop := o = .returned (some (.int 1)) ∧ Framed s o t [] 90 52650
def lw_Z (below : List Frame) (a : Array Value) (s : State) : State → Prop := fun t => ∃ o, t.status = .running ∧ Ended t below o ∧ lw_Q a s o t
/-- the law's own end, with 1 on the stack, nothing written that was there before, its room as the claim has it -/
theorem lw_ret {p : Program} {l : Launch} {e : Env} {s : State} {m : MethodId} {below : List Frame} {meth : Method} {c : Code} {b : Nat} (hx : p.tables.exec = Jvm.exec) (hb : c.code = code) (hr : meth.sig.returnType = ret) (hlocks : meth.locks = false) {pc : Nat} {H : Heap} {ls : Array Slot} (hdg : decode code pc = .ok (.ireturn, 1)) : W p l e room_1 s m #[Value.ref b] below meth c H [] 90 52650 (lw_Z below #[Value.ref b] s) (F0 m pc ls [.int 1]) := by
  intro T hT X
  obtain ⟨fs, hret, hrun, hended, hW, hframe⟩ := X.leave (v := some (.int 1)) (hlocks := hlocks) (fun h => by rw [hr] at h; cases h)
  have hmeth' : T.vm.method? m = some meth := X.method'
  refine ⟨T.setFrames fs, ?_, .returned (some (.int 1)), hrun, hended, rfl, ⟨_, rfl⟩, hW, hframe⟩
  jvm_step X.here [X.here.top, hx, hb, hdg, hmeth', hr, ret, narrow_b1]
  (try refine ⟨rfl, ?_⟩); (try refine ⟨rfl, ?_⟩)
  first | (intro acts; rw [hret _ acts rfl rfl rfl]) | rw [hret _ _ rfl rfl rfl]
  exact Steps.refl _
/-- what holds at the law's entry: the machine, the code, the tables' words (any of lw_tbl by 'hts w (by decide +kernel)'), the script of L ints xs at the cell b, what the Statement gives of the start (any of its parts by flat_of_before) -/
def lw_At (p : Program) (s : State) (m : MethodId) (meth : Method) (c : Code) (b L : Nat) (xs : Nat → Int32) : Prop :=
  p.tables.exec = Jvm.exec ∧ c.code = code ∧ meth.sig.returnType = ret ∧ c.maxLocals = 4 ∧ s.vm.findClass R_law = some m.cls ∧ (∀ w ∈ lw_tbl, w.before #[Value.ref b] s = true) ∧ va_X b L xs s s.heap ∧ b < s.heap.size ∧ meth.locks = false ∧ (Jvm.Cond.and given_1 narrow_1).before #[Value.ref b] s = true
/-! THE LAW'S WALK: two worlds side by side, the script, four locals -/
theorem zN (n : Nat) : Int32.ofNat n = zI (n : Int) := Int32.ofInt_eq_ofNat.symm
def l_v (b x y : Nat) : Value → Value
  | .ref 0 => .ref b
  | .ref 1 => .ref x
  | .ref _ => .ref y
  | v => v
abbrev l_A (s : State) : Nat → Prop := fun q => s.heap.size ≤ q
def l_2 (D : va_G) (cA : Nat → ClassId) (aX aM : Nat → Nat) (IX : tg_I) (JX : tg_J) (IM : tg_I) (JM : tg_J) (s : State) (H : Heap) (locs : List Loc) : Prop :=
  tg_D aX pgX.2 (l_A s) ∧ tg_D aM pgM.2 (l_A s) ∧ (∀ i j, i < pgX.2 → j < pgM.2 → aX i ≠ aM j) ∧ va_P D vwCl (tg_W aX cA pgX IX JX) H ∧ va_P D vwCl (tg_W aM cA pgM IM JM) H ∧ va_S (l_A s) s.heap H locs
/-- from pc on, with i in its fourth local and this stack, the law comes to its end with true -/
def lr (L : Nat) (xs : Nat → Int32) (pc : Nat) (i : Int32) (st : List Value) (IX : tg_I) (JX : tg_J) (IM : tg_I) (JM : tg_J) : Prop :=
  ∀ ⦃p : Program⦄ ⦃l : Launch⦄ ⦃e : Env⦄ ⦃s : State⦄ ⦃m : MethodId⦄ ⦃below : List Frame⦄ ⦃meth : Method⦄ ⦃c : Code⦄ ⦃b : Nat⦄ ⦃D : va_G⦄ ⦃cA : Nat → ClassId⦄ ⦃aX aM : Nat → Nat⦄ ⦃H : Heap⦄ ⦃locs : List Loc⦄ ⦃ls : Array Slot⦄,
    lw_At p s m meth c b L xs → va_K D vwCl (tg_ty cA) s → l_2 D cA aX aM IX JX IM JM s H locs → lv_has ls 4 [(0, .ref b), (1, .ref (aX 0)), (2, .ref (aM 0)), (3, .int i)] →
    W p l e room_1 s m #[Value.ref b] below meth c H locs 90 52650 (lw_Z below #[Value.ref b] s) (F0 m pc ls (st.map (l_v b (aX 0) (aM 0))))
section LR
variable {L : Nat} {xs : Nat → Int32} {pc pc' : Nat} {i : Int32} {st : List Value} {IX : tg_I} {JX : tg_J} {IM : tg_I} {JM : tg_J}
theorem l_b (d : decode cL_law pc = .ok (.aload_n 0, 1)) (e : pc + 1 = pc') (hk : lr L xs pc' i (.ref 0 :: st) IX JX IM JM) : lr L xs pc i st IX JX IM JM := by
  subst e
  intro p l e s m below meth c b D cA aX aM H locs ls C hK h2 hl
  exact lv_aload_n C.1 C.2.1 d rfl (lv_at hl 0 rfl) (hk C hK h2 hl)
theorem l_x (d : decode cL_law pc = .ok (.aload_n 1, 1)) (e : pc + 1 = pc') (hk : lr L xs pc' i (.ref 1 :: st) IX JX IM JM) : lr L xs pc i st IX JX IM JM := by
  subst e
  intro p l e s m below meth c b D cA aX aM H locs ls C hK h2 hl
  exact lv_aload_n C.1 C.2.1 d rfl (lv_at hl 1 rfl) (hk C hK h2 hl)
theorem l_m (d : decode cL_law pc = .ok (.aload_n 2, 1)) (e : pc + 1 = pc') (hk : lr L xs pc' i (.ref 2 :: st) IX JX IM JM) : lr L xs pc i st IX JX IM JM := by
  subst e
  intro p l e s m below meth c b D cA aX aM H locs ls C hK h2 hl
  exact lv_aload_n C.1 C.2.1 d rfl (lv_at hl 2 rfl) (hk C hK h2 hl)
theorem l_i (d : decode cL_law pc = .ok (.iload_n 3, 1)) (e : pc + 1 = pc') (hk : lr L xs pc' i (.int i :: st) IX JX IM JM) : lr L xs pc i st IX JX IM JM := by
  subst e
  intro p l e s m below meth c b D cA aX aM H locs ls C hK h2 hl
  exact lv_iload_n C.1 C.2.1 d rfl (lv_at hl 3 rfl) (hk C hK h2 hl)
theorem l_iconst {n : Int} (d : decode cL_law pc = .ok (.iconst n, 1)) (e : pc + 1 = pc') (hk : lr L xs pc' i (.int (zI n) :: st) IX JX IM JM) : lr L xs pc i st IX JX IM JM := by
  subst e
  intro p l e s m below meth c b D cA aX aM H locs ls C hK h2 hl
  exact lv_iconst C.1 C.2.1 d rfl (hk C hK h2 hl)
theorem l_bipush {n : Int} {v : Int32} (d : decode cL_law pc = .ok (.bipush n, 2)) (hv : (Int8.ofInt n).toInt32 = v) (e : pc + 2 = pc') (hk : lr L xs pc' i (.int v :: st) IX JX IM JM) : lr L xs pc i st IX JX IM JM := by
  subst e
  intro p l e s m below meth c b D cA aX aM H locs ls C hK h2 hl
  exact lv_bipush C.1 C.2.1 d hv (hk C hK h2 hl)
theorem l_iadd {x y : Int32} (d : decode cL_law pc = .ok (.iadd, 1)) (e : pc + 1 = pc') (hk : lr L xs pc' i (.int (x + y) :: st) IX JX IM JM) : lr L xs pc i (.int y :: .int x :: st) IX JX IM JM := by
  subst e
  intro p l e s m below meth c b D cA aX aM H locs ls C hK h2 hl
  exact lv_iadd C.1 C.2.1 d (hk C hK h2 hl)
theorem l_isub {x y : Int32} (d : decode cL_law pc = .ok (.isub, 1)) (e : pc + 1 = pc') (hk : lr L xs pc' i (.int (x - y) :: st) IX JX IM JM) : lr L xs pc i (.int y :: .int x :: st) IX JX IM JM := by
  subst e
  intro p l e s m below meth c b D cA aX aM H locs ls C hK h2 hl
  exact lv_isub C.1 C.2.1 d (hk C hK h2 hl)
theorem l_iand {x y : Int32} (d : decode cL_law pc = .ok (.iand, 1)) (e : pc + 1 = pc') (hk : lr L xs pc' i (.int (x &&& y) :: st) IX JX IM JM) : lr L xs pc i (.int y :: .int x :: st) IX JX IM JM := by
  subst e
  intro p l e s m below meth c b D cA aX aM H locs ls C hK h2 hl
  exact lv_iand C.1 C.2.1 d (hk C hK h2 hl)
theorem l_len (d : decode cL_law pc = .ok (.arraylength, 1)) (e : pc + 1 = pc') (hk : lr L xs pc' i (.int (zI L) :: st) IX JX IM JM) : lr L xs pc i (.ref 0 :: st) IX JX IM JM := by
  subst e
  intro p l e s m below meth c b D cA aX aM H locs ls C hK h2 hl
  have hk2 := hk (p := p) (l := l) (e := e) (below := below) C hK h2 hl
  rw [← zN] at hk2
  exact va_slen C.1 C.2.1 C.2.2.2.2.2.2.1 C.2.2.2.2.2.2.2.1 (A := l_A s) (Nat.not_le.mpr C.2.2.2.2.2.2.2.1) h2.2.2.2.2.2 d hk2
theorem l_ald {n : Nat} (hn : n < L) (hL : L ≤ 3584) (d : decode cL_law pc = .ok (.iaload, 1)) (e : pc + 1 = pc') (hk : lr L xs pc' i (.int (xs n) :: st) IX JX IM JM) : lr L xs pc i (.int (zI n) :: .ref 0 :: st) IX JX IM JM := by
  subst e
  intro p l e s m below meth c b D cA aX aM H locs ls C hK h2 hl
  have hk2 := hk (p := p) (l := l) (e := e) (below := below) C hK h2 hl
  have e1 : (zI (n : Int)).toNatClampNeg = n := z_cl (by omega)
  rw [← e1] at hk2
  exact va_sld C.1 C.2.1 C.2.2.2.2.2.2.1 C.2.2.2.2.2.2.2.1 (A := l_A s) (Nat.not_le.mpr C.2.2.2.2.2.2.2.1) h2.2.2.2.2.2 ((z_in (by omega) (by omega)).mpr (by omega)) d hk2
/-- a script's int behind the call's number -/
theorem l_arg {n : Nat} (k : Nat) (hn : n + 7 ≤ L) (hL : L ≤ 3584) (hk7 : k < 7) (d1 : decode cL_law pc = .ok (.aload_n 0, 1)) (d2 : decode cL_law (pc + 1) = .ok (.iload_n 3, 1)) (d3 : decode cL_law (pc + 2) = .ok (.iconst (k : Int), 1)) (d4 : decode cL_law (pc + 3) = .ok (.iadd, 1)) (d5 : decode cL_law (pc + 4) = .ok (.iaload, 1)) (e : pc + 5 = pc') (hk : lr L xs pc' (zI n) (.int (xs (n + k)) :: st) IX JX IM JM) : lr L xs pc (zI n) st IX JX IM JM := by
  refine l_b d1 rfl (l_i d2 rfl (l_iconst d3 rfl (l_iadd d4 rfl ?_)))
  rw [z_add, show (n : Int) + (k : Int) = ((n + k : Nat) : Int) by omega]
  exact l_ald (by omega) hL d5 e hk
theorem l_arg6 {n : Nat} (hn : n + 7 ≤ L) (hL : L ≤ 3584) (d1 : decode cL_law pc = .ok (.aload_n 0, 1)) (d2 : decode cL_law (pc + 1) = .ok (.iload_n 3, 1)) (d3 : decode cL_law (pc + 2) = .ok (.bipush 6, 2)) (d4 : decode cL_law (pc + 4) = .ok (.iadd, 1)) (d5 : decode cL_law (pc + 5) = .ok (.iaload, 1)) (e : pc + 6 = pc') (hk : lr L xs pc' (zI n) (.int (xs (n + 6)) :: st) IX JX IM JM) : lr L xs pc (zI n) st IX JX IM JM := by
  refine l_b d1 rfl (l_i d2 rfl (l_bipush (v := zI 6) d3 (by decide) rfl (l_iadd d4 rfl ?_)))
  rw [z_add, show (n : Int) + 6 = ((n + 6 : Nat) : Int) by omega]
  exact l_ald (by omega) hL d5 e hk
theorem l_goto {off : Int} {tgt : Nat} (d : decode cL_law pc = .ok (.goto off, 3)) (ht : (pc : Int) + off = (tgt : Int)) (hk : lr L xs tgt i st IX JX IM JM) : lr L xs pc i st IX JX IM JM := by
  intro p l e s m below meth c b D cA aX aM H locs ls C hK h2 hl
  exact lv_goto C.1 C.2.1 d ht (hk C hK h2 hl)
theorem l_bool {x : Int32} (d1 : decode cL_law pc = .ok (.ifCond .eq 7, 3)) (d2 : decode cL_law (pc + 3) = .ok (.iconst 1, 1)) (d3 : decode cL_law (pc + 4) = .ok (.goto 4, 3)) (d4 : decode cL_law (pc + 7) = .ok (.iconst 0, 1)) (e : pc + 8 = pc') (hk : lr L xs pc' i (.int (bi (!decide (x = 0))) :: st) IX JX IM JM) : lr L xs pc i (.int x :: st) IX JX IM JM := by
  subst e
  intro p l e s m below meth c b D cA aX aM H locs ls C hK h2 hl
  refine lv_if_eq (tgt := pc + 7) C.1 C.2.1 d1 (by omega) (fun q => ?_) (fun q => ?_)
  · rw [decide_eq_true q] at hk
    exact l_iconst d4 rfl hk C hK h2 hl
  · rw [decide_eq_false q] at hk
    exact l_iconst d2 rfl (l_goto (tgt := pc + 8) d3 (by omega) hk) C hK h2 hl
theorem l_eq {r : Int32} {off : Int} {tgt : Nat} (d : decode cL_law pc = .ok (.if_icmp .eq off, 3)) (ht : (pc : Int) + off = (tgt : Int)) (hk : lr L xs tgt i st IX JX IM JM) : lr L xs pc i (.int r :: .int r :: st) IX JX IM JM := by
  intro p l e s m below meth c b D cA aX aM H locs ls C hK h2 hl
  exact lv_icmp_eq C.1 C.2.1 d ht (fun _ => hk C hK h2 hl) (fun q => absurd rfl q)
theorem l_gt {x y : Int32} {off : Int} {tgt : Nat} (d : decode cL_law pc = .ok (.if_icmp .gt off, 3)) (ht : (pc : Int) + off = (tgt : Int)) (e : pc + 3 = pc') (kt : y < x → lr L xs tgt i st IX JX IM JM) (kf : ¬ y < x → lr L xs pc' i st IX JX IM JM) : lr L xs pc i (.int y :: .int x :: st) IX JX IM JM := by
  subst e
  intro p l e s m below meth c b D cA aX aM H locs ls C hK h2 hl
  exact lv_icmp_gt C.1 C.2.1 d ht (fun q => kt q C hK h2 hl) (fun q => kf q C hK h2 hl)
theorem l_iinc {n : Nat} (d : decode cL_law pc = .ok (.iinc 3 7, 3)) (e : pc + 3 = pc') (hk : lr L xs pc' (zI ((n + 7 : Nat) : Int)) st IX JX IM JM) : lr L xs pc (zI n) st IX JX IM JM := by
  subst e
  intro p l e s m below meth c b D cA aX aM H locs ls C hK h2 hl
  refine lv_iinc (v := zI ((n + 7 : Nat) : Int)) (lv' := [(3, .int (zI ((n + 7 : Nat) : Int))), (0, .ref b), (1, .ref (aX 0)), (2, .ref (aM 0))]) C.1 C.2.1 d hl (k := 3) rfl ?_ (by decide) rfl (fun ls hl => hk C hK h2 (lv_sub hl [1, 2, 3, 0] rfl))
  rw [show Int32.ofInt 7 = zI 7 from rfl, z_add]
  rfl
theorem l_end (d1 : decode cL_law 782 = .ok (.iconst 1, 1)) (d2 : decode cL_law 783 = .ok (.ireturn, 1)) : lr L xs 782 i [] IX JX IM JM := by
  intro p l e s m below meth c b D cA aX aM H locs ls C hK h2 hl
  refine lv_iconst (v := 1) C.1 C.2.1 d1 (by decide) ?_
  exact va_forget (fun q hq => h2.2.2.2.2.2.2.2 q hq) (lw_ret C.1 C.2.1 C.2.2.1 C.2.2.2.2.2.2.2.2.1 d2)
theorem l_out {dflt lo hi : Int} {offs : Array Int} {len : Nat} {x : Int32} {tgt : Nat} (d : decode cL_law pc = .ok (.tableswitch dflt lo hi offs, len)) (h : x.toInt < lo ∨ hi < x.toInt) (ht : (pc : Int) + dflt = (tgt : Int)) (hk : lr L xs tgt i st IX JX IM JM) : lr L xs pc i (.int x :: st) IX JX IM JM := by
  intro p l e s m below meth c b D cA aX aM H locs ls C hK h2 hl
  exact lv_tableOut C.1 C.2.1 d h ht (hk C hK h2 hl)
theorem l_in {dflt lo hi : Int} {offs : Array Int} {len : Nat} {x : Int32} {off : Int} {tgt : Nat} (d : decode cL_law pc = .ok (.tableswitch dflt lo hi offs, len)) {k : Int} (hx : x.toInt = k) (h1 : ¬ k < lo) (h2 : ¬ hi < k) (ho : offs[(k - lo).toNat]? = some off) (ht : (pc : Int) + off = (tgt : Int)) (hk : lr L xs tgt i st IX JX IM JM) : lr L xs pc i (.int x :: st) IX JX IM JM := by
  subst hx
  intro p l e s m below meth c b D cA aX aM H locs ls C hK h3 hl
  exact lv_tableIn C.1 C.2.1 d h1 h2 ho ht (hk C hK h3 hl)
theorem l_ints (ad : Nat → Nat) (As : List Int32) : (As.map Value.int).map (tg_v ad) = As.map Value.int := by
  rw [List.map_map]
  exact List.map_congr_left fun a _ => rfl
theorem l_intv (b x y : Nat) (As : List Int32) : (As.map Value.int).map (l_v b x y) = As.map Value.int := by
  rw [List.map_map]
  exact List.map_congr_left fun a _ => rfl
/-- a call of the class -/
theorem l_callX {Z' : zM} {n idx : Nat} {P : Option Value → tg_I → tg_J → Prop} (As : List Int32) (d : decode cL_law pc = .ok (.invokevirtual idx, 3)) (hz : zV Z' n 8) (hm : Cond.methodLink "MineDeskLaw" idx (z_y Z') ∈ gt_tbl) (hR : z_f Z' + 1 ≤ 12 ∧ 8 + (z_n Z' + 11) + z_l Z' ≤ 482) (hn : As.length = n) (hst : (As.map Value.int).reverse ++ [.ref 1] = st) (e : pc + 3 = pc') (h : call pgX Z' (.ref 0 :: As.map Value.int) IX JX P) (hk : ∀ v I' J', P v I' J' → ∃ r : Int32, v = some (.int r) ∧ lr L xs pc' i [.int r] I' J' IM JM) : lr L xs pc i st IX JX IM JM := by
  subst e
  subst hst
  intro p l e s m below meth c b D cA aX aM H locs ls C hK h2 hl
  obtain ⟨C1, C2, C3, C4, C5, C6, hX, hbl, C7, hgv⟩ := id C
  obtain ⟨hDX, hDM, hne, hPX, hPM, hS⟩ := id h2
  obtain ⟨z0, z1, z2, z3, q, z4, z5⟩ := hz
  have C6' : ∀ w ∈ gt_tbl, w.before #[Value.ref b] s = true := fun w hw => C6 w (gt_in w hw)
  have hF : ∀ x, tg_A aX pgX.2 H.size x → l_A s x := by
    intro x hx
    rcases hx with ⟨j, hj, rfl⟩ | hx
    · exact hDX.2 j hj
    · exact Nat.le_trans hS.1 hx
  have cw : CallW room_1 s #[Value.ref b] "MineDeskLaw" (z_y Z').cls idx (z_y Z') (z_c Z') (z_n Z') (z_r Z') (z_w Z') (z_R Z') 0 0 n :=
    ⟨callB_of n C6' (z_goodIn z0) rfl rfl rfl (C6' _ z0.2.2.2.2) (C6' _ hm) ⟨z0.2.1, z0.2.2.1, z1⟩ hR, C6' _ z2, C6' _ z3⟩
  have hpre : PreV s H (z_y Z').cls (aX 0) (tg_Pc pgX D aX cA H.size (.ref 0 :: As.map Value.int) IX JX) ((As.map Value.int).map (tg_v aX)) := by
    refine ⟨tg_blind, ?_, tg_pre (av := .ref 0 :: As.map Value.int) hDX.1 hPX hK⟩
    rw [← z5]
    exact va_recv hK hPX z4 (tg_obj (G := pgX) (by decide) rfl)
  refine tg_after (a := (Value.ref (aX 0) :: (As.map Value.int).map (tg_v aX)).toArray) (rest := []) (va_runV (As := (As.map Value.int).map (tg_v aX)) ⟨C1, C2, C4, C5, C6'⟩ (h l D aX cA H.size) cw hpre rfl (by rw [List.length_map, List.length_map]; exact hn) hl.1 ?_ (lv_room (Nat.le_of_ble_eq_true rfl)) d ⟨Nat.le_refl _, Nat.le_refl _⟩) hS hF (fun x _ hx => hF x hx) ?_
  · show List.map (l_v b (aX 0) (aM 0)) ((As.map Value.int).reverse ++ [.ref 1]) = _
    rw [List.map_append, List.map_reverse, l_intv, l_ints]
    rfl
  · intro v I' J' H1 locs1 hp hP1 hS1 _ hk1
    obtain ⟨r, rfl, hk⟩ := hk v I' J' hp
    refine hk C hK ⟨hDX, hDM, hne, hP1, hPM.kept (fun k x hx => hk1 x.1 ((hPM k x hx).lt) (fun hA => ?_)), hS1⟩ hl
    have hlt := (hPM k x hx).lt
    have hkl : k < pgM.2 := by
      have := (List.getElem?_eq_some_iff.mp hx).1
      simpa [tg_W] using this
    rw [tg_get hkl] at hx
    cases hx
    rcases hA with ⟨j, hj, e⟩ | hA
    · exact hne j k hj hkl e
    · exact absurd hlt (Nat.not_lt.mpr hA)
/-- a call of the reference -/
theorem l_callM {Z' : zM} {n idx : Nat} {P : Option Value → tg_I → tg_J → Prop} (As : List Int32) {r0 : Int32} (d : decode cL_law pc = .ok (.invokevirtual idx, 3)) (hz : zV Z' n 9) (hm : Cond.methodLink "MineDeskLaw" idx (z_y Z') ∈ gt_tbl) (hR : z_f Z' + 1 ≤ 12 ∧ 8 + (z_n Z' + 11) + z_l Z' ≤ 482) (hn : As.length = n) (hst : (As.map Value.int).reverse ++ [.ref 2, .int r0] = st) (e : pc + 3 = pc') (h : call pgM Z' (.ref 0 :: As.map Value.int) IM JM P) (hk : ∀ v I' J', P v I' J' → ∃ r : Int32, v = some (.int r) ∧ lr L xs pc' i [.int r, .int r0] IX JX I' J') : lr L xs pc i st IX JX IM JM := by
  subst e
  subst hst
  intro p l e s m below meth c b D cA aX aM H locs ls C hK h2 hl
  obtain ⟨C1, C2, C3, C4, C5, C6, hX, hbl, C7, hgv⟩ := id C
  obtain ⟨hDX, hDM, hne, hPX, hPM, hS⟩ := id h2
  obtain ⟨z0, z1, z2, z3, q, z4, z5⟩ := hz
  have C6' : ∀ w ∈ gt_tbl, w.before #[Value.ref b] s = true := fun w hw => C6 w (gt_in w hw)
  have hF : ∀ x, tg_A aM pgM.2 H.size x → l_A s x := by
    intro x hx
    rcases hx with ⟨j, hj, rfl⟩ | hx
    · exact hDM.2 j hj
    · exact Nat.le_trans hS.1 hx
  have cw : CallW room_1 s #[Value.ref b] "MineDeskLaw" (z_y Z').cls idx (z_y Z') (z_c Z') (z_n Z') (z_r Z') (z_w Z') (z_R Z') 0 0 n :=
    ⟨callB_of n C6' (z_goodIn z0) rfl rfl rfl (C6' _ z0.2.2.2.2) (C6' _ hm) ⟨z0.2.1, z0.2.2.1, z1⟩ hR, C6' _ z2, C6' _ z3⟩
  have hpre : PreV s H (z_y Z').cls (aM 0) (tg_Pc pgM D aM cA H.size (.ref 0 :: As.map Value.int) IM JM) ((As.map Value.int).map (tg_v aM)) := by
    refine ⟨tg_blind, ?_, tg_pre (av := .ref 0 :: As.map Value.int) hDM.1 hPM hK⟩
    rw [← z5]
    exact va_recv hK hPM z4 (tg_obj (G := pgM) (by decide) rfl)
  refine tg_after (a := (Value.ref (aM 0) :: (As.map Value.int).map (tg_v aM)).toArray) (rest := [.int r0]) (va_runV (As := (As.map Value.int).map (tg_v aM)) ⟨C1, C2, C4, C5, C6'⟩ (h l D aM cA H.size) cw hpre rfl (by rw [List.length_map, List.length_map]; exact hn) hl.1 ?_ (lv_room (Nat.le_of_ble_eq_true rfl)) d ⟨Nat.le_refl _, Nat.le_refl _⟩) hS hF (fun x _ hx => hF x hx) ?_
  · show List.map (l_v b (aX 0) (aM 0)) ((As.map Value.int).reverse ++ [.ref 2, .int r0]) = _
    rw [List.map_append, List.map_reverse, l_intv, l_ints]
    rfl
  · intro v I' J' H1 locs1 hp hP1 hS1 _ hk1
    obtain ⟨r, rfl, hk⟩ := hk v I' J' hp
    refine hk C hK ⟨hDX, hDM, hne, hPX.kept (fun k x hx => hk1 x.1 ((hPX k x hx).lt) (fun hA => ?_)), hP1, hS1⟩ hl
    have hlt := (hPX k x hx).lt
    have hkl : k < pgX.2 := by
      have := (List.getElem?_eq_some_iff.mp hx).1
      simpa [tg_W] using this
    rw [tg_get hkl] at hx
    cases hx
    rcases hA with ⟨j, hj, e⟩ | hA
    · exact hne k j hkl hj e.symm
    · exact absurd hlt (Nat.not_lt.mpr hA)
end LR
