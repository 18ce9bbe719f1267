/-! the class: the numbers of a search, second loop -/
section XB2
variable {I : tg_I} {J : tg_J} {P : Option Value → tg_I → tg_J → Prop} {w h sh b k2 : Nat} {M H B F N : Nat → Bool} {A : List Nat}
def sRk (w h sh : Nat) (N : Nat → Bool) (A : List Nat) (k : Nat) (I : tg_I) : Prop := ∀ j, j < k → I 23 j = zI (rl w h sh N (A.getD j 0)).length ∧ ∀ i, i < (rl w h sh N (A.getD j 0)).length → I 22 (8 * j + i) = zI ((rl w h sh N (A.getD j 0)).getD i 0)
def sMk (w h sh : Nat) (M B N : Nat → Bool) (A : List Nat) (k : Nat) (X : List Nat) (I : tg_I) : Prop := (∀ o, N o = true → (∃ x, x ∈ A ∧ nb w h sh x o = true) → ∀ j, j < 32 → bt (I 24 o) j = ((decide (j < k) && nb w h sh (A.getD j 0) o) || (decide (j = k) && decide (o ∈ X)))) ∧ ∀ o, N o = true → ((∃ j, j < k ∧ nb w h sh (A.getD j 0) o = true) ∨ o ∈ X) → I 25 o = zI ((nin w h sh M o : Nat) - (nin w h sh B o : Nat))
theorem mem_idx {A : List Nat} {x : Nat} (hx : x ∈ A) : ∃ j, j < A.length ∧ A.getD j 0 = x := by
  obtain ⟨j, hj⟩ := List.getElem?_of_mem hx
  exact ⟨j, (List.getElem?_eq_some_iff.mp hj).1, by rw [List.getD_eq_getElem?_getD, hj]; rfl⟩
theorem getD_app1 {L : List Nat} {y i : Nat} (h : i < (L ++ [y]).length) : (L ++ [y]).getD i 0 = if i = L.length then y else L.getD i 0 := by
  rw [List.length_append, show [y].length = 1 from rfl] at h
  by_cases e : i = L.length
  · rw [if_pos e, e]; simp
  · rw [if_neg e, List.getD_eq_getElem?_getD, List.getD_eq_getElem?_getD, List.getElem?_append_left (by omega)]
theorem bind107 (hb : isBd b) (hk2 : isBits k2) (gk : gOk w h sh) (g : gridX b w h sh I J) (v : bst b (w * h) M H B F J) (hN : ∀ i, i < 128 → sB J k2 i = N i) (hA : ∀ x, x ∈ A → x < w * h) (hl : A.length ≤ 14) (sA : srA A I) {k : Nat} (hk : k < A.length) {I1 : tg_I} (o1 : oR I I1) (r1 : sRk w h sh N A k I1) (m1 : sMk w h sh M B N A k [] I1)
    (hp : ∀ I', oR I I' → sRk w h sh N A (k + 1) I' → sMk w h sh M B N A (k + 1) [] I' → l_X7_bind_80 I' J P b k2 (zI ((k + 1 : Nat) : Int))) : l_X7_bind_107 I1 J P b k2 (zI k) (zI (((A.getD k 0 : Nat) : Int) * 8)) 0 0 := by
  obtain ⟨hn1, hn2⟩ := mul_le100 gk
  have hcA := getD_mem hk
  have hc := hA _ hcA
  have hcell := sA.2 k hk
  have hrl : ∀ c, rl w h sh N c = (nbl w h sh c).filter N := fun _ => rfl
  obtain ⟨rln, rl8⟩ := row_len gk g hc
  have key := up_loop (L := fun i => ∀ I2, oR I I2 → sRk w h sh N A k I2 → (∀ i', i' < (((nbl w h sh (A.getD k 0)).take i).filter N).length → I2 22 (8 * k + i') = zI ((((nbl w h sh (A.getD k 0)).take i).filter N).getD i' 0)) → sMk w h sh M B N A k ((nbl w h sh (A.getD k 0)).take i) I2 → l_X7_bind_107 I2 J P b k2 (zI k) (zI (((A.getD k 0 : Nat) : Int) * 8)) (zI (((nbl w h sh (A.getD k 0)).take i).filter N).length) (zI i)) (nbl w h sh (A.getD k 0)).length ?_ ?_ 0 (Nat.zero_le _) I1 o1 r1 (fun i' h => by simp at h) (by simpa using m1)
  · exact key
  · intro I2 o2 r2 c2 m2
    rw [List.take_length] at c2 m2 ⊢
    refine s_X7_bind_107 _ _ _ _ _ _ hb hk2 ?_
    have e5 : I2 (b + 5) (A.getD k 0) = zI (nbl w h sh (A.getD k 0)).length := by rw [o2 (b + 5) (by rcases hb with e | e <;> omega) (by rcases hb with e | e <;> omega) (by rcases hb with e | e <;> omega) (by rcases hb with e | e <;> omega)]; exact rln
    rw [o2 21 (by decide) (by decide) (by decide) (by decide), z_in (by omega) (by omega), z_cl (by omega), hcell, z_in (by omega) (by omega), z_cl (by omega), e5, z_s]
    refine ⟨by omega, by omega, fun _ => ⟨by omega, fun I3 e3 => hp I3 (fun q x1 x2 x3 x4 => by rw [e3, u2_other _ _ _ _ x2]; exact o2 q x1 x2 x3 x4) (fun j hj => ?_) ⟨fun o hNo hT j hj => ?_, fun o hNo q => ?_⟩⟩, fun q => absurd (Int32.le_refl _) q⟩
    · rw [e3, u2_at, u2_other _ _ _ _ (by decide)]
      by_cases e : j = k
      · rw [if_pos e, e, hrl]
        exact ⟨rfl, c2⟩
      · rw [if_neg e]
        exact r2 j (by omega)
    · rw [e3, u2_other _ _ _ _ (by decide), m2.1 o hNo hT j hj]
      by_cases e : j = k
      · rw [e, decide_eq_true rfl, decide_eq_true (show k < k + 1 by omega), decide_eq_false (show ¬ k < k by omega), decide_eq_false (show ¬ k = k + 1 by omega)]
        cases e6 : nb w h sh (A.getD k 0) o
        · rw [decide_eq_false (fun q => by rw [nbl_mem.mp q] at e6; cases e6)]; rfl
        · rw [decide_eq_true (nbl_mem.mpr e6)]; rfl
      · rw [decide_eq_false e]
        by_cases e7 : j < k
        · rw [decide_eq_true e7, decide_eq_true (show j < k + 1 by omega)]; simp
        · rw [decide_eq_false e7, decide_eq_false (show ¬ j < k + 1 by omega)]; simp
    · rw [e3, u2_other _ _ _ _ (by decide)]
      refine m2.2 o hNo ?_
      rcases q with ⟨j, hj, hn⟩ | q
      · by_cases e : j = k
        · right; rw [e] at hn; exact nbl_mem.mpr hn
        · exact Or.inl ⟨j, by omega, hn⟩
      · cases q
  · intro i hi ih I2 o2 r2 c2 m2
    have e5 : I2 (b + 5) (A.getD k 0) = zI (nbl w h sh (A.getD k 0)).length := by rw [o2 (b + 5) (by rcases hb with e | e <;> omega) (by rcases hb with e | e <;> omega) (by rcases hb with e | e <;> omega) (by rcases hb with e | e <;> omega)]; exact rln
    have hat := row_at gk g hc hi
    have hmem := getD_mem hi
    have hnin := getD_nin (nbl_nodup (A.getD k 0)) hi
    have hlen : (((nbl w h sh (A.getD k 0)).take i).filter N).length ≤ i := by
      have h1 := List.length_filter_le N ((nbl w h sh (A.getD k 0)).take i)
      have h2 := List.length_take_le i (nbl w h sh (A.getD k 0))
      omega
    rw [take_s hi] at ih
    generalize (nbl w h sh (A.getD k 0)).getD i 0 = y at *
    have hcy := nbl_mem.mp hmem
    have hy := nb_lt hcy
    refine s_X7_bind_107 _ _ _ _ _ _ hb hk2 ?_
    rw [o2 21 (by decide) (by decide) (by decide) (by decide), z_in (by omega) (by omega), z_cl (by omega), hcell, z_in (by omega) (by omega), z_cl (by omega), e5, z_le (by omega) (by omega) (by omega) (by omega), z_add, z_in (by omega) (by omega), show ((A.getD k 0 : Nat) : Int) * 8 + (i : Int) = ((8 * A.getD k 0 + i : Nat) : Int) by omega, z_cl (by omega), o2 (b + 4) (by rcases hb with e | e <;> omega) (by rcases hb with e | e <;> omega) (by rcases hb with e | e <;> omega) (by rcases hb with e | e <;> omega), hat, z_s i]
    refine ⟨by omega, by omega, fun q => absurd q (by omega), fun _ => ⟨by omega, fun x1 ex => ?_⟩⟩
    rw [ex]
    refine has_ok hk2 (by omega) ⟨_, rfl, ?_⟩
    rw [hN y (by omega), bi_0]
    refine ⟨fun c => ?_, fun c => ?_⟩
    · have e2 : ((nbl w h sh (A.getD k 0)).take i ++ [y]).filter N = ((nbl w h sh (A.getD k 0)).take i).filter N := by
        rw [List.filter_append, List.filter_cons, if_neg (by simp [c])]; simp
      rw [e2] at ih
      have hne : ∀ o, N o = true → (o ∈ (nbl w h sh (A.getD k 0)).take i ++ [y] ↔ o ∈ (nbl w h sh (A.getD k 0)).take i) := fun o ho => by
        have : o ≠ y := fun q => by rw [q, c] at ho; cases ho
        simp [this]
      refine ih I2 o2 r2 c2 ⟨fun o hNo hT j hj => ?_, fun o hNo q => m2.2 o hNo ?_⟩
      · rw [m2.1 o hNo hT j hj, show decide (o ∈ (nbl w h sh (A.getD k 0)).take i ++ [y]) = decide (o ∈ (nbl w h sh (A.getD k 0)).take i) from decide_eq_decide.mpr (hne o hNo)]
      · rcases q with q | q
        · exact Or.inl q
        · exact Or.inr ((hne o hNo).mp q)
    · have hNy : N y = true := by simpa using c
      have e2 : ((nbl w h sh (A.getD k 0)).take i ++ [y]).filter N = ((nbl w h sh (A.getD k 0)).take i).filter N ++ [y] := by
        rw [List.filter_append, List.filter_cons, if_pos hNy]; rfl
      rw [e2] at ih
      generalize hX : ((nbl w h sh (A.getD k 0)).take i).filter N = X at *
      rw [z_in (by omega) (by omega), z_cl (by omega)]
      refine ⟨by omega, by omega, fun I3 e3 => ?_⟩
      have o3 : oR I I3 := fun q x1 x2 x3 x4 => by rw [e3, u2_other _ _ _ _ x3]; exact o2 q x1 x2 x3 x4
      have g3 := outP.grid (J1 := J) hb o3.out g
      refine due_ok hb (bd_bits hb (by decide) (by decide)) gk g3 hy ⟨_, rfl, ?_⟩
      rw [nin_cong (S := sB J (b + 7)) (S' := M) (fun i hi => (v i (by omega)).1), nin_cong (S := sB J (b + 10)) (S' := B) (fun i hi => (v i (by omega)).2.2.2.1)]
      refine ⟨by omega, fun I4 e4 => ?_⟩
      rw [show (8 : Int32) = zI 8 from rfl, z_mul, z_add, show (k : Int) * 8 + (X.length : Int) = ((8 * k + X.length : Nat) : Int) by omega, z_in (by omega) (by omega), z_cl (by omega), z_s]
      refine ⟨by omega, fun I5 e6 => ?_⟩
      rw [List.length_append, show [y].length = 1 from rfl] at ih
      refine ih I5 (fun q x1 x2 x3 x4 => by rw [e6, u2_other _ _ _ _ x1, e4, u2_other _ _ _ _ x4]; exact o3 q x1 x2 x3 x4) (fun j hj => ?_) (fun i' hi' => ?_) ⟨fun o hNo hT j hj => ?_, fun o hNo q => ?_⟩
      · obtain ⟨a1, a2⟩ := r2 j hj
        refine ⟨by rw [e6, u2_other _ _ _ _ (by decide), e4, u2_other _ _ _ _ (by decide), e3, u2_other _ _ _ _ (by decide)]; exact a1, fun i' hi' => ?_⟩
        have hl8 : (rl w h sh N (A.getD j 0)).length ≤ 8 := by
          have h1 := List.length_filter_le N (nbl w h sh (A.getD j 0))
          have h2 := (row_len gk g (hA _ (getD_mem (show j < A.length by omega)))).2
          rw [hrl]; omega
        rw [e6, u2_at, if_neg (by omega), e4, u2_other _ _ _ _ (by decide), e3, u2_other _ _ _ _ (by decide)]
        exact a2 i' hi'
      · have hi2 : i' < (X ++ [y]).length := by rw [List.length_append]; exact hi'
        rw [getD_app1 hi2, e6, u2_at]
        by_cases e : i' = X.length
        · rw [if_pos (by omega), if_pos e]
        · rw [if_neg (by omega), if_neg e, e4, u2_other _ _ _ _ (by decide), e3, u2_other _ _ _ _ (by decide)]
          exact c2 i' (by omega)
      · rw [e6, u2_other _ _ _ _ (by decide), e4, u2_other _ _ _ _ (by decide), e3, u2_at]
        by_cases e : o = y
        · rw [if_pos e, b_or, bt_one (by omega) hj, ← e, m2.1 o hNo hT j hj, decide_eq_true (show o ∈ (nbl w h sh (A.getD k 0)).take i ++ [o] by simp), Bool.and_true]
          cases decide (j < k) && nb w h sh (A.getD j 0) o <;> cases decide (j = k) <;> cases decide (o ∈ (nbl w h sh (A.getD k 0)).take i) <;> rfl
        · rw [if_neg e, m2.1 o hNo hT j hj, show decide (o ∈ (nbl w h sh (A.getD k 0)).take i ++ [y]) = decide (o ∈ (nbl w h sh (A.getD k 0)).take i) from decide_eq_decide.mpr (by simp [e])]
      · rw [e6, u2_other _ _ _ _ (by decide), e4, u2_at]
        by_cases e : o = y
        · rw [if_pos e, e]
        · rw [if_neg e, e3, u2_other _ _ _ _ (by decide)]
          refine m2.2 o hNo ?_
          rcases q with q | q
          · exact Or.inl q
          · rcases List.mem_append.mp q with q | q
            · exact Or.inr q
            · exact absurd (List.mem_singleton.mp q) e
theorem bind_ok (hb : isBd b) (hk2 : isBits k2) (gk : gOk w h sh) (g : gridX b w h sh I J) (v : bst b (w * h) M H B F J) (hN : ∀ i, i < 128 → sB J k2 i = N i) (hA : ∀ x, x ∈ A → x < w * h) (hl : A.length ≤ 14) (sA : srA A I) (hp : ∀ I', oR I I' → srR w h sh M B N A I' → P none I' J) : call pgX zX7_bind [.ref 20, .ref b, .ref k2] I J P := by
  refine e_X7_bind _ _ hb hk2 (bind8 hb hk2 gk g hA hl sA (fun I1 o1 z1 => ?_))
  have or1 : oR I I1 := fun q x1 x2 x3 x4 => o1 q x3
  have key := up_loop (L := fun k => ∀ I2, oR I I2 → sRk w h sh N A k I2 → sMk w h sh M B N A k [] I2 → l_X7_bind_80 I2 J P b k2 (zI k)) A.length ?_ ?_ 0 (Nat.zero_le _) I1 or1 (fun j hj => absurd hj (by omega)) ⟨fun o hNo hT j hj => by rw [z1 o hT, b_0]; simp, fun o hNo q => by rcases q with ⟨j, hj, -⟩ | q; exact absurd hj (by omega); cases q⟩
  · exact key
  · intro I2 o2 r2 m2
    refine s_X7_bind_80 _ _ _ hb hk2 ⟨fun _ => hp I2 o2 ⟨r2, fun o hNo hT => ⟨fun j hj => ?_, ?_⟩⟩, fun c => absurd (by rw [o2 20 (by decide) (by decide) (by decide) (by decide), sA.1]; exact Int32.le_refl _) c⟩
    · rw [m2.1 o hNo hT j hj]; simp
    · obtain ⟨x, hx, hn⟩ := hT
      obtain ⟨j, hj, e⟩ := mem_idx hx
      exact m2.2 o hNo (Or.inl ⟨j, hj, by rw [e]; exact hn⟩)
  · intro k hk ih I2 o2 r2 m2
    refine s_X7_bind_80 _ _ _ hb hk2 ?_
    rw [o2 20 (by decide) (by decide) (by decide) (by decide), o2 21 (by decide) (by decide) (by decide) (by decide), sA.1, z_le (by omega) (by omega) (by omega) (by omega), z_in (by omega) (by omega), z_cl (by omega), sA.2 k hk, show (8 : Int32) = zI 8 from rfl, z_mul]
    refine ⟨fun c => absurd c (by omega), fun _ => ⟨by omega, fun x1 ex => ?_⟩⟩
    rw [ex]
    exact bind107 hb hk2 gk g v hN hA hl sA hk o2 r2 m2 ih
end XB2
