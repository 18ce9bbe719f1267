/-! the reference: trying the cells of a part -/
theorem z_s (k : Nat) : zI (k : Int) + 1 = zI ((k + 1 : Nat) : Int) := by rw [show (1 : Int32) = zI 1 from rfl, z_add]; rfl
theorem l_add (a b : Nat) : lN a + lN b = lN (a + b) := (Int64.ofNat_add a b).symm
theorem l_bi (b : Bool) : (bi b).toInt64 = lN (if b then 1 else 0) := by cases b <;> rfl
def wJ (J J' : tg_J) (a b : Nat → Nat) : Prop := (∀ c, c ≠ 18 → c ≠ 19 → J' c = J c) ∧ (∀ x, J' 18 x = J 18 x + lN (a x)) ∧ ∀ x, J' 19 x = J 19 x + lN (b x)
theorem wJ_0 {J : tg_J} : wJ J J (fun _ => 0) (fun _ => 0) := ⟨fun _ _ _ => rfl, fun x => by rw [show lN 0 = 0 from rfl, Int64.add_zero], fun x => by rw [show lN 0 = 0 from rfl, Int64.add_zero]⟩
theorem wJ_tr {J J1 J2 : tg_J} {a b a' b' : Nat → Nat} (h1 : wJ J J1 a b) (h2 : wJ J1 J2 a' b') : wJ J J2 (fun i => a i + a' i) (fun i => b i + b' i) := ⟨fun c p q => (h2.1 c p q).trans (h1.1 c p q), fun x => by rw [h2.2.1, h1.2.1, Int64.add_assoc, l_add], fun x => by rw [h2.2.2, h1.2.2, Int64.add_assoc, l_add]⟩
theorem wJ_eq {J J1 : tg_J} {a b a' b' : Nat → Nat} (h1 : wJ J J1 a b) (h2 : ∀ i, a i = a' i) (h3 : ∀ i, b i = b' i) : wJ J J1 a' b' := by
  rw [← funext h2, ← funext h3]; exact h1
def Q18 (p : Nat) (A : List Nat) (i : Nat) (f : Nat → Bool) : Bool := decide (i / 13 = p ∧ i % 13 = A.countP f)
def Q19 (A : List Nat) (i : Nat) (f : Nat → Bool) : Bool := decide (i / 13 ∈ A ∧ i % 13 = A.countP f) && f (i / 13)
/-- the list of a part's cells -/
def lsI (A : List Nat) (I : tg_I) : Prop := ∀ k, k < A.length → I 16 k = zI (A.getD k 0 : Nat)
theorem getD_mem {A : List Nat} {k : Nat} (hk : k < A.length) : A.getD k 0 ∈ A := by
  rw [List.getD_eq_getElem?_getD, List.getElem?_eq_getElem hk]
  exact List.getElem_mem hk
theorem take_s {A : List Nat} {k : Nat} (hk : k < A.length) : A.take (k + 1) = A.take k ++ [A.getD k 0] := by
  rw [List.take_succ, List.getElem?_eq_getElem hk, List.getD_eq_getElem?_getD, List.getElem?_eq_getElem hk]
  rfl
theorem getD_nin {A : List Nat} (hn : A.Nodup) {k : Nat} (hk : k < A.length) : A.getD k 0 ∉ A.take k := by
  have h : (A.take (k + 1)).Nodup := List.Nodup.sublist (List.take_sublist _ _) hn
  rw [take_s hk] at h
  exact fun q => (List.nodup_append.mp h).2.2 _ q _ (List.mem_singleton.mpr rfl) rfl
section MW
variable {I : tg_I} {J : tg_J} {P : Option Value → tg_I → tg_J → Prop} {w h sh : Nat} {M H B F : Nat → Bool}
theorem countOne_ok {A : List Nat} (hn : A.Nodup) (hl : A.length ≤ 12) (hA : ∀ x, x ∈ A → x < 100) {p : Nat} (hp100 : p < 100) (hs : lsI A I) {f : Nat → Bool} (ht : trd A A.length f I) (hp : ∀ J', wJ J J' (fun i => if Q18 p A i f then 1 else 0) (fun i => if Q19 A i f then 1 else 0) → P none I J') : call pgM zX9_countOne [.ref 0, .int (zI p), .int (zI A.length)] I J P := by
  have hv : ∀ k, k < A.length → I 17 (A.getD k 0) = bi (f (A.getD k 0)) := fun k hk => ht.1 _ (by rw [List.take_length]; exact getD_mem hk)
  have hcl : A.countP f ≤ A.length := List.countP_le_length
  refine e_X9_countOne _ _ ?_
  have key := up_loop (L := fun k => l_X9_countOne_5 I J P (zI p) (zI A.length) (zI ((A.take k).countP f : Nat)) (zI k)) A.length ?_ ?_ 0 (Nat.zero_le _)
  · exact key
  · refine s_X9_countOne_5 _ _ _ _ ⟨fun _ => ?_, fun c => absurd (Int32.le_refl _) c⟩
    rw [List.take_length]
    have hm12 := hcl
    generalize hmm : A.countP f = m at *
    have e13 : (13 : Int32) * zI p + zI m = zI ((13 * p + m : Nat) : Int) := by
      rw [show (13 : Int32) = zI 13 from rfl, z_mul, z_add]; congr 1
    rw [e13, z_in (by omega) (by omega), z_cl (by omega)]
    refine ⟨by omega, by omega, fun J1 e1 => ?_⟩
    have w1 : wJ J J1 (fun i => if Q18 p A i f then 1 else 0) (fun _ => 0) := by
      refine ⟨fun c a b => by rw [e1, u2_other _ _ _ _ a], fun x => ?_, fun x => ?_⟩
      · rw [e1, u2_at]
        unfold Q18
        dsimp only
        rw [hmm]
        by_cases e : x = 13 * p + m
        · rw [if_pos e, ← e, decide_eq_true (by omega)]; rfl
        · rw [if_neg e, decide_eq_false (by omega)]
          show _ = _ + lN 0
          rw [show lN 0 = 0 from rfl, Int64.add_zero]
      · rw [e1, u2_other _ _ _ _ (by decide)]
        show _ = _ + lN 0
        rw [show lN 0 = 0 from rfl, Int64.add_zero]
    have key2 := up_loop (L := fun k => ∀ J2, wJ J1 J2 (fun _ => 0) (fun i => if decide (i / 13 ∈ A.take k ∧ i % 13 = m) && f (i / 13) then 1 else 0) → l_X9_countOne_50 I J2 P (zI A.length) (zI m) (zI k)) A.length ?_ ?_ 0 (Nat.zero_le _) J1 (wJ_eq wJ_0 (fun _ => rfl) (fun i => by simp))
    · exact key2
    · intro J2 w2
      refine s_X9_countOne_50 _ _ _ ⟨fun _ => hp J2 (wJ_eq (wJ_tr w1 w2) (fun i => Nat.add_zero _) (fun i => ?_)), fun c => absurd (Int32.le_refl _) c⟩
      unfold Q19
      rw [hmm, List.take_length, Nat.zero_add]
    · intro k hk ih J2 w2
      have hx := getD_mem hk
      have hxn := getD_nin hn hk
      have hx1 := hA _ hx
      have hvk := hv k hk
      have htk := take_s hk
      refine s_X9_countOne_50 _ _ _ ?_
      rw [z_le (by omega) (by omega) (by omega) (by omega), z_in (by omega) (by omega), z_cl (by omega), hs k hk, z_s]
      generalize A.getD k 0 = x at *
      have e14 : (13 : Int32) * zI x + zI m = zI ((13 * x + m : Nat) : Int) := by
        rw [show (13 : Int32) = zI 13 from rfl, z_mul, z_add]; congr 1
      rw [e14, z_in (by omega) (by omega), z_cl (by omega), z_in (by omega) (by omega), z_cl (by omega), hvk, l_bi]
      refine ⟨fun c => absurd c (by omega), fun _ => ⟨by omega, by omega, by omega, by omega, by omega, fun J3 e3 => ih J3 ?_⟩⟩
      refine ⟨fun c a b => by rw [e3, u2_other _ _ _ _ b]; exact w2.1 c a b, fun y => by rw [e3, u2_other _ _ _ _ (by decide)]; exact w2.2.1 y, fun y => ?_⟩
      rw [e3, u2_at, htk]
      by_cases e : y = 13 * x + m
      · rw [if_pos e, ← e, w2.2.2 y, Int64.add_assoc, l_add]
        congr 1
        dsimp only
        have e5 : y / 13 = x := by omega
        have e6 : y % 13 = m := by omega
        rw [e5, e6]
        rw [decide_eq_false (fun q => hxn q.1)]
        rw [decide_eq_true ⟨by simp, rfl⟩]
        cases f x <;> rfl
      · rw [if_neg e, w2.2.2 y]
        congr 1
        dsimp only
        rw [show decide (y / 13 ∈ List.take k A ∧ y % 13 = m) = decide (y / 13 ∈ List.take k A ++ [x] ∧ y % 13 = m) from ?_]
        apply decide_eq_decide.mpr
        constructor
        · exact fun q => ⟨List.mem_append_left _ q.1, q.2⟩
        · rintro ⟨q1, q2⟩
          rcases List.mem_append.mp q1 with z | z
          · exact ⟨z, q2⟩
          · have := List.mem_singleton.mp z
            exact absurd (show y = 13 * x + m by omega) e
  · intro k hk ih
    have hx := getD_mem hk
    have hx1 := hA _ hx
    have hvk := hv k hk
    have htk := take_s hk
    refine s_X9_countOne_5 _ _ _ _ ?_
    rw [z_le (by omega) (by omega) (by omega) (by omega), z_in (by omega) (by omega), z_cl (by omega), hs k hk, z_s]
    generalize A.getD k 0 = x at *
    rw [z_in (by omega) (by omega), z_cl (by omega), hvk]
    refine ⟨fun c => absurd c (by omega), fun _ => ⟨by omega, by omega, fun x1 e1 => ?_⟩⟩
    rw [e1]
    rw [htk, List.countP_append, List.countP_singleton] at ih
    have e2 : zI ((A.take k).countP f : Nat) + bi (f x) = zI ((A.take k).countP f + (if f x = true then 1 else 0) : Nat) := by
      cases f x
      · rw [show bi false = zI 0 from rfl, z_add]; rfl
      · rw [show bi true = zI 1 from rfl, z_add]; rfl
    rw [e2]
    exact ih
def kp17 (I0 I : tg_I) : Prop := ∀ q, q ≠ 17 → I q = I0 q
/-- one try of the cell at place k, and what comes behind it -/
theorem trial {I0 : tg_I} (gk : gOk w h sh) (hm0 : mst w h sh M H B F I0) (oS : okS (w * h) M H B F) {A : List Nat} (hA : ptL (w * h) (nb w h sh) H (opS (w * h) H B) A) (hl : A.length ≤ 12) {p : Nat} (hp100 : p < 100) (hs : lsI A I0) {pre L : List Nat} {c : Nat} (hpre : A = pre ++ c :: L) {f : Nat → Bool} (v : Bool) (o : kp17 I0 I) (t1 : ∀ x, x ∈ pre → I 17 x = bi (f x)) (t2 : ∀ x, x ∈ L → I 17 x = -1) (t3 : I 17 c + 1 = bi v)
    (ih : L ≠ [] → ∀ (g : Nat → Bool) (I : tg_I) (J : tg_J), trd A (pre.length + 1) g I → kp17 I0 I → (∀ I' J', trd A (pre.length + 1) g I' → kp17 I0 I' → wJ J J' (fun i => pcn (okF (w * h) (nb w h sh) M (opS (w * h) H B) A) (Q18 p A i) (pre.length + 1) L g) (fun i => pcn (okF (w * h) (nb w h sh) M (opS (w * h) H B) A) (Q19 A i) (pre.length + 1) L g) → l_X9_tryPart_47 I' J' P (zI p) (zI A.length) (zI (pre.length : Nat))) → l_X9_tryPart_47 I J P (zI p) (zI A.length) (zI ((pre.length + 1 : Nat) : Int)))
    (hp : ∀ I' J', trd A (pre.length + 1) (upb f c v) I' → kp17 I0 I' → wJ J J' (fun i => if okF (w * h) (nb w h sh) M (opS (w * h) H B) A (pre.length + 1) (upb f c v) then pcn (okF (w * h) (nb w h sh) M (opS (w * h) H B) A) (Q18 p A i) (pre.length + 1) L (upb f c v) else 0) (fun i => if okF (w * h) (nb w h sh) M (opS (w * h) H B) A (pre.length + 1) (upb f c v) then pcn (okF (w * h) (nb w h sh) M (opS (w * h) H B) A) (Q19 A i) (pre.length + 1) L (upb f c v) else 0) → l_X9_tryPart_47 I' J' P (zI p) (zI A.length) (zI (pre.length : Nat))) :
    l_X9_tryPart_47 I J P (zI p) (zI A.length) (zI (pre.length : Nat)) := by
  obtain ⟨hn1, hn2⟩ := mul_le100 gk
  have hlen : A.length = pre.length + 1 + L.length := by rw [hpre]; simp; omega
  have hk : pre.length < A.length := by omega
  have hc : A.getD pre.length 0 = c := by rw [hpre]; simp
  have hcA : c ∈ A := by rw [hpre]; simp
  have hcn := (hA.2.1 c hcA).1
  have hnd := hA.1
  rw [hpre] at hnd
  have nd1 := (List.nodup_append.mp hnd)
  have htk : A.take (pre.length + 1) = pre ++ [c] := by rw [hpre, show pre ++ c :: L = (pre ++ [c]) ++ L by simp, List.take_left' (by simp)]
  have hdr : A.drop (pre.length + 1) = L := by rw [hpre, show pre ++ c :: L = (pre ++ [c]) ++ L by simp, List.drop_left' (by simp)]
  have hsk := hs _ hk
  rw [hc] at hsk
  refine s_X9_tryPart_47 _ _ _ ?_
  rw [show (0 : Int32) = zI 0 from rfl, z_lt (by omega) (by omega) (by omega) (by omega), z_in (by omega) (by omega), z_cl (by omega), o 16 (by decide), hsk]
  refine ⟨fun q => absurd q (by omega), fun _ => ⟨by omega, fun x1 e1 => ?_⟩⟩
  rw [e1, z_in (by omega) (by omega), z_cl (by omega), t3]
  refine ⟨by omega, by omega, fun I1 eI => ⟨by omega, ?_⟩⟩
  have o1 : kp17 I0 I1 := fun q hq => by rw [eI, u2_other _ _ _ _ hq]; exact o q hq
  have ht : trd A (pre.length + 1) (upb f c v) I1 := by
    unfold trd
    rw [htk, hdr]
    refine ⟨fun x hx => ?_, fun x hx => ?_⟩
    · rw [eI, u2_at]
      unfold upb
      by_cases e : x = c
      · rw [if_pos e, if_pos e]
      · rw [if_neg e, if_neg e]
        rcases List.mem_append.mp hx with z | z
        · exact t1 x z
        · exact absurd (List.mem_singleton.mp z) e
    · rw [eI, u2_at, if_neg (fun e => (List.nodup_cons.mp nd1.2.1).1 (by rw [← e]; exact hx))]
      exact t2 x hx
  have h1 : I1 17 c = bi v := by rw [eI, u2_eq]
  rw [h1]
  have m1 : mst w h sh M H B F I1 := mst_keep hm0 (fun q hq => o1 q (by omega))
  have hfit := fun Q hq => mfits_ok (P := Q) (J := J) gk m1 oS hA hk ht hq
  rw [hc] at hfit
  refine ⟨fun _ => hfit _ ⟨_, rfl, ?_⟩, fun q => absurd (by cases v <;> decide) q⟩
  rw [show zI 0 = (0 : Int32) from rfl, bi_0]
  cases hok : okF (w * h) (nb w h sh) M (opS (w * h) H B) A (pre.length + 1) (upb f c v)
  · rw [hok] at hp
    exact ⟨fun _ => hp I1 J ht o1 (wJ_eq wJ_0 (fun _ => rfl) (fun _ => rfl)), fun q => absurd rfl q⟩
  · rw [hok] at hp
    refine ⟨fun q => (by cases q), fun _ => ?_⟩
    rw [show (1 : Int32) = zI 1 from rfl, z_sub, z_add, z_eq (by omega) (by omega) (by omega) (by omega)]
    refine ⟨fun q => ih (fun e => q (by rw [hlen, e]; simp)) _ _ _ ht o1 (fun I' J' a b d => hp I' J' a b ?_), fun q => ?_⟩
    · exact wJ_eq d (fun i => by rw [if_pos rfl]) (fun i => by rw [if_pos rfl])
    · have hL : L = [] := List.eq_nil_of_length_eq_zero (by omega)
      have hfull : trd A A.length (upb f c v) I1 := by rw [show A.length = pre.length + 1 by rw [hlen, hL]; rfl]; exact ht
      refine countOne_ok hA.1 hl (fun x hx => by have := (hA.2.1 x hx).1; omega) hp100 (fun k hk => by rw [o1 16 (by decide)]; exact hs k hk) hfull (fun J' wj => ⟨rfl, hp I1 J' ht o1 ?_⟩)
      rw [hL]
      exact wJ_eq wj (fun i => by rw [if_pos rfl]; rfl) (fun i => by rw [if_pos rfl]; rfl)
theorem tries {I0 : tg_I} (gk : gOk w h sh) (hm0 : mst w h sh M H B F I0) (oS : okS (w * h) M H B F) {A : List Nat} (hA : ptL (w * h) (nb w h sh) H (opS (w * h) H B) A) (hl : A.length ≤ 12) {p : Nat} (hp100 : p < 100) (hs : lsI A I0) : ∀ (L pre : List Nat), A = pre ++ L → L ≠ [] → ∀ (f : Nat → Bool) (I : tg_I) (J : tg_J), trd A pre.length f I → kp17 I0 I → (∀ I' J', trd A pre.length f I' → kp17 I0 I' → wJ J J' (fun i => pcn (okF (w * h) (nb w h sh) M (opS (w * h) H B) A) (Q18 p A i) pre.length L f) (fun i => pcn (okF (w * h) (nb w h sh) M (opS (w * h) H B) A) (Q19 A i) pre.length L f) → l_X9_tryPart_47 I' J' P (zI p) (zI A.length) (zI ((pre.length : Int) - 1))) → l_X9_tryPart_47 I J P (zI p) (zI A.length) (zI (pre.length : Nat))
  | [], _, _, hne, _, _, _, _, _, _ => absurd rfl hne
  | c :: L, pre, hpre, _, f, I, J, ht, o, hp => by
    obtain ⟨hn1, hn2⟩ := mul_le100 gk
    have hlen : A.length = pre.length + 1 + L.length := by rw [hpre]; simp; omega
    have hk : pre.length < A.length := by omega
    have hc : A.getD pre.length 0 = c := by rw [hpre]; simp
    have hcA : c ∈ A := by rw [hpre]; simp
    have hcn := (hA.2.1 c hcA).1
    have hnd := hA.1
    rw [hpre] at hnd
    have nd1 := (List.nodup_append.mp hnd)
    have htk0 : A.take pre.length = pre := by rw [hpre]; simp
    have hdr0 : A.drop pre.length = c :: L := by rw [hpre]; simp
    have htk : A.take (pre.length + 1) = pre ++ [c] := by rw [hpre, show pre ++ c :: L = (pre ++ [c]) ++ L by simp, List.take_left' (by simp)]
    have hdr : A.drop (pre.length + 1) = L := by rw [hpre, show pre ++ c :: L = (pre ++ [c]) ++ L by simp, List.drop_left' (by simp)]
    have ht1 := ht.1
    have ht2 := ht.2
    rw [htk0] at ht1
    rw [hdr0] at ht2
    have hpc : ∀ x, x ∈ pre → x ≠ c := fun x hx => nd1.2.2 x hx c List.mem_cons_self
    have hLc : ∀ x, x ∈ L → x ≠ c := fun x hx e => (List.nodup_cons.mp nd1.2.1).1 (by rw [← e]; exact hx)
    have ih : L ≠ [] → ∀ (g : Nat → Bool) (I : tg_I) (J : tg_J), trd A (pre.length + 1) g I → kp17 I0 I → (∀ I' J', trd A (pre.length + 1) g I' → kp17 I0 I' → wJ J J' (fun i => pcn (okF (w * h) (nb w h sh) M (opS (w * h) H B) A) (Q18 p A i) (pre.length + 1) L g) (fun i => pcn (okF (w * h) (nb w h sh) M (opS (w * h) H B) A) (Q19 A i) (pre.length + 1) L g) → l_X9_tryPart_47 I' J' P (zI p) (zI A.length) (zI (pre.length : Nat))) → l_X9_tryPart_47 I J P (zI p) (zI A.length) (zI ((pre.length + 1 : Nat) : Int)) := fun hne g I J a b d => by
      have := tries gk hm0 oS hA hl hp100 hs L (pre ++ [c]) (by rw [hpre]; simp) hne g I J
      rw [List.length_append, show [c].length = 1 from rfl] at this
      refine this a b (fun I' J' a b e => ?_)
      rw [show (((pre.length + 1 : Nat) : Int) - 1) = (pre.length : Nat) by omega]
      exact d I' J' a b e
    have af : ∀ v I', trd A (pre.length + 1) (upb f c v) I' → (∀ x, x ∈ pre → I' 17 x = bi (f x)) ∧ (∀ x, x ∈ L → I' 17 x = -1) ∧ I' 17 c = bi v := fun v I' q => by
      unfold trd at q
      rw [htk, hdr] at q
      refine ⟨fun x hx => ?_, q.2, ?_⟩
      · rw [q.1 x (List.mem_append_left _ hx)]
        unfold upb
        rw [if_neg (hpc x hx)]
      · rw [q.1 c (by simp)]
        unfold upb
        rw [if_pos rfl]
    refine trial gk hm0 oS hA hl hp100 hs hpre false o ht1 (fun x hx => ht2 x (List.mem_cons_of_mem _ hx)) (by rw [ht2 c List.mem_cons_self]; rfl) ih (fun I1 J1 a1 o1 w1 => ?_)
    obtain ⟨p1, p2, p3⟩ := af _ _ a1
    refine trial gk hm0 oS hA hl hp100 hs hpre true o1 p1 p2 (by rw [p3]; rfl) ih (fun I2 J2 a2 o2 w2 => ?_)
    obtain ⟨q1, q2, q3⟩ := af _ _ a2
    have hsk := hs _ hk
    rw [hc] at hsk
    refine s_X9_tryPart_47 _ _ _ ?_
    rw [show (0 : Int32) = zI 0 from rfl, z_lt (by omega) (by omega) (by omega) (by omega), z_in (by omega) (by omega), z_cl (by omega), o2 16 (by decide), hsk]
    refine ⟨fun q => absurd q (by omega), fun _ => ⟨by omega, fun x1 e1 => ?_⟩⟩
    rw [e1, z_in (by omega) (by omega), z_cl (by omega), q3]
    refine ⟨by omega, by omega, fun I3 eI => ⟨by omega, ?_⟩⟩
    rw [show I3 17 c = bi true + 1 by rw [eI, u2_eq]]
    refine ⟨fun q => absurd q (by decide), fun _ => ⟨by omega, fun I4 eI4 => ?_⟩⟩
    rw [show (-1 : Int32) = zI (-1) from rfl, z_add]
    refine hp I4 J2 ?_ (fun q hq => by rw [eI4, u2_other _ _ _ _ hq, eI, u2_other _ _ _ _ hq]; exact o2 q hq) (wJ_tr w1 w2)
    unfold trd
    rw [htk0, hdr0]
    refine ⟨fun x hx => ?_, fun x hx => ?_⟩
    · rw [eI4, u2_at, if_neg (hpc x hx), eI, u2_at, if_neg (hpc x hx)]
      exact q1 x hx
    · rw [eI4, u2_at]
      by_cases e : x = c
      · rw [if_pos e]
      · rw [if_neg e, eI, u2_at, if_neg e]
        rcases List.mem_cons.mp hx with z | z
        · exact absurd z e
        · exact q2 x z
end MW
