/-! the reference: the cells that told numbers speak of -/
def tlN (T N : Nat → Bool) : Nat → Bool := fun i => T i && N i
def spk (w h sh : Nat) (H N : Nat → Bool) (c b : Nat) : Bool := H b && !decide (b = c) && decide (∃ a, a < w * h ∧ N a = true ∧ nb w h sh a b = true)
def spA (w h sh : Nat) (H N : Nat → Bool) (c : Nat) : List Nat := c :: (List.range (w * h)).filter (spk w h sh H N c)
theorem spk_c {w h sh : Nat} {H N : Nat → Bool} {c : Nat} : spk w h sh H N c c = false := by unfold spk; simp
theorem spA_nodup {w h sh : Nat} {H N : Nat → Bool} {c : Nat} : (spA w h sh H N c).Nodup := by
  unfold spA
  refine List.nodup_cons.mpr ⟨fun q => ?_, List.Nodup.sublist List.filter_sublist List.nodup_range⟩
  have := (List.mem_filter.mp q).2
  rw [spk_c] at this
  cases this
theorem spA_mem {w h sh : Nat} {H N : Nat → Bool} {c x : Nat} : x ∈ spA w h sh H N c ↔ x = c ∨ (x < w * h ∧ H x = true ∧ ∃ a, a < w * h ∧ N a = true ∧ nb w h sh a x = true) := by
  unfold spA spk
  rw [List.mem_cons, List.mem_filter, List.mem_range]
  simp only [Bool.and_eq_true, Bool.not_eq_true', decide_eq_false_iff_not, decide_eq_true_eq]
  constructor
  · rintro (e | ⟨a, ⟨b, d⟩, e⟩)
    · exact Or.inl e
    · exact Or.inr ⟨a, b, e⟩
  · rintro (e | ⟨a, b, d⟩)
    · exact Or.inl e
    · by_cases q : x = c
      · exact Or.inl q
      · exact Or.inr ⟨a, ⟨b, q⟩, d⟩
theorem spA_ptL {w h sh : Nat} {H N : Nat → Bool} {c : Nat} (gk : gOk w h sh) (hc : c < w * h) (hH : H c = true) : ptL (w * h) (nb w h sh) H N (spA w h sh H N c) := by
  refine ⟨spA_nodup, fun x hx => ?_, fun o x y ho hN hx hxo hy hHy hoy => ?_⟩
  · rcases spA_mem.mp hx with e | e
    · rw [e]; exact ⟨hc, hH⟩
    · exact ⟨e.1, e.2.1⟩
  · exact spA_mem.mpr (Or.inr ⟨hy, hHy, o, ho, hN, hoy⟩)
/-- all told numbers fit -/
theorem fit_all {w h sh : Nat} {M H B F N : Nat → Bool} {c : Nat} (gk : gOk w h sh) (oS : okS (w * h) M H B F) (hc : c < w * h) (hH : H c = true) (f : Nat → Bool) : fitF (w * h) (nb w h sh) M N (spA w h sh H N c) f = true ↔ ∀ o, o < w * h → N o = true → (spA w h sh H N c).countP (fun x => nb w h sh o x && f x) = nin w h sh (fun i => H i && M i) o := by
  have hA := spA_ptL (N := N) gk hc hH
  unfold fitF
  rw [decide_eq_true_eq]
  constructor
  · intro q o ho hN
    by_cases e : ∃ x, x ∈ spA w h sh H N c ∧ nb w h sh x o = true
    · rw [q o ho hN e]
      obtain ⟨x, x1, x2⟩ := e
      exact (nin_list hA ho hN x1 x2).symm
    · have hno : ∀ x, x ∈ spA w h sh H N c → nb w h sh o x = false := fun x hx => by
        cases z : nb w h sh o x
        · rfl
        · exact absurd ⟨x, hx, nb_sym1 gk ho z⟩ e
      rw [cp_false _ (fun x hx => by rw [hno x hx]; rfl)]
      symm
      unfold nin
      refine fb_ct_zero.mpr (fun k hk => ?_)
      cases z : nb w h sh o k
      · rfl
      · cases z2 : H k
        · simp [z2]
        · rw [hno k (spA_mem.mpr (Or.inr ⟨hk, z2, o, ho, hN, z⟩))] at z; cases z
  · intro q o ho hN e
    obtain ⟨x, x1, x2⟩ := e
    rw [q o ho hN]
    exact nin_list hA ho hN x1 x2
section MSp
variable {I : tg_I} {J : tg_J} {P : Option Value → tg_I → tg_J → Prop} {w h sh : Nat} {M H B F T : Nat → Bool}
theorem spokenOf_ok (gk : gOk w h sh) (hm : mst w h sh M H B F I) (hT : ∀ i, i < 101 → I 10 i = bi (T i)) {c : Nat} (hc : c < w * h) (hp : ∀ I', onlyI 16 I I' → lsI (spA w h sh H (tlN T (opS (w * h) H B)) c) I' → P (some (.int (zI (spA w h sh H (tlN T (opS (w * h) H B)) c).length))) I' J) : call pgM zX9_spokenOf [.ref 0, .int (zI c)] I J P := by
  obtain ⟨hn1, hn2⟩ := mul_le100 gk
  refine e_X9_spokenOf _ ?_
  rw [show (0 : Int32) = zI ((0 : Nat) : Int) from rfl, z_in (by omega) (by omega), z_cl (by omega)]
  refine ⟨by omega, fun I1 e1 => ?_⟩
  have key := up_loop (L := fun k => ∀ I2, onlyI 16 I I2 → lsI (c :: (List.range k).filter (spk w h sh H (tlN T (opS (w * h) H B)) c)) I2 → l_X9_spokenOf_11 I2 J P (zI c) (zI (c :: (List.range k).filter (spk w h sh H (tlN T (opS (w * h) H B)) c)).length) (zI k)) (w * h) ?_ ?_ 0 (Nat.zero_le _) I1 (fun q hq => by rw [e1, u2_other _ _ _ _ hq]) (fun k hk => by
    have : k = 0 := by simp at hk; exact hk
    rw [this, e1, u2_eq]; rfl)
  · exact key
  · intro I2 o2 l2
    exact s_X9_spokenOf_11 _ _ _ ⟨fun _ => hp I2 o2 l2, fun q => absurd (by rw [o2 0 (by decide), hm.1.2.2.2]; exact Int32.le_refl _) q⟩
  · intro b hb ih I2 o2 l2
    have m2 : mst w h sh M H B F I2 := mst_keep hm (fun q hq => o2 q (by omega))
    have hlb : (c :: (List.range b).filter (spk w h sh H (tlN T (opS (w * h) H B)) c)).length ≤ b + 1 := by
      have := List.length_filter_le (spk w h sh H (tlN T (opS (w * h) H B)) c) (List.range b)
      rw [List.length_range] at this
      rw [List.length_cons]; omega
    rw [List.range_succ, List.filter_append, List.filter_cons] at ih
    have skip : spk w h sh H (tlN T (opS (w * h) H B)) c b = false → l_X9_spokenOf_11 I2 J P (zI c) (zI (c :: (List.range b).filter (spk w h sh H (tlN T (opS (w * h) H B)) c)).length) (zI ((b + 1 : Nat) : Int)) := fun q => by
      rw [if_neg (by rw [q]; simp), List.filter_nil, List.append_nil] at ih
      exact ih I2 o2 l2
    refine s_X9_spokenOf_11 _ _ _ ?_
    rw [m2.1.2.2.2, z_le (by omega) (by omega) (by omega) (by omega)]
    refine ⟨fun q => absurd q (by omega), fun _ => ?_⟩
    have key2 := up_loop (L := fun k => ∀ r : Bool, (r = true ↔ ∃ a, a < k ∧ tlN T (opS (w * h) H B) a = true ∧ nb w h sh a b = true) → l_X9_spokenOf_25 I2 J P (zI c) (zI (c :: (List.range b).filter (spk w h sh H (tlN T (opS (w * h) H B)) c)).length) (zI b) (bi r) (zI k)) (w * h) ?_ ?_ 0 (Nat.zero_le _) false ⟨fun q => (by cases q), fun q => by obtain ⟨a, a1, -⟩ := q; exact absurd a1 (by omega)⟩
    · exact key2
    · intro r hr
      refine s_X9_spokenOf_25 _ _ _ _ _ ⟨fun _ => ?_, fun q => absurd (by rw [m2.1.2.2.2]; exact Int32.le_refl _) q⟩
      rw [bi_0, z_in (by omega) (by omega), z_cl (by omega), (m2.2.2 b (by omega)).2.1, sc_0 hb, z_eq (by omega) (by omega) (by omega) (by omega), z_s b]
      refine ⟨fun q => skip ?_, fun q => ⟨by omega, fun q2 => skip ?_, fun q2 => ⟨fun q3 => skip ?_, fun q3 => ?_⟩⟩⟩
      · unfold spk
        rw [show decide (∃ a, a < w * h ∧ tlN T (opS (w * h) H B) a = true ∧ nb w h sh a b = true) = false from decide_eq_false (fun z => by rw [hr.mpr z] at q; cases q), Bool.and_false]
      · unfold spk
        rw [show H b = false by simpa using q2]; rfl
      · rw [show b = c by omega]; exact spk_c
      · have hsp : spk w h sh H (tlN T (opS (w * h) H B)) c b = true := by
          unfold spk
          rw [q2, decide_eq_false (show ¬ b = c by omega), decide_eq_true (hr.mp (by simpa using q))]
          rfl
        rw [if_pos hsp, List.filter_nil] at ih
        have hnd : (c :: (List.range b).filter (spk w h sh H (tlN T (opS (w * h) H B)) c) ++ [b]).length ≤ w * h := by
          refine nodup_le ?_ (fun x hx => ?_)
          · have h1 := spA_nodup (w := w) (h := h) (sh := sh) (H := H) (N := tlN T (opS (w * h) H B)) (c := c)
            refine List.nodup_append.mpr ⟨?_, by simp, fun x hx y hy e => ?_⟩
            · refine List.nodup_cons.mpr ⟨fun q => ?_, List.Nodup.sublist List.filter_sublist List.nodup_range⟩
              have := (List.mem_filter.mp q).2
              rw [spk_c] at this; cases this
            · rw [List.mem_singleton.mp hy] at e
              rw [e] at hx
              rcases List.mem_cons.mp hx with z | z
              · omega
              · have := List.mem_range.mp (List.mem_filter.mp z).1
                omega
          · rcases List.mem_append.mp hx with z | z
            · rcases List.mem_cons.mp z with z | z
              · omega
              · have := List.mem_range.mp (List.mem_filter.mp z).1
                omega
            · have := List.mem_singleton.mp z
              omega
        rw [List.length_append, show [b].length = 1 from rfl] at hnd
        rw [z_in (by omega) (by omega), z_cl (by omega), z_s (c :: (List.range b).filter (spk w h sh H (tlN T (opS (w * h) H B)) c)).length]
        refine ⟨by omega, fun I3 e3 => ?_⟩
        rw [← List.cons_append, List.length_append, show [b].length = 1 from rfl] at ih
        refine ih I3 (fun q hq => by rw [e3, u2_other _ _ _ _ hq]; exact o2 q hq) (fun k hk => ?_)
        rw [getD_app1 hk, e3, u2_at]
        by_cases e : k = (c :: (List.range b).filter (spk w h sh H (tlN T (opS (w * h) H B)) c)).length
        · rw [if_pos e, if_pos e]
        · rw [if_neg e, if_neg e]
          rw [List.length_append, show [b].length = 1 from rfl] at hk
          exact l2 k (by omega)
    · intro k hk ihk r hr
      have hTk : I2 10 k = bi (T k) := by rw [o2 10 (by decide)]; exact hT k (by omega)
      have go : ∀ r' : Bool, (r' = true ↔ r = true ∨ (tlN T (opS (w * h) H B) k = true ∧ nb w h sh k b = true)) → l_X9_spokenOf_25 I2 J P (zI c) (zI (c :: (List.range b).filter (spk w h sh H (tlN T (opS (w * h) H B)) c)).length) (zI b) (bi r') (zI ((k + 1 : Nat) : Int)) := fun r' h' => ihk r' (by
        rw [h', hr]
        constructor
        · rintro (⟨a, a1, a2⟩ | a2)
          · exact ⟨a, by omega, a2⟩
          · exact ⟨k, by omega, a2⟩
        · rintro ⟨a, a1, a2⟩
          by_cases e : a = k
          · right; rw [← e]; exact a2
          · exact Or.inl ⟨a, by omega, a2⟩)
      refine s_X9_spokenOf_25 _ _ _ _ _ ?_
      rw [m2.1.2.2.2, z_le (by omega) (by omega) (by omega) (by omega), bi_0, z_in (a := (k : Int)) (by omega) (by omega), z_cl (n := k) (by omega), hTk, bi_0, z_in (a := (k : Int)) (by omega) (by omega), (m2.2.2 k (by omega)).2.1, sc_1 hk, z_s k, show (1 : Int32) = bi true from rfl, show (0 : Int32) = bi false from rfl]
      refine ⟨fun q => absurd q (by omega), fun _ => ⟨fun q => go true ⟨fun _ => Or.inl (by simpa using q), fun _ => rfl⟩, fun q => ⟨by omega, fun q2 => go false ⟨fun z => (by cases z), fun z => ?_⟩, fun q2 => ⟨by omega, fun q3 => go false ⟨fun z => (by cases z), fun z => ?_⟩, fun q3 => mnear_ok gk m2 hk hb ⟨_, rfl, ?_⟩⟩⟩⟩⟩
      · rcases z with z | z
        · rw [q] at z; exact z
        · unfold tlN at z; rw [q2] at z; cases z.1
      · rcases z with z | z
        · rw [q] at z; exact z
        · unfold tlN at z
          simp only [Bool.and_eq_true] at z
          exact absurd z.1.2 q3
      · rw [show bi false = (0 : Int32) from rfl, bi_0, show (0 : Int32) = bi false from rfl]
        refine ⟨fun q4 => go false ⟨fun z => (by cases z), fun z => ?_⟩, fun q4 => go true ⟨fun _ => Or.inr ⟨?_, by simpa using q4⟩, fun _ => rfl⟩⟩
        · rcases z with z | z
          · rw [q] at z; exact z
          · rw [z.2] at q4; cases q4
        · unfold tlN
          rw [show T k = true by simpa using q2, q3]; rfl
end MSp
