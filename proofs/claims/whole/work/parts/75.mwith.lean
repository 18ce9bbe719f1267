/-! the reference: ways, with -/
def gdH (w h sh : Nat) (H N : Nat → Bool) : Bool := gdp w h sh H N (npn w h sh H N)
def vWy (w h sh : Nat) (M H N : Nat → Bool) : Nat := flT (sT false (wW w h sh M H N) (-1) (npn w h sh H N)) (lsn w h sh H N) (mlN (w * h) M H : Nat)
def vWi (w h sh : Nat) (M H N : Nat → Bool) (a : Nat) : Nat := if bdr w h sh H N a = true then flT (cv (sT false (wW w h sh M H N) (ptn w h sh H N a : Nat) (npn w h sh H N)) (wZ w h sh M H N a)) (lsn w h sh H N) (mlN (w * h) M H : Nat) else flT (sT false (wW w h sh M H N) (-1) (npn w h sh H N)) (lsn w h sh H N - 1) ((mlN (w * h) M H : Nat) - 1)
section MY
variable {I : tg_I} {J : tg_J} {P : Option Value → tg_I → tg_J → Prop} {w h sh : Nat} {M H B F : Nat → Bool} {mv kd md : Nat} {hist : Nat → hS} {R T : Nat → Bool}
theorem relM_K {I' : tg_I} (hr : relM ((w, h, sh), (M, H, B, F), (mv, hist), (kd, R, T, md)) I) (o : ∀ q, 1 ≤ q → q ≤ 10 → I' q = I q) (o0 : ∀ x, x ≤ 16 → I' 0 x = I 0 x) : relM ((w, h, sh), (M, H, B, F), (mv, hist), (kd, R, T, md)) I' := by
  obtain ⟨r1, r2, r3, r4, r5, r6, r7⟩ := hr
  unfold mst mSz at r1
  refine ⟨?_, ?_, ?_, ?_, ?_, ?_, ?_⟩
  · unfold mst mSz
    rw [o0 0 (by decide), o0 1 (by decide), o0 2 (by decide), o0 3 (by decide), o 1 (by decide) (by decide), o 2 (by decide) (by decide), o 3 (by decide) (by decide), o 4 (by decide) (by decide)]
    exact r1
  · rw [o0 10 (by decide)]; exact r2
  · rw [o 5 (by decide) (by decide)]; exact r3
  · rw [o0 16 (by decide)]; exact r4
  · rw [o 9 (by decide) (by decide)]; exact r5
  · rw [o 10 (by decide) (by decide)]; exact r6
  · rw [o0 8 (by decide)]; exact r7
theorem mst_K {I' : tg_I} (r1 : mst w h sh M H B F I) (o : ∀ q, 1 ≤ q → q ≤ 4 → I' q = I q) (o0 : ∀ x, x ≤ 3 → I' 0 x = I 0 x) : mst w h sh M H B F I' := by
  unfold mst mSz at *
  rw [o0 0 (by decide), o0 1 (by decide), o0 2 (by decide), o0 3 (by decide), o 1 (by decide) (by decide), o 2 (by decide) (by decide), o 3 (by decide) (by decide), o 4 (by decide) (by decide)]
  exact r1
/-- what going over the parts may change -/
def kpW (I I' : tg_I) : Prop := (∀ q, q ≠ 0 → q ≠ 15 → q ≠ 16 → q ≠ 17 → I' q = I q) ∧ ∀ x, x ≠ 26 → x ≠ 27 → I' 0 x = I 0 x
/-- findParts and findWays -/
theorem partsWays (gk : gOk w h sh) (hm : mst w h sh M H B F I) (oS : okS (w * h) M H B F) (h0 : gdH w h sh H (opS (w * h) H B) = false → ∀ I', kpW I I' → P (some (.int 0)) I' J) (h1 : gdH w h sh H (opS (w * h) H B) = true → ∀ I', kpW I I' → mst w h sh M H B F I' → (∀ Q : Option Value → tg_I → tg_J → Prop, (∀ I2 J2, kpW I I2 → mst w h sh M H B F I2 → (∀ q, q ≠ 18 → q ≠ 19 → J2 q = J q) → mPW w h sh M H (opS (w * h) H B) I2 J2 → Q none I2 J2) → call pgM zX9_findWays [.ref 0] I' J Q) → P (some (.int 1)) I' J) : call pgM zX9_findParts [.ref 0] I J P := by
  refine findParts_ok gk hm oS (fun I1 k1 p1 e26 e27 => ?_)
  have m1 : mst w h sh M H B F I1 := mst_K hm (fun q a b => k1.1 q (by omega) (by omega)) (fun x hx => k1.2 x (by omega) (by omega))
  have kp1 : kpW I I1 := ⟨fun q a b _ _ => k1.1 q a b, k1.2⟩
  have hok := ptok_ok (N := opS (w * h) H B) gk (fun i hi => (oS.1 i hi).1)
  cases e : gdp w h sh H (opS (w * h) H B) (npn w h sh H (opS (w * h) H B))
  · exact h0 e I1 kp1
  · refine h1 e I1 kp1 m1 (fun Q hq => ?_)
    have hl := of_decide_eq_true e
    refine findWays_ok gk m1 oS p1 e26 hok hl (fun I2 J2 o2 oj mw => ?_)
    refine hq I2 J2 ⟨fun q a b c d => (o2 q c d).trans (k1.1 q a b), fun x a b => by rw [o2 0 (by decide) (by decide)]; exact k1.2 x a b⟩ (mst_K m1 (fun q a b => o2 q (by omega) (by omega)) (fun x hx => by rw [o2 0 (by decide) (by decide)])) oj ⟨fun a ha => by rw [o2 15 (by decide) (by decide)]; exact p1 a ha, by rw [o2 0 (by decide) (by decide)]; exact e26, by rw [o2 0 (by decide) (by decide)]; exact e27, mw.1, mw.2⟩
theorem m_ways (ho : okD ((w, h, sh), (M, H, B, F), (mv, hist), (kd, R, T, md))) (hr : relM ((w, h, sh), (M, H, B, F), (mv, hist), (kd, R, T, md)) I) (h0 : gdH w h sh H (opS (w * h) H B) = false → ∀ I' J', relM ((w, h, sh), (M, H, B, F), (mv, hist), (kd, R, T, md)) I' → P (some (.int (-3))) I' J') (h1 : gdH w h sh H (opS (w * h) H B) = true → ∀ I' J', relM ((w, h, sh), (M, H, B, F), (mv, hist), (kd, R, T, md)) I' → P (some (.int (zI (vWy w h sh M H (opS (w * h) H B) : Nat)))) I' J') : call pgM zX9_ways [.ref 0] I J P := by
  obtain ⟨gk, oS, -⟩ := ho
  have rl : ∀ I', kpW I I' → relM ((w, h, sh), (M, H, B, F), (mv, hist), (kd, R, T, md)) I' := fun I' k => relM_K hr (fun q a b => k.1 q (by omega) (by omega) (by omega) (by omega)) (fun x hx => k.2 x (by omega) (by omega))
  refine e_X9_ways (partsWays gk hr.1 oS (fun e I1 k1 => ⟨_, rfl, fun c => absurd rfl c, fun _ => h0 e I1 _ (rl I1 k1)⟩) (fun e I1 k1 m1 fw => ⟨_, rfl, fun _ => fw _ (fun I2 J2 k2 m2 oj mp => ⟨rfl, ?_⟩), fun c => absurd c ne_1_0⟩))
  obtain ⟨w1, w2, w3, w4, w5⟩ := mp
  have hnp := np_le (w := w) (h := h) (sh := sh) (H := H) (N := opS (w * h) H B) gk
  have hls := ls_le (w := w) (h := h) (sh := sh) (H := H) (N := opS (w * h) H B) gk
  have hml := ml_le (w := w) (h := h) (sh := sh) (M := M) (H := H) gk
  rw [show (-1 : Int32) = zI (-1) from rfl, show (0 : Int32) = bi false from rfl]
  refine sumParts_ok false w2 hnp (fun p m a b => ⟨w4 p m a b, wW_le e a m⟩) ⟨by omega, by omega⟩ (fun J3 o3 n3 => ⟨rfl, mineLeft_ok gk m2 oS ⟨_, rfl, ?_⟩⟩)
  rw [w3]
  exact together_ok n3 (fun s => sT_lt _ _ _ _ _) hls (by omega) (by omega) (fun J4 o4 => ⟨_, rfl, h1 e I2 J4 (rl I2 k2)⟩)
theorem cv_lt (T V : Nat → Nat) (t : Nat) : cv T V t < PP := Nat.mod_lt _ (by decide)
theorem m_with (ho : okD ((w, h, sh), (M, H, B, F), (mv, hist), (kd, R, T, md))) (hr : relM ((w, h, sh), (M, H, B, F), (mv, hist), (kd, R, T, md)) I) (x : Int32) (hm1 : ¬ inC (w * h) x → P (some (.int (-1))) I J) (hm2 : ∀ a : Nat, a < w * h → x = zI a → H a = false → P (some (.int (-2))) I J) (h0 : ∀ a : Nat, a < w * h → x = zI a → H a = true → gdH w h sh H (opS (w * h) H B) = false → ∀ I' J', relM ((w, h, sh), (M, H, B, F), (mv, hist), (kd, R, T, md)) I' → P (some (.int (-3))) I' J') (h1 : ∀ a : Nat, a < w * h → x = zI a → H a = true → gdH w h sh H (opS (w * h) H B) = true → ∀ I' J', relM ((w, h, sh), (M, H, B, F), (mv, hist), (kd, R, T, md)) I' → P (some (.int (zI (vWi w h sh M H (opS (w * h) H B) a : Nat)))) I' J') : call pgM zX9_with [.ref 0, .int x] I J P := by
  obtain ⟨gk, oS, -⟩ := ho
  obtain ⟨hn1, hn2⟩ := mul_le100 gk
  have hm := hr.1
  have rl : ∀ I', kpW I I' → relM ((w, h, sh), (M, H, B, F), (mv, hist), (kd, R, T, md)) I' := fun I' k => relM_K hr (fun q a b => k.1 q (by omega) (by omega) (by omega) (by omega)) (fun x hx => k.2 x (by omega) (by omega))
  refine e_X9_with _ (mholds hm.1.2.2.2 hn2 x (fun a ha hx => ⟨_, rfl, fun _ => ?_, fun c => absurd c ne_1_0⟩) (fun c => ⟨_, rfl, fun c2 => absurd rfl c2, fun _ => hm1 c⟩))
  rw [hx, z_in (by omega) (by omega), z_cl (by omega), (hm.2.2 a (by omega)).2.1, sc_0 ha]
  refine ⟨by omega, fun cH => ?_, fun cH => hm2 a ha hx (by simpa using cH)⟩
  refine partsWays gk hm oS (fun e I1 k1 => ⟨_, rfl, fun c => absurd rfl c, fun _ => h0 a ha hx cH e I1 _ (rl I1 k1)⟩) (fun e I1 k1 m1 fw => ⟨_, rfl, fun _ => fw _ (fun I2 J2 k2 m2 oj mp => ⟨rfl, by omega, fun x1 ex => ?_⟩), fun c => absurd c ne_1_0⟩)
  obtain ⟨w1, w2, w3, w4, w5⟩ := mp
  have hnp := np_le (w := w) (h := h) (sh := sh) (H := H) (N := opS (w * h) H B) gk
  have hls := ls_le (w := w) (h := h) (sh := sh) (H := H) (N := opS (w * h) H B) gk
  have hml := ml_le (w := w) (h := h) (sh := sh) (M := M) (H := H) gk
  have hS := bdr_lt (w := w) (h := h) (sh := sh) (N := opS (w * h) H B) (fun i hi => (oS.1 i hi).1)
  have fin := h1 a ha hx cH e
  unfold vWi at fin
  cases eb : bdr w h sh H (opS (w * h) H B) a
  · rw [mpt_f w1 ha eb, show (-1 : Int32) = zI (-1) from rfl] at ex
    rw [eb, if_neg (by simp)] at fin
    have hl1 : 0 < lsn w h sh H (opS (w * h) H B) := fb_ct_pos.mpr ⟨a, ha, by rw [cH, eb]; rfl⟩
    rw [ex, show (0 : Int32) = bi false from rfl]
    refine sumParts_ok false w2 hnp (fun p m a b => ⟨w4 p m a b, wW_le e a m⟩) ⟨by omega, by omega⟩ (fun J3 o3 n3 => ⟨rfl, fun c => absurd c (by decide), fun _ => mineLeft_ok gk m2 oS ⟨_, rfl, ?_⟩⟩)
    rw [w3, show (1 : Int32) = zI 1 from rfl, z_sub, z_sub, show ((lsn w h sh H (opS (w * h) H B) : Nat) : Int) - 1 = ((lsn w h sh H (opS (w * h) H B) - 1 : Nat) : Int) by omega]
    exact together_ok n3 (fun s => sT_lt _ _ _ _ _) (by omega) (by omega) (by omega) (fun J4 o4 => ⟨_, rfl, fin I2 J4 (rl I2 k2)⟩)
  · have hpt' : ptn w h sh H (opS (w * h) H B) a < npn w h sh H (opS (w * h) H B) := ptN_lt (ajw_sym (w := w) (h := h) (sh := sh) (N := opS (w * h) H B)) hS eb
    rw [mpt_t w1 ha eb] at ex
    rw [eb, if_pos rfl] at fin
    rw [ex, show (1 : Int32) = bi true from rfl, show (0 : Int32) = bi false from rfl]
    refine sumParts_ok false w2 hnp (fun p m a b => ⟨w4 p m a b, wW_le e a m⟩) ⟨by omega, by omega⟩ (fun J3 o3 n3 => ⟨rfl, fun _ => ?_, fun c => absurd (by rw [show bi false = zI 0 from rfl, z_le (by omega) (by omega) (by omega) (by omega)]; omega) c⟩)
    rw [show (13 : Int32) = zI 13 from rfl, z_mul, show (13 : Int) * (a : Int) = ((13 * a : Nat) : Int) by omega]
    refine addPart_ok false true (V := wZ w h sh M H (opS (w * h) H B) a) (by omega) (fun m hm => ⟨?_, ?_⟩) n3 (fun s => sT_lt _ _ _ _ _) (fun J4 o4 n4 => ⟨rfl, mineLeft_ok gk m2 oS ⟨_, rfl, ?_⟩⟩)
    · rw [if_pos rfl, o3 19 (by decide) (by decide)]; exact w5 a m ha eb hm
    · have q1 := wZ_le (w := w) (h := h) (sh := sh) (M := M) (H := H) (N := opS (w * h) H B) a m
      have q2 := wW_le (M := M) e hpt' m
      omega
    · rw [w3]
      exact together_ok n4 (fun s => cv_lt _ _ _) hls (by omega) (by omega) (fun J5 o5 => ⟨_, rfl, fin I2 J5 (rl I2 k2)⟩)
end MY
