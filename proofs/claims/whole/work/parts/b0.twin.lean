/-! one call on both sides: the class's answer is the reference's, and the desk's state goes on alike -/
theorem zn {a b : Nat} (ha : a ≤ 100000) (hb : b ≤ 100000) (h : zI (a : Int) = zI (b : Int)) : a = b := by
  have := (z_eq (a := (a : Int)) (b := (b : Int)) (by omega) (by omega) (by omega) (by omega)).mp h
  omega
theorem inC_of {n a : Nat} {x : Int32} (ha : a < n) (hn : n ≤ 100) (hx : x = zI (a : Int)) : inC n x := by
  subst hx
  unfold inC
  rw [z_toInt (by omega) (by omega)]
  omega
theorem bi_inj {a b : Bool} (h : bi a = bi b) : a = b := by
  cases a <;> cases b <;> first | rfl | (exact absurd h (by decide))
theorem ct_uniq {p : Nat → Bool} {m m' : Nat} (h1 : p m = true) (h2 : p m' = true) (h : fb_ct p m = fb_ct p m') : m = m' := by
  rcases Nat.lt_trichotomy m m' with c | c | c
  · have := fb_ct_mono p (show m + 1 ≤ m' from c)
    rw [fb_ct_succ, h1] at this
    simp at this
    omega
  · exact c
  · have := fb_ct_mono p (show m' + 1 ≤ m from c)
    rw [fb_ct_succ, h2] at this
    simp at this
    omega
/-- both sides' call -/
def tw (zX zM' : zM) (As : List Value) (S : dS) : Prop := ∀ (I : tg_I) (J : tg_J), relX S I J → call pgX zX (.ref 0 :: As) I J (fun v I' J' => ∃ (r : Int32) (S' : dS), v = some (.int r) ∧ okD S' ∧ relX S' I' J' ∧ ∀ (I2 : tg_I) (J2 : tg_J), relM S I2 → call pgM zM' (.ref 0 :: As) I2 J2 (fun v2 I3 J3 => v2 = some (.int r) ∧ relM S' I3))
section KD
variable {w h sh : Nat} {M H B F : Nat → Bool} {mv kd md : Nat} {hist : Nat → hS} {R T : Nat → Bool}
theorem okD_new (gk : gOk w h sh) (hM : ∀ i, M i = true → i < w * h) (hk : md ≤ 40) : okD ((w, h, sh), (M, fun i => decide (i < w * h), fun _ => false, fun _ => false), (0, hist), (0, fun _ => false, fun _ => false, md)) := by
  refine ⟨gk, ⟨fun i hi => ⟨decide_eq_false (by omega), rfl, ?_⟩, fun i q => (by cases q), fun i _ => rfl, fun i q => (by cases q), fun i hi q _ => ?_⟩, by omega, fun m hm => absurd hm (Nat.not_lt_zero m), by omega, fun i q => (by cases q), fun i q => (by cases q), hk⟩
  · cases e : M i
    · rfl
    · have := hM i e; omega
  · have q' : decide (i < w * h) = false := q
    rw [decide_eq_true hi] at q'
    cases q'
theorem okD_edit (ho : okD ((w, h, sh), (M, H, B, F), (mv, hist), (kd, R, T, md))) {a : Nat} (ha : a < w * h) (hH : fb_ct H (w * h) = w * h) (bv : Bool) : okD ((w, h, sh), (fun i => if i = a then bv else M i, H, B, F), (mv, hist), (kd, R, T, md)) := by
  obtain ⟨gk, oS, o3, o4, o5⟩ := ho
  have hal := fb_ct_all.mp hH
  have key : ∀ (H1 B1 F1 : Nat → Bool), (∀ i, i < w * h → H1 i = true) → okS (w * h) M H1 B1 F1 → okS (w * h) (fun i => if i = a then bv else M i) H1 B1 F1 := by
    intro H1 B1 F1 hA ⟨q1, q2, q3, q4, q5⟩
    refine ⟨fun i hi => ⟨(q1 i hi).1, (q1 i hi).2.1, ?_⟩, q2, q3, fun i hi => ?_, fun i hi c => ?_⟩
    · show (if i = a then bv else M i) = false
      rw [if_neg (by omega)]
      exact (q1 i hi).2.2
    · rcases Nat.lt_or_ge i (w * h) with z | z
      · rw [q3 i (hA i z)] at hi; cases hi
      · rw [(q1 i z).2.1] at hi; cases hi
    · rw [hA i hi] at c; cases c
  exact ⟨gk, key H B F hal oS, o3, fun m hm => ⟨key _ _ _ (fun i hi => (o4 m hm).2.1 i (hal i hi)) (o4 m hm).1, (o4 m hm).2⟩, o5⟩
theorem okD_push (ho : okD ((w, h, sh), (M, H, B, F), (mv, hist), (kd, R, T, md))) {H' B' F' : Nat → Bool} (h1 : okS (w * h) M H' B' F') (h2 : ∀ i, H' i = true → H i = true) (h3 : mv < 200) : okD ((w, h, sh), (M, H', B', F'), (mv + 1, pushH mv hist (H, B, F)), (kd, R, T, md)) := by
  obtain ⟨gk, oS, o3, o4, o5⟩ := ho
  refine ⟨gk, h1, h3, fun m hm => ?_, o5⟩
  have hp : ∀ k, k < mv → pushH mv hist (H, B, F) k = hist k := fun k hk => if_neg (by omega)
  have hq : pushH mv hist (H, B, F) mv = (H, B, F) := if_pos rfl
  by_cases c : m = mv
  · subst c
    rw [hq]
    refine ⟨oS, h2, fun m' hm' i hi => ?_⟩
    by_cases c2 : m' = m
    · subst c2; rw [hq]; exact hi
    · rw [hp m' (by omega)]
      exact (o4 m' (by omega)).2.1 i hi
  · rw [hp m (by omega)]
    obtain ⟨q1, q2, q3⟩ := o4 m (by omega)
    refine ⟨q1, fun i hi => q2 i (h2 i hi), fun m' hm' i hi => ?_⟩
    rw [hp m' (by omega)]
    exact q3 m' hm' i hi
theorem okD_undo {m : Nat} (ho : okD ((w, h, sh), (M, H, B, F), (m + 1, hist), (kd, R, T, md))) : okD ((w, h, sh), (M, hist m), (m, hist), (kd, R, T, md)) := by
  obtain ⟨gk, oS, o3, o4, o5⟩ := ho
  refine ⟨gk, (o4 m (by omega)).1, by omega, fun k hk => ⟨(o4 k (by omega)).1, fun i hi => (o4 m (by omega)).2.2 k (by omega) i hi, (o4 k (by omega)).2.2⟩, o5⟩
theorem okD_h (ho : okD ((w, h, sh), (M, H, B, F), (mv, hist), (kd, R, T, md))) {kd' : Nat} {R' : Nat → Bool} (h1 : kd' ≤ 3) (h2 : ∀ i, R' i = true → i ≤ 100) : okD ((w, h, sh), (M, H, B, F), (mv, hist), (kd', R', T, md)) := by
  obtain ⟨gk, oS, o3, o4, o5, o6, o7, o8⟩ := ho
  exact ⟨gk, oS, o3, o4, h1, h2, o7, o8⟩
theorem okD_t (ho : okD ((w, h, sh), (M, H, B, F), (mv, hist), (kd, R, T, md))) {T' : Nat → Bool} (h2 : ∀ i, T' i = true → i ≤ 100) : okD ((w, h, sh), (M, H, B, F), (mv, hist), (kd, R, T', md)) := by
  obtain ⟨gk, oS, o3, o4, o5, o6, o7, o8⟩ := ho
  exact ⟨gk, oS, o3, o4, o5, o6, h2, o8⟩
theorem okD_m (ho : okD ((w, h, sh), (M, H, B, F), (mv, hist), (kd, R, T, md))) {md' : Nat} (h2 : md' ≤ 40) : okD ((w, h, sh), (M, H, B, F), (mv, hist), (kd, R, T, md')) := by
  obtain ⟨gk, oS, o3, o4, o5, o6, o7, o8⟩ := ho
  exact ⟨gk, oS, o3, o4, o5, o6, o7, h2⟩
end KD
section TW
variable {S : dS}
theorem tw_blank (ho : okD S) (x y z : Int32) : tw zX8_blank zX9_blank [.int x, .int y, .int z] S := by
  obtain ⟨⟨w, h, sh⟩, ⟨M, H, B, F⟩, ⟨mv, hist⟩, ⟨kd, R, T, md⟩⟩ := S
  intro I J hr
  refine x_blank ho hr x y z (fun c => ⟨_, _, rfl, ho, hr, fun I2 J2 h2 => ?_⟩) (fun w' h' sh' g e1 e2 e3 I' J' hr' => ⟨_, _, rfl, ?_, hr', fun I2 J2 h2 => ?_⟩)
  · exact m_blank ho h2 x y z (fun _ => ⟨rfl, h2⟩) (fun w' h' sh' g e1 e2 e3 => absurd ⟨w', h', sh', g, e1, e2, e3⟩ c)
  · exact okD_new g (fun i q => by cases q) ho.2.2.2.2.2.2.2
  · refine m_blank ho h2 x y z (fun c => absurd ⟨w', h', sh', g, e1, e2, e3⟩ c) (fun w2 h2 sh2 g2 f1 f2 f3 I3 h3 => ?_)
    obtain ⟨a1, a2, a3, a4, a5, -⟩ := id g
    obtain ⟨b1, b2, b3, b4, b5, -⟩ := id g2
    have k1 := zn (by omega) (by omega) (e1.symm.trans f1)
    have k2 := zn (by omega) (by omega) (e2.symm.trans f2)
    have k3 := zn (by omega) (by omega) (e3.symm.trans f3)
    subst k1; subst k2; subst k3
    exact ⟨rfl, h3⟩
theorem tw_edit (ho : okD S) (x : Int32) (bv : Bool) : tw zX8_edit zX9_edit [.int x, .int (bi bv)] S := by
  obtain ⟨⟨w, h, sh⟩, ⟨M, H, B, F⟩, ⟨mv, hist⟩, ⟨kd, R, T, md⟩⟩ := S
  have hn := (mul_le100 ho.1).2
  intro I J hr
  refine x_edit ho hr x bv (fun c => ⟨_, _, rfl, ho, hr, fun I2 J2 h2 => ?_⟩) (fun a ha hx c => ⟨_, _, rfl, ho, hr, fun I2 J2 h2 => ?_⟩) (fun a ha hx c1 c2 J' hr' => ⟨_, _, rfl, okD_edit ho ha c1 bv, hr', fun I2 J2 h2 => ?_⟩)
  · exact m_edit ho h2 x bv (fun _ => ⟨rfl, h2⟩) (fun a ha hx => absurd (inC_of ha hn hx) c) (fun a ha hx => absurd (inC_of ha hn hx) c)
  · refine m_edit ho h2 x bv (fun c2 => absurd (inC_of ha hn hx) c2) (fun a' ha' hx' c' => ⟨rfl, h2⟩) (fun a' ha' hx' c1 c2 => ?_)
    have k := zn (by omega) (by omega) (hx.symm.trans hx')
    subst k
    rcases c with c | c
    · omega
    · exact absurd c c2
  · refine m_edit ho h2 x bv (fun c2 => absurd (inC_of ha hn hx) c2) (fun a' ha' hx' c' => ?_) (fun a' ha' hx' c1 c2 I3 h3 => ?_)
    · have k := zn (by omega) (by omega) (hx.symm.trans hx')
      subst k
      rcases c' with c | c
      · omega
      · exact absurd c c2
    · have k := zn (by omega) (by omega) (hx.symm.trans hx')
      subst k
      exact ⟨rfl, h3⟩
theorem tw_make (ho : okD S) (x1 x2 x3 x4 x5 x6 : Int32) : tw zX8_make zX9_make [.int x1, .int x2, .int x3, .int x4, .int x5, .int x6] S := by
  obtain ⟨⟨w, h, sh⟩, ⟨M, H, B, F⟩, ⟨mv, hist⟩, ⟨kd, R, T, md⟩⟩ := S
  have key : ∀ {w1 h1 sh1 m1 g1 w2 h2 sh2 m2 g2 : Nat}, mkOk x1 x2 x3 x4 x6 w1 h1 sh1 m1 g1 → mkOk x1 x2 x3 x4 x6 w2 h2 sh2 m2 g2 → w1 = w2 ∧ h1 = h2 ∧ sh1 = sh2 ∧ m1 = m2 ∧ g1 = g2 := by
    intro w1 h1 sh1 m1 g1 w2 h2 sh2 m2 g2 p q
    obtain ⟨gk, p1, p2, p3, p4, p5, p6, p7, p8⟩ := p
    obtain ⟨gk', q1, q2, q3, q4, q5, q6, q7, q8⟩ := q
    have n1 := (mul_le100 gk).2
    have n2 := (mul_le100 gk').2
    have l1 := fb_ct_le (cbm w1 h1 sh1 (fcl w1 h1)) (w1 * h1)
    have l2 := fb_ct_le (cbm w2 h2 sh2 (fcl w2 h2)) (w2 * h2)
    obtain ⟨a1, a2, a3, a4, a5, -⟩ := gk
    obtain ⟨b1, b2, b3, b4, b5, -⟩ := gk'
    exact ⟨zn (by omega) (by omega) (p1.symm.trans q1), zn (by omega) (by omega) (p2.symm.trans q2), zn (by omega) (by omega) (p3.symm.trans q3), zn (by omega) (by omega) (p4.symm.trans q4), zn (by omega) (by omega) (p8.symm.trans q8)⟩
  intro I J hr
  refine x_make ho hr x1 x2 x3 x4 x5 x6 (fun c I' J' hr' => ⟨_, _, rfl, ho, hr', fun I2 J2 h2 => ?_⟩) (fun w' h' sh' mm g f' k' p t k40 I' J' hr' => ⟨_, _, rfl, okD_m ho k40, hr', fun I2 J2 h2 => ?_⟩) (fun w' h' sh' mm g f' k' M' p t hM k40 I' J' hr' => ⟨_, _, rfl, okD_new p.1 hM k40, hr', fun I2 J2 h2 => ?_⟩)
  · exact m_make ho h2 x1 x2 x3 x4 x5 x6 (fun _ I3 J3 h3 => ⟨rfl, h3⟩) (fun w' h' sh' mm g _ _ p => absurd p (c w' h' sh' mm g)) (fun w' h' sh' mm g _ _ _ p => absurd p (c w' h' sh' mm g))
  · refine m_make ho h2 x1 x2 x3 x4 x5 x6 (fun c => absurd p (c w' h' sh' mm g)) (fun w2 h2' sh2 mm2 g2 f2 k2 p2 t2 _ I3 J3 h3 => ?_) (fun w2 h2' sh2 mm2 g2 f2 k2 M2 p2 t2 _ _ I3 J3 h3 => ?_)
    · obtain ⟨rfl, rfl, rfl, rfl, rfl⟩ := key p p2
      have e := tcR_det _ _ _ _ _ _ t t2
      injection e with _ e
      subst e
      exact ⟨rfl, h3⟩
    · obtain ⟨rfl, rfl, rfl, rfl, rfl⟩ := key p p2
      have e := tcR_det _ _ _ _ _ _ t t2
      injection e with e _
      cases e
  · refine m_make ho h2 x1 x2 x3 x4 x5 x6 (fun c => absurd p (c w' h' sh' mm g)) (fun w2 h2' sh2 mm2 g2 f2 k2 p2 t2 _ I3 J3 h3 => ?_) (fun w2 h2' sh2 mm2 g2 f2 k2 M2 p2 t2 _ _ I3 J3 h3 => ?_)
    · obtain ⟨rfl, rfl, rfl, rfl, rfl⟩ := key p p2
      have e := tcR_det _ _ _ _ _ _ t t2
      injection e with e _
      cases e
    · obtain ⟨rfl, rfl, rfl, rfl, rfl⟩ := key p p2
      have e := tcR_det _ _ _ _ _ _ t t2
      injection e with e1 e2
      injection e1 with e1
      subst e1
      subst e2
      exact ⟨rfl, h3⟩
theorem tw_mended (ho : okD S) : tw zX8_mended zX9_mended [] S := by
  obtain ⟨⟨w, h, sh⟩, ⟨M, H, B, F⟩, ⟨mv, hist⟩, ⟨kd, R, T, md⟩⟩ := S
  exact fun I J hr => x_mended hr ⟨_, _, rfl, ho, hr, fun I2 J2 h2 => m_mended h2 ⟨rfl, h2⟩⟩
theorem tw_count (ho : okD S) (x : Int32) : tw zX8_count zX9_count [.int x] S := by
  obtain ⟨⟨w, h, sh⟩, ⟨M, H, B, F⟩, ⟨mv, hist⟩, ⟨kd, R, T, md⟩⟩ := S
  exact fun I J hr => x_count ho hr x ⟨_, _, rfl, ho, hr, fun I2 J2 h2 => m_count ho h2 x ⟨rfl, h2⟩⟩
theorem tw_neighbour (ho : okD S) (x y : Int32) : tw zX8_neighbour zX9_neighbour [.int x, .int y] S := by
  obtain ⟨⟨w, h, sh⟩, ⟨M, H, B, F⟩, ⟨mv, hist⟩, ⟨kd, R, T, md⟩⟩ := S
  have hn := (mul_le100 ho.1).2
  intro I J hr
  refine x_neighbour ho hr x y (fun a m ha hx hm hb hc => ⟨_, _, rfl, ho, hr, fun I2 J2 h2 => ?_⟩) (fun c => ⟨_, _, rfl, ho, hr, fun I2 J2 h2 => ?_⟩)
  · refine m_neighbour ho h2 x y (fun a' m' ha' hx' hm' hb' hc' => ?_) (fun c => absurd hc (c a m ha hx hm hb))
    have k := zn (by omega) (by omega) (hx.symm.trans hx')
    subst k
    have k := ct_uniq hb hb' (by omega)
    subst k
    exact ⟨rfl, h2⟩
  · exact m_neighbour ho h2 x y (fun a m ha hx hm hb hc => absurd hc (c a m ha hx hm hb)) (fun _ => ⟨rfl, h2⟩)
theorem tw_mined (ho : okD S) (x : Int32) : tw zX8_mined zX9_mined [.int x] S := by
  obtain ⟨⟨w, h, sh⟩, ⟨M, H, B, F⟩, ⟨mv, hist⟩, ⟨kd, R, T, md⟩⟩ := S
  have hn := (mul_le100 ho.1).2
  intro I J hr
  refine x_mined ho hr x (fun a ha hx => ⟨_, _, rfl, ho, hr, fun I2 J2 h2 => ?_⟩) (fun c => ⟨_, _, rfl, ho, hr, fun I2 J2 h2 => ?_⟩)
  · refine m_mined ho h2 x (fun a' ha' hx' => ?_) (fun c => absurd (inC_of ha hn hx) c)
    have k := zn (by omega) (by omega) (hx.symm.trans hx')
    subst k
    exact ⟨rfl, h2⟩
  · exact m_mined ho h2 x (fun a ha hx => absurd (inC_of ha hn hx) c) (fun _ => ⟨rfl, h2⟩)
theorem tw_open (ho : okD S) (x : Int32) : tw zX8_open zX9_open [.int x] S := by
  obtain ⟨⟨w, h, sh⟩, ⟨M, H, B, F⟩, ⟨mv, hist⟩, ⟨kd, R, T, md⟩⟩ := S
  have hn := (mul_le100 ho.1).2
  intro I J hr
  refine x_open ho hr x (fun c => ⟨_, _, rfl, ho, hr, fun I2 J2 h2 => ?_⟩) (fun a ha hx c => ⟨_, _, rfl, ho, hr, fun I2 J2 h2 => ?_⟩) (fun a ha hx c1 c2 c3 => ⟨_, _, rfl, ho, hr, fun I2 J2 h2 => ?_⟩) (fun a ha hx c1 c2 c3 I' J' hr' => ⟨_, _, rfl, okD_push ho (okS_unc ha c1 ho.2.1) (fun i hi => (uncH_sub hi).1) c3, hr', fun I2 J2 h2 => ?_⟩)
  · exact m_open ho h2 x (fun _ => ⟨rfl, h2⟩) (fun a ha hx => absurd (inC_of ha hn hx) c) (fun a ha hx => absurd (inC_of ha hn hx) c) (fun a ha hx => absurd (inC_of ha hn hx) c)
  all_goals refine m_open ho h2 x (fun c => absurd (inC_of ha hn hx) c) (fun a' ha' hx' d => ?_) (fun a' ha' hx' d1 d2 d3 => ?_) (fun a' ha' hx' d1 d2 d3 I3 h3 => ?_) <;> (have k := zn (by omega) (by omega) (hx.symm.trans hx')) <;> subst k
  · exact ⟨rfl, h2⟩
  · simp_all
  · simp_all
  · simp_all
  · exact ⟨rfl, h2⟩
  · omega
  · simp_all
  · omega
  · exact ⟨rfl, h3⟩
theorem tw_flag (ho : okD S) (x : Int32) : tw zX8_flag zX9_flag [.int x] S := by
  obtain ⟨⟨w, h, sh⟩, ⟨M, H, B, F⟩, ⟨mv, hist⟩, ⟨kd, R, T, md⟩⟩ := S
  have hn := (mul_le100 ho.1).2
  intro I J hr
  refine x_flag ho hr x (fun c => ⟨_, _, rfl, ho, hr, fun I2 J2 h2 => ?_⟩) (fun a ha hx c => ⟨_, _, rfl, ho, hr, fun I2 J2 h2 => ?_⟩) (fun a ha hx c1 c3 => ⟨_, _, rfl, ho, hr, fun I2 J2 h2 => ?_⟩) (fun a ha hx c1 c3 I' J' hr' => ⟨_, _, rfl, okD_push ho ?_ (fun i hi => hi) c3, hr', fun I2 J2 h2 => ?_⟩)
  · exact m_flag ho h2 x (fun _ => ⟨rfl, h2⟩) (fun a ha hx => absurd (inC_of ha hn hx) c) (fun a ha hx => absurd (inC_of ha hn hx) c) (fun a ha hx => absurd (inC_of ha hn hx) c)
  rotate_left 2
  · obtain ⟨o1, o2, o3, o4, o5⟩ := ho.2.1
    refine ⟨o1, fun i hi => ?_, o3, o4, o5⟩
    by_cases e : i = a
    · subst e; exact c1
    · exact o2 i (by simpa [e] using hi)
  all_goals refine m_flag ho h2 x (fun c => absurd (inC_of ha hn hx) c) (fun a' ha' hx' d => ?_) (fun a' ha' hx' d1 d3 => ?_) (fun a' ha' hx' d1 d3 I3 h3 => ?_) <;> (have k := zn (by omega) (by omega) (hx.symm.trans hx')) <;> subst k
  all_goals first | exact ⟨rfl, h2⟩ | exact ⟨rfl, h3⟩ | omega | simp_all
theorem tw_chord (ho : okD S) (x : Int32) : tw zX8_chord zX9_chord [.int x] S := by
  obtain ⟨⟨w, h, sh⟩, ⟨M, H, B, F⟩, ⟨mv, hist⟩, ⟨kd, R, T, md⟩⟩ := S
  have hn := (mul_le100 ho.1).2
  intro I J hr
  refine x_chord ho hr x (fun c => ⟨_, _, rfl, ho, hr, fun I2 J2 h2 => ?_⟩) (fun a ha hx c => ⟨_, _, rfl, ho, hr, fun I2 J2 h2 => ?_⟩) (fun a ha hx c1 c2 c3 => ⟨_, _, rfl, ho, hr, fun I2 J2 h2 => ?_⟩) (fun a ha hx c1 c2 c3 I' J' hr' => ⟨_, _, rfl, okD_push ho (okS_ch ho.2.1 _ (Nat.le_refl _)) (fun i hi => ((ch_sub ho.2.1.2.1) _ i).1 hi) c3, hr', fun I2 J2 h2 => ?_⟩)
  · exact m_chord ho h2 x (fun _ => ⟨rfl, h2⟩) (fun a ha hx => absurd (inC_of ha hn hx) c) (fun a ha hx => absurd (inC_of ha hn hx) c) (fun a ha hx => absurd (inC_of ha hn hx) c)
  all_goals refine m_chord ho h2 x (fun c => absurd (inC_of ha hn hx) c) (fun a' ha' hx' d => ?_) (fun a' ha' hx' d1 d2 d3 => ?_) (fun a' ha' hx' d1 d2 d3 I3 h3 => ?_) <;> (have k := zn (by omega) (by omega) (hx.symm.trans hx')) <;> subst k
  · exact ⟨rfl, h2⟩
  · exact absurd ⟨d1, d2⟩ c
  · exact absurd ⟨d1, d2⟩ c
  · exact absurd ⟨c1, c2⟩ d
  · exact ⟨rfl, h2⟩
  · omega
  · exact absurd ⟨c1, c2⟩ d
  · omega
  · exact ⟨rfl, h3⟩
theorem tw_undo (ho : okD S) : tw zX8_undo zX9_undo [] S := by
  obtain ⟨⟨w, h, sh⟩, ⟨M, H, B, F⟩, ⟨mv, hist⟩, ⟨kd, R, T, md⟩⟩ := S
  intro I J hr
  refine x_undo ho hr (fun c => ⟨_, _, rfl, ho, hr, fun I2 J2 h2 => ?_⟩) (fun m hm I' J' hr' => ⟨_, _, rfl, ?_, hr', fun I2 J2 h2 => ?_⟩)
  · exact m_undo ho h2 (fun _ => ⟨rfl, h2⟩) (fun m hm => by omega)
  · subst hm; exact okD_undo ho
  · refine m_undo ho h2 (fun c => by omega) (fun m' hm' I3 h3 => ?_)
    have k : m' = m := by omega
    subst k
    exact ⟨rfl, h3⟩
theorem tw_shown (ho : okD S) (x : Int32) : tw zX8_shown zX9_shown [.int x] S := by
  obtain ⟨⟨w, h, sh⟩, ⟨M, H, B, F⟩, ⟨mv, hist⟩, ⟨kd, R, T, md⟩⟩ := S
  have hn := (mul_le100 ho.1).2
  intro I J hr
  refine x_shown ho hr x (fun a ha hx => ⟨_, _, rfl, ho, hr, fun I2 J2 h2 => ?_⟩) (fun c => ⟨_, _, rfl, ho, hr, fun I2 J2 h2 => ?_⟩)
  · refine m_shown ho h2 x (fun a' ha' hx' => ?_) (fun c => absurd (inC_of ha hn hx) c)
    have k := zn (by omega) (by omega) (hx.symm.trans hx')
    subst k
    exact ⟨rfl, h2⟩
  · exact m_shown ho h2 x (fun a ha hx => absurd (inC_of ha hn hx) c) (fun _ => ⟨rfl, h2⟩)
theorem tw_solved (ho : okD S) : tw zX8_solved zX9_solved [] S := by
  obtain ⟨⟨w, h, sh⟩, ⟨M, H, B, F⟩, ⟨mv, hist⟩, ⟨kd, R, T, md⟩⟩ := S
  intro I J hr
  refine x_solved ho hr (fun r c => ⟨_, _, rfl, ho, hr, fun I2 J2 h2 => ?_⟩)
  refine m_solved ho h2 (fun r' c' => ?_)
  have e : r' = r := Bool.eq_iff_iff.mpr (c'.trans c.symm)
  subst e
  exact ⟨rfl, h2⟩
theorem tw_clicks (ho : okD S) : tw zX8_clicks zX9_clicks [] S := by
  obtain ⟨⟨w, h, sh⟩, ⟨M, H, B, F⟩, ⟨mv, hist⟩, ⟨kd, R, T, md⟩⟩ := S
  exact fun I J hr => x_clicks ho hr (fun I' J' hr' => ⟨_, _, rfl, ho, hr', fun I2 J2 h2 => m_clicks ho h2 (fun I3 h3 => ⟨rfl, h3⟩)⟩)
theorem tw_hint (ho : okD S) (x : Int32) : tw zX8_hint zX9_hint [.int x] S := by
  obtain ⟨⟨w, h, sh⟩, ⟨M, H, B, F⟩, ⟨mv, hist⟩, ⟨kd, R, T, md⟩⟩ := S
  intro I J hr
  refine x_hint ho hr x (fun c => ⟨_, _, rfl, ho, hr, fun I2 J2 h2 => ?_⟩) (fun g g1 g3 hx hh I' J' hr' => ⟨_, _, rfl, okD_h ho (by omega) (fun i q => by cases q), hr', fun I2 J2 h2 => ?_⟩) (fun g kd' c v W g1 g3 hx hh hc hkd hW I' J' hr' => ⟨_, _, rfl, okD_h ho hkd hW, hr', fun I2 J2 h2 => ?_⟩)
  · exact m_hint ho h2 x (fun _ => ⟨rfl, h2⟩) (fun g g1 g3 hx => absurd hx (c g g1 g3)) (fun g _ _ _ _ g1 g3 hx => absurd hx (c g g1 g3))
  · refine m_hint ho h2 x (fun c => absurd hx (c g g1 g3)) (fun g' g1' g3' hx' hh' I3 J3 h3 => ⟨rfl, h3⟩) (fun g' kd2 c2 v2 W2 g1' g3' hx' hh' hc' hkd' hW' I3 J3 h3 => ?_)
    have k := zn (by omega) (by omega) (hx.symm.trans hx')
    subst k
    cases hR_det _ _ _ _ _ _ hh hh'
  · refine m_hint ho h2 x (fun c => absurd hx (c g g1 g3)) (fun g' g1' g3' hx' hh' I3 J3 h3 => ?_) (fun g' kd2 c2 v2 W2 g1' g3' hx' hh' hc' hkd' hW' I3 J3 h3 => ?_)
    · have k := zn (by omega) (by omega) (hx.symm.trans hx')
      subst k
      cases hR_det _ _ _ _ _ _ hh hh'
    · have k := zn (by omega) (by omega) (hx.symm.trans hx')
      subst k
      cases hR_det _ _ _ _ _ _ hh hh'
      exact ⟨rfl, h3⟩
theorem tw_kind (ho : okD S) : tw zX8_kind zX9_kind [] S := by
  obtain ⟨⟨w, h, sh⟩, ⟨M, H, B, F⟩, ⟨mv, hist⟩, ⟨kd, R, T, md⟩⟩ := S
  exact fun I J hr => x_kind hr ⟨_, _, rfl, ho, hr, fun I2 J2 h2 => m_kind h2 ⟨rfl, h2⟩⟩
theorem tw_reason (ho : okD S) (x : Int32) : tw zX8_reason zX9_reason [.int x] S := by
  obtain ⟨⟨w, h, sh⟩, ⟨M, H, B, F⟩, ⟨mv, hist⟩, ⟨kd, R, T, md⟩⟩ := S
  intro I J hr
  refine x_reason hr x (fun m hm hb hc => ⟨_, _, rfl, ho, hr, fun I2 J2 h2 => ?_⟩) (fun c => ⟨_, _, rfl, ho, hr, fun I2 J2 h2 => ?_⟩)
  · refine m_reason h2 x (fun m' hm' hb' hc' => ?_) (fun c => absurd hc (c m hm hb))
    have k := ct_uniq hb hb' (by omega)
    subst k
    exact ⟨rfl, h2⟩
  · exact m_reason h2 x (fun m hm hb hc => absurd hc (c m hm hb)) (fun _ => ⟨rfl, h2⟩)
theorem tw_total (ho : okD S) : tw zX8_total zX9_total [] S := by
  obtain ⟨⟨w, h, sh⟩, ⟨M, H, B, F⟩, ⟨mv, hist⟩, ⟨kd, R, T, md⟩⟩ := S
  exact fun I J hr => x_total hr ⟨_, _, rfl, ho, hr, fun I2 J2 h2 => m_total h2 ⟨rfl, h2⟩⟩
theorem tw_take (ho : okD S) : tw zX8_take zX9_take [] S := by
  obtain ⟨⟨w, h, sh⟩, ⟨M, H, B, F⟩, ⟨mv, hist⟩, ⟨kd, R, T, md⟩⟩ := S
  exact fun I J hr => x_take ho hr (fun J' hr' => ⟨_, _, rfl, okD_t ho ho.2.2.2.2.2.1, hr', fun I2 J2 h2 => m_take h2 (fun I3 h3 => ⟨rfl, h3⟩)⟩)
theorem tw_tell (ho : okD S) (x : Int32) (bv : Bool) : tw zX8_tell zX9_tell [.int x, .int (bi bv)] S := by
  obtain ⟨⟨w, h, sh⟩, ⟨M, H, B, F⟩, ⟨mv, hist⟩, ⟨kd, R, T, md⟩⟩ := S
  have hn := (mul_le100 ho.1).2
  intro I J hr
  refine x_tell ho hr x bv (fun c => ⟨_, _, rfl, ho, hr, fun I2 J2 h2 => ?_⟩) (fun a ha hx J' hr' => ⟨_, _, rfl, okD_t ho (fun i hi => ?_), hr', fun I2 J2 h2 => ?_⟩)
  · exact m_tell ho h2 x bv (fun _ => ⟨rfl, h2⟩) (fun a ha hx => absurd (inC_of ha hn hx) c)
  · by_cases e : i = a
    · omega
    · exact ho.2.2.2.2.2.2.1 i (by simpa [e] using hi)
  · refine m_tell ho h2 x bv (fun c => absurd (inC_of ha hn hx) c) (fun a' ha' hx' I3 h3 => ?_)
    have k := zn (by omega) (by omega) (hx.symm.trans hx')
    subst k
    exact ⟨rfl, h3⟩
theorem tw_name (ho : okD S) (bv : Bool) : tw zX8_name zX9_name [.int (bi bv)] S := by
  obtain ⟨⟨w, h, sh⟩, ⟨M, H, B, F⟩, ⟨mv, hist⟩, ⟨kd, R, T, md⟩⟩ := S
  refine fun I J hr => x_name hr bv (fun J' hr' => ⟨_, _, rfl, okD_t ho (fun i hi => ?_), hr', fun I2 J2 h2 => m_name h2 bv (fun I3 h3 => ⟨rfl, h3⟩)⟩)
  by_cases e : i = 100
  · omega
  · exact ho.2.2.2.2.2.2.1 i (by simpa [e] using hi)
theorem tw_check (ho : okD S) (x y : Int32) : tw zX8_check zX9_check [.int x, .int y] S := by
  obtain ⟨⟨w, h, sh⟩, ⟨M, H, B, F⟩, ⟨mv, hist⟩, ⟨kd, R, T, md⟩⟩ := S
  have hn := (mul_le100 ho.1).2
  have nope : ∀ {a : Nat}, a < w * h → x = zI a → is01 y → (¬ inC (w * h) x ∨ ¬ is01 y) → False := by
    intro a ha hx h01 c
    rcases c with c | c
    · exact c (inC_of ha hn hx)
    · exact c h01
  intro I J hr
  refine x_check ho hr x y (fun c => ⟨_, _, rfl, ho, hr, fun I2 J2 h2 => ?_⟩) (fun a ha hx h01 hH => ⟨_, _, rfl, ho, hr, fun I2 J2 h2 => ?_⟩) (fun a ha hx h01 hH hl I' J' hr' => ⟨_, _, rfl, ho, hr', fun I2 J2 h2 => ?_⟩) (fun a v ha hx hy hH hl hk I' J' hr' => ⟨_, _, rfl, ho, hr', fun I2 J2 h2 => ?_⟩) (fun a v ha hx hy hH hl hk I' J' hr' => ⟨_, _, rfl, ho, hr', fun I2 J2 h2 => ?_⟩)
  · exact m_check ho h2 x y (fun _ => ⟨rfl, h2⟩) (fun a ha hx h01 => (nope ha hx h01 c).elim) (fun a ha hx h01 => (nope ha hx h01 c).elim) (fun a v ha hx hy => (nope ha hx (hy ▸ bi01 v) c).elim) (fun a v ha hx hy => (nope ha hx (hy ▸ bi01 v) c).elim)
  · refine m_check ho h2 x y (fun c => (nope ha hx h01 c).elim) (fun a' ha' hx' h01' hH' => ⟨rfl, h2⟩) (fun a' ha' hx' h01' hH' => ?_) (fun a' v' ha' hx' hy' hH' => ?_) (fun a' v' ha' hx' hy' hH' => ?_) <;> (have k := zn (by omega) (by omega) (hx.symm.trans hx')) <;> subst k <;> (rw [hH] at hH'; cases hH')
  · refine m_check ho h2 x y (fun c => (nope ha hx h01 c).elim) (fun a' ha' hx' h01' hH' => ?_) (fun a' ha' hx' h01' hH' hl' I3 J3 h3 => ⟨rfl, h3⟩) (fun a' v' ha' hx' hy' hH' hl' => ?_) (fun a' v' ha' hx' hy' hH' hl' => ?_) <;> (have k := zn (by omega) (by omega) (hx.symm.trans hx')) <;> subst k
    · rw [hH] at hH'; cases hH'
    · omega
    · omega
  · refine m_check ho h2 x y (fun c => (nope ha hx (hy ▸ bi01 v) c).elim) (fun a' ha' hx' h01' hH' => ?_) (fun a' ha' hx' h01' hH' hl' => ?_) (fun a' v' ha' hx' hy' hH' hl' hk' I3 J3 h3 => ⟨rfl, h3⟩) (fun a' v' ha' hx' hy' hH' hl' hk' => ?_) <;> (have k := zn (by omega) (by omega) (hx.symm.trans hx')) <;> subst k
    · rw [hH] at hH'; cases hH'
    · omega
    · have k := bi_inj (hy.symm.trans hy')
      subst k
      exact absurd hk' hk
  · refine m_check ho h2 x y (fun c => (nope ha hx (hy ▸ bi01 v) c).elim) (fun a' ha' hx' h01' hH' => ?_) (fun a' ha' hx' h01' hH' hl' => ?_) (fun a' v' ha' hx' hy' hH' hl' hk' => ?_) (fun a' v' ha' hx' hy' hH' hl' hk' I3 J3 h3 => ⟨rfl, h3⟩) <;> (have k := zn (by omega) (by omega) (hx.symm.trans hx')) <;> subst k
    · rw [hH] at hH'; cases hH'
    · omega
    · have k := bi_inj (hy.symm.trans hy')
      subst k
      exact absurd hk hk'
theorem tw_ways (ho : okD S) : tw zX8_ways zX9_ways [] S := by
  obtain ⟨⟨w, h, sh⟩, ⟨M, H, B, F⟩, ⟨mv, hist⟩, ⟨kd, R, T, md⟩⟩ := S
  intro I J hr
  refine x_ways ho hr (fun c I' J' hr' => ⟨_, _, rfl, ho, hr', fun I2 J2 h2 => m_ways ho h2 (fun _ I3 J3 h3 => ⟨rfl, h3⟩) (fun c' => ?_)⟩) (fun c I' J' hr' => ⟨_, _, rfl, ho, hr', fun I2 J2 h2 => m_ways ho h2 (fun c' => ?_) (fun _ I3 J3 h3 => ⟨rfl, h3⟩)⟩)
  · rw [c] at c'; cases c'
  · rw [c] at c'; cases c'
theorem tw_with (ho : okD S) (x : Int32) : tw zX8_with zX9_with [.int x] S := by
  obtain ⟨⟨w, h, sh⟩, ⟨M, H, B, F⟩, ⟨mv, hist⟩, ⟨kd, R, T, md⟩⟩ := S
  have hn := (mul_le100 ho.1).2
  intro I J hr
  refine x_with ho hr x (fun c => ⟨_, _, rfl, ho, hr, fun I2 J2 h2 => ?_⟩) (fun a ha hx hH => ⟨_, _, rfl, ho, hr, fun I2 J2 h2 => ?_⟩) (fun a ha hx hH c I' J' hr' => ⟨_, _, rfl, ho, hr', fun I2 J2 h2 => ?_⟩) (fun a ha hx hH c I' J' hr' => ⟨_, _, rfl, ho, hr', fun I2 J2 h2 => ?_⟩)
  · exact m_with ho h2 x (fun _ => ⟨rfl, h2⟩) (fun a ha hx => absurd (inC_of ha hn hx) c) (fun a ha hx => absurd (inC_of ha hn hx) c) (fun a ha hx => absurd (inC_of ha hn hx) c)
  · refine m_with ho h2 x (fun c => absurd (inC_of ha hn hx) c) (fun a' ha' hx' hH' => ⟨rfl, h2⟩) (fun a' ha' hx' hH' => ?_) (fun a' ha' hx' hH' => ?_) <;> (have k := zn (by omega) (by omega) (hx.symm.trans hx')) <;> subst k <;> (rw [hH] at hH'; cases hH')
  · refine m_with ho h2 x (fun c => absurd (inC_of ha hn hx) c) (fun a' ha' hx' hH' => ?_) (fun a' ha' hx' hH' c' I3 J3 h3 => ⟨rfl, h3⟩) (fun a' ha' hx' hH' c' => ?_) <;> (have k := zn (by omega) (by omega) (hx.symm.trans hx')) <;> subst k
    · rw [hH] at hH'; cases hH'
    · rw [c] at c'; cases c'
  · refine m_with ho h2 x (fun c => absurd (inC_of ha hn hx) c) (fun a' ha' hx' hH' => ?_) (fun a' ha' hx' hH' c' => ?_) (fun a' ha' hx' hH' c' I3 J3 h3 => ?_) <;> (have k := zn (by omega) (by omega) (hx.symm.trans hx')) <;> subst k
    · rw [hH] at hH'; cases hH'
    · rw [c] at c'; cases c'
    · exact ⟨rfl, h3⟩
end TW
