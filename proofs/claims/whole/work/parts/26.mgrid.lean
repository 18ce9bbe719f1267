/-! the reference lays out its board -/
theorem u2_at {α : Type} (f : Nat → Nat → α) (k j : Nat) (v : α) (b : Nat) : u2 f k j v k b = if b = j then v else f k b := by simp [u2]
section MG
variable {I : tg_I} {J : tg_J} {P : Option Value → tg_I → tg_J → Prop} {w h sh : Nat}
/-- nothing but the cell k is changed -/
def onlyI (k : Nat) (I I' : tg_I) : Prop := ∀ q, q ≠ k → I' q = I q
theorem onlyI_u (k j : Nat) (v : Int32) (I : tg_I) : onlyI k I (u2 I k j v) := fun q h => u2_other I k j v h
theorem isBoard_ok (x y z : Int32) (hp : P (some (.int (bi (decide (1 ≤ x.toInt ∧ x.toInt ≤ 10 ∧ 1 ≤ y.toInt ∧ y.toInt ≤ 10 ∧ 0 ≤ z.toInt ∧ z.toInt ≤ 3 ∧ (z.toInt = 3 → y.toInt % 2 = 0)))))) I J) : call pgM zX9_isBoard [.int x, .int y, .int z] I J P := by
  obtain ⟨x, x1, x2, rfl⟩ := z_of x
  obtain ⟨y, y1, y2, rfl⟩ := z_of y
  obtain ⟨z, z1, z2, rfl⟩ := z_of z
  refine e_X9_isBoard _ _ _ ?_
  rw [z_toInt x1 x2, z_toInt y1 y2, z_toInt z1 z2] at hp
  rw [show (1 : Int32) = zI 1 from rfl, show (10 : Int32) = zI 10 from rfl, show (0 : Int32) = zI 0 from rfl, show (3 : Int32) = zI 3 from rfl]
  simp (disch := omega) only [z_lt]
  refine ⟨fun a => ?_, fun a => ⟨fun b => ?_, fun b => ⟨fun c => ?_, fun c => ⟨fun d => ?_, fun d => ⟨fun e => ?_, fun e => ⟨fun f => ?_, fun f => ⟨fun g => ?_, fun g => ?_⟩⟩⟩⟩⟩⟩⟩
  · rw [decide_eq_false (by omega)] at hp; exact hp
  · rw [decide_eq_false (by omega)] at hp; exact hp
  · rw [decide_eq_false (by omega)] at hp; exact hp
  · rw [decide_eq_false (by omega)] at hp; exact hp
  · rw [decide_eq_false (by omega)] at hp; exact hp
  · rw [decide_eq_false (by omega)] at hp; exact hp
  · rw [decide_eq_true (by omega)] at hp; exact hp
  · obtain ⟨m, rfl⟩ := Int.eq_ofNat_of_zero_le (show 0 ≤ y by omega)
    rw [show (2 : Int32) = zI (2 : Nat) from rfl, z_rem (by omega) (by omega) (by omega), z_eq (by omega) (by omega) (by omega) (by omega)]
    refine ⟨fun q => ?_, fun q => ?_⟩
    · rw [decide_eq_false (by omega)] at hp; exact hp
    · rw [decide_eq_true (by omega)] at hp; exact hp
/-- the sizes stand in the object -/
def mSz (w h sh : Nat) (I : tg_I) : Prop := I 0 0 = zI w ∧ I 0 1 = zI h ∧ I 0 2 = zI sh ∧ I 0 3 = zI (w * h : Nat)
theorem mSz_only {I I' : tg_I} {k : Nat} (hk : k ≠ 0) (h1 : onlyI k I I') (hs : mSz w h sh I) : mSz w h sh I' := by
  unfold mSz
  rw [h1 0 (fun q => hk q.symm)]
  exact hs
theorem mul_le100 {w h : Nat} (g : gOk w h sh) : 1 ≤ w * h ∧ w * h ≤ 100 := by
  obtain ⟨g1, g2, g3, g4, -⟩ := g
  exact ⟨Nat.mul_le_mul g1 g3, Nat.mul_le_mul g2 g4⟩
theorem join_core {r c t : Int} {a : Nat} (hh : (h : Int) ≤ 10) (hw : (w : Int) ≤ 10) (ha : a < 100) (r1 : -1 ≤ r) (r2 : r ≤ 10) (c1 : -1 ≤ c) (c2 : c ≤ 10) (ht : t = if 0 ≤ r ∧ r < h ∧ 0 ≤ c ∧ c < w then r * w + c else -1) (hI1 : I 0 1 = zI h) (hI0 : I 0 0 = zI w) (hp : ∀ I', onlyI 1 I I' → (∀ k, I' 1 k = if 0 ≤ t ∧ t ≠ a ∧ (k : Int) = 100 * a + t then 1 else I 1 k) → P none I' J) :
    ((zI r) < 0 → P none I J) ∧ (¬ (zI r) < 0 → ((I 0 1) ≤ (zI r) → P none I J) ∧ (¬ (I 0 1) ≤ (zI r) → ((zI c) < 0 → P none I J) ∧ (¬ (zI c) < 0 → ((I 0 0) ≤ (zI c) → P none I J) ∧ (¬ (I 0 0) ≤ (zI c) → (((zI r * (I 0 0)) + zI c) = zI a → P none I J) ∧ (¬ ((zI r * (I 0 0)) + zI c) = zI a → vp_in ((((100 : Int32) * zI a) + (zI r * (I 0 0))) + zI c) 10000 ∧ ∀ I1, I1 = u2 I 1 (Int32.toNatClampNeg ((((100 : Int32) * zI a) + (zI r * (I 0 0))) + zI c)) (vp_nar .boolean (1 : Int32)) → P none I1 J))))) := by
  have hno : t = -1 → P none I J := fun e => hp I (fun _ _ => rfl) (fun k => by rw [if_neg (by omega)])
  rw [hI1, hI0, show (0 : Int32) = zI 0 from rfl, show (100 : Int32) = zI 100 from rfl]
  simp only [z_mul, z_add]
  refine ⟨fun q => ?_, fun q => ⟨fun q2 => ?_, fun q2 => ⟨fun q3 => ?_, fun q3 => ⟨fun q4 => ?_, fun q4 => ?_⟩⟩⟩⟩
  · rw [z_lt (by omega) (by omega) (by omega) (by omega)] at q; exact hno (by rw [ht, if_neg (by omega)])
  · rw [z_le (by omega) (by omega) (by omega) (by omega)] at q2; exact hno (by rw [ht, if_neg (by omega)])
  · rw [z_lt (by omega) (by omega) (by omega) (by omega)] at q3; exact hno (by rw [ht, if_neg (by omega)])
  · rw [z_le (by omega) (by omega) (by omega) (by omega)] at q4; exact hno (by rw [ht, if_neg (by omega)])
  · rw [z_lt (by omega) (by omega) (by omega) (by omega)] at q q3
    rw [z_le (by omega) (by omega) (by omega) (by omega)] at q2 q4
    have hm : 0 ≤ r * w ∧ r * w ≤ 90 := by
      refine ⟨Int.mul_nonneg (by omega) (by omega), ?_⟩
      have := Int.mul_le_mul (show r ≤ 9 by omega) hw (by omega) (by omega)
      omega
    rw [if_pos ⟨by omega, by omega, by omega, by omega⟩] at ht
    rw [z_eq (by omega) (by omega) (by omega) (by omega), z_in (by omega) (by omega), z_clI (by omega) (by omega), nar1]
    refine ⟨fun e => hp I (fun _ _ => rfl) (fun k => by rw [if_neg (by omega)]), fun e => ⟨by omega, fun I1 e1 => ?_⟩⟩
    subst e1
    refine hp _ (onlyI_u _ _ _ _) (fun k => ?_)
    rw [u2_at]
    by_cases qk : k = (100 * (a : Int) + r * w + c).toNat
    · rw [if_pos qk, if_pos ⟨by omega, by omega, by omega⟩]
    · rw [if_neg qk, if_neg (by omega)]
theorem mjoin_ok {r c : Int} {a : Nat} (g : gOk w h sh) (hs : mSz w h sh I) (ha : a < w * h) (r1 : -1 ≤ r) (r2 : r ≤ h) (c1 : -1 ≤ c) (c2 : c ≤ w) (hp : ∀ I', onlyI 1 I I' → (∀ k, I' 1 k = if 0 ≤ gAt w h sh r c ∧ gAt w h sh r c ≠ a ∧ (k : Int) = 100 * a + gAt w h sh r c then 1 else I 1 k) → P none I' J) : call pgM zX9_join [.ref 0, .int (zI a), .int (zI r), .int (zI c)] I J P := by
  obtain ⟨s0, s1, s2, s3⟩ := hs
  obtain ⟨hn1, hn2⟩ := mul_le100 g
  obtain ⟨g1, g2, g3, g4, g5, g6⟩ := g
  have hring : ∀ (hr : sh % 2 = 1) (x1 x2 : Int32), x1 = zI r + zI h - (zI r + zI h) / zI h * zI h → x2 = zI c + zI w - (zI c + zI w) / zI w * zI w → x1 = zI (gw (decide (sh % 2 = 1)) r h) ∧ x2 = zI (gw (decide (sh % 2 = 1)) c w) ∧ -1 ≤ gw (decide (sh % 2 = 1)) r h ∧ gw (decide (sh % 2 = 1)) r h ≤ 10 ∧ -1 ≤ gw (decide (sh % 2 = 1)) c w ∧ gw (decide (sh % 2 = 1)) c w ≤ 10 := by
    intro hr x1 x2 e1 e2
    rw [decide_eq_true hr, ← gw_mod r1 r2 g3, ← gw_mod c1 c2 g1]
    obtain ⟨m, hm⟩ := Int.eq_ofNat_of_zero_le (show 0 ≤ r + h by omega)
    obtain ⟨k, hk⟩ := Int.eq_ofNat_of_zero_le (show 0 ≤ c + w by omega)
    rw [z_add, hm, z_rem (by omega) (by omega) (by omega)] at e1
    rw [z_add, hk, z_rem (by omega) (by omega) (by omega)] at e2
    rw [hm, hk]
    have b1 := Nat.mod_lt m (show h > 0 by omega)
    have b2 := Nat.mod_lt k (show w > 0 by omega)
    exact ⟨e1, e2, by omega, by simp only [Int.toNat_natCast]; omega, by omega, by simp only [Int.toNat_natCast]; omega⟩
  refine e_X9_join _ _ _ ?_
  rw [s2, show (1 : Int32) = zI (1 : Nat) from rfl, show (3 : Int32) = zI (3 : Nat) from rfl]
  simp only [z_eq (a := (sh : Int)) (b := ((1 : Nat) : Int)) (by omega) (by omega) (by omega) (by omega), z_eq (a := (sh : Int)) (b := ((3 : Nat) : Int)) (by omega) (by omega) (by omega) (by omega)]
  have hne1 : ¬ I 0 1 = 0 := by rw [s1, show (0 : Int32) = zI 0 from rfl, z_eq (by omega) (by omega) (by omega) (by omega)]; omega
  have hne0 : ¬ I 0 0 = 0 := by rw [s0, show (0 : Int32) = zI 0 from rfl, z_eq (by omega) (by omega) (by omega) (by omega)]; omega
  have key : ∀ (x1 x2 : Int32), x1 = zI (gw (decide (sh % 2 = 1)) r h) → x2 = zI (gw (decide (sh % 2 = 1)) c w) → (-1 ≤ gw (decide (sh % 2 = 1)) r h ∧ gw (decide (sh % 2 = 1)) r h ≤ 10 ∧ -1 ≤ gw (decide (sh % 2 = 1)) c w ∧ gw (decide (sh % 2 = 1)) c w ≤ 10) → _ := fun x1 x2 e1 e2 b => join_core (J := J) (P := P) (a := a) (t := gAt w h sh r c) (by omega) (by omega) (by omega) b.1 b.2.1 b.2.2.1 b.2.2.2 rfl s1 s0 hp
  refine ⟨fun q => ⟨hne1, fun x1 e1 => ⟨hne0, fun x2 e2 => ?_⟩⟩, fun q => ⟨fun q3 => ?_, fun q3 => ⟨hne1, fun x1 e1 => ⟨hne0, fun x2 e2 => ?_⟩⟩⟩⟩
  · rw [s1] at e1
    rw [s0] at e2
    obtain ⟨f1, f2, b⟩ := hring (by omega) x1 x2 e1 e2
    have := key x1 x2 f1 f2 b
    rw [← f1, ← f2] at this
    exact this
  · have hr : ¬ sh % 2 = 1 := by omega
    have f1 : gw (decide (sh % 2 = 1)) r h = r := by rw [decide_eq_false hr]; rfl
    have f2 : gw (decide (sh % 2 = 1)) c w = c := by rw [decide_eq_false hr]; rfl
    have := key (zI r) (zI c) (by rw [f1]) (by rw [f2]) (by rw [f1, f2]; omega)
    rw [f1, f2] at this
    exact this
  · rw [s1] at e1
    rw [s0] at e2
    obtain ⟨f1, f2, b⟩ := hring (by omega) x1 x2 e1 e2
    have := key x1 x2 f1 f2 b
    rw [← f1, ← f2] at this
    exact this
/-- the neighbours' row holds the truth table N -/
def arrN (N : Nat → Nat → Bool) (I0 I : tg_I) : Prop := (∀ a b, a < 100 → b < 100 → I 1 (100 * a + b) = bi (N a b)) ∧ ∀ k, 10000 ≤ k → I 1 k = I0 1 k
def addL (w h sh : Nat) (N : Nat → Nat → Bool) (a : Nat) (qs : List (Int × Int)) : Nat → Nat → Bool := fun a' b => N a' b || (decide (a' = a) && qs.any (hit w h sh a b))
theorem addL_app (N : Nat → Nat → Bool) (a : Nat) (qs rs : List (Int × Int)) : addL w h sh (addL w h sh N a qs) a rs = addL w h sh N a (qs ++ rs) := by
  funext a' b
  unfold addL
  rw [List.any_append]
  cases N a' b <;> cases decide (a' = a) <;> simp
theorem mjoin_N {I0 : tg_I} {N : Nat → Nat → Bool} {r c : Int} {a : Nat} (g : gOk w h sh) (hs : mSz w h sh I) (ha : a < w * h) (r1 : -1 ≤ r) (r2 : r ≤ h) (c1 : -1 ≤ c) (c2 : c ≤ w) (hN : arrN N I0 I) (hp : ∀ I', onlyI 1 I I' → arrN (addL w h sh N a [(r, c)]) I0 I' → P none I' J) : call pgM zX9_join [.ref 0, .int (zI a), .int (zI r), .int (zI c)] I J P := by
  obtain ⟨hn1, hn2⟩ := mul_le100 g
  refine mjoin_ok g hs ha r1 r2 c1 c2 (fun I' h1 h2 => hp I' h1 ⟨fun a' b ha' hb => ?_, fun k hk => ?_⟩)
  · have hl := gAt_lt (w := w) (h := h) (sh := sh) (r := r) (c := c)
    rw [h2, hN.1 a' b ha' hb]
    by_cases q : 0 ≤ gAt w h sh r c ∧ gAt w h sh r c ≠ a ∧ ((100 * a' + b : Nat) : Int) = 100 * a + gAt w h sh r c
    · rw [if_pos q]
      have e1 : a' = a := by omega
      have e2 : gAt w h sh r c = (b : Int) := by omega
      have e3 : b ≠ a := by omega
      simp [addL, hit, e1, e2, e3, bi]
    · rw [if_neg q]
      congr 1
      unfold addL
      by_cases e1 : a' = a
      · have e2 : hit w h sh a b (r, c) = false := by
          unfold hit
          by_cases e3 : gAt w h sh r c = (b : Int)
          · have : b = a := by omega
            simp [this]
          · simp [e3]
        simp [e2]
      · simp [e1]
  · rw [h2, hN.2 k hk, if_neg]
    intro q
    have hl := gAt_lt (w := w) (h := h) (sh := sh) (r := r) (c := c)
    omega
theorem lay122 {I0 : tg_I} {a : Nat} (g : gOk w h sh) (ha : a < w * h) : ∀ (d : Nat) (k : Int) (hi : Int) (N : Nat → Nat → Bool) (I : tg_I), k + d = hi + 1 → -1 ≤ k → hi ≤ w → mSz w h sh I → arrN N I0 I →
    (∀ I', onlyI 1 I I' → mSz w h sh I' → arrN (addL w h sh N a (posL (a / w : Nat) (kl d k) ++ [(((a / w : Nat) : Int), ((a % w : Nat) : Int) - 1), (((a / w : Nat) : Int), ((a % w : Nat) : Int) + 1)])) I0 I' → l_X9_layOut_50 I' J P (zI w) (zI sh) (zI a + 1)) →
    l_X9_layOut_122 I J P (zI w) (zI sh) (zI a) (zI (a / w : Nat)) (zI (a % w : Nat)) (zI hi) (zI k) := by
  obtain ⟨hn1, hn2⟩ := mul_le100 g
  obtain ⟨q1, q2, q3⟩ := cell_rc g.1 ha
  have g' := g
  obtain ⟨g1, g2, g3, g4, g5, g6⟩ := g'
  generalize a / w = R at *
  generalize a % w = C at *
  intro d
  induction d with
  | zero =>
    intro k hi N I hk k1 k2 hs hN hp
    refine s_X9_layOut_122 _ _ _ _ _ _ _ ⟨fun _ => ?_, fun q => absurd ((z_lt (by omega) (by omega) (by omega) (by omega)).mpr (by omega)) q⟩
    rw [show (1 : Int32) = zI 1 from rfl, z_sub, z_add]
    refine mjoin_N g hs ha (by omega) (by omega) (by omega) (by omega) hN (fun I1 o1 n1 => ⟨rfl, ?_⟩)
    have hs1 := mSz_only (by decide) o1 hs
    refine mjoin_N g hs1 ha (by omega) (by omega) (by omega) (by omega) n1 (fun I2 o2 n2 => ⟨rfl, ?_⟩)
    refine hp I2 (fun z hz => (o2 z hz).trans (o1 z hz)) (mSz_only (by decide) o2 hs1) ?_
    rw [addL_app] at n2
    exact n2
  | succ d ih =>
    intro k hi N I hk k1 k2 hs hN hp
    refine s_X9_layOut_122 _ _ _ _ _ _ _ ⟨fun q => absurd ((z_lt (by omega) (by omega) (by omega) (by omega)).mp q) (by omega), fun _ => ?_⟩
    rw [show (1 : Int32) = zI 1 from rfl, z_sub, z_add]
    refine mjoin_N g hs ha (by omega) (by omega) (by omega) (by omega) hN (fun I1 o1 n1 => ⟨rfl, ?_⟩)
    have hs1 := mSz_only (by decide) o1 hs
    refine mjoin_N g hs1 ha (by omega) (by omega) (by omega) (by omega) n1 (fun I2 o2 n2 => ⟨rfl, ?_⟩)
    have hs2 := mSz_only (by decide) o2 hs1
    rw [z_add]
    refine ih (k + 1) hi _ I2 (by omega) (by omega) k2 hs2 n2 (fun I3 o3 s3 n3 => hp I3 (fun z hz => (o3 z hz).trans ((o2 z hz).trans (o1 z hz))) s3 ?_)
    rw [addL_app, addL_app] at n3
    exact n3
theorem lay50 {I0 : tg_I} (g : gOk w h sh) (hp : ∀ I', (∀ q, q ≠ 1 → I' q = I0 q) → mSz w h sh I' → arrN (fun a b => decide (a < w * h) && nb w h sh a b) I0 I' → P none I' J) : ∀ a, a ≤ w * h → ∀ I, (∀ q, q ≠ 1 → I q = I0 q) → mSz w h sh I → arrN (fun a' b => decide (a' < a) && nb w h sh a' b) I0 I → l_X9_layOut_50 I J P (zI w) (zI sh) (zI a) := by
  obtain ⟨hn1, hn2⟩ := mul_le100 g
  have g' := g
  obtain ⟨g1, g2, g3, g4, g5, g6⟩ := g'
  refine up_loop (w * h) ?_ ?_
  · intro I ho hs hN
    refine s_X9_layOut_50 _ _ _ ⟨fun _ => hp I ho hs hN, fun q => absurd ?_ q⟩
    rw [hs.2.2.2]
    exact Int32.le_refl _
  · intro a ha ih I ho hs hN
    obtain ⟨q1, q2, q3⟩ := cell_rc g1 ha
    have hw0 : ¬ zI (w : Int) = 0 := by rw [show (0 : Int32) = zI 0 from rfl, z_eq (by omega) (by omega) (by omega) (by omega)]; omega
    have fin : ∀ (d : Nat) (k hi : Int), k = gS sh (a / w) (a % w) → d = gC sh → hi = k + d - 1 → l_X9_layOut_122 I J P (zI w) (zI sh) (zI a) (zI (a / w : Nat)) (zI (a % w : Nat)) (zI hi) (zI k) := by
      intro d k hi e1 e2 e3
      have hr := gS_rng (sh := sh) (r := a / w) (c := a % w) q2
      refine lay122 (I0 := I0) g ha d k hi _ I (by omega) (by omega) (by omega) hs hN (fun I' o s n => ?_)
      rw [show (1 : Int32) = zI 1 from rfl, z_add]
      refine ih I' (fun z hz => (o z hz).trans (ho z hz)) s ?_
      rw [e1, e2] at n
      have ef : addL w h sh (fun a' b => decide (a' < a) && nb w h sh a' b) a (gPos sh (a / w) (a % w)) = fun a' b => decide (a' < a + 1) && nb w h sh a' b := by
        funext a' b
        unfold addL
        by_cases z : a' = a
        · subst z
          simp [nb]
        · by_cases z2 : a' < a
          · simp [z, z2, show a' < a + 1 by omega]
          · simp [z, z2, show ¬ a' < a + 1 by omega]
      rw [show posL ((a / w : Nat) : Int) (kl (gC sh) (gS sh (a / w) (a % w))) ++ [(((a / w : Nat) : Int), ((a % w : Nat) : Int) - 1), (((a / w : Nat) : Int), ((a % w : Nat) : Int) + 1)] = gPos sh (a / w) (a % w) from rfl, ef] at n
      exact n
    refine s_X9_layOut_50 _ _ _ ⟨fun q => absurd q ?_, fun _ => ⟨hw0, hw0, ?_⟩⟩
    · rw [hs.2.2.2, z_le (by omega) (by omega) (by omega) (by omega)]
      omega
    rw [z_rem (by omega) (by omega) (by omega), z_div (by omega) (by omega) (by omega), show (2 : Int32) = zI (2 : Nat) from rfl, z_rem (by omega) (by omega) (by omega), show (1 : Int32) = zI 1 from rfl, show (0 : Int32) = zI 0 from rfl, z_sub, z_add]
    have c2 : zI (sh : Int) < zI (2 : Nat) ↔ sh < 2 := by
      rw [z_lt (by omega) (by omega) (by omega) (by omega)]
      omega
    have ce0 : zI ((a / w % 2 : Nat) : Int) = zI 0 ↔ a / w % 2 = 0 := by
      rw [z_eq (by omega) (by omega) (by omega) (by omega)]
      omega
    have ce1 : zI ((a / w % 2 : Nat) : Int) = zI 1 ↔ a / w % 2 = 1 := by
      rw [z_eq (by omega) (by omega) (by omega) (by omega)]
      omega
    simp only [c2, ce0, ce1]
    refine ⟨fun s1 x1 e1 => ⟨fun _ x2 e2 => ?_, fun s2 => absurd s1 s2⟩, fun s1 => ⟨fun p0 => ⟨fun s2 => absurd s2 s1, fun _ => ⟨fun p1 => absurd (by omega) p1, fun p1 x5 e5 => ?_⟩⟩, fun p0 x6 e6 => ⟨fun s2 => absurd s2 s1, fun _ => ⟨fun p1 => ?_, fun p1 => absurd p1 (by omega)⟩⟩⟩⟩
    · rw [e1, e2]
      exact fin 3 _ _ (by simp [gS, s1]) (by simp [gC, s1]) (by omega)
    · rw [e5]
      exact fin 2 _ _ (by simp [gS, s1, p1]) (by simp [gC, s1]) (by omega)
    · rw [e6]
      exact fin 2 _ _ (by simp [gS, s1, p0]) (by simp [gC, s1]) (by omega)
theorem layOut_ok (g : gOk w h sh) (hp : ∀ I', (∀ q, q ≠ 0 → q ≠ 1 → I' q = I q) → (∀ j, 4 ≤ j → I' 0 j = I 0 j) → mSz w h sh I' → arrN (fun a b => decide (a < w * h) && nb w h sh a b) I I' → P none I' J) : call pgM zX9_layOut [.ref 0, .int (zI w), .int (zI h), .int (zI sh)] I J P := by
  refine e_X9_layOut _ _ _ (fun I1 e1 I2 e2 I3 e3 I4 e4 => ?_)
  have f0 : ∀ q, q ≠ 0 → I4 q = I q := fun q hq => by rw [e4, u2_other _ _ _ _ hq, e3, u2_other _ _ _ _ hq, e2, u2_other _ _ _ _ hq, e1, u2_other _ _ _ _ hq]
  have f4 : ∀ j, 4 ≤ j → I4 0 j = I 0 j := fun j hj => by rw [e4, u2_ne1 _ _ _ _ (by omega), e3, u2_ne1 _ _ _ _ (by omega), e2, u2_ne1 _ _ _ _ (by omega), e1, u2_ne1 _ _ _ _ (by omega)]
  have fs : mSz w h sh I4 := by
    refine ⟨?_, ?_, ?_, ?_⟩
    · rw [e4, u2_ne1 _ _ _ _ (by decide), e3, u2_ne1 _ _ _ _ (by decide), e2, u2_ne1 _ _ _ _ (by decide), e1, u2_eq]
    · rw [e4, u2_ne1 _ _ _ _ (by decide), e3, u2_ne1 _ _ _ _ (by decide), e2, u2_eq]
    · rw [e4, u2_ne1 _ _ _ _ (by decide), e3, u2_eq]
    · rw [e4, u2_eq, z_mul, Int.natCast_mul]
  have key := up_loop (L := fun m => ∀ Ia, onlyI 1 I4 Ia → (∀ k, k < m → Ia 1 k = 0) → (∀ k, m ≤ k → Ia 1 k = I4 1 k) → l_X9_layOut_25 Ia J P (zI w) (zI sh) (zI m)) 10000 ?_ ?_ 0 (Nat.zero_le _) I4 (fun _ _ => rfl) (fun k hk => absurd hk (Nat.not_lt_zero k)) (fun _ _ => rfl)
  · exact key
  · intro Ia o z1 z2
    refine s_X9_layOut_25 _ _ _ ⟨fun _ => ?_, fun q => absurd (Int32.le_refl _) q⟩
    refine lay50 (I0 := Ia) g (fun I' o' s' n' => hp I' (fun q h0 h1 => (o' q h1).trans ((o q h1).trans (f0 q h0))) (fun j hj => by rw [o' 0 (by decide), o 0 (by decide)]; exact f4 j hj) s' ⟨n'.1, fun k hk => ?_⟩) 0 (Nat.zero_le _) Ia (fun _ _ => rfl) (mSz_only (by decide) o fs) ⟨fun a b ha hb => ?_, fun _ _ => rfl⟩
    · rw [n'.2 k hk, z2 k hk, f0 1 (by decide)]
    · rw [z1 _ (by omega)]
      simp [bi]
  · intro m hm ih Ia o z1 z2
    refine s_X9_layOut_25 _ _ _ ?_
    rw [show (10000 : Int32) = zI (10000 : Nat) from rfl, z_le (by omega) (by omega) (by omega) (by omega), z_in (by omega) (by omega), z_cl (by omega), nar0, show (1 : Int32) = zI 1 from rfl, z_add]
    refine ⟨fun q => absurd q (by omega), fun _ => ⟨by omega, fun Ib eb => ?_⟩⟩
    subst eb
    refine ih _ (fun z hz => by rw [u2_other _ _ _ _ hz]; exact o z hz) (fun k hk => ?_) (fun k hk => ?_)
    · rw [u2_at]
      by_cases e : k = m
      · rw [if_pos e]
      · rw [if_neg e]; exact z1 k (by omega)
    · rw [u2_at, if_neg (by omega)]
      exact z2 k (by omega)
end MG
