theorem rr_letTi {G : tg_G} {Z : zM} {pc : Nat} {lv : List (Nat × Value)} {st : List Value} {I : tg_I} {J : tg_J} {P : Option Value → tg_I → tg_J → Prop} {x : Int32} (h : ∀ y, y = x → rr G Z pc lv (.int y :: st) I J P) : rr G Z pc lv (.int x :: st) I J P := h x rfl
theorem rr_letTl {G : tg_G} {Z : zM} {pc : Nat} {lv : List (Nat × Value)} {st : List Value} {I : tg_I} {J : tg_J} {P : Option Value → tg_I → tg_J → Prop} {x : Int64} (h : ∀ y, y = x → rr G Z pc lv (.long y :: st) I J P) : rr G Z pc lv (.long x :: st) I J P := h x rfl
theorem rr_letI {G : tg_G} {Z : zM} {pc : Nat} {lv : List (Nat × Value)} {st : List Value} {I : tg_I} {J : tg_J} {P : Option Value → tg_I → tg_J → Prop} (h : ∀ I', I' = I → rr G Z pc lv st I' J P) : rr G Z pc lv st I J P := h I rfl
theorem rr_letJ {G : tg_G} {Z : zM} {pc : Nat} {lv : List (Nat × Value)} {st : List Value} {I : tg_I} {J : tg_J} {P : Option Value → tg_I → tg_J → Prop} (h : ∀ J', J' = J → rr G Z pc lv st I J' P) : rr G Z pc lv st I J P := h J rfl
theorem sw_7 (x : Int32) (h : ¬ (Int32.toInt x < 0 ∨ 7 < Int32.toInt x)) : x = 0 ∨ x = 1 ∨ x = 2 ∨ x = 3 ∨ x = 4 ∨ x = 5 ∨ x = 6 ∨ x = 7 := by
  have e : ∀ z : Int32, Int32.toInt x = z.toInt → x = z := fun z h => Int32.toInt_inj.mp h
  have hx : Int32.toInt x = 0 ∨ Int32.toInt x = 1 ∨ Int32.toInt x = 2 ∨ Int32.toInt x = 3 ∨ Int32.toInt x = 4 ∨ Int32.toInt x = 5 ∨ Int32.toInt x = 6 ∨ Int32.toInt x = 7 := by omega
  rcases hx with q | q | q | q | q | q | q | q
  · exact Or.inl (e 0 (by rw [q]; rfl))
  · exact Or.inr (Or.inl (e 1 (by rw [q]; rfl)))
  · exact Or.inr (Or.inr (Or.inl (e 2 (by rw [q]; rfl))))
  · exact Or.inr (Or.inr (Or.inr (Or.inl (e 3 (by rw [q]; rfl)))))
  · exact Or.inr (Or.inr (Or.inr (Or.inr (Or.inl (e 4 (by rw [q]; rfl))))))
  · exact Or.inr (Or.inr (Or.inr (Or.inr (Or.inr (Or.inl (e 5 (by rw [q]; rfl)))))))
  · exact Or.inr (Or.inr (Or.inr (Or.inr (Or.inr (Or.inr (Or.inl (e 6 (by rw [q]; rfl))))))))
  · exact Or.inr (Or.inr (Or.inr (Or.inr (Or.inr (Or.inr (Or.inr ((e 7 (by rw [q]; rfl)))))))))
def isBits (k : Nat) : Prop := k < pgX.2 ∧ pgX.1 k = .inr (0, [(1, 0), (1, 0)])
def isR101 (k : Nat) : Prop := k < pgX.2 ∧ pgX.1 k = .inl (2, 101)
def isBd (b : Nat) : Prop := b = 1 ∨ b = 47
theorem bd_lt {b n : Nat} (h : isBd b) (hn : n < 14) : b + n < pgX.2 := by
  have e : pgX.2 = 64 := rfl
  rw [e]
  rcases h with rfl | rfl <;> omega
theorem bd_lt0 {b : Nat} (h : isBd b) : b < pgX.2 := bd_lt (n := 0) h (by decide)
theorem bd_31 {b : Nat} (h : isBd b) : b < 2 ^ 31 := by
  rcases h with rfl | rfl <;> decide
theorem bd_0 {b : Nat} (h : isBd b) : pgX.1 (b) = .inr (1, [(2, b + 1), (2, b + 6), (2, b + 7), (2, b + 8), (2, b + 9), (2, b + 10), (2, b + 11), (2, b + 12), (2, b + 13)]) := by
  rcases h with rfl | rfl <;> rfl
theorem bd_1 {b : Nat} (h : isBd b) : pgX.1 (b + 1) = .inr (2, [(2, b + 2), (2, b + 3), (2, b + 4), (2, b + 5), (0, 0), (0, 0), (0, 0), (0, 0)]) := by
  rcases h with rfl | rfl <;> rfl
theorem bd_2 {b : Nat} (h : isBd b) : pgX.1 (b + 2) = .inl (2, 100) := by
  rcases h with rfl | rfl <;> rfl
theorem bd_3 {b : Nat} (h : isBd b) : pgX.1 (b + 3) = .inl (2, 100) := by
  rcases h with rfl | rfl <;> rfl
theorem bd_4 {b : Nat} (h : isBd b) : pgX.1 (b + 4) = .inl (0, 800) := by
  rcases h with rfl | rfl <;> rfl
theorem bd_5 {b : Nat} (h : isBd b) : pgX.1 (b + 5) = .inl (0, 100) := by
  rcases h with rfl | rfl <;> rfl
theorem bd_6 {b : Nat} (h : isBd b) : pgX.1 (b + 6) = .inr (0, [(1, 0), (1, 0)]) := by
  rcases h with rfl | rfl <;> rfl
theorem bd_7 {b : Nat} (h : isBd b) : pgX.1 (b + 7) = .inr (0, [(1, 0), (1, 0)]) := by
  rcases h with rfl | rfl <;> rfl
theorem bd_8 {b : Nat} (h : isBd b) : pgX.1 (b + 8) = .inr (0, [(1, 0), (1, 0)]) := by
  rcases h with rfl | rfl <;> rfl
theorem bd_9 {b : Nat} (h : isBd b) : pgX.1 (b + 9) = .inr (0, [(1, 0), (1, 0)]) := by
  rcases h with rfl | rfl <;> rfl
theorem bd_10 {b : Nat} (h : isBd b) : pgX.1 (b + 10) = .inr (0, [(1, 0), (1, 0)]) := by
  rcases h with rfl | rfl <;> rfl
theorem bd_11 {b : Nat} (h : isBd b) : pgX.1 (b + 11) = .inr (0, [(1, 0), (1, 0)]) := by
  rcases h with rfl | rfl <;> rfl
theorem bd_12 {b : Nat} (h : isBd b) : pgX.1 (b + 12) = .inr (0, [(1, 0), (1, 0)]) := by
  rcases h with rfl | rfl <;> rfl
theorem bd_13 {b : Nat} (h : isBd b) : pgX.1 (b + 13) = .inl (0, 100) := by
  rcases h with rfl | rfl <;> rfl
