/-! the class: clicks, as the desk's call -/
section XK2
variable {I : tg_I} {J : tg_J} {P : Option Value → tg_I → tg_J → Prop} {w h sh : Nat} {M H B F : Nat → Bool} {mv kd md : Nat} {hist : Nat → hS} {R T : Nat → Bool}
theorem relX_H {I' : tg_I} {J' : tg_J} (hr : relX ((w, h, sh), (M, H, B, F), (mv, hist), (kd, R, T, md)) I J) (o : onlyH 1 I I' J J') : relX ((w, h, sh), (M, H, B, F), (mv, hist), (kd, R, T, md)) I' J' := by
  obtain ⟨r1, r2, r3, r4, r5, r6, r7, r8, r9⟩ := hr
  obtain ⟨o1, o2⟩ := id o
  refine ⟨o.grid r1, fun i hi => ?_, o.bst r3, ?_, fun m hm => ?_, ?_, fun i hi => ?_, fun i hi => ?_, ?_⟩
  · rw [sB_of (o2 7 (by decide))]; exact r2 i hi
  · rw [o1 15 (by decide)]; exact r4
  · unfold xHist
    rw [o2 16 (by decide)]
    exact r5 m hm
  · rw [o1 0 (by decide)]; exact r6
  · rw [sB_of (o2 62 (by decide))]; exact r7 i hi
  · rw [sB_of (o2 63 (by decide))]; exact r8 i hi
  · rw [o1 46 (by decide)]; exact r9
theorem x_clicks (ho : okD ((w, h, sh), (M, H, B, F), (mv, hist), (kd, R, T, md))) (hr : relX ((w, h, sh), (M, H, B, F), (mv, hist), (kd, R, T, md)) I J) (hp : ∀ I' J', relX ((w, h, sh), (M, H, B, F), (mv, hist), (kd, R, T, md)) I' J' → P (some (.int (zI (clk w h sh M H : Nat)))) I' J') : call pgX zX8_clicks [.ref 0] I J P :=
  e_X8_clicks (leastOpenings_ok isBd1 ho.1 hr.1 ho.2.1 hr.2.2.1 (fun I' J' o => ⟨_, rfl, hp I' J' (relX_H hr o)⟩))
end XK2
