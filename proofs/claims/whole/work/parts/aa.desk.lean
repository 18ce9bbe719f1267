theorem eqX_0 {ad : Nat → Nat} {cA : Nat → ClassId} : tg_e ad cA pgX nIX nJ0 0 = nw_e ad cA (.inr (8, [.ref 1, .ref 15, .ref 17, .ref 39, .ref 46, .ref 62, .ref 63, .int 0])) := tg_e_o rfl (fun _ => rfl)
theorem eqX_1 {ad : Nat → Nat} {cA : Nat → ClassId} : tg_e ad cA pgX nIX nJ0 1 = nw_e ad cA (.inr (1, [.ref 2, .ref 7, .ref 8, .ref 9, .ref 10, .ref 11, .ref 12, .ref 13, .ref 14])) := tg_e_o rfl (fun _ => rfl)
theorem eqX_2 {ad : Nat → Nat} {cA : Nat → ClassId} : tg_e ad cA pgX nIX nJ0 2 = nw_e ad cA (.inr (2, [.ref 3, .ref 4, .ref 5, .ref 6, .int 0, .int 0, .int 0, .int 0])) := tg_e_o rfl (fun _ => rfl)
theorem eqX_3 {ad : Nat → Nat} {cA : Nat → ClassId} : tg_e ad cA pgX nIX nJ0 3 = nw_e ad cA (.inl (2, 100)) := tg_e_j rfl rfl
theorem eqX_4 {ad : Nat → Nat} {cA : Nat → ClassId} : tg_e ad cA pgX nIX nJ0 4 = nw_e ad cA (.inl (2, 100)) := tg_e_j rfl rfl
theorem eqX_5 {ad : Nat → Nat} {cA : Nat → ClassId} : tg_e ad cA pgX nIX nJ0 5 = nw_e ad cA (.inl (0, 800)) := tg_e_i rfl (nIX_0 (by decide))
theorem eqX_6 {ad : Nat → Nat} {cA : Nat → ClassId} : tg_e ad cA pgX nIX nJ0 6 = nw_e ad cA (.inl (0, 100)) := tg_e_i rfl (nIX_0 (by decide))
theorem eqX_7 {ad : Nat → Nat} {cA : Nat → ClassId} : tg_e ad cA pgX nIX nJ0 7 = nw_e ad cA (.inr (0, [.long 0, .long 0])) := tg_e_o rfl (fun _ => rfl)
theorem eqX_8 {ad : Nat → Nat} {cA : Nat → ClassId} : tg_e ad cA pgX nIX nJ0 8 = nw_e ad cA (.inr (0, [.long 0, .long 0])) := tg_e_o rfl (fun _ => rfl)
theorem eqX_9 {ad : Nat → Nat} {cA : Nat → ClassId} : tg_e ad cA pgX nIX nJ0 9 = nw_e ad cA (.inr (0, [.long 0, .long 0])) := tg_e_o rfl (fun _ => rfl)
theorem eqX_10 {ad : Nat → Nat} {cA : Nat → ClassId} : tg_e ad cA pgX nIX nJ0 10 = nw_e ad cA (.inr (0, [.long 0, .long 0])) := tg_e_o rfl (fun _ => rfl)
theorem eqX_11 {ad : Nat → Nat} {cA : Nat → ClassId} : tg_e ad cA pgX nIX nJ0 11 = nw_e ad cA (.inr (0, [.long 0, .long 0])) := tg_e_o rfl (fun _ => rfl)
theorem eqX_12 {ad : Nat → Nat} {cA : Nat → ClassId} : tg_e ad cA pgX nIX nJ0 12 = nw_e ad cA (.inr (0, [.long 0, .long 0])) := tg_e_o rfl (fun _ => rfl)
theorem eqX_13 {ad : Nat → Nat} {cA : Nat → ClassId} : tg_e ad cA pgX nIX nJ0 13 = nw_e ad cA (.inr (0, [.long 0, .long 0])) := tg_e_o rfl (fun _ => rfl)
theorem eqX_14 {ad : Nat → Nat} {cA : Nat → ClassId} : tg_e ad cA pgX nIX nJ0 14 = nw_e ad cA (.inl (0, 100)) := tg_e_i rfl (nIX_0 (by decide))
theorem eqX_15 {ad : Nat → Nat} {cA : Nat → ClassId} : tg_e ad cA pgX nIX nJ0 15 = nw_e ad cA (.inr (4, [.ref 16, .int 0])) := tg_e_o rfl (fun _ => rfl)
theorem eqX_16 {ad : Nat → Nat} {cA : Nat → ClassId} : tg_e ad cA pgX nIX nJ0 16 = nw_e ad cA (.inl (2, 1200)) := tg_e_j rfl rfl
theorem eqX_17 {ad : Nat → Nat} {cA : Nat → ClassId} : tg_e ad cA pgX nIX nJ0 17 = nw_e ad cA (.inr (5, [.ref 18, .ref 19, .ref 20, .ref 28, .ref 29, .ref 30, .ref 31, .ref 32, .ref 33, .ref 34, .ref 35, .ref 36, .ref 37, .ref 38, .int 0])) := tg_e_o rfl (fun _ => rfl)
theorem eqX_18 {ad : Nat → Nat} {cA : Nat → ClassId} : tg_e ad cA pgX nIX nJ0 18 = nw_e ad cA (.inr (0, [.long 0, .long 0])) := tg_e_o rfl (fun _ => rfl)
theorem eqX_19 {ad : Nat → Nat} {cA : Nat → ClassId} : tg_e ad cA pgX nIX nJ0 19 = nw_e ad cA (.inr (0, [.long 0, .long 0])) := tg_e_o rfl (fun _ => rfl)
theorem eqX_20 {ad : Nat → Nat} {cA : Nat → ClassId} : tg_e ad cA pgX nIX nJ0 20 = nw_e ad cA (.inr (7, [.ref 21, .ref 22, .ref 23, .ref 24, .ref 25, .ref 26, .ref 27, .int 0])) := tg_e_o rfl (fun _ => rfl)
theorem eqX_21 {ad : Nat → Nat} {cA : Nat → ClassId} : tg_e ad cA pgX nIX nJ0 21 = nw_e ad cA (.inl (0, 14)) := tg_e_i rfl (nIX_0 (by decide))
theorem eqX_22 {ad : Nat → Nat} {cA : Nat → ClassId} : tg_e ad cA pgX nIX nJ0 22 = nw_e ad cA (.inl (0, 112)) := tg_e_i rfl (nIX_0 (by decide))
theorem eqX_23 {ad : Nat → Nat} {cA : Nat → ClassId} : tg_e ad cA pgX nIX nJ0 23 = nw_e ad cA (.inl (0, 14)) := tg_e_i rfl (nIX_0 (by decide))
theorem eqX_24 {ad : Nat → Nat} {cA : Nat → ClassId} : tg_e ad cA pgX nIX nJ0 24 = nw_e ad cA (.inl (0, 100)) := tg_e_i rfl (nIX_0 (by decide))
theorem eqX_25 {ad : Nat → Nat} {cA : Nat → ClassId} : tg_e ad cA pgX nIX nJ0 25 = nw_e ad cA (.inl (0, 100)) := tg_e_i rfl (nIX_0 (by decide))
theorem eqX_26 {ad : Nat → Nat} {cA : Nat → ClassId} : tg_e ad cA pgX nIX nJ0 26 = nw_e ad cA (.inl (0, 15)) := tg_e_i rfl (nIX_0 (by decide))
theorem eqX_27 {ad : Nat → Nat} {cA : Nat → ClassId} : tg_e ad cA pgX nIX nJ0 27 = nw_e ad cA (.inl (0, 210)) := tg_e_i rfl (nIX_0 (by decide))
theorem eqX_28 {ad : Nat → Nat} {cA : Nat → ClassId} : tg_e ad cA pgX nIX nJ0 28 = nw_e ad cA (.inr (0, [.long 0, .long 0])) := tg_e_o rfl (fun _ => rfl)
theorem eqX_29 {ad : Nat → Nat} {cA : Nat → ClassId} : tg_e ad cA pgX nIX nJ0 29 = nw_e ad cA (.inr (0, [.long 0, .long 0])) := tg_e_o rfl (fun _ => rfl)
theorem eqX_30 {ad : Nat → Nat} {cA : Nat → ClassId} : tg_e ad cA pgX nIX nJ0 30 = nw_e ad cA (.inr (0, [.long 0, .long 0])) := tg_e_o rfl (fun _ => rfl)
theorem eqX_31 {ad : Nat → Nat} {cA : Nat → ClassId} : tg_e ad cA pgX nIX nJ0 31 = nw_e ad cA (.inl (0, 100)) := tg_e_i rfl (nIX_0 (by decide))
theorem eqX_32 {ad : Nat → Nat} {cA : Nat → ClassId} : tg_e ad cA pgX nIX nJ0 32 = nw_e ad cA (.inl (0, 101)) := tg_e_i rfl (nIX_0 (by decide))
theorem eqX_33 {ad : Nat → Nat} {cA : Nat → ClassId} : tg_e ad cA pgX nIX nJ0 33 = nw_e ad cA (.inl (0, 100)) := tg_e_i rfl (nIX_0 (by decide))
theorem eqX_34 {ad : Nat → Nat} {cA : Nat → ClassId} : tg_e ad cA pgX nIX nJ0 34 = nw_e ad cA (.inl (0, 1300)) := tg_e_i rfl (nIX_0 (by decide))
theorem eqX_35 {ad : Nat → Nat} {cA : Nat → ClassId} : tg_e ad cA pgX nIX nJ0 35 = nw_e ad cA (.inl (0, 1300)) := tg_e_i rfl (nIX_0 (by decide))
theorem eqX_36 {ad : Nat → Nat} {cA : Nat → ClassId} : tg_e ad cA pgX nIX nJ0 36 = nw_e ad cA (.inl (2, 101)) := tg_e_j rfl rfl
theorem eqX_37 {ad : Nat → Nat} {cA : Nat → ClassId} : tg_e ad cA pgX nIX nJ0 37 = nw_e ad cA (.inl (2, 101)) := tg_e_j rfl rfl
theorem eqX_38 {ad : Nat → Nat} {cA : Nat → ClassId} : tg_e ad cA pgX nIX nJ0 38 = nw_e ad cA (.inl (2, 101)) := tg_e_j rfl rfl
theorem eqX_39 {ad : Nat → Nat} {cA : Nat → ClassId} : tg_e ad cA pgX nIX nJ0 39 = nw_e ad cA (.inr (6, [.ref 40, .ref 41, .int 0, .int 0, .ref 17, .ref 42, .ref 43, .ref 44, .ref 45, .ref 1, .int 0, .int 0, .int 0])) := tg_e_o rfl (fun _ => rfl)
theorem eqX_40 {ad : Nat → Nat} {cA : Nat → ClassId} : tg_e ad cA pgX nIX nJ0 40 = nw_e ad cA (.inr (0, [.long 0, .long 0])) := tg_e_o rfl (fun _ => rfl)
theorem eqX_41 {ad : Nat → Nat} {cA : Nat → ClassId} : tg_e ad cA pgX nIX nJ0 41 = nw_e ad cA (.inr (0, [.long 0, .long 0])) := tg_e_o rfl (fun _ => rfl)
theorem eqX_42 {ad : Nat → Nat} {cA : Nat → ClassId} : tg_e ad cA pgX nIX nJ0 42 = nw_e ad cA (.inl (2, 100)) := tg_e_j rfl rfl
theorem eqX_43 {ad : Nat → Nat} {cA : Nat → ClassId} : tg_e ad cA pgX nIX nJ0 43 = nw_e ad cA (.inl (2, 100)) := tg_e_j rfl rfl
theorem eqX_44 {ad : Nat → Nat} {cA : Nat → ClassId} : tg_e ad cA pgX nIX nJ0 44 = nw_e ad cA (.inr (0, [.long 0, .long 0])) := tg_e_o rfl (fun _ => rfl)
theorem eqX_45 {ad : Nat → Nat} {cA : Nat → ClassId} : tg_e ad cA pgX nIX nJ0 45 = nw_e ad cA (.inr (0, [.long 0, .long 0])) := tg_e_o rfl (fun _ => rfl)
theorem eqX_46 {ad : Nat → Nat} {cA : Nat → ClassId} : tg_e ad cA pgX nIX nJ0 46 = nw_e ad cA (.inr (3, [.ref 47, .ref 61, .int 0, .ref 39, .int 0])) := tg_e_o rfl (fun _ => rfl)
theorem eqX_47 {ad : Nat → Nat} {cA : Nat → ClassId} : tg_e ad cA pgX nIX nJ0 47 = nw_e ad cA (.inr (1, [.ref 48, .ref 53, .ref 54, .ref 55, .ref 56, .ref 57, .ref 58, .ref 59, .ref 60])) := tg_e_o rfl (fun _ => rfl)
theorem eqX_48 {ad : Nat → Nat} {cA : Nat → ClassId} : tg_e ad cA pgX nIX nJ0 48 = nw_e ad cA (.inr (2, [.ref 49, .ref 50, .ref 51, .ref 52, .int 0, .int 0, .int 0, .int 0])) := tg_e_o rfl (fun _ => rfl)
theorem eqX_49 {ad : Nat → Nat} {cA : Nat → ClassId} : tg_e ad cA pgX nIX nJ0 49 = nw_e ad cA (.inl (2, 100)) := tg_e_j rfl rfl
theorem eqX_50 {ad : Nat → Nat} {cA : Nat → ClassId} : tg_e ad cA pgX nIX nJ0 50 = nw_e ad cA (.inl (2, 100)) := tg_e_j rfl rfl
theorem eqX_51 {ad : Nat → Nat} {cA : Nat → ClassId} : tg_e ad cA pgX nIX nJ0 51 = nw_e ad cA (.inl (0, 800)) := tg_e_i rfl (nIX_0 (by decide))
theorem eqX_52 {ad : Nat → Nat} {cA : Nat → ClassId} : tg_e ad cA pgX nIX nJ0 52 = nw_e ad cA (.inl (0, 100)) := tg_e_i rfl (nIX_0 (by decide))
theorem eqX_53 {ad : Nat → Nat} {cA : Nat → ClassId} : tg_e ad cA pgX nIX nJ0 53 = nw_e ad cA (.inr (0, [.long 0, .long 0])) := tg_e_o rfl (fun _ => rfl)
theorem eqX_54 {ad : Nat → Nat} {cA : Nat → ClassId} : tg_e ad cA pgX nIX nJ0 54 = nw_e ad cA (.inr (0, [.long 0, .long 0])) := tg_e_o rfl (fun _ => rfl)
theorem eqX_55 {ad : Nat → Nat} {cA : Nat → ClassId} : tg_e ad cA pgX nIX nJ0 55 = nw_e ad cA (.inr (0, [.long 0, .long 0])) := tg_e_o rfl (fun _ => rfl)
theorem eqX_56 {ad : Nat → Nat} {cA : Nat → ClassId} : tg_e ad cA pgX nIX nJ0 56 = nw_e ad cA (.inr (0, [.long 0, .long 0])) := tg_e_o rfl (fun _ => rfl)
theorem eqX_57 {ad : Nat → Nat} {cA : Nat → ClassId} : tg_e ad cA pgX nIX nJ0 57 = nw_e ad cA (.inr (0, [.long 0, .long 0])) := tg_e_o rfl (fun _ => rfl)
theorem eqX_58 {ad : Nat → Nat} {cA : Nat → ClassId} : tg_e ad cA pgX nIX nJ0 58 = nw_e ad cA (.inr (0, [.long 0, .long 0])) := tg_e_o rfl (fun _ => rfl)
theorem eqX_59 {ad : Nat → Nat} {cA : Nat → ClassId} : tg_e ad cA pgX nIX nJ0 59 = nw_e ad cA (.inr (0, [.long 0, .long 0])) := tg_e_o rfl (fun _ => rfl)
theorem eqX_60 {ad : Nat → Nat} {cA : Nat → ClassId} : tg_e ad cA pgX nIX nJ0 60 = nw_e ad cA (.inl (0, 100)) := tg_e_i rfl (nIX_0 (by decide))
theorem eqX_61 {ad : Nat → Nat} {cA : Nat → ClassId} : tg_e ad cA pgX nIX nJ0 61 = nw_e ad cA (.inr (0, [.long 0, .long 0])) := tg_e_o rfl (fun _ => rfl)
theorem eqX_62 {ad : Nat → Nat} {cA : Nat → ClassId} : tg_e ad cA pgX nIX nJ0 62 = nw_e ad cA (.inr (0, [.long 0, .long 0])) := tg_e_o rfl (fun _ => rfl)
theorem eqX_63 {ad : Nat → Nat} {cA : Nat → ClassId} : tg_e ad cA pgX nIX nJ0 63 = nw_e ad cA (.inr (0, [.long 0, .long 0])) := tg_e_o rfl (fun _ => rfl)
set_option maxHeartbeats 4000000 in
set_option maxRecDepth 100000 in
theorem eqX (ad : Nat → Nat) (cA : Nat → ClassId) : nw_W ad cA wnx_129 = tg_W ad cA pgX nIX nJ0 := nw_tg rfl (nwt_get _ 0 ⟨eqX_0, ⟨eqX_1, ⟨eqX_2, ⟨eqX_3, ⟨eqX_4, ⟨eqX_5, ⟨eqX_6, ⟨eqX_7, ⟨eqX_8, ⟨eqX_9, ⟨eqX_10, ⟨eqX_11, ⟨eqX_12, ⟨eqX_13, ⟨eqX_14, ⟨eqX_15, ⟨eqX_16, ⟨eqX_17, ⟨eqX_18, ⟨eqX_19, ⟨eqX_20, ⟨eqX_21, ⟨eqX_22, ⟨eqX_23, ⟨eqX_24, ⟨eqX_25, ⟨eqX_26, ⟨eqX_27, ⟨eqX_28, ⟨eqX_29, ⟨eqX_30, ⟨eqX_31, ⟨eqX_32, ⟨eqX_33, ⟨eqX_34, ⟨eqX_35, ⟨eqX_36, ⟨eqX_37, ⟨eqX_38, ⟨eqX_39, ⟨eqX_40, ⟨eqX_41, ⟨eqX_42, ⟨eqX_43, ⟨eqX_44, ⟨eqX_45, ⟨eqX_46, ⟨eqX_47, ⟨eqX_48, ⟨eqX_49, ⟨eqX_50, ⟨eqX_51, ⟨eqX_52, ⟨eqX_53, ⟨eqX_54, ⟨eqX_55, ⟨eqX_56, ⟨eqX_57, ⟨eqX_58, ⟨eqX_59, ⟨eqX_60, ⟨eqX_61, ⟨eqX_62, ⟨eqX_63, trivial⟩⟩⟩⟩⟩⟩⟩⟩⟩⟩⟩⟩⟩⟩⟩⟩⟩⟩⟩⟩⟩⟩⟩⟩⟩⟩⟩⟩⟩⟩⟩⟩⟩⟩⟩⟩⟩⟩⟩⟩⟩⟩⟩⟩⟩⟩⟩⟩⟩⟩⟩⟩⟩⟩⟩⟩⟩⟩⟩⟩⟩⟩⟩⟩)
set_option maxHeartbeats 4000000 in
set_option maxRecDepth 100000 in
theorem nkDesk {P : nP} (h : call pgX zX1_start [.ref 1, .int 1, .int 1, .int 0] nIX nJ0 (fun v I' J' => v = none ∧ ∀ ad cA, P pgX.2 ad cA (tg_W ad cA pgX I' J'))) : ncall zX8_init 63 7698 [.ref 0] wnx_0 P := by
  refine ncall_of (by decide +kernel) rfl (fun _ => Nat.le_of_ble_eq_true rfl) ?_
  refine n_aload ddX8_0 rfl 0 rfl rfl ?_
  refine n_obj ddX8_1 nlX8_3 oi_in oi_code (by decide) rfl ?_
  refine n_aload ddX8_4 rfl 0 rfl rfl ?_
  refine n_new (ws := wnx_0) (ws' := wnx_1) (P := _) ddX8_5 nnX8_9 (by decide) (by decide) (by decide +kernel) (by decide +kernel) (by decide +kernel) rfl rfl ?_
  refine nr_cast (N := 1) (c2 := 1) (d2 := 9) rfl rfl rfl ?_
  refine n_dup ddX8_8 rfl rfl ?_
  refine n_callN (mc' := 13) (ms' := 1222) (ws' := wnx_27) [] [.ref 1, .ref 0] ddX8_9 kiX1 (by decide +kernel) (by decide) rfl rfl (by decide) rfl (by decide) (by decide) (by decide +kernel) (by decide +kernel) (by decide +kernel) nkX1_1_28 ?_
  refine n_putF (ws' := wnx_28) ddX8_12 npX8_12 rfl (by decide) (fun _ => ⟨rfl, rfl⟩) rfl rfl ?_
  refine n_aload ddX8_15 rfl 0 rfl rfl ?_
  refine n_new (ws := wnx_28) (ws' := wnx_29) (P := _) ddX8_16 nnX8_16 (by decide) (by decide) (by decide +kernel) (by decide +kernel) (by decide +kernel) rfl rfl ?_
  refine nr_cast (N := 15) (c2 := 15) (d2 := 1233) rfl rfl rfl ?_
  refine n_dup ddX8_19 rfl rfl ?_
  refine n_callN (mc' := 1) (ms' := 1200) (ws' := wnx_31) [] [.ref 15, .ref 0] ddX8_20 kiX4 (by decide +kernel) (by decide) rfl rfl (by decide) rfl (by decide) (by decide) (by decide +kernel) (by decide +kernel) (by decide +kernel) nkX4_15_32 ?_
  refine n_putF (ws' := wnx_32) ddX8_23 npX8_19 rfl (by decide) (fun _ => ⟨rfl, rfl⟩) rfl rfl ?_
  refine n_aload ddX8_26 rfl 0 rfl rfl ?_
  refine n_new (ws := wnx_32) (ws' := wnx_33) (P := _) ddX8_27 nnX8_23 (by decide) (by decide) (by decide +kernel) (by decide +kernel) (by decide +kernel) rfl rfl ?_
  refine nr_cast (N := 17) (c2 := 17) (d2 := 2448) rfl rfl rfl ?_
  refine n_dup ddX8_30 rfl rfl ?_
  refine n_callN (mc' := 21) (ms' := 3787) (ws' := wnx_75) [] [.ref 17, .ref 0] ddX8_31 kiX5 (by decide +kernel) (by decide) rfl rfl (by decide) rfl (by decide) (by decide) (by decide +kernel) (by decide +kernel) (by decide +kernel) nkX5_17_76 ?_
  refine n_putF (ws' := wnx_76) ddX8_34 npX8_26 rfl (by decide) (fun _ => ⟨rfl, rfl⟩) rfl rfl ?_
  refine n_aload ddX8_37 rfl 0 rfl rfl ?_
  refine n_new (ws := wnx_76) (ws' := wnx_77) (P := _) ddX8_38 nnX8_30 (by decide) (by decide) (by decide +kernel) (by decide +kernel) (by decide +kernel) rfl rfl ?_
  refine nr_cast (N := 39) (c2 := 39) (d2 := 6248) rfl rfl rfl ?_
  refine n_dup ddX8_41 rfl rfl ?_
  refine n_aload ddX8_42 rfl 0 rfl rfl ?_
  refine n_get (v := .ref 1) ddX8_43 ngX8_12 rfl rfl rfl ?_
  refine n_aload ddX8_46 rfl 0 rfl rfl ?_
  refine n_get (v := .ref 17) ddX8_47 ngX8_26 rfl rfl rfl ?_
  refine n_call (mc' := 6) (ms' := 208) (ws' := wnx_91) [.ref 1, .ref 17] [.ref 39, .ref 0] ddX8_50 kiX6 nlX8_32 (by decide) rfl rfl (by decide) rfl (by decide) (by decide) (by decide +kernel) (by decide +kernel) (by decide +kernel) nkX6_39_92 ?_
  refine n_putF (ws' := wnx_92) ddX8_53 npX8_35 rfl (by decide) (fun _ => ⟨rfl, rfl⟩) rfl rfl ?_
  refine n_aload ddX8_56 rfl 0 rfl rfl ?_
  refine n_new (ws := wnx_92) (ws' := wnx_93) (P := _) ddX8_57 nnX8_39 (by decide) (by decide) (by decide +kernel) (by decide +kernel) (by decide +kernel) rfl rfl ?_
  refine nr_cast (N := 46) (c2 := 46) (d2 := 6461) rfl rfl rfl ?_
  refine n_dup ddX8_60 rfl rfl ?_
  refine n_aload ddX8_61 rfl 0 rfl rfl ?_
  refine n_get (v := .ref 39) ddX8_62 ngX8_35 rfl rfl rfl ?_
  refine n_call (mc' := 15) (ms' := 1233) (ws' := wnx_124) [.ref 39] [.ref 46, .ref 0] ddX8_65 kiX3 nlX8_41 (by decide) rfl rfl (by decide) rfl (by decide) (by decide) (by decide +kernel) (by decide +kernel) (by decide +kernel) nkX3_46_125 ?_
  refine n_putF (ws' := wnx_125) ddX8_68 npX8_44 rfl (by decide) (fun _ => ⟨rfl, rfl⟩) rfl rfl ?_
  refine n_aload ddX8_71 rfl 0 rfl rfl ?_
  refine n_new (ws := wnx_125) (ws' := wnx_126) (P := _) ddX8_72 nnX8_48 (by decide) (by decide) (by decide +kernel) (by decide +kernel) (by decide +kernel) rfl rfl ?_
  refine nr_cast (N := 62) (c2 := 62) (d2 := 7696) rfl rfl rfl ?_
  refine n_dup ddX8_75 rfl rfl ?_
  refine n_callN (mc' := 0) (ms' := 0) (ws' := wnx_126) [] [.ref 62, .ref 0] ddX8_76 kiX0 (by decide +kernel) (by decide) rfl rfl (by decide) rfl (by decide) (by decide) (by decide +kernel) (by decide +kernel) (by decide +kernel) nkX0 ?_
  refine n_putF (ws' := wnx_127) ddX8_79 npX8_51 rfl (by decide) (fun _ => ⟨rfl, rfl⟩) rfl rfl ?_
  refine n_aload ddX8_82 rfl 0 rfl rfl ?_
  refine n_new (ws := wnx_127) (ws' := wnx_128) (P := _) ddX8_83 nnX8_48 (by decide) (by decide) (by decide +kernel) (by decide +kernel) (by decide +kernel) rfl rfl ?_
  refine nr_cast (N := 63) (c2 := 63) (d2 := 7698) rfl rfl rfl ?_
  refine n_dup ddX8_86 rfl rfl ?_
  refine n_callN (mc' := 0) (ms' := 0) (ws' := wnx_128) [] [.ref 63, .ref 0] ddX8_87 kiX0 (by decide +kernel) (by decide) rfl rfl (by decide) rfl (by decide) (by decide) (by decide +kernel) (by decide +kernel) (by decide +kernel) nkX0 ?_
  refine n_putF (ws' := wnx_129) ddX8_90 npX8_55 rfl (by decide) (fun _ => ⟨rfl, rfl⟩) rfl rfl ?_
  refine n_aload ddX8_93 rfl 0 rfl rfl ?_
  refine n_get (v := .ref 1) ddX8_94 ngX8_12 rfl rfl rfl ?_
  refine n_iconst (v := 1) ddX8_97 (by decide) rfl ?_
  refine n_iconst (v := 1) ddX8_98 (by decide) rfl ?_
  refine n_iconst (v := 0) ddX8_99 (by decide) rfl ?_
  exact n_virt (G := pgX) (I := nIX) (J := nJ0) [.int 1, .int 1, .int 0] ddX8_100 kX1_start nlX8_58 (by decide) (by decide) rfl rfl rfl rfl (eqX) rfl ddX8_103 rfl (by decide) (by decide) h
