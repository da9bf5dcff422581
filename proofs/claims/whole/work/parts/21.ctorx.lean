def wX11 (g : yG) (a : Nat → Nat) : va_W := ((a 0, .inr (11, [.ref (a 1), .ref (a 3), .ref (a 5), .ref (a 10), .ref (a 15), .ref (a 25), .ref (a 35), .ref (a 41), .ref (a 47), .ref (a 129), .ref (a 174), .ref (a 179), .ref (a 182), .ref (a 183), .ref (a 185), .int (-1), .int 0, .int (-1), .int (-1), .int (-1)])) :: ((((((((((((((((wX10 g (fun i => a (1 + i)) ++ wX8 g (fun i => a (3 + i)) (a 1)) ++ wX7 g (fun i => a (5 + i))) ++ wX7 g (fun i => a (10 + i))) ++ wX1 g (fun i => a (15 + i))) ++ wX1 g (fun i => a (25 + i))) ++ wX9 g (fun i => a (35 + i))) ++ wX9 g (fun i => a (41 + i))) ++ wX3 g (fun i => a (47 + i))) ++ [(a 129, .inl (g.2.1 5, 2, .inr (.inr (.inr (.inr (fun j => ([a 130, a 152] : List Nat)[j]?))))))]) ++ wX0 g (fun i => a (174 + i))) ++ wX6 g (fun i => a (179 + i))) ++ wX2 g (fun i => a (182 + i))) ++ wX5 g (fun i => a (183 + i))) ++ [(a 185, .inl (g.2.1 0, 8, .inl (fun _ => 0)))]) ++ wX4 g (fun i => a (130 + i))) ++ wX4 g (fun i => a (152 + i))))
set_option maxRecDepth 20000 in
set_option maxHeartbeats 4000000 in
theorem cX11 (g : yG) (h0 : Nat) : yK g 8 185 4139 YX11_init [.ref h0] [(h0, .inr (11, [.null, .null, .null, .null, .null, .null, .null, .null, .null, .null, .null, .null, .null, .null, .null, .int 0, .int 0, .int 0, .int 0, .int 0]))] (fun v w => v = none ∧ ∃ a : Nat → Nat, a 0 = h0 ∧ w = wX11 g a) := by
  refine yK_of (by decide) (Nat.le_of_ble_eq_true rfl) (fun A => ?_)
  refine ny_loc [0] rfl ?_
  refine ny_aload_n 0 (pc' := 1) dX11_init_0 rfl rfl rfl ?_
  refine ny_obj (pc' := 4) dX11_init_1 rfl moX11_1 oiI oiC (Nat.le_of_ble_eq_true rfl) (Nat.le_of_ble_eq_true rfl) ?_
  refine ny_aload_n 0 (pc' := 5) dX11_init_4 rfl rfl rfl ?_
  refine ny_new (ci := 10) (N := 2) (tf := kt10) (fs := [.null, .int 0]) (pc' := 8) dX11_init_5 rfl rfl ki10 kk10 cwX11_7 wsX10 wi_X10 df10 (Nat.le_of_ble_eq_true rfl) (Nat.le_of_ble_eq_true rfl) (fun q1 => ?_)
  refine ny_dup (pc' := 9) dX11_init_8 rfl rfl ?_
  refine ny_Il (z := YX10_init) (As := []) (pc' := 12) dX11_init_9 rfl (Or.inr nlX11_9) lcX10_init imX10_init rfl rfl rfl rfl (Nat.le_of_ble_eq_true rfl) (Nat.le_of_ble_eq_true rfl) (Nat.le_of_ble_eq_true rfl) (Nat.le_of_ble_eq_true rfl) (cX10 g q1) (fun w1 hw => ?_) (fun _ _ h => h.1)
  obtain ⟨-, b2, hb2, hw⟩ := hw
  subst hw
  subst hb2
  refine ny_eq (ws' := ((h0, .inr (11, [.null, .null, .null, .null, .null, .null, .null, .null, .null, .null, .null, .null, .null, .null, .null, .int 0, .int 0, .int 0, .int 0, .int 0])) :: wX10 g b2)) rfl ?_
  refine ny_putF (i := 0) (ws' := ((h0, .inr (11, [.ref (b2 0), .null, .null, .null, .null, .null, .null, .null, .null, .null, .null, .null, .null, .null, .null, .int 0, .int 0, .int 0, .int 0, .int 0])) :: wX10 g b2)) (pc' := 15) dX11_init_12 rfl fFX11_10 rfl rfl rfl rfl (Nat.le_of_ble_eq_true rfl) rfl ?_
  refine ny_aload_n 0 (pc' := 16) dX11_init_15 rfl rfl rfl ?_
  refine ny_new (ci := 8) (N := 9) (tf := kt8) (fs := [.null, .null, .int 0, .int 0, .int 0, .int 0, .long 0, .int 0, .int 0]) (pc' := 19) dX11_init_16 rfl rfl ki8 kk8 cwX11_16 wsX8 wi_X8 df8 (Nat.le_of_ble_eq_true rfl) (Nat.le_of_ble_eq_true rfl) (fun q3 => ?_)
  refine ny_dup (pc' := 20) dX11_init_19 rfl rfl ?_
  refine ny_aload_n 0 (pc' := 21) dX11_init_20 rfl rfl rfl ?_
  refine ny_get (i := 0) (pc' := 24) dX11_init_21 rfl flX11_10 rfl rfl ?_
  refine ny_Il (z := YX8_init) (As := [.ref (b2 0)]) (pc' := 27) dX11_init_24 rfl (Or.inl mlX11_18) lcX8_init imX8_init rfl rfl rfl rfl (Nat.le_of_ble_eq_true rfl) (Nat.le_of_ble_eq_true rfl) (Nat.le_of_ble_eq_true rfl) (Nat.le_of_ble_eq_true rfl) (cX8 g q3 ((b2 0))) (fun w1 hw => ?_) (fun _ _ h => h.1)
  obtain ⟨-, b4, hb4, hw⟩ := hw
  subst hw
  subst hb4
  refine ny_eq (ws' := ((h0, .inr (11, [.ref (b2 0), .null, .null, .null, .null, .null, .null, .null, .null, .null, .null, .null, .null, .null, .null, .int 0, .int 0, .int 0, .int 0, .int 0])) :: (wX10 g b2 ++ wX8 g b4 ((b2 0))))) rfl ?_
  refine ny_putF (i := 0) (ws' := ((h0, .inr (11, [.ref (b2 0), .ref (b4 0), .null, .null, .null, .null, .null, .null, .null, .null, .null, .null, .null, .null, .null, .int 0, .int 0, .int 0, .int 0, .int 0])) :: (wX10 g b2 ++ wX8 g b4 ((b2 0))))) (pc' := 30) dX11_init_27 rfl fFX11_21 rfl rfl rfl rfl (Nat.le_of_ble_eq_true rfl) rfl ?_
  refine ny_aload_n 0 (pc' := 31) dX11_init_30 rfl rfl rfl ?_
  refine ny_new (ci := 7) (N := 7) (tf := kt7) (fs := [.null, .null, .null, .null, .int 0, .int 0, .int 0]) (pc' := 34) dX11_init_31 rfl rfl ki7 kk7 cwX11_25 wsX7 wi_X7 df7 (Nat.le_of_ble_eq_true rfl) (Nat.le_of_ble_eq_true rfl) (fun q5 => ?_)
  refine ny_dup (pc' := 35) dX11_init_34 rfl rfl ?_
  refine ny_Il (z := YX7_init) (As := []) (pc' := 38) dX11_init_35 rfl (Or.inr nlX11_27) lcX7_init imX7_init rfl rfl rfl rfl (Nat.le_of_ble_eq_true rfl) (Nat.le_of_ble_eq_true rfl) (Nat.le_of_ble_eq_true rfl) (Nat.le_of_ble_eq_true rfl) (cX7 g q5) (fun w1 hw => ?_) (fun _ _ h => h.1)
  obtain ⟨-, b6, hb6, hw⟩ := hw
  subst hw
  subst hb6
  refine ny_eq (ws' := ((h0, .inr (11, [.ref (b2 0), .ref (b4 0), .null, .null, .null, .null, .null, .null, .null, .null, .null, .null, .null, .null, .null, .int 0, .int 0, .int 0, .int 0, .int 0])) :: ((wX10 g b2 ++ wX8 g b4 ((b2 0))) ++ wX7 g b6))) rfl ?_
  refine ny_putF (i := 0) (ws' := ((h0, .inr (11, [.ref (b2 0), .ref (b4 0), .ref (b6 0), .null, .null, .null, .null, .null, .null, .null, .null, .null, .null, .null, .null, .int 0, .int 0, .int 0, .int 0, .int 0])) :: ((wX10 g b2 ++ wX8 g b4 ((b2 0))) ++ wX7 g b6))) (pc' := 41) dX11_init_38 rfl fFX11_28 rfl rfl rfl rfl (Nat.le_of_ble_eq_true rfl) rfl ?_
  refine ny_aload_n 0 (pc' := 42) dX11_init_41 rfl rfl rfl ?_
  refine ny_new (ci := 7) (N := 7) (tf := kt7) (fs := [.null, .null, .null, .null, .int 0, .int 0, .int 0]) (pc' := 45) dX11_init_42 rfl rfl ki7 kk7 cwX11_25 wsX7 wi_X7 df7 (Nat.le_of_ble_eq_true rfl) (Nat.le_of_ble_eq_true rfl) (fun q7 => ?_)
  refine ny_dup (pc' := 46) dX11_init_45 rfl rfl ?_
  refine ny_Il (z := YX7_init) (As := []) (pc' := 49) dX11_init_46 rfl (Or.inr nlX11_27) lcX7_init imX7_init rfl rfl rfl rfl (Nat.le_of_ble_eq_true rfl) (Nat.le_of_ble_eq_true rfl) (Nat.le_of_ble_eq_true rfl) (Nat.le_of_ble_eq_true rfl) (cX7 g q7) (fun w1 hw => ?_) (fun _ _ h => h.1)
  obtain ⟨-, b8, hb8, hw⟩ := hw
  subst hw
  subst hb8
  refine ny_eq (ws' := ((h0, .inr (11, [.ref (b2 0), .ref (b4 0), .ref (b6 0), .null, .null, .null, .null, .null, .null, .null, .null, .null, .null, .null, .null, .int 0, .int 0, .int 0, .int 0, .int 0])) :: (((wX10 g b2 ++ wX8 g b4 ((b2 0))) ++ wX7 g b6) ++ wX7 g b8))) rfl ?_
  refine ny_putF (i := 0) (ws' := ((h0, .inr (11, [.ref (b2 0), .ref (b4 0), .ref (b6 0), .ref (b8 0), .null, .null, .null, .null, .null, .null, .null, .null, .null, .null, .null, .int 0, .int 0, .int 0, .int 0, .int 0])) :: (((wX10 g b2 ++ wX8 g b4 ((b2 0))) ++ wX7 g b6) ++ wX7 g b8))) (pc' := 52) dX11_init_49 rfl fFX11_32 rfl rfl rfl rfl (Nat.le_of_ble_eq_true rfl) rfl ?_
  refine ny_aload_n 0 (pc' := 53) dX11_init_52 rfl rfl rfl ?_
  refine ny_new (ci := 1) (N := 11) (tf := kt1) (fs := [.null, .null, .null, .null, .null, .null, .null, .null, .null, .int 0, .int 0]) (pc' := 56) dX11_init_53 rfl rfl ki1 kk1 cwX11_35 wsX1 wi_X1 df1 (Nat.le_of_ble_eq_true rfl) (Nat.le_of_ble_eq_true rfl) (fun q9 => ?_)
  refine ny_dup (pc' := 57) dX11_init_56 rfl rfl ?_
  refine ny_Il (z := YX1_init) (As := []) (pc' := 60) dX11_init_57 rfl (Or.inl mlX11_37) lcX1_init imX1_init rfl rfl rfl rfl (Nat.le_of_ble_eq_true rfl) (Nat.le_of_ble_eq_true rfl) (Nat.le_of_ble_eq_true rfl) (Nat.le_of_ble_eq_true rfl) (cX1 g q9) (fun w1 hw => ?_) (fun _ _ h => h.1)
  obtain ⟨-, b10, hb10, hw⟩ := hw
  subst hw
  subst hb10
  refine ny_eq (ws' := ((h0, .inr (11, [.ref (b2 0), .ref (b4 0), .ref (b6 0), .ref (b8 0), .null, .null, .null, .null, .null, .null, .null, .null, .null, .null, .null, .int 0, .int 0, .int 0, .int 0, .int 0])) :: ((((wX10 g b2 ++ wX8 g b4 ((b2 0))) ++ wX7 g b6) ++ wX7 g b8) ++ wX1 g b10))) rfl ?_
  refine ny_putF (i := 0) (ws' := ((h0, .inr (11, [.ref (b2 0), .ref (b4 0), .ref (b6 0), .ref (b8 0), .ref (b10 0), .null, .null, .null, .null, .null, .null, .null, .null, .null, .null, .int 0, .int 0, .int 0, .int 0, .int 0])) :: ((((wX10 g b2 ++ wX8 g b4 ((b2 0))) ++ wX7 g b6) ++ wX7 g b8) ++ wX1 g b10))) (pc' := 63) dX11_init_60 rfl fFX11_38 rfl rfl rfl rfl (Nat.le_of_ble_eq_true rfl) rfl ?_
  refine ny_aload_n 0 (pc' := 64) dX11_init_63 rfl rfl rfl ?_
  refine ny_new (ci := 1) (N := 11) (tf := kt1) (fs := [.null, .null, .null, .null, .null, .null, .null, .null, .null, .int 0, .int 0]) (pc' := 67) dX11_init_64 rfl rfl ki1 kk1 cwX11_35 wsX1 wi_X1 df1 (Nat.le_of_ble_eq_true rfl) (Nat.le_of_ble_eq_true rfl) (fun q11 => ?_)
  refine ny_dup (pc' := 68) dX11_init_67 rfl rfl ?_
  refine ny_Il (z := YX1_init) (As := []) (pc' := 71) dX11_init_68 rfl (Or.inl mlX11_37) lcX1_init imX1_init rfl rfl rfl rfl (Nat.le_of_ble_eq_true rfl) (Nat.le_of_ble_eq_true rfl) (Nat.le_of_ble_eq_true rfl) (Nat.le_of_ble_eq_true rfl) (cX1 g q11) (fun w1 hw => ?_) (fun _ _ h => h.1)
  obtain ⟨-, b12, hb12, hw⟩ := hw
  subst hw
  subst hb12
  refine ny_eq (ws' := ((h0, .inr (11, [.ref (b2 0), .ref (b4 0), .ref (b6 0), .ref (b8 0), .ref (b10 0), .null, .null, .null, .null, .null, .null, .null, .null, .null, .null, .int 0, .int 0, .int 0, .int 0, .int 0])) :: (((((wX10 g b2 ++ wX8 g b4 ((b2 0))) ++ wX7 g b6) ++ wX7 g b8) ++ wX1 g b10) ++ wX1 g b12))) rfl ?_
  refine ny_putF (i := 0) (ws' := ((h0, .inr (11, [.ref (b2 0), .ref (b4 0), .ref (b6 0), .ref (b8 0), .ref (b10 0), .ref (b12 0), .null, .null, .null, .null, .null, .null, .null, .null, .null, .int 0, .int 0, .int 0, .int 0, .int 0])) :: (((((wX10 g b2 ++ wX8 g b4 ((b2 0))) ++ wX7 g b6) ++ wX7 g b8) ++ wX1 g b10) ++ wX1 g b12))) (pc' := 74) dX11_init_71 rfl fFX11_42 rfl rfl rfl rfl (Nat.le_of_ble_eq_true rfl) rfl ?_
  refine ny_aload_n 0 (pc' := 75) dX11_init_74 rfl rfl rfl ?_
  refine ny_new (ci := 9) (N := 11) (tf := kt9) (fs := [.null, .null, .null, .null, .null, .int 0, .int 0, .int 0, .int 0, .int 0, .int 0]) (pc' := 78) dX11_init_75 rfl rfl ki9 kk9 cwX11_45 wsX9 wi_X9 df9 (Nat.le_of_ble_eq_true rfl) (Nat.le_of_ble_eq_true rfl) (fun q13 => ?_)
  refine ny_dup (pc' := 79) dX11_init_78 rfl rfl ?_
  refine ny_Il (z := YX9_init) (As := []) (pc' := 82) dX11_init_79 rfl (Or.inr nlX11_47) lcX9_init imX9_init rfl rfl rfl rfl (Nat.le_of_ble_eq_true rfl) (Nat.le_of_ble_eq_true rfl) (Nat.le_of_ble_eq_true rfl) (Nat.le_of_ble_eq_true rfl) (cX9 g q13) (fun w1 hw => ?_) (fun _ _ h => h.1)
  obtain ⟨-, b14, hb14, hw⟩ := hw
  subst hw
  subst hb14
  refine ny_eq (ws' := ((h0, .inr (11, [.ref (b2 0), .ref (b4 0), .ref (b6 0), .ref (b8 0), .ref (b10 0), .ref (b12 0), .null, .null, .null, .null, .null, .null, .null, .null, .null, .int 0, .int 0, .int 0, .int 0, .int 0])) :: ((((((wX10 g b2 ++ wX8 g b4 ((b2 0))) ++ wX7 g b6) ++ wX7 g b8) ++ wX1 g b10) ++ wX1 g b12) ++ wX9 g b14))) rfl ?_
  refine ny_putF (i := 0) (ws' := ((h0, .inr (11, [.ref (b2 0), .ref (b4 0), .ref (b6 0), .ref (b8 0), .ref (b10 0), .ref (b12 0), .ref (b14 0), .null, .null, .null, .null, .null, .null, .null, .null, .int 0, .int 0, .int 0, .int 0, .int 0])) :: ((((((wX10 g b2 ++ wX8 g b4 ((b2 0))) ++ wX7 g b6) ++ wX7 g b8) ++ wX1 g b10) ++ wX1 g b12) ++ wX9 g b14))) (pc' := 85) dX11_init_82 rfl fFX11_48 rfl rfl rfl rfl (Nat.le_of_ble_eq_true rfl) rfl ?_
  refine ny_aload_n 0 (pc' := 86) dX11_init_85 rfl rfl rfl ?_
  refine ny_new (ci := 9) (N := 11) (tf := kt9) (fs := [.null, .null, .null, .null, .null, .int 0, .int 0, .int 0, .int 0, .int 0, .int 0]) (pc' := 89) dX11_init_86 rfl rfl ki9 kk9 cwX11_45 wsX9 wi_X9 df9 (Nat.le_of_ble_eq_true rfl) (Nat.le_of_ble_eq_true rfl) (fun q15 => ?_)
  refine ny_dup (pc' := 90) dX11_init_89 rfl rfl ?_
  refine ny_Il (z := YX9_init) (As := []) (pc' := 93) dX11_init_90 rfl (Or.inr nlX11_47) lcX9_init imX9_init rfl rfl rfl rfl (Nat.le_of_ble_eq_true rfl) (Nat.le_of_ble_eq_true rfl) (Nat.le_of_ble_eq_true rfl) (Nat.le_of_ble_eq_true rfl) (cX9 g q15) (fun w1 hw => ?_) (fun _ _ h => h.1)
  obtain ⟨-, b16, hb16, hw⟩ := hw
  subst hw
  subst hb16
  refine ny_eq (ws' := ((h0, .inr (11, [.ref (b2 0), .ref (b4 0), .ref (b6 0), .ref (b8 0), .ref (b10 0), .ref (b12 0), .ref (b14 0), .null, .null, .null, .null, .null, .null, .null, .null, .int 0, .int 0, .int 0, .int 0, .int 0])) :: (((((((wX10 g b2 ++ wX8 g b4 ((b2 0))) ++ wX7 g b6) ++ wX7 g b8) ++ wX1 g b10) ++ wX1 g b12) ++ wX9 g b14) ++ wX9 g b16))) rfl ?_
  refine ny_putF (i := 0) (ws' := ((h0, .inr (11, [.ref (b2 0), .ref (b4 0), .ref (b6 0), .ref (b8 0), .ref (b10 0), .ref (b12 0), .ref (b14 0), .ref (b16 0), .null, .null, .null, .null, .null, .null, .null, .int 0, .int 0, .int 0, .int 0, .int 0])) :: (((((((wX10 g b2 ++ wX8 g b4 ((b2 0))) ++ wX7 g b6) ++ wX7 g b8) ++ wX1 g b10) ++ wX1 g b12) ++ wX9 g b14) ++ wX9 g b16))) (pc' := 96) dX11_init_93 rfl fFX11_52 rfl rfl rfl rfl (Nat.le_of_ble_eq_true rfl) rfl ?_
  refine ny_aload_n 0 (pc' := 97) dX11_init_96 rfl rfl rfl ?_
  refine ny_new (ci := 3) (N := 3) (tf := kt3) (fs := [.null, .int 0, .int 0]) (pc' := 100) dX11_init_97 rfl rfl ki3 kk3 cwX11_55 wsX3 wi_X3 df3 (Nat.le_of_ble_eq_true rfl) (Nat.le_of_ble_eq_true rfl) (fun q17 => ?_)
  refine ny_dup (pc' := 101) dX11_init_100 rfl rfl ?_
  refine ny_Il (z := YX3_init) (As := []) (pc' := 104) dX11_init_101 rfl (Or.inl mlX11_57) lcX3_init imX3_init rfl rfl rfl rfl (Nat.le_of_ble_eq_true rfl) (Nat.le_of_ble_eq_true rfl) (Nat.le_of_ble_eq_true rfl) (Nat.le_of_ble_eq_true rfl) (cX3 g q17) (fun w1 hw => ?_) (fun _ _ h => h.1)
  obtain ⟨-, b18, hb18, hw⟩ := hw
  subst hw
  subst hb18
  refine ny_eq (ws' := ((h0, .inr (11, [.ref (b2 0), .ref (b4 0), .ref (b6 0), .ref (b8 0), .ref (b10 0), .ref (b12 0), .ref (b14 0), .ref (b16 0), .null, .null, .null, .null, .null, .null, .null, .int 0, .int 0, .int 0, .int 0, .int 0])) :: ((((((((wX10 g b2 ++ wX8 g b4 ((b2 0))) ++ wX7 g b6) ++ wX7 g b8) ++ wX1 g b10) ++ wX1 g b12) ++ wX9 g b14) ++ wX9 g b16) ++ wX3 g b18))) rfl ?_
  refine ny_putF (i := 0) (ws' := ((h0, .inr (11, [.ref (b2 0), .ref (b4 0), .ref (b6 0), .ref (b8 0), .ref (b10 0), .ref (b12 0), .ref (b14 0), .ref (b16 0), .ref (b18 0), .null, .null, .null, .null, .null, .null, .int 0, .int 0, .int 0, .int 0, .int 0])) :: ((((((((wX10 g b2 ++ wX8 g b4 ((b2 0))) ++ wX7 g b6) ++ wX7 g b8) ++ wX1 g b10) ++ wX1 g b12) ++ wX9 g b14) ++ wX9 g b16) ++ wX3 g b18))) (pc' := 107) dX11_init_104 rfl fFX11_58 rfl rfl rfl rfl (Nat.le_of_ble_eq_true rfl) rfl ?_
  refine ny_aload_n 0 (pc' := 108) dX11_init_107 rfl rfl rfl ?_
  refine ny_iconst (pc' := 109) dX11_init_108 rfl kiconst_2 ?_
  refine ny_newK (N := 2) (pc' := 112) dX11_init_109 rfl cwX11_62 (by decide) (by decide) (by decide) (Nat.le_of_ble_eq_true rfl) (Nat.le_of_ble_eq_true rfl) (fun q19 => ?_)
  refine ny_eq (ws' := ((h0, .inr (11, [.ref (b2 0), .ref (b4 0), .ref (b6 0), .ref (b8 0), .ref (b10 0), .ref (b12 0), .ref (b14 0), .ref (b16 0), .ref (b18 0), .null, .null, .null, .null, .null, .null, .int 0, .int 0, .int 0, .int 0, .int 0])) :: (((((((((wX10 g b2 ++ wX8 g b4 ((b2 0))) ++ wX7 g b6) ++ wX7 g b8) ++ wX1 g b10) ++ wX1 g b12) ++ wX9 g b14) ++ wX9 g b16) ++ wX3 g b18) ++ [(q19, .inl (g.2.1 5, 2, .inr (.inr (.inr (.inr (fun _ => none))))))]))) rfl ?_
  refine ny_putF (i := 0) (ws' := ((h0, .inr (11, [.ref (b2 0), .ref (b4 0), .ref (b6 0), .ref (b8 0), .ref (b10 0), .ref (b12 0), .ref (b14 0), .ref (b16 0), .ref (b18 0), .ref q19, .null, .null, .null, .null, .null, .int 0, .int 0, .int 0, .int 0, .int 0])) :: (((((((((wX10 g b2 ++ wX8 g b4 ((b2 0))) ++ wX7 g b6) ++ wX7 g b8) ++ wX1 g b10) ++ wX1 g b12) ++ wX9 g b14) ++ wX9 g b16) ++ wX3 g b18) ++ [(q19, .inl (g.2.1 5, 2, .inr (.inr (.inr (.inr (fun _ => none))))))]))) (pc' := 115) dX11_init_112 rfl fFX11_64 rfl rfl rfl rfl (Nat.le_of_ble_eq_true rfl) rfl ?_
  refine ny_aload_n 0 (pc' := 116) dX11_init_115 rfl rfl rfl ?_
  refine ny_new (ci := 0) (N := 10) (tf := kt0) (fs := [.null, .null, .null, .null, .int 0, .int 0, .int 0, .int 0, .int 0, .int 0]) (pc' := 119) dX11_init_116 rfl rfl ki0 kk0 cwX11_68 wsX0 wi_X0 df0 (Nat.le_of_ble_eq_true rfl) (Nat.le_of_ble_eq_true rfl) (fun q20 => ?_)
  refine ny_dup (pc' := 120) dX11_init_119 rfl rfl ?_
  refine ny_Il (z := YX0_init) (As := []) (pc' := 123) dX11_init_120 rfl (Or.inr nlX11_70) lcX0_init imX0_init rfl rfl rfl rfl (Nat.le_of_ble_eq_true rfl) (Nat.le_of_ble_eq_true rfl) (Nat.le_of_ble_eq_true rfl) (Nat.le_of_ble_eq_true rfl) (cX0 g q20) (fun w1 hw => ?_) (fun _ _ h => h.1)
  obtain ⟨-, b21, hb21, hw⟩ := hw
  subst hw
  subst hb21
  refine ny_eq (ws' := ((h0, .inr (11, [.ref (b2 0), .ref (b4 0), .ref (b6 0), .ref (b8 0), .ref (b10 0), .ref (b12 0), .ref (b14 0), .ref (b16 0), .ref (b18 0), .ref q19, .null, .null, .null, .null, .null, .int 0, .int 0, .int 0, .int 0, .int 0])) :: ((((((((((wX10 g b2 ++ wX8 g b4 ((b2 0))) ++ wX7 g b6) ++ wX7 g b8) ++ wX1 g b10) ++ wX1 g b12) ++ wX9 g b14) ++ wX9 g b16) ++ wX3 g b18) ++ [(q19, .inl (g.2.1 5, 2, .inr (.inr (.inr (.inr (fun _ => none))))))]) ++ wX0 g b21))) rfl ?_
  refine ny_putF (i := 0) (ws' := ((h0, .inr (11, [.ref (b2 0), .ref (b4 0), .ref (b6 0), .ref (b8 0), .ref (b10 0), .ref (b12 0), .ref (b14 0), .ref (b16 0), .ref (b18 0), .ref q19, .ref (b21 0), .null, .null, .null, .null, .int 0, .int 0, .int 0, .int 0, .int 0])) :: ((((((((((wX10 g b2 ++ wX8 g b4 ((b2 0))) ++ wX7 g b6) ++ wX7 g b8) ++ wX1 g b10) ++ wX1 g b12) ++ wX9 g b14) ++ wX9 g b16) ++ wX3 g b18) ++ [(q19, .inl (g.2.1 5, 2, .inr (.inr (.inr (.inr (fun _ => none))))))]) ++ wX0 g b21))) (pc' := 126) dX11_init_123 rfl fFX11_71 rfl rfl rfl rfl (Nat.le_of_ble_eq_true rfl) rfl ?_
  refine ny_aload_n 0 (pc' := 127) dX11_init_126 rfl rfl rfl ?_
  refine ny_new (ci := 6) (N := 4) (tf := kt6) (fs := [.null, .null, .int 0, .int 0]) (pc' := 130) dX11_init_127 rfl rfl ki6 kk6 cwX11_75 wsX6 wi_X6 df6 (Nat.le_of_ble_eq_true rfl) (Nat.le_of_ble_eq_true rfl) (fun q22 => ?_)
  refine ny_dup (pc' := 131) dX11_init_130 rfl rfl ?_
  refine ny_Il (z := YX6_init) (As := []) (pc' := 134) dX11_init_131 rfl (Or.inl mlX11_77) lcX6_init imX6_init rfl rfl rfl rfl (Nat.le_of_ble_eq_true rfl) (Nat.le_of_ble_eq_true rfl) (Nat.le_of_ble_eq_true rfl) (Nat.le_of_ble_eq_true rfl) (cX6 g q22) (fun w1 hw => ?_) (fun _ _ h => h.1)
  obtain ⟨-, b23, hb23, hw⟩ := hw
  subst hw
  subst hb23
  refine ny_eq (ws' := ((h0, .inr (11, [.ref (b2 0), .ref (b4 0), .ref (b6 0), .ref (b8 0), .ref (b10 0), .ref (b12 0), .ref (b14 0), .ref (b16 0), .ref (b18 0), .ref q19, .ref (b21 0), .null, .null, .null, .null, .int 0, .int 0, .int 0, .int 0, .int 0])) :: (((((((((((wX10 g b2 ++ wX8 g b4 ((b2 0))) ++ wX7 g b6) ++ wX7 g b8) ++ wX1 g b10) ++ wX1 g b12) ++ wX9 g b14) ++ wX9 g b16) ++ wX3 g b18) ++ [(q19, .inl (g.2.1 5, 2, .inr (.inr (.inr (.inr (fun _ => none))))))]) ++ wX0 g b21) ++ wX6 g b23))) rfl ?_
  refine ny_putF (i := 0) (ws' := ((h0, .inr (11, [.ref (b2 0), .ref (b4 0), .ref (b6 0), .ref (b8 0), .ref (b10 0), .ref (b12 0), .ref (b14 0), .ref (b16 0), .ref (b18 0), .ref q19, .ref (b21 0), .ref (b23 0), .null, .null, .null, .int 0, .int 0, .int 0, .int 0, .int 0])) :: (((((((((((wX10 g b2 ++ wX8 g b4 ((b2 0))) ++ wX7 g b6) ++ wX7 g b8) ++ wX1 g b10) ++ wX1 g b12) ++ wX9 g b14) ++ wX9 g b16) ++ wX3 g b18) ++ [(q19, .inl (g.2.1 5, 2, .inr (.inr (.inr (.inr (fun _ => none))))))]) ++ wX0 g b21) ++ wX6 g b23))) (pc' := 137) dX11_init_134 rfl fFX11_78 rfl rfl rfl rfl (Nat.le_of_ble_eq_true rfl) rfl ?_
  refine ny_aload_n 0 (pc' := 138) dX11_init_137 rfl rfl rfl ?_
  refine ny_new (ci := 2) (N := 1) (tf := kt2) (fs := [.int 0]) (pc' := 141) dX11_init_138 rfl rfl ki2 kk2 cwX11_82 wsX2 wi_X2 df2 (Nat.le_of_ble_eq_true rfl) (Nat.le_of_ble_eq_true rfl) (fun q24 => ?_)
  refine ny_dup (pc' := 142) dX11_init_141 rfl rfl ?_
  refine ny_Il (z := YX2_init) (As := []) (pc' := 145) dX11_init_142 rfl (Or.inr nlX11_84) lcX2_init imX2_init rfl rfl rfl rfl (Nat.le_of_ble_eq_true rfl) (Nat.le_of_ble_eq_true rfl) (Nat.le_of_ble_eq_true rfl) (Nat.le_of_ble_eq_true rfl) (cX2 g q24) (fun w1 hw => ?_) (fun _ _ h => h.1)
  obtain ⟨-, b25, hb25, hw⟩ := hw
  subst hw
  subst hb25
  refine ny_eq (ws' := ((h0, .inr (11, [.ref (b2 0), .ref (b4 0), .ref (b6 0), .ref (b8 0), .ref (b10 0), .ref (b12 0), .ref (b14 0), .ref (b16 0), .ref (b18 0), .ref q19, .ref (b21 0), .ref (b23 0), .null, .null, .null, .int 0, .int 0, .int 0, .int 0, .int 0])) :: ((((((((((((wX10 g b2 ++ wX8 g b4 ((b2 0))) ++ wX7 g b6) ++ wX7 g b8) ++ wX1 g b10) ++ wX1 g b12) ++ wX9 g b14) ++ wX9 g b16) ++ wX3 g b18) ++ [(q19, .inl (g.2.1 5, 2, .inr (.inr (.inr (.inr (fun _ => none))))))]) ++ wX0 g b21) ++ wX6 g b23) ++ wX2 g b25))) rfl ?_
  refine ny_putF (i := 0) (ws' := ((h0, .inr (11, [.ref (b2 0), .ref (b4 0), .ref (b6 0), .ref (b8 0), .ref (b10 0), .ref (b12 0), .ref (b14 0), .ref (b16 0), .ref (b18 0), .ref q19, .ref (b21 0), .ref (b23 0), .ref (b25 0), .null, .null, .int 0, .int 0, .int 0, .int 0, .int 0])) :: ((((((((((((wX10 g b2 ++ wX8 g b4 ((b2 0))) ++ wX7 g b6) ++ wX7 g b8) ++ wX1 g b10) ++ wX1 g b12) ++ wX9 g b14) ++ wX9 g b16) ++ wX3 g b18) ++ [(q19, .inl (g.2.1 5, 2, .inr (.inr (.inr (.inr (fun _ => none))))))]) ++ wX0 g b21) ++ wX6 g b23) ++ wX2 g b25))) (pc' := 148) dX11_init_145 rfl fFX11_85 rfl rfl rfl rfl (Nat.le_of_ble_eq_true rfl) rfl ?_
  refine ny_aload_n 0 (pc' := 149) dX11_init_148 rfl rfl rfl ?_
  refine ny_new (ci := 5) (N := 2) (tf := kt5) (fs := [.null, .int 0]) (pc' := 152) dX11_init_149 rfl rfl ki5 kk5 cwX11_89 wsX5 wi_X5 df5 (Nat.le_of_ble_eq_true rfl) (Nat.le_of_ble_eq_true rfl) (fun q26 => ?_)
  refine ny_dup (pc' := 153) dX11_init_152 rfl rfl ?_
  refine ny_Il (z := YX5_init) (As := []) (pc' := 156) dX11_init_153 rfl (Or.inr nlX11_91) lcX5_init imX5_init rfl rfl rfl rfl (Nat.le_of_ble_eq_true rfl) (Nat.le_of_ble_eq_true rfl) (Nat.le_of_ble_eq_true rfl) (Nat.le_of_ble_eq_true rfl) (cX5 g q26) (fun w1 hw => ?_) (fun _ _ h => h.1)
  obtain ⟨-, b27, hb27, hw⟩ := hw
  subst hw
  subst hb27
  refine ny_eq (ws' := ((h0, .inr (11, [.ref (b2 0), .ref (b4 0), .ref (b6 0), .ref (b8 0), .ref (b10 0), .ref (b12 0), .ref (b14 0), .ref (b16 0), .ref (b18 0), .ref q19, .ref (b21 0), .ref (b23 0), .ref (b25 0), .null, .null, .int 0, .int 0, .int 0, .int 0, .int 0])) :: (((((((((((((wX10 g b2 ++ wX8 g b4 ((b2 0))) ++ wX7 g b6) ++ wX7 g b8) ++ wX1 g b10) ++ wX1 g b12) ++ wX9 g b14) ++ wX9 g b16) ++ wX3 g b18) ++ [(q19, .inl (g.2.1 5, 2, .inr (.inr (.inr (.inr (fun _ => none))))))]) ++ wX0 g b21) ++ wX6 g b23) ++ wX2 g b25) ++ wX5 g b27))) rfl ?_
  refine ny_putF (i := 0) (ws' := ((h0, .inr (11, [.ref (b2 0), .ref (b4 0), .ref (b6 0), .ref (b8 0), .ref (b10 0), .ref (b12 0), .ref (b14 0), .ref (b16 0), .ref (b18 0), .ref q19, .ref (b21 0), .ref (b23 0), .ref (b25 0), .ref (b27 0), .null, .int 0, .int 0, .int 0, .int 0, .int 0])) :: (((((((((((((wX10 g b2 ++ wX8 g b4 ((b2 0))) ++ wX7 g b6) ++ wX7 g b8) ++ wX1 g b10) ++ wX1 g b12) ++ wX9 g b14) ++ wX9 g b16) ++ wX3 g b18) ++ [(q19, .inl (g.2.1 5, 2, .inr (.inr (.inr (.inr (fun _ => none))))))]) ++ wX0 g b21) ++ wX6 g b23) ++ wX2 g b25) ++ wX5 g b27))) (pc' := 159) dX11_init_156 rfl fFX11_92 rfl rfl rfl rfl (Nat.le_of_ble_eq_true rfl) rfl ?_
  refine ny_aload_n 0 (pc' := 160) dX11_init_159 rfl rfl rfl ?_
  refine ny_bipush (pc' := 162) dX11_init_160 rfl kbipush_8 ?_
  refine ny_newI (N := 8) (pc' := 164) dX11_init_162 rfl wA0 (by decide) (by decide) (by decide) (Nat.le_of_ble_eq_true rfl) (Nat.le_of_ble_eq_true rfl) (fun q28 => ?_)
  refine ny_eq (ws' := ((h0, .inr (11, [.ref (b2 0), .ref (b4 0), .ref (b6 0), .ref (b8 0), .ref (b10 0), .ref (b12 0), .ref (b14 0), .ref (b16 0), .ref (b18 0), .ref q19, .ref (b21 0), .ref (b23 0), .ref (b25 0), .ref (b27 0), .null, .int 0, .int 0, .int 0, .int 0, .int 0])) :: ((((((((((((((wX10 g b2 ++ wX8 g b4 ((b2 0))) ++ wX7 g b6) ++ wX7 g b8) ++ wX1 g b10) ++ wX1 g b12) ++ wX9 g b14) ++ wX9 g b16) ++ wX3 g b18) ++ [(q19, .inl (g.2.1 5, 2, .inr (.inr (.inr (.inr (fun _ => none))))))]) ++ wX0 g b21) ++ wX6 g b23) ++ wX2 g b25) ++ wX5 g b27) ++ [(q28, .inl (g.2.1 0, 8, .inl (fun _ => 0)))]))) rfl ?_
  refine ny_putF (i := 0) (ws' := ((h0, .inr (11, [.ref (b2 0), .ref (b4 0), .ref (b6 0), .ref (b8 0), .ref (b10 0), .ref (b12 0), .ref (b14 0), .ref (b16 0), .ref (b18 0), .ref q19, .ref (b21 0), .ref (b23 0), .ref (b25 0), .ref (b27 0), .ref q28, .int 0, .int 0, .int 0, .int 0, .int 0])) :: ((((((((((((((wX10 g b2 ++ wX8 g b4 ((b2 0))) ++ wX7 g b6) ++ wX7 g b8) ++ wX1 g b10) ++ wX1 g b12) ++ wX9 g b14) ++ wX9 g b16) ++ wX3 g b18) ++ [(q19, .inl (g.2.1 5, 2, .inr (.inr (.inr (.inr (fun _ => none))))))]) ++ wX0 g b21) ++ wX6 g b23) ++ wX2 g b25) ++ wX5 g b27) ++ [(q28, .inl (g.2.1 0, 8, .inl (fun _ => 0)))]))) (pc' := 167) dX11_init_164 rfl fFX11_96 rfl rfl rfl rfl (Nat.le_of_ble_eq_true rfl) rfl ?_
  refine ny_aload_n 0 (pc' := 168) dX11_init_167 rfl rfl rfl ?_
  refine ny_iconst (pc' := 169) dX11_init_168 rfl kiconst_m1 ?_
  refine ny_put (i := 0) (ws' := ((h0, .inr (11, [.ref (b2 0), .ref (b4 0), .ref (b6 0), .ref (b8 0), .ref (b10 0), .ref (b12 0), .ref (b14 0), .ref (b16 0), .ref (b18 0), .ref q19, .ref (b21 0), .ref (b23 0), .ref (b25 0), .ref (b27 0), .ref q28, .int (-1), .int 0, .int 0, .int 0, .int 0])) :: ((((((((((((((wX10 g b2 ++ wX8 g b4 ((b2 0))) ++ wX7 g b6) ++ wX7 g b8) ++ wX1 g b10) ++ wX1 g b12) ++ wX9 g b14) ++ wX9 g b16) ++ wX3 g b18) ++ [(q19, .inl (g.2.1 5, 2, .inr (.inr (.inr (.inr (fun _ => none))))))]) ++ wX0 g b21) ++ wX6 g b23) ++ wX2 g b25) ++ wX5 g b27) ++ [(q28, .inl (g.2.1 0, 8, .inl (fun _ => 0)))]))) (pc' := 172) dX11_init_169 rfl fpX11_100 rfl rfl rfl (Nat.le_of_ble_eq_true rfl) rfl ?_
  refine ny_aload_n 0 (pc' := 173) dX11_init_172 rfl rfl rfl ?_
  refine ny_iconst (pc' := 174) dX11_init_173 rfl kiconst_m1 ?_
  refine ny_put (i := 0) (ws' := ((h0, .inr (11, [.ref (b2 0), .ref (b4 0), .ref (b6 0), .ref (b8 0), .ref (b10 0), .ref (b12 0), .ref (b14 0), .ref (b16 0), .ref (b18 0), .ref q19, .ref (b21 0), .ref (b23 0), .ref (b25 0), .ref (b27 0), .ref q28, .int (-1), .int 0, .int (-1), .int 0, .int 0])) :: ((((((((((((((wX10 g b2 ++ wX8 g b4 ((b2 0))) ++ wX7 g b6) ++ wX7 g b8) ++ wX1 g b10) ++ wX1 g b12) ++ wX9 g b14) ++ wX9 g b16) ++ wX3 g b18) ++ [(q19, .inl (g.2.1 5, 2, .inr (.inr (.inr (.inr (fun _ => none))))))]) ++ wX0 g b21) ++ wX6 g b23) ++ wX2 g b25) ++ wX5 g b27) ++ [(q28, .inl (g.2.1 0, 8, .inl (fun _ => 0)))]))) (pc' := 177) dX11_init_174 rfl fpX11_104 rfl rfl rfl (Nat.le_of_ble_eq_true rfl) rfl ?_
  refine ny_aload_n 0 (pc' := 178) dX11_init_177 rfl rfl rfl ?_
  refine ny_iconst (pc' := 179) dX11_init_178 rfl kiconst_m1 ?_
  refine ny_put (i := 0) (ws' := ((h0, .inr (11, [.ref (b2 0), .ref (b4 0), .ref (b6 0), .ref (b8 0), .ref (b10 0), .ref (b12 0), .ref (b14 0), .ref (b16 0), .ref (b18 0), .ref q19, .ref (b21 0), .ref (b23 0), .ref (b25 0), .ref (b27 0), .ref q28, .int (-1), .int 0, .int (-1), .int (-1), .int 0])) :: ((((((((((((((wX10 g b2 ++ wX8 g b4 ((b2 0))) ++ wX7 g b6) ++ wX7 g b8) ++ wX1 g b10) ++ wX1 g b12) ++ wX9 g b14) ++ wX9 g b16) ++ wX3 g b18) ++ [(q19, .inl (g.2.1 5, 2, .inr (.inr (.inr (.inr (fun _ => none))))))]) ++ wX0 g b21) ++ wX6 g b23) ++ wX2 g b25) ++ wX5 g b27) ++ [(q28, .inl (g.2.1 0, 8, .inl (fun _ => 0)))]))) (pc' := 182) dX11_init_179 rfl fpX11_107 rfl rfl rfl (Nat.le_of_ble_eq_true rfl) rfl ?_
  refine ny_aload_n 0 (pc' := 183) dX11_init_182 rfl rfl rfl ?_
  refine ny_iconst (pc' := 184) dX11_init_183 rfl kiconst_m1 ?_
  refine ny_put (i := 0) (ws' := ((h0, .inr (11, [.ref (b2 0), .ref (b4 0), .ref (b6 0), .ref (b8 0), .ref (b10 0), .ref (b12 0), .ref (b14 0), .ref (b16 0), .ref (b18 0), .ref q19, .ref (b21 0), .ref (b23 0), .ref (b25 0), .ref (b27 0), .ref q28, .int (-1), .int 0, .int (-1), .int (-1), .int (-1)])) :: ((((((((((((((wX10 g b2 ++ wX8 g b4 ((b2 0))) ++ wX7 g b6) ++ wX7 g b8) ++ wX1 g b10) ++ wX1 g b12) ++ wX9 g b14) ++ wX9 g b16) ++ wX3 g b18) ++ [(q19, .inl (g.2.1 5, 2, .inr (.inr (.inr (.inr (fun _ => none))))))]) ++ wX0 g b21) ++ wX6 g b23) ++ wX2 g b25) ++ wX5 g b27) ++ [(q28, .inl (g.2.1 0, 8, .inl (fun _ => 0)))]))) (pc' := 187) dX11_init_184 rfl fpX11_110 rfl rfl rfl (Nat.le_of_ble_eq_true rfl) rfl ?_
  refine ny_iconst (pc' := 188) dX11_init_187 rfl kiconst_0 ?_
  refine ny_istore_n (L' := [(1, .int 0), (0, .ref h0)]) (pc' := 189) dX11_init_188 rfl rfl (by decide) rfl ?_
  refine ny_iload_n 0 (pc' := 190) dX11_init_189 rfl rfl rfl ?_
  refine ny_iconst (pc' := 191) dX11_init_190 rfl kiconst_2 ?_
  refine ny_icmp_ge (tgt := 213) (pc' := 194) dX11_init_191 rfl (by decide) (fun c => absurd c (by decide)) (fun _ => ?_)
  refine ny_aload_n 1 (pc' := 195) dX11_init_194 rfl rfl rfl ?_
  refine ny_get (i := 0) (pc' := 198) dX11_init_195 rfl flX11_64 rfl rfl ?_
  refine ny_iload_n 0 (pc' := 199) dX11_init_198 rfl rfl rfl ?_
  refine ny_new (ci := 4) (N := 4) (tf := kt4) (fs := [.null, .null, .null, .int 0]) (pc' := 202) dX11_init_199 rfl rfl ki4 kk4 cwX11_62 wsX4 wi_X4 df4 (Nat.le_of_ble_eq_true rfl) (Nat.le_of_ble_eq_true rfl) (fun q29 => ?_)
  refine ny_dup (pc' := 203) dX11_init_202 rfl rfl ?_
  refine ny_Il (z := YX4_init) (As := []) (pc' := 206) dX11_init_203 rfl (Or.inr nlX11_113) lcX4_init imX4_init rfl rfl rfl rfl (Nat.le_of_ble_eq_true rfl) (Nat.le_of_ble_eq_true rfl) (Nat.le_of_ble_eq_true rfl) (Nat.le_of_ble_eq_true rfl) (cX4 g q29) (fun w1 hw => ?_) (fun _ _ h => h.1)
  obtain ⟨-, b30, hb30, hw⟩ := hw
  subst hw
  subst hb30
  refine ny_eq (ws' := ((h0, .inr (11, [.ref (b2 0), .ref (b4 0), .ref (b6 0), .ref (b8 0), .ref (b10 0), .ref (b12 0), .ref (b14 0), .ref (b16 0), .ref (b18 0), .ref q19, .ref (b21 0), .ref (b23 0), .ref (b25 0), .ref (b27 0), .ref q28, .int (-1), .int 0, .int (-1), .int (-1), .int (-1)])) :: (((((((((((((((wX10 g b2 ++ wX8 g b4 ((b2 0))) ++ wX7 g b6) ++ wX7 g b8) ++ wX1 g b10) ++ wX1 g b12) ++ wX9 g b14) ++ wX9 g b16) ++ wX3 g b18) ++ [(q19, .inl (g.2.1 5, 2, .inr (.inr (.inr (.inr (fun _ => none))))))]) ++ wX0 g b21) ++ wX6 g b23) ++ wX2 g b25) ++ wX5 g b27) ++ [(q28, .inl (g.2.1 0, 8, .inl (fun _ => 0)))]) ++ wX4 g b30))) rfl ?_
  refine ny_astK (i := 129) (i2 := 142) (ws' := ((h0, .inr (11, [.ref (b2 0), .ref (b4 0), .ref (b6 0), .ref (b8 0), .ref (b10 0), .ref (b12 0), .ref (b14 0), .ref (b16 0), .ref (b18 0), .ref q19, .ref (b21 0), .ref (b23 0), .ref (b25 0), .ref (b27 0), .ref q28, .int (-1), .int 0, .int (-1), .int (-1), .int (-1)])) :: (((((((((((((((wX10 g b2 ++ wX8 g b4 ((b2 0))) ++ wX7 g b6) ++ wX7 g b8) ++ wX1 g b10) ++ wX1 g b12) ++ wX9 g b14) ++ wX9 g b16) ++ wX3 g b18) ++ [(q19, .inl (g.2.1 5, 2, .inr (.inr (.inr (.inr (va_up (fun _ => none) 0 (some (b30 0))))))))]) ++ wX0 g b21) ++ wX6 g b23) ++ wX2 g b25) ++ wX5 g b27) ++ [(q28, .inl (g.2.1 0, 8, .inl (fun _ => 0)))]) ++ wX4 g b30))) (pc' := 207) dX11_init_206 rfl rfl rfl (zin_in (by decide)) rfl ?_
  refine ny_iinc 0 (v := 1) (L' := [(1, .int 1), (0, .ref h0)]) (pc' := 210) dX11_init_207 rfl rfl (by decide) (by decide) rfl ?_
  refine ny_goto (tgt := 189) dX11_init_210 (by decide) ?_
  refine ny_iload_n 0 (pc' := 190) dX11_init_189 rfl rfl rfl ?_
  refine ny_iconst (pc' := 191) dX11_init_190 rfl kiconst_2 ?_
  refine ny_icmp_ge (tgt := 213) (pc' := 194) dX11_init_191 rfl (by decide) (fun c => absurd c (by decide)) (fun _ => ?_)
  refine ny_aload_n 1 (pc' := 195) dX11_init_194 rfl rfl rfl ?_
  refine ny_get (i := 0) (pc' := 198) dX11_init_195 rfl flX11_64 rfl rfl ?_
  refine ny_iload_n 0 (pc' := 199) dX11_init_198 rfl rfl rfl ?_
  refine ny_new (ci := 4) (N := 4) (tf := kt4) (fs := [.null, .null, .null, .int 0]) (pc' := 202) dX11_init_199 rfl rfl ki4 kk4 cwX11_62 wsX4 wi_X4 df4 (Nat.le_of_ble_eq_true rfl) (Nat.le_of_ble_eq_true rfl) (fun q31 => ?_)
  refine ny_dup (pc' := 203) dX11_init_202 rfl rfl ?_
  refine ny_Il (z := YX4_init) (As := []) (pc' := 206) dX11_init_203 rfl (Or.inr nlX11_113) lcX4_init imX4_init rfl rfl rfl rfl (Nat.le_of_ble_eq_true rfl) (Nat.le_of_ble_eq_true rfl) (Nat.le_of_ble_eq_true rfl) (Nat.le_of_ble_eq_true rfl) (cX4 g q31) (fun w1 hw => ?_) (fun _ _ h => h.1)
  obtain ⟨-, b32, hb32, hw⟩ := hw
  subst hw
  subst hb32
  refine ny_eq (ws' := ((h0, .inr (11, [.ref (b2 0), .ref (b4 0), .ref (b6 0), .ref (b8 0), .ref (b10 0), .ref (b12 0), .ref (b14 0), .ref (b16 0), .ref (b18 0), .ref q19, .ref (b21 0), .ref (b23 0), .ref (b25 0), .ref (b27 0), .ref q28, .int (-1), .int 0, .int (-1), .int (-1), .int (-1)])) :: ((((((((((((((((wX10 g b2 ++ wX8 g b4 ((b2 0))) ++ wX7 g b6) ++ wX7 g b8) ++ wX1 g b10) ++ wX1 g b12) ++ wX9 g b14) ++ wX9 g b16) ++ wX3 g b18) ++ [(q19, .inl (g.2.1 5, 2, .inr (.inr (.inr (.inr (va_up (fun _ => none) 0 (some (b30 0))))))))]) ++ wX0 g b21) ++ wX6 g b23) ++ wX2 g b25) ++ wX5 g b27) ++ [(q28, .inl (g.2.1 0, 8, .inl (fun _ => 0)))]) ++ wX4 g b30) ++ wX4 g b32))) rfl ?_
  refine ny_astK (i := 129) (i2 := 164) (ws' := ((h0, .inr (11, [.ref (b2 0), .ref (b4 0), .ref (b6 0), .ref (b8 0), .ref (b10 0), .ref (b12 0), .ref (b14 0), .ref (b16 0), .ref (b18 0), .ref q19, .ref (b21 0), .ref (b23 0), .ref (b25 0), .ref (b27 0), .ref q28, .int (-1), .int 0, .int (-1), .int (-1), .int (-1)])) :: ((((((((((((((((wX10 g b2 ++ wX8 g b4 ((b2 0))) ++ wX7 g b6) ++ wX7 g b8) ++ wX1 g b10) ++ wX1 g b12) ++ wX9 g b14) ++ wX9 g b16) ++ wX3 g b18) ++ [(q19, .inl (g.2.1 5, 2, .inr (.inr (.inr (.inr (va_up (va_up (fun _ => none) 0 (some (b30 0))) 1 (some (b32 0))))))))]) ++ wX0 g b21) ++ wX6 g b23) ++ wX2 g b25) ++ wX5 g b27) ++ [(q28, .inl (g.2.1 0, 8, .inl (fun _ => 0)))]) ++ wX4 g b30) ++ wX4 g b32))) (pc' := 207) dX11_init_206 rfl rfl rfl (zin_in (by decide)) rfl ?_
  refine ny_iinc 0 (v := 2) (L' := [(1, .int 2), (0, .ref h0)]) (pc' := 210) dX11_init_207 rfl rfl (by decide) (by decide) rfl ?_
  refine ny_goto (tgt := 189) dX11_init_210 (by decide) ?_
  refine ny_iload_n 0 (pc' := 190) dX11_init_189 rfl rfl rfl ?_
  refine ny_iconst (pc' := 191) dX11_init_190 rfl kiconst_2 ?_
  refine ny_icmp_ge (tgt := 213) (pc' := 194) dX11_init_191 rfl (by decide) (fun _ => ?_) (fun c => absurd (by decide) c)
  refine ny_eq (ws' := wX11 g (fun i => ([h0, b2 0, b2 1, b4 0, b4 1, b6 0, b6 1, b6 2, b6 3, b6 4, b8 0, b8 1, b8 2, b8 3, b8 4, b10 0, b10 1, b10 2, b10 3, b10 4, b10 5, b10 6, b10 7, b10 8, b10 9, b12 0, b12 1, b12 2, b12 3, b12 4, b12 5, b12 6, b12 7, b12 8, b12 9, b14 0, b14 1, b14 2, b14 3, b14 4, b14 5, b16 0, b16 1, b16 2, b16 3, b16 4, b16 5, b18 0, b18 1, b18 2, b18 3, b18 4, b18 5, b18 6, b18 7, b18 8, b18 9, b18 10, b18 11, b18 12, b18 13, b18 14, b18 15, b18 16, b18 17, b18 18, b18 19, b18 20, b18 21, b18 22, b18 23, b18 24, b18 25, b18 26, b18 27, b18 28, b18 29, b18 30, b18 31, b18 32, b18 33, b18 34, b18 35, b18 36, b18 37, b18 38, b18 39, b18 40, b18 41, b18 42, b18 43, b18 44, b18 45, b18 46, b18 47, b18 48, b18 49, b18 50, b18 51, b18 52, b18 53, b18 54, b18 55, b18 56, b18 57, b18 58, b18 59, b18 60, b18 61, b18 62, b18 63, b18 64, b18 65, b18 66, b18 67, b18 68, b18 69, b18 70, b18 71, b18 72, b18 73, b18 74, b18 75, b18 76, b18 77, b18 78, b18 79, b18 80, b18 81, q19, b30 0, b30 1, b30 2, b30 3, b30 4, b30 5, b30 6, b30 7, b30 8, b30 9, b30 10, b30 11, b30 12, b30 13, b30 14, b30 15, b30 16, b30 17, b30 18, b30 19, b30 20, b30 21, b32 0, b32 1, b32 2, b32 3, b32 4, b32 5, b32 6, b32 7, b32 8, b32 9, b32 10, b32 11, b32 12, b32 13, b32 14, b32 15, b32 16, b32 17, b32 18, b32 19, b32 20, b32 21, b21 0, b21 1, b21 2, b21 3, b21 4, b23 0, b23 1, b23 2, b25 0, b27 0, b27 1, q28] : List Nat).getD i 0)) ?_ ?_
  · rw [zrefs2]; rfl
  exact ny_vret dX11_init_213 rfl (Nat.le_of_ble_eq_true rfl) (Nat.le_of_ble_eq_true rfl) ⟨rfl, fun i => ([h0, b2 0, b2 1, b4 0, b4 1, b6 0, b6 1, b6 2, b6 3, b6 4, b8 0, b8 1, b8 2, b8 3, b8 4, b10 0, b10 1, b10 2, b10 3, b10 4, b10 5, b10 6, b10 7, b10 8, b10 9, b12 0, b12 1, b12 2, b12 3, b12 4, b12 5, b12 6, b12 7, b12 8, b12 9, b14 0, b14 1, b14 2, b14 3, b14 4, b14 5, b16 0, b16 1, b16 2, b16 3, b16 4, b16 5, b18 0, b18 1, b18 2, b18 3, b18 4, b18 5, b18 6, b18 7, b18 8, b18 9, b18 10, b18 11, b18 12, b18 13, b18 14, b18 15, b18 16, b18 17, b18 18, b18 19, b18 20, b18 21, b18 22, b18 23, b18 24, b18 25, b18 26, b18 27, b18 28, b18 29, b18 30, b18 31, b18 32, b18 33, b18 34, b18 35, b18 36, b18 37, b18 38, b18 39, b18 40, b18 41, b18 42, b18 43, b18 44, b18 45, b18 46, b18 47, b18 48, b18 49, b18 50, b18 51, b18 52, b18 53, b18 54, b18 55, b18 56, b18 57, b18 58, b18 59, b18 60, b18 61, b18 62, b18 63, b18 64, b18 65, b18 66, b18 67, b18 68, b18 69, b18 70, b18 71, b18 72, b18 73, b18 74, b18 75, b18 76, b18 77, b18 78, b18 79, b18 80, b18 81, q19, b30 0, b30 1, b30 2, b30 3, b30 4, b30 5, b30 6, b30 7, b30 8, b30 9, b30 10, b30 11, b30 12, b30 13, b30 14, b30 15, b30 16, b30 17, b30 18, b30 19, b30 20, b30 21, b32 0, b32 1, b32 2, b32 3, b32 4, b32 5, b32 6, b32 7, b32 8, b32 9, b32 10, b32 11, b32 12, b32 13, b32 14, b32 15, b32 16, b32 17, b32 18, b32 19, b32 20, b32 21, b21 0, b21 1, b21 2, b21 3, b21 4, b23 0, b23 1, b23 2, b25 0, b27 0, b27 1, q28] : List Nat).getD i 0, rfl, rfl⟩
