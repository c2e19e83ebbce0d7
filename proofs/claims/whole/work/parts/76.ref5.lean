theorem e_X9_laysCalls {w : WS} {h : AH} {Q : AH → Prop} (X : XV mX9_laysCalls 0 [some (vR 65), none, none] [] w h Q) : CV mX9_laysCalls [vR 65] w h Q := CA.of (M := mX9_laysCalls) (by decide) rfl (Nat.le_of_ble_eq_true rfl) X
set_option maxRecDepth 20000 in
theorem r_X9_laysCalls_0 {w : WS} {h : AH} {Q : AH → Prop} (sA : shA w) (V : (∀ h1, h1 = st h 65 10 0 → XV mX9_laysCalls 7 [some (vR 65), some (vI 0), none] [] w h1 Q)) : XV mX9_laysCalls 0 [some (vR 65), none, none] [] w h Q := by
  refine s_aload_n (pc' := 1) (x := 65) dX9_laysCalls_0 rfl rfl ?_
  refine s_iconst (pc' := 2) dX9_laysCalls_1 rfl ?_
  refine s_put (pc' := 5) (v := vI 0) (x := 0) (kc := 9) (i := 10) dX9_laysCalls_2 clX9 (by decide) fl_9_10 rfl (fa_t65 sA) (fun E => nar_int E _) (fun _ _ => rfl) (j0 := 10) rfl rfl ?_
  obtain ⟨h1, e2⟩ : ∃ q, q = st h 65 10 0 := ⟨_, rfl⟩
  rw [← e2]
  have V := V h1 e2
  refine s_iconst (pc' := 6) dX9_laysCalls_5 rfl ?_
  refine s_istore_n (pc' := 7) (ls' := [some (vR 65), some (vI 0), none]) dX9_laysCalls_6 (by decide) rfl rfl ?_
  exact V
set_option maxRecDepth 20000 in
theorem r_X9_laysCalls_7 {w : WS} {h : AH} {Q : AH → Prop} {a1 : Int} (sA : shA w) (V : (inR a1 ∧ inR (h 66 98) ∧ (((h 66 98) < a1 → Q h) ∧ (¬ (h 66 98) < a1 → XV mX9_laysCalls 20 [some (vR 65), some (vI a1), some (vI 0)] [] w h Q)))) : XV mX9_laysCalls 7 [some (vR 65), some (vI a1), none] [] w h Q := by
  refine s_iload_n (pc' := 8) (x := a1) dX9_laysCalls_7 rfl rfl ?_
  refine s_aload_n (pc' := 9) (x := 65) dX9_laysCalls_8 rfl rfl ?_
  refine s_getF (pc' := 12) (b := 66) (kc := 9) (i := 0) dX9_laysCalls_9 clX9 (by decide) fl_9_0 (fa_t65 sA) (fa_f9_0 sA) (fun _ => rfl) rfl ?_
  refine s_bipush (pc' := 14) dX9_laysCalls_12 (by decide) rfl ?_
  refine s_iald (pc' := 15) dX9_laysCalls_14 (fa_t66 sA) (by decide) (fa_lt66 sA (by decide)) rfl ?_
  obtain ⟨z1, z2, V⟩ := V
  obtain ⟨V3, V4⟩ := V
  refine s_icmp_gt (pc' := 18) (tgt := 132) dX9_laysCalls_15 rfl rfl z1 z2 (fun c => ?_) (fun c => ?_)
  · have V := V3 c
    exact s_vret dX9_laysCalls_132 rfl ⟨rfl, rfl, V⟩
  · have V := V4 c
    refine s_iconst (pc' := 19) dX9_laysCalls_18 rfl ?_
    refine s_istore_n (pc' := 20) (ls' := [some (vR 65), some (vI a1), some (vI 0)]) dX9_laysCalls_19 (by decide) rfl rfl ?_
    exact V
set_option maxRecDepth 20000 in
theorem r_X9_laysCalls_20 {w : WS} {h : AH} {Q : AH → Prop} {a1 a2 : Int} (sA : shA w) (V : (inR a2 ∧ inR (h 66 97) ∧ (((h 66 97) ≤ a2 → XV mX9_laysCalls 7 [some (vR 65), some (vI (a1 + 1)), none] [] w h Q) ∧ (¬ (h 66 97) ≤ a2 → CI mX9_calls [vR 65, vI a2, vI a1] w h (fun x4 h3 => (inR x4 ∧ ((¬ x4 = 0 → (0 ≤ (h3 65 10) ∧ (h3 65 10) < 300 ∧ (∀ h8, h8 = st h3 69 (h3 65 10) a1 → (0 ≤ (24 + a2) ∧ (24 + a2) < 202 ∧ CI mX9_slack [vR 65, vI (h8 66 (24 + a2))] w h8 (fun x13 h12 => CI mX9_cut [vR 65, vI (a1 + x13)] w h12 (fun x15 h14 => (0 ≤ (h8 65 10) ∧ (h8 65 10) < 300 ∧ (∀ h18, h18 = st h14 70 (h8 65 10) x15 → CI mX9_weight [vR 65, vI (h18 66 (24 + a2))] w h18 (fun x21 h20 => (0 ≤ (h18 65 10) ∧ (h18 65 10) < 300 ∧ (∀ h24, h24 = st h20 71 (h18 65 10) x21 → (0 ≤ (h24 65 10) ∧ (h24 65 10) < 300 ∧ (∀ h28, h28 = st h24 72 (h24 65 10) a2 → (∀ h30, h30 = st h28 65 10 ((h28 65 10) + 1) → XV mX9_laysCalls 20 [some (vR 65), some (vI a1), some (vI (a2 + 1))] [] w h30 Q)))))))))))))) ∧ (x4 = 0 → XV mX9_laysCalls 20 [some (vR 65), some (vI a1), some (vI (a2 + 1))] [] w h3 Q)))))))) : XV mX9_laysCalls 20 [some (vR 65), some (vI a1), some (vI a2)] [] w h Q := by
  refine s_iload_n (pc' := 21) (x := a2) dX9_laysCalls_20 rfl rfl ?_
  refine s_aload_n (pc' := 22) (x := 65) dX9_laysCalls_21 rfl rfl ?_
  refine s_callV (pc' := 25) (av := []) (a := 65) (sk := [vI a2]) (kc := 9) dX9_laysCalls_22 ml_9_88 okX9_timers oiX9_timers (by decide) (NF := 39) rfl (fa_t65 sA) rfl (Nat.le_of_ble_eq_true rfl) (Nat.le_refl 0) (Nat.le_refl 0) rfl (CI.eon (c_X9_timers sA) ?_)
  obtain ⟨z1, z2, V⟩ := V
  obtain ⟨V34, V35⟩ := V
  refine s_icmp_ge (pc' := 28) (tgt := 126) dX9_laysCalls_25 rfl rfl z1 z2 (fun c => ?_) (fun c => ?_)
  · have V := V34 c
    refine s_iinc (pc' := 129) (ls' := [some (vR 65), some (vI (a1 + 1)), some (vI a2)]) dX9_laysCalls_126 rfl (by decide) rfl rfl ?_
    refine s_goto (tgt := 7) dX9_laysCalls_129 rfl ?_
    refine s_drop 2 (ls' := [some (vR 65), some (vI (a1 + 1)), none]) rfl ?_
    exact V
  · have V := V35 c
    refine s_aload_n (pc' := 29) (x := 65) dX9_laysCalls_28 rfl rfl ?_
    refine s_iload_n (pc' := 30) (x := a2) dX9_laysCalls_29 rfl rfl ?_
    refine s_iload_n (pc' := 31) (x := a1) dX9_laysCalls_30 rfl rfl ?_
    refine s_callV (pc' := 34) (av := [vI a2, vI a1]) (a := 65) (sk := []) (kc := 9) dX9_laysCalls_31 ml_9_91 okX9_calls oiX9_calls (by decide) (NF := 39) rfl (fa_t65 sA) rfl (Nat.le_of_ble_eq_true rfl) (Nat.le_refl 0) (Nat.le_refl 0) rfl (CI.on V (fun x4 h3 V => ?_))
    obtain ⟨z5, V⟩ := V
    obtain ⟨V32, V33⟩ := V
    refine s_if_ne (pc' := 37) (tgt := 40) dX9_laysCalls_34 rfl rfl z5 (fun c => ?_) (fun c => ?_)
    · have V := V32 c
      refine s_aload_n (pc' := 41) (x := 65) dX9_laysCalls_40 rfl rfl ?_
      refine s_getF (pc' := 44) (b := 69) (kc := 9) (i := 6) dX9_laysCalls_41 clX9 (by decide) fl_9_6 (fa_t65 sA) (fa_f9_6 sA) (fun _ => rfl) rfl ?_
      refine s_aload_n (pc' := 45) (x := 65) dX9_laysCalls_44 rfl rfl ?_
      refine s_get (pc' := 48) (v := vI (h3 65 10)) (kc := 9) (i := 10) dX9_laysCalls_45 clX9 (by decide) fl_9_10 (fa_t65 sA) (fun _ => rfl) rfl ?_
      refine s_iload_n (pc' := 49) (x := a1) dX9_laysCalls_48 rfl rfl ?_
      obtain ⟨z6, z7, V⟩ := V
      refine s_iast (pc' := 50) dX9_laysCalls_49 (fa_t69 sA) z6 (fa_lt69 sA z7) rfl ?_
      obtain ⟨h8, e9⟩ : ∃ q, q = st h3 69 (h3 65 10) a1 := ⟨_, rfl⟩
      rw [← e9]
      have V := V h8 e9
      refine s_aload_n (pc' := 51) (x := 65) dX9_laysCalls_50 rfl rfl ?_
      refine s_getF (pc' := 54) (b := 70) (kc := 9) (i := 7) dX9_laysCalls_51 clX9 (by decide) fl_9_7 (fa_t65 sA) (fa_f9_7 sA) (fun _ => rfl) rfl ?_
      refine s_aload_n (pc' := 55) (x := 65) dX9_laysCalls_54 rfl rfl ?_
      refine s_get (pc' := 58) (v := vI (h8 65 10)) (kc := 9) (i := 10) dX9_laysCalls_55 clX9 (by decide) fl_9_10 (fa_t65 sA) (fun _ => rfl) rfl ?_
      refine s_aload_n (pc' := 59) (x := 65) dX9_laysCalls_58 rfl rfl ?_
      refine s_iload_n (pc' := 60) (x := a1) dX9_laysCalls_59 rfl rfl ?_
      refine s_aload_n (pc' := 61) (x := 65) dX9_laysCalls_60 rfl rfl ?_
      refine s_aload_n (pc' := 62) (x := 65) dX9_laysCalls_61 rfl rfl ?_
      refine s_getF (pc' := 65) (b := 66) (kc := 9) (i := 0) dX9_laysCalls_62 clX9 (by decide) fl_9_0 (fa_t65 sA) (fa_f9_0 sA) (fun _ => rfl) rfl ?_
      refine s_bipush (pc' := 67) dX9_laysCalls_65 (by decide) rfl ?_
      refine s_iload_n (pc' := 68) (x := a2) dX9_laysCalls_67 rfl rfl ?_
      refine s_iadd (pc' := 69) dX9_laysCalls_68 rfl ?_
      obtain ⟨z10, z11, V⟩ := V
      refine s_iald (pc' := 70) dX9_laysCalls_69 (fa_t66 sA) z10 (fa_lt66 sA z11) rfl ?_
      refine s_callV (pc' := 73) (av := [vI (h8 66 (24 + a2))]) (a := 65) (sk := [vI a1, vR 65, vI (h8 65 10), vR 70]) (kc := 9) dX9_laysCalls_70 ml_9_95 okX9_slack oiX9_slack (by decide) (NF := 39) rfl (fa_t65 sA) rfl (Nat.le_of_ble_eq_true rfl) (Nat.le_refl 0) (Nat.le_refl 0) rfl (CI.on V (fun x13 h12 V => ?_))
      refine s_iadd (pc' := 74) dX9_laysCalls_73 rfl ?_
      refine s_callV (pc' := 77) (av := [vI (a1 + x13)]) (a := 65) (sk := [vI (h8 65 10), vR 70]) (kc := 9) dX9_laysCalls_74 ml_9_99 okX9_cut oiX9_cut (by decide) (NF := 39) rfl (fa_t65 sA) rfl (Nat.le_of_ble_eq_true rfl) (Nat.le_refl 0) (Nat.le_refl 0) rfl (CI.on V (fun x15 h14 V => ?_))
      obtain ⟨z16, z17, V⟩ := V
      refine s_iast (pc' := 78) dX9_laysCalls_77 (fa_t70 sA) z16 (fa_lt70 sA z17) rfl ?_
      obtain ⟨h18, e19⟩ : ∃ q, q = st h14 70 (h8 65 10) x15 := ⟨_, rfl⟩
      rw [← e19]
      have V := V h18 e19
      refine s_aload_n (pc' := 79) (x := 65) dX9_laysCalls_78 rfl rfl ?_
      refine s_getF (pc' := 82) (b := 71) (kc := 9) (i := 8) dX9_laysCalls_79 clX9 (by decide) fl_9_8 (fa_t65 sA) (fa_f9_8 sA) (fun _ => rfl) rfl ?_
      refine s_aload_n (pc' := 83) (x := 65) dX9_laysCalls_82 rfl rfl ?_
      refine s_get (pc' := 86) (v := vI (h18 65 10)) (kc := 9) (i := 10) dX9_laysCalls_83 clX9 (by decide) fl_9_10 (fa_t65 sA) (fun _ => rfl) rfl ?_
      refine s_aload_n (pc' := 87) (x := 65) dX9_laysCalls_86 rfl rfl ?_
      refine s_aload_n (pc' := 88) (x := 65) dX9_laysCalls_87 rfl rfl ?_
      refine s_getF (pc' := 91) (b := 66) (kc := 9) (i := 0) dX9_laysCalls_88 clX9 (by decide) fl_9_0 (fa_t65 sA) (fa_f9_0 sA) (fun _ => rfl) rfl ?_
      refine s_bipush (pc' := 93) dX9_laysCalls_91 (by decide) rfl ?_
      refine s_iload_n (pc' := 94) (x := a2) dX9_laysCalls_93 rfl rfl ?_
      refine s_iadd (pc' := 95) dX9_laysCalls_94 rfl ?_
      refine s_iald (pc' := 96) dX9_laysCalls_95 (fa_t66 sA) z10 (fa_lt66 sA z11) rfl ?_
      refine s_callV (pc' := 99) (av := [vI (h18 66 (24 + a2))]) (a := 65) (sk := [vI (h18 65 10), vR 71]) (kc := 9) dX9_laysCalls_96 ml_9_102 okX9_weight oiX9_weight (by decide) (NF := 39) rfl (fa_t65 sA) rfl (Nat.le_of_ble_eq_true rfl) (Nat.le_refl 0) (Nat.le_refl 0) rfl (CI.on V (fun x21 h20 V => ?_))
      obtain ⟨z22, z23, V⟩ := V
      refine s_iast (pc' := 100) dX9_laysCalls_99 (fa_t71 sA) z22 (fa_lt71 sA z23) rfl ?_
      obtain ⟨h24, e25⟩ : ∃ q, q = st h20 71 (h18 65 10) x21 := ⟨_, rfl⟩
      rw [← e25]
      have V := V h24 e25
      refine s_aload_n (pc' := 101) (x := 65) dX9_laysCalls_100 rfl rfl ?_
      refine s_getF (pc' := 104) (b := 72) (kc := 9) (i := 9) dX9_laysCalls_101 clX9 (by decide) fl_9_9 (fa_t65 sA) (fa_f9_9 sA) (fun _ => rfl) rfl ?_
      refine s_aload_n (pc' := 105) (x := 65) dX9_laysCalls_104 rfl rfl ?_
      refine s_get (pc' := 108) (v := vI (h24 65 10)) (kc := 9) (i := 10) dX9_laysCalls_105 clX9 (by decide) fl_9_10 (fa_t65 sA) (fun _ => rfl) rfl ?_
      refine s_iload_n (pc' := 109) (x := a2) dX9_laysCalls_108 rfl rfl ?_
      obtain ⟨z26, z27, V⟩ := V
      refine s_iast (pc' := 110) dX9_laysCalls_109 (fa_t72 sA) z26 (fa_lt72 sA z27) rfl ?_
      obtain ⟨h28, e29⟩ : ∃ q, q = st h24 72 (h24 65 10) a2 := ⟨_, rfl⟩
      rw [← e29]
      have V := V h28 e29
      refine s_aload_n (pc' := 111) (x := 65) dX9_laysCalls_110 rfl rfl ?_
      refine s_dup (pc' := 112) dX9_laysCalls_111 (by intro _ q; cases q) rfl ?_
      refine s_get (pc' := 115) (v := vI (h28 65 10)) (kc := 9) (i := 10) dX9_laysCalls_112 clX9 (by decide) fl_9_10 (fa_t65 sA) (fun _ => rfl) rfl ?_
      refine s_iconst (pc' := 116) dX9_laysCalls_115 rfl ?_
      refine s_iadd (pc' := 117) dX9_laysCalls_116 rfl ?_
      refine s_put (pc' := 120) (v := vI ((h28 65 10) + 1)) (x := ((h28 65 10) + 1)) (kc := 9) (i := 10) dX9_laysCalls_117 clX9 (by decide) fl_9_10 rfl (fa_t65 sA) (fun E => nar_int E _) (fun _ _ => rfl) (j0 := 10) rfl rfl ?_
      obtain ⟨h30, e31⟩ : ∃ q, q = st h28 65 10 ((h28 65 10) + 1) := ⟨_, rfl⟩
      rw [← e31]
      have V := V h30 e31
      refine s_iinc (pc' := 123) (ls' := [some (vR 65), some (vI a1), some (vI (a2 + 1))]) dX9_laysCalls_120 rfl (by decide) rfl rfl ?_
      refine s_goto (tgt := 20) dX9_laysCalls_123 rfl ?_
      exact V
    · have V := V33 c
      refine s_goto (tgt := 120) dX9_laysCalls_37 rfl ?_
      refine s_iinc (pc' := 123) (ls' := [some (vR 65), some (vI a1), some (vI (a2 + 1))]) dX9_laysCalls_120 rfl (by decide) rfl rfl ?_
      refine s_goto (tgt := 20) dX9_laysCalls_123 rfl ?_
      exact V
theorem e_X9_laysPlan {w : WS} {h : AH} {Q : Int → AH → Prop} {a1 : Int} (X : XI mX9_laysPlan 0 [some (vR 65), some (vI a1)] [] w h Q) : CI mX9_laysPlan [vR 65, vI a1] w h Q := CA.of (M := mX9_laysPlan) (by decide) rfl (Nat.le_of_ble_eq_true rfl) X
set_option maxRecDepth 20000 in
theorem r_X9_laysPlan_0 {w : WS} {h : AH} {Q : Int → AH → Prop} {a1 : Int} (sA : shA w) (V : (inR a1 ∧ ((((0 : Int) ≤ a1 ∧ a1 ≤ (5 : Int)) → CV mX9_laysCalls [vR 65] w h (fun h2 => ((¬ a1 = 0 → ((3 ≤ a1 → CV mX9_laysLive [vR 65, vI (a1 - 3)] w h2 (fun h3 => Q 1 h3)) ∧ (¬ 3 ≤ a1 → ((¬ a1 = 2 → CV mX9_laysDearest [vR 65, vI 0] w h2 (fun h4 => Q 1 h4)) ∧ (a1 = 2 → CV mX9_laysDearest [vR 65, vI 1] w h2 (fun h5 => Q 1 h5)))))) ∧ (a1 = 0 → CV mX9_laysFewest [vR 65] w h2 (fun h10 => Q 1 h10))))) ∧ (¬ ((0 : Int) ≤ a1 ∧ a1 ≤ (5 : Int)) → Q 0 h)))) : XI mX9_laysPlan 0 [some (vR 65), some (vI a1)] [] w h Q := by
  refine s_iload_n (pc' := 1) (x := a1) dX9_laysPlan_0 rfl rfl ?_
  refine s_iconst (pc' := 2) dX9_laysPlan_1 rfl ?_
  refine s_iconst (pc' := 3) dX9_laysPlan_2 rfl ?_
  obtain ⟨z1, V⟩ := V
  refine s_callS (pc' := 6) (av := [vI a1, vI 0, vI 5]) (sk := []) dX9_laysPlan_3 ml_9_77 okX9_isIn osX9_isIn (by decide) rfl (Nat.le_of_ble_eq_true rfl) (Nat.le_refl 0) (Nat.le_refl 0) rfl (CI.eon (c_X9_isIn sA z1 (by decide) (by decide)) ?_)
  obtain ⟨V13, V14⟩ := V
  refine s_ifne_b (pc' := 9) (tgt := 11) dX9_laysPlan_6 rfl rfl (fun c => ?_) (fun c => ?_)
  · have V := V13 c
    refine s_aload_n (pc' := 12) (x := 65) dX9_laysPlan_11 rfl rfl ?_
    refine s_callV (pc' := 15) (av := []) (a := 65) (sk := []) (kc := 9) dX9_laysPlan_12 ml_9_129 okX9_laysCalls oiX9_laysCalls (by decide) (NF := 39) rfl (fa_t65 sA) rfl (Nat.le_of_ble_eq_true rfl) (Nat.le_refl 0) (Nat.le_refl 0) rfl (CV.on V (fun h2 V => ?_))
    refine s_iload_n (pc' := 16) (x := a1) dX9_laysPlan_15 rfl rfl ?_
    obtain ⟨V11, V12⟩ := V
    refine s_if_ne (pc' := 19) (tgt := 26) dX9_laysPlan_16 rfl rfl z1 (fun c => ?_) (fun c => ?_)
    · have V := V11 c
      refine s_iload_n (pc' := 27) (x := a1) dX9_laysPlan_26 rfl rfl ?_
      refine s_iconst (pc' := 28) dX9_laysPlan_27 rfl ?_
      obtain ⟨V8, V9⟩ := V
      refine s_icmp_ge (pc' := 31) (tgt := 48) dX9_laysPlan_28 rfl rfl z1 (by decide) (fun c => ?_) (fun c => ?_)
      · have V := V8 c
        refine s_aload_n (pc' := 49) (x := 65) dX9_laysPlan_48 rfl rfl ?_
        refine s_iload_n (pc' := 50) (x := a1) dX9_laysPlan_49 rfl rfl ?_
        refine s_iconst (pc' := 51) dX9_laysPlan_50 rfl ?_
        refine s_isub (pc' := 52) dX9_laysPlan_51 rfl ?_
        refine s_callV (pc' := 55) (av := [vI (a1 - 3)]) (a := 65) (sk := []) (kc := 9) dX9_laysPlan_52 ml_9_139 okX9_laysLive oiX9_laysLive (by decide) (NF := 39) rfl (fa_t65 sA) rfl (Nat.le_of_ble_eq_true rfl) (Nat.le_refl 0) (Nat.le_refl 0) rfl (CV.on V (fun h3 V => ?_))
        refine s_iconst (pc' := 56) dX9_laysPlan_55 rfl ?_
        exact s_zret dX9_laysPlan_56 rfl (by decide) ⟨_, rfl, rfl, V⟩
      · have V := V9 c
        refine s_aload_n (pc' := 32) (x := 65) dX9_laysPlan_31 rfl rfl ?_
        refine s_iload_n (pc' := 33) (x := a1) dX9_laysPlan_32 rfl rfl ?_
        refine s_iconst (pc' := 34) dX9_laysPlan_33 rfl ?_
        obtain ⟨V6, V7⟩ := V
        refine s_icmp_ne (pc' := 37) (tgt := 41) dX9_laysPlan_34 rfl rfl z1 (by decide) (fun c => ?_) (fun c => ?_)
        · have V := V6 c
          refine s_iconst (pc' := 42) dX9_laysPlan_41 rfl ?_
          refine s_callV (pc' := 45) (av := [vI 0]) (a := 65) (sk := []) (kc := 9) dX9_laysPlan_42 ml_9_135 okX9_laysDearest oiX9_laysDearest (by decide) (NF := 39) rfl (fa_t65 sA) rfl (Nat.le_of_ble_eq_true rfl) (Nat.le_refl 0) (Nat.le_refl 0) rfl (CV.on V (fun h4 V => ?_))
          refine s_goto (tgt := 55) dX9_laysPlan_45 rfl ?_
          refine s_iconst (pc' := 56) dX9_laysPlan_55 rfl ?_
          exact s_zret dX9_laysPlan_56 rfl (by decide) ⟨_, rfl, rfl, V⟩
        · have V := V7 c
          refine s_iconst (pc' := 38) dX9_laysPlan_37 rfl ?_
          refine s_goto (tgt := 42) dX9_laysPlan_38 rfl ?_
          refine s_callV (pc' := 45) (av := [vI 1]) (a := 65) (sk := []) (kc := 9) dX9_laysPlan_42 ml_9_135 okX9_laysDearest oiX9_laysDearest (by decide) (NF := 39) rfl (fa_t65 sA) rfl (Nat.le_of_ble_eq_true rfl) (Nat.le_refl 0) (Nat.le_refl 0) rfl (CV.on V (fun h5 V => ?_))
          refine s_goto (tgt := 55) dX9_laysPlan_45 rfl ?_
          refine s_iconst (pc' := 56) dX9_laysPlan_55 rfl ?_
          exact s_zret dX9_laysPlan_56 rfl (by decide) ⟨_, rfl, rfl, V⟩
    · have V := V12 c
      refine s_aload_n (pc' := 20) (x := 65) dX9_laysPlan_19 rfl rfl ?_
      refine s_callV (pc' := 23) (av := []) (a := 65) (sk := []) (kc := 9) dX9_laysPlan_20 ml_9_132 okX9_laysFewest oiX9_laysFewest (by decide) (NF := 39) rfl (fa_t65 sA) rfl (Nat.le_of_ble_eq_true rfl) (Nat.le_refl 0) (Nat.le_refl 0) rfl (CV.on V (fun h10 V => ?_))
      refine s_goto (tgt := 55) dX9_laysPlan_23 rfl ?_
      refine s_iconst (pc' := 56) dX9_laysPlan_55 rfl ?_
      exact s_zret dX9_laysPlan_56 rfl (by decide) ⟨_, rfl, rfl, V⟩
  · have V := V14 c
    refine s_iconst (pc' := 10) dX9_laysPlan_9 rfl ?_
    exact s_zret dX9_laysPlan_10 rfl (by decide) ⟨_, rfl, rfl, V⟩
theorem e_X9_comes {w : WS} {h : AH} {Q : Int → AH → Prop} {a1 : Int} (X : XI mX9_comes 0 [some (vR 65), some (vI a1)] [] w h Q) : CI mX9_comes [vR 65, vI a1] w h Q := CA.of (M := mX9_comes) (by decide) rfl (Nat.le_of_ble_eq_true rfl) X
set_option maxRecDepth 20000 in
theorem r_X9_comes_0 {w : WS} {h : AH} {Q : Int → AH → Prop} {a1 : Int} (sA : shA w) (V : (0 ≤ (h 65 20) ∧ (h 65 20) < 300 ∧ (∀ h3, h3 = st h 77 (h 65 20) (h 65 23) → CI mX9_slack [vR 65, vI a1] w h3 (fun x6 h5 => CI mX9_cut [vR 65, vI ((h3 65 23) + x6)] w h5 (fun x8 h7 => (0 ≤ (h3 65 20) ∧ (h3 65 20) < 300 ∧ (∀ h11, h11 = st h7 78 (h3 65 20) x8 → CI mX9_weight [vR 65, vI a1] w h11 (fun x14 h13 => (0 ≤ (h11 65 20) ∧ (h11 65 20) < 300 ∧ (∀ h17, h17 = st h13 79 (h11 65 20) x14 → (inR (h17 65 22) ∧ inR (h17 65 23) ∧ ((¬ (h17 65 22) = (h17 65 23) → (0 ≤ (h17 65 20) ∧ (h17 65 20) < 300 ∧ (∀ h23, h23 = st h17 80 (h17 65 20) (-1) → (∀ h25, h25 = st h23 65 20 ((h23 65 20) + 1) → (0 ≤ ((h25 65 20) - 1) ∧ ((h25 65 20) - 1) < 300 ∧ Q (h25 78 ((h25 65 20) - 1)) h25))))) ∧ ((h17 65 22) = (h17 65 23) → (0 ≤ (h17 65 20) ∧ (h17 65 20) < 300 ∧ (∀ h31, h31 = st h17 80 (h17 65 20) (h17 65 23) → (∀ h33, h33 = st h31 65 20 ((h31 65 20) + 1) → (0 ≤ ((h33 65 20) - 1) ∧ ((h33 65 20) - 1) < 300 ∧ Q (h33 78 ((h33 65 20) - 1)) h33))))))))))))))))) : XI mX9_comes 0 [some (vR 65), some (vI a1)] [] w h Q := by
  refine s_aload_n (pc' := 1) (x := 65) dX9_comes_0 rfl rfl ?_
  refine s_getF (pc' := 4) (b := 77) (kc := 9) (i := 16) dX9_comes_1 clX9 (by decide) fl_9_16 (fa_t65 sA) (fa_f9_16 sA) (fun _ => rfl) rfl ?_
  refine s_aload_n (pc' := 5) (x := 65) dX9_comes_4 rfl rfl ?_
  refine s_get (pc' := 8) (v := vI (h 65 20)) (kc := 9) (i := 20) dX9_comes_5 clX9 (by decide) fl_9_20 (fa_t65 sA) (fun _ => rfl) rfl ?_
  refine s_aload_n (pc' := 9) (x := 65) dX9_comes_8 rfl rfl ?_
  refine s_get (pc' := 12) (v := vI (h 65 23)) (kc := 9) (i := 23) dX9_comes_9 clX9 (by decide) fl_9_23 (fa_t65 sA) (fun _ => rfl) rfl ?_
  obtain ⟨z1, z2, V⟩ := V
  refine s_iast (pc' := 13) dX9_comes_12 (fa_t77 sA) z1 (fa_lt77 sA z2) rfl ?_
  obtain ⟨h3, e4⟩ : ∃ q, q = st h 77 (h 65 20) (h 65 23) := ⟨_, rfl⟩
  rw [← e4]
  have V := V h3 e4
  refine s_aload_n (pc' := 14) (x := 65) dX9_comes_13 rfl rfl ?_
  refine s_getF (pc' := 17) (b := 78) (kc := 9) (i := 17) dX9_comes_14 clX9 (by decide) fl_9_17 (fa_t65 sA) (fa_f9_17 sA) (fun _ => rfl) rfl ?_
  refine s_aload_n (pc' := 18) (x := 65) dX9_comes_17 rfl rfl ?_
  refine s_get (pc' := 21) (v := vI (h3 65 20)) (kc := 9) (i := 20) dX9_comes_18 clX9 (by decide) fl_9_20 (fa_t65 sA) (fun _ => rfl) rfl ?_
  refine s_aload_n (pc' := 22) (x := 65) dX9_comes_21 rfl rfl ?_
  refine s_aload_n (pc' := 23) (x := 65) dX9_comes_22 rfl rfl ?_
  refine s_get (pc' := 26) (v := vI (h3 65 23)) (kc := 9) (i := 23) dX9_comes_23 clX9 (by decide) fl_9_23 (fa_t65 sA) (fun _ => rfl) rfl ?_
  refine s_aload_n (pc' := 27) (x := 65) dX9_comes_26 rfl rfl ?_
  refine s_iload_n (pc' := 28) (x := a1) dX9_comes_27 rfl rfl ?_
  refine s_callV (pc' := 31) (av := [vI a1]) (a := 65) (sk := [vI (h3 65 23), vR 65, vI (h3 65 20), vR 78]) (kc := 9) dX9_comes_28 ml_9_95 okX9_slack oiX9_slack (by decide) (NF := 39) rfl (fa_t65 sA) rfl (Nat.le_of_ble_eq_true rfl) (Nat.le_refl 0) (Nat.le_refl 0) rfl (CI.on V (fun x6 h5 V => ?_))
  refine s_iadd (pc' := 32) dX9_comes_31 rfl ?_
  refine s_callV (pc' := 35) (av := [vI ((h3 65 23) + x6)]) (a := 65) (sk := [vI (h3 65 20), vR 78]) (kc := 9) dX9_comes_32 ml_9_99 okX9_cut oiX9_cut (by decide) (NF := 39) rfl (fa_t65 sA) rfl (Nat.le_of_ble_eq_true rfl) (Nat.le_refl 0) (Nat.le_refl 0) rfl (CI.on V (fun x8 h7 V => ?_))
  obtain ⟨z9, z10, V⟩ := V
  refine s_iast (pc' := 36) dX9_comes_35 (fa_t78 sA) z9 (fa_lt78 sA z10) rfl ?_
  obtain ⟨h11, e12⟩ : ∃ q, q = st h7 78 (h3 65 20) x8 := ⟨_, rfl⟩
  rw [← e12]
  have V := V h11 e12
  refine s_aload_n (pc' := 37) (x := 65) dX9_comes_36 rfl rfl ?_
  refine s_getF (pc' := 40) (b := 79) (kc := 9) (i := 18) dX9_comes_37 clX9 (by decide) fl_9_18 (fa_t65 sA) (fa_f9_18 sA) (fun _ => rfl) rfl ?_
  refine s_aload_n (pc' := 41) (x := 65) dX9_comes_40 rfl rfl ?_
  refine s_get (pc' := 44) (v := vI (h11 65 20)) (kc := 9) (i := 20) dX9_comes_41 clX9 (by decide) fl_9_20 (fa_t65 sA) (fun _ => rfl) rfl ?_
  refine s_aload_n (pc' := 45) (x := 65) dX9_comes_44 rfl rfl ?_
  refine s_iload_n (pc' := 46) (x := a1) dX9_comes_45 rfl rfl ?_
  refine s_callV (pc' := 49) (av := [vI a1]) (a := 65) (sk := [vI (h11 65 20), vR 79]) (kc := 9) dX9_comes_46 ml_9_102 okX9_weight oiX9_weight (by decide) (NF := 39) rfl (fa_t65 sA) rfl (Nat.le_of_ble_eq_true rfl) (Nat.le_refl 0) (Nat.le_refl 0) rfl (CI.on V (fun x14 h13 V => ?_))
  obtain ⟨z15, z16, V⟩ := V
  refine s_iast (pc' := 50) dX9_comes_49 (fa_t79 sA) z15 (fa_lt79 sA z16) rfl ?_
  obtain ⟨h17, e18⟩ : ∃ q, q = st h13 79 (h11 65 20) x14 := ⟨_, rfl⟩
  rw [← e18]
  have V := V h17 e18
  refine s_aload_n (pc' := 51) (x := 65) dX9_comes_50 rfl rfl ?_
  refine s_getF (pc' := 54) (b := 80) (kc := 9) (i := 19) dX9_comes_51 clX9 (by decide) fl_9_19 (fa_t65 sA) (fa_f9_19 sA) (fun _ => rfl) rfl ?_
  refine s_aload_n (pc' := 55) (x := 65) dX9_comes_54 rfl rfl ?_
  refine s_get (pc' := 58) (v := vI (h17 65 20)) (kc := 9) (i := 20) dX9_comes_55 clX9 (by decide) fl_9_20 (fa_t65 sA) (fun _ => rfl) rfl ?_
  refine s_aload_n (pc' := 59) (x := 65) dX9_comes_58 rfl rfl ?_
  refine s_get (pc' := 62) (v := vI (h17 65 22)) (kc := 9) (i := 22) dX9_comes_59 clX9 (by decide) fl_9_22 (fa_t65 sA) (fun _ => rfl) rfl ?_
  refine s_aload_n (pc' := 63) (x := 65) dX9_comes_62 rfl rfl ?_
  refine s_get (pc' := 66) (v := vI (h17 65 23)) (kc := 9) (i := 23) dX9_comes_63 clX9 (by decide) fl_9_23 (fa_t65 sA) (fun _ => rfl) rfl ?_
  obtain ⟨z19, z20, V⟩ := V
  obtain ⟨V37, V38⟩ := V
  refine s_icmp_ne (pc' := 69) (tgt := 76) dX9_comes_66 rfl rfl z19 z20 (fun c => ?_) (fun c => ?_)
  · have V := V37 c
    refine s_iconst (pc' := 77) dX9_comes_76 rfl ?_
    obtain ⟨z21, z22, V⟩ := V
    refine s_iast (pc' := 78) dX9_comes_77 (fa_t80 sA) z21 (fa_lt80 sA z22) rfl ?_
    obtain ⟨h23, e24⟩ : ∃ q, q = st h17 80 (h17 65 20) (-1) := ⟨_, rfl⟩
    rw [← e24]
    have V := V h23 e24
    refine s_aload_n (pc' := 79) (x := 65) dX9_comes_78 rfl rfl ?_
    refine s_dup (pc' := 80) dX9_comes_79 (by intro _ q; cases q) rfl ?_
    refine s_get (pc' := 83) (v := vI (h23 65 20)) (kc := 9) (i := 20) dX9_comes_80 clX9 (by decide) fl_9_20 (fa_t65 sA) (fun _ => rfl) rfl ?_
    refine s_iconst (pc' := 84) dX9_comes_83 rfl ?_
    refine s_iadd (pc' := 85) dX9_comes_84 rfl ?_
    refine s_put (pc' := 88) (v := vI ((h23 65 20) + 1)) (x := ((h23 65 20) + 1)) (kc := 9) (i := 20) dX9_comes_85 clX9 (by decide) fl_9_20 rfl (fa_t65 sA) (fun E => nar_int E _) (fun _ _ => rfl) (j0 := 20) rfl rfl ?_
    obtain ⟨h25, e26⟩ : ∃ q, q = st h23 65 20 ((h23 65 20) + 1) := ⟨_, rfl⟩
    rw [← e26]
    have V := V h25 e26
    refine s_aload_n (pc' := 89) (x := 65) dX9_comes_88 rfl rfl ?_
    refine s_getF (pc' := 92) (b := 78) (kc := 9) (i := 17) dX9_comes_89 clX9 (by decide) fl_9_17 (fa_t65 sA) (fa_f9_17 sA) (fun _ => rfl) rfl ?_
    refine s_aload_n (pc' := 93) (x := 65) dX9_comes_92 rfl rfl ?_
    refine s_get (pc' := 96) (v := vI (h25 65 20)) (kc := 9) (i := 20) dX9_comes_93 clX9 (by decide) fl_9_20 (fa_t65 sA) (fun _ => rfl) rfl ?_
    refine s_iconst (pc' := 97) dX9_comes_96 rfl ?_
    refine s_isub (pc' := 98) dX9_comes_97 rfl ?_
    obtain ⟨z27, z28, V⟩ := V
    refine s_iald (pc' := 99) dX9_comes_98 (fa_t78 sA) z27 (fa_lt78 sA z28) rfl ?_
    exact s_iret dX9_comes_99 rfl ⟨_, rfl, rfl, V⟩
  · have V := V38 c
    refine s_aload_n (pc' := 70) (x := 65) dX9_comes_69 rfl rfl ?_
    refine s_get (pc' := 73) (v := vI (h17 65 23)) (kc := 9) (i := 23) dX9_comes_70 clX9 (by decide) fl_9_23 (fa_t65 sA) (fun _ => rfl) rfl ?_
    refine s_goto (tgt := 77) dX9_comes_73 rfl ?_
    obtain ⟨z29, z30, V⟩ := V
    refine s_iast (pc' := 78) dX9_comes_77 (fa_t80 sA) z29 (fa_lt80 sA z30) rfl ?_
    obtain ⟨h31, e32⟩ : ∃ q, q = st h17 80 (h17 65 20) (h17 65 23) := ⟨_, rfl⟩
    rw [← e32]
    have V := V h31 e32
    refine s_aload_n (pc' := 79) (x := 65) dX9_comes_78 rfl rfl ?_
    refine s_dup (pc' := 80) dX9_comes_79 (by intro _ q; cases q) rfl ?_
    refine s_get (pc' := 83) (v := vI (h31 65 20)) (kc := 9) (i := 20) dX9_comes_80 clX9 (by decide) fl_9_20 (fa_t65 sA) (fun _ => rfl) rfl ?_
    refine s_iconst (pc' := 84) dX9_comes_83 rfl ?_
    refine s_iadd (pc' := 85) dX9_comes_84 rfl ?_
    refine s_put (pc' := 88) (v := vI ((h31 65 20) + 1)) (x := ((h31 65 20) + 1)) (kc := 9) (i := 20) dX9_comes_85 clX9 (by decide) fl_9_20 rfl (fa_t65 sA) (fun E => nar_int E _) (fun _ _ => rfl) (j0 := 20) rfl rfl ?_
    obtain ⟨h33, e34⟩ : ∃ q, q = st h31 65 20 ((h31 65 20) + 1) := ⟨_, rfl⟩
    rw [← e34]
    have V := V h33 e34
    refine s_aload_n (pc' := 89) (x := 65) dX9_comes_88 rfl rfl ?_
    refine s_getF (pc' := 92) (b := 78) (kc := 9) (i := 17) dX9_comes_89 clX9 (by decide) fl_9_17 (fa_t65 sA) (fa_f9_17 sA) (fun _ => rfl) rfl ?_
    refine s_aload_n (pc' := 93) (x := 65) dX9_comes_92 rfl rfl ?_
    refine s_get (pc' := 96) (v := vI (h33 65 20)) (kc := 9) (i := 20) dX9_comes_93 clX9 (by decide) fl_9_20 (fa_t65 sA) (fun _ => rfl) rfl ?_
    refine s_iconst (pc' := 97) dX9_comes_96 rfl ?_
    refine s_isub (pc' := 98) dX9_comes_97 rfl ?_
    obtain ⟨z35, z36, V⟩ := V
    refine s_iald (pc' := 99) dX9_comes_98 (fa_t78 sA) z35 (fa_lt78 sA z36) rfl ?_
    exact s_iret dX9_comes_99 rfl ⟨_, rfl, rfl, V⟩
theorem e_X9_callsNow {w : WS} {h : AH} {Q : AH → Prop} (X : XV mX9_callsNow 0 [some (vR 65), none, none] [] w h Q) : CV mX9_callsNow [vR 65] w h Q := CA.of (M := mX9_callsNow) (by decide) rfl (Nat.le_of_ble_eq_true rfl) X
set_option maxRecDepth 20000 in
theorem r_X9_callsNow_0 {w : WS} {h : AH} {Q : AH → Prop} (sA : shA w) (V : XV mX9_callsNow 4 [some (vR 65), none, some (vI 0)] [] w h Q) : XV mX9_callsNow 0 [some (vR 65), none, none] [] w h Q := by
  refine s_iconst (pc' := 1) dX9_callsNow_0 rfl ?_
  refine s_istore_n (pc' := 2) (ls' := [some (vR 65), some (vI (-1)), none]) dX9_callsNow_1 (by decide) rfl rfl ?_
  refine s_iconst (pc' := 3) dX9_callsNow_2 rfl ?_
  refine s_istore_n (pc' := 4) (ls' := [some (vR 65), some (vI (-1)), some (vI 0)]) dX9_callsNow_3 (by decide) rfl rfl ?_
  refine s_drop 1 (ls' := [some (vR 65), none, some (vI 0)]) rfl ?_
  exact V
set_option maxRecDepth 20000 in
theorem r_X9_callsNow_4 {w : WS} {h : AH} {Q : AH → Prop} {a2 : Int} (sA : shA w) (V : (inR a2 ∧ inR (h 66 97) ∧ (((h 66 97) ≤ a2 → Q h) ∧ (¬ (h 66 97) ≤ a2 → (inR (h 65 23) ∧ inR (h 66 98) ∧ (((h 66 98) < (h 65 23) → Q h) ∧ (¬ (h 66 98) < (h 65 23) → CI mX9_calls [vR 65, vI a2, vI (h 65 23)] w h (fun x6 h5 => (inR x6 ∧ ((x6 = 0 → XV mX9_callsNow 4 [some (vR 65), none, some (vI (a2 + 1))] [] w h5 Q) ∧ (¬ x6 = 0 → (0 ≤ (24 + a2) ∧ (24 + a2) < 202 ∧ CI mX9_comes [vR 65, vI (h5 66 (24 + a2))] w h5 (fun x11 h10 => XV mX9_callsNow 4 [some (vR 65), none, some (vI (a2 + 1))] [] w h10 Q))))))))))))) : XV mX9_callsNow 4 [some (vR 65), none, some (vI a2)] [] w h Q := by
  refine s_iload_n (pc' := 5) (x := a2) dX9_callsNow_4 rfl rfl ?_
  refine s_aload_n (pc' := 6) (x := 65) dX9_callsNow_5 rfl rfl ?_
  refine s_callV (pc' := 9) (av := []) (a := 65) (sk := [vI a2]) (kc := 9) dX9_callsNow_6 ml_9_88 okX9_timers oiX9_timers (by decide) (NF := 39) rfl (fa_t65 sA) rfl (Nat.le_of_ble_eq_true rfl) (Nat.le_refl 0) (Nat.le_refl 0) rfl (CI.eon (c_X9_timers sA) ?_)
  obtain ⟨z1, z2, V⟩ := V
  obtain ⟨V16, V17⟩ := V
  refine s_icmp_ge (pc' := 12) (tgt := 58) dX9_callsNow_9 rfl rfl z1 z2 (fun c => ?_) (fun c => ?_)
  · have V := V16 c
    exact s_vret dX9_callsNow_58 rfl ⟨rfl, rfl, V⟩
  · have V := V17 c
    refine s_aload_n (pc' := 13) (x := 65) dX9_callsNow_12 rfl rfl ?_
    refine s_get (pc' := 16) (v := vI (h 65 23)) (kc := 9) (i := 23) dX9_callsNow_13 clX9 (by decide) fl_9_23 (fa_t65 sA) (fun _ => rfl) rfl ?_
    refine s_aload_n (pc' := 17) (x := 65) dX9_callsNow_16 rfl rfl ?_
    refine s_getF (pc' := 20) (b := 66) (kc := 9) (i := 0) dX9_callsNow_17 clX9 (by decide) fl_9_0 (fa_t65 sA) (fa_f9_0 sA) (fun _ => rfl) rfl ?_
    refine s_bipush (pc' := 22) dX9_callsNow_20 (by decide) rfl ?_
    refine s_iald (pc' := 23) dX9_callsNow_22 (fa_t66 sA) (by decide) (fa_lt66 sA (by decide)) rfl ?_
    obtain ⟨z3, z4, V⟩ := V
    obtain ⟨V14, V15⟩ := V
    refine s_icmp_gt (pc' := 26) (tgt := 58) dX9_callsNow_23 rfl rfl z3 z4 (fun c => ?_) (fun c => ?_)
    · have V := V14 c
      exact s_vret dX9_callsNow_58 rfl ⟨rfl, rfl, V⟩
    · have V := V15 c
      refine s_aload_n (pc' := 27) (x := 65) dX9_callsNow_26 rfl rfl ?_
      refine s_iload_n (pc' := 28) (x := a2) dX9_callsNow_27 rfl rfl ?_
      refine s_aload_n (pc' := 29) (x := 65) dX9_callsNow_28 rfl rfl ?_
      refine s_get (pc' := 32) (v := vI (h 65 23)) (kc := 9) (i := 23) dX9_callsNow_29 clX9 (by decide) fl_9_23 (fa_t65 sA) (fun _ => rfl) rfl ?_
      refine s_callV (pc' := 35) (av := [vI a2, vI (h 65 23)]) (a := 65) (sk := []) (kc := 9) dX9_callsNow_32 ml_9_91 okX9_calls oiX9_calls (by decide) (NF := 39) rfl (fa_t65 sA) rfl (Nat.le_of_ble_eq_true rfl) (Nat.le_refl 0) (Nat.le_refl 0) rfl (CI.on V (fun x6 h5 V => ?_))
      obtain ⟨z7, V⟩ := V
      obtain ⟨V12, V13⟩ := V
      refine s_if_eq (pc' := 38) (tgt := 52) dX9_callsNow_35 rfl rfl z7 (fun c => ?_) (fun c => ?_)
      · have V := V12 c
        refine s_iinc (pc' := 55) (ls' := [some (vR 65), none, some (vI (a2 + 1))]) dX9_callsNow_52 rfl (by decide) rfl rfl ?_
        refine s_goto (tgt := 4) dX9_callsNow_55 rfl ?_
        exact V
      · have V := V13 c
        refine s_aload_n (pc' := 39) (x := 65) dX9_callsNow_38 rfl rfl ?_
        refine s_aload_n (pc' := 40) (x := 65) dX9_callsNow_39 rfl rfl ?_
        refine s_getF (pc' := 43) (b := 66) (kc := 9) (i := 0) dX9_callsNow_40 clX9 (by decide) fl_9_0 (fa_t65 sA) (fa_f9_0 sA) (fun _ => rfl) rfl ?_
        refine s_bipush (pc' := 45) dX9_callsNow_43 (by decide) rfl ?_
        refine s_iload_n (pc' := 46) (x := a2) dX9_callsNow_45 rfl rfl ?_
        refine s_iadd (pc' := 47) dX9_callsNow_46 rfl ?_
        obtain ⟨z8, z9, V⟩ := V
        refine s_iald (pc' := 48) dX9_callsNow_47 (fa_t66 sA) z8 (fa_lt66 sA z9) rfl ?_
        refine s_callV (pc' := 51) (av := [vI (h5 66 (24 + a2))]) (a := 65) (sk := []) (kc := 9) dX9_callsNow_48 ml_9_157 okX9_comes oiX9_comes (by decide) (NF := 39) rfl (fa_t65 sA) rfl (Nat.le_of_ble_eq_true rfl) (Nat.le_refl 0) (Nat.le_refl 0) rfl (CI.on V (fun x11 h10 V => ?_))
        refine s_istore_n (pc' := 52) (ls' := [some (vR 65), some (vI x11), some (vI a2)]) dX9_callsNow_51 (by decide) rfl rfl ?_
        refine s_iinc (pc' := 55) (ls' := [some (vR 65), some (vI x11), some (vI (a2 + 1))]) dX9_callsNow_52 rfl (by decide) rfl rfl ?_
        refine s_goto (tgt := 4) dX9_callsNow_55 rfl ?_
        refine s_drop 1 (ls' := [some (vR 65), none, some (vI (a2 + 1))]) rfl ?_
        exact V
theorem e_X9_begins {w : WS} {h : AH} {Q : AH → Prop} (X : XV mX9_begins 0 [some (vR 65)] [] w h Q) : CV mX9_begins [vR 65] w h Q := CA.of (M := mX9_begins) (by decide) rfl (Nat.le_of_ble_eq_true rfl) X
set_option maxRecDepth 20000 in
theorem r_X9_begins_0 {w : WS} {h : AH} {Q : AH → Prop} (sA : shA w) (V : (∀ h1, h1 = st h 65 20 0 → (∀ h3, h3 = st h1 65 21 0 → (∀ h5, h5 = st h3 65 22 (-1) → (∀ h7, h7 = st h5 65 23 0 → (∀ h9, h9 = st h7 65 24 2 → (∀ h11, h11 = st h9 65 25 0 → CV mX9_callsNow [vR 65] w h11 (fun h13 => Q h13)))))))) : XV mX9_begins 0 [some (vR 65)] [] w h Q := by
  refine s_aload_n (pc' := 1) (x := 65) dX9_begins_0 rfl rfl ?_
  refine s_iconst (pc' := 2) dX9_begins_1 rfl ?_
  refine s_put (pc' := 5) (v := vI 0) (x := 0) (kc := 9) (i := 20) dX9_begins_2 clX9 (by decide) fl_9_20 rfl (fa_t65 sA) (fun E => nar_int E _) (fun _ _ => rfl) (j0 := 20) rfl rfl ?_
  obtain ⟨h1, e2⟩ : ∃ q, q = st h 65 20 0 := ⟨_, rfl⟩
  rw [← e2]
  have V := V h1 e2
  refine s_aload_n (pc' := 6) (x := 65) dX9_begins_5 rfl rfl ?_
  refine s_iconst (pc' := 7) dX9_begins_6 rfl ?_
  refine s_put (pc' := 10) (v := vI 0) (x := 0) (kc := 9) (i := 21) dX9_begins_7 clX9 (by decide) fl_9_21 rfl (fa_t65 sA) (fun E => nar_int E _) (fun _ _ => rfl) (j0 := 21) rfl rfl ?_
  obtain ⟨h3, e4⟩ : ∃ q, q = st h1 65 21 0 := ⟨_, rfl⟩
  rw [← e4]
  have V := V h3 e4
  refine s_aload_n (pc' := 11) (x := 65) dX9_begins_10 rfl rfl ?_
  refine s_iconst (pc' := 12) dX9_begins_11 rfl ?_
  refine s_put (pc' := 15) (v := vI (-1)) (x := (-1)) (kc := 9) (i := 22) dX9_begins_12 clX9 (by decide) fl_9_22 rfl (fa_t65 sA) (fun E => nar_int E _) (fun _ _ => rfl) (j0 := 22) rfl rfl ?_
  obtain ⟨h5, e6⟩ : ∃ q, q = st h3 65 22 (-1) := ⟨_, rfl⟩
  rw [← e6]
  have V := V h5 e6
  refine s_aload_n (pc' := 16) (x := 65) dX9_begins_15 rfl rfl ?_
  refine s_iconst (pc' := 17) dX9_begins_16 rfl ?_
  refine s_put (pc' := 20) (v := vI 0) (x := 0) (kc := 9) (i := 23) dX9_begins_17 clX9 (by decide) fl_9_23 rfl (fa_t65 sA) (fun E => nar_int E _) (fun _ _ => rfl) (j0 := 23) rfl rfl ?_
  obtain ⟨h7, e8⟩ : ∃ q, q = st h5 65 23 0 := ⟨_, rfl⟩
  rw [← e8]
  have V := V h7 e8
  refine s_aload_n (pc' := 21) (x := 65) dX9_begins_20 rfl rfl ?_
  refine s_iconst (pc' := 22) dX9_begins_21 rfl ?_
  refine s_put (pc' := 25) (v := vI 2) (x := 2) (kc := 9) (i := 24) dX9_begins_22 clX9 (by decide) fl_9_24 rfl (fa_t65 sA) (fun E => nar_int E _) (fun _ _ => rfl) (j0 := 24) rfl rfl ?_
  obtain ⟨h9, e10⟩ : ∃ q, q = st h7 65 24 2 := ⟨_, rfl⟩
  rw [← e10]
  have V := V h9 e10
  refine s_aload_n (pc' := 26) (x := 65) dX9_begins_25 rfl rfl ?_
  refine s_iconst (pc' := 27) dX9_begins_26 rfl ?_
  refine s_put (pc' := 30) (v := vI 0) (x := 0) (kc := 9) (i := 25) dX9_begins_27 clX9 (by decide) fl_9_25 rfl (fa_t65 sA) (fun E => nar_int E _) (fun _ _ => rfl) (j0 := 25) rfl rfl ?_
  obtain ⟨h11, e12⟩ : ∃ q, q = st h9 65 25 0 := ⟨_, rfl⟩
  rw [← e12]
  have V := V h11 e12
  refine s_aload_n (pc' := 31) (x := 65) dX9_begins_30 rfl rfl ?_
  refine s_callV (pc' := 34) (av := []) (a := 65) (sk := []) (kc := 9) dX9_begins_31 ml_9_169 okX9_callsNow oiX9_callsNow (by decide) (NF := 39) rfl (fa_t65 sA) rfl (Nat.le_of_ble_eq_true rfl) (Nat.le_refl 0) (Nat.le_refl 0) rfl (CV.on V (fun h13 V => ?_))
  exact s_vret dX9_begins_34 rfl ⟨rfl, rfl, V⟩
theorem e_X9_isDue {w : WS} {h : AH} {Q : Int → AH → Prop} (X : XI mX9_isDue 0 [some (vR 65)] [] w h Q) : CI mX9_isDue [vR 65] w h Q := CA.of (M := mX9_isDue) (by decide) rfl (Nat.le_of_ble_eq_true rfl) X
set_option maxRecDepth 20000 in
theorem r_X9_isDue_0 {w : WS} {h : AH} {Q : Int → AH → Prop} (sA : shA w) (V : (inR (h 65 22) ∧ inR (h 65 23) ∧ (((h 65 22) = (h 65 23) → Q 0 h) ∧ (¬ (h 65 22) = (h 65 23) → CI mX9_left [vR 65] w h (fun x4 h3 => (inR x4 ∧ ((x4 ≤ 0 → Q 0 h3) ∧ (¬ x4 ≤ 0 → (inR (h3 65 24) ∧ (((h3 65 24) = 0 → Q 1 h3) ∧ (¬ (h3 65 24) = 0 → CI mX9_leftLatest [vR 65] w h3 (fun x8 h7 => (inR x8 ∧ inR (h7 65 23) ∧ ((x8 ≤ (h7 65 23) → Q 1 h7) ∧ (¬ x8 ≤ (h7 65 23) → (inR (h7 65 24) ∧ ((¬ (h7 65 24) = 2 → Q 0 h7) ∧ ((h7 65 24) = 2 → CI mX9_leftWaits [vR 65, vI ((h7 65 23) + 1)] w h7 (fun x13 h12 => (inR x13 ∧ inR (h12 66 99) ∧ ((x13 ≤ (h12 66 99) → Q 0 h12) ∧ (¬ x13 ≤ (h12 66 99) → Q 1 h12)))))))))))))))))))))) : XI mX9_isDue 0 [some (vR 65)] [] w h Q := by
  refine s_aload_n (pc' := 1) (x := 65) dX9_isDue_0 rfl rfl ?_
  refine s_get (pc' := 4) (v := vI (h 65 22)) (kc := 9) (i := 22) dX9_isDue_1 clX9 (by decide) fl_9_22 (fa_t65 sA) (fun _ => rfl) rfl ?_
  refine s_aload_n (pc' := 5) (x := 65) dX9_isDue_4 rfl rfl ?_
  refine s_get (pc' := 8) (v := vI (h 65 23)) (kc := 9) (i := 23) dX9_isDue_5 clX9 (by decide) fl_9_23 (fa_t65 sA) (fun _ => rfl) rfl ?_
  obtain ⟨z1, z2, V⟩ := V
  obtain ⟨V26, V27⟩ := V
  refine s_icmp_eq (pc' := 11) (tgt := 68) dX9_isDue_8 rfl rfl z1 z2 (fun c => ?_) (fun c => ?_)
  · have V := V26 c
    refine s_iconst (pc' := 69) dX9_isDue_68 rfl ?_
    exact s_zret dX9_isDue_69 rfl (by decide) ⟨_, rfl, rfl, V⟩
  · have V := V27 c
    refine s_aload_n (pc' := 12) (x := 65) dX9_isDue_11 rfl rfl ?_
    refine s_callV (pc' := 15) (av := []) (a := 65) (sk := []) (kc := 9) dX9_isDue_12 ml_9_172 okX9_left oiX9_left (by decide) (NF := 39) rfl (fa_t65 sA) rfl (Nat.le_of_ble_eq_true rfl) (Nat.le_refl 0) (Nat.le_refl 0) rfl (CI.on V (fun x4 h3 V => ?_))
    obtain ⟨z5, V⟩ := V
    obtain ⟨V24, V25⟩ := V
    refine s_if_le (pc' := 18) (tgt := 68) dX9_isDue_15 rfl rfl z5 (fun c => ?_) (fun c => ?_)
    · have V := V24 c
      refine s_iconst (pc' := 69) dX9_isDue_68 rfl ?_
      exact s_zret dX9_isDue_69 rfl (by decide) ⟨_, rfl, rfl, V⟩
    · have V := V25 c
      refine s_aload_n (pc' := 19) (x := 65) dX9_isDue_18 rfl rfl ?_
      refine s_get (pc' := 22) (v := vI (h3 65 24)) (kc := 9) (i := 24) dX9_isDue_19 clX9 (by decide) fl_9_24 (fa_t65 sA) (fun _ => rfl) rfl ?_
      obtain ⟨z6, V⟩ := V
      obtain ⟨V22, V23⟩ := V
      refine s_if_eq (pc' := 25) (tgt := 64) dX9_isDue_22 rfl rfl z6 (fun c => ?_) (fun c => ?_)
      · have V := V22 c
        refine s_iconst (pc' := 65) dX9_isDue_64 rfl ?_
        refine s_goto (tgt := 69) dX9_isDue_65 rfl ?_
        exact s_zret dX9_isDue_69 rfl (by decide) ⟨_, rfl, rfl, V⟩
      · have V := V23 c
        refine s_aload_n (pc' := 26) (x := 65) dX9_isDue_25 rfl rfl ?_
        refine s_callV (pc' := 29) (av := []) (a := 65) (sk := []) (kc := 9) dX9_isDue_26 ml_9_175 okX9_leftLatest oiX9_leftLatest (by decide) (NF := 39) rfl (fa_t65 sA) rfl (Nat.le_of_ble_eq_true rfl) (Nat.le_refl 0) (Nat.le_refl 0) rfl (CI.on V (fun x8 h7 V => ?_))
        refine s_aload_n (pc' := 30) (x := 65) dX9_isDue_29 rfl rfl ?_
        refine s_get (pc' := 33) (v := vI (h7 65 23)) (kc := 9) (i := 23) dX9_isDue_30 clX9 (by decide) fl_9_23 (fa_t65 sA) (fun _ => rfl) rfl ?_
        obtain ⟨z9, z10, V⟩ := V
        obtain ⟨V20, V21⟩ := V
        refine s_icmp_le (pc' := 36) (tgt := 64) dX9_isDue_33 rfl rfl z9 z10 (fun c => ?_) (fun c => ?_)
        · have V := V20 c
          refine s_iconst (pc' := 65) dX9_isDue_64 rfl ?_
          refine s_goto (tgt := 69) dX9_isDue_65 rfl ?_
          exact s_zret dX9_isDue_69 rfl (by decide) ⟨_, rfl, rfl, V⟩
        · have V := V21 c
          refine s_aload_n (pc' := 37) (x := 65) dX9_isDue_36 rfl rfl ?_
          refine s_get (pc' := 40) (v := vI (h7 65 24)) (kc := 9) (i := 24) dX9_isDue_37 clX9 (by decide) fl_9_24 (fa_t65 sA) (fun _ => rfl) rfl ?_
          refine s_iconst (pc' := 41) dX9_isDue_40 rfl ?_
          obtain ⟨z11, V⟩ := V
          obtain ⟨V18, V19⟩ := V
          refine s_icmp_ne (pc' := 44) (tgt := 68) dX9_isDue_41 rfl rfl z11 (by decide) (fun c => ?_) (fun c => ?_)
          · have V := V18 c
            refine s_iconst (pc' := 69) dX9_isDue_68 rfl ?_
            exact s_zret dX9_isDue_69 rfl (by decide) ⟨_, rfl, rfl, V⟩
          · have V := V19 c
            refine s_aload_n (pc' := 45) (x := 65) dX9_isDue_44 rfl rfl ?_
            refine s_aload_n (pc' := 46) (x := 65) dX9_isDue_45 rfl rfl ?_
            refine s_get (pc' := 49) (v := vI (h7 65 23)) (kc := 9) (i := 23) dX9_isDue_46 clX9 (by decide) fl_9_23 (fa_t65 sA) (fun _ => rfl) rfl ?_
            refine s_iconst (pc' := 50) dX9_isDue_49 rfl ?_
            refine s_iadd (pc' := 51) dX9_isDue_50 rfl ?_
            refine s_callV (pc' := 54) (av := [vI ((h7 65 23) + 1)]) (a := 65) (sk := []) (kc := 9) dX9_isDue_51 ml_9_178 okX9_leftWaits oiX9_leftWaits (by decide) (NF := 39) rfl (fa_t65 sA) rfl (Nat.le_of_ble_eq_true rfl) (Nat.le_refl 0) (Nat.le_refl 0) rfl (CI.on V (fun x13 h12 V => ?_))
            refine s_aload_n (pc' := 55) (x := 65) dX9_isDue_54 rfl rfl ?_
            refine s_getF (pc' := 58) (b := 66) (kc := 9) (i := 0) dX9_isDue_55 clX9 (by decide) fl_9_0 (fa_t65 sA) (fa_f9_0 sA) (fun _ => rfl) rfl ?_
            refine s_bipush (pc' := 60) dX9_isDue_58 (by decide) rfl ?_
            refine s_iald (pc' := 61) dX9_isDue_60 (fa_t66 sA) (by decide) (fa_lt66 sA (by decide)) rfl ?_
            obtain ⟨z14, z15, V⟩ := V
            obtain ⟨V16, V17⟩ := V
            refine s_icmp_le (pc' := 64) (tgt := 68) dX9_isDue_61 rfl rfl z14 z15 (fun c => ?_) (fun c => ?_)
            · have V := V16 c
              refine s_iconst (pc' := 69) dX9_isDue_68 rfl ?_
              exact s_zret dX9_isDue_69 rfl (by decide) ⟨_, rfl, rfl, V⟩
            · have V := V17 c
              refine s_iconst (pc' := 65) dX9_isDue_64 rfl ?_
              refine s_goto (tgt := 69) dX9_isDue_65 rfl ?_
              exact s_zret dX9_isDue_69 rfl (by decide) ⟨_, rfl, rfl, V⟩
theorem e_X9_rule {w : WS} {h : AH} {Q : Int → AH → Prop} {a1 : Int} (X : XI mX9_rule 0 [some (vR 65), some (vI a1)] [] w h Q) : CI mX9_rule [vR 65, vI a1] w h Q := CA.of (M := mX9_rule) (by decide) rfl (Nat.le_of_ble_eq_true rfl) X
set_option maxRecDepth 20000 in
theorem r_X9_rule_0 {w : WS} {h : AH} {Q : Int → AH → Prop} {a1 : Int} (sA : shA w) (V : (inR a1 ∧ ((¬ ((0 : Int) ≤ a1 ∧ a1 ≤ (2 : Int)) → Q 0 h) ∧ (((0 : Int) ≤ a1 ∧ a1 ≤ (2 : Int)) → (inR (h 65 24) ∧ ((¬ a1 = (h 65 24) → (∀ h3, h3 = st h 65 24 a1 → Q 1 h3)) ∧ (a1 = (h 65 24) → Q 0 h))))))) : XI mX9_rule 0 [some (vR 65), some (vI a1)] [] w h Q := by
  refine s_iload_n (pc' := 1) (x := a1) dX9_rule_0 rfl rfl ?_
  refine s_iconst (pc' := 2) dX9_rule_1 rfl ?_
  refine s_iconst (pc' := 3) dX9_rule_2 rfl ?_
  obtain ⟨z1, V⟩ := V
  refine s_callS (pc' := 6) (av := [vI a1, vI 0, vI 2]) (sk := []) dX9_rule_3 ml_9_77 okX9_isIn osX9_isIn (by decide) rfl (Nat.le_of_ble_eq_true rfl) (Nat.le_refl 0) (Nat.le_refl 0) rfl (CI.eon (c_X9_isIn sA z1 (by decide) (by decide)) ?_)
  obtain ⟨V7, V8⟩ := V
  refine s_ifeq_b (pc' := 9) (tgt := 17) dX9_rule_6 rfl rfl (fun c => ?_) (fun c => ?_)
  · have V := V7 c
    refine s_iconst (pc' := 18) dX9_rule_17 rfl ?_
    exact s_zret dX9_rule_18 rfl (by decide) ⟨_, rfl, rfl, V⟩
  · have V := V8 c
    refine s_iload_n (pc' := 10) (x := a1) dX9_rule_9 rfl rfl ?_
    refine s_aload_n (pc' := 11) (x := 65) dX9_rule_10 rfl rfl ?_
    refine s_get (pc' := 14) (v := vI (h 65 24)) (kc := 9) (i := 24) dX9_rule_11 clX9 (by decide) fl_9_24 (fa_t65 sA) (fun _ => rfl) rfl ?_
    obtain ⟨z2, V⟩ := V
    obtain ⟨V5, V6⟩ := V
    refine s_icmp_ne (pc' := 17) (tgt := 19) dX9_rule_14 rfl rfl z1 z2 (fun c => ?_) (fun c => ?_)
    · have V := V5 c
      refine s_aload_n (pc' := 20) (x := 65) dX9_rule_19 rfl rfl ?_
      refine s_iload_n (pc' := 21) (x := a1) dX9_rule_20 rfl rfl ?_
      refine s_put (pc' := 24) (v := vI a1) (x := a1) (kc := 9) (i := 24) dX9_rule_21 clX9 (by decide) fl_9_24 rfl (fa_t65 sA) (fun E => nar_int E _) (fun _ _ => rfl) (j0 := 24) rfl rfl ?_
      obtain ⟨h3, e4⟩ : ∃ q, q = st h 65 24 a1 := ⟨_, rfl⟩
      rw [← e4]
      have V := V h3 e4
      refine s_iconst (pc' := 25) dX9_rule_24 rfl ?_
      exact s_zret dX9_rule_25 rfl (by decide) ⟨_, rfl, rfl, V⟩
    · have V := V6 c
      refine s_iconst (pc' := 18) dX9_rule_17 rfl ?_
      exact s_zret dX9_rule_18 rfl (by decide) ⟨_, rfl, rfl, V⟩
theorem e_X9_go {w : WS} {h : AH} {Q : Int → AH → Prop} {a1 : Int} (X : XI mX9_go 0 [some (vR 65), some (vI a1), none, none] [] w h Q) : CI mX9_go [vR 65, vI a1] w h Q := CA.of (M := mX9_go) (by decide) rfl (Nat.le_of_ble_eq_true rfl) X
set_option maxRecDepth 20000 in
theorem r_X9_go_0 {w : WS} {h : AH} {Q : Int → AH → Prop} {a1 : Int} (sA : shA w) (V : (inR a1 ∧ ((¬ ((1 : Int) ≤ a1 ∧ a1 ≤ (300 : Int)) → Q (-1) h) ∧ (((1 : Int) ≤ a1 ∧ a1 ≤ (300 : Int)) → (inR (h 65 23) ∧ inR (h 66 98) ∧ (((h 65 23) ≤ (h 66 98) → XI mX9_go 34 [some (vR 65), some (vI a1), some (vI (h 65 21)), some (vI 0)] [] w h Q) ∧ (¬ (h 65 23) ≤ (h 66 98) → Q (-1) h))))))) : XI mX9_go 0 [some (vR 65), some (vI a1), none, none] [] w h Q := by
  refine s_iload_n (pc' := 1) (x := a1) dX9_go_0 rfl rfl ?_
  refine s_iconst (pc' := 2) dX9_go_1 rfl ?_
  refine s_sipush (pc' := 5) dX9_go_2 (by decide) rfl ?_
  obtain ⟨z1, V⟩ := V
  refine s_callS (pc' := 8) (av := [vI a1, vI 1, vI 300]) (sk := []) dX9_go_5 ml_9_77 okX9_isIn osX9_isIn (by decide) rfl (Nat.le_of_ble_eq_true rfl) (Nat.le_refl 0) (Nat.le_refl 0) rfl (CI.eon (c_X9_isIn sA z1 (by decide) (by decide)) ?_)
  obtain ⟨V6, V7⟩ := V
  refine s_ifeq_b (pc' := 11) (tgt := 25) dX9_go_8 rfl rfl (fun c => ?_) (fun c => ?_)
  · have V := V6 c
    refine s_iconst (pc' := 26) dX9_go_25 rfl ?_
    exact s_iret dX9_go_26 rfl ⟨_, rfl, rfl, V⟩
  · have V := V7 c
    refine s_aload_n (pc' := 12) (x := 65) dX9_go_11 rfl rfl ?_
    refine s_get (pc' := 15) (v := vI (h 65 23)) (kc := 9) (i := 23) dX9_go_12 clX9 (by decide) fl_9_23 (fa_t65 sA) (fun _ => rfl) rfl ?_
    refine s_aload_n (pc' := 16) (x := 65) dX9_go_15 rfl rfl ?_
    refine s_getF (pc' := 19) (b := 66) (kc := 9) (i := 0) dX9_go_16 clX9 (by decide) fl_9_0 (fa_t65 sA) (fa_f9_0 sA) (fun _ => rfl) rfl ?_
    refine s_bipush (pc' := 21) dX9_go_19 (by decide) rfl ?_
    refine s_iald (pc' := 22) dX9_go_21 (fa_t66 sA) (by decide) (fa_lt66 sA (by decide)) rfl ?_
    obtain ⟨z2, z3, V⟩ := V
    obtain ⟨V4, V5⟩ := V
    refine s_icmp_le (pc' := 25) (tgt := 27) dX9_go_22 rfl rfl z2 z3 (fun c => ?_) (fun c => ?_)
    · have V := V4 c
      refine s_aload_n (pc' := 28) (x := 65) dX9_go_27 rfl rfl ?_
      refine s_get (pc' := 31) (v := vI (h 65 21)) (kc := 9) (i := 21) dX9_go_28 clX9 (by decide) fl_9_21 (fa_t65 sA) (fun _ => rfl) rfl ?_
      refine s_istore_n (pc' := 32) (ls' := [some (vR 65), some (vI a1), some (vI (h 65 21)), none]) dX9_go_31 (by decide) rfl rfl ?_
      refine s_iconst (pc' := 33) dX9_go_32 rfl ?_
      refine s_istore_n (pc' := 34) (ls' := [some (vR 65), some (vI a1), some (vI (h 65 21)), some (vI 0)]) dX9_go_33 (by decide) rfl rfl ?_
      exact V
    · have V := V5 c
      refine s_iconst (pc' := 26) dX9_go_25 rfl ?_
      exact s_iret dX9_go_26 rfl ⟨_, rfl, rfl, V⟩
set_option maxRecDepth 20000 in
theorem r_X9_go_34 {w : WS} {h : AH} {Q : Int → AH → Prop} {a1 a2 a3 : Int} (sA : shA w) (V : (inR a3 ∧ inR a1 ∧ ((a1 ≤ a3 → Q ((h 65 21) - a2) h) ∧ (¬ a1 ≤ a3 → (inR (h 65 23) ∧ inR (h 66 98) ∧ (((h 66 98) < (h 65 23) → Q ((h 65 21) - a2) h) ∧ (¬ (h 66 98) < (h 65 23) → CI mX9_isDue [vR 65] w h (fun x6 h5 => (inR x6 ∧ ((x6 = 0 → (∀ h8, h8 = st h5 65 23 ((h5 65 23) + 1) → CV mX9_callsNow [vR 65] w h8 (fun h10 => XI mX9_go 34 [some (vR 65), some (vI a1), some (vI a2), some (vI (a3 + 1))] [] w h10 Q))) ∧ (¬ x6 = 0 → CV mX9_handWakes [vR 65] w h5 (fun h11 => (∀ h12, h12 = st h11 65 23 ((h11 65 23) + 1) → CV mX9_callsNow [vR 65] w h12 (fun h14 => XI mX9_go 34 [some (vR 65), some (vI a1), some (vI a2), some (vI (a3 + 1))] [] w h14 Q)))))))))))))) : XI mX9_go 34 [some (vR 65), some (vI a1), some (vI a2), some (vI a3)] [] w h Q := by
  refine s_iload_n (pc' := 35) (x := a3) dX9_go_34 rfl rfl ?_
  refine s_iload_n (pc' := 36) (x := a1) dX9_go_35 rfl rfl ?_
  obtain ⟨z1, z2, V⟩ := V
  obtain ⟨V19, V20⟩ := V
  refine s_icmp_ge (pc' := 39) (tgt := 84) dX9_go_36 rfl rfl z1 z2 (fun c => ?_) (fun c => ?_)
  · have V := V19 c
    refine s_aload_n (pc' := 85) (x := 65) dX9_go_84 rfl rfl ?_
    refine s_get (pc' := 88) (v := vI (h 65 21)) (kc := 9) (i := 21) dX9_go_85 clX9 (by decide) fl_9_21 (fa_t65 sA) (fun _ => rfl) rfl ?_
    refine s_iload_n (pc' := 89) (x := a2) dX9_go_88 rfl rfl ?_
    refine s_isub (pc' := 90) dX9_go_89 rfl ?_
    exact s_iret dX9_go_90 rfl ⟨_, rfl, rfl, V⟩
  · have V := V20 c
    refine s_aload_n (pc' := 40) (x := 65) dX9_go_39 rfl rfl ?_
    refine s_get (pc' := 43) (v := vI (h 65 23)) (kc := 9) (i := 23) dX9_go_40 clX9 (by decide) fl_9_23 (fa_t65 sA) (fun _ => rfl) rfl ?_
    refine s_aload_n (pc' := 44) (x := 65) dX9_go_43 rfl rfl ?_
    refine s_getF (pc' := 47) (b := 66) (kc := 9) (i := 0) dX9_go_44 clX9 (by decide) fl_9_0 (fa_t65 sA) (fa_f9_0 sA) (fun _ => rfl) rfl ?_
    refine s_bipush (pc' := 49) dX9_go_47 (by decide) rfl ?_
    refine s_iald (pc' := 50) dX9_go_49 (fa_t66 sA) (by decide) (fa_lt66 sA (by decide)) rfl ?_
    obtain ⟨z3, z4, V⟩ := V
    obtain ⟨V17, V18⟩ := V
    refine s_icmp_gt (pc' := 53) (tgt := 84) dX9_go_50 rfl rfl z3 z4 (fun c => ?_) (fun c => ?_)
    · have V := V17 c
      refine s_aload_n (pc' := 85) (x := 65) dX9_go_84 rfl rfl ?_
      refine s_get (pc' := 88) (v := vI (h 65 21)) (kc := 9) (i := 21) dX9_go_85 clX9 (by decide) fl_9_21 (fa_t65 sA) (fun _ => rfl) rfl ?_
      refine s_iload_n (pc' := 89) (x := a2) dX9_go_88 rfl rfl ?_
      refine s_isub (pc' := 90) dX9_go_89 rfl ?_
      exact s_iret dX9_go_90 rfl ⟨_, rfl, rfl, V⟩
    · have V := V18 c
      refine s_aload_n (pc' := 54) (x := 65) dX9_go_53 rfl rfl ?_
      refine s_callV (pc' := 57) (av := []) (a := 65) (sk := []) (kc := 9) dX9_go_54 ml_9_181 okX9_isDue oiX9_isDue (by decide) (NF := 39) rfl (fa_t65 sA) rfl (Nat.le_of_ble_eq_true rfl) (Nat.le_refl 0) (Nat.le_refl 0) rfl (CI.on V (fun x6 h5 V => ?_))
      obtain ⟨z7, V⟩ := V
      obtain ⟨V15, V16⟩ := V
      refine s_if_eq (pc' := 60) (tgt := 64) dX9_go_57 rfl rfl z7 (fun c => ?_) (fun c => ?_)
      · have V := V15 c
        refine s_aload_n (pc' := 65) (x := 65) dX9_go_64 rfl rfl ?_
        refine s_dup (pc' := 66) dX9_go_65 (by intro _ q; cases q) rfl ?_
        refine s_get (pc' := 69) (v := vI (h5 65 23)) (kc := 9) (i := 23) dX9_go_66 clX9 (by decide) fl_9_23 (fa_t65 sA) (fun _ => rfl) rfl ?_
        refine s_iconst (pc' := 70) dX9_go_69 rfl ?_
        refine s_iadd (pc' := 71) dX9_go_70 rfl ?_
        refine s_put (pc' := 74) (v := vI ((h5 65 23) + 1)) (x := ((h5 65 23) + 1)) (kc := 9) (i := 23) dX9_go_71 clX9 (by decide) fl_9_23 rfl (fa_t65 sA) (fun E => nar_int E _) (fun _ _ => rfl) (j0 := 23) rfl rfl ?_
        obtain ⟨h8, e9⟩ : ∃ q, q = st h5 65 23 ((h5 65 23) + 1) := ⟨_, rfl⟩
        rw [← e9]
        have V := V h8 e9
        refine s_aload_n (pc' := 75) (x := 65) dX9_go_74 rfl rfl ?_
        refine s_callV (pc' := 78) (av := []) (a := 65) (sk := []) (kc := 9) dX9_go_75 ml_9_169 okX9_callsNow oiX9_callsNow (by decide) (NF := 39) rfl (fa_t65 sA) rfl (Nat.le_of_ble_eq_true rfl) (Nat.le_refl 0) (Nat.le_refl 0) rfl (CV.on V (fun h10 V => ?_))
        refine s_iinc (pc' := 81) (ls' := [some (vR 65), some (vI a1), some (vI a2), some (vI (a3 + 1))]) dX9_go_78 rfl (by decide) rfl rfl ?_
        refine s_goto (tgt := 34) dX9_go_81 rfl ?_
        exact V
      · have V := V16 c
        refine s_aload_n (pc' := 61) (x := 65) dX9_go_60 rfl rfl ?_
        refine s_callV (pc' := 64) (av := []) (a := 65) (sk := []) (kc := 9) dX9_go_61 ml_9_185 okX9_handWakes oiX9_handWakes (by decide) (NF := 39) rfl (fa_t65 sA) rfl (Nat.le_of_ble_eq_true rfl) (Nat.le_refl 0) (Nat.le_refl 0) rfl (CV.on V (fun h11 V => ?_))
        refine s_aload_n (pc' := 65) (x := 65) dX9_go_64 rfl rfl ?_
        refine s_dup (pc' := 66) dX9_go_65 (by intro _ q; cases q) rfl ?_
        refine s_get (pc' := 69) (v := vI (h11 65 23)) (kc := 9) (i := 23) dX9_go_66 clX9 (by decide) fl_9_23 (fa_t65 sA) (fun _ => rfl) rfl ?_
        refine s_iconst (pc' := 70) dX9_go_69 rfl ?_
        refine s_iadd (pc' := 71) dX9_go_70 rfl ?_
        refine s_put (pc' := 74) (v := vI ((h11 65 23) + 1)) (x := ((h11 65 23) + 1)) (kc := 9) (i := 23) dX9_go_71 clX9 (by decide) fl_9_23 rfl (fa_t65 sA) (fun E => nar_int E _) (fun _ _ => rfl) (j0 := 23) rfl rfl ?_
        obtain ⟨h12, e13⟩ : ∃ q, q = st h11 65 23 ((h11 65 23) + 1) := ⟨_, rfl⟩
        rw [← e13]
        have V := V h12 e13
        refine s_aload_n (pc' := 75) (x := 65) dX9_go_74 rfl rfl ?_
        refine s_callV (pc' := 78) (av := []) (a := 65) (sk := []) (kc := 9) dX9_go_75 ml_9_169 okX9_callsNow oiX9_callsNow (by decide) (NF := 39) rfl (fa_t65 sA) rfl (Nat.le_of_ble_eq_true rfl) (Nat.le_refl 0) (Nat.le_refl 0) rfl (CV.on V (fun h14 V => ?_))
        refine s_iinc (pc' := 81) (ls' := [some (vR 65), some (vI a1), some (vI a2), some (vI (a3 + 1))]) dX9_go_78 rfl (by decide) rfl rfl ?_
        refine s_goto (tgt := 34) dX9_go_81 rfl ?_
        exact V
theorem e_X9_ring {w : WS} {h : AH} {Q : Int → AH → Prop} {a1 : Int} (X : XI mX9_ring 0 [some (vR 65), some (vI a1)] [] w h Q) : CI mX9_ring [vR 65, vI a1] w h Q := CA.of (M := mX9_ring) (by decide) rfl (Nat.le_of_ble_eq_true rfl) X
set_option maxRecDepth 20000 in
theorem r_X9_ring_0 {w : WS} {h : AH} {Q : Int → AH → Prop} {a1 : Int} (sA : shA w) (V : (inR a1 ∧ (0 ≤ h 66 96 ∧ h 66 96 ≤ 8) ∧ ((¬ (0 ≤ a1 ∧ a1 < h 66 96) → Q (-1) h) ∧ ((0 ≤ a1 ∧ a1 < h 66 96) → (inR (h 65 23) ∧ inR (h 66 98) ∧ (((h 66 98) < (h 65 23) → Q (-1) h) ∧ (¬ (h 66 98) < (h 65 23) → (inR (h 65 25) ∧ ((¬ (h 65 25) = 100 → (∀ h6, h6 = st h 65 25 ((h 65 25) + 1) → CI mX9_comes [vR 65, vI a1] w h6 (fun x9 h8 => Q x9 h8))) ∧ ((h 65 25) = 100 → Q (-1) h)))))))))) : XI mX9_ring 0 [some (vR 65), some (vI a1)] [] w h Q := by
  refine s_aload_n (pc' := 1) (x := 65) dX9_ring_0 rfl rfl ?_
  refine s_iload_n (pc' := 2) (x := a1) dX9_ring_1 rfl rfl ?_
  obtain ⟨z1, z2, V⟩ := V
  refine s_callV (pc' := 5) (av := [vI a1]) (a := 65) (sk := []) (kc := 9) dX9_ring_2 ml_9_187 okX9_isKind oiX9_isKind (by decide) (NF := 39) rfl (fa_t65 sA) rfl (Nat.le_of_ble_eq_true rfl) (Nat.le_refl 0) (Nat.le_refl 0) rfl (CI.eon (c_X9_isKind sA z1 z2) ?_)
  obtain ⟨V14, V15⟩ := V
  refine s_ifeq_b (pc' := 8) (tgt := 31) dX9_ring_5 rfl rfl (fun c => ?_) (fun c => ?_)
  · have V := V14 c
    refine s_iconst (pc' := 32) dX9_ring_31 rfl ?_
    exact s_iret dX9_ring_32 rfl ⟨_, rfl, rfl, V⟩
  · have V := V15 c
    refine s_aload_n (pc' := 9) (x := 65) dX9_ring_8 rfl rfl ?_
    refine s_get (pc' := 12) (v := vI (h 65 23)) (kc := 9) (i := 23) dX9_ring_9 clX9 (by decide) fl_9_23 (fa_t65 sA) (fun _ => rfl) rfl ?_
    refine s_aload_n (pc' := 13) (x := 65) dX9_ring_12 rfl rfl ?_
    refine s_getF (pc' := 16) (b := 66) (kc := 9) (i := 0) dX9_ring_13 clX9 (by decide) fl_9_0 (fa_t65 sA) (fa_f9_0 sA) (fun _ => rfl) rfl ?_
    refine s_bipush (pc' := 18) dX9_ring_16 (by decide) rfl ?_
    refine s_iald (pc' := 19) dX9_ring_18 (fa_t66 sA) (by decide) (fa_lt66 sA (by decide)) rfl ?_
    obtain ⟨z3, z4, V⟩ := V
    obtain ⟨V12, V13⟩ := V
    refine s_icmp_gt (pc' := 22) (tgt := 31) dX9_ring_19 rfl rfl z3 z4 (fun c => ?_) (fun c => ?_)
    · have V := V12 c
      refine s_iconst (pc' := 32) dX9_ring_31 rfl ?_
      exact s_iret dX9_ring_32 rfl ⟨_, rfl, rfl, V⟩
    · have V := V13 c
      refine s_aload_n (pc' := 23) (x := 65) dX9_ring_22 rfl rfl ?_
      refine s_get (pc' := 26) (v := vI (h 65 25)) (kc := 9) (i := 25) dX9_ring_23 clX9 (by decide) fl_9_25 (fa_t65 sA) (fun _ => rfl) rfl ?_
      refine s_bipush (pc' := 28) dX9_ring_26 (by decide) rfl ?_
      obtain ⟨z5, V⟩ := V
      obtain ⟨V10, V11⟩ := V
      refine s_icmp_ne (pc' := 31) (tgt := 33) dX9_ring_28 rfl rfl z5 (by decide) (fun c => ?_) (fun c => ?_)
      · have V := V10 c
        refine s_aload_n (pc' := 34) (x := 65) dX9_ring_33 rfl rfl ?_
        refine s_dup (pc' := 35) dX9_ring_34 (by intro _ q; cases q) rfl ?_
        refine s_get (pc' := 38) (v := vI (h 65 25)) (kc := 9) (i := 25) dX9_ring_35 clX9 (by decide) fl_9_25 (fa_t65 sA) (fun _ => rfl) rfl ?_
        refine s_iconst (pc' := 39) dX9_ring_38 rfl ?_
        refine s_iadd (pc' := 40) dX9_ring_39 rfl ?_
        refine s_put (pc' := 43) (v := vI ((h 65 25) + 1)) (x := ((h 65 25) + 1)) (kc := 9) (i := 25) dX9_ring_40 clX9 (by decide) fl_9_25 rfl (fa_t65 sA) (fun E => nar_int E _) (fun _ _ => rfl) (j0 := 25) rfl rfl ?_
        obtain ⟨h6, e7⟩ : ∃ q, q = st h 65 25 ((h 65 25) + 1) := ⟨_, rfl⟩
        rw [← e7]
        have V := V h6 e7
        refine s_aload_n (pc' := 44) (x := 65) dX9_ring_43 rfl rfl ?_
        refine s_iload_n (pc' := 45) (x := a1) dX9_ring_44 rfl rfl ?_
        refine s_callV (pc' := 48) (av := [vI a1]) (a := 65) (sk := []) (kc := 9) dX9_ring_45 ml_9_157 okX9_comes oiX9_comes (by decide) (NF := 39) rfl (fa_t65 sA) rfl (Nat.le_of_ble_eq_true rfl) (Nat.le_refl 0) (Nat.le_refl 0) rfl (CI.on V (fun x9 h8 V => ?_))
        exact s_iret dX9_ring_48 rfl ⟨_, rfl, rfl, V⟩
      · have V := V11 c
        refine s_iconst (pc' := 32) dX9_ring_31 rfl ?_
        exact s_iret dX9_ring_32 rfl ⟨_, rfl, rfl, V⟩
theorem e_X9_now {w : WS} {h : AH} {Q : Int → AH → Prop} (X : XI mX9_now 0 [some (vR 65), none] [] w h Q) : CI mX9_now [vR 65] w h Q := CA.of (M := mX9_now) (by decide) rfl (Nat.le_of_ble_eq_true rfl) X
set_option maxRecDepth 20000 in
theorem r_X9_now_0 {w : WS} {h : AH} {Q : Int → AH → Prop} (sA : shA w) (V : CI mX9_left [vR 65] w h (fun x2 h1 => (inR x2 ∧ ((¬ x2 = 0 → CV mX9_handWakes [vR 65] w h1 (fun h4 => Q x2 h4)) ∧ (x2 = 0 → Q (-1) h1))))) : XI mX9_now 0 [some (vR 65), none] [] w h Q := by
  refine s_aload_n (pc' := 1) (x := 65) dX9_now_0 rfl rfl ?_
  refine s_callV (pc' := 4) (av := []) (a := 65) (sk := []) (kc := 9) dX9_now_1 ml_9_172 okX9_left oiX9_left (by decide) (NF := 39) rfl (fa_t65 sA) rfl (Nat.le_of_ble_eq_true rfl) (Nat.le_refl 0) (Nat.le_refl 0) rfl (CI.on V (fun x2 h1 V => ?_))
  refine s_istore_n (pc' := 5) (ls' := [some (vR 65), some (vI x2)]) dX9_now_4 (by decide) rfl rfl ?_
  refine s_iload_n (pc' := 6) (x := x2) dX9_now_5 rfl rfl ?_
  obtain ⟨z3, V⟩ := V
  obtain ⟨V5, V6⟩ := V
  refine s_if_ne (pc' := 9) (tgt := 11) dX9_now_6 rfl rfl z3 (fun c => ?_) (fun c => ?_)
  · have V := V5 c
    refine s_aload_n (pc' := 12) (x := 65) dX9_now_11 rfl rfl ?_
    refine s_callV (pc' := 15) (av := []) (a := 65) (sk := []) (kc := 9) dX9_now_12 ml_9_185 okX9_handWakes oiX9_handWakes (by decide) (NF := 39) rfl (fa_t65 sA) rfl (Nat.le_of_ble_eq_true rfl) (Nat.le_refl 0) (Nat.le_refl 0) rfl (CV.on V (fun h4 V => ?_))
    refine s_iload_n (pc' := 16) (x := x2) dX9_now_15 rfl rfl ?_
    exact s_iret dX9_now_16 rfl ⟨_, rfl, rfl, V⟩
  · have V := V6 c
    refine s_iconst (pc' := 10) dX9_now_9 rfl ?_
    exact s_iret dX9_now_10 rfl ⟨_, rfl, rfl, V⟩
theorem e_X9_laysHindsight {w : WS} {h : AH} {Q : AH → Prop} (X : XV mX9_laysHindsight 0 [some (vR 65), none] [] w h Q) : CV mX9_laysHindsight [vR 65] w h Q := CA.of (M := mX9_laysHindsight) (by decide) rfl (Nat.le_of_ble_eq_true rfl) X
set_option maxRecDepth 20000 in
theorem r_X9_laysHindsight_0 {w : WS} {h : AH} {Q : AH → Prop} (sA : shA w) (V : (∀ h1, h1 = st h 65 10 (h 65 20) → XV mX9_laysHindsight 10 [some (vR 65), some (vI 0)] [] w h1 Q)) : XV mX9_laysHindsight 0 [some (vR 65), none] [] w h Q := by
  refine s_aload_n (pc' := 1) (x := 65) dX9_laysHindsight_0 rfl rfl ?_
  refine s_aload_n (pc' := 2) (x := 65) dX9_laysHindsight_1 rfl rfl ?_
  refine s_get (pc' := 5) (v := vI (h 65 20)) (kc := 9) (i := 20) dX9_laysHindsight_2 clX9 (by decide) fl_9_20 (fa_t65 sA) (fun _ => rfl) rfl ?_
  refine s_put (pc' := 8) (v := vI (h 65 20)) (x := (h 65 20)) (kc := 9) (i := 10) dX9_laysHindsight_5 clX9 (by decide) fl_9_10 rfl (fa_t65 sA) (fun E => nar_int E _) (fun _ _ => rfl) (j0 := 10) rfl rfl ?_
  obtain ⟨h1, e2⟩ : ∃ q, q = st h 65 10 (h 65 20) := ⟨_, rfl⟩
  rw [← e2]
  have V := V h1 e2
  refine s_iconst (pc' := 9) dX9_laysHindsight_8 rfl ?_
  refine s_istore_n (pc' := 10) (ls' := [some (vR 65), some (vI 0)]) dX9_laysHindsight_9 (by decide) rfl rfl ?_
  exact V
set_option maxRecDepth 20000 in
theorem r_X9_laysHindsight_10 {w : WS} {h : AH} {Q : AH → Prop} {a1 : Int} (sA : shA w) (V : (inR a1 ∧ inR (h 65 10) ∧ (((h 65 10) ≤ a1 → CV mX9_laysDearest [vR 65, vI 0] w h (fun h3 => Q h3)) ∧ (¬ (h 65 10) ≤ a1 → (0 ≤ a1 ∧ a1 < 300 ∧ (∀ h6, h6 = st h 69 a1 (h 77 a1) → (∀ h8, h8 = st h6 70 a1 (h6 78 a1) → (∀ h10, h10 = st h8 71 a1 (h8 79 a1) → XV mX9_laysHindsight 10 [some (vR 65), some (vI (a1 + 1))] [] w h10 Q)))))))) : XV mX9_laysHindsight 10 [some (vR 65), some (vI a1)] [] w h Q := by
  refine s_iload_n (pc' := 11) (x := a1) dX9_laysHindsight_10 rfl rfl ?_
  refine s_aload_n (pc' := 12) (x := 65) dX9_laysHindsight_11 rfl rfl ?_
  refine s_get (pc' := 15) (v := vI (h 65 10)) (kc := 9) (i := 10) dX9_laysHindsight_12 clX9 (by decide) fl_9_10 (fa_t65 sA) (fun _ => rfl) rfl ?_
  obtain ⟨z1, z2, V⟩ := V
  obtain ⟨V12, V13⟩ := V
  refine s_icmp_ge (pc' := 18) (tgt := 60) dX9_laysHindsight_15 rfl rfl z1 z2 (fun c => ?_) (fun c => ?_)
  · have V := V12 c
    refine s_aload_n (pc' := 61) (x := 65) dX9_laysHindsight_60 rfl rfl ?_
    refine s_iconst (pc' := 62) dX9_laysHindsight_61 rfl ?_
    refine s_callV (pc' := 65) (av := [vI 0]) (a := 65) (sk := []) (kc := 9) dX9_laysHindsight_62 ml_9_135 okX9_laysDearest oiX9_laysDearest (by decide) (NF := 39) rfl (fa_t65 sA) rfl (Nat.le_of_ble_eq_true rfl) (Nat.le_refl 0) (Nat.le_refl 0) rfl (CV.on V (fun h3 V => ?_))
    exact s_vret dX9_laysHindsight_65 rfl ⟨rfl, rfl, V⟩
  · have V := V13 c
    refine s_aload_n (pc' := 19) (x := 65) dX9_laysHindsight_18 rfl rfl ?_
    refine s_getF (pc' := 22) (b := 69) (kc := 9) (i := 6) dX9_laysHindsight_19 clX9 (by decide) fl_9_6 (fa_t65 sA) (fa_f9_6 sA) (fun _ => rfl) rfl ?_
    refine s_iload_n (pc' := 23) (x := a1) dX9_laysHindsight_22 rfl rfl ?_
    refine s_aload_n (pc' := 24) (x := 65) dX9_laysHindsight_23 rfl rfl ?_
    refine s_getF (pc' := 27) (b := 77) (kc := 9) (i := 16) dX9_laysHindsight_24 clX9 (by decide) fl_9_16 (fa_t65 sA) (fa_f9_16 sA) (fun _ => rfl) rfl ?_
    refine s_iload_n (pc' := 28) (x := a1) dX9_laysHindsight_27 rfl rfl ?_
    obtain ⟨z4, z5, V⟩ := V
    refine s_iald (pc' := 29) dX9_laysHindsight_28 (fa_t77 sA) z4 (fa_lt77 sA z5) rfl ?_
    refine s_iast (pc' := 30) dX9_laysHindsight_29 (fa_t69 sA) z4 (fa_lt69 sA z5) rfl ?_
    obtain ⟨h6, e7⟩ : ∃ q, q = st h 69 a1 (h 77 a1) := ⟨_, rfl⟩
    rw [← e7]
    have V := V h6 e7
    refine s_aload_n (pc' := 31) (x := 65) dX9_laysHindsight_30 rfl rfl ?_
    refine s_getF (pc' := 34) (b := 70) (kc := 9) (i := 7) dX9_laysHindsight_31 clX9 (by decide) fl_9_7 (fa_t65 sA) (fa_f9_7 sA) (fun _ => rfl) rfl ?_
    refine s_iload_n (pc' := 35) (x := a1) dX9_laysHindsight_34 rfl rfl ?_
    refine s_aload_n (pc' := 36) (x := 65) dX9_laysHindsight_35 rfl rfl ?_
    refine s_getF (pc' := 39) (b := 78) (kc := 9) (i := 17) dX9_laysHindsight_36 clX9 (by decide) fl_9_17 (fa_t65 sA) (fa_f9_17 sA) (fun _ => rfl) rfl ?_
    refine s_iload_n (pc' := 40) (x := a1) dX9_laysHindsight_39 rfl rfl ?_
    refine s_iald (pc' := 41) dX9_laysHindsight_40 (fa_t78 sA) z4 (fa_lt78 sA z5) rfl ?_
    refine s_iast (pc' := 42) dX9_laysHindsight_41 (fa_t70 sA) z4 (fa_lt70 sA z5) rfl ?_
    obtain ⟨h8, e9⟩ : ∃ q, q = st h6 70 a1 (h6 78 a1) := ⟨_, rfl⟩
    rw [← e9]
    have V := V h8 e9
    refine s_aload_n (pc' := 43) (x := 65) dX9_laysHindsight_42 rfl rfl ?_
    refine s_getF (pc' := 46) (b := 71) (kc := 9) (i := 8) dX9_laysHindsight_43 clX9 (by decide) fl_9_8 (fa_t65 sA) (fa_f9_8 sA) (fun _ => rfl) rfl ?_
    refine s_iload_n (pc' := 47) (x := a1) dX9_laysHindsight_46 rfl rfl ?_
    refine s_aload_n (pc' := 48) (x := 65) dX9_laysHindsight_47 rfl rfl ?_
    refine s_getF (pc' := 51) (b := 79) (kc := 9) (i := 18) dX9_laysHindsight_48 clX9 (by decide) fl_9_18 (fa_t65 sA) (fa_f9_18 sA) (fun _ => rfl) rfl ?_
    refine s_iload_n (pc' := 52) (x := a1) dX9_laysHindsight_51 rfl rfl ?_
    refine s_iald (pc' := 53) dX9_laysHindsight_52 (fa_t79 sA) z4 (fa_lt79 sA z5) rfl ?_
    refine s_iast (pc' := 54) dX9_laysHindsight_53 (fa_t71 sA) z4 (fa_lt71 sA z5) rfl ?_
    obtain ⟨h10, e11⟩ : ∃ q, q = st h8 71 a1 (h8 79 a1) := ⟨_, rfl⟩
    rw [← e11]
    have V := V h10 e11
    refine s_iinc (pc' := 57) (ls' := [some (vR 65), some (vI (a1 + 1))]) dX9_laysHindsight_54 rfl (by decide) rfl rfl ?_
    refine s_goto (tgt := 10) dX9_laysHindsight_57 rfl ?_
    exact V
theorem e_X9_hand {w : WS} {h : AH} {Q : Int → AH → Prop} {a1 : Int} (X : XI mX9_hand 0 [some (vR 65), some (vI a1)] [] w h Q) : CI mX9_hand [vR 65, vI a1] w h Q := CA.of (M := mX9_hand) (by decide) rfl (Nat.le_of_ble_eq_true rfl) X
set_option maxRecDepth 20000 in
theorem r_X9_hand_0 {w : WS} {h : AH} {Q : Int → AH → Prop} {a1 : Int} (sA : shA w) (V : (inR a1 ∧ ((a1 = 0 → Q (h 65 20) h) ∧ (a1 = 1 → CI mX9_left [vR 65] w h (fun x4 h3 => Q x4 h3)) ∧ (a1 = 2 → Q (h 65 21) h) ∧ (a1 = 3 → CI mX9_handWaits [vR 65] w h (fun x8 h7 => Q (((h 66 99) * (h 65 21)) + x8) h7)) ∧ (a1 = 4 → CI mX9_leftWaits [vR 65, vI (h 65 23)] w h (fun x11 h10 => Q x11 h10)) ∧ (a1 = 5 → CI mX9_leftLatest [vR 65] w h (fun x14 h13 => Q x14 h13)) ∧ (a1 = 6 → Q (h 65 22) h) ∧ (a1 = 7 → CV mX9_laysHindsight [vR 65] w h (fun h17 => CI mX9_waitsAll [vR 65] w h17 (fun x19 h18 => Q (((h17 66 99) * (h17 65 12)) + x19) h18))) ∧ (a1 = 8 → CV mX9_laysHindsight [vR 65] w h (fun h21 => Q (h21 65 12) h21)) ∧ ((a1 < 0 ∨ 8 < a1) → Q (-1) h)))) : XI mX9_hand 0 [some (vR 65), some (vI a1)] [] w h Q := by
  refine s_iload_n (pc' := 1) (x := a1) dX9_hand_0 rfl rfl ?_
  obtain ⟨z1, V⟩ := V
  obtain ⟨V2, V5, V6, V9, V12, V15, V16, V20, V22, V23⟩ := V
  by_cases c : a1 = 0
  · have V := V2 c
    refine s_tableIn (v := 0) (tgt := 52) dX9_hand_1 c (by decide) (by decide) (by decide) rfl rfl ?_
    refine s_aload_n (pc' := 53) (x := 65) dX9_hand_52 rfl rfl ?_
    refine s_get (pc' := 56) (v := vI (h 65 20)) (kc := 9) (i := 20) dX9_hand_53 clX9 (by decide) fl_9_20 (fa_t65 sA) (fun _ => rfl) rfl ?_
    exact s_iret dX9_hand_56 rfl ⟨_, rfl, rfl, V⟩
  have c0 := c
  by_cases c : a1 = 1
  · have V := V5 c
    refine s_tableIn (v := 1) (tgt := 57) dX9_hand_1 c (by decide) (by decide) (by decide) rfl rfl ?_
    refine s_aload_n (pc' := 58) (x := 65) dX9_hand_57 rfl rfl ?_
    refine s_callV (pc' := 61) (av := []) (a := 65) (sk := []) (kc := 9) dX9_hand_58 ml_9_172 okX9_left oiX9_left (by decide) (NF := 39) rfl (fa_t65 sA) rfl (Nat.le_of_ble_eq_true rfl) (Nat.le_refl 0) (Nat.le_refl 0) rfl (CI.on V (fun x4 h3 V => ?_))
    exact s_iret dX9_hand_61 rfl ⟨_, rfl, rfl, V⟩
  have c1 := c
  by_cases c : a1 = 2
  · have V := V6 c
    refine s_tableIn (v := 2) (tgt := 62) dX9_hand_1 c (by decide) (by decide) (by decide) rfl rfl ?_
    refine s_aload_n (pc' := 63) (x := 65) dX9_hand_62 rfl rfl ?_
    refine s_get (pc' := 66) (v := vI (h 65 21)) (kc := 9) (i := 21) dX9_hand_63 clX9 (by decide) fl_9_21 (fa_t65 sA) (fun _ => rfl) rfl ?_
    exact s_iret dX9_hand_66 rfl ⟨_, rfl, rfl, V⟩
  have c2 := c
  by_cases c : a1 = 3
  · have V := V9 c
    refine s_tableIn (v := 3) (tgt := 67) dX9_hand_1 c (by decide) (by decide) (by decide) rfl rfl ?_
    refine s_aload_n (pc' := 68) (x := 65) dX9_hand_67 rfl rfl ?_
    refine s_getF (pc' := 71) (b := 66) (kc := 9) (i := 0) dX9_hand_68 clX9 (by decide) fl_9_0 (fa_t65 sA) (fa_f9_0 sA) (fun _ => rfl) rfl ?_
    refine s_bipush (pc' := 73) dX9_hand_71 (by decide) rfl ?_
    refine s_iald (pc' := 74) dX9_hand_73 (fa_t66 sA) (by decide) (fa_lt66 sA (by decide)) rfl ?_
    refine s_aload_n (pc' := 75) (x := 65) dX9_hand_74 rfl rfl ?_
    refine s_get (pc' := 78) (v := vI (h 65 21)) (kc := 9) (i := 21) dX9_hand_75 clX9 (by decide) fl_9_21 (fa_t65 sA) (fun _ => rfl) rfl ?_
    refine s_imul (pc' := 79) dX9_hand_78 rfl ?_
    refine s_aload_n (pc' := 80) (x := 65) dX9_hand_79 rfl rfl ?_
    refine s_callV (pc' := 83) (av := []) (a := 65) (sk := [vI ((h 66 99) * (h 65 21))]) (kc := 9) dX9_hand_80 ml_9_191 okX9_handWaits oiX9_handWaits (by decide) (NF := 39) rfl (fa_t65 sA) rfl (Nat.le_of_ble_eq_true rfl) (Nat.le_refl 0) (Nat.le_refl 0) rfl (CI.on V (fun x8 h7 V => ?_))
    refine s_iadd (pc' := 84) dX9_hand_83 rfl ?_
    exact s_iret dX9_hand_84 rfl ⟨_, rfl, rfl, V⟩
  have c3 := c
  by_cases c : a1 = 4
  · have V := V12 c
    refine s_tableIn (v := 4) (tgt := 85) dX9_hand_1 c (by decide) (by decide) (by decide) rfl rfl ?_
    refine s_aload_n (pc' := 86) (x := 65) dX9_hand_85 rfl rfl ?_
    refine s_aload_n (pc' := 87) (x := 65) dX9_hand_86 rfl rfl ?_
    refine s_get (pc' := 90) (v := vI (h 65 23)) (kc := 9) (i := 23) dX9_hand_87 clX9 (by decide) fl_9_23 (fa_t65 sA) (fun _ => rfl) rfl ?_
    refine s_callV (pc' := 93) (av := [vI (h 65 23)]) (a := 65) (sk := []) (kc := 9) dX9_hand_90 ml_9_178 okX9_leftWaits oiX9_leftWaits (by decide) (NF := 39) rfl (fa_t65 sA) rfl (Nat.le_of_ble_eq_true rfl) (Nat.le_refl 0) (Nat.le_refl 0) rfl (CI.on V (fun x11 h10 V => ?_))
    exact s_iret dX9_hand_93 rfl ⟨_, rfl, rfl, V⟩
  have c4 := c
  by_cases c : a1 = 5
  · have V := V15 c
    refine s_tableIn (v := 5) (tgt := 94) dX9_hand_1 c (by decide) (by decide) (by decide) rfl rfl ?_
    refine s_aload_n (pc' := 95) (x := 65) dX9_hand_94 rfl rfl ?_
    refine s_callV (pc' := 98) (av := []) (a := 65) (sk := []) (kc := 9) dX9_hand_95 ml_9_175 okX9_leftLatest oiX9_leftLatest (by decide) (NF := 39) rfl (fa_t65 sA) rfl (Nat.le_of_ble_eq_true rfl) (Nat.le_refl 0) (Nat.le_refl 0) rfl (CI.on V (fun x14 h13 V => ?_))
    exact s_iret dX9_hand_98 rfl ⟨_, rfl, rfl, V⟩
  have c5 := c
  by_cases c : a1 = 6
  · have V := V16 c
    refine s_tableIn (v := 6) (tgt := 99) dX9_hand_1 c (by decide) (by decide) (by decide) rfl rfl ?_
    refine s_aload_n (pc' := 100) (x := 65) dX9_hand_99 rfl rfl ?_
    refine s_get (pc' := 103) (v := vI (h 65 22)) (kc := 9) (i := 22) dX9_hand_100 clX9 (by decide) fl_9_22 (fa_t65 sA) (fun _ => rfl) rfl ?_
    exact s_iret dX9_hand_103 rfl ⟨_, rfl, rfl, V⟩
  have c6 := c
  by_cases c : a1 = 7
  · have V := V20 c
    refine s_tableIn (v := 7) (tgt := 104) dX9_hand_1 c (by decide) (by decide) (by decide) rfl rfl ?_
    refine s_aload_n (pc' := 105) (x := 65) dX9_hand_104 rfl rfl ?_
    refine s_callV (pc' := 108) (av := []) (a := 65) (sk := []) (kc := 9) dX9_hand_105 ml_9_194 okX9_laysHindsight oiX9_laysHindsight (by decide) (NF := 39) rfl (fa_t65 sA) rfl (Nat.le_of_ble_eq_true rfl) (Nat.le_refl 0) (Nat.le_refl 0) rfl (CV.on V (fun h17 V => ?_))
    refine s_aload_n (pc' := 109) (x := 65) dX9_hand_108 rfl rfl ?_
    refine s_getF (pc' := 112) (b := 66) (kc := 9) (i := 0) dX9_hand_109 clX9 (by decide) fl_9_0 (fa_t65 sA) (fa_f9_0 sA) (fun _ => rfl) rfl ?_
    refine s_bipush (pc' := 114) dX9_hand_112 (by decide) rfl ?_
    refine s_iald (pc' := 115) dX9_hand_114 (fa_t66 sA) (by decide) (fa_lt66 sA (by decide)) rfl ?_
    refine s_aload_n (pc' := 116) (x := 65) dX9_hand_115 rfl rfl ?_
    refine s_get (pc' := 119) (v := vI (h17 65 12)) (kc := 9) (i := 12) dX9_hand_116 clX9 (by decide) fl_9_12 (fa_t65 sA) (fun _ => rfl) rfl ?_
    refine s_imul (pc' := 120) dX9_hand_119 rfl ?_
    refine s_aload_n (pc' := 121) (x := 65) dX9_hand_120 rfl rfl ?_
    refine s_callV (pc' := 124) (av := []) (a := 65) (sk := [vI ((h17 66 99) * (h17 65 12))]) (kc := 9) dX9_hand_121 ml_9_197 okX9_waitsAll oiX9_waitsAll (by decide) (NF := 39) rfl (fa_t65 sA) rfl (Nat.le_of_ble_eq_true rfl) (Nat.le_refl 0) (Nat.le_refl 0) rfl (CI.on V (fun x19 h18 V => ?_))
    refine s_iadd (pc' := 125) dX9_hand_124 rfl ?_
    exact s_iret dX9_hand_125 rfl ⟨_, rfl, rfl, V⟩
  have c7 := c
  by_cases c : a1 = 8
  · have V := V22 c
    refine s_tableIn (v := 8) (tgt := 126) dX9_hand_1 c (by decide) (by decide) (by decide) rfl rfl ?_
    refine s_aload_n (pc' := 127) (x := 65) dX9_hand_126 rfl rfl ?_
    refine s_callV (pc' := 130) (av := []) (a := 65) (sk := []) (kc := 9) dX9_hand_127 ml_9_194 okX9_laysHindsight oiX9_laysHindsight (by decide) (NF := 39) rfl (fa_t65 sA) rfl (Nat.le_of_ble_eq_true rfl) (Nat.le_refl 0) (Nat.le_refl 0) rfl (CV.on V (fun h21 V => ?_))
    refine s_aload_n (pc' := 131) (x := 65) dX9_hand_130 rfl rfl ?_
    refine s_get (pc' := 134) (v := vI (h21 65 12)) (kc := 9) (i := 12) dX9_hand_131 clX9 (by decide) fl_9_12 (fa_t65 sA) (fun _ => rfl) rfl ?_
    exact s_iret dX9_hand_134 rfl ⟨_, rfl, rfl, V⟩
  have c8 := c
  have co : a1 < 0 ∨ 8 < a1 := by omega
  have V := V23 co
  refine s_tableOut (tgt := 135) dX9_hand_1 z1 co rfl ?_
  refine s_iconst (pc' := 136) dX9_hand_135 rfl ?_
  exact s_iret dX9_hand_136 rfl ⟨_, rfl, rfl, V⟩
theorem e_X9_count {w : WS} {h : AH} {Q : Int → AH → Prop} {a1 : Int} (X : XI mX9_count 0 [some (vR 65), some (vI a1)] [] w h Q) : CI mX9_count [vR 65, vI a1] w h Q := CA.of (M := mX9_count) (by decide) rfl (Nat.le_of_ble_eq_true rfl) X
set_option maxRecDepth 20000 in
theorem r_X9_count_0 {w : WS} {h : AH} {Q : Int → AH → Prop} {a1 : Int} (sA : shA w) (V : CV mX9_laysCalls [vR 65] w h (fun h1 => (inR a1 ∧ ((a1 = 0 → Q (h1 66 96) h1) ∧ (a1 = 1 → Q (h1 66 97) h1) ∧ (a1 = 2 → Q (h1 65 10) h1) ∧ (a1 = 3 → Q (h1 66 98) h1) ∧ (a1 = 4 → Q (h1 66 99) h1) ∧ (a1 = 5 → Q (h1 66 100) h1) ∧ (a1 = 6 → Q (h1 65 23) h1) ∧ (a1 = 7 → Q (h1 65 24) h1) ∧ (a1 = 8 → Q (h1 65 3) h1) ∧ ((a1 < 0 ∨ 8 < a1) → Q (-1) h1))))) : XI mX9_count 0 [some (vR 65), some (vI a1)] [] w h Q := by
  refine s_aload_n (pc' := 1) (x := 65) dX9_count_0 rfl rfl ?_
  refine s_callV (pc' := 4) (av := []) (a := 65) (sk := []) (kc := 9) dX9_count_1 ml_9_129 okX9_laysCalls oiX9_laysCalls (by decide) (NF := 39) rfl (fa_t65 sA) rfl (Nat.le_of_ble_eq_true rfl) (Nat.le_refl 0) (Nat.le_refl 0) rfl (CV.on V (fun h1 V => ?_))
  refine s_iload_n (pc' := 5) (x := a1) dX9_count_4 rfl rfl ?_
  obtain ⟨z2, V⟩ := V
  obtain ⟨V3, V4, V5, V6, V7, V8, V9, V10, V11, V12⟩ := V
  by_cases c : a1 = 0
  · have V := V3 c
    refine s_tableIn (v := 0) (tgt := 56) dX9_count_5 c (by decide) (by decide) (by decide) rfl rfl ?_
    refine s_aload_n (pc' := 57) (x := 65) dX9_count_56 rfl rfl ?_
    refine s_callV (pc' := 60) (av := []) (a := 65) (sk := []) (kc := 9) dX9_count_57 ml_9_73 okX9_kinds oiX9_kinds (by decide) (NF := 39) rfl (fa_t65 sA) rfl (Nat.le_of_ble_eq_true rfl) (Nat.le_refl 0) (Nat.le_refl 0) rfl (CI.eon (c_X9_kinds sA) ?_)
    exact s_iret dX9_count_60 rfl ⟨_, rfl, rfl, V⟩
  have c0 := c
  by_cases c : a1 = 1
  · have V := V4 c
    refine s_tableIn (v := 1) (tgt := 61) dX9_count_5 c (by decide) (by decide) (by decide) rfl rfl ?_
    refine s_aload_n (pc' := 62) (x := 65) dX9_count_61 rfl rfl ?_
    refine s_callV (pc' := 65) (av := []) (a := 65) (sk := []) (kc := 9) dX9_count_62 ml_9_88 okX9_timers oiX9_timers (by decide) (NF := 39) rfl (fa_t65 sA) rfl (Nat.le_of_ble_eq_true rfl) (Nat.le_refl 0) (Nat.le_refl 0) rfl (CI.eon (c_X9_timers sA) ?_)
    exact s_iret dX9_count_65 rfl ⟨_, rfl, rfl, V⟩
  have c1 := c
  by_cases c : a1 = 2
  · have V := V5 c
    refine s_tableIn (v := 2) (tgt := 66) dX9_count_5 c (by decide) (by decide) (by decide) rfl rfl ?_
    refine s_aload_n (pc' := 67) (x := 65) dX9_count_66 rfl rfl ?_
    refine s_get (pc' := 70) (v := vI (h1 65 10)) (kc := 9) (i := 10) dX9_count_67 clX9 (by decide) fl_9_10 (fa_t65 sA) (fun _ => rfl) rfl ?_
    exact s_iret dX9_count_70 rfl ⟨_, rfl, rfl, V⟩
  have c2 := c
  by_cases c : a1 = 3
  · have V := V6 c
    refine s_tableIn (v := 3) (tgt := 71) dX9_count_5 c (by decide) (by decide) (by decide) rfl rfl ?_
    refine s_aload_n (pc' := 72) (x := 65) dX9_count_71 rfl rfl ?_
    refine s_getF (pc' := 75) (b := 66) (kc := 9) (i := 0) dX9_count_72 clX9 (by decide) fl_9_0 (fa_t65 sA) (fa_f9_0 sA) (fun _ => rfl) rfl ?_
    refine s_bipush (pc' := 77) dX9_count_75 (by decide) rfl ?_
    refine s_iald (pc' := 78) dX9_count_77 (fa_t66 sA) (by decide) (fa_lt66 sA (by decide)) rfl ?_
    exact s_iret dX9_count_78 rfl ⟨_, rfl, rfl, V⟩
  have c3 := c
  by_cases c : a1 = 4
  · have V := V7 c
    refine s_tableIn (v := 4) (tgt := 79) dX9_count_5 c (by decide) (by decide) (by decide) rfl rfl ?_
    refine s_aload_n (pc' := 80) (x := 65) dX9_count_79 rfl rfl ?_
    refine s_getF (pc' := 83) (b := 66) (kc := 9) (i := 0) dX9_count_80 clX9 (by decide) fl_9_0 (fa_t65 sA) (fa_f9_0 sA) (fun _ => rfl) rfl ?_
    refine s_bipush (pc' := 85) dX9_count_83 (by decide) rfl ?_
    refine s_iald (pc' := 86) dX9_count_85 (fa_t66 sA) (by decide) (fa_lt66 sA (by decide)) rfl ?_
    exact s_iret dX9_count_86 rfl ⟨_, rfl, rfl, V⟩
  have c4 := c
  by_cases c : a1 = 5
  · have V := V8 c
    refine s_tableIn (v := 5) (tgt := 87) dX9_count_5 c (by decide) (by decide) (by decide) rfl rfl ?_
    refine s_aload_n (pc' := 88) (x := 65) dX9_count_87 rfl rfl ?_
    refine s_getF (pc' := 91) (b := 66) (kc := 9) (i := 0) dX9_count_88 clX9 (by decide) fl_9_0 (fa_t65 sA) (fa_f9_0 sA) (fun _ => rfl) rfl ?_
    refine s_bipush (pc' := 93) dX9_count_91 (by decide) rfl ?_
    refine s_iald (pc' := 94) dX9_count_93 (fa_t66 sA) (by decide) (fa_lt66 sA (by decide)) rfl ?_
    exact s_iret dX9_count_94 rfl ⟨_, rfl, rfl, V⟩
  have c5 := c
  by_cases c : a1 = 6
  · have V := V9 c
    refine s_tableIn (v := 6) (tgt := 95) dX9_count_5 c (by decide) (by decide) (by decide) rfl rfl ?_
    refine s_aload_n (pc' := 96) (x := 65) dX9_count_95 rfl rfl ?_
    refine s_get (pc' := 99) (v := vI (h1 65 23)) (kc := 9) (i := 23) dX9_count_96 clX9 (by decide) fl_9_23 (fa_t65 sA) (fun _ => rfl) rfl ?_
    exact s_iret dX9_count_99 rfl ⟨_, rfl, rfl, V⟩
  have c6 := c
  by_cases c : a1 = 7
  · have V := V10 c
    refine s_tableIn (v := 7) (tgt := 100) dX9_count_5 c (by decide) (by decide) (by decide) rfl rfl ?_
    refine s_aload_n (pc' := 101) (x := 65) dX9_count_100 rfl rfl ?_
    refine s_get (pc' := 104) (v := vI (h1 65 24)) (kc := 9) (i := 24) dX9_count_101 clX9 (by decide) fl_9_24 (fa_t65 sA) (fun _ => rfl) rfl ?_
    exact s_iret dX9_count_104 rfl ⟨_, rfl, rfl, V⟩
  have c7 := c
  by_cases c : a1 = 8
  · have V := V11 c
    refine s_tableIn (v := 8) (tgt := 105) dX9_count_5 c (by decide) (by decide) (by decide) rfl rfl ?_
    refine s_aload_n (pc' := 106) (x := 65) dX9_count_105 rfl rfl ?_
    refine s_get (pc' := 109) (v := vI (h1 65 3)) (kc := 9) (i := 3) dX9_count_106 clX9 (by decide) fl_9_3 (fa_t65 sA) (fun _ => rfl) rfl ?_
    exact s_iret dX9_count_109 rfl ⟨_, rfl, rfl, V⟩
  have c8 := c
  have co : a1 < 0 ∨ 8 < a1 := by omega
  have V := V12 co
  refine s_tableOut (tgt := 110) dX9_count_5 z2 co rfl ?_
  refine s_iconst (pc' := 111) dX9_count_110 rfl ?_
  exact s_iret dX9_count_111 rfl ⟨_, rfl, rfl, V⟩
theorem e_X9_timersOf {w : WS} {h : AH} {Q : Int → AH → Prop} {a1 : Int} (X : XI mX9_timersOf 0 [some (vR 65), some (vI a1), none, none] [] w h Q) : CI mX9_timersOf [vR 65, vI a1] w h Q := CA.of (M := mX9_timersOf) (by decide) rfl (Nat.le_of_ble_eq_true rfl) X
set_option maxRecDepth 20000 in
theorem r_X9_timersOf_0 {w : WS} {h : AH} {Q : Int → AH → Prop} {a1 : Int} (sA : shA w) (V : XI mX9_timersOf 4 [some (vR 65), some (vI a1), some (vI 0), some (vI 0)] [] w h Q) : XI mX9_timersOf 0 [some (vR 65), some (vI a1), none, none] [] w h Q := by
  refine s_iconst (pc' := 1) dX9_timersOf_0 rfl ?_
  refine s_istore_n (pc' := 2) (ls' := [some (vR 65), some (vI a1), some (vI 0), none]) dX9_timersOf_1 (by decide) rfl rfl ?_
  refine s_iconst (pc' := 3) dX9_timersOf_2 rfl ?_
  refine s_istore_n (pc' := 4) (ls' := [some (vR 65), some (vI a1), some (vI 0), some (vI 0)]) dX9_timersOf_3 (by decide) rfl rfl ?_
  exact V
set_option maxRecDepth 20000 in
theorem r_X9_timersOf_4 {w : WS} {h : AH} {Q : Int → AH → Prop} {a1 a2 a3 : Int} (sA : shA w) (V : (inR a3 ∧ inR (h 66 97) ∧ (((h 66 97) ≤ a3 → Q a2 h) ∧ (¬ (h 66 97) ≤ a3 → (0 ≤ (24 + a3) ∧ (24 + a3) < 202 ∧ (inR (h 66 (24 + a3)) ∧ inR a1 ∧ ((¬ (h 66 (24 + a3)) = a1 → XI mX9_timersOf 4 [some (vR 65), some (vI a1), some (vI (a2 + 0)), some (vI (a3 + 1))] [] w h Q) ∧ ((h 66 (24 + a3)) = a1 → XI mX9_timersOf 4 [some (vR 65), some (vI a1), some (vI (a2 + 1)), some (vI (a3 + 1))] [] w h Q)))))))) : XI mX9_timersOf 4 [some (vR 65), some (vI a1), some (vI a2), some (vI a3)] [] w h Q := by
  refine s_iload_n (pc' := 5) (x := a3) dX9_timersOf_4 rfl rfl ?_
  refine s_aload_n (pc' := 6) (x := 65) dX9_timersOf_5 rfl rfl ?_
  refine s_callV (pc' := 9) (av := []) (a := 65) (sk := [vI a3]) (kc := 9) dX9_timersOf_6 ml_9_88 okX9_timers oiX9_timers (by decide) (NF := 39) rfl (fa_t65 sA) rfl (Nat.le_of_ble_eq_true rfl) (Nat.le_refl 0) (Nat.le_refl 0) rfl (CI.eon (c_X9_timers sA) ?_)
  obtain ⟨z1, z2, V⟩ := V
  obtain ⟨V9, V10⟩ := V
  refine s_icmp_ge (pc' := 12) (tgt := 39) dX9_timersOf_9 rfl rfl z1 z2 (fun c => ?_) (fun c => ?_)
  · have V := V9 c
    refine s_iload_n (pc' := 40) (x := a2) dX9_timersOf_39 rfl rfl ?_
    exact s_iret dX9_timersOf_40 rfl ⟨_, rfl, rfl, V⟩
  · have V := V10 c
    refine s_iload_n (pc' := 13) (x := a2) dX9_timersOf_12 rfl rfl ?_
    refine s_aload_n (pc' := 14) (x := 65) dX9_timersOf_13 rfl rfl ?_
    refine s_getF (pc' := 17) (b := 66) (kc := 9) (i := 0) dX9_timersOf_14 clX9 (by decide) fl_9_0 (fa_t65 sA) (fa_f9_0 sA) (fun _ => rfl) rfl ?_
    refine s_bipush (pc' := 19) dX9_timersOf_17 (by decide) rfl ?_
    refine s_iload_n (pc' := 20) (x := a3) dX9_timersOf_19 rfl rfl ?_
    refine s_iadd (pc' := 21) dX9_timersOf_20 rfl ?_
    obtain ⟨z3, z4, V⟩ := V
    refine s_iald (pc' := 22) dX9_timersOf_21 (fa_t66 sA) z3 (fa_lt66 sA z4) rfl ?_
    refine s_iload_n (pc' := 23) (x := a1) dX9_timersOf_22 rfl rfl ?_
    obtain ⟨z5, z6, V⟩ := V
    obtain ⟨V7, V8⟩ := V
    refine s_icmp_ne (pc' := 26) (tgt := 30) dX9_timersOf_23 rfl rfl z5 z6 (fun c => ?_) (fun c => ?_)
    · have V := V7 c
      refine s_iconst (pc' := 31) dX9_timersOf_30 rfl ?_
      refine s_iadd (pc' := 32) dX9_timersOf_31 rfl ?_
      refine s_istore_n (pc' := 33) (ls' := [some (vR 65), some (vI a1), some (vI (a2 + 0)), some (vI a3)]) dX9_timersOf_32 (by decide) rfl rfl ?_
      refine s_iinc (pc' := 36) (ls' := [some (vR 65), some (vI a1), some (vI (a2 + 0)), some (vI (a3 + 1))]) dX9_timersOf_33 rfl (by decide) rfl rfl ?_
      refine s_goto (tgt := 4) dX9_timersOf_36 rfl ?_
      exact V
    · have V := V8 c
      refine s_iconst (pc' := 27) dX9_timersOf_26 rfl ?_
      refine s_goto (tgt := 31) dX9_timersOf_27 rfl ?_
      refine s_iadd (pc' := 32) dX9_timersOf_31 rfl ?_
      refine s_istore_n (pc' := 33) (ls' := [some (vR 65), some (vI a1), some (vI (a2 + 1)), some (vI a3)]) dX9_timersOf_32 (by decide) rfl rfl ?_
      refine s_iinc (pc' := 36) (ls' := [some (vR 65), some (vI a1), some (vI (a2 + 1)), some (vI (a3 + 1))]) dX9_timersOf_33 rfl (by decide) rfl rfl ?_
      refine s_goto (tgt := 4) dX9_timersOf_36 rfl ?_
      exact V
theorem e_X9_heirs {w : WS} {h : AH} {Q : Int → AH → Prop} {a1 : Int} (X : XI mX9_heirs 0 [some (vR 65), some (vI a1), none, none] [] w h Q) : CI mX9_heirs [vR 65, vI a1] w h Q := CA.of (M := mX9_heirs) (by decide) rfl (Nat.le_of_ble_eq_true rfl) X
set_option maxRecDepth 20000 in
theorem r_X9_heirs_0 {w : WS} {h : AH} {Q : Int → AH → Prop} {a1 : Int} (sA : shA w) (V : XI mX9_heirs 4 [some (vR 65), some (vI a1), some (vI 0), some (vI 0)] [] w h Q) : XI mX9_heirs 0 [some (vR 65), some (vI a1), none, none] [] w h Q := by
  refine s_iconst (pc' := 1) dX9_heirs_0 rfl ?_
  refine s_istore_n (pc' := 2) (ls' := [some (vR 65), some (vI a1), some (vI 0), none]) dX9_heirs_1 (by decide) rfl rfl ?_
  refine s_iconst (pc' := 3) dX9_heirs_2 rfl ?_
  refine s_istore_n (pc' := 4) (ls' := [some (vR 65), some (vI a1), some (vI 0), some (vI 0)]) dX9_heirs_3 (by decide) rfl rfl ?_
  exact V
set_option maxRecDepth 20000 in
theorem r_X9_heirs_4 {w : WS} {h : AH} {Q : Int → AH → Prop} {a1 a2 a3 : Int} (sA : shA w) (V : (inR a3 ∧ inR (h 66 96) ∧ (((h 66 96) ≤ a3 → Q a2 h) ∧ (¬ (h 66 96) ≤ a3 → CI mX9_nearest [vR 65, vI a3, vI 8] w h (fun x4 h3 => (inR x4 ∧ inR a1 ∧ ((¬ x4 = a1 → XI mX9_heirs 4 [some (vR 65), some (vI a1), some (vI (orZ a2 0)), some (vI (a3 + 1))] [] w h3 Q) ∧ (x4 = a1 → XI mX9_heirs 4 [some (vR 65), some (vI a1), some (vI (orZ a2 (shlZ 1 a3))), some (vI (a3 + 1))] [] w h3 Q)))))))) : XI mX9_heirs 4 [some (vR 65), some (vI a1), some (vI a2), some (vI a3)] [] w h Q := by
  refine s_iload_n (pc' := 5) (x := a3) dX9_heirs_4 rfl rfl ?_
  refine s_aload_n (pc' := 6) (x := 65) dX9_heirs_5 rfl rfl ?_
  refine s_callV (pc' := 9) (av := []) (a := 65) (sk := [vI a3]) (kc := 9) dX9_heirs_6 ml_9_73 okX9_kinds oiX9_kinds (by decide) (NF := 39) rfl (fa_t65 sA) rfl (Nat.le_of_ble_eq_true rfl) (Nat.le_refl 0) (Nat.le_refl 0) rfl (CI.eon (c_X9_kinds sA) ?_)
  obtain ⟨z1, z2, V⟩ := V
  obtain ⟨V9, V10⟩ := V
  refine s_icmp_ge (pc' := 12) (tgt := 39) dX9_heirs_9 rfl rfl z1 z2 (fun c => ?_) (fun c => ?_)
  · have V := V9 c
    refine s_iload_n (pc' := 40) (x := a2) dX9_heirs_39 rfl rfl ?_
    exact s_iret dX9_heirs_40 rfl ⟨_, rfl, rfl, V⟩
  · have V := V10 c
    refine s_iload_n (pc' := 13) (x := a2) dX9_heirs_12 rfl rfl ?_
    refine s_aload_n (pc' := 14) (x := 65) dX9_heirs_13 rfl rfl ?_
    refine s_iload_n (pc' := 15) (x := a3) dX9_heirs_14 rfl rfl ?_
    refine s_bipush (pc' := 17) dX9_heirs_15 (by decide) rfl ?_
    refine s_callV (pc' := 20) (av := [vI a3, vI 8]) (a := 65) (sk := [vI a2]) (kc := 9) dX9_heirs_17 ml_9_81 okX9_nearest oiX9_nearest (by decide) (NF := 39) rfl (fa_t65 sA) rfl (Nat.le_of_ble_eq_true rfl) (Nat.le_refl 0) (Nat.le_refl 0) rfl (CI.on V (fun x4 h3 V => ?_))
    refine s_iload_n (pc' := 21) (x := a1) dX9_heirs_20 rfl rfl ?_
    obtain ⟨z5, z6, V⟩ := V
    obtain ⟨V7, V8⟩ := V
    refine s_icmp_ne (pc' := 24) (tgt := 30) dX9_heirs_21 rfl rfl z5 z6 (fun c => ?_) (fun c => ?_)
    · have V := V7 c
      refine s_iconst (pc' := 31) dX9_heirs_30 rfl ?_
      refine s_ior (pc' := 32) (z := (orZ a2 0)) dX9_heirs_31 (orZ_ok _ _) rfl ?_
      refine s_istore_n (pc' := 33) (ls' := [some (vR 65), some (vI a1), some (vI (orZ a2 0)), some (vI a3)]) dX9_heirs_32 (by decide) rfl rfl ?_
      refine s_iinc (pc' := 36) (ls' := [some (vR 65), some (vI a1), some (vI (orZ a2 0)), some (vI (a3 + 1))]) dX9_heirs_33 rfl (by decide) rfl rfl ?_
      refine s_goto (tgt := 4) dX9_heirs_36 rfl ?_
      exact V
    · have V := V8 c
      refine s_iconst (pc' := 25) dX9_heirs_24 rfl ?_
      refine s_iload_n (pc' := 26) (x := a3) dX9_heirs_25 rfl rfl ?_
      refine s_ishl (pc' := 27) (z := (shlZ 1 a3)) dX9_heirs_26 (shlZ_ok _ _) rfl ?_
      refine s_goto (tgt := 31) dX9_heirs_27 rfl ?_
      refine s_ior (pc' := 32) (z := (orZ a2 (shlZ 1 a3))) dX9_heirs_31 (orZ_ok _ _) rfl ?_
      refine s_istore_n (pc' := 33) (ls' := [some (vR 65), some (vI a1), some (vI (orZ a2 (shlZ 1 a3))), some (vI a3)]) dX9_heirs_32 (by decide) rfl rfl ?_
      refine s_iinc (pc' := 36) (ls' := [some (vR 65), some (vI a1), some (vI (orZ a2 (shlZ 1 a3))), some (vI (a3 + 1))]) dX9_heirs_33 rfl (by decide) rfl rfl ?_
      refine s_goto (tgt := 4) dX9_heirs_36 rfl ?_
      exact V
theorem e_X9_kind {w : WS} {h : AH} {Q : Int → AH → Prop} {a1 a2 : Int} (X : XI mX9_kind 0 [some (vR 65), some (vI a1), some (vI a2)] [] w h Q) : CI mX9_kind [vR 65, vI a1, vI a2] w h Q := CA.of (M := mX9_kind) (by decide) rfl (Nat.le_of_ble_eq_true rfl) X
set_option maxRecDepth 20000 in
theorem r_X9_kind_0 {w : WS} {h : AH} {Q : Int → AH → Prop} {a1 a2 : Int} (sA : shA w) (V : (inR a1 ∧ (0 ≤ h 66 96 ∧ h 66 96 ≤ 8) ∧ (((0 ≤ a1 ∧ a1 < h 66 96) → (inR a2 ∧ ((a2 = 0 → (0 ≤ (0 + a1) ∧ (0 + a1) < 202 ∧ Q (h 66 (0 + a1)) h)) ∧ (a2 = 1 → CI mX9_slack [vR 65, vI a1] w h (fun x8 h7 => Q x8 h7)) ∧ (a2 = 2 → CI mX9_weight [vR 65, vI a1] w h (fun x11 h10 => Q x11 h10)) ∧ (a2 = 3 → (0 ≤ (8 + a1) ∧ (8 + a1) < 202 ∧ Q (h 66 (8 + a1)) h)) ∧ (a2 = 4 → (0 ≤ (16 + a1) ∧ (16 + a1) < 202 ∧ Q (h 66 (16 + a1)) h)) ∧ (a2 = 5 → CI mX9_timersOf [vR 65, vI a1] w h (fun x20 h19 => Q x20 h19)) ∧ (a2 = 6 → CI mX9_heirs [vR 65, vI a1] w h (fun x23 h22 => Q x23 h22)) ∧ ((a2 < 0 ∨ 6 < a2) → Q (-1) h)))) ∧ (¬ (0 ≤ a1 ∧ a1 < h 66 96) → Q (-1) h)))) : XI mX9_kind 0 [some (vR 65), some (vI a1), some (vI a2)] [] w h Q := by
  refine s_aload_n (pc' := 1) (x := 65) dX9_kind_0 rfl rfl ?_
  refine s_iload_n (pc' := 2) (x := a1) dX9_kind_1 rfl rfl ?_
  obtain ⟨z1, z2, V⟩ := V
  refine s_callV (pc' := 5) (av := [vI a1]) (a := 65) (sk := []) (kc := 9) dX9_kind_2 ml_9_187 okX9_isKind oiX9_isKind (by decide) (NF := 39) rfl (fa_t65 sA) rfl (Nat.le_of_ble_eq_true rfl) (Nat.le_refl 0) (Nat.le_refl 0) rfl (CI.eon (c_X9_isKind sA z1 z2) ?_)
  obtain ⟨V26, V27⟩ := V
  refine s_ifne_b (pc' := 8) (tgt := 10) dX9_kind_5 rfl rfl (fun c => ?_) (fun c => ?_)
  · have V := V26 c
    refine s_iload_n (pc' := 11) (x := a2) dX9_kind_10 rfl rfl ?_
    obtain ⟨z3, V⟩ := V
    obtain ⟨V6, V9, V12, V15, V18, V21, V24, V25⟩ := V
    by_cases c : a2 = 0
    · have V := V6 c
      refine s_tableIn (v := 0) (tgt := 52) dX9_kind_11 c (by decide) (by decide) (by decide) rfl rfl ?_
      refine s_aload_n (pc' := 53) (x := 65) dX9_kind_52 rfl rfl ?_
      refine s_getF (pc' := 56) (b := 66) (kc := 9) (i := 0) dX9_kind_53 clX9 (by decide) fl_9_0 (fa_t65 sA) (fa_f9_0 sA) (fun _ => rfl) rfl ?_
      refine s_iconst (pc' := 57) dX9_kind_56 rfl ?_
      refine s_iload_n (pc' := 58) (x := a1) dX9_kind_57 rfl rfl ?_
      refine s_iadd (pc' := 59) dX9_kind_58 rfl ?_
      obtain ⟨z4, z5, V⟩ := V
      refine s_iald (pc' := 60) dX9_kind_59 (fa_t66 sA) z4 (fa_lt66 sA z5) rfl ?_
      exact s_iret dX9_kind_60 rfl ⟨_, rfl, rfl, V⟩
    have c0 := c
    by_cases c : a2 = 1
    · have V := V9 c
      refine s_tableIn (v := 1) (tgt := 61) dX9_kind_11 c (by decide) (by decide) (by decide) rfl rfl ?_
      refine s_aload_n (pc' := 62) (x := 65) dX9_kind_61 rfl rfl ?_
      refine s_iload_n (pc' := 63) (x := a1) dX9_kind_62 rfl rfl ?_
      refine s_callV (pc' := 66) (av := [vI a1]) (a := 65) (sk := []) (kc := 9) dX9_kind_63 ml_9_95 okX9_slack oiX9_slack (by decide) (NF := 39) rfl (fa_t65 sA) rfl (Nat.le_of_ble_eq_true rfl) (Nat.le_refl 0) (Nat.le_refl 0) rfl (CI.on V (fun x8 h7 V => ?_))
      exact s_iret dX9_kind_66 rfl ⟨_, rfl, rfl, V⟩
    have c1 := c
    by_cases c : a2 = 2
    · have V := V12 c
      refine s_tableIn (v := 2) (tgt := 67) dX9_kind_11 c (by decide) (by decide) (by decide) rfl rfl ?_
      refine s_aload_n (pc' := 68) (x := 65) dX9_kind_67 rfl rfl ?_
      refine s_iload_n (pc' := 69) (x := a1) dX9_kind_68 rfl rfl ?_
      refine s_callV (pc' := 72) (av := [vI a1]) (a := 65) (sk := []) (kc := 9) dX9_kind_69 ml_9_102 okX9_weight oiX9_weight (by decide) (NF := 39) rfl (fa_t65 sA) rfl (Nat.le_of_ble_eq_true rfl) (Nat.le_refl 0) (Nat.le_refl 0) rfl (CI.on V (fun x11 h10 V => ?_))
      exact s_iret dX9_kind_72 rfl ⟨_, rfl, rfl, V⟩
    have c2 := c
    by_cases c : a2 = 3
    · have V := V15 c
      refine s_tableIn (v := 3) (tgt := 73) dX9_kind_11 c (by decide) (by decide) (by decide) rfl rfl ?_
      refine s_aload_n (pc' := 74) (x := 65) dX9_kind_73 rfl rfl ?_
      refine s_getF (pc' := 77) (b := 66) (kc := 9) (i := 0) dX9_kind_74 clX9 (by decide) fl_9_0 (fa_t65 sA) (fa_f9_0 sA) (fun _ => rfl) rfl ?_
      refine s_bipush (pc' := 79) dX9_kind_77 (by decide) rfl ?_
      refine s_iload_n (pc' := 80) (x := a1) dX9_kind_79 rfl rfl ?_
      refine s_iadd (pc' := 81) dX9_kind_80 rfl ?_
      obtain ⟨z13, z14, V⟩ := V
      refine s_iald (pc' := 82) dX9_kind_81 (fa_t66 sA) z13 (fa_lt66 sA z14) rfl ?_
      exact s_iret dX9_kind_82 rfl ⟨_, rfl, rfl, V⟩
    have c3 := c
    by_cases c : a2 = 4
    · have V := V18 c
      refine s_tableIn (v := 4) (tgt := 83) dX9_kind_11 c (by decide) (by decide) (by decide) rfl rfl ?_
      refine s_aload_n (pc' := 84) (x := 65) dX9_kind_83 rfl rfl ?_
      refine s_getF (pc' := 87) (b := 66) (kc := 9) (i := 0) dX9_kind_84 clX9 (by decide) fl_9_0 (fa_t65 sA) (fa_f9_0 sA) (fun _ => rfl) rfl ?_
      refine s_bipush (pc' := 89) dX9_kind_87 (by decide) rfl ?_
      refine s_iload_n (pc' := 90) (x := a1) dX9_kind_89 rfl rfl ?_
      refine s_iadd (pc' := 91) dX9_kind_90 rfl ?_
      obtain ⟨z16, z17, V⟩ := V
      refine s_iald (pc' := 92) dX9_kind_91 (fa_t66 sA) z16 (fa_lt66 sA z17) rfl ?_
      exact s_iret dX9_kind_92 rfl ⟨_, rfl, rfl, V⟩
    have c4 := c
    by_cases c : a2 = 5
    · have V := V21 c
      refine s_tableIn (v := 5) (tgt := 93) dX9_kind_11 c (by decide) (by decide) (by decide) rfl rfl ?_
      refine s_aload_n (pc' := 94) (x := 65) dX9_kind_93 rfl rfl ?_
      refine s_iload_n (pc' := 95) (x := a1) dX9_kind_94 rfl rfl ?_
      refine s_callV (pc' := 98) (av := [vI a1]) (a := 65) (sk := []) (kc := 9) dX9_kind_95 ml_9_203 okX9_timersOf oiX9_timersOf (by decide) (NF := 39) rfl (fa_t65 sA) rfl (Nat.le_of_ble_eq_true rfl) (Nat.le_refl 0) (Nat.le_refl 0) rfl (CI.on V (fun x20 h19 V => ?_))
      exact s_iret dX9_kind_98 rfl ⟨_, rfl, rfl, V⟩
    have c5 := c
    by_cases c : a2 = 6
    · have V := V24 c
      refine s_tableIn (v := 6) (tgt := 99) dX9_kind_11 c (by decide) (by decide) (by decide) rfl rfl ?_
      refine s_aload_n (pc' := 100) (x := 65) dX9_kind_99 rfl rfl ?_
      refine s_iload_n (pc' := 101) (x := a1) dX9_kind_100 rfl rfl ?_
      refine s_callV (pc' := 104) (av := [vI a1]) (a := 65) (sk := []) (kc := 9) dX9_kind_101 ml_9_206 okX9_heirs oiX9_heirs (by decide) (NF := 39) rfl (fa_t65 sA) rfl (Nat.le_of_ble_eq_true rfl) (Nat.le_refl 0) (Nat.le_refl 0) rfl (CI.on V (fun x23 h22 V => ?_))
      exact s_iret dX9_kind_104 rfl ⟨_, rfl, rfl, V⟩
    have c6 := c
    have co : a2 < 0 ∨ 6 < a2 := by omega
    have V := V25 co
    refine s_tableOut (tgt := 105) dX9_kind_11 z3 co rfl ?_
    refine s_iconst (pc' := 106) dX9_kind_105 rfl ?_
    exact s_iret dX9_kind_106 rfl ⟨_, rfl, rfl, V⟩
  · have V := V27 c
    refine s_iconst (pc' := 9) dX9_kind_8 rfl ?_
    exact s_iret dX9_kind_9 rfl ⟨_, rfl, rfl, V⟩
theorem e_X9_slacken {w : WS} {h : AH} {Q : Int → AH → Prop} {a1 a2 : Int} (X : XI mX9_slacken 0 [some (vR 65), some (vI a1), some (vI a2)] [] w h Q) : CI mX9_slacken [vR 65, vI a1, vI a2] w h Q := CA.of (M := mX9_slacken) (by decide) rfl (Nat.le_of_ble_eq_true rfl) X
set_option maxRecDepth 20000 in
theorem r_X9_slacken_0 {w : WS} {h : AH} {Q : Int → AH → Prop} {a1 a2 : Int} (sA : shA w) (V : (inR a1 ∧ (0 ≤ h 66 96 ∧ h 66 96 ≤ 8) ∧ ((¬ (0 ≤ a1 ∧ a1 < h 66 96) → Q 0 h) ∧ ((0 ≤ a1 ∧ a1 < h 66 96) → (inR a2 ∧ ((¬ (((-1) : Int) ≤ a2 ∧ a2 ≤ (99 : Int)) → Q 0 h) ∧ ((((-1) : Int) ≤ a2 ∧ a2 ≤ (99 : Int)) → (0 ≤ (8 + a1) ∧ (8 + a1) < 202 ∧ (inR (h 66 (8 + a1)) ∧ ((¬ (h 66 (8 + a1)) = a2 → (∀ h7, h7 = st h 66 (8 + a1) a2 → Q 1 h7)) ∧ ((h 66 (8 + a1)) = a2 → Q 0 h))))))))))) : XI mX9_slacken 0 [some (vR 65), some (vI a1), some (vI a2)] [] w h Q := by
  refine s_aload_n (pc' := 1) (x := 65) dX9_slacken_0 rfl rfl ?_
  refine s_iload_n (pc' := 2) (x := a1) dX9_slacken_1 rfl rfl ?_
  obtain ⟨z1, z2, V⟩ := V
  refine s_callV (pc' := 5) (av := [vI a1]) (a := 65) (sk := []) (kc := 9) dX9_slacken_2 ml_9_187 okX9_isKind oiX9_isKind (by decide) (NF := 39) rfl (fa_t65 sA) rfl (Nat.le_of_ble_eq_true rfl) (Nat.le_refl 0) (Nat.le_refl 0) rfl (CI.eon (c_X9_isKind sA z1 z2) ?_)
  obtain ⟨V13, V14⟩ := V
  refine s_ifeq_b (pc' := 8) (tgt := 31) dX9_slacken_5 rfl rfl (fun c => ?_) (fun c => ?_)
  · have V := V13 c
    refine s_iconst (pc' := 32) dX9_slacken_31 rfl ?_
    exact s_zret dX9_slacken_32 rfl (by decide) ⟨_, rfl, rfl, V⟩
  · have V := V14 c
    refine s_iload_n (pc' := 9) (x := a2) dX9_slacken_8 rfl rfl ?_
    refine s_iconst (pc' := 10) dX9_slacken_9 rfl ?_
    refine s_bipush (pc' := 12) dX9_slacken_10 (by decide) rfl ?_
    obtain ⟨z3, V⟩ := V
    refine s_callS (pc' := 15) (av := [vI a2, vI (-1), vI 99]) (sk := []) dX9_slacken_12 ml_9_77 okX9_isIn osX9_isIn (by decide) rfl (Nat.le_of_ble_eq_true rfl) (Nat.le_refl 0) (Nat.le_refl 0) rfl (CI.eon (c_X9_isIn sA z3 (by decide) (by decide)) ?_)
    obtain ⟨V11, V12⟩ := V
    refine s_ifeq_b (pc' := 18) (tgt := 31) dX9_slacken_15 rfl rfl (fun c => ?_) (fun c => ?_)
    · have V := V11 c
      refine s_iconst (pc' := 32) dX9_slacken_31 rfl ?_
      exact s_zret dX9_slacken_32 rfl (by decide) ⟨_, rfl, rfl, V⟩
    · have V := V12 c
      refine s_aload_n (pc' := 19) (x := 65) dX9_slacken_18 rfl rfl ?_
      refine s_getF (pc' := 22) (b := 66) (kc := 9) (i := 0) dX9_slacken_19 clX9 (by decide) fl_9_0 (fa_t65 sA) (fa_f9_0 sA) (fun _ => rfl) rfl ?_
      refine s_bipush (pc' := 24) dX9_slacken_22 (by decide) rfl ?_
      refine s_iload_n (pc' := 25) (x := a1) dX9_slacken_24 rfl rfl ?_
      refine s_iadd (pc' := 26) dX9_slacken_25 rfl ?_
      obtain ⟨z4, z5, V⟩ := V
      refine s_iald (pc' := 27) dX9_slacken_26 (fa_t66 sA) z4 (fa_lt66 sA z5) rfl ?_
      refine s_iload_n (pc' := 28) (x := a2) dX9_slacken_27 rfl rfl ?_
      obtain ⟨z6, V⟩ := V
      obtain ⟨V9, V10⟩ := V
      refine s_icmp_ne (pc' := 31) (tgt := 33) dX9_slacken_28 rfl rfl z6 z3 (fun c => ?_) (fun c => ?_)
      · have V := V9 c
        refine s_aload_n (pc' := 34) (x := 65) dX9_slacken_33 rfl rfl ?_
        refine s_getF (pc' := 37) (b := 66) (kc := 9) (i := 0) dX9_slacken_34 clX9 (by decide) fl_9_0 (fa_t65 sA) (fa_f9_0 sA) (fun _ => rfl) rfl ?_
        refine s_bipush (pc' := 39) dX9_slacken_37 (by decide) rfl ?_
        refine s_iload_n (pc' := 40) (x := a1) dX9_slacken_39 rfl rfl ?_
        refine s_iadd (pc' := 41) dX9_slacken_40 rfl ?_
        refine s_iload_n (pc' := 42) (x := a2) dX9_slacken_41 rfl rfl ?_
        refine s_iast (pc' := 43) dX9_slacken_42 (fa_t66 sA) z4 (fa_lt66 sA z5) rfl ?_
        obtain ⟨h7, e8⟩ : ∃ q, q = st h 66 (8 + a1) a2 := ⟨_, rfl⟩
        rw [← e8]
        have V := V h7 e8
        refine s_iconst (pc' := 44) dX9_slacken_43 rfl ?_
        exact s_zret dX9_slacken_44 rfl (by decide) ⟨_, rfl, rfl, V⟩
      · have V := V10 c
        refine s_iconst (pc' := 32) dX9_slacken_31 rfl ?_
        exact s_zret dX9_slacken_32 rfl (by decide) ⟨_, rfl, rfl, V⟩
theorem e_X9_call {w : WS} {h : AH} {Q : Int → AH → Prop} {a1 a2 : Int} (X : XI mX9_call 0 [some (vR 65), some (vI a1), some (vI a2)] [] w h Q) : CI mX9_call [vR 65, vI a1, vI a2] w h Q := CA.of (M := mX9_call) (by decide) rfl (Nat.le_of_ble_eq_true rfl) X
set_option maxRecDepth 20000 in
theorem r_X9_call_0 {w : WS} {h : AH} {Q : Int → AH → Prop} {a1 a2 : Int} (sA : shA w) (V : CV mX9_laysCalls [vR 65] w h (fun h1 => (inR a1 ∧ inR ((h1 65 10) - 1) ∧ ((((0 : Int) ≤ a1 ∧ a1 ≤ ((h1 65 10) - 1)) → (inR a2 ∧ ((¬ a2 = 0 → ((¬ a2 = 1 → ((¬ a2 = 2 → ((¬ a2 = 3 → Q (-1) h1) ∧ (a2 = 3 → (0 ≤ a1 ∧ a1 < 300 ∧ Q (h1 72 a1) h1)))) ∧ (a2 = 2 → (0 ≤ a1 ∧ a1 < 300 ∧ Q (h1 71 a1) h1)))) ∧ (a2 = 1 → (0 ≤ a1 ∧ a1 < 300 ∧ Q (h1 70 a1) h1)))) ∧ (a2 = 0 → (0 ≤ a1 ∧ a1 < 300 ∧ Q (h1 69 a1) h1))))) ∧ (¬ ((0 : Int) ≤ a1 ∧ a1 ≤ ((h1 65 10) - 1)) → Q (-1) h1))))) : XI mX9_call 0 [some (vR 65), some (vI a1), some (vI a2)] [] w h Q := by
  refine s_aload_n (pc' := 1) (x := 65) dX9_call_0 rfl rfl ?_
  refine s_callV (pc' := 4) (av := []) (a := 65) (sk := []) (kc := 9) dX9_call_1 ml_9_129 okX9_laysCalls oiX9_laysCalls (by decide) (NF := 39) rfl (fa_t65 sA) rfl (Nat.le_of_ble_eq_true rfl) (Nat.le_refl 0) (Nat.le_refl 0) rfl (CV.on V (fun h1 V => ?_))
  refine s_iload_n (pc' := 5) (x := a1) dX9_call_4 rfl rfl ?_
  refine s_iconst (pc' := 6) dX9_call_5 rfl ?_
  refine s_aload_n (pc' := 7) (x := 65) dX9_call_6 rfl rfl ?_
  refine s_get (pc' := 10) (v := vI (h1 65 10)) (kc := 9) (i := 10) dX9_call_7 clX9 (by decide) fl_9_10 (fa_t65 sA) (fun _ => rfl) rfl ?_
  refine s_iconst (pc' := 11) dX9_call_10 rfl ?_
  refine s_isub (pc' := 12) dX9_call_11 rfl ?_
  obtain ⟨z2, z3, V⟩ := V
  refine s_callS (pc' := 15) (av := [vI a1, vI 0, vI ((h1 65 10) - 1)]) (sk := []) dX9_call_12 ml_9_77 okX9_isIn osX9_isIn (by decide) rfl (Nat.le_of_ble_eq_true rfl) (Nat.le_refl 0) (Nat.le_refl 0) rfl (CI.eon (c_X9_isIn sA z2 (by decide) z3) ?_)
  obtain ⟨V21, V22⟩ := V
  refine s_ifne_b (pc' := 18) (tgt := 20) dX9_call_15 rfl rfl (fun c => ?_) (fun c => ?_)
  · have V := V21 c
    refine s_iload_n (pc' := 21) (x := a2) dX9_call_20 rfl rfl ?_
    obtain ⟨z4, V⟩ := V
    obtain ⟨V19, V20⟩ := V
    refine s_if_ne (pc' := 24) (tgt := 33) dX9_call_21 rfl rfl z4 (fun c => ?_) (fun c => ?_)
    · have V := V19 c
      refine s_iload_n (pc' := 34) (x := a2) dX9_call_33 rfl rfl ?_
      refine s_iconst (pc' := 35) dX9_call_34 rfl ?_
      obtain ⟨V15, V16⟩ := V
      refine s_icmp_ne (pc' := 38) (tgt := 47) dX9_call_35 rfl rfl z4 (by decide) (fun c => ?_) (fun c => ?_)
      · have V := V15 c
        refine s_iload_n (pc' := 48) (x := a2) dX9_call_47 rfl rfl ?_
        refine s_iconst (pc' := 49) dX9_call_48 rfl ?_
        obtain ⟨V11, V12⟩ := V
        refine s_icmp_ne (pc' := 52) (tgt := 61) dX9_call_49 rfl rfl z4 (by decide) (fun c => ?_) (fun c => ?_)
        · have V := V11 c
          refine s_iload_n (pc' := 62) (x := a2) dX9_call_61 rfl rfl ?_
          refine s_iconst (pc' := 63) dX9_call_62 rfl ?_
          obtain ⟨V7, V8⟩ := V
          refine s_icmp_ne (pc' := 66) (tgt := 75) dX9_call_63 rfl rfl z4 (by decide) (fun c => ?_) (fun c => ?_)
          · have V := V7 c
            refine s_iconst (pc' := 76) dX9_call_75 rfl ?_
            exact s_iret dX9_call_76 rfl ⟨_, rfl, rfl, V⟩
          · have V := V8 c
            refine s_aload_n (pc' := 67) (x := 65) dX9_call_66 rfl rfl ?_
            refine s_getF (pc' := 70) (b := 72) (kc := 9) (i := 9) dX9_call_67 clX9 (by decide) fl_9_9 (fa_t65 sA) (fa_f9_9 sA) (fun _ => rfl) rfl ?_
            refine s_iload_n (pc' := 71) (x := a1) dX9_call_70 rfl rfl ?_
            obtain ⟨z5, z6, V⟩ := V
            refine s_iald (pc' := 72) dX9_call_71 (fa_t72 sA) z5 (fa_lt72 sA z6) rfl ?_
            refine s_goto (tgt := 76) dX9_call_72 rfl ?_
            exact s_iret dX9_call_76 rfl ⟨_, rfl, rfl, V⟩
        · have V := V12 c
          refine s_aload_n (pc' := 53) (x := 65) dX9_call_52 rfl rfl ?_
          refine s_getF (pc' := 56) (b := 71) (kc := 9) (i := 8) dX9_call_53 clX9 (by decide) fl_9_8 (fa_t65 sA) (fa_f9_8 sA) (fun _ => rfl) rfl ?_
          refine s_iload_n (pc' := 57) (x := a1) dX9_call_56 rfl rfl ?_
          obtain ⟨z9, z10, V⟩ := V
          refine s_iald (pc' := 58) dX9_call_57 (fa_t71 sA) z9 (fa_lt71 sA z10) rfl ?_
          refine s_goto (tgt := 76) dX9_call_58 rfl ?_
          exact s_iret dX9_call_76 rfl ⟨_, rfl, rfl, V⟩
      · have V := V16 c
        refine s_aload_n (pc' := 39) (x := 65) dX9_call_38 rfl rfl ?_
        refine s_getF (pc' := 42) (b := 70) (kc := 9) (i := 7) dX9_call_39 clX9 (by decide) fl_9_7 (fa_t65 sA) (fa_f9_7 sA) (fun _ => rfl) rfl ?_
        refine s_iload_n (pc' := 43) (x := a1) dX9_call_42 rfl rfl ?_
        obtain ⟨z13, z14, V⟩ := V
        refine s_iald (pc' := 44) dX9_call_43 (fa_t70 sA) z13 (fa_lt70 sA z14) rfl ?_
        refine s_goto (tgt := 76) dX9_call_44 rfl ?_
        exact s_iret dX9_call_76 rfl ⟨_, rfl, rfl, V⟩
    · have V := V20 c
      refine s_aload_n (pc' := 25) (x := 65) dX9_call_24 rfl rfl ?_
      refine s_getF (pc' := 28) (b := 69) (kc := 9) (i := 6) dX9_call_25 clX9 (by decide) fl_9_6 (fa_t65 sA) (fa_f9_6 sA) (fun _ => rfl) rfl ?_
      refine s_iload_n (pc' := 29) (x := a1) dX9_call_28 rfl rfl ?_
      obtain ⟨z17, z18, V⟩ := V
      refine s_iald (pc' := 30) dX9_call_29 (fa_t69 sA) z17 (fa_lt69 sA z18) rfl ?_
      refine s_goto (tgt := 76) dX9_call_30 rfl ?_
      exact s_iret dX9_call_76 rfl ⟨_, rfl, rfl, V⟩
  · have V := V22 c
    refine s_iconst (pc' := 19) dX9_call_18 rfl ?_
    exact s_iret dX9_call_19 rfl ⟨_, rfl, rfl, V⟩
theorem e_X9_wakes {w : WS} {h : AH} {Q : Int → AH → Prop} {a1 : Int} (X : XI mX9_wakes 0 [some (vR 65), some (vI a1)] [] w h Q) : CI mX9_wakes [vR 65, vI a1] w h Q := CA.of (M := mX9_wakes) (by decide) rfl (Nat.le_of_ble_eq_true rfl) X
set_option maxRecDepth 20000 in
theorem r_X9_wakes_0 {w : WS} {h : AH} {Q : Int → AH → Prop} {a1 : Int} (sA : shA w) (V : CI mX9_laysPlan [vR 65, vI a1] w h (fun x2 h1 => (inR x2 ∧ ((x2 = 0 → Q (-1) h1) ∧ (¬ x2 = 0 → Q (h1 65 12) h1))))) : XI mX9_wakes 0 [some (vR 65), some (vI a1)] [] w h Q := by
  refine s_aload_n (pc' := 1) (x := 65) dX9_wakes_0 rfl rfl ?_
  refine s_iload_n (pc' := 2) (x := a1) dX9_wakes_1 rfl rfl ?_
  refine s_callV (pc' := 5) (av := [vI a1]) (a := 65) (sk := []) (kc := 9) dX9_wakes_2 ml_9_209 okX9_laysPlan oiX9_laysPlan (by decide) (NF := 39) rfl (fa_t65 sA) rfl (Nat.le_of_ble_eq_true rfl) (Nat.le_refl 0) (Nat.le_refl 0) rfl (CI.on V (fun x2 h1 V => ?_))
  obtain ⟨z3, V⟩ := V
  obtain ⟨V4, V5⟩ := V
  refine s_if_eq (pc' := 8) (tgt := 15) dX9_wakes_5 rfl rfl z3 (fun c => ?_) (fun c => ?_)
  · have V := V4 c
    refine s_iconst (pc' := 16) dX9_wakes_15 rfl ?_
    exact s_iret dX9_wakes_16 rfl ⟨_, rfl, rfl, V⟩
  · have V := V5 c
    refine s_aload_n (pc' := 9) (x := 65) dX9_wakes_8 rfl rfl ?_
    refine s_get (pc' := 12) (v := vI (h1 65 12)) (kc := 9) (i := 12) dX9_wakes_9 clX9 (by decide) fl_9_12 (fa_t65 sA) (fun _ => rfl) rfl ?_
    refine s_goto (tgt := 16) dX9_wakes_12 rfl ?_
    exact s_iret dX9_wakes_16 rfl ⟨_, rfl, rfl, V⟩
theorem e_X9_wake {w : WS} {h : AH} {Q : Int → AH → Prop} {a1 a2 : Int} (X : XI mX9_wake 0 [some (vR 65), some (vI a1), some (vI a2)] [] w h Q) : CI mX9_wake [vR 65, vI a1, vI a2] w h Q := CA.of (M := mX9_wake) (by decide) rfl (Nat.le_of_ble_eq_true rfl) X
set_option maxRecDepth 20000 in
theorem r_X9_wake_0 {w : WS} {h : AH} {Q : Int → AH → Prop} {a1 a2 : Int} (sA : shA w) (V : CI mX9_laysPlan [vR 65, vI a1] w h (fun x2 h1 => (inR x2 ∧ ((x2 = 0 → Q (-1) h1) ∧ (¬ x2 = 0 → (inR a2 ∧ inR ((h1 65 12) - 1) ∧ ((¬ ((0 : Int) ≤ a2 ∧ a2 ≤ ((h1 65 12) - 1)) → Q (-1) h1) ∧ (((0 : Int) ≤ a2 ∧ a2 ≤ ((h1 65 12) - 1)) → (0 ≤ a2 ∧ a2 < 302 ∧ Q (h1 73 a2) h1))))))))) : XI mX9_wake 0 [some (vR 65), some (vI a1), some (vI a2)] [] w h Q := by
  refine s_aload_n (pc' := 1) (x := 65) dX9_wake_0 rfl rfl ?_
  refine s_iload_n (pc' := 2) (x := a1) dX9_wake_1 rfl rfl ?_
  refine s_callV (pc' := 5) (av := [vI a1]) (a := 65) (sk := []) (kc := 9) dX9_wake_2 ml_9_209 okX9_laysPlan oiX9_laysPlan (by decide) (NF := 39) rfl (fa_t65 sA) rfl (Nat.le_of_ble_eq_true rfl) (Nat.le_refl 0) (Nat.le_refl 0) rfl (CI.on V (fun x2 h1 V => ?_))
  obtain ⟨z3, V⟩ := V
  obtain ⟨V10, V11⟩ := V
  refine s_if_eq (pc' := 8) (tgt := 31) dX9_wake_5 rfl rfl z3 (fun c => ?_) (fun c => ?_)
  · have V := V10 c
    refine s_iconst (pc' := 32) dX9_wake_31 rfl ?_
    exact s_iret dX9_wake_32 rfl ⟨_, rfl, rfl, V⟩
  · have V := V11 c
    refine s_iload_n (pc' := 9) (x := a2) dX9_wake_8 rfl rfl ?_
    refine s_iconst (pc' := 10) dX9_wake_9 rfl ?_
    refine s_aload_n (pc' := 11) (x := 65) dX9_wake_10 rfl rfl ?_
    refine s_get (pc' := 14) (v := vI (h1 65 12)) (kc := 9) (i := 12) dX9_wake_11 clX9 (by decide) fl_9_12 (fa_t65 sA) (fun _ => rfl) rfl ?_
    refine s_iconst (pc' := 15) dX9_wake_14 rfl ?_
    refine s_isub (pc' := 16) dX9_wake_15 rfl ?_
    obtain ⟨z4, z5, V⟩ := V
    refine s_callS (pc' := 19) (av := [vI a2, vI 0, vI ((h1 65 12) - 1)]) (sk := []) dX9_wake_16 ml_9_77 okX9_isIn osX9_isIn (by decide) rfl (Nat.le_of_ble_eq_true rfl) (Nat.le_refl 0) (Nat.le_refl 0) rfl (CI.eon (c_X9_isIn sA z4 (by decide) z5) ?_)
    obtain ⟨V8, V9⟩ := V
    refine s_ifeq_b (pc' := 22) (tgt := 31) dX9_wake_19 rfl rfl (fun c => ?_) (fun c => ?_)
    · have V := V8 c
      refine s_iconst (pc' := 32) dX9_wake_31 rfl ?_
      exact s_iret dX9_wake_32 rfl ⟨_, rfl, rfl, V⟩
    · have V := V9 c
      refine s_aload_n (pc' := 23) (x := 65) dX9_wake_22 rfl rfl ?_
      refine s_getF (pc' := 26) (b := 73) (kc := 9) (i := 11) dX9_wake_23 clX9 (by decide) fl_9_11 (fa_t65 sA) (fa_f9_11 sA) (fun _ => rfl) rfl ?_
      refine s_iload_n (pc' := 27) (x := a2) dX9_wake_26 rfl rfl ?_
      obtain ⟨z6, z7, V⟩ := V
      refine s_iald (pc' := 28) dX9_wake_27 (fa_t73 sA) z6 (fa_lt73 sA z7) rfl ?_
      refine s_goto (tgt := 32) dX9_wake_28 rfl ?_
      exact s_iret dX9_wake_32 rfl ⟨_, rfl, rfl, V⟩
theorem e_X9_price {w : WS} {h : AH} {Q : Int → AH → Prop} {a1 a2 : Int} (X : XI mX9_price 0 [some (vR 65), some (vI a1), some (vI a2)] [] w h Q) : CI mX9_price [vR 65, vI a1, vI a2] w h Q := CA.of (M := mX9_price) (by decide) rfl (Nat.le_of_ble_eq_true rfl) X
set_option maxRecDepth 20000 in
theorem r_X9_price_0 {w : WS} {h : AH} {Q : Int → AH → Prop} {a1 a2 : Int} (sA : shA w) (V : CI mX9_laysPlan [vR 65, vI a1] w h (fun x2 h1 => (inR x2 ∧ ((¬ x2 = 0 → (inR a2 ∧ ((a2 = 0 → CI mX9_waitsAll [vR 65] w h1 (fun x6 h5 => Q (((h1 66 99) * (h1 65 12)) + x6) h5)) ∧ (a2 = 1 → CI mX9_waitsAll [vR 65] w h1 (fun x9 h8 => Q x9 h8)) ∧ (a2 = 2 → CI mX9_energy [vR 65] w h1 (fun x12 h11 => Q x12 h11)) ∧ (a2 = 3 → CI mX9_liveEnergy [vR 65] w h1 (fun x15 h14 => Q x15 h14)) ∧ (a2 = 4 → CI mX9_mostAnswered [vR 65] w h1 (fun x18 h17 => Q x18 h17)) ∧ (a2 = 5 → CI mX9_longestWait [vR 65] w h1 (fun x21 h20 => Q x21 h20)) ∧ ((a2 < 0 ∨ 5 < a2) → Q (-1) h1)))) ∧ (x2 = 0 → Q (-1) h1))))) : XI mX9_price 0 [some (vR 65), some (vI a1), some (vI a2)] [] w h Q := by
  refine s_aload_n (pc' := 1) (x := 65) dX9_price_0 rfl rfl ?_
  refine s_iload_n (pc' := 2) (x := a1) dX9_price_1 rfl rfl ?_
  refine s_callV (pc' := 5) (av := [vI a1]) (a := 65) (sk := []) (kc := 9) dX9_price_2 ml_9_209 okX9_laysPlan oiX9_laysPlan (by decide) (NF := 39) rfl (fa_t65 sA) rfl (Nat.le_of_ble_eq_true rfl) (Nat.le_refl 0) (Nat.le_refl 0) rfl (CI.on V (fun x2 h1 V => ?_))
  obtain ⟨z3, V⟩ := V
  obtain ⟨V24, V25⟩ := V
  refine s_if_ne (pc' := 8) (tgt := 10) dX9_price_5 rfl rfl z3 (fun c => ?_) (fun c => ?_)
  · have V := V24 c
    refine s_iload_n (pc' := 11) (x := a2) dX9_price_10 rfl rfl ?_
    obtain ⟨z4, V⟩ := V
    obtain ⟨V7, V10, V13, V16, V19, V22, V23⟩ := V
    by_cases c : a2 = 0
    · have V := V7 c
      refine s_tableIn (v := 0) (tgt := 48) dX9_price_11 c (by decide) (by decide) (by decide) rfl rfl ?_
      refine s_aload_n (pc' := 49) (x := 65) dX9_price_48 rfl rfl ?_
      refine s_getF (pc' := 52) (b := 66) (kc := 9) (i := 0) dX9_price_49 clX9 (by decide) fl_9_0 (fa_t65 sA) (fa_f9_0 sA) (fun _ => rfl) rfl ?_
      refine s_bipush (pc' := 54) dX9_price_52 (by decide) rfl ?_
      refine s_iald (pc' := 55) dX9_price_54 (fa_t66 sA) (by decide) (fa_lt66 sA (by decide)) rfl ?_
      refine s_aload_n (pc' := 56) (x := 65) dX9_price_55 rfl rfl ?_
      refine s_get (pc' := 59) (v := vI (h1 65 12)) (kc := 9) (i := 12) dX9_price_56 clX9 (by decide) fl_9_12 (fa_t65 sA) (fun _ => rfl) rfl ?_
      refine s_imul (pc' := 60) dX9_price_59 rfl ?_
      refine s_aload_n (pc' := 61) (x := 65) dX9_price_60 rfl rfl ?_
      refine s_callV (pc' := 64) (av := []) (a := 65) (sk := [vI ((h1 66 99) * (h1 65 12))]) (kc := 9) dX9_price_61 ml_9_197 okX9_waitsAll oiX9_waitsAll (by decide) (NF := 39) rfl (fa_t65 sA) rfl (Nat.le_of_ble_eq_true rfl) (Nat.le_refl 0) (Nat.le_refl 0) rfl (CI.on V (fun x6 h5 V => ?_))
      refine s_iadd (pc' := 65) dX9_price_64 rfl ?_
      exact s_iret dX9_price_65 rfl ⟨_, rfl, rfl, V⟩
    have c0 := c
    by_cases c : a2 = 1
    · have V := V10 c
      refine s_tableIn (v := 1) (tgt := 66) dX9_price_11 c (by decide) (by decide) (by decide) rfl rfl ?_
      refine s_aload_n (pc' := 67) (x := 65) dX9_price_66 rfl rfl ?_
      refine s_callV (pc' := 70) (av := []) (a := 65) (sk := []) (kc := 9) dX9_price_67 ml_9_197 okX9_waitsAll oiX9_waitsAll (by decide) (NF := 39) rfl (fa_t65 sA) rfl (Nat.le_of_ble_eq_true rfl) (Nat.le_refl 0) (Nat.le_refl 0) rfl (CI.on V (fun x9 h8 V => ?_))
      exact s_iret dX9_price_70 rfl ⟨_, rfl, rfl, V⟩
    have c1 := c
    by_cases c : a2 = 2
    · have V := V13 c
      refine s_tableIn (v := 2) (tgt := 71) dX9_price_11 c (by decide) (by decide) (by decide) rfl rfl ?_
      refine s_aload_n (pc' := 72) (x := 65) dX9_price_71 rfl rfl ?_
      refine s_callV (pc' := 75) (av := []) (a := 65) (sk := []) (kc := 9) dX9_price_72 ml_9_212 okX9_energy oiX9_energy (by decide) (NF := 39) rfl (fa_t65 sA) rfl (Nat.le_of_ble_eq_true rfl) (Nat.le_refl 0) (Nat.le_refl 0) rfl (CI.on V (fun x12 h11 V => ?_))
      exact s_iret dX9_price_75 rfl ⟨_, rfl, rfl, V⟩
    have c2 := c
    by_cases c : a2 = 3
    · have V := V16 c
      refine s_tableIn (v := 3) (tgt := 76) dX9_price_11 c (by decide) (by decide) (by decide) rfl rfl ?_
      refine s_aload_n (pc' := 77) (x := 65) dX9_price_76 rfl rfl ?_
      refine s_callV (pc' := 80) (av := []) (a := 65) (sk := []) (kc := 9) dX9_price_77 ml_9_215 okX9_liveEnergy oiX9_liveEnergy (by decide) (NF := 39) rfl (fa_t65 sA) rfl (Nat.le_of_ble_eq_true rfl) (Nat.le_refl 0) (Nat.le_refl 0) rfl (CI.on V (fun x15 h14 V => ?_))
      exact s_iret dX9_price_80 rfl ⟨_, rfl, rfl, V⟩
    have c3 := c
    by_cases c : a2 = 4
    · have V := V19 c
      refine s_tableIn (v := 4) (tgt := 81) dX9_price_11 c (by decide) (by decide) (by decide) rfl rfl ?_
      refine s_aload_n (pc' := 82) (x := 65) dX9_price_81 rfl rfl ?_
      refine s_callV (pc' := 85) (av := []) (a := 65) (sk := []) (kc := 9) dX9_price_82 ml_9_218 okX9_mostAnswered oiX9_mostAnswered (by decide) (NF := 39) rfl (fa_t65 sA) rfl (Nat.le_of_ble_eq_true rfl) (Nat.le_refl 0) (Nat.le_refl 0) rfl (CI.on V (fun x18 h17 V => ?_))
      exact s_iret dX9_price_85 rfl ⟨_, rfl, rfl, V⟩
    have c4 := c
    by_cases c : a2 = 5
    · have V := V22 c
      refine s_tableIn (v := 5) (tgt := 86) dX9_price_11 c (by decide) (by decide) (by decide) rfl rfl ?_
      refine s_aload_n (pc' := 87) (x := 65) dX9_price_86 rfl rfl ?_
      refine s_callV (pc' := 90) (av := []) (a := 65) (sk := []) (kc := 9) dX9_price_87 ml_9_221 okX9_longestWait oiX9_longestWait (by decide) (NF := 39) rfl (fa_t65 sA) rfl (Nat.le_of_ble_eq_true rfl) (Nat.le_refl 0) (Nat.le_refl 0) rfl (CI.on V (fun x21 h20 V => ?_))
      exact s_iret dX9_price_90 rfl ⟨_, rfl, rfl, V⟩
    have c5 := c
    have co : a2 < 0 ∨ 5 < a2 := by omega
    have V := V23 co
    refine s_tableOut (tgt := 91) dX9_price_11 z4 co rfl ?_
    refine s_iconst (pc' := 92) dX9_price_91 rfl ?_
    exact s_iret dX9_price_92 rfl ⟨_, rfl, rfl, V⟩
  · have V := V25 c
    refine s_iconst (pc' := 9) dX9_price_8 rfl ?_
    exact s_iret dX9_price_9 rfl ⟨_, rfl, rfl, V⟩
theorem e_X9_proof {w : WS} {h : AH} {Q : Int → AH → Prop} {a1 : Int} (X : XI mX9_proof 0 [some (vR 65), some (vI a1), none, none] [] w h Q) : CI mX9_proof [vR 65, vI a1] w h Q := CA.of (M := mX9_proof) (by decide) rfl (Nat.le_of_ble_eq_true rfl) X
set_option maxRecDepth 20000 in
theorem r_X9_proof_0 {w : WS} {h : AH} {Q : Int → AH → Prop} {a1 : Int} (sA : shA w) (V : CI mX9_laysPlan [vR 65, vI 0] w h (fun x2 h1 => (inR x2 ∧ ((x2 = 0 → Q (-1) h1) ∧ (¬ x2 = 0 → (inR a1 ∧ inR ((h1 65 12) - 1) ∧ ((((0 : Int) ≤ a1 ∧ a1 ≤ ((h1 65 12) - 1)) → XI mX9_proof 28 [some (vR 65), some (vI a1), none, some (vI 0)] [] w h1 Q) ∧ (¬ ((0 : Int) ≤ a1 ∧ a1 ≤ ((h1 65 12) - 1)) → Q (-1) h1)))))))) : XI mX9_proof 0 [some (vR 65), some (vI a1), none, none] [] w h Q := by
  refine s_aload_n (pc' := 1) (x := 65) dX9_proof_0 rfl rfl ?_
  refine s_iconst (pc' := 2) dX9_proof_1 rfl ?_
  refine s_callV (pc' := 5) (av := [vI 0]) (a := 65) (sk := []) (kc := 9) dX9_proof_2 ml_9_209 okX9_laysPlan oiX9_laysPlan (by decide) (NF := 39) rfl (fa_t65 sA) rfl (Nat.le_of_ble_eq_true rfl) (Nat.le_refl 0) (Nat.le_refl 0) rfl (CI.on V (fun x2 h1 V => ?_))
  refine s_istore_n (pc' := 6) (ls' := [some (vR 65), some (vI a1), some (vI x2), none]) dX9_proof_5 (by decide) rfl rfl ?_
  refine s_iload_n (pc' := 7) (x := x2) dX9_proof_6 rfl rfl ?_
  obtain ⟨z3, V⟩ := V
  obtain ⟨V8, V9⟩ := V
  refine s_if_eq (pc' := 10) (tgt := 24) dX9_proof_7 rfl rfl z3 (fun c => ?_) (fun c => ?_)
  · have V := V8 c
    refine s_iconst (pc' := 25) dX9_proof_24 rfl ?_
    exact s_iret dX9_proof_25 rfl ⟨_, rfl, rfl, V⟩
  · have V := V9 c
    refine s_iload_n (pc' := 11) (x := a1) dX9_proof_10 rfl rfl ?_
    refine s_iconst (pc' := 12) dX9_proof_11 rfl ?_
    refine s_aload_n (pc' := 13) (x := 65) dX9_proof_12 rfl rfl ?_
    refine s_get (pc' := 16) (v := vI (h1 65 12)) (kc := 9) (i := 12) dX9_proof_13 clX9 (by decide) fl_9_12 (fa_t65 sA) (fun _ => rfl) rfl ?_
    refine s_iconst (pc' := 17) dX9_proof_16 rfl ?_
    refine s_isub (pc' := 18) dX9_proof_17 rfl ?_
    obtain ⟨z4, z5, V⟩ := V
    refine s_callS (pc' := 21) (av := [vI a1, vI 0, vI ((h1 65 12) - 1)]) (sk := []) dX9_proof_18 ml_9_77 okX9_isIn osX9_isIn (by decide) rfl (Nat.le_of_ble_eq_true rfl) (Nat.le_refl 0) (Nat.le_refl 0) rfl (CI.eon (c_X9_isIn sA z4 (by decide) z5) ?_)
    obtain ⟨V6, V7⟩ := V
    refine s_ifne_b (pc' := 24) (tgt := 26) dX9_proof_21 rfl rfl (fun c => ?_) (fun c => ?_)
    · have V := V6 c
      refine s_iconst (pc' := 27) dX9_proof_26 rfl ?_
      refine s_istore_n (pc' := 28) (ls' := [some (vR 65), some (vI a1), some (vI x2), some (vI 0)]) dX9_proof_27 (by decide) rfl rfl ?_
      refine s_drop 2 (ls' := [some (vR 65), some (vI a1), none, some (vI 0)]) rfl ?_
      exact V
    · have V := V7 c
      refine s_iconst (pc' := 25) dX9_proof_24 rfl ?_
      exact s_iret dX9_proof_25 rfl ⟨_, rfl, rfl, V⟩
set_option maxRecDepth 20000 in
theorem r_X9_proof_28 {w : WS} {h : AH} {Q : Int → AH → Prop} {a1 a3 : Int} (sA : shA w) (V : (0 ≤ a3 ∧ a3 < 300 ∧ CI mX9_answers [vR 65, vI (h 69 a3)] w h (fun x4 h3 => (0 ≤ a1 ∧ a1 < 302 ∧ (inR x4 ∧ inR (h3 73 a1) ∧ ((¬ x4 = (h3 73 a1) → XI mX9_proof 28 [some (vR 65), some (vI a1), none, some (vI (a3 + 1))] [] w h3 Q) ∧ (x4 = (h3 73 a1) → (inR (h3 70 a3) ∧ (((h3 70 a3) = (h3 73 a1) → Q a3 h3) ∧ (¬ (h3 70 a3) = (h3 73 a1) → XI mX9_proof 28 [some (vR 65), some (vI a1), none, some (vI (a3 + 1))] [] w h3 Q)))))))))) : XI mX9_proof 28 [some (vR 65), some (vI a1), none, some (vI a3)] [] w h Q := by
  refine s_aload_n (pc' := 29) (x := 65) dX9_proof_28 rfl rfl ?_
  refine s_aload_n (pc' := 30) (x := 65) dX9_proof_29 rfl rfl ?_
  refine s_getF (pc' := 33) (b := 69) (kc := 9) (i := 6) dX9_proof_30 clX9 (by decide) fl_9_6 (fa_t65 sA) (fa_f9_6 sA) (fun _ => rfl) rfl ?_
  refine s_iload_n (pc' := 34) (x := a3) dX9_proof_33 rfl rfl ?_
  obtain ⟨z1, z2, V⟩ := V
  refine s_iald (pc' := 35) dX9_proof_34 (fa_t69 sA) z1 (fa_lt69 sA z2) rfl ?_
  refine s_callV (pc' := 38) (av := [vI (h 69 a3)]) (a := 65) (sk := []) (kc := 9) dX9_proof_35 ml_9_142 okX9_answers oiX9_answers (by decide) (NF := 39) rfl (fa_t65 sA) rfl (Nat.le_of_ble_eq_true rfl) (Nat.le_refl 0) (Nat.le_refl 0) rfl (CI.on V (fun x4 h3 V => ?_))
  refine s_aload_n (pc' := 39) (x := 65) dX9_proof_38 rfl rfl ?_
  refine s_getF (pc' := 42) (b := 73) (kc := 9) (i := 11) dX9_proof_39 clX9 (by decide) fl_9_11 (fa_t65 sA) (fa_f9_11 sA) (fun _ => rfl) rfl ?_
  refine s_iload_n (pc' := 43) (x := a1) dX9_proof_42 rfl rfl ?_
  obtain ⟨z5, z6, V⟩ := V
  refine s_iald (pc' := 44) dX9_proof_43 (fa_t73 sA) z5 (fa_lt73 sA z6) rfl ?_
  obtain ⟨z7, z8, V⟩ := V
  obtain ⟨V12, V13⟩ := V
  refine s_icmp_ne (pc' := 47) (tgt := 62) dX9_proof_44 rfl rfl z7 z8 (fun c => ?_) (fun c => ?_)
  · have V := V12 c
    refine s_iinc (pc' := 65) (ls' := [some (vR 65), some (vI a1), none, some (vI (a3 + 1))]) dX9_proof_62 rfl (by decide) rfl rfl ?_
    refine s_goto (tgt := 28) dX9_proof_65 rfl ?_
    exact V
  · have V := V13 c
    refine s_aload_n (pc' := 48) (x := 65) dX9_proof_47 rfl rfl ?_
    refine s_getF (pc' := 51) (b := 70) (kc := 9) (i := 7) dX9_proof_48 clX9 (by decide) fl_9_7 (fa_t65 sA) (fa_f9_7 sA) (fun _ => rfl) rfl ?_
    refine s_iload_n (pc' := 52) (x := a3) dX9_proof_51 rfl rfl ?_
    refine s_iald (pc' := 53) dX9_proof_52 (fa_t70 sA) z1 (fa_lt70 sA z2) rfl ?_
    refine s_aload_n (pc' := 54) (x := 65) dX9_proof_53 rfl rfl ?_
    refine s_getF (pc' := 57) (b := 73) (kc := 9) (i := 11) dX9_proof_54 clX9 (by decide) fl_9_11 (fa_t65 sA) (fa_f9_11 sA) (fun _ => rfl) rfl ?_
    refine s_iload_n (pc' := 58) (x := a1) dX9_proof_57 rfl rfl ?_
    refine s_iald (pc' := 59) dX9_proof_58 (fa_t73 sA) z5 (fa_lt73 sA z6) rfl ?_
    obtain ⟨z9, V⟩ := V
    obtain ⟨V10, V11⟩ := V
    refine s_icmp_eq (pc' := 62) (tgt := 68) dX9_proof_59 rfl rfl z9 z8 (fun c => ?_) (fun c => ?_)
    · have V := V10 c
      refine s_iload_n (pc' := 69) (x := a3) dX9_proof_68 rfl rfl ?_
      exact s_iret dX9_proof_69 rfl ⟨_, rfl, rfl, V⟩
    · have V := V11 c
      refine s_iinc (pc' := 65) (ls' := [some (vR 65), some (vI a1), none, some (vI (a3 + 1))]) dX9_proof_62 rfl (by decide) rfl rfl ?_
      refine s_goto (tgt := 28) dX9_proof_65 rfl ?_
      exact V
theorem e_X9_answer {w : WS} {h : AH} {Q : Int → AH → Prop} {a1 a2 : Int} (X : XI mX9_answer 0 [some (vR 65), some (vI a1), some (vI a2)] [] w h Q) : CI mX9_answer [vR 65, vI a1, vI a2] w h Q := CA.of (M := mX9_answer) (by decide) rfl (Nat.le_of_ble_eq_true rfl) X
set_option maxRecDepth 20000 in
theorem r_X9_answer_0 {w : WS} {h : AH} {Q : Int → AH → Prop} {a1 a2 : Int} (sA : shA w) (V : CI mX9_laysPlan [vR 65, vI a1] w h (fun x2 h1 => (inR x2 ∧ ((x2 = 0 → Q (-1) h1) ∧ (¬ x2 = 0 → (inR a2 ∧ inR ((h1 65 10) - 1) ∧ ((¬ ((0 : Int) ≤ a2 ∧ a2 ≤ ((h1 65 10) - 1)) → Q (-1) h1) ∧ (((0 : Int) ≤ a2 ∧ a2 ≤ ((h1 65 10) - 1)) → (0 ≤ a2 ∧ a2 < 300 ∧ CI mX9_answers [vR 65, vI (h1 69 a2)] w h1 (fun x9 h8 => Q x9 h8)))))))))) : XI mX9_answer 0 [some (vR 65), some (vI a1), some (vI a2)] [] w h Q := by
  refine s_aload_n (pc' := 1) (x := 65) dX9_answer_0 rfl rfl ?_
  refine s_iload_n (pc' := 2) (x := a1) dX9_answer_1 rfl rfl ?_
  refine s_callV (pc' := 5) (av := [vI a1]) (a := 65) (sk := []) (kc := 9) dX9_answer_2 ml_9_209 okX9_laysPlan oiX9_laysPlan (by decide) (NF := 39) rfl (fa_t65 sA) rfl (Nat.le_of_ble_eq_true rfl) (Nat.le_refl 0) (Nat.le_refl 0) rfl (CI.on V (fun x2 h1 V => ?_))
  obtain ⟨z3, V⟩ := V
  obtain ⟨V12, V13⟩ := V
  refine s_if_eq (pc' := 8) (tgt := 35) dX9_answer_5 rfl rfl z3 (fun c => ?_) (fun c => ?_)
  · have V := V12 c
    refine s_iconst (pc' := 36) dX9_answer_35 rfl ?_
    exact s_iret dX9_answer_36 rfl ⟨_, rfl, rfl, V⟩
  · have V := V13 c
    refine s_iload_n (pc' := 9) (x := a2) dX9_answer_8 rfl rfl ?_
    refine s_iconst (pc' := 10) dX9_answer_9 rfl ?_
    refine s_aload_n (pc' := 11) (x := 65) dX9_answer_10 rfl rfl ?_
    refine s_get (pc' := 14) (v := vI (h1 65 10)) (kc := 9) (i := 10) dX9_answer_11 clX9 (by decide) fl_9_10 (fa_t65 sA) (fun _ => rfl) rfl ?_
    refine s_iconst (pc' := 15) dX9_answer_14 rfl ?_
    refine s_isub (pc' := 16) dX9_answer_15 rfl ?_
    obtain ⟨z4, z5, V⟩ := V
    refine s_callS (pc' := 19) (av := [vI a2, vI 0, vI ((h1 65 10) - 1)]) (sk := []) dX9_answer_16 ml_9_77 okX9_isIn osX9_isIn (by decide) rfl (Nat.le_of_ble_eq_true rfl) (Nat.le_refl 0) (Nat.le_refl 0) rfl (CI.eon (c_X9_isIn sA z4 (by decide) z5) ?_)
    obtain ⟨V10, V11⟩ := V
    refine s_ifeq_b (pc' := 22) (tgt := 35) dX9_answer_19 rfl rfl (fun c => ?_) (fun c => ?_)
    · have V := V10 c
      refine s_iconst (pc' := 36) dX9_answer_35 rfl ?_
      exact s_iret dX9_answer_36 rfl ⟨_, rfl, rfl, V⟩
    · have V := V11 c
      refine s_aload_n (pc' := 23) (x := 65) dX9_answer_22 rfl rfl ?_
      refine s_aload_n (pc' := 24) (x := 65) dX9_answer_23 rfl rfl ?_
      refine s_getF (pc' := 27) (b := 69) (kc := 9) (i := 6) dX9_answer_24 clX9 (by decide) fl_9_6 (fa_t65 sA) (fa_f9_6 sA) (fun _ => rfl) rfl ?_
      refine s_iload_n (pc' := 28) (x := a2) dX9_answer_27 rfl rfl ?_
      obtain ⟨z6, z7, V⟩ := V
      refine s_iald (pc' := 29) dX9_answer_28 (fa_t69 sA) z6 (fa_lt69 sA z7) rfl ?_
      refine s_callV (pc' := 32) (av := [vI (h1 69 a2)]) (a := 65) (sk := []) (kc := 9) dX9_answer_29 ml_9_142 okX9_answers oiX9_answers (by decide) (NF := 39) rfl (fa_t65 sA) rfl (Nat.le_of_ble_eq_true rfl) (Nat.le_refl 0) (Nat.le_refl 0) rfl (CI.on V (fun x9 h8 V => ?_))
      refine s_goto (tgt := 36) dX9_answer_32 rfl ?_
      exact s_iret dX9_answer_36 rfl ⟨_, rfl, rfl, V⟩
theorem e_X9_laysHyper {w : WS} {h : AH} {Q : Int → AH → Prop} (X : XI mX9_laysHyper 0 [some (vR 65), none, none] [] w h Q) : CI mX9_laysHyper [vR 65] w h Q := CA.of (M := mX9_laysHyper) (by decide) rfl (Nat.le_of_ble_eq_true rfl) X
set_option maxRecDepth 20000 in
theorem r_X9_laysHyper_0 {w : WS} {h : AH} {Q : Int → AH → Prop} (sA : shA w) (V : (∀ h1, h1 = st h 65 26 0 → XI mX9_laysHyper 7 [some (vR 65), some (vI 0), none] [] w h1 Q)) : XI mX9_laysHyper 0 [some (vR 65), none, none] [] w h Q := by
  refine s_aload_n (pc' := 1) (x := 65) dX9_laysHyper_0 rfl rfl ?_
  refine s_iconst (pc' := 2) dX9_laysHyper_1 rfl ?_
  refine s_put (pc' := 5) (v := vI 0) (x := 0) (kc := 9) (i := 26) dX9_laysHyper_2 clX9 (by decide) fl_9_26 rfl (fa_t65 sA) (fun E => nar_int E _) (fun _ _ => rfl) (j0 := 26) rfl rfl ?_
  obtain ⟨h1, e2⟩ : ∃ q, q = st h 65 26 0 := ⟨_, rfl⟩
  rw [← e2]
  have V := V h1 e2
  refine s_iconst (pc' := 6) dX9_laysHyper_5 rfl ?_
  refine s_istore_n (pc' := 7) (ls' := [some (vR 65), some (vI 0), none]) dX9_laysHyper_6 (by decide) rfl rfl ?_
  exact V
set_option maxRecDepth 20000 in
theorem r_X9_laysHyper_7 {w : WS} {h : AH} {Q : Int → AH → Prop} {a1 : Int} (sA : shA w) (V : (inR a1 ∧ inR (h 66 97) ∧ (((h 66 97) ≤ a1 → (∀ h3, h3 = st h 65 27 0 → XI mX9_laysHyper 87 [some (vR 65), some (vI 0), none] [] w h3 Q)) ∧ (¬ (h 66 97) ≤ a1 → (0 ≤ (48 + a1) ∧ (48 + a1) < 202 ∧ (inR (h 66 (48 + a1)) ∧ ((¬ (h 66 (48 + a1)) = 0 → (inR (h 65 26) ∧ ((¬ (h 65 26) = 0 → CI mX9_common [vI (h 65 26), vI (h 66 (48 + a1))] w h (fun x10 h9 => ((0 ≤ (h 65 26) ∧ (h 65 26) ≤ 2147483647) ∧ (0 < x10 ∧ x10 ≤ 2147483647) ∧ (∀ h13, h13 = st h9 65 26 (((h 65 26) / x10) * (h 66 (48 + a1))) → (inR (h13 65 26) ∧ (((h13 65 26) ≤ 360 → XI mX9_laysHyper 7 [some (vR 65), some (vI (a1 + 1)), none] [] w h13 Q) ∧ (¬ (h13 65 26) ≤ 360 → Q 0 h13))))))) ∧ ((h 65 26) = 0 → (∀ h18, h18 = st h 65 26 (h 66 (48 + a1)) → (inR (h18 65 26) ∧ (((h18 65 26) ≤ 360 → XI mX9_laysHyper 7 [some (vR 65), some (vI (a1 + 1)), none] [] w h18 Q) ∧ (¬ (h18 65 26) ≤ 360 → Q 0 h18)))))))) ∧ ((h 66 (48 + a1)) = 0 → XI mX9_laysHyper 7 [some (vR 65), some (vI (a1 + 1)), none] [] w h Q)))))))) : XI mX9_laysHyper 7 [some (vR 65), some (vI a1), none] [] w h Q := by
  refine s_iload_n (pc' := 8) (x := a1) dX9_laysHyper_7 rfl rfl ?_
  refine s_aload_n (pc' := 9) (x := 65) dX9_laysHyper_8 rfl rfl ?_
  refine s_callV (pc' := 12) (av := []) (a := 65) (sk := [vI a1]) (kc := 9) dX9_laysHyper_9 ml_9_88 okX9_timers oiX9_timers (by decide) (NF := 39) rfl (fa_t65 sA) rfl (Nat.le_of_ble_eq_true rfl) (Nat.le_refl 0) (Nat.le_refl 0) rfl (CI.eon (c_X9_timers sA) ?_)
  obtain ⟨z1, z2, V⟩ := V
  obtain ⟨V27, V28⟩ := V
  refine s_icmp_ge (pc' := 15) (tgt := 80) dX9_laysHyper_12 rfl rfl z1 z2 (fun c => ?_) (fun c => ?_)
  · have V := V27 c
    refine s_aload_n (pc' := 81) (x := 65) dX9_laysHyper_80 rfl rfl ?_
    refine s_iconst (pc' := 82) dX9_laysHyper_81 rfl ?_
    refine s_put (pc' := 85) (v := vI 0) (x := 0) (kc := 9) (i := 27) dX9_laysHyper_82 clX9 (by decide) fl_9_27 rfl (fa_t65 sA) (fun E => nar_int E _) (fun _ _ => rfl) (j0 := 27) rfl rfl ?_
    obtain ⟨h3, e4⟩ : ∃ q, q = st h 65 27 0 := ⟨_, rfl⟩
    rw [← e4]
    have V := V h3 e4
    refine s_iconst (pc' := 86) dX9_laysHyper_85 rfl ?_
    refine s_istore_n (pc' := 87) (ls' := [some (vR 65), some (vI 0), none]) dX9_laysHyper_86 (by decide) rfl rfl ?_
    exact V
  · have V := V28 c
    refine s_aload_n (pc' := 16) (x := 65) dX9_laysHyper_15 rfl rfl ?_
    refine s_getF (pc' := 19) (b := 66) (kc := 9) (i := 0) dX9_laysHyper_16 clX9 (by decide) fl_9_0 (fa_t65 sA) (fa_f9_0 sA) (fun _ => rfl) rfl ?_
    refine s_bipush (pc' := 21) dX9_laysHyper_19 (by decide) rfl ?_
    refine s_iload_n (pc' := 22) (x := a1) dX9_laysHyper_21 rfl rfl ?_
    refine s_iadd (pc' := 23) dX9_laysHyper_22 rfl ?_
    obtain ⟨z5, z6, V⟩ := V
    refine s_iald (pc' := 24) dX9_laysHyper_23 (fa_t66 sA) z5 (fa_lt66 sA z6) rfl ?_
    refine s_istore_n (pc' := 25) (ls' := [some (vR 65), some (vI a1), some (vI (h 66 (48 + a1)))]) dX9_laysHyper_24 (by decide) rfl rfl ?_
    refine s_iload_n (pc' := 26) (x := (h 66 (48 + a1))) dX9_laysHyper_25 rfl rfl ?_
    obtain ⟨z7, V⟩ := V
    obtain ⟨V25, V26⟩ := V
    refine s_if_ne (pc' := 29) (tgt := 32) dX9_laysHyper_26 rfl rfl z7 (fun c => ?_) (fun c => ?_)
    · have V := V25 c
      refine s_aload_n (pc' := 33) (x := 65) dX9_laysHyper_32 rfl rfl ?_
      refine s_aload_n (pc' := 34) (x := 65) dX9_laysHyper_33 rfl rfl ?_
      refine s_get (pc' := 37) (v := vI (h 65 26)) (kc := 9) (i := 26) dX9_laysHyper_34 clX9 (by decide) fl_9_26 (fa_t65 sA) (fun _ => rfl) rfl ?_
      obtain ⟨z8, V⟩ := V
      obtain ⟨V23, V24⟩ := V
      refine s_if_ne (pc' := 40) (tgt := 44) dX9_laysHyper_37 rfl rfl z8 (fun c => ?_) (fun c => ?_)
      · have V := V23 c
        refine s_aload_n (pc' := 45) (x := 65) dX9_laysHyper_44 rfl rfl ?_
        refine s_get (pc' := 48) (v := vI (h 65 26)) (kc := 9) (i := 26) dX9_laysHyper_45 clX9 (by decide) fl_9_26 (fa_t65 sA) (fun _ => rfl) rfl ?_
        refine s_aload_n (pc' := 49) (x := 65) dX9_laysHyper_48 rfl rfl ?_
        refine s_get (pc' := 52) (v := vI (h 65 26)) (kc := 9) (i := 26) dX9_laysHyper_49 clX9 (by decide) fl_9_26 (fa_t65 sA) (fun _ => rfl) rfl ?_
        refine s_iload_n (pc' := 53) (x := (h 66 (48 + a1))) dX9_laysHyper_52 rfl rfl ?_
        refine s_callS (pc' := 56) (av := [vI (h 65 26), vI (h 66 (48 + a1))]) (sk := [vI (h 65 26), vR 65]) dX9_laysHyper_53 ml_9_227 okX9_common osX9_common (by decide) rfl (Nat.le_of_ble_eq_true rfl) (Nat.le_refl 0) (Nat.le_refl 0) rfl (CI.on V (fun x10 h9 V => ?_))
        obtain ⟨z11, z12, V⟩ := V
        refine s_idiv (pc' := 57) dX9_laysHyper_56 z11 z12 rfl ?_
        refine s_iload_n (pc' := 58) (x := (h 66 (48 + a1))) dX9_laysHyper_57 rfl rfl ?_
        refine s_imul (pc' := 59) dX9_laysHyper_58 rfl ?_
        refine s_put (pc' := 62) (v := vI (((h 65 26) / x10) * (h 66 (48 + a1)))) (x := (((h 65 26) / x10) * (h 66 (48 + a1)))) (kc := 9) (i := 26) dX9_laysHyper_59 clX9 (by decide) fl_9_26 rfl (fa_t65 sA) (fun E => nar_int E _) (fun _ _ => rfl) (j0 := 26) rfl rfl ?_
        obtain ⟨h13, e14⟩ : ∃ q, q = st h9 65 26 (((h 65 26) / x10) * (h 66 (48 + a1))) := ⟨_, rfl⟩
        rw [← e14]
        have V := V h13 e14
        refine s_aload_n (pc' := 63) (x := 65) dX9_laysHyper_62 rfl rfl ?_
        refine s_get (pc' := 66) (v := vI (h13 65 26)) (kc := 9) (i := 26) dX9_laysHyper_63 clX9 (by decide) fl_9_26 (fa_t65 sA) (fun _ => rfl) rfl ?_
        refine s_sipush (pc' := 69) dX9_laysHyper_66 (by decide) rfl ?_
        obtain ⟨z15, V⟩ := V
        obtain ⟨V16, V17⟩ := V
        refine s_icmp_le (pc' := 72) (tgt := 74) dX9_laysHyper_69 rfl rfl z15 (by decide) (fun c => ?_) (fun c => ?_)
        · have V := V16 c
          refine s_iinc (pc' := 77) (ls' := [some (vR 65), some (vI (a1 + 1)), some (vI (h 66 (48 + a1)))]) dX9_laysHyper_74 rfl (by decide) rfl rfl ?_
          refine s_goto (tgt := 7) dX9_laysHyper_77 rfl ?_
          refine s_drop 2 (ls' := [some (vR 65), some (vI (a1 + 1)), none]) rfl ?_
          exact V
        · have V := V17 c
          refine s_iconst (pc' := 73) dX9_laysHyper_72 rfl ?_
          exact s_zret dX9_laysHyper_73 rfl (by decide) ⟨_, rfl, rfl, V⟩
      · have V := V24 c
        refine s_iload_n (pc' := 41) (x := (h 66 (48 + a1))) dX9_laysHyper_40 rfl rfl ?_
        refine s_goto (tgt := 59) dX9_laysHyper_41 rfl ?_
        refine s_put (pc' := 62) (v := vI (h 66 (48 + a1))) (x := (h 66 (48 + a1))) (kc := 9) (i := 26) dX9_laysHyper_59 clX9 (by decide) fl_9_26 rfl (fa_t65 sA) (fun E => nar_int E _) (fun _ _ => rfl) (j0 := 26) rfl rfl ?_
        obtain ⟨h18, e19⟩ : ∃ q, q = st h 65 26 (h 66 (48 + a1)) := ⟨_, rfl⟩
        rw [← e19]
        have V := V h18 e19
        refine s_aload_n (pc' := 63) (x := 65) dX9_laysHyper_62 rfl rfl ?_
        refine s_get (pc' := 66) (v := vI (h18 65 26)) (kc := 9) (i := 26) dX9_laysHyper_63 clX9 (by decide) fl_9_26 (fa_t65 sA) (fun _ => rfl) rfl ?_
        refine s_sipush (pc' := 69) dX9_laysHyper_66 (by decide) rfl ?_
        obtain ⟨z20, V⟩ := V
        obtain ⟨V21, V22⟩ := V
        refine s_icmp_le (pc' := 72) (tgt := 74) dX9_laysHyper_69 rfl rfl z20 (by decide) (fun c => ?_) (fun c => ?_)
        · have V := V21 c
          refine s_iinc (pc' := 77) (ls' := [some (vR 65), some (vI (a1 + 1)), some (vI (h 66 (48 + a1)))]) dX9_laysHyper_74 rfl (by decide) rfl rfl ?_
          refine s_goto (tgt := 7) dX9_laysHyper_77 rfl ?_
          refine s_drop 2 (ls' := [some (vR 65), some (vI (a1 + 1)), none]) rfl ?_
          exact V
        · have V := V22 c
          refine s_iconst (pc' := 73) dX9_laysHyper_72 rfl ?_
          exact s_zret dX9_laysHyper_73 rfl (by decide) ⟨_, rfl, rfl, V⟩
    · have V := V26 c
      refine s_goto (tgt := 74) dX9_laysHyper_29 rfl ?_
      refine s_iinc (pc' := 77) (ls' := [some (vR 65), some (vI (a1 + 1)), some (vI (h 66 (48 + a1)))]) dX9_laysHyper_74 rfl (by decide) rfl rfl ?_
      refine s_goto (tgt := 7) dX9_laysHyper_77 rfl ?_
      refine s_drop 2 (ls' := [some (vR 65), some (vI (a1 + 1)), none]) rfl ?_
      exact V
set_option maxRecDepth 20000 in
theorem r_X9_laysHyper_87 {w : WS} {h : AH} {Q : Int → AH → Prop} {a1 : Int} (sA : shA w) (V : (inR a1 ∧ inR (h 66 97) ∧ (((h 66 97) ≤ a1 → (inR (h 65 26) ∧ (((h 65 26) ≤ 0 → Q 0 h) ∧ (¬ (h 65 26) ≤ 0 → (inR (h 65 27) ∧ ((400 < (h 65 27) → Q 0 h) ∧ (¬ 400 < (h 65 27) → Q 1 h))))))) ∧ (¬ (h 66 97) ≤ a1 → (inR (h 65 26) ∧ (((h 65 26) ≤ 0 → (((h 65 26) ≤ 0 → Q 0 h) ∧ (¬ (h 65 26) ≤ 0 → (inR (h 65 27) ∧ ((400 < (h 65 27) → Q 0 h) ∧ (¬ 400 < (h 65 27) → Q 1 h)))))) ∧ (¬ (h 65 26) ≤ 0 → (0 ≤ (48 + a1) ∧ (48 + a1) < 202 ∧ (inR (h 66 (48 + a1)) ∧ ((¬ (h 66 (48 + a1)) = 0 → ((0 ≤ (h 65 26) ∧ (h 65 26) ≤ 2147483647) ∧ (0 < (h 66 (48 + a1)) ∧ (h 66 (48 + a1)) ≤ 2147483647) ∧ (∀ h20, h20 = st h 65 27 ((h 65 27) + ((h 65 26) / (h 66 (48 + a1)))) → XI mX9_laysHyper 87 [some (vR 65), some (vI (a1 + 1)), none] [] w h20 Q))) ∧ ((h 66 (48 + a1)) = 0 → (∀ h22, h22 = st h 65 27 ((h 65 27) + 0) → XI mX9_laysHyper 87 [some (vR 65), some (vI (a1 + 1)), none] [] w h22 Q)))))))))))) : XI mX9_laysHyper 87 [some (vR 65), some (vI a1), none] [] w h Q := by
  refine s_iload_n (pc' := 88) (x := a1) dX9_laysHyper_87 rfl rfl ?_
  refine s_aload_n (pc' := 89) (x := 65) dX9_laysHyper_88 rfl rfl ?_
  refine s_callV (pc' := 92) (av := []) (a := 65) (sk := [vI a1]) (kc := 9) dX9_laysHyper_89 ml_9_88 okX9_timers oiX9_timers (by decide) (NF := 39) rfl (fa_t65 sA) rfl (Nat.le_of_ble_eq_true rfl) (Nat.le_refl 0) (Nat.le_refl 0) rfl (CI.eon (c_X9_timers sA) ?_)
  obtain ⟨z1, z2, V⟩ := V
  obtain ⟨V28, V29⟩ := V
  refine s_icmp_ge (pc' := 95) (tgt := 147) dX9_laysHyper_92 rfl rfl z1 z2 (fun c => ?_) (fun c => ?_)
  · have V := V28 c
    refine s_aload_n (pc' := 148) (x := 65) dX9_laysHyper_147 rfl rfl ?_
    refine s_get (pc' := 151) (v := vI (h 65 26)) (kc := 9) (i := 26) dX9_laysHyper_148 clX9 (by decide) fl_9_26 (fa_t65 sA) (fun _ => rfl) rfl ?_
    obtain ⟨z3, V⟩ := V
    obtain ⟨V7, V8⟩ := V
    refine s_if_le (pc' := 154) (tgt := 168) dX9_laysHyper_151 rfl rfl z3 (fun c => ?_) (fun c => ?_)
    · have V := V7 c
      refine s_iconst (pc' := 169) dX9_laysHyper_168 rfl ?_
      exact s_zret dX9_laysHyper_169 rfl (by decide) ⟨_, rfl, rfl, V⟩
    · have V := V8 c
      refine s_aload_n (pc' := 155) (x := 65) dX9_laysHyper_154 rfl rfl ?_
      refine s_get (pc' := 158) (v := vI (h 65 27)) (kc := 9) (i := 27) dX9_laysHyper_155 clX9 (by decide) fl_9_27 (fa_t65 sA) (fun _ => rfl) rfl ?_
      refine s_sipush (pc' := 161) dX9_laysHyper_158 (by decide) rfl ?_
      obtain ⟨z4, V⟩ := V
      obtain ⟨V5, V6⟩ := V
      refine s_icmp_gt (pc' := 164) (tgt := 168) dX9_laysHyper_161 rfl rfl z4 (by decide) (fun c => ?_) (fun c => ?_)
      · have V := V5 c
        refine s_iconst (pc' := 169) dX9_laysHyper_168 rfl ?_
        exact s_zret dX9_laysHyper_169 rfl (by decide) ⟨_, rfl, rfl, V⟩
      · have V := V6 c
        refine s_iconst (pc' := 165) dX9_laysHyper_164 rfl ?_
        refine s_goto (tgt := 169) dX9_laysHyper_165 rfl ?_
        exact s_zret dX9_laysHyper_169 rfl (by decide) ⟨_, rfl, rfl, V⟩
  · have V := V29 c
    refine s_aload_n (pc' := 96) (x := 65) dX9_laysHyper_95 rfl rfl ?_
    refine s_get (pc' := 99) (v := vI (h 65 26)) (kc := 9) (i := 26) dX9_laysHyper_96 clX9 (by decide) fl_9_26 (fa_t65 sA) (fun _ => rfl) rfl ?_
    obtain ⟨z9, V⟩ := V
    obtain ⟨V26, V27⟩ := V
    refine s_if_le (pc' := 102) (tgt := 147) dX9_laysHyper_99 rfl rfl z9 (fun c => ?_) (fun c => ?_)
    · have V := V26 c
      refine s_aload_n (pc' := 148) (x := 65) dX9_laysHyper_147 rfl rfl ?_
      refine s_get (pc' := 151) (v := vI (h 65 26)) (kc := 9) (i := 26) dX9_laysHyper_148 clX9 (by decide) fl_9_26 (fa_t65 sA) (fun _ => rfl) rfl ?_
      obtain ⟨V13, V14⟩ := V
      refine s_if_le (pc' := 154) (tgt := 168) dX9_laysHyper_151 rfl rfl z9 (fun c => ?_) (fun c => ?_)
      · have V := V13 c
        refine s_iconst (pc' := 169) dX9_laysHyper_168 rfl ?_
        exact s_zret dX9_laysHyper_169 rfl (by decide) ⟨_, rfl, rfl, V⟩
      · have V := V14 c
        refine s_aload_n (pc' := 155) (x := 65) dX9_laysHyper_154 rfl rfl ?_
        refine s_get (pc' := 158) (v := vI (h 65 27)) (kc := 9) (i := 27) dX9_laysHyper_155 clX9 (by decide) fl_9_27 (fa_t65 sA) (fun _ => rfl) rfl ?_
        refine s_sipush (pc' := 161) dX9_laysHyper_158 (by decide) rfl ?_
        obtain ⟨z10, V⟩ := V
        obtain ⟨V11, V12⟩ := V
        refine s_icmp_gt (pc' := 164) (tgt := 168) dX9_laysHyper_161 rfl rfl z10 (by decide) (fun c => ?_) (fun c => ?_)
        · have V := V11 c
          refine s_iconst (pc' := 169) dX9_laysHyper_168 rfl ?_
          exact s_zret dX9_laysHyper_169 rfl (by decide) ⟨_, rfl, rfl, V⟩
        · have V := V12 c
          refine s_iconst (pc' := 165) dX9_laysHyper_164 rfl ?_
          refine s_goto (tgt := 169) dX9_laysHyper_165 rfl ?_
          exact s_zret dX9_laysHyper_169 rfl (by decide) ⟨_, rfl, rfl, V⟩
    · have V := V27 c
      refine s_aload_n (pc' := 103) (x := 65) dX9_laysHyper_102 rfl rfl ?_
      refine s_dup (pc' := 104) dX9_laysHyper_103 (by intro _ q; cases q) rfl ?_
      refine s_get (pc' := 107) (v := vI (h 65 27)) (kc := 9) (i := 27) dX9_laysHyper_104 clX9 (by decide) fl_9_27 (fa_t65 sA) (fun _ => rfl) rfl ?_
      refine s_aload_n (pc' := 108) (x := 65) dX9_laysHyper_107 rfl rfl ?_
      refine s_getF (pc' := 111) (b := 66) (kc := 9) (i := 0) dX9_laysHyper_108 clX9 (by decide) fl_9_0 (fa_t65 sA) (fa_f9_0 sA) (fun _ => rfl) rfl ?_
      refine s_bipush (pc' := 113) dX9_laysHyper_111 (by decide) rfl ?_
      refine s_iload_n (pc' := 114) (x := a1) dX9_laysHyper_113 rfl rfl ?_
      refine s_iadd (pc' := 115) dX9_laysHyper_114 rfl ?_
      obtain ⟨z15, z16, V⟩ := V
      refine s_iald (pc' := 116) dX9_laysHyper_115 (fa_t66 sA) z15 (fa_lt66 sA z16) rfl ?_
      obtain ⟨z17, V⟩ := V
      obtain ⟨V24, V25⟩ := V
      refine s_if_ne (pc' := 119) (tgt := 123) dX9_laysHyper_116 rfl rfl z17 (fun c => ?_) (fun c => ?_)
      · have V := V24 c
        refine s_aload_n (pc' := 124) (x := 65) dX9_laysHyper_123 rfl rfl ?_
        refine s_get (pc' := 127) (v := vI (h 65 26)) (kc := 9) (i := 26) dX9_laysHyper_124 clX9 (by decide) fl_9_26 (fa_t65 sA) (fun _ => rfl) rfl ?_
        refine s_aload_n (pc' := 128) (x := 65) dX9_laysHyper_127 rfl rfl ?_
        refine s_getF (pc' := 131) (b := 66) (kc := 9) (i := 0) dX9_laysHyper_128 clX9 (by decide) fl_9_0 (fa_t65 sA) (fa_f9_0 sA) (fun _ => rfl) rfl ?_
        refine s_bipush (pc' := 133) dX9_laysHyper_131 (by decide) rfl ?_
        refine s_iload_n (pc' := 134) (x := a1) dX9_laysHyper_133 rfl rfl ?_
        refine s_iadd (pc' := 135) dX9_laysHyper_134 rfl ?_
        refine s_iald (pc' := 136) dX9_laysHyper_135 (fa_t66 sA) z15 (fa_lt66 sA z16) rfl ?_
        obtain ⟨z18, z19, V⟩ := V
        refine s_idiv (pc' := 137) dX9_laysHyper_136 z18 z19 rfl ?_
        refine s_iadd (pc' := 138) dX9_laysHyper_137 rfl ?_
        refine s_put (pc' := 141) (v := vI ((h 65 27) + ((h 65 26) / (h 66 (48 + a1))))) (x := ((h 65 27) + ((h 65 26) / (h 66 (48 + a1))))) (kc := 9) (i := 27) dX9_laysHyper_138 clX9 (by decide) fl_9_27 rfl (fa_t65 sA) (fun E => nar_int E _) (fun _ _ => rfl) (j0 := 27) rfl rfl ?_
        obtain ⟨h20, e21⟩ : ∃ q, q = st h 65 27 ((h 65 27) + ((h 65 26) / (h 66 (48 + a1)))) := ⟨_, rfl⟩
        rw [← e21]
        have V := V h20 e21
        refine s_iinc (pc' := 144) (ls' := [some (vR 65), some (vI (a1 + 1)), none]) dX9_laysHyper_141 rfl (by decide) rfl rfl ?_
        refine s_goto (tgt := 87) dX9_laysHyper_144 rfl ?_
        exact V
      · have V := V25 c
        refine s_iconst (pc' := 120) dX9_laysHyper_119 rfl ?_
        refine s_goto (tgt := 137) dX9_laysHyper_120 rfl ?_
        refine s_iadd (pc' := 138) dX9_laysHyper_137 rfl ?_
        refine s_put (pc' := 141) (v := vI ((h 65 27) + 0)) (x := ((h 65 27) + 0)) (kc := 9) (i := 27) dX9_laysHyper_138 clX9 (by decide) fl_9_27 rfl (fa_t65 sA) (fun E => nar_int E _) (fun _ _ => rfl) (j0 := 27) rfl rfl ?_
        obtain ⟨h22, e23⟩ : ∃ q, q = st h 65 27 ((h 65 27) + 0) := ⟨_, rfl⟩
        rw [← e23]
        have V := V h22 e23
        refine s_iinc (pc' := 144) (ls' := [some (vR 65), some (vI (a1 + 1)), none]) dX9_laysHyper_141 rfl (by decide) rfl rfl ?_
        refine s_goto (tgt := 87) dX9_laysHyper_144 rfl ?_
        exact V
theorem e_X9_nextLatest {w : WS} {h : AH} {Q : Int → AH → Prop} {a1 : Int} (X : XI mX9_nextLatest 0 [some (vR 65), some (vI a1), none, none, none, none, none, none] [] w h Q) : CI mX9_nextLatest [vR 65, vI a1] w h Q := CA.of (M := mX9_nextLatest) (by decide) rfl (Nat.le_of_ble_eq_true rfl) X
set_option maxRecDepth 20000 in
theorem r_X9_nextLatest_0 {w : WS} {h : AH} {Q : Int → AH → Prop} {a1 : Int} (sA : shA w) (V : XI mX9_nextLatest 4 [some (vR 65), some (vI a1), some (vI (-1)), some (vI 0), none, none, none, none] [] w h Q) : XI mX9_nextLatest 0 [some (vR 65), some (vI a1), none, none, none, none, none, none] [] w h Q := by
  refine s_iconst (pc' := 1) dX9_nextLatest_0 rfl ?_
  refine s_istore_n (pc' := 2) (ls' := [some (vR 65), some (vI a1), some (vI (-1)), none, none, none, none, none]) dX9_nextLatest_1 (by decide) rfl rfl ?_
  refine s_iconst (pc' := 3) dX9_nextLatest_2 rfl ?_
  refine s_istore_n (pc' := 4) (ls' := [some (vR 65), some (vI a1), some (vI (-1)), some (vI 0), none, none, none, none]) dX9_nextLatest_3 (by decide) rfl rfl ?_
  exact V
set_option maxRecDepth 20000 in
theorem r_X9_nextLatest_4 {w : WS} {h : AH} {Q : Int → AH → Prop} {a1 a2 a3 : Int} (sA : shA w) (V : (inR a3 ∧ inR (h 66 97) ∧ (((h 66 97) ≤ a3 → Q a2 h) ∧ (¬ (h 66 97) ≤ a3 → (0 ≤ (48 + a3) ∧ (48 + a3) < 202 ∧ (inR (h 66 (48 + a3)) ∧ ((¬ (h 66 (48 + a3)) = 0 → (0 ≤ (72 + a3) ∧ (72 + a3) < 202 ∧ (inR ((h 66 (72 + a3)) - (a1 + 1)) ∧ (0 < (h 66 (48 + a3)) ∧ (h 66 (48 + a3)) ≤ 2147483647) ∧ (∀ y10, y10 = (((h 66 (72 + a3)) - (a1 + 1)).tmod (h 66 (48 + a3))) → (inR y10 ∧ ((0 ≤ y10 → (0 ≤ (24 + a3) ∧ (24 + a3) < 202 ∧ CI mX9_slack [vR 65, vI (h 66 (24 + a3))] w h (fun x16 h15 => (inR a2 ∧ ((a2 = (-1) → XI mX9_nextLatest 4 [some (vR 65), some (vI a1), some (vI (((a1 + 1) + y10) + x16)), some (vI (a3 + 1)), none, none, none, none] [] w h15 Q) ∧ (¬ a2 = (-1) → (inR (((a1 + 1) + y10) + x16) ∧ ((a2 ≤ (((a1 + 1) + y10) + x16) → XI mX9_nextLatest 4 [some (vR 65), some (vI a1), some (vI a2), some (vI (a3 + 1)), none, none, none, none] [] w h15 Q) ∧ (¬ a2 ≤ (((a1 + 1) + y10) + x16) → XI mX9_nextLatest 4 [some (vR 65), some (vI a1), some (vI (((a1 + 1) + y10) + x16)), some (vI (a3 + 1)), none, none, none, none] [] w h15 Q))))))))) ∧ (¬ 0 ≤ y10 → (0 ≤ (24 + a3) ∧ (24 + a3) < 202 ∧ CI mX9_slack [vR 65, vI (h 66 (24 + a3))] w h (fun x26 h25 => (∀ y27, y27 = (((a1 + 1) + (y10 + (h 66 (48 + a3)))) + x26) → (inR a2 ∧ ((a2 = (-1) → XI mX9_nextLatest 4 [some (vR 65), some (vI a1), some (vI y27), some (vI (a3 + 1)), none, none, none, none] [] w h25 Q) ∧ (¬ a2 = (-1) → (inR y27 ∧ ((a2 ≤ y27 → XI mX9_nextLatest 4 [some (vR 65), some (vI a1), some (vI a2), some (vI (a3 + 1)), none, none, none, none] [] w h25 Q) ∧ (¬ a2 ≤ y27 → XI mX9_nextLatest 4 [some (vR 65), some (vI a1), some (vI y27), some (vI (a3 + 1)), none, none, none, none] [] w h25 Q)))))))))))))))) ∧ ((h 66 (48 + a3)) = 0 → XI mX9_nextLatest 4 [some (vR 65), some (vI a1), some (vI a2), some (vI (a3 + 1)), none, none, none, none] [] w h Q)))))))) : XI mX9_nextLatest 4 [some (vR 65), some (vI a1), some (vI a2), some (vI a3), none, none, none, none] [] w h Q := by
  refine s_iload_n (pc' := 5) (x := a3) dX9_nextLatest_4 rfl rfl ?_
  refine s_aload_n (pc' := 6) (x := 65) dX9_nextLatest_5 rfl rfl ?_
  refine s_callV (pc' := 9) (av := []) (a := 65) (sk := [vI a3]) (kc := 9) dX9_nextLatest_6 ml_9_88 okX9_timers oiX9_timers (by decide) (NF := 39) rfl (fa_t65 sA) rfl (Nat.le_of_ble_eq_true rfl) (Nat.le_refl 0) (Nat.le_refl 0) rfl (CI.eon (c_X9_timers sA) ?_)
  obtain ⟨z1, z2, V⟩ := V
  obtain ⟨V39, V40⟩ := V
  refine s_icmp_ge (pc' := 12) (tgt := 111) dX9_nextLatest_9 rfl rfl z1 z2 (fun c => ?_) (fun c => ?_)
  · have V := V39 c
    refine s_iload_n (pc' := 112) (x := a2) dX9_nextLatest_111 rfl rfl ?_
    exact s_iret dX9_nextLatest_112 rfl ⟨_, rfl, rfl, V⟩
  · have V := V40 c
    refine s_aload_n (pc' := 13) (x := 65) dX9_nextLatest_12 rfl rfl ?_
    refine s_getF (pc' := 16) (b := 66) (kc := 9) (i := 0) dX9_nextLatest_13 clX9 (by decide) fl_9_0 (fa_t65 sA) (fa_f9_0 sA) (fun _ => rfl) rfl ?_
    refine s_bipush (pc' := 18) dX9_nextLatest_16 (by decide) rfl ?_
    refine s_iload_n (pc' := 19) (x := a3) dX9_nextLatest_18 rfl rfl ?_
    refine s_iadd (pc' := 20) dX9_nextLatest_19 rfl ?_
    obtain ⟨z3, z4, V⟩ := V
    refine s_iald (pc' := 21) dX9_nextLatest_20 (fa_t66 sA) z3 (fa_lt66 sA z4) rfl ?_
    refine s_istore (pc' := 23) (ls' := [some (vR 65), some (vI a1), some (vI a2), some (vI a3), some (vI (h 66 (48 + a3))), none, none, none]) dX9_nextLatest_21 (by decide) rfl rfl ?_
    refine s_iload (pc' := 25) (x := (h 66 (48 + a3))) dX9_nextLatest_23 rfl rfl ?_
    obtain ⟨z5, V⟩ := V
    obtain ⟨V37, V38⟩ := V
    refine s_if_ne (pc' := 28) (tgt := 31) dX9_nextLatest_25 rfl rfl z5 (fun c => ?_) (fun c => ?_)
    · have V := V37 c
      refine s_iload_n (pc' := 32) (x := a1) dX9_nextLatest_31 rfl rfl ?_
      refine s_iconst (pc' := 33) dX9_nextLatest_32 rfl ?_
      refine s_iadd (pc' := 34) dX9_nextLatest_33 rfl ?_
      refine s_istore (pc' := 36) (ls' := [some (vR 65), some (vI a1), some (vI a2), some (vI a3), some (vI (h 66 (48 + a3))), some (vI (a1 + 1)), none, none]) dX9_nextLatest_34 (by decide) rfl rfl ?_
      refine s_aload_n (pc' := 37) (x := 65) dX9_nextLatest_36 rfl rfl ?_
      refine s_getF (pc' := 40) (b := 66) (kc := 9) (i := 0) dX9_nextLatest_37 clX9 (by decide) fl_9_0 (fa_t65 sA) (fa_f9_0 sA) (fun _ => rfl) rfl ?_
      refine s_bipush (pc' := 42) dX9_nextLatest_40 (by decide) rfl ?_
      refine s_iload_n (pc' := 43) (x := a3) dX9_nextLatest_42 rfl rfl ?_
      refine s_iadd (pc' := 44) dX9_nextLatest_43 rfl ?_
      obtain ⟨z6, z7, V⟩ := V
      refine s_iald (pc' := 45) dX9_nextLatest_44 (fa_t66 sA) z6 (fa_lt66 sA z7) rfl ?_
      refine s_iload (pc' := 47) (x := (a1 + 1)) dX9_nextLatest_45 rfl rfl ?_
      refine s_isub (pc' := 48) dX9_nextLatest_47 rfl ?_
      refine s_iload (pc' := 50) (x := (h 66 (48 + a3))) dX9_nextLatest_48 rfl rfl ?_
      obtain ⟨z8, z9, V⟩ := V
      refine s_iremT (pc' := 51) dX9_nextLatest_50 z8 z9 rfl ?_
      obtain ⟨y10, e11⟩ : ∃ q, q = (((h 66 (72 + a3)) - (a1 + 1)).tmod (h 66 (48 + a3))) := ⟨_, rfl⟩
      rw [← e11]
      have V := V y10 e11
      refine s_istore (pc' := 53) (ls' := [some (vR 65), some (vI a1), some (vI a2), some (vI a3), some (vI (h 66 (48 + a3))), some (vI (a1 + 1)), some (vI y10), none]) dX9_nextLatest_51 (by decide) rfl rfl ?_
      refine s_iload (pc' := 55) (x := (a1 + 1)) dX9_nextLatest_53 rfl rfl ?_
      refine s_iload (pc' := 57) (x := y10) dX9_nextLatest_55 rfl rfl ?_
      obtain ⟨z12, V⟩ := V
      obtain ⟨V35, V36⟩ := V
      refine s_if_ge (pc' := 60) (tgt := 68) dX9_nextLatest_57 rfl rfl z12 (fun c => ?_) (fun c => ?_)
      · have V := V35 c
        refine s_iload (pc' := 70) (x := y10) dX9_nextLatest_68 rfl rfl ?_
        refine s_iadd (pc' := 71) dX9_nextLatest_70 rfl ?_
        refine s_aload_n (pc' := 72) (x := 65) dX9_nextLatest_71 rfl rfl ?_
        refine s_aload_n (pc' := 73) (x := 65) dX9_nextLatest_72 rfl rfl ?_
        refine s_getF (pc' := 76) (b := 66) (kc := 9) (i := 0) dX9_nextLatest_73 clX9 (by decide) fl_9_0 (fa_t65 sA) (fa_f9_0 sA) (fun _ => rfl) rfl ?_
        refine s_bipush (pc' := 78) dX9_nextLatest_76 (by decide) rfl ?_
        refine s_iload_n (pc' := 79) (x := a3) dX9_nextLatest_78 rfl rfl ?_
        refine s_iadd (pc' := 80) dX9_nextLatest_79 rfl ?_
        obtain ⟨z13, z14, V⟩ := V
        refine s_iald (pc' := 81) dX9_nextLatest_80 (fa_t66 sA) z13 (fa_lt66 sA z14) rfl ?_
        refine s_callV (pc' := 84) (av := [vI (h 66 (24 + a3))]) (a := 65) (sk := [vI ((a1 + 1) + y10)]) (kc := 9) dX9_nextLatest_81 ml_9_95 okX9_slack oiX9_slack (by decide) (NF := 39) rfl (fa_t65 sA) rfl (Nat.le_of_ble_eq_true rfl) (Nat.le_refl 0) (Nat.le_refl 0) rfl (CI.on V (fun x16 h15 V => ?_))
        refine s_iadd (pc' := 85) dX9_nextLatest_84 rfl ?_
        refine s_istore (pc' := 87) (ls' := [some (vR 65), some (vI a1), some (vI a2), some (vI a3), some (vI (h 66 (48 + a3))), some (vI (a1 + 1)), some (vI y10), some (vI (((a1 + 1) + y10) + x16))]) dX9_nextLatest_85 (by decide) rfl rfl ?_
        refine s_iload_n (pc' := 88) (x := a2) dX9_nextLatest_87 rfl rfl ?_
        refine s_iconst (pc' := 89) dX9_nextLatest_88 rfl ?_
        obtain ⟨z17, V⟩ := V
        obtain ⟨V21, V22⟩ := V
        refine s_icmp_eq (pc' := 92) (tgt := 98) dX9_nextLatest_89 rfl rfl z17 (by decide) (fun c => ?_) (fun c => ?_)
        · have V := V21 c
          refine s_iload (pc' := 100) (x := (((a1 + 1) + y10) + x16)) dX9_nextLatest_98 rfl rfl ?_
          refine s_goto (tgt := 104) dX9_nextLatest_100 rfl ?_
          refine s_istore_n (pc' := 105) (ls' := [some (vR 65), some (vI a1), some (vI (((a1 + 1) + y10) + x16)), some (vI a3), some (vI (h 66 (48 + a3))), some (vI (a1 + 1)), some (vI y10), some (vI (((a1 + 1) + y10) + x16))]) dX9_nextLatest_104 (by decide) rfl rfl ?_
          refine s_iinc (pc' := 108) (ls' := [some (vR 65), some (vI a1), some (vI (((a1 + 1) + y10) + x16)), some (vI (a3 + 1)), some (vI (h 66 (48 + a3))), some (vI (a1 + 1)), some (vI y10), some (vI (((a1 + 1) + y10) + x16))]) dX9_nextLatest_105 rfl (by decide) rfl rfl ?_
          refine s_goto (tgt := 4) dX9_nextLatest_108 rfl ?_
          refine s_drop 4 (ls' := [some (vR 65), some (vI a1), some (vI (((a1 + 1) + y10) + x16)), some (vI (a3 + 1)), none, some (vI (a1 + 1)), some (vI y10), some (vI (((a1 + 1) + y10) + x16))]) rfl ?_
          refine s_drop 5 (ls' := [some (vR 65), some (vI a1), some (vI (((a1 + 1) + y10) + x16)), some (vI (a3 + 1)), none, none, some (vI y10), some (vI (((a1 + 1) + y10) + x16))]) rfl ?_
          refine s_drop 6 (ls' := [some (vR 65), some (vI a1), some (vI (((a1 + 1) + y10) + x16)), some (vI (a3 + 1)), none, none, none, some (vI (((a1 + 1) + y10) + x16))]) rfl ?_
          refine s_drop 7 (ls' := [some (vR 65), some (vI a1), some (vI (((a1 + 1) + y10) + x16)), some (vI (a3 + 1)), none, none, none, none]) rfl ?_
          exact V
        · have V := V22 c
          refine s_iload (pc' := 94) (x := (((a1 + 1) + y10) + x16)) dX9_nextLatest_92 rfl rfl ?_
          refine s_iload_n (pc' := 95) (x := a2) dX9_nextLatest_94 rfl rfl ?_
          obtain ⟨z18, V⟩ := V
          obtain ⟨V19, V20⟩ := V
          refine s_icmp_ge (pc' := 98) (tgt := 103) dX9_nextLatest_95 rfl rfl z18 z17 (fun c => ?_) (fun c => ?_)
          · have V := V19 c
            refine s_iload_n (pc' := 104) (x := a2) dX9_nextLatest_103 rfl rfl ?_
            refine s_istore_n (pc' := 105) (ls' := [some (vR 65), some (vI a1), some (vI a2), some (vI a3), some (vI (h 66 (48 + a3))), some (vI (a1 + 1)), some (vI y10), some (vI (((a1 + 1) + y10) + x16))]) dX9_nextLatest_104 (by decide) rfl rfl ?_
            refine s_iinc (pc' := 108) (ls' := [some (vR 65), some (vI a1), some (vI a2), some (vI (a3 + 1)), some (vI (h 66 (48 + a3))), some (vI (a1 + 1)), some (vI y10), some (vI (((a1 + 1) + y10) + x16))]) dX9_nextLatest_105 rfl (by decide) rfl rfl ?_
            refine s_goto (tgt := 4) dX9_nextLatest_108 rfl ?_
            refine s_drop 4 (ls' := [some (vR 65), some (vI a1), some (vI a2), some (vI (a3 + 1)), none, some (vI (a1 + 1)), some (vI y10), some (vI (((a1 + 1) + y10) + x16))]) rfl ?_
            refine s_drop 5 (ls' := [some (vR 65), some (vI a1), some (vI a2), some (vI (a3 + 1)), none, none, some (vI y10), some (vI (((a1 + 1) + y10) + x16))]) rfl ?_
            refine s_drop 6 (ls' := [some (vR 65), some (vI a1), some (vI a2), some (vI (a3 + 1)), none, none, none, some (vI (((a1 + 1) + y10) + x16))]) rfl ?_
            refine s_drop 7 (ls' := [some (vR 65), some (vI a1), some (vI a2), some (vI (a3 + 1)), none, none, none, none]) rfl ?_
            exact V
          · have V := V20 c
            refine s_iload (pc' := 100) (x := (((a1 + 1) + y10) + x16)) dX9_nextLatest_98 rfl rfl ?_
            refine s_goto (tgt := 104) dX9_nextLatest_100 rfl ?_
            refine s_istore_n (pc' := 105) (ls' := [some (vR 65), some (vI a1), some (vI (((a1 + 1) + y10) + x16)), some (vI a3), some (vI (h 66 (48 + a3))), some (vI (a1 + 1)), some (vI y10), some (vI (((a1 + 1) + y10) + x16))]) dX9_nextLatest_104 (by decide) rfl rfl ?_
            refine s_iinc (pc' := 108) (ls' := [some (vR 65), some (vI a1), some (vI (((a1 + 1) + y10) + x16)), some (vI (a3 + 1)), some (vI (h 66 (48 + a3))), some (vI (a1 + 1)), some (vI y10), some (vI (((a1 + 1) + y10) + x16))]) dX9_nextLatest_105 rfl (by decide) rfl rfl ?_
            refine s_goto (tgt := 4) dX9_nextLatest_108 rfl ?_
            refine s_drop 4 (ls' := [some (vR 65), some (vI a1), some (vI (((a1 + 1) + y10) + x16)), some (vI (a3 + 1)), none, some (vI (a1 + 1)), some (vI y10), some (vI (((a1 + 1) + y10) + x16))]) rfl ?_
            refine s_drop 5 (ls' := [some (vR 65), some (vI a1), some (vI (((a1 + 1) + y10) + x16)), some (vI (a3 + 1)), none, none, some (vI y10), some (vI (((a1 + 1) + y10) + x16))]) rfl ?_
            refine s_drop 6 (ls' := [some (vR 65), some (vI a1), some (vI (((a1 + 1) + y10) + x16)), some (vI (a3 + 1)), none, none, none, some (vI (((a1 + 1) + y10) + x16))]) rfl ?_
            refine s_drop 7 (ls' := [some (vR 65), some (vI a1), some (vI (((a1 + 1) + y10) + x16)), some (vI (a3 + 1)), none, none, none, none]) rfl ?_
            exact V
      · have V := V36 c
        refine s_iload (pc' := 62) (x := y10) dX9_nextLatest_60 rfl rfl ?_
        refine s_iload (pc' := 64) (x := (h 66 (48 + a3))) dX9_nextLatest_62 rfl rfl ?_
        refine s_iadd (pc' := 65) dX9_nextLatest_64 rfl ?_
        refine s_goto (tgt := 70) dX9_nextLatest_65 rfl ?_
        refine s_iadd (pc' := 71) dX9_nextLatest_70 rfl ?_
        refine s_aload_n (pc' := 72) (x := 65) dX9_nextLatest_71 rfl rfl ?_
        refine s_aload_n (pc' := 73) (x := 65) dX9_nextLatest_72 rfl rfl ?_
        refine s_getF (pc' := 76) (b := 66) (kc := 9) (i := 0) dX9_nextLatest_73 clX9 (by decide) fl_9_0 (fa_t65 sA) (fa_f9_0 sA) (fun _ => rfl) rfl ?_
        refine s_bipush (pc' := 78) dX9_nextLatest_76 (by decide) rfl ?_
        refine s_iload_n (pc' := 79) (x := a3) dX9_nextLatest_78 rfl rfl ?_
        refine s_iadd (pc' := 80) dX9_nextLatest_79 rfl ?_
        obtain ⟨z23, z24, V⟩ := V
        refine s_iald (pc' := 81) dX9_nextLatest_80 (fa_t66 sA) z23 (fa_lt66 sA z24) rfl ?_
        refine s_callV (pc' := 84) (av := [vI (h 66 (24 + a3))]) (a := 65) (sk := [vI ((a1 + 1) + (y10 + (h 66 (48 + a3))))]) (kc := 9) dX9_nextLatest_81 ml_9_95 okX9_slack oiX9_slack (by decide) (NF := 39) rfl (fa_t65 sA) rfl (Nat.le_of_ble_eq_true rfl) (Nat.le_refl 0) (Nat.le_refl 0) rfl (CI.on V (fun x26 h25 V => ?_))
        refine s_iadd (pc' := 85) dX9_nextLatest_84 rfl ?_
        obtain ⟨y27, e28⟩ : ∃ q, q = (((a1 + 1) + (y10 + (h 66 (48 + a3)))) + x26) := ⟨_, rfl⟩
        rw [← e28]
        have V := V y27 e28
        refine s_istore (pc' := 87) (ls' := [some (vR 65), some (vI a1), some (vI a2), some (vI a3), some (vI (h 66 (48 + a3))), some (vI (a1 + 1)), some (vI y10), some (vI y27)]) dX9_nextLatest_85 (by decide) rfl rfl ?_
        refine s_iload_n (pc' := 88) (x := a2) dX9_nextLatest_87 rfl rfl ?_
        refine s_iconst (pc' := 89) dX9_nextLatest_88 rfl ?_
        obtain ⟨z29, V⟩ := V
        obtain ⟨V33, V34⟩ := V
        refine s_icmp_eq (pc' := 92) (tgt := 98) dX9_nextLatest_89 rfl rfl z29 (by decide) (fun c => ?_) (fun c => ?_)
        · have V := V33 c
          refine s_iload (pc' := 100) (x := y27) dX9_nextLatest_98 rfl rfl ?_
          refine s_goto (tgt := 104) dX9_nextLatest_100 rfl ?_
          refine s_istore_n (pc' := 105) (ls' := [some (vR 65), some (vI a1), some (vI y27), some (vI a3), some (vI (h 66 (48 + a3))), some (vI (a1 + 1)), some (vI y10), some (vI y27)]) dX9_nextLatest_104 (by decide) rfl rfl ?_
          refine s_iinc (pc' := 108) (ls' := [some (vR 65), some (vI a1), some (vI y27), some (vI (a3 + 1)), some (vI (h 66 (48 + a3))), some (vI (a1 + 1)), some (vI y10), some (vI y27)]) dX9_nextLatest_105 rfl (by decide) rfl rfl ?_
          refine s_goto (tgt := 4) dX9_nextLatest_108 rfl ?_
          refine s_drop 4 (ls' := [some (vR 65), some (vI a1), some (vI y27), some (vI (a3 + 1)), none, some (vI (a1 + 1)), some (vI y10), some (vI y27)]) rfl ?_
          refine s_drop 5 (ls' := [some (vR 65), some (vI a1), some (vI y27), some (vI (a3 + 1)), none, none, some (vI y10), some (vI y27)]) rfl ?_
          refine s_drop 6 (ls' := [some (vR 65), some (vI a1), some (vI y27), some (vI (a3 + 1)), none, none, none, some (vI y27)]) rfl ?_
          refine s_drop 7 (ls' := [some (vR 65), some (vI a1), some (vI y27), some (vI (a3 + 1)), none, none, none, none]) rfl ?_
          exact V
        · have V := V34 c
          refine s_iload (pc' := 94) (x := y27) dX9_nextLatest_92 rfl rfl ?_
          refine s_iload_n (pc' := 95) (x := a2) dX9_nextLatest_94 rfl rfl ?_
          obtain ⟨z30, V⟩ := V
          obtain ⟨V31, V32⟩ := V
          refine s_icmp_ge (pc' := 98) (tgt := 103) dX9_nextLatest_95 rfl rfl z30 z29 (fun c => ?_) (fun c => ?_)
          · have V := V31 c
            refine s_iload_n (pc' := 104) (x := a2) dX9_nextLatest_103 rfl rfl ?_
            refine s_istore_n (pc' := 105) (ls' := [some (vR 65), some (vI a1), some (vI a2), some (vI a3), some (vI (h 66 (48 + a3))), some (vI (a1 + 1)), some (vI y10), some (vI y27)]) dX9_nextLatest_104 (by decide) rfl rfl ?_
            refine s_iinc (pc' := 108) (ls' := [some (vR 65), some (vI a1), some (vI a2), some (vI (a3 + 1)), some (vI (h 66 (48 + a3))), some (vI (a1 + 1)), some (vI y10), some (vI y27)]) dX9_nextLatest_105 rfl (by decide) rfl rfl ?_
            refine s_goto (tgt := 4) dX9_nextLatest_108 rfl ?_
            refine s_drop 4 (ls' := [some (vR 65), some (vI a1), some (vI a2), some (vI (a3 + 1)), none, some (vI (a1 + 1)), some (vI y10), some (vI y27)]) rfl ?_
            refine s_drop 5 (ls' := [some (vR 65), some (vI a1), some (vI a2), some (vI (a3 + 1)), none, none, some (vI y10), some (vI y27)]) rfl ?_
            refine s_drop 6 (ls' := [some (vR 65), some (vI a1), some (vI a2), some (vI (a3 + 1)), none, none, none, some (vI y27)]) rfl ?_
            refine s_drop 7 (ls' := [some (vR 65), some (vI a1), some (vI a2), some (vI (a3 + 1)), none, none, none, none]) rfl ?_
            exact V
          · have V := V32 c
            refine s_iload (pc' := 100) (x := y27) dX9_nextLatest_98 rfl rfl ?_
            refine s_goto (tgt := 104) dX9_nextLatest_100 rfl ?_
            refine s_istore_n (pc' := 105) (ls' := [some (vR 65), some (vI a1), some (vI y27), some (vI a3), some (vI (h 66 (48 + a3))), some (vI (a1 + 1)), some (vI y10), some (vI y27)]) dX9_nextLatest_104 (by decide) rfl rfl ?_
            refine s_iinc (pc' := 108) (ls' := [some (vR 65), some (vI a1), some (vI y27), some (vI (a3 + 1)), some (vI (h 66 (48 + a3))), some (vI (a1 + 1)), some (vI y10), some (vI y27)]) dX9_nextLatest_105 rfl (by decide) rfl rfl ?_
            refine s_goto (tgt := 4) dX9_nextLatest_108 rfl ?_
            refine s_drop 4 (ls' := [some (vR 65), some (vI a1), some (vI y27), some (vI (a3 + 1)), none, some (vI (a1 + 1)), some (vI y10), some (vI y27)]) rfl ?_
            refine s_drop 5 (ls' := [some (vR 65), some (vI a1), some (vI y27), some (vI (a3 + 1)), none, none, some (vI y10), some (vI y27)]) rfl ?_
            refine s_drop 6 (ls' := [some (vR 65), some (vI a1), some (vI y27), some (vI (a3 + 1)), none, none, none, some (vI y27)]) rfl ?_
            refine s_drop 7 (ls' := [some (vR 65), some (vI a1), some (vI y27), some (vI (a3 + 1)), none, none, none, none]) rfl ?_
            exact V
    · have V := V38 c
      refine s_goto (tgt := 105) dX9_nextLatest_28 rfl ?_
      refine s_iinc (pc' := 108) (ls' := [some (vR 65), some (vI a1), some (vI a2), some (vI (a3 + 1)), some (vI (h 66 (48 + a3))), none, none, none]) dX9_nextLatest_105 rfl (by decide) rfl rfl ?_
      refine s_goto (tgt := 4) dX9_nextLatest_108 rfl ?_
      refine s_drop 4 (ls' := [some (vR 65), some (vI a1), some (vI a2), some (vI (a3 + 1)), none, none, none, none]) rfl ?_
      exact V
theorem e_X9_laysRound {w : WS} {h : AH} {Q : Int → AH → Prop} (X : XI mX9_laysRound 0 [some (vR 65), none, none] [] w h Q) : CI mX9_laysRound [vR 65] w h Q := CA.of (M := mX9_laysRound) (by decide) rfl (Nat.le_of_ble_eq_true rfl) X
set_option maxRecDepth 20000 in
theorem r_X9_laysRound_0 {w : WS} {h : AH} {Q : Int → AH → Prop} (sA : shA w) (V : CI mX9_laysHyper [vR 65] w h (fun x2 h1 => (inR x2 ∧ ((¬ x2 = 0 → (∀ h4, h4 = st h1 65 31 401 → XI mX9_laysRound 18 [some (vR 65), some (vI 0), none] [] w h4 Q)) ∧ (x2 = 0 → Q 0 h1))))) : XI mX9_laysRound 0 [some (vR 65), none, none] [] w h Q := by
  refine s_aload_n (pc' := 1) (x := 65) dX9_laysRound_0 rfl rfl ?_
  refine s_callV (pc' := 4) (av := []) (a := 65) (sk := []) (kc := 9) dX9_laysRound_1 ml_9_233 okX9_laysHyper oiX9_laysHyper (by decide) (NF := 39) rfl (fa_t65 sA) rfl (Nat.le_of_ble_eq_true rfl) (Nat.le_refl 0) (Nat.le_refl 0) rfl (CI.on V (fun x2 h1 V => ?_))
  obtain ⟨z3, V⟩ := V
  obtain ⟨V6, V7⟩ := V
  refine s_if_ne (pc' := 7) (tgt := 9) dX9_laysRound_4 rfl rfl z3 (fun c => ?_) (fun c => ?_)
  · have V := V6 c
    refine s_aload_n (pc' := 10) (x := 65) dX9_laysRound_9 rfl rfl ?_
    refine s_sipush (pc' := 13) dX9_laysRound_10 (by decide) rfl ?_
    refine s_put (pc' := 16) (v := vI 401) (x := 401) (kc := 9) (i := 31) dX9_laysRound_13 clX9 (by decide) fl_9_31 rfl (fa_t65 sA) (fun E => nar_int E _) (fun _ _ => rfl) (j0 := 31) rfl rfl ?_
    obtain ⟨h4, e5⟩ : ∃ q, q = st h1 65 31 401 := ⟨_, rfl⟩
    rw [← e5]
    have V := V h4 e5
    refine s_iconst (pc' := 17) dX9_laysRound_16 rfl ?_
    refine s_istore_n (pc' := 18) (ls' := [some (vR 65), some (vI 0), none]) dX9_laysRound_17 (by decide) rfl rfl ?_
    exact V
  · have V := V7 c
    refine s_iconst (pc' := 8) dX9_laysRound_7 rfl ?_
    exact s_zret dX9_laysRound_8 rfl (by decide) ⟨_, rfl, rfl, V⟩
set_option maxRecDepth 20000 in
theorem r_X9_laysRound_18 {w : WS} {h : AH} {Q : Int → AH → Prop} {a1 : Int} (sA : shA w) (V : (inR a1 ∧ inR (h 65 26) ∧ (((h 65 26) ≤ a1 → Q 1 h) ∧ (¬ (h 65 26) ≤ a1 → (∀ h3, h3 = st h 65 30 0 → XI mX9_laysRound 33 [some (vR 65), some (vI a1), some (vI a1)] [] w h3 Q))))) : XI mX9_laysRound 18 [some (vR 65), some (vI a1), none] [] w h Q := by
  refine s_iload_n (pc' := 19) (x := a1) dX9_laysRound_18 rfl rfl ?_
  refine s_aload_n (pc' := 20) (x := 65) dX9_laysRound_19 rfl rfl ?_
  refine s_get (pc' := 23) (v := vI (h 65 26)) (kc := 9) (i := 26) dX9_laysRound_20 clX9 (by decide) fl_9_26 (fa_t65 sA) (fun _ => rfl) rfl ?_
  obtain ⟨z1, z2, V⟩ := V
  obtain ⟨V5, V6⟩ := V
  refine s_icmp_ge (pc' := 26) (tgt := 138) dX9_laysRound_23 rfl rfl z1 z2 (fun c => ?_) (fun c => ?_)
  · have V := V5 c
    refine s_iconst (pc' := 139) dX9_laysRound_138 rfl ?_
    exact s_zret dX9_laysRound_139 rfl (by decide) ⟨_, rfl, rfl, V⟩
  · have V := V6 c
    refine s_aload_n (pc' := 27) (x := 65) dX9_laysRound_26 rfl rfl ?_
    refine s_iconst (pc' := 28) dX9_laysRound_27 rfl ?_
    refine s_put (pc' := 31) (v := vI 0) (x := 0) (kc := 9) (i := 30) dX9_laysRound_28 clX9 (by decide) fl_9_30 rfl (fa_t65 sA) (fun E => nar_int E _) (fun _ _ => rfl) (j0 := 30) rfl rfl ?_
    obtain ⟨h3, e4⟩ : ∃ q, q = st h 65 30 0 := ⟨_, rfl⟩
    rw [← e4]
    have V := V h3 e4
    refine s_iload_n (pc' := 32) (x := a1) dX9_laysRound_31 rfl rfl ?_
    refine s_istore_n (pc' := 33) (ls' := [some (vR 65), some (vI a1), some (vI a1)]) dX9_laysRound_32 (by decide) rfl rfl ?_
    exact V
set_option maxRecDepth 20000 in
theorem r_X9_laysRound_33 {w : WS} {h : AH} {Q : Int → AH → Prop} {a1 a2 : Int} (sA : shA w) (V : (inR a2 ∧ inR (a1 + (h 65 26)) ∧ (((a1 + (h 65 26)) ≤ a2 → (inR (h 65 30) ∧ inR (h 65 31) ∧ (((h 65 30) < (h 65 31) → (∀ h5, h5 = st h 65 31 (h 65 30) → (∀ h7, h7 = st h5 65 32 a1 → XI mX9_laysRound 106 [some (vR 65), some (vI a1), some (vI 0)] [] w h7 Q))) ∧ (¬ (h 65 30) < (h 65 31) → XI mX9_laysRound 18 [some (vR 65), some (vI (a1 + 1)), none] [] w h Q)))) ∧ (¬ (a1 + (h 65 26)) ≤ a2 → ((0 ≤ a2 ∧ a2 ≤ 2147483647) ∧ (0 < (h 65 26) ∧ (h 65 26) ≤ 2147483647) ∧ (0 ≤ (h 65 30) ∧ (h 65 30) < 400 ∧ (∀ h15, h15 = st h 81 (h 65 30) (a2 % (h 65 26)) → (∀ h17, h17 = st h15 65 30 ((h15 65 30) + 1) → CI mX9_nextLatest [vR 65, vI a2] w h17 (fun x20 h19 => XI mX9_laysRound 33 [some (vR 65), some (vI a1), some (vI x20)] [] w h19 Q))))))))) : XI mX9_laysRound 33 [some (vR 65), some (vI a1), some (vI a2)] [] w h Q := by
  refine s_iload_n (pc' := 34) (x := a2) dX9_laysRound_33 rfl rfl ?_
  refine s_iload_n (pc' := 35) (x := a1) dX9_laysRound_34 rfl rfl ?_
  refine s_aload_n (pc' := 36) (x := 65) dX9_laysRound_35 rfl rfl ?_
  refine s_get (pc' := 39) (v := vI (h 65 26)) (kc := 9) (i := 26) dX9_laysRound_36 clX9 (by decide) fl_9_26 (fa_t65 sA) (fun _ => rfl) rfl ?_
  refine s_iadd (pc' := 40) dX9_laysRound_39 rfl ?_
  obtain ⟨z1, z2, V⟩ := V
  obtain ⟨V21, V22⟩ := V
  refine s_icmp_ge (pc' := 43) (tgt := 77) dX9_laysRound_40 rfl rfl z1 z2 (fun c => ?_) (fun c => ?_)
  · have V := V21 c
    refine s_aload_n (pc' := 78) (x := 65) dX9_laysRound_77 rfl rfl ?_
    refine s_get (pc' := 81) (v := vI (h 65 30)) (kc := 9) (i := 30) dX9_laysRound_78 clX9 (by decide) fl_9_30 (fa_t65 sA) (fun _ => rfl) rfl ?_
    refine s_aload_n (pc' := 82) (x := 65) dX9_laysRound_81 rfl rfl ?_
    refine s_get (pc' := 85) (v := vI (h 65 31)) (kc := 9) (i := 31) dX9_laysRound_82 clX9 (by decide) fl_9_31 (fa_t65 sA) (fun _ => rfl) rfl ?_
    obtain ⟨z3, z4, V⟩ := V
    obtain ⟨V9, V10⟩ := V
    refine s_icmp_lt (pc' := 88) (tgt := 91) dX9_laysRound_85 rfl rfl z3 z4 (fun c => ?_) (fun c => ?_)
    · have V := V9 c
      refine s_aload_n (pc' := 92) (x := 65) dX9_laysRound_91 rfl rfl ?_
      refine s_aload_n (pc' := 93) (x := 65) dX9_laysRound_92 rfl rfl ?_
      refine s_get (pc' := 96) (v := vI (h 65 30)) (kc := 9) (i := 30) dX9_laysRound_93 clX9 (by decide) fl_9_30 (fa_t65 sA) (fun _ => rfl) rfl ?_
      refine s_put (pc' := 99) (v := vI (h 65 30)) (x := (h 65 30)) (kc := 9) (i := 31) dX9_laysRound_96 clX9 (by decide) fl_9_31 rfl (fa_t65 sA) (fun E => nar_int E _) (fun _ _ => rfl) (j0 := 31) rfl rfl ?_
      obtain ⟨h5, e6⟩ : ∃ q, q = st h 65 31 (h 65 30) := ⟨_, rfl⟩
      rw [← e6]
      have V := V h5 e6
      refine s_aload_n (pc' := 100) (x := 65) dX9_laysRound_99 rfl rfl ?_
      refine s_iload_n (pc' := 101) (x := a1) dX9_laysRound_100 rfl rfl ?_
      refine s_put (pc' := 104) (v := vI a1) (x := a1) (kc := 9) (i := 32) dX9_laysRound_101 clX9 (by decide) fl_9_32 rfl (fa_t65 sA) (fun E => nar_int E _) (fun _ _ => rfl) (j0 := 32) rfl rfl ?_
      obtain ⟨h7, e8⟩ : ∃ q, q = st h5 65 32 a1 := ⟨_, rfl⟩
      rw [← e8]
      have V := V h7 e8
      refine s_iconst (pc' := 105) dX9_laysRound_104 rfl ?_
      refine s_istore_n (pc' := 106) (ls' := [some (vR 65), some (vI a1), some (vI 0)]) dX9_laysRound_105 (by decide) rfl rfl ?_
      exact V
    · have V := V10 c
      refine s_goto (tgt := 132) dX9_laysRound_88 rfl ?_
      refine s_iinc (pc' := 135) (ls' := [some (vR 65), some (vI (a1 + 1)), some (vI a2)]) dX9_laysRound_132 rfl (by decide) rfl rfl ?_
      refine s_goto (tgt := 18) dX9_laysRound_135 rfl ?_
      refine s_drop 2 (ls' := [some (vR 65), some (vI (a1 + 1)), none]) rfl ?_
      exact V
  · have V := V22 c
    refine s_aload_n (pc' := 44) (x := 65) dX9_laysRound_43 rfl rfl ?_
    refine s_getF (pc' := 47) (b := 81) (kc := 9) (i := 28) dX9_laysRound_44 clX9 (by decide) fl_9_28 (fa_t65 sA) (fa_f9_28 sA) (fun _ => rfl) rfl ?_
    refine s_aload_n (pc' := 48) (x := 65) dX9_laysRound_47 rfl rfl ?_
    refine s_get (pc' := 51) (v := vI (h 65 30)) (kc := 9) (i := 30) dX9_laysRound_48 clX9 (by decide) fl_9_30 (fa_t65 sA) (fun _ => rfl) rfl ?_
    refine s_iload_n (pc' := 52) (x := a2) dX9_laysRound_51 rfl rfl ?_
    refine s_aload_n (pc' := 53) (x := 65) dX9_laysRound_52 rfl rfl ?_
    refine s_get (pc' := 56) (v := vI (h 65 26)) (kc := 9) (i := 26) dX9_laysRound_53 clX9 (by decide) fl_9_26 (fa_t65 sA) (fun _ => rfl) rfl ?_
    obtain ⟨z11, z12, V⟩ := V
    refine s_irem (pc' := 57) dX9_laysRound_56 z11 z12 rfl ?_
    obtain ⟨z13, z14, V⟩ := V
    refine s_iast (pc' := 58) dX9_laysRound_57 (fa_t81 sA) z13 (fa_lt81 sA z14) rfl ?_
    obtain ⟨h15, e16⟩ : ∃ q, q = st h 81 (h 65 30) (a2 % (h 65 26)) := ⟨_, rfl⟩
    rw [← e16]
    have V := V h15 e16
    refine s_aload_n (pc' := 59) (x := 65) dX9_laysRound_58 rfl rfl ?_
    refine s_dup (pc' := 60) dX9_laysRound_59 (by intro _ q; cases q) rfl ?_
    refine s_get (pc' := 63) (v := vI (h15 65 30)) (kc := 9) (i := 30) dX9_laysRound_60 clX9 (by decide) fl_9_30 (fa_t65 sA) (fun _ => rfl) rfl ?_
    refine s_iconst (pc' := 64) dX9_laysRound_63 rfl ?_
    refine s_iadd (pc' := 65) dX9_laysRound_64 rfl ?_
    refine s_put (pc' := 68) (v := vI ((h15 65 30) + 1)) (x := ((h15 65 30) + 1)) (kc := 9) (i := 30) dX9_laysRound_65 clX9 (by decide) fl_9_30 rfl (fa_t65 sA) (fun E => nar_int E _) (fun _ _ => rfl) (j0 := 30) rfl rfl ?_
    obtain ⟨h17, e18⟩ : ∃ q, q = st h15 65 30 ((h15 65 30) + 1) := ⟨_, rfl⟩
    rw [← e18]
    have V := V h17 e18
    refine s_aload_n (pc' := 69) (x := 65) dX9_laysRound_68 rfl rfl ?_
    refine s_iload_n (pc' := 70) (x := a2) dX9_laysRound_69 rfl rfl ?_
    refine s_callV (pc' := 73) (av := [vI a2]) (a := 65) (sk := []) (kc := 9) dX9_laysRound_70 ml_9_242 okX9_nextLatest oiX9_nextLatest (by decide) (NF := 39) rfl (fa_t65 sA) rfl (Nat.le_of_ble_eq_true rfl) (Nat.le_refl 0) (Nat.le_refl 0) rfl (CI.on V (fun x20 h19 V => ?_))
    refine s_istore_n (pc' := 74) (ls' := [some (vR 65), some (vI a1), some (vI x20)]) dX9_laysRound_73 (by decide) rfl rfl ?_
    refine s_goto (tgt := 33) dX9_laysRound_74 rfl ?_
    exact V
set_option maxRecDepth 20000 in
theorem r_X9_laysRound_106 {w : WS} {h : AH} {Q : Int → AH → Prop} {a1 a2 : Int} (sA : shA w) (V : (inR a2 ∧ inR (h 65 30) ∧ (((h 65 30) ≤ a2 → XI mX9_laysRound 18 [some (vR 65), some (vI (a1 + 1)), none] [] w h Q) ∧ (¬ (h 65 30) ≤ a2 → (0 ≤ a2 ∧ a2 < 400 ∧ (∀ h5, h5 = st h 82 a2 (h 81 a2) → XI mX9_laysRound 106 [some (vR 65), some (vI a1), some (vI (a2 + 1))] [] w h5 Q)))))) : XI mX9_laysRound 106 [some (vR 65), some (vI a1), some (vI a2)] [] w h Q := by
  refine s_iload_n (pc' := 107) (x := a2) dX9_laysRound_106 rfl rfl ?_
  refine s_aload_n (pc' := 108) (x := 65) dX9_laysRound_107 rfl rfl ?_
  refine s_get (pc' := 111) (v := vI (h 65 30)) (kc := 9) (i := 30) dX9_laysRound_108 clX9 (by decide) fl_9_30 (fa_t65 sA) (fun _ => rfl) rfl ?_
  obtain ⟨z1, z2, V⟩ := V
  obtain ⟨V7, V8⟩ := V
  refine s_icmp_ge (pc' := 114) (tgt := 132) dX9_laysRound_111 rfl rfl z1 z2 (fun c => ?_) (fun c => ?_)
  · have V := V7 c
    refine s_iinc (pc' := 135) (ls' := [some (vR 65), some (vI (a1 + 1)), some (vI a2)]) dX9_laysRound_132 rfl (by decide) rfl rfl ?_
    refine s_goto (tgt := 18) dX9_laysRound_135 rfl ?_
    refine s_drop 2 (ls' := [some (vR 65), some (vI (a1 + 1)), none]) rfl ?_
    exact V
  · have V := V8 c
    refine s_aload_n (pc' := 115) (x := 65) dX9_laysRound_114 rfl rfl ?_
    refine s_getF (pc' := 118) (b := 82) (kc := 9) (i := 29) dX9_laysRound_115 clX9 (by decide) fl_9_29 (fa_t65 sA) (fa_f9_29 sA) (fun _ => rfl) rfl ?_
    refine s_iload_n (pc' := 119) (x := a2) dX9_laysRound_118 rfl rfl ?_
    refine s_aload_n (pc' := 120) (x := 65) dX9_laysRound_119 rfl rfl ?_
    refine s_getF (pc' := 123) (b := 81) (kc := 9) (i := 28) dX9_laysRound_120 clX9 (by decide) fl_9_28 (fa_t65 sA) (fa_f9_28 sA) (fun _ => rfl) rfl ?_
    refine s_iload_n (pc' := 124) (x := a2) dX9_laysRound_123 rfl rfl ?_
    obtain ⟨z3, z4, V⟩ := V
    refine s_iald (pc' := 125) dX9_laysRound_124 (fa_t81 sA) z3 (fa_lt81 sA z4) rfl ?_
    refine s_iast (pc' := 126) dX9_laysRound_125 (fa_t82 sA) z3 (fa_lt82 sA z4) rfl ?_
    obtain ⟨h5, e6⟩ : ∃ q, q = st h 82 a2 (h 81 a2) := ⟨_, rfl⟩
    rw [← e6]
    have V := V h5 e6
    refine s_iinc (pc' := 129) (ls' := [some (vR 65), some (vI a1), some (vI (a2 + 1))]) dX9_laysRound_126 rfl (by decide) rfl rfl ?_
    refine s_goto (tgt := 106) dX9_laysRound_129 rfl ?_
    exact V
theorem e_X9_round {w : WS} {h : AH} {Q : Int → AH → Prop} {a1 : Int} (X : XI mX9_round 0 [some (vR 65), some (vI a1)] [] w h Q) : CI mX9_round [vR 65, vI a1] w h Q := CA.of (M := mX9_round) (by decide) rfl (Nat.le_of_ble_eq_true rfl) X
set_option maxRecDepth 20000 in
theorem r_X9_round_0 {w : WS} {h : AH} {Q : Int → AH → Prop} {a1 : Int} (sA : shA w) (V : CI mX9_laysRound [vR 65] w h (fun x2 h1 => (inR x2 ∧ ((¬ x2 = 0 → (inR a1 ∧ ((¬ a1 = 0 → ((¬ a1 = 1 → ((¬ a1 = 2 → ((¬ a1 = 3 → Q (-1) h1) ∧ (a1 = 3 → Q (h1 65 32) h1))) ∧ (a1 = 2 → Q (h1 65 31) h1))) ∧ (a1 = 1 → Q (h1 65 27) h1))) ∧ (a1 = 0 → Q (h1 65 26) h1)))) ∧ (x2 = 0 → Q (-1) h1))))) : XI mX9_round 0 [some (vR 65), some (vI a1)] [] w h Q := by
  refine s_aload_n (pc' := 1) (x := 65) dX9_round_0 rfl rfl ?_
  refine s_callV (pc' := 4) (av := []) (a := 65) (sk := []) (kc := 9) dX9_round_1 ml_9_248 okX9_laysRound oiX9_laysRound (by decide) (NF := 39) rfl (fa_t65 sA) rfl (Nat.le_of_ble_eq_true rfl) (Nat.le_refl 0) (Nat.le_refl 0) rfl (CI.on V (fun x2 h1 V => ?_))
  obtain ⟨z3, V⟩ := V
  obtain ⟨V13, V14⟩ := V
  refine s_if_ne (pc' := 7) (tgt := 9) dX9_round_4 rfl rfl z3 (fun c => ?_) (fun c => ?_)
  · have V := V13 c
    refine s_iload_n (pc' := 10) (x := a1) dX9_round_9 rfl rfl ?_
    obtain ⟨z4, V⟩ := V
    obtain ⟨V11, V12⟩ := V
    refine s_if_ne (pc' := 13) (tgt := 20) dX9_round_10 rfl rfl z4 (fun c => ?_) (fun c => ?_)
    · have V := V11 c
      refine s_iload_n (pc' := 21) (x := a1) dX9_round_20 rfl rfl ?_
      refine s_iconst (pc' := 22) dX9_round_21 rfl ?_
      obtain ⟨V9, V10⟩ := V
      refine s_icmp_ne (pc' := 25) (tgt := 32) dX9_round_22 rfl rfl z4 (by decide) (fun c => ?_) (fun c => ?_)
      · have V := V9 c
        refine s_iload_n (pc' := 33) (x := a1) dX9_round_32 rfl rfl ?_
        refine s_iconst (pc' := 34) dX9_round_33 rfl ?_
        obtain ⟨V7, V8⟩ := V
        refine s_icmp_ne (pc' := 37) (tgt := 44) dX9_round_34 rfl rfl z4 (by decide) (fun c => ?_) (fun c => ?_)
        · have V := V7 c
          refine s_iload_n (pc' := 45) (x := a1) dX9_round_44 rfl rfl ?_
          refine s_iconst (pc' := 46) dX9_round_45 rfl ?_
          obtain ⟨V5, V6⟩ := V
          refine s_icmp_ne (pc' := 49) (tgt := 56) dX9_round_46 rfl rfl z4 (by decide) (fun c => ?_) (fun c => ?_)
          · have V := V5 c
            refine s_iconst (pc' := 57) dX9_round_56 rfl ?_
            exact s_iret dX9_round_57 rfl ⟨_, rfl, rfl, V⟩
          · have V := V6 c
            refine s_aload_n (pc' := 50) (x := 65) dX9_round_49 rfl rfl ?_
            refine s_get (pc' := 53) (v := vI (h1 65 32)) (kc := 9) (i := 32) dX9_round_50 clX9 (by decide) fl_9_32 (fa_t65 sA) (fun _ => rfl) rfl ?_
            refine s_goto (tgt := 57) dX9_round_53 rfl ?_
            exact s_iret dX9_round_57 rfl ⟨_, rfl, rfl, V⟩
        · have V := V8 c
          refine s_aload_n (pc' := 38) (x := 65) dX9_round_37 rfl rfl ?_
          refine s_get (pc' := 41) (v := vI (h1 65 31)) (kc := 9) (i := 31) dX9_round_38 clX9 (by decide) fl_9_31 (fa_t65 sA) (fun _ => rfl) rfl ?_
          refine s_goto (tgt := 57) dX9_round_41 rfl ?_
          exact s_iret dX9_round_57 rfl ⟨_, rfl, rfl, V⟩
      · have V := V10 c
        refine s_aload_n (pc' := 26) (x := 65) dX9_round_25 rfl rfl ?_
        refine s_get (pc' := 29) (v := vI (h1 65 27)) (kc := 9) (i := 27) dX9_round_26 clX9 (by decide) fl_9_27 (fa_t65 sA) (fun _ => rfl) rfl ?_
        refine s_goto (tgt := 57) dX9_round_29 rfl ?_
        exact s_iret dX9_round_57 rfl ⟨_, rfl, rfl, V⟩
    · have V := V12 c
      refine s_aload_n (pc' := 14) (x := 65) dX9_round_13 rfl rfl ?_
      refine s_get (pc' := 17) (v := vI (h1 65 26)) (kc := 9) (i := 26) dX9_round_14 clX9 (by decide) fl_9_26 (fa_t65 sA) (fun _ => rfl) rfl ?_
      refine s_goto (tgt := 57) dX9_round_17 rfl ?_
      exact s_iret dX9_round_57 rfl ⟨_, rfl, rfl, V⟩
  · have V := V14 c
    refine s_iconst (pc' := 8) dX9_round_7 rfl ?_
    exact s_iret dX9_round_8 rfl ⟨_, rfl, rfl, V⟩
theorem e_X9_roundAt {w : WS} {h : AH} {Q : Int → AH → Prop} {a1 : Int} (X : XI mX9_roundAt 0 [some (vR 65), some (vI a1)] [] w h Q) : CI mX9_roundAt [vR 65, vI a1] w h Q := CA.of (M := mX9_roundAt) (by decide) rfl (Nat.le_of_ble_eq_true rfl) X
set_option maxRecDepth 20000 in
theorem r_X9_roundAt_0 {w : WS} {h : AH} {Q : Int → AH → Prop} {a1 : Int} (sA : shA w) (V : CI mX9_laysRound [vR 65] w h (fun x2 h1 => (inR x2 ∧ ((x2 = 0 → Q (-1) h1) ∧ (¬ x2 = 0 → (inR a1 ∧ inR ((h1 65 31) - 1) ∧ ((¬ ((0 : Int) ≤ a1 ∧ a1 ≤ ((h1 65 31) - 1)) → Q (-1) h1) ∧ (((0 : Int) ≤ a1 ∧ a1 ≤ ((h1 65 31) - 1)) → (0 ≤ a1 ∧ a1 < 400 ∧ Q (h1 82 a1) h1))))))))) : XI mX9_roundAt 0 [some (vR 65), some (vI a1)] [] w h Q := by
  refine s_aload_n (pc' := 1) (x := 65) dX9_roundAt_0 rfl rfl ?_
  refine s_callV (pc' := 4) (av := []) (a := 65) (sk := []) (kc := 9) dX9_roundAt_1 ml_9_248 okX9_laysRound oiX9_laysRound (by decide) (NF := 39) rfl (fa_t65 sA) rfl (Nat.le_of_ble_eq_true rfl) (Nat.le_refl 0) (Nat.le_refl 0) rfl (CI.on V (fun x2 h1 V => ?_))
  obtain ⟨z3, V⟩ := V
  obtain ⟨V10, V11⟩ := V
  refine s_if_eq (pc' := 7) (tgt := 30) dX9_roundAt_4 rfl rfl z3 (fun c => ?_) (fun c => ?_)
  · have V := V10 c
    refine s_iconst (pc' := 31) dX9_roundAt_30 rfl ?_
    exact s_iret dX9_roundAt_31 rfl ⟨_, rfl, rfl, V⟩
  · have V := V11 c
    refine s_iload_n (pc' := 8) (x := a1) dX9_roundAt_7 rfl rfl ?_
    refine s_iconst (pc' := 9) dX9_roundAt_8 rfl ?_
    refine s_aload_n (pc' := 10) (x := 65) dX9_roundAt_9 rfl rfl ?_
    refine s_get (pc' := 13) (v := vI (h1 65 31)) (kc := 9) (i := 31) dX9_roundAt_10 clX9 (by decide) fl_9_31 (fa_t65 sA) (fun _ => rfl) rfl ?_
    refine s_iconst (pc' := 14) dX9_roundAt_13 rfl ?_
    refine s_isub (pc' := 15) dX9_roundAt_14 rfl ?_
    obtain ⟨z4, z5, V⟩ := V
    refine s_callS (pc' := 18) (av := [vI a1, vI 0, vI ((h1 65 31) - 1)]) (sk := []) dX9_roundAt_15 ml_9_77 okX9_isIn osX9_isIn (by decide) rfl (Nat.le_of_ble_eq_true rfl) (Nat.le_refl 0) (Nat.le_refl 0) rfl (CI.eon (c_X9_isIn sA z4 (by decide) z5) ?_)
    obtain ⟨V8, V9⟩ := V
    refine s_ifeq_b (pc' := 21) (tgt := 30) dX9_roundAt_18 rfl rfl (fun c => ?_) (fun c => ?_)
    · have V := V8 c
      refine s_iconst (pc' := 31) dX9_roundAt_30 rfl ?_
      exact s_iret dX9_roundAt_31 rfl ⟨_, rfl, rfl, V⟩
    · have V := V9 c
      refine s_aload_n (pc' := 22) (x := 65) dX9_roundAt_21 rfl rfl ?_
      refine s_getF (pc' := 25) (b := 82) (kc := 9) (i := 29) dX9_roundAt_22 clX9 (by decide) fl_9_29 (fa_t65 sA) (fa_f9_29 sA) (fun _ => rfl) rfl ?_
      refine s_iload_n (pc' := 26) (x := a1) dX9_roundAt_25 rfl rfl ?_
      obtain ⟨z6, z7, V⟩ := V
      refine s_iald (pc' := 27) dX9_roundAt_26 (fa_t82 sA) z6 (fa_lt82 sA z7) rfl ?_
      refine s_goto (tgt := 31) dX9_roundAt_27 rfl ?_
      exact s_iret dX9_roundAt_31 rfl ⟨_, rfl, rfl, V⟩
theorem e_X9_wouldBe {w : WS} {h : AH} {Q : Int → AH → Prop} {a1 : Int} (X : XI mX9_wouldBe 0 [some (vR 65), some (vI a1), none] [] w h Q) : CI mX9_wouldBe [vR 65, vI a1] w h Q := CA.of (M := mX9_wouldBe) (by decide) rfl (Nat.le_of_ble_eq_true rfl) X
set_option maxRecDepth 20000 in
theorem r_X9_wouldBe_0 {w : WS} {h : AH} {Q : Int → AH → Prop} {a1 : Int} (sA : shA w) (V : (inR a1 ∧ ((¬ a1 = 3 → CI mX9_laysPlan [vR 65, vI a1] w h (fun x3 h2 => (inR x3 ∧ ((¬ x3 = 0 → ((¬ a1 = 0 → ((¬ a1 = 1 → CI mX9_energy [vR 65] w h2 (fun x6 h5 => Q x6 h5)) ∧ (a1 = 1 → CI mX9_waitsAll [vR 65] w h2 (fun x8 h7 => Q (((h2 66 99) * (h2 65 12)) + x8) h7)))) ∧ (a1 = 0 → Q (h2 65 12) h2))) ∧ (x3 = 0 → Q (-1) h2))))) ∧ (a1 = 3 → CI mX9_laysRound [vR 65] w h (fun x16 h15 => (inR x16 ∧ ((x16 = 0 → Q (-1) h15) ∧ (¬ x16 = 0 → Q (h15 65 31) h15)))))))) : XI mX9_wouldBe 0 [some (vR 65), some (vI a1), none] [] w h Q := by
  refine s_iload_n (pc' := 1) (x := a1) dX9_wouldBe_0 rfl rfl ?_
  refine s_iconst (pc' := 2) dX9_wouldBe_1 rfl ?_
  obtain ⟨z1, V⟩ := V
  obtain ⟨V20, V21⟩ := V
  refine s_icmp_ne (pc' := 5) (tgt := 21) dX9_wouldBe_2 rfl rfl z1 (by decide) (fun c => ?_) (fun c => ?_)
  · have V := V20 c
    refine s_aload_n (pc' := 22) (x := 65) dX9_wouldBe_21 rfl rfl ?_
    refine s_iload_n (pc' := 23) (x := a1) dX9_wouldBe_22 rfl rfl ?_
    refine s_callV (pc' := 26) (av := [vI a1]) (a := 65) (sk := []) (kc := 9) dX9_wouldBe_23 ml_9_209 okX9_laysPlan oiX9_laysPlan (by decide) (NF := 39) rfl (fa_t65 sA) rfl (Nat.le_of_ble_eq_true rfl) (Nat.le_refl 0) (Nat.le_refl 0) rfl (CI.on V (fun x3 h2 V => ?_))
    refine s_istore_n (pc' := 27) (ls' := [some (vR 65), some (vI a1), some (vI x3)]) dX9_wouldBe_26 (by decide) rfl rfl ?_
    refine s_iload_n (pc' := 28) (x := x3) dX9_wouldBe_27 rfl rfl ?_
    obtain ⟨z4, V⟩ := V
    obtain ⟨V13, V14⟩ := V
    refine s_if_ne (pc' := 31) (tgt := 35) dX9_wouldBe_28 rfl rfl z4 (fun c => ?_) (fun c => ?_)
    · have V := V13 c
      refine s_iload_n (pc' := 36) (x := a1) dX9_wouldBe_35 rfl rfl ?_
      obtain ⟨V11, V12⟩ := V
      refine s_if_ne (pc' := 39) (tgt := 46) dX9_wouldBe_36 rfl rfl z1 (fun c => ?_) (fun c => ?_)
      · have V := V11 c
        refine s_iload_n (pc' := 47) (x := a1) dX9_wouldBe_46 rfl rfl ?_
        refine s_iconst (pc' := 48) dX9_wouldBe_47 rfl ?_
        obtain ⟨V9, V10⟩ := V
        refine s_icmp_ne (pc' := 51) (tgt := 71) dX9_wouldBe_48 rfl rfl z1 (by decide) (fun c => ?_) (fun c => ?_)
        · have V := V9 c
          refine s_aload_n (pc' := 72) (x := 65) dX9_wouldBe_71 rfl rfl ?_
          refine s_callV (pc' := 75) (av := []) (a := 65) (sk := []) (kc := 9) dX9_wouldBe_72 ml_9_212 okX9_energy oiX9_energy (by decide) (NF := 39) rfl (fa_t65 sA) rfl (Nat.le_of_ble_eq_true rfl) (Nat.le_refl 0) (Nat.le_refl 0) rfl (CI.on V (fun x6 h5 V => ?_))
          exact s_iret dX9_wouldBe_75 rfl ⟨_, rfl, rfl, V⟩
        · have V := V10 c
          refine s_aload_n (pc' := 52) (x := 65) dX9_wouldBe_51 rfl rfl ?_
          refine s_getF (pc' := 55) (b := 66) (kc := 9) (i := 0) dX9_wouldBe_52 clX9 (by decide) fl_9_0 (fa_t65 sA) (fa_f9_0 sA) (fun _ => rfl) rfl ?_
          refine s_bipush (pc' := 57) dX9_wouldBe_55 (by decide) rfl ?_
          refine s_iald (pc' := 58) dX9_wouldBe_57 (fa_t66 sA) (by decide) (fa_lt66 sA (by decide)) rfl ?_
          refine s_aload_n (pc' := 59) (x := 65) dX9_wouldBe_58 rfl rfl ?_
          refine s_get (pc' := 62) (v := vI (h2 65 12)) (kc := 9) (i := 12) dX9_wouldBe_59 clX9 (by decide) fl_9_12 (fa_t65 sA) (fun _ => rfl) rfl ?_
          refine s_imul (pc' := 63) dX9_wouldBe_62 rfl ?_
          refine s_aload_n (pc' := 64) (x := 65) dX9_wouldBe_63 rfl rfl ?_
          refine s_callV (pc' := 67) (av := []) (a := 65) (sk := [vI ((h2 66 99) * (h2 65 12))]) (kc := 9) dX9_wouldBe_64 ml_9_197 okX9_waitsAll oiX9_waitsAll (by decide) (NF := 39) rfl (fa_t65 sA) rfl (Nat.le_of_ble_eq_true rfl) (Nat.le_refl 0) (Nat.le_refl 0) rfl (CI.on V (fun x8 h7 V => ?_))
          refine s_iadd (pc' := 68) dX9_wouldBe_67 rfl ?_
          refine s_goto (tgt := 75) dX9_wouldBe_68 rfl ?_
          exact s_iret dX9_wouldBe_75 rfl ⟨_, rfl, rfl, V⟩
      · have V := V12 c
        refine s_aload_n (pc' := 40) (x := 65) dX9_wouldBe_39 rfl rfl ?_
        refine s_get (pc' := 43) (v := vI (h2 65 12)) (kc := 9) (i := 12) dX9_wouldBe_40 clX9 (by decide) fl_9_12 (fa_t65 sA) (fun _ => rfl) rfl ?_
        refine s_goto (tgt := 75) dX9_wouldBe_43 rfl ?_
        exact s_iret dX9_wouldBe_75 rfl ⟨_, rfl, rfl, V⟩
    · have V := V14 c
      refine s_iconst (pc' := 32) dX9_wouldBe_31 rfl ?_
      refine s_goto (tgt := 75) dX9_wouldBe_32 rfl ?_
      exact s_iret dX9_wouldBe_75 rfl ⟨_, rfl, rfl, V⟩
  · have V := V21 c
    refine s_aload_n (pc' := 6) (x := 65) dX9_wouldBe_5 rfl rfl ?_
    refine s_callV (pc' := 9) (av := []) (a := 65) (sk := []) (kc := 9) dX9_wouldBe_6 ml_9_248 okX9_laysRound oiX9_laysRound (by decide) (NF := 39) rfl (fa_t65 sA) rfl (Nat.le_of_ble_eq_true rfl) (Nat.le_refl 0) (Nat.le_refl 0) rfl (CI.on V (fun x16 h15 V => ?_))
    obtain ⟨z17, V⟩ := V
    obtain ⟨V18, V19⟩ := V
    refine s_if_eq (pc' := 12) (tgt := 19) dX9_wouldBe_9 rfl rfl z17 (fun c => ?_) (fun c => ?_)
    · have V := V18 c
      refine s_iconst (pc' := 20) dX9_wouldBe_19 rfl ?_
      exact s_iret dX9_wouldBe_20 rfl ⟨_, rfl, rfl, V⟩
    · have V := V19 c
      refine s_aload_n (pc' := 13) (x := 65) dX9_wouldBe_12 rfl rfl ?_
      refine s_get (pc' := 16) (v := vI (h15 65 31)) (kc := 9) (i := 31) dX9_wouldBe_13 clX9 (by decide) fl_9_31 (fa_t65 sA) (fun _ => rfl) rfl ?_
      refine s_goto (tgt := 20) dX9_wouldBe_16 rfl ?_
      exact s_iret dX9_wouldBe_20 rfl ⟨_, rfl, rfl, V⟩
theorem e_X9_would {w : WS} {h : AH} {Q : Int → AH → Prop} {a1 a2 a3 : Int} (X : XI mX9_would 0 [some (vR 65), some (vI a1), some (vI a2), some (vI a3), none, none] [] w h Q) : CI mX9_would [vR 65, vI a1, vI a2, vI a3] w h Q := CA.of (M := mX9_would) (by decide) rfl (Nat.le_of_ble_eq_true rfl) X
set_option maxRecDepth 20000 in
theorem r_X9_would_0 {w : WS} {h : AH} {Q : Int → AH → Prop} {a1 a2 a3 : Int} (sA : shA w) (V : (inR a1 ∧ (0 ≤ h 66 96 ∧ h 66 96 ≤ 8) ∧ ((¬ (0 ≤ a1 ∧ a1 < h 66 96) → Q (-1) h) ∧ ((0 ≤ a1 ∧ a1 < h 66 96) → (inR a2 ∧ ((¬ ((0 : Int) ≤ a2 ∧ a2 ≤ (99 : Int)) → Q (-1) h) ∧ (((0 : Int) ≤ a2 ∧ a2 ≤ (99 : Int)) → (inR a3 ∧ ((((0 : Int) ≤ a3 ∧ a3 ≤ (3 : Int)) → (0 ≤ (8 + a1) ∧ (8 + a1) < 202 ∧ (∀ h7, h7 = st h 66 (8 + a1) a2 → CI mX9_wouldBe [vR 65, vI a3] w h7 (fun x10 h9 => (∀ h11, h11 = st h9 66 (8 + a1) (h 66 (8 + a1)) → Q x10 h11))))) ∧ (¬ ((0 : Int) ≤ a3 ∧ a3 ≤ (3 : Int)) → Q (-1) h)))))))))) : XI mX9_would 0 [some (vR 65), some (vI a1), some (vI a2), some (vI a3), none, none] [] w h Q := by
  refine s_aload_n (pc' := 1) (x := 65) dX9_would_0 rfl rfl ?_
  refine s_iload_n (pc' := 2) (x := a1) dX9_would_1 rfl rfl ?_
  obtain ⟨z1, z2, V⟩ := V
  refine s_callV (pc' := 5) (av := [vI a1]) (a := 65) (sk := []) (kc := 9) dX9_would_2 ml_9_187 okX9_isKind oiX9_isKind (by decide) (NF := 39) rfl (fa_t65 sA) rfl (Nat.le_of_ble_eq_true rfl) (Nat.le_refl 0) (Nat.le_refl 0) rfl (CI.eon (c_X9_isKind sA z1 z2) ?_)
  obtain ⟨V17, V18⟩ := V
  refine s_ifeq_b (pc' := 8) (tgt := 27) dX9_would_5 rfl rfl (fun c => ?_) (fun c => ?_)
  · have V := V17 c
    refine s_iconst (pc' := 28) dX9_would_27 rfl ?_
    exact s_iret dX9_would_28 rfl ⟨_, rfl, rfl, V⟩
  · have V := V18 c
    refine s_iload_n (pc' := 9) (x := a2) dX9_would_8 rfl rfl ?_
    refine s_iconst (pc' := 10) dX9_would_9 rfl ?_
    refine s_bipush (pc' := 12) dX9_would_10 (by decide) rfl ?_
    obtain ⟨z3, V⟩ := V
    refine s_callS (pc' := 15) (av := [vI a2, vI 0, vI 99]) (sk := []) dX9_would_12 ml_9_77 okX9_isIn osX9_isIn (by decide) rfl (Nat.le_of_ble_eq_true rfl) (Nat.le_refl 0) (Nat.le_refl 0) rfl (CI.eon (c_X9_isIn sA z3 (by decide) (by decide)) ?_)
    obtain ⟨V15, V16⟩ := V
    refine s_ifeq_b (pc' := 18) (tgt := 27) dX9_would_15 rfl rfl (fun c => ?_) (fun c => ?_)
    · have V := V15 c
      refine s_iconst (pc' := 28) dX9_would_27 rfl ?_
      exact s_iret dX9_would_28 rfl ⟨_, rfl, rfl, V⟩
    · have V := V16 c
      refine s_iload_n (pc' := 19) (x := a3) dX9_would_18 rfl rfl ?_
      refine s_iconst (pc' := 20) dX9_would_19 rfl ?_
      refine s_iconst (pc' := 21) dX9_would_20 rfl ?_
      obtain ⟨z4, V⟩ := V
      refine s_callS (pc' := 24) (av := [vI a3, vI 0, vI 3]) (sk := []) dX9_would_21 ml_9_77 okX9_isIn osX9_isIn (by decide) rfl (Nat.le_of_ble_eq_true rfl) (Nat.le_refl 0) (Nat.le_refl 0) rfl (CI.eon (c_X9_isIn sA z4 (by decide) (by decide)) ?_)
      obtain ⟨V13, V14⟩ := V
      refine s_ifne_b (pc' := 27) (tgt := 29) dX9_would_24 rfl rfl (fun c => ?_) (fun c => ?_)
      · have V := V13 c
        refine s_aload_n (pc' := 30) (x := 65) dX9_would_29 rfl rfl ?_
        refine s_getF (pc' := 33) (b := 66) (kc := 9) (i := 0) dX9_would_30 clX9 (by decide) fl_9_0 (fa_t65 sA) (fa_f9_0 sA) (fun _ => rfl) rfl ?_
        refine s_bipush (pc' := 35) dX9_would_33 (by decide) rfl ?_
        refine s_iload_n (pc' := 36) (x := a1) dX9_would_35 rfl rfl ?_
        refine s_iadd (pc' := 37) dX9_would_36 rfl ?_
        obtain ⟨z5, z6, V⟩ := V
        refine s_iald (pc' := 38) dX9_would_37 (fa_t66 sA) z5 (fa_lt66 sA z6) rfl ?_
        refine s_istore (pc' := 40) (ls' := [some (vR 65), some (vI a1), some (vI a2), some (vI a3), some (vI (h 66 (8 + a1))), none]) dX9_would_38 (by decide) rfl rfl ?_
        refine s_aload_n (pc' := 41) (x := 65) dX9_would_40 rfl rfl ?_
        refine s_getF (pc' := 44) (b := 66) (kc := 9) (i := 0) dX9_would_41 clX9 (by decide) fl_9_0 (fa_t65 sA) (fa_f9_0 sA) (fun _ => rfl) rfl ?_
        refine s_bipush (pc' := 46) dX9_would_44 (by decide) rfl ?_
        refine s_iload_n (pc' := 47) (x := a1) dX9_would_46 rfl rfl ?_
        refine s_iadd (pc' := 48) dX9_would_47 rfl ?_
        refine s_iload_n (pc' := 49) (x := a2) dX9_would_48 rfl rfl ?_
        refine s_iast (pc' := 50) dX9_would_49 (fa_t66 sA) z5 (fa_lt66 sA z6) rfl ?_
        obtain ⟨h7, e8⟩ : ∃ q, q = st h 66 (8 + a1) a2 := ⟨_, rfl⟩
        rw [← e8]
        have V := V h7 e8
        refine s_aload_n (pc' := 51) (x := 65) dX9_would_50 rfl rfl ?_
        refine s_iload_n (pc' := 52) (x := a3) dX9_would_51 rfl rfl ?_
        refine s_callV (pc' := 55) (av := [vI a3]) (a := 65) (sk := []) (kc := 9) dX9_would_52 ml_9_251 okX9_wouldBe oiX9_wouldBe (by decide) (NF := 39) rfl (fa_t65 sA) rfl (Nat.le_of_ble_eq_true rfl) (Nat.le_refl 0) (Nat.le_refl 0) rfl (CI.on V (fun x10 h9 V => ?_))
        refine s_istore (pc' := 57) (ls' := [some (vR 65), some (vI a1), some (vI a2), some (vI a3), some (vI (h 66 (8 + a1))), some (vI x10)]) dX9_would_55 (by decide) rfl rfl ?_
        refine s_aload_n (pc' := 58) (x := 65) dX9_would_57 rfl rfl ?_
        refine s_getF (pc' := 61) (b := 66) (kc := 9) (i := 0) dX9_would_58 clX9 (by decide) fl_9_0 (fa_t65 sA) (fa_f9_0 sA) (fun _ => rfl) rfl ?_
        refine s_bipush (pc' := 63) dX9_would_61 (by decide) rfl ?_
        refine s_iload_n (pc' := 64) (x := a1) dX9_would_63 rfl rfl ?_
        refine s_iadd (pc' := 65) dX9_would_64 rfl ?_
        refine s_iload (pc' := 67) (x := (h 66 (8 + a1))) dX9_would_65 rfl rfl ?_
        refine s_iast (pc' := 68) dX9_would_67 (fa_t66 sA) z5 (fa_lt66 sA z6) rfl ?_
        obtain ⟨h11, e12⟩ : ∃ q, q = st h9 66 (8 + a1) (h 66 (8 + a1)) := ⟨_, rfl⟩
        rw [← e12]
        have V := V h11 e12
        refine s_iload (pc' := 70) (x := x10) dX9_would_68 rfl rfl ?_
        exact s_iret dX9_would_70 rfl ⟨_, rfl, rfl, V⟩
      · have V := V14 c
        refine s_iconst (pc' := 28) dX9_would_27 rfl ?_
        exact s_iret dX9_would_28 rfl ⟨_, rfl, rfl, V⟩
theorem e_X9_enough {w : WS} {h : AH} {Q : Int → AH → Prop} {a1 a2 : Int} (X : XI mX9_enough 0 [some (vR 65), some (vI a1), some (vI a2), none] [] w h Q) : CI mX9_enough [vR 65, vI a1, vI a2] w h Q := CA.of (M := mX9_enough) (by decide) rfl (Nat.le_of_ble_eq_true rfl) X
set_option maxRecDepth 20000 in
theorem r_X9_enough_0 {w : WS} {h : AH} {Q : Int → AH → Prop} {a1 a2 : Int} (sA : shA w) (V : (inR a1 ∧ (0 ≤ h 66 96 ∧ h 66 96 ≤ 8) ∧ (((0 ≤ a1 ∧ a1 < h 66 96) → XI mX9_enough 12 [some (vR 65), some (vI a1), some (vI a2), some (vI 0)] [] w h Q) ∧ (¬ (0 ≤ a1 ∧ a1 < h 66 96) → Q (-1) h)))) : XI mX9_enough 0 [some (vR 65), some (vI a1), some (vI a2), none] [] w h Q := by
  refine s_aload_n (pc' := 1) (x := 65) dX9_enough_0 rfl rfl ?_
  refine s_iload_n (pc' := 2) (x := a1) dX9_enough_1 rfl rfl ?_
  obtain ⟨z1, z2, V⟩ := V
  refine s_callV (pc' := 5) (av := [vI a1]) (a := 65) (sk := []) (kc := 9) dX9_enough_2 ml_9_187 okX9_isKind oiX9_isKind (by decide) (NF := 39) rfl (fa_t65 sA) rfl (Nat.le_of_ble_eq_true rfl) (Nat.le_refl 0) (Nat.le_refl 0) rfl (CI.eon (c_X9_isKind sA z1 z2) ?_)
  obtain ⟨V3, V4⟩ := V
  refine s_ifne_b (pc' := 8) (tgt := 10) dX9_enough_5 rfl rfl (fun c => ?_) (fun c => ?_)
  · have V := V3 c
    refine s_iconst (pc' := 11) dX9_enough_10 rfl ?_
    refine s_istore_n (pc' := 12) (ls' := [some (vR 65), some (vI a1), some (vI a2), some (vI 0)]) dX9_enough_11 (by decide) rfl rfl ?_
    exact V
  · have V := V4 c
    refine s_iconst (pc' := 9) dX9_enough_8 rfl ?_
    exact s_iret dX9_enough_9 rfl ⟨_, rfl, rfl, V⟩
set_option maxRecDepth 20000 in
theorem r_X9_enough_12 {w : WS} {h : AH} {Q : Int → AH → Prop} {a1 a2 a3 : Int} (sA : shA w) (V : (inR a3 ∧ ((99 < a3 → Q (-1) h) ∧ (¬ 99 < a3 → CI mX9_would [vR 65, vI a1, vI a3, vI 0] w h (fun x3 h2 => (inR x3 ∧ inR a2 ∧ ((a2 < x3 → XI mX9_enough 12 [some (vR 65), some (vI a1), some (vI a2), some (vI (a3 + 1))] [] w h2 Q) ∧ (¬ a2 < x3 → Q a3 h2)))))))) : XI mX9_enough 12 [some (vR 65), some (vI a1), some (vI a2), some (vI a3)] [] w h Q := by
  refine s_iload_n (pc' := 13) (x := a3) dX9_enough_12 rfl rfl ?_
  refine s_bipush (pc' := 15) dX9_enough_13 (by decide) rfl ?_
  obtain ⟨z1, V⟩ := V
  obtain ⟨V8, V9⟩ := V
  refine s_icmp_gt (pc' := 18) (tgt := 37) dX9_enough_15 rfl rfl z1 (by decide) (fun c => ?_) (fun c => ?_)
  · have V := V8 c
    refine s_iconst (pc' := 38) dX9_enough_37 rfl ?_
    exact s_iret dX9_enough_38 rfl ⟨_, rfl, rfl, V⟩
  · have V := V9 c
    refine s_aload_n (pc' := 19) (x := 65) dX9_enough_18 rfl rfl ?_
    refine s_iload_n (pc' := 20) (x := a1) dX9_enough_19 rfl rfl ?_
    refine s_iload_n (pc' := 21) (x := a3) dX9_enough_20 rfl rfl ?_
    refine s_iconst (pc' := 22) dX9_enough_21 rfl ?_
    refine s_callV (pc' := 25) (av := [vI a1, vI a3, vI 0]) (a := 65) (sk := []) (kc := 9) dX9_enough_22 ml_9_254 okX9_would oiX9_would (by decide) (NF := 39) rfl (fa_t65 sA) rfl (Nat.le_of_ble_eq_true rfl) (Nat.le_refl 0) (Nat.le_refl 0) rfl (CI.on V (fun x3 h2 V => ?_))
    refine s_iload_n (pc' := 26) (x := a2) dX9_enough_25 rfl rfl ?_
    obtain ⟨z4, z5, V⟩ := V
    obtain ⟨V6, V7⟩ := V
    refine s_icmp_gt (pc' := 29) (tgt := 31) dX9_enough_26 rfl rfl z4 z5 (fun c => ?_) (fun c => ?_)
    · have V := V6 c
      refine s_iinc (pc' := 34) (ls' := [some (vR 65), some (vI a1), some (vI a2), some (vI (a3 + 1))]) dX9_enough_31 rfl (by decide) rfl rfl ?_
      refine s_goto (tgt := 12) dX9_enough_34 rfl ?_
      exact V
    · have V := V7 c
      refine s_iload_n (pc' := 30) (x := a3) dX9_enough_29 rfl rfl ?_
      exact s_iret dX9_enough_30 rfl ⟨_, rfl, rfl, V⟩
