/-! ===== the reference ===== -/
theorem e_X9_isIn {w : WS} {h : AH} {Q : Int → AH → Prop} {a0 a1 a2 : Int} (X : XI mX9_isIn 0 [some (vI a0), some (vI a1), some (vI a2)] [] w h Q) : CI mX9_isIn [vI a0, vI a1, vI a2] w h Q := CA.of (M := mX9_isIn) (by decide) rfl (Nat.le_of_ble_eq_true rfl) X
set_option maxRecDepth 20000 in
theorem r_X9_isIn_0 {w : WS} {h : AH} {Q : Int → AH → Prop} {a0 a1 a2 : Int} (sA : shA w) (V : (inR a0 ∧ inR a1 ∧ ((a0 < a1 → Q 0 h) ∧ (¬ a0 < a1 → (inR a2 ∧ ((a2 < a0 → Q 0 h) ∧ (¬ a2 < a0 → Q 1 h))))))) : XI mX9_isIn 0 [some (vI a0), some (vI a1), some (vI a2)] [] w h Q := by
  refine s_iload_n (pc' := 1) (x := a0) dX9_isIn_0 rfl rfl ?_
  refine s_iload_n (pc' := 2) (x := a1) dX9_isIn_1 rfl rfl ?_
  obtain ⟨z1, z2, V⟩ := V
  obtain ⟨V6, V7⟩ := V
  refine s_icmp_lt (pc' := 5) (tgt := 14) dX9_isIn_2 rfl rfl z1 z2 (fun c => ?_) (fun c => ?_)
  · have V := V6 c
    refine s_iconst (pc' := 15) dX9_isIn_14 rfl ?_
    exact s_zret dX9_isIn_15 rfl (by decide) ⟨_, rfl, rfl, V⟩
  · have V := V7 c
    refine s_iload_n (pc' := 6) (x := a0) dX9_isIn_5 rfl rfl ?_
    refine s_iload_n (pc' := 7) (x := a2) dX9_isIn_6 rfl rfl ?_
    obtain ⟨z3, V⟩ := V
    obtain ⟨V4, V5⟩ := V
    refine s_icmp_gt (pc' := 10) (tgt := 14) dX9_isIn_7 rfl rfl z1 z3 (fun c => ?_) (fun c => ?_)
    · have V := V4 c
      refine s_iconst (pc' := 15) dX9_isIn_14 rfl ?_
      exact s_zret dX9_isIn_15 rfl (by decide) ⟨_, rfl, rfl, V⟩
    · have V := V5 c
      refine s_iconst (pc' := 11) dX9_isIn_10 rfl ?_
      refine s_goto (tgt := 15) dX9_isIn_11 rfl ?_
      exact s_zret dX9_isIn_15 rfl (by decide) ⟨_, rfl, rfl, V⟩
theorem e_X9_kinds {w : WS} {h : AH} {Q : Int → AH → Prop} (X : XI mX9_kinds 0 [some (vR 65)] [] w h Q) : CI mX9_kinds [vR 65] w h Q := CA.of (M := mX9_kinds) (by decide) rfl (Nat.le_of_ble_eq_true rfl) X
set_option maxRecDepth 20000 in
theorem r_X9_kinds_0 {w : WS} {h : AH} {Q : Int → AH → Prop} (sA : shA w) (V : Q (h 66 96) h) : XI mX9_kinds 0 [some (vR 65)] [] w h Q := by
  refine s_aload_n (pc' := 1) (x := 65) dX9_kinds_0 rfl rfl ?_
  refine s_getF (pc' := 4) (b := 66) (kc := 9) (i := 0) dX9_kinds_1 clX9 (by decide) fl_9_0 (fa_t65 sA) (fa_f9_0 sA) (fun _ => rfl) rfl ?_
  refine s_bipush (pc' := 6) dX9_kinds_4 (by decide) rfl ?_
  refine s_iald (pc' := 7) dX9_kinds_6 (fa_t66 sA) (by decide) (fa_lt66 sA (by decide)) rfl ?_
  exact s_iret dX9_kinds_7 rfl ⟨_, rfl, rfl, V⟩
theorem e_X9_timers {w : WS} {h : AH} {Q : Int → AH → Prop} (X : XI mX9_timers 0 [some (vR 65)] [] w h Q) : CI mX9_timers [vR 65] w h Q := CA.of (M := mX9_timers) (by decide) rfl (Nat.le_of_ble_eq_true rfl) X
set_option maxRecDepth 20000 in
theorem r_X9_timers_0 {w : WS} {h : AH} {Q : Int → AH → Prop} (sA : shA w) (V : Q (h 66 97) h) : XI mX9_timers 0 [some (vR 65)] [] w h Q := by
  refine s_aload_n (pc' := 1) (x := 65) dX9_timers_0 rfl rfl ?_
  refine s_getF (pc' := 4) (b := 66) (kc := 9) (i := 0) dX9_timers_1 clX9 (by decide) fl_9_0 (fa_t65 sA) (fa_f9_0 sA) (fun _ => rfl) rfl ?_
  refine s_bipush (pc' := 6) dX9_timers_4 (by decide) rfl ?_
  refine s_iald (pc' := 7) dX9_timers_6 (fa_t66 sA) (by decide) (fa_lt66 sA (by decide)) rfl ?_
  exact s_iret dX9_timers_7 rfl ⟨_, rfl, rfl, V⟩
theorem e_X9_nearest {w : WS} {h : AH} {Q : Int → AH → Prop} {a1 a2 : Int} (X : XI mX9_nearest 0 [some (vR 65), some (vI a1), some (vI a2), none] [] w h Q) : CI mX9_nearest [vR 65, vI a1, vI a2] w h Q := CA.of (M := mX9_nearest) (by decide) rfl (Nat.le_of_ble_eq_true rfl) X
set_option maxRecDepth 20000 in
theorem r_X9_nearest_0 {w : WS} {h : AH} {Q : Int → AH → Prop} {a1 a2 : Int} (sA : shA w) (V : XI mX9_nearest 2 [some (vR 65), none, some (vI a2), some (vI a1)] [] w h Q) : XI mX9_nearest 0 [some (vR 65), some (vI a1), some (vI a2), none] [] w h Q := by
  refine s_iload_n (pc' := 1) (x := a1) dX9_nearest_0 rfl rfl ?_
  refine s_istore_n (pc' := 2) (ls' := [some (vR 65), some (vI a1), some (vI a2), some (vI a1)]) dX9_nearest_1 (by decide) rfl rfl ?_
  refine s_drop 1 (ls' := [some (vR 65), none, some (vI a2), some (vI a1)]) rfl ?_
  exact V
set_option maxRecDepth 20000 in
theorem r_X9_nearest_2 {w : WS} {h : AH} {Q : Int → AH → Prop} {a2 a3 : Int} (sA : shA w) (V : (inR a3 ∧ ((a3 = (-1) → Q a3 h) ∧ (¬ a3 = (-1) → (0 ≤ (a2 + a3) ∧ (a2 + a3) < 202 ∧ (inR (h 66 (a2 + a3)) ∧ ((¬ (h 66 (a2 + a3)) = (-1) → Q a3 h) ∧ ((h 66 (a2 + a3)) = (-1) → (0 ≤ (0 + a3) ∧ (0 + a3) < 202 ∧ XI mX9_nearest 2 [some (vR 65), none, some (vI a2), some (vI (h 66 (0 + a3)))] [] w h Q))))))))) : XI mX9_nearest 2 [some (vR 65), none, some (vI a2), some (vI a3)] [] w h Q := by
  refine s_iload_n (pc' := 3) (x := a3) dX9_nearest_2 rfl rfl ?_
  refine s_iconst (pc' := 4) dX9_nearest_3 rfl ?_
  obtain ⟨z1, V⟩ := V
  obtain ⟨V9, V10⟩ := V
  refine s_icmp_eq (pc' := 7) (tgt := 31) dX9_nearest_4 rfl rfl z1 (by decide) (fun c => ?_) (fun c => ?_)
  · have V := V9 c
    refine s_iload_n (pc' := 32) (x := a3) dX9_nearest_31 rfl rfl ?_
    exact s_iret dX9_nearest_32 rfl ⟨_, rfl, rfl, V⟩
  · have V := V10 c
    refine s_aload_n (pc' := 8) (x := 65) dX9_nearest_7 rfl rfl ?_
    refine s_getF (pc' := 11) (b := 66) (kc := 9) (i := 0) dX9_nearest_8 clX9 (by decide) fl_9_0 (fa_t65 sA) (fa_f9_0 sA) (fun _ => rfl) rfl ?_
    refine s_iload_n (pc' := 12) (x := a2) dX9_nearest_11 rfl rfl ?_
    refine s_iload_n (pc' := 13) (x := a3) dX9_nearest_12 rfl rfl ?_
    refine s_iadd (pc' := 14) dX9_nearest_13 rfl ?_
    obtain ⟨z2, z3, V⟩ := V
    refine s_iald (pc' := 15) dX9_nearest_14 (fa_t66 sA) z2 (fa_lt66 sA z3) rfl ?_
    refine s_iconst (pc' := 16) dX9_nearest_15 rfl ?_
    obtain ⟨z4, V⟩ := V
    obtain ⟨V7, V8⟩ := V
    refine s_icmp_ne (pc' := 19) (tgt := 31) dX9_nearest_16 rfl rfl z4 (by decide) (fun c => ?_) (fun c => ?_)
    · have V := V7 c
      refine s_iload_n (pc' := 32) (x := a3) dX9_nearest_31 rfl rfl ?_
      exact s_iret dX9_nearest_32 rfl ⟨_, rfl, rfl, V⟩
    · have V := V8 c
      refine s_aload_n (pc' := 20) (x := 65) dX9_nearest_19 rfl rfl ?_
      refine s_getF (pc' := 23) (b := 66) (kc := 9) (i := 0) dX9_nearest_20 clX9 (by decide) fl_9_0 (fa_t65 sA) (fa_f9_0 sA) (fun _ => rfl) rfl ?_
      refine s_iconst (pc' := 24) dX9_nearest_23 rfl ?_
      refine s_iload_n (pc' := 25) (x := a3) dX9_nearest_24 rfl rfl ?_
      refine s_iadd (pc' := 26) dX9_nearest_25 rfl ?_
      obtain ⟨z5, z6, V⟩ := V
      refine s_iald (pc' := 27) dX9_nearest_26 (fa_t66 sA) z5 (fa_lt66 sA z6) rfl ?_
      refine s_istore_n (pc' := 28) (ls' := [some (vR 65), none, some (vI a2), some (vI (h 66 (0 + a3)))]) dX9_nearest_27 (by decide) rfl rfl ?_
      refine s_goto (tgt := 2) dX9_nearest_28 rfl ?_
      exact V
theorem e_X9_calls {w : WS} {h : AH} {Q : Int → AH → Prop} {a1 a2 : Int} (X : XI mX9_calls 0 [some (vR 65), some (vI a1), some (vI a2), none, none] [] w h Q) : CI mX9_calls [vR 65, vI a1, vI a2] w h Q := CA.of (M := mX9_calls) (by decide) rfl (Nat.le_of_ble_eq_true rfl) X
set_option maxRecDepth 20000 in
theorem r_X9_calls_0 {w : WS} {h : AH} {Q : Int → AH → Prop} {a1 a2 : Int} (sA : shA w) (V : (0 ≤ (48 + a1) ∧ (48 + a1) < 202 ∧ (0 ≤ (72 + a1) ∧ (72 + a1) < 202 ∧ (inR (h 66 (48 + a1)) ∧ ((¬ (h 66 (48 + a1)) = 0 → (inR (a2 - (h 66 (72 + a1))) ∧ (((a2 - (h 66 (72 + a1))) < 0 → Q 0 h) ∧ (¬ (a2 - (h 66 (72 + a1))) < 0 → ((0 ≤ (a2 - (h 66 (72 + a1))) ∧ (a2 - (h 66 (72 + a1))) ≤ 2147483647) ∧ (0 < (h 66 (48 + a1)) ∧ (h 66 (48 + a1)) ≤ 2147483647) ∧ (inR ((a2 - (h 66 (72 + a1))) % (h 66 (48 + a1))) ∧ ((¬ ((a2 - (h 66 (72 + a1))) % (h 66 (48 + a1))) = 0 → Q 0 h) ∧ (((a2 - (h 66 (72 + a1))) % (h 66 (48 + a1))) = 0 → Q 1 h)))))))) ∧ ((h 66 (48 + a1)) = 0 → (inR (a2 - (h 66 (72 + a1))) ∧ ((¬ (a2 - (h 66 (72 + a1))) = 0 → Q 0 h) ∧ ((a2 - (h 66 (72 + a1))) = 0 → Q 1 h))))))))) : XI mX9_calls 0 [some (vR 65), some (vI a1), some (vI a2), none, none] [] w h Q := by
  refine s_aload_n (pc' := 1) (x := 65) dX9_calls_0 rfl rfl ?_
  refine s_getF (pc' := 4) (b := 66) (kc := 9) (i := 0) dX9_calls_1 clX9 (by decide) fl_9_0 (fa_t65 sA) (fa_f9_0 sA) (fun _ => rfl) rfl ?_
  refine s_bipush (pc' := 6) dX9_calls_4 (by decide) rfl ?_
  refine s_iload_n (pc' := 7) (x := a1) dX9_calls_6 rfl rfl ?_
  refine s_iadd (pc' := 8) dX9_calls_7 rfl ?_
  obtain ⟨z1, z2, V⟩ := V
  refine s_iald (pc' := 9) dX9_calls_8 (fa_t66 sA) z1 (fa_lt66 sA z2) rfl ?_
  refine s_istore_n (pc' := 10) (ls' := [some (vR 65), some (vI a1), some (vI a2), some (vI (h 66 (48 + a1))), none]) dX9_calls_9 (by decide) rfl rfl ?_
  refine s_iload_n (pc' := 11) (x := a2) dX9_calls_10 rfl rfl ?_
  refine s_aload_n (pc' := 12) (x := 65) dX9_calls_11 rfl rfl ?_
  refine s_getF (pc' := 15) (b := 66) (kc := 9) (i := 0) dX9_calls_12 clX9 (by decide) fl_9_0 (fa_t65 sA) (fa_f9_0 sA) (fun _ => rfl) rfl ?_
  refine s_bipush (pc' := 17) dX9_calls_15 (by decide) rfl ?_
  refine s_iload_n (pc' := 18) (x := a1) dX9_calls_17 rfl rfl ?_
  refine s_iadd (pc' := 19) dX9_calls_18 rfl ?_
  obtain ⟨z3, z4, V⟩ := V
  refine s_iald (pc' := 20) dX9_calls_19 (fa_t66 sA) z3 (fa_lt66 sA z4) rfl ?_
  refine s_isub (pc' := 21) dX9_calls_20 rfl ?_
  refine s_istore (pc' := 23) (ls' := [some (vR 65), some (vI a1), some (vI a2), some (vI (h 66 (48 + a1))), some (vI (a2 - (h 66 (72 + a1))))]) dX9_calls_21 (by decide) rfl rfl ?_
  refine s_iload_n (pc' := 24) (x := (h 66 (48 + a1))) dX9_calls_23 rfl rfl ?_
  obtain ⟨z5, V⟩ := V
  obtain ⟨V17, V18⟩ := V
  refine s_if_ne (pc' := 27) (tgt := 40) dX9_calls_24 rfl rfl z5 (fun c => ?_) (fun c => ?_)
  · have V := V17 c
    refine s_iload (pc' := 42) (x := (a2 - (h 66 (72 + a1)))) dX9_calls_40 rfl rfl ?_
    obtain ⟨z6, V⟩ := V
    obtain ⟨V12, V13⟩ := V
    refine s_if_lt (pc' := 45) (tgt := 56) dX9_calls_42 rfl rfl z6 (fun c => ?_) (fun c => ?_)
    · have V := V12 c
      refine s_iconst (pc' := 57) dX9_calls_56 rfl ?_
      exact s_zret dX9_calls_57 rfl (by decide) ⟨_, rfl, rfl, V⟩
    · have V := V13 c
      refine s_iload (pc' := 47) (x := (a2 - (h 66 (72 + a1)))) dX9_calls_45 rfl rfl ?_
      refine s_iload_n (pc' := 48) (x := (h 66 (48 + a1))) dX9_calls_47 rfl rfl ?_
      obtain ⟨z7, z8, V⟩ := V
      refine s_irem (pc' := 49) dX9_calls_48 z7 z8 rfl ?_
      obtain ⟨z9, V⟩ := V
      obtain ⟨V10, V11⟩ := V
      refine s_if_ne (pc' := 52) (tgt := 56) dX9_calls_49 rfl rfl z9 (fun c => ?_) (fun c => ?_)
      · have V := V10 c
        refine s_iconst (pc' := 57) dX9_calls_56 rfl ?_
        exact s_zret dX9_calls_57 rfl (by decide) ⟨_, rfl, rfl, V⟩
      · have V := V11 c
        refine s_iconst (pc' := 53) dX9_calls_52 rfl ?_
        refine s_goto (tgt := 57) dX9_calls_53 rfl ?_
        exact s_zret dX9_calls_57 rfl (by decide) ⟨_, rfl, rfl, V⟩
  · have V := V18 c
    refine s_iload (pc' := 29) (x := (a2 - (h 66 (72 + a1)))) dX9_calls_27 rfl rfl ?_
    obtain ⟨z14, V⟩ := V
    obtain ⟨V15, V16⟩ := V
    refine s_if_ne (pc' := 32) (tgt := 36) dX9_calls_29 rfl rfl z14 (fun c => ?_) (fun c => ?_)
    · have V := V15 c
      refine s_iconst (pc' := 37) dX9_calls_36 rfl ?_
      refine s_goto (tgt := 57) dX9_calls_37 rfl ?_
      exact s_zret dX9_calls_57 rfl (by decide) ⟨_, rfl, rfl, V⟩
    · have V := V16 c
      refine s_iconst (pc' := 33) dX9_calls_32 rfl ?_
      refine s_goto (tgt := 57) dX9_calls_33 rfl ?_
      exact s_zret dX9_calls_57 rfl (by decide) ⟨_, rfl, rfl, V⟩
theorem e_X9_cut {w : WS} {h : AH} {Q : Int → AH → Prop} {a1 : Int} (X : XI mX9_cut 0 [some (vR 65), some (vI a1)] [] w h Q) : CI mX9_cut [vR 65, vI a1] w h Q := CA.of (M := mX9_cut) (by decide) rfl (Nat.le_of_ble_eq_true rfl) X
set_option maxRecDepth 20000 in
theorem r_X9_cut_0 {w : WS} {h : AH} {Q : Int → AH → Prop} {a1 : Int} (sA : shA w) (V : (inR a1 ∧ inR (h 66 98) ∧ (((h 66 98) ≤ a1 → Q (h 66 98) h) ∧ (¬ (h 66 98) ≤ a1 → Q a1 h)))) : XI mX9_cut 0 [some (vR 65), some (vI a1)] [] w h Q := by
  refine s_iload_n (pc' := 1) (x := a1) dX9_cut_0 rfl rfl ?_
  refine s_aload_n (pc' := 2) (x := 65) dX9_cut_1 rfl rfl ?_
  refine s_getF (pc' := 5) (b := 66) (kc := 9) (i := 0) dX9_cut_2 clX9 (by decide) fl_9_0 (fa_t65 sA) (fa_f9_0 sA) (fun _ => rfl) rfl ?_
  refine s_bipush (pc' := 7) dX9_cut_5 (by decide) rfl ?_
  refine s_iald (pc' := 8) dX9_cut_7 (fa_t66 sA) (by decide) (fa_lt66 sA (by decide)) rfl ?_
  obtain ⟨z1, z2, V⟩ := V
  obtain ⟨V3, V4⟩ := V
  refine s_icmp_ge (pc' := 11) (tgt := 15) dX9_cut_8 rfl rfl z1 z2 (fun c => ?_) (fun c => ?_)
  · have V := V3 c
    refine s_aload_n (pc' := 16) (x := 65) dX9_cut_15 rfl rfl ?_
    refine s_getF (pc' := 19) (b := 66) (kc := 9) (i := 0) dX9_cut_16 clX9 (by decide) fl_9_0 (fa_t65 sA) (fa_f9_0 sA) (fun _ => rfl) rfl ?_
    refine s_bipush (pc' := 21) dX9_cut_19 (by decide) rfl ?_
    refine s_iald (pc' := 22) dX9_cut_21 (fa_t66 sA) (by decide) (fa_lt66 sA (by decide)) rfl ?_
    exact s_iret dX9_cut_22 rfl ⟨_, rfl, rfl, V⟩
  · have V := V4 c
    refine s_iload_n (pc' := 12) (x := a1) dX9_cut_11 rfl rfl ?_
    refine s_goto (tgt := 22) dX9_cut_12 rfl ?_
    exact s_iret dX9_cut_22 rfl ⟨_, rfl, rfl, V⟩
theorem e_X9_wakesAt {w : WS} {h : AH} {Q : AH → Prop} {a1 : Int} (X : XV mX9_wakesAt 0 [some (vR 65), some (vI a1)] [] w h Q) : CV mX9_wakesAt [vR 65, vI a1] w h Q := CA.of (M := mX9_wakesAt) (by decide) rfl (Nat.le_of_ble_eq_true rfl) X
set_option maxRecDepth 20000 in
theorem r_X9_wakesAt_0 {w : WS} {h : AH} {Q : AH → Prop} {a1 : Int} (sA : shA w) (V : (0 ≤ (h 65 12) ∧ (h 65 12) < 302 ∧ (∀ h3, h3 = st h 73 (h 65 12) a1 → (∀ h5, h5 = st h3 65 12 ((h3 65 12) + 1) → Q h5)))) : XV mX9_wakesAt 0 [some (vR 65), some (vI a1)] [] w h Q := by
  refine s_aload_n (pc' := 1) (x := 65) dX9_wakesAt_0 rfl rfl ?_
  refine s_getF (pc' := 4) (b := 73) (kc := 9) (i := 11) dX9_wakesAt_1 clX9 (by decide) fl_9_11 (fa_t65 sA) (fa_f9_11 sA) (fun _ => rfl) rfl ?_
  refine s_aload_n (pc' := 5) (x := 65) dX9_wakesAt_4 rfl rfl ?_
  refine s_get (pc' := 8) (v := vI (h 65 12)) (kc := 9) (i := 12) dX9_wakesAt_5 clX9 (by decide) fl_9_12 (fa_t65 sA) (fun _ => rfl) rfl ?_
  refine s_iload_n (pc' := 9) (x := a1) dX9_wakesAt_8 rfl rfl ?_
  obtain ⟨z1, z2, V⟩ := V
  refine s_iast (pc' := 10) dX9_wakesAt_9 (fa_t73 sA) z1 (fa_lt73 sA z2) rfl ?_
  obtain ⟨h3, e4⟩ : ∃ q, q = st h 73 (h 65 12) a1 := ⟨_, rfl⟩
  rw [← e4]
  have V := V h3 e4
  refine s_aload_n (pc' := 11) (x := 65) dX9_wakesAt_10 rfl rfl ?_
  refine s_dup (pc' := 12) dX9_wakesAt_11 (by intro _ q; cases q) rfl ?_
  refine s_get (pc' := 15) (v := vI (h3 65 12)) (kc := 9) (i := 12) dX9_wakesAt_12 clX9 (by decide) fl_9_12 (fa_t65 sA) (fun _ => rfl) rfl ?_
  refine s_iconst (pc' := 16) dX9_wakesAt_15 rfl ?_
  refine s_iadd (pc' := 17) dX9_wakesAt_16 rfl ?_
  refine s_put (pc' := 20) (v := vI ((h3 65 12) + 1)) (x := ((h3 65 12) + 1)) (kc := 9) (i := 12) dX9_wakesAt_17 clX9 (by decide) fl_9_12 rfl (fa_t65 sA) (fun E => nar_int E _) (fun _ _ => rfl) (j0 := 12) rfl rfl ?_
  obtain ⟨h5, e6⟩ : ∃ q, q = st h3 65 12 ((h3 65 12) + 1) := ⟨_, rfl⟩
  rw [← e6]
  have V := V h5 e6
  exact s_vret dX9_wakesAt_20 rfl ⟨rfl, rfl, V⟩
theorem e_X9_leastBehind {w : WS} {h : AH} {Q : Int → AH → Prop} {a1 : Int} (X : XI mX9_leastBehind 0 [some (vR 65), some (vI a1), none, none] [] w h Q) : CI mX9_leastBehind [vR 65, vI a1] w h Q := CA.of (M := mX9_leastBehind) (by decide) rfl (Nat.le_of_ble_eq_true rfl) X
set_option maxRecDepth 20000 in
theorem r_X9_leastBehind_0 {w : WS} {h : AH} {Q : Int → AH → Prop} {a1 : Int} (sA : shA w) (V : XI mX9_leastBehind 4 [some (vR 65), some (vI a1), some (vI (-1)), some (vI 0)] [] w h Q) : XI mX9_leastBehind 0 [some (vR 65), some (vI a1), none, none] [] w h Q := by
  refine s_iconst (pc' := 1) dX9_leastBehind_0 rfl ?_
  refine s_istore_n (pc' := 2) (ls' := [some (vR 65), some (vI a1), some (vI (-1)), none]) dX9_leastBehind_1 (by decide) rfl rfl ?_
  refine s_iconst (pc' := 3) dX9_leastBehind_2 rfl ?_
  refine s_istore_n (pc' := 4) (ls' := [some (vR 65), some (vI a1), some (vI (-1)), some (vI 0)]) dX9_leastBehind_3 (by decide) rfl rfl ?_
  exact V
set_option maxRecDepth 20000 in
theorem r_X9_leastBehind_4 {w : WS} {h : AH} {Q : Int → AH → Prop} {a1 a2 a3 : Int} (sA : shA w) (V : (inR a3 ∧ inR (h 65 10) ∧ (((h 65 10) ≤ a3 → Q a2 h) ∧ (¬ (h 65 10) ≤ a3 → (0 ≤ a3 ∧ a3 < 300 ∧ (inR (h 69 a3) ∧ inR a1 ∧ (((h 69 a3) ≤ a1 → XI mX9_leastBehind 4 [some (vR 65), some (vI a1), some (vI a2), some (vI (a3 + 1))] [] w h Q) ∧ (¬ (h 69 a3) ≤ a1 → (inR a2 ∧ ((a2 = (-1) → XI mX9_leastBehind 4 [some (vR 65), some (vI a1), some (vI (h 70 a3)), some (vI (a3 + 1))] [] w h Q) ∧ (¬ a2 = (-1) → (inR (h 70 a3) ∧ ((a2 ≤ (h 70 a3) → XI mX9_leastBehind 4 [some (vR 65), some (vI a1), some (vI a2), some (vI (a3 + 1))] [] w h Q) ∧ (¬ a2 ≤ (h 70 a3) → XI mX9_leastBehind 4 [some (vR 65), some (vI a1), some (vI (h 70 a3)), some (vI (a3 + 1))] [] w h Q)))))))))))))) : XI mX9_leastBehind 4 [some (vR 65), some (vI a1), some (vI a2), some (vI a3)] [] w h Q := by
  refine s_iload_n (pc' := 5) (x := a3) dX9_leastBehind_4 rfl rfl ?_
  refine s_aload_n (pc' := 6) (x := 65) dX9_leastBehind_5 rfl rfl ?_
  refine s_get (pc' := 9) (v := vI (h 65 10)) (kc := 9) (i := 10) dX9_leastBehind_6 clX9 (by decide) fl_9_10 (fa_t65 sA) (fun _ => rfl) rfl ?_
  obtain ⟨z1, z2, V⟩ := V
  obtain ⟨V15, V16⟩ := V
  refine s_icmp_ge (pc' := 12) (tgt := 50) dX9_leastBehind_9 rfl rfl z1 z2 (fun c => ?_) (fun c => ?_)
  · have V := V15 c
    refine s_iload_n (pc' := 51) (x := a2) dX9_leastBehind_50 rfl rfl ?_
    exact s_iret dX9_leastBehind_51 rfl ⟨_, rfl, rfl, V⟩
  · have V := V16 c
    refine s_aload_n (pc' := 13) (x := 65) dX9_leastBehind_12 rfl rfl ?_
    refine s_getF (pc' := 16) (b := 69) (kc := 9) (i := 6) dX9_leastBehind_13 clX9 (by decide) fl_9_6 (fa_t65 sA) (fa_f9_6 sA) (fun _ => rfl) rfl ?_
    refine s_iload_n (pc' := 17) (x := a3) dX9_leastBehind_16 rfl rfl ?_
    obtain ⟨z3, z4, V⟩ := V
    refine s_iald (pc' := 18) dX9_leastBehind_17 (fa_t69 sA) z3 (fa_lt69 sA z4) rfl ?_
    refine s_iload_n (pc' := 19) (x := a1) dX9_leastBehind_18 rfl rfl ?_
    obtain ⟨z5, z6, V⟩ := V
    obtain ⟨V13, V14⟩ := V
    refine s_icmp_le (pc' := 22) (tgt := 44) dX9_leastBehind_19 rfl rfl z5 z6 (fun c => ?_) (fun c => ?_)
    · have V := V13 c
      refine s_iinc (pc' := 47) (ls' := [some (vR 65), some (vI a1), some (vI a2), some (vI (a3 + 1))]) dX9_leastBehind_44 rfl (by decide) rfl rfl ?_
      refine s_goto (tgt := 4) dX9_leastBehind_47 rfl ?_
      exact V
    · have V := V14 c
      refine s_iload_n (pc' := 23) (x := a2) dX9_leastBehind_22 rfl rfl ?_
      refine s_iconst (pc' := 24) dX9_leastBehind_23 rfl ?_
      obtain ⟨z7, V⟩ := V
      obtain ⟨V11, V12⟩ := V
      refine s_icmp_eq (pc' := 27) (tgt := 37) dX9_leastBehind_24 rfl rfl z7 (by decide) (fun c => ?_) (fun c => ?_)
      · have V := V11 c
        refine s_aload_n (pc' := 38) (x := 65) dX9_leastBehind_37 rfl rfl ?_
        refine s_getF (pc' := 41) (b := 70) (kc := 9) (i := 7) dX9_leastBehind_38 clX9 (by decide) fl_9_7 (fa_t65 sA) (fa_f9_7 sA) (fun _ => rfl) rfl ?_
        refine s_iload_n (pc' := 42) (x := a3) dX9_leastBehind_41 rfl rfl ?_
        refine s_iald (pc' := 43) dX9_leastBehind_42 (fa_t70 sA) z3 (fa_lt70 sA z4) rfl ?_
        refine s_istore_n (pc' := 44) (ls' := [some (vR 65), some (vI a1), some (vI (h 70 a3)), some (vI a3)]) dX9_leastBehind_43 (by decide) rfl rfl ?_
        refine s_iinc (pc' := 47) (ls' := [some (vR 65), some (vI a1), some (vI (h 70 a3)), some (vI (a3 + 1))]) dX9_leastBehind_44 rfl (by decide) rfl rfl ?_
        refine s_goto (tgt := 4) dX9_leastBehind_47 rfl ?_
        exact V
      · have V := V12 c
        refine s_aload_n (pc' := 28) (x := 65) dX9_leastBehind_27 rfl rfl ?_
        refine s_getF (pc' := 31) (b := 70) (kc := 9) (i := 7) dX9_leastBehind_28 clX9 (by decide) fl_9_7 (fa_t65 sA) (fa_f9_7 sA) (fun _ => rfl) rfl ?_
        refine s_iload_n (pc' := 32) (x := a3) dX9_leastBehind_31 rfl rfl ?_
        refine s_iald (pc' := 33) dX9_leastBehind_32 (fa_t70 sA) z3 (fa_lt70 sA z4) rfl ?_
        refine s_iload_n (pc' := 34) (x := a2) dX9_leastBehind_33 rfl rfl ?_
        obtain ⟨z8, V⟩ := V
        obtain ⟨V9, V10⟩ := V
        refine s_icmp_ge (pc' := 37) (tgt := 44) dX9_leastBehind_34 rfl rfl z8 z7 (fun c => ?_) (fun c => ?_)
        · have V := V9 c
          refine s_iinc (pc' := 47) (ls' := [some (vR 65), some (vI a1), some (vI a2), some (vI (a3 + 1))]) dX9_leastBehind_44 rfl (by decide) rfl rfl ?_
          refine s_goto (tgt := 4) dX9_leastBehind_47 rfl ?_
          exact V
        · have V := V10 c
          refine s_aload_n (pc' := 38) (x := 65) dX9_leastBehind_37 rfl rfl ?_
          refine s_getF (pc' := 41) (b := 70) (kc := 9) (i := 7) dX9_leastBehind_38 clX9 (by decide) fl_9_7 (fa_t65 sA) (fa_f9_7 sA) (fun _ => rfl) rfl ?_
          refine s_iload_n (pc' := 42) (x := a3) dX9_leastBehind_41 rfl rfl ?_
          refine s_iald (pc' := 43) dX9_leastBehind_42 (fa_t70 sA) z3 (fa_lt70 sA z4) rfl ?_
          refine s_istore_n (pc' := 44) (ls' := [some (vR 65), some (vI a1), some (vI (h 70 a3)), some (vI a3)]) dX9_leastBehind_43 (by decide) rfl rfl ?_
          refine s_iinc (pc' := 47) (ls' := [some (vR 65), some (vI a1), some (vI (h 70 a3)), some (vI (a3 + 1))]) dX9_leastBehind_44 rfl (by decide) rfl rfl ?_
          refine s_goto (tgt := 4) dX9_leastBehind_47 rfl ?_
          exact V
theorem e_X9_stay {w : WS} {h : AH} {Q : Int → AH → Prop} {a1 a2 : Int} (X : XI mX9_stay 0 [some (vR 65), some (vI a1), some (vI a2)] [] w h Q) : CI mX9_stay [vR 65, vI a1, vI a2] w h Q := CA.of (M := mX9_stay) (by decide) rfl (Nat.le_of_ble_eq_true rfl) X
set_option maxRecDepth 20000 in
theorem r_X9_stay_0 {w : WS} {h : AH} {Q : Int → AH → Prop} {a1 a2 : Int} (sA : shA w) (V : (inR a1 ∧ ((a1 = (-1) → Q (h 66 99) h) ∧ (¬ a1 = (-1) → (inR ((h 66 100) * (a2 - a1)) ∧ inR (h 66 99) ∧ ((((h 66 100) * (a2 - a1)) ≤ (h 66 99) → Q ((h 66 100) * (a2 - a1)) h) ∧ (¬ ((h 66 100) * (a2 - a1)) ≤ (h 66 99) → Q (h 66 99) h))))))) : XI mX9_stay 0 [some (vR 65), some (vI a1), some (vI a2)] [] w h Q := by
  refine s_iload_n (pc' := 1) (x := a1) dX9_stay_0 rfl rfl ?_
  refine s_iconst (pc' := 2) dX9_stay_1 rfl ?_
  obtain ⟨z1, V⟩ := V
  obtain ⟨V6, V7⟩ := V
  refine s_icmp_eq (pc' := 5) (tgt := 26) dX9_stay_2 rfl rfl z1 (by decide) (fun c => ?_) (fun c => ?_)
  · have V := V6 c
    refine s_aload_n (pc' := 27) (x := 65) dX9_stay_26 rfl rfl ?_
    refine s_getF (pc' := 30) (b := 66) (kc := 9) (i := 0) dX9_stay_27 clX9 (by decide) fl_9_0 (fa_t65 sA) (fa_f9_0 sA) (fun _ => rfl) rfl ?_
    refine s_bipush (pc' := 32) dX9_stay_30 (by decide) rfl ?_
    refine s_iald (pc' := 33) dX9_stay_32 (fa_t66 sA) (by decide) (fa_lt66 sA (by decide)) rfl ?_
    refine s_goto (tgt := 47) dX9_stay_33 rfl ?_
    exact s_iret dX9_stay_47 rfl ⟨_, rfl, rfl, V⟩
  · have V := V7 c
    refine s_aload_n (pc' := 6) (x := 65) dX9_stay_5 rfl rfl ?_
    refine s_getF (pc' := 9) (b := 66) (kc := 9) (i := 0) dX9_stay_6 clX9 (by decide) fl_9_0 (fa_t65 sA) (fa_f9_0 sA) (fun _ => rfl) rfl ?_
    refine s_bipush (pc' := 11) dX9_stay_9 (by decide) rfl ?_
    refine s_iald (pc' := 12) dX9_stay_11 (fa_t66 sA) (by decide) (fa_lt66 sA (by decide)) rfl ?_
    refine s_iload_n (pc' := 13) (x := a2) dX9_stay_12 rfl rfl ?_
    refine s_iload_n (pc' := 14) (x := a1) dX9_stay_13 rfl rfl ?_
    refine s_isub (pc' := 15) dX9_stay_14 rfl ?_
    refine s_imul (pc' := 16) dX9_stay_15 rfl ?_
    refine s_aload_n (pc' := 17) (x := 65) dX9_stay_16 rfl rfl ?_
    refine s_getF (pc' := 20) (b := 66) (kc := 9) (i := 0) dX9_stay_17 clX9 (by decide) fl_9_0 (fa_t65 sA) (fa_f9_0 sA) (fun _ => rfl) rfl ?_
    refine s_bipush (pc' := 22) dX9_stay_20 (by decide) rfl ?_
    refine s_iald (pc' := 23) dX9_stay_22 (fa_t66 sA) (by decide) (fa_lt66 sA (by decide)) rfl ?_
    obtain ⟨z2, z3, V⟩ := V
    obtain ⟨V4, V5⟩ := V
    refine s_icmp_le (pc' := 26) (tgt := 36) dX9_stay_23 rfl rfl z2 z3 (fun c => ?_) (fun c => ?_)
    · have V := V4 c
      refine s_aload_n (pc' := 37) (x := 65) dX9_stay_36 rfl rfl ?_
      refine s_getF (pc' := 40) (b := 66) (kc := 9) (i := 0) dX9_stay_37 clX9 (by decide) fl_9_0 (fa_t65 sA) (fa_f9_0 sA) (fun _ => rfl) rfl ?_
      refine s_bipush (pc' := 42) dX9_stay_40 (by decide) rfl ?_
      refine s_iald (pc' := 43) dX9_stay_42 (fa_t66 sA) (by decide) (fa_lt66 sA (by decide)) rfl ?_
      refine s_iload_n (pc' := 44) (x := a2) dX9_stay_43 rfl rfl ?_
      refine s_iload_n (pc' := 45) (x := a1) dX9_stay_44 rfl rfl ?_
      refine s_isub (pc' := 46) dX9_stay_45 rfl ?_
      refine s_imul (pc' := 47) dX9_stay_46 rfl ?_
      exact s_iret dX9_stay_47 rfl ⟨_, rfl, rfl, V⟩
    · have V := V5 c
      refine s_aload_n (pc' := 27) (x := 65) dX9_stay_26 rfl rfl ?_
      refine s_getF (pc' := 30) (b := 66) (kc := 9) (i := 0) dX9_stay_27 clX9 (by decide) fl_9_0 (fa_t65 sA) (fa_f9_0 sA) (fun _ => rfl) rfl ?_
      refine s_bipush (pc' := 32) dX9_stay_30 (by decide) rfl ?_
      refine s_iald (pc' := 33) dX9_stay_32 (fa_t66 sA) (by decide) (fa_lt66 sA (by decide)) rfl ?_
      refine s_goto (tgt := 47) dX9_stay_33 rfl ?_
      exact s_iret dX9_stay_47 rfl ⟨_, rfl, rfl, V⟩
theorem e_X9_waits {w : WS} {h : AH} {Q : Int → AH → Prop} {a1 a2 : Int} (X : XI mX9_waits 0 [some (vR 65), some (vI a1), some (vI a2), none, none] [] w h Q) : CI mX9_waits [vR 65, vI a1, vI a2] w h Q := CA.of (M := mX9_waits) (by decide) rfl (Nat.le_of_ble_eq_true rfl) X
set_option maxRecDepth 20000 in
theorem r_X9_waits_0 {w : WS} {h : AH} {Q : Int → AH → Prop} {a1 a2 : Int} (sA : shA w) (V : XI mX9_waits 5 [some (vR 65), some (vI a1), some (vI a2), some (vI 0), some (vI 0)] [] w h Q) : XI mX9_waits 0 [some (vR 65), some (vI a1), some (vI a2), none, none] [] w h Q := by
  refine s_iconst (pc' := 1) dX9_waits_0 rfl ?_
  refine s_istore_n (pc' := 2) (ls' := [some (vR 65), some (vI a1), some (vI a2), some (vI 0), none]) dX9_waits_1 (by decide) rfl rfl ?_
  refine s_iconst (pc' := 3) dX9_waits_2 rfl ?_
  refine s_istore (pc' := 5) (ls' := [some (vR 65), some (vI a1), some (vI a2), some (vI 0), some (vI 0)]) dX9_waits_3 (by decide) rfl rfl ?_
  exact V
set_option maxRecDepth 20000 in
theorem r_X9_waits_5 {w : WS} {h : AH} {Q : Int → AH → Prop} {a1 a2 a3 a4 : Int} (sA : shA w) (V : (inR a4 ∧ inR (h 65 10) ∧ (((h 65 10) ≤ a4 → Q a3 h) ∧ (¬ (h 65 10) ≤ a4 → (0 ≤ a4 ∧ a4 < 300 ∧ (inR (h 69 a4) ∧ inR a1 ∧ (((h 69 a4) ≤ a1 → XI mX9_waits 5 [some (vR 65), some (vI a1), some (vI a2), some (vI (a3 + 0)), some (vI (a4 + 1))] [] w h Q) ∧ (¬ (h 69 a4) ≤ a1 → (inR a2 ∧ ((a2 < (h 69 a4) → XI mX9_waits 5 [some (vR 65), some (vI a1), some (vI a2), some (vI (a3 + 0)), some (vI (a4 + 1))] [] w h Q) ∧ (¬ a2 < (h 69 a4) → (∀ y8, y8 = (a3 + ((h 71 a4) * (a2 - (h 69 a4)))) → XI mX9_waits 5 [some (vR 65), some (vI a1), some (vI a2), some (vI y8), some (vI (a4 + 1))] [] w h Q)))))))))))) : XI mX9_waits 5 [some (vR 65), some (vI a1), some (vI a2), some (vI a3), some (vI a4)] [] w h Q := by
  refine s_iload (pc' := 7) (x := a4) dX9_waits_5 rfl rfl ?_
  refine s_aload_n (pc' := 8) (x := 65) dX9_waits_7 rfl rfl ?_
  refine s_get (pc' := 11) (v := vI (h 65 10)) (kc := 9) (i := 10) dX9_waits_8 clX9 (by decide) fl_9_10 (fa_t65 sA) (fun _ => rfl) rfl ?_
  obtain ⟨z1, z2, V⟩ := V
  obtain ⟨V14, V15⟩ := V
  refine s_icmp_ge (pc' := 14) (tgt := 66) dX9_waits_11 rfl rfl z1 z2 (fun c => ?_) (fun c => ?_)
  · have V := V14 c
    refine s_iload_n (pc' := 67) (x := a3) dX9_waits_66 rfl rfl ?_
    exact s_iret dX9_waits_67 rfl ⟨_, rfl, rfl, V⟩
  · have V := V15 c
    refine s_iload_n (pc' := 15) (x := a3) dX9_waits_14 rfl rfl ?_
    refine s_aload_n (pc' := 16) (x := 65) dX9_waits_15 rfl rfl ?_
    refine s_getF (pc' := 19) (b := 69) (kc := 9) (i := 6) dX9_waits_16 clX9 (by decide) fl_9_6 (fa_t65 sA) (fa_f9_6 sA) (fun _ => rfl) rfl ?_
    refine s_iload (pc' := 21) (x := a4) dX9_waits_19 rfl rfl ?_
    obtain ⟨z3, z4, V⟩ := V
    refine s_iald (pc' := 22) dX9_waits_21 (fa_t69 sA) z3 (fa_lt69 sA z4) rfl ?_
    refine s_iload_n (pc' := 23) (x := a1) dX9_waits_22 rfl rfl ?_
    obtain ⟨z5, z6, V⟩ := V
    obtain ⟨V12, V13⟩ := V
    refine s_icmp_le (pc' := 26) (tgt := 57) dX9_waits_23 rfl rfl z5 z6 (fun c => ?_) (fun c => ?_)
    · have V := V12 c
      refine s_iconst (pc' := 58) dX9_waits_57 rfl ?_
      refine s_iadd (pc' := 59) dX9_waits_58 rfl ?_
      refine s_istore_n (pc' := 60) (ls' := [some (vR 65), some (vI a1), some (vI a2), some (vI (a3 + 0)), some (vI a4)]) dX9_waits_59 (by decide) rfl rfl ?_
      refine s_iinc (pc' := 63) (ls' := [some (vR 65), some (vI a1), some (vI a2), some (vI (a3 + 0)), some (vI (a4 + 1))]) dX9_waits_60 rfl (by decide) rfl rfl ?_
      refine s_goto (tgt := 5) dX9_waits_63 rfl ?_
      exact V
    · have V := V13 c
      refine s_aload_n (pc' := 27) (x := 65) dX9_waits_26 rfl rfl ?_
      refine s_getF (pc' := 30) (b := 69) (kc := 9) (i := 6) dX9_waits_27 clX9 (by decide) fl_9_6 (fa_t65 sA) (fa_f9_6 sA) (fun _ => rfl) rfl ?_
      refine s_iload (pc' := 32) (x := a4) dX9_waits_30 rfl rfl ?_
      refine s_iald (pc' := 33) dX9_waits_32 (fa_t69 sA) z3 (fa_lt69 sA z4) rfl ?_
      refine s_iload_n (pc' := 34) (x := a2) dX9_waits_33 rfl rfl ?_
      obtain ⟨z7, V⟩ := V
      obtain ⟨V10, V11⟩ := V
      refine s_icmp_gt (pc' := 37) (tgt := 57) dX9_waits_34 rfl rfl z5 z7 (fun c => ?_) (fun c => ?_)
      · have V := V10 c
        refine s_iconst (pc' := 58) dX9_waits_57 rfl ?_
        refine s_iadd (pc' := 59) dX9_waits_58 rfl ?_
        refine s_istore_n (pc' := 60) (ls' := [some (vR 65), some (vI a1), some (vI a2), some (vI (a3 + 0)), some (vI a4)]) dX9_waits_59 (by decide) rfl rfl ?_
        refine s_iinc (pc' := 63) (ls' := [some (vR 65), some (vI a1), some (vI a2), some (vI (a3 + 0)), some (vI (a4 + 1))]) dX9_waits_60 rfl (by decide) rfl rfl ?_
        refine s_goto (tgt := 5) dX9_waits_63 rfl ?_
        exact V
      · have V := V11 c
        refine s_aload_n (pc' := 38) (x := 65) dX9_waits_37 rfl rfl ?_
        refine s_getF (pc' := 41) (b := 71) (kc := 9) (i := 8) dX9_waits_38 clX9 (by decide) fl_9_8 (fa_t65 sA) (fa_f9_8 sA) (fun _ => rfl) rfl ?_
        refine s_iload (pc' := 43) (x := a4) dX9_waits_41 rfl rfl ?_
        refine s_iald (pc' := 44) dX9_waits_43 (fa_t71 sA) z3 (fa_lt71 sA z4) rfl ?_
        refine s_iload_n (pc' := 45) (x := a2) dX9_waits_44 rfl rfl ?_
        refine s_aload_n (pc' := 46) (x := 65) dX9_waits_45 rfl rfl ?_
        refine s_getF (pc' := 49) (b := 69) (kc := 9) (i := 6) dX9_waits_46 clX9 (by decide) fl_9_6 (fa_t65 sA) (fa_f9_6 sA) (fun _ => rfl) rfl ?_
        refine s_iload (pc' := 51) (x := a4) dX9_waits_49 rfl rfl ?_
        refine s_iald (pc' := 52) dX9_waits_51 (fa_t69 sA) z3 (fa_lt69 sA z4) rfl ?_
        refine s_isub (pc' := 53) dX9_waits_52 rfl ?_
        refine s_imul (pc' := 54) dX9_waits_53 rfl ?_
        refine s_goto (tgt := 58) dX9_waits_54 rfl ?_
        refine s_iadd (pc' := 59) dX9_waits_58 rfl ?_
        obtain ⟨y8, e9⟩ : ∃ q, q = (a3 + ((h 71 a4) * (a2 - (h 69 a4)))) := ⟨_, rfl⟩
        rw [← e9]
        have V := V y8 e9
        refine s_istore_n (pc' := 60) (ls' := [some (vR 65), some (vI a1), some (vI a2), some (vI y8), some (vI a4)]) dX9_waits_59 (by decide) rfl rfl ?_
        refine s_iinc (pc' := 63) (ls' := [some (vR 65), some (vI a1), some (vI a2), some (vI y8), some (vI (a4 + 1))]) dX9_waits_60 rfl (by decide) rfl rfl ?_
        refine s_goto (tgt := 5) dX9_waits_63 rfl ?_
        exact V
theorem e_X9_wakesBy {w : WS} {h : AH} {Q : Int → AH → Prop} {a1 a2 a3 : Int} (X : XI mX9_wakesBy 0 [some (vR 65), some (vI a1), some (vI a2), some (vI a3), none, none, none, none] [] w h Q) : CI mX9_wakesBy [vR 65, vI a1, vI a2, vI a3] w h Q := CA.of (M := mX9_wakesBy) (by decide) rfl (Nat.le_of_ble_eq_true rfl) X
set_option maxRecDepth 20000 in
theorem r_X9_wakesBy_0 {w : WS} {h : AH} {Q : Int → AH → Prop} {a1 a2 a3 : Int} (sA : shA w) (V : XI mX9_wakesBy 12 [some (vR 65), some (vI a1), some (vI a2), some (vI a3), some (vI 0), some (vI 0), some (vI 0), some (vI 0)] [] w h Q) : XI mX9_wakesBy 0 [some (vR 65), some (vI a1), some (vI a2), some (vI a3), none, none, none, none] [] w h Q := by
  refine s_iconst (pc' := 1) dX9_wakesBy_0 rfl ?_
  refine s_istore (pc' := 3) (ls' := [some (vR 65), some (vI a1), some (vI a2), some (vI a3), some (vI 0), none, none, none]) dX9_wakesBy_1 (by decide) rfl rfl ?_
  refine s_iconst (pc' := 4) dX9_wakesBy_3 rfl ?_
  refine s_istore (pc' := 6) (ls' := [some (vR 65), some (vI a1), some (vI a2), some (vI a3), some (vI 0), some (vI 0), none, none]) dX9_wakesBy_4 (by decide) rfl rfl ?_
  refine s_iconst (pc' := 7) dX9_wakesBy_6 rfl ?_
  refine s_istore (pc' := 9) (ls' := [some (vR 65), some (vI a1), some (vI a2), some (vI a3), some (vI 0), some (vI 0), some (vI 0), none]) dX9_wakesBy_7 (by decide) rfl rfl ?_
  refine s_iconst (pc' := 10) dX9_wakesBy_9 rfl ?_
  refine s_istore (pc' := 12) (ls' := [some (vR 65), some (vI a1), some (vI a2), some (vI a3), some (vI 0), some (vI 0), some (vI 0), some (vI 0)]) dX9_wakesBy_10 (by decide) rfl rfl ?_
  exact V
set_option maxRecDepth 20000 in
theorem r_X9_wakesBy_12 {w : WS} {h : AH} {Q : Int → AH → Prop} {a1 a2 a3 a4 a5 a6 a7 : Int} (sA : shA w) (V : (inR a7 ∧ inR (h 65 10) ∧ (((h 65 10) ≤ a7 → (inR a5 ∧ ((a5 = 0 → Q 0 h) ∧ (¬ a5 = 0 → (inR a1 ∧ ((a1 = 0 → Q 1 h) ∧ (¬ a1 = 0 → (inR a6 ∧ ((¬ a6 = 0 → Q 1 h) ∧ (a6 = 0 → ((¬ a1 = 2 → Q 0 h) ∧ (a1 = 2 → (inR a4 ∧ inR (h 66 99) ∧ ((a4 ≤ (h 66 99) → Q 0 h) ∧ (¬ a4 ≤ (h 66 99) → Q 1 h))))))))))))))) ∧ (¬ (h 65 10) ≤ a7 → (0 ≤ a7 ∧ a7 < 300 ∧ (inR (h 69 a7) ∧ inR a2 ∧ (((h 69 a7) ≤ a2 → XI mX9_wakesBy 12 [some (vR 65), some (vI a1), some (vI a2), some (vI a3), some (vI a4), some (vI a5), some (vI a6), some (vI (a7 + 1))] [] w h Q) ∧ (¬ (h 69 a7) ≤ a2 → (inR a3 ∧ (((h 69 a7) ≤ a3 → (inR a6 ∧ ((¬ a6 = 0 → (∀ y24, y24 = (a4 + ((h 71 a7) * ((a3 + 1) - (h 69 a7)))) → XI mX9_wakesBy 12 [some (vR 65), some (vI a1), some (vI a2), some (vI a3), some (vI y24), some (vI 1), some (vI 1), some (vI (a7 + 1))] [] w h Q)) ∧ (a6 = 0 → (inR (h 70 a7) ∧ ((¬ (h 70 a7) = a3 → (∀ y27, y27 = (a4 + ((h 71 a7) * ((a3 + 1) - (h 69 a7)))) → XI mX9_wakesBy 12 [some (vR 65), some (vI a1), some (vI a2), some (vI a3), some (vI y27), some (vI 1), some (vI 0), some (vI (a7 + 1))] [] w h Q)) ∧ ((h 70 a7) = a3 → (∀ y29, y29 = (a4 + ((h 71 a7) * ((a3 + 1) - (h 69 a7)))) → XI mX9_wakesBy 12 [some (vR 65), some (vI a1), some (vI a2), some (vI a3), some (vI y29), some (vI 1), some (vI 1), some (vI (a7 + 1))] [] w h Q)))))))) ∧ (¬ (h 69 a7) ≤ a3 → XI mX9_wakesBy 12 [some (vR 65), some (vI a1), some (vI a2), some (vI a3), some (vI a4), some (vI a5), some (vI a6), some (vI (a7 + 1))] [] w h Q))))))))))) : XI mX9_wakesBy 12 [some (vR 65), some (vI a1), some (vI a2), some (vI a3), some (vI a4), some (vI a5), some (vI a6), some (vI a7)] [] w h Q := by
  refine s_iload (pc' := 14) (x := a7) dX9_wakesBy_12 rfl rfl ?_
  refine s_aload_n (pc' := 15) (x := 65) dX9_wakesBy_14 rfl rfl ?_
  refine s_get (pc' := 18) (v := vI (h 65 10)) (kc := 9) (i := 10) dX9_wakesBy_15 clX9 (by decide) fl_9_10 (fa_t65 sA) (fun _ => rfl) rfl ?_
  obtain ⟨z1, z2, V⟩ := V
  obtain ⟨V39, V40⟩ := V
  refine s_icmp_ge (pc' := 21) (tgt := 102) dX9_wakesBy_18 rfl rfl z1 z2 (fun c => ?_) (fun c => ?_)
  · have V := V39 c
    refine s_iload (pc' := 104) (x := a5) dX9_wakesBy_102 rfl rfl ?_
    obtain ⟨z3, V⟩ := V
    obtain ⟨V16, V17⟩ := V
    refine s_if_eq (pc' := 107) (tgt := 137) dX9_wakesBy_104 rfl rfl z3 (fun c => ?_) (fun c => ?_)
    · have V := V16 c
      refine s_iconst (pc' := 138) dX9_wakesBy_137 rfl ?_
      exact s_zret dX9_wakesBy_138 rfl (by decide) ⟨_, rfl, rfl, V⟩
    · have V := V17 c
      refine s_iload_n (pc' := 108) (x := a1) dX9_wakesBy_107 rfl rfl ?_
      obtain ⟨z4, V⟩ := V
      obtain ⟨V14, V15⟩ := V
      refine s_if_eq (pc' := 111) (tgt := 133) dX9_wakesBy_108 rfl rfl z4 (fun c => ?_) (fun c => ?_)
      · have V := V14 c
        refine s_iconst (pc' := 134) dX9_wakesBy_133 rfl ?_
        refine s_goto (tgt := 138) dX9_wakesBy_134 rfl ?_
        exact s_zret dX9_wakesBy_138 rfl (by decide) ⟨_, rfl, rfl, V⟩
      · have V := V15 c
        refine s_iload (pc' := 113) (x := a6) dX9_wakesBy_111 rfl rfl ?_
        obtain ⟨z5, V⟩ := V
        obtain ⟨V12, V13⟩ := V
        refine s_if_ne (pc' := 116) (tgt := 133) dX9_wakesBy_113 rfl rfl z5 (fun c => ?_) (fun c => ?_)
        · have V := V12 c
          refine s_iconst (pc' := 134) dX9_wakesBy_133 rfl ?_
          refine s_goto (tgt := 138) dX9_wakesBy_134 rfl ?_
          exact s_zret dX9_wakesBy_138 rfl (by decide) ⟨_, rfl, rfl, V⟩
        · have V := V13 c
          refine s_iload_n (pc' := 117) (x := a1) dX9_wakesBy_116 rfl rfl ?_
          refine s_iconst (pc' := 118) dX9_wakesBy_117 rfl ?_
          obtain ⟨V10, V11⟩ := V
          refine s_icmp_ne (pc' := 121) (tgt := 137) dX9_wakesBy_118 rfl rfl z4 (by decide) (fun c => ?_) (fun c => ?_)
          · have V := V10 c
            refine s_iconst (pc' := 138) dX9_wakesBy_137 rfl ?_
            exact s_zret dX9_wakesBy_138 rfl (by decide) ⟨_, rfl, rfl, V⟩
          · have V := V11 c
            refine s_iload (pc' := 123) (x := a4) dX9_wakesBy_121 rfl rfl ?_
            refine s_aload_n (pc' := 124) (x := 65) dX9_wakesBy_123 rfl rfl ?_
            refine s_getF (pc' := 127) (b := 66) (kc := 9) (i := 0) dX9_wakesBy_124 clX9 (by decide) fl_9_0 (fa_t65 sA) (fa_f9_0 sA) (fun _ => rfl) rfl ?_
            refine s_bipush (pc' := 129) dX9_wakesBy_127 (by decide) rfl ?_
            refine s_iald (pc' := 130) dX9_wakesBy_129 (fa_t66 sA) (by decide) (fa_lt66 sA (by decide)) rfl ?_
            obtain ⟨z6, z7, V⟩ := V
            obtain ⟨V8, V9⟩ := V
            refine s_icmp_le (pc' := 133) (tgt := 137) dX9_wakesBy_130 rfl rfl z6 z7 (fun c => ?_) (fun c => ?_)
            · have V := V8 c
              refine s_iconst (pc' := 138) dX9_wakesBy_137 rfl ?_
              exact s_zret dX9_wakesBy_138 rfl (by decide) ⟨_, rfl, rfl, V⟩
            · have V := V9 c
              refine s_iconst (pc' := 134) dX9_wakesBy_133 rfl ?_
              refine s_goto (tgt := 138) dX9_wakesBy_134 rfl ?_
              exact s_zret dX9_wakesBy_138 rfl (by decide) ⟨_, rfl, rfl, V⟩
  · have V := V40 c
    refine s_aload_n (pc' := 22) (x := 65) dX9_wakesBy_21 rfl rfl ?_
    refine s_getF (pc' := 25) (b := 69) (kc := 9) (i := 6) dX9_wakesBy_22 clX9 (by decide) fl_9_6 (fa_t65 sA) (fa_f9_6 sA) (fun _ => rfl) rfl ?_
    refine s_iload (pc' := 27) (x := a7) dX9_wakesBy_25 rfl rfl ?_
    obtain ⟨z18, z19, V⟩ := V
    refine s_iald (pc' := 28) dX9_wakesBy_27 (fa_t69 sA) z18 (fa_lt69 sA z19) rfl ?_
    refine s_iload_n (pc' := 29) (x := a2) dX9_wakesBy_28 rfl rfl ?_
    obtain ⟨z20, z21, V⟩ := V
    obtain ⟨V37, V38⟩ := V
    refine s_icmp_le (pc' := 32) (tgt := 96) dX9_wakesBy_29 rfl rfl z20 z21 (fun c => ?_) (fun c => ?_)
    · have V := V37 c
      refine s_iinc (pc' := 99) (ls' := [some (vR 65), some (vI a1), some (vI a2), some (vI a3), some (vI a4), some (vI a5), some (vI a6), some (vI (a7 + 1))]) dX9_wakesBy_96 rfl (by decide) rfl rfl ?_
      refine s_goto (tgt := 12) dX9_wakesBy_99 rfl ?_
      exact V
    · have V := V38 c
      refine s_aload_n (pc' := 33) (x := 65) dX9_wakesBy_32 rfl rfl ?_
      refine s_getF (pc' := 36) (b := 69) (kc := 9) (i := 6) dX9_wakesBy_33 clX9 (by decide) fl_9_6 (fa_t65 sA) (fa_f9_6 sA) (fun _ => rfl) rfl ?_
      refine s_iload (pc' := 38) (x := a7) dX9_wakesBy_36 rfl rfl ?_
      refine s_iald (pc' := 39) dX9_wakesBy_38 (fa_t69 sA) z18 (fa_lt69 sA z19) rfl ?_
      refine s_iload_n (pc' := 40) (x := a3) dX9_wakesBy_39 rfl rfl ?_
      obtain ⟨z22, V⟩ := V
      obtain ⟨V35, V36⟩ := V
      refine s_icmp_le (pc' := 43) (tgt := 46) dX9_wakesBy_40 rfl rfl z20 z22 (fun c => ?_) (fun c => ?_)
      · have V := V35 c
        refine s_iconst (pc' := 47) dX9_wakesBy_46 rfl ?_
        refine s_istore (pc' := 49) (ls' := [some (vR 65), some (vI a1), some (vI a2), some (vI a3), some (vI a4), some (vI 1), some (vI a6), some (vI a7)]) dX9_wakesBy_47 (by decide) rfl rfl ?_
        refine s_iload (pc' := 51) (x := a6) dX9_wakesBy_49 rfl rfl ?_
        obtain ⟨z23, V⟩ := V
        obtain ⟨V33, V34⟩ := V
        refine s_if_ne (pc' := 54) (tgt := 65) dX9_wakesBy_51 rfl rfl z23 (fun c => ?_) (fun c => ?_)
        · have V := V33 c
          refine s_iconst (pc' := 66) dX9_wakesBy_65 rfl ?_
          refine s_goto (tgt := 70) dX9_wakesBy_66 rfl ?_
          refine s_istore (pc' := 72) (ls' := [some (vR 65), some (vI a1), some (vI a2), some (vI a3), some (vI a4), some (vI 1), some (vI 1), some (vI a7)]) dX9_wakesBy_70 (by decide) rfl rfl ?_
          refine s_iload (pc' := 74) (x := a4) dX9_wakesBy_72 rfl rfl ?_
          refine s_aload_n (pc' := 75) (x := 65) dX9_wakesBy_74 rfl rfl ?_
          refine s_getF (pc' := 78) (b := 71) (kc := 9) (i := 8) dX9_wakesBy_75 clX9 (by decide) fl_9_8 (fa_t65 sA) (fa_f9_8 sA) (fun _ => rfl) rfl ?_
          refine s_iload (pc' := 80) (x := a7) dX9_wakesBy_78 rfl rfl ?_
          refine s_iald (pc' := 81) dX9_wakesBy_80 (fa_t71 sA) z18 (fa_lt71 sA z19) rfl ?_
          refine s_iload_n (pc' := 82) (x := a3) dX9_wakesBy_81 rfl rfl ?_
          refine s_iconst (pc' := 83) dX9_wakesBy_82 rfl ?_
          refine s_iadd (pc' := 84) dX9_wakesBy_83 rfl ?_
          refine s_aload_n (pc' := 85) (x := 65) dX9_wakesBy_84 rfl rfl ?_
          refine s_getF (pc' := 88) (b := 69) (kc := 9) (i := 6) dX9_wakesBy_85 clX9 (by decide) fl_9_6 (fa_t65 sA) (fa_f9_6 sA) (fun _ => rfl) rfl ?_
          refine s_iload (pc' := 90) (x := a7) dX9_wakesBy_88 rfl rfl ?_
          refine s_iald (pc' := 91) dX9_wakesBy_90 (fa_t69 sA) z18 (fa_lt69 sA z19) rfl ?_
          refine s_isub (pc' := 92) dX9_wakesBy_91 rfl ?_
          refine s_imul (pc' := 93) dX9_wakesBy_92 rfl ?_
          refine s_iadd (pc' := 94) dX9_wakesBy_93 rfl ?_
          obtain ⟨y24, e25⟩ : ∃ q, q = (a4 + ((h 71 a7) * ((a3 + 1) - (h 69 a7)))) := ⟨_, rfl⟩
          rw [← e25]
          have V := V y24 e25
          refine s_istore (pc' := 96) (ls' := [some (vR 65), some (vI a1), some (vI a2), some (vI a3), some (vI y24), some (vI 1), some (vI 1), some (vI a7)]) dX9_wakesBy_94 (by decide) rfl rfl ?_
          refine s_iinc (pc' := 99) (ls' := [some (vR 65), some (vI a1), some (vI a2), some (vI a3), some (vI y24), some (vI 1), some (vI 1), some (vI (a7 + 1))]) dX9_wakesBy_96 rfl (by decide) rfl rfl ?_
          refine s_goto (tgt := 12) dX9_wakesBy_99 rfl ?_
          exact V
        · have V := V34 c
          refine s_aload_n (pc' := 55) (x := 65) dX9_wakesBy_54 rfl rfl ?_
          refine s_getF (pc' := 58) (b := 70) (kc := 9) (i := 7) dX9_wakesBy_55 clX9 (by decide) fl_9_7 (fa_t65 sA) (fa_f9_7 sA) (fun _ => rfl) rfl ?_
          refine s_iload (pc' := 60) (x := a7) dX9_wakesBy_58 rfl rfl ?_
          refine s_iald (pc' := 61) dX9_wakesBy_60 (fa_t70 sA) z18 (fa_lt70 sA z19) rfl ?_
          refine s_iload_n (pc' := 62) (x := a3) dX9_wakesBy_61 rfl rfl ?_
          obtain ⟨z26, V⟩ := V
          obtain ⟨V31, V32⟩ := V
          refine s_icmp_ne (pc' := 65) (tgt := 69) dX9_wakesBy_62 rfl rfl z26 z22 (fun c => ?_) (fun c => ?_)
          · have V := V31 c
            refine s_iconst (pc' := 70) dX9_wakesBy_69 rfl ?_
            refine s_istore (pc' := 72) (ls' := [some (vR 65), some (vI a1), some (vI a2), some (vI a3), some (vI a4), some (vI 1), some (vI 0), some (vI a7)]) dX9_wakesBy_70 (by decide) rfl rfl ?_
            refine s_iload (pc' := 74) (x := a4) dX9_wakesBy_72 rfl rfl ?_
            refine s_aload_n (pc' := 75) (x := 65) dX9_wakesBy_74 rfl rfl ?_
            refine s_getF (pc' := 78) (b := 71) (kc := 9) (i := 8) dX9_wakesBy_75 clX9 (by decide) fl_9_8 (fa_t65 sA) (fa_f9_8 sA) (fun _ => rfl) rfl ?_
            refine s_iload (pc' := 80) (x := a7) dX9_wakesBy_78 rfl rfl ?_
            refine s_iald (pc' := 81) dX9_wakesBy_80 (fa_t71 sA) z18 (fa_lt71 sA z19) rfl ?_
            refine s_iload_n (pc' := 82) (x := a3) dX9_wakesBy_81 rfl rfl ?_
            refine s_iconst (pc' := 83) dX9_wakesBy_82 rfl ?_
            refine s_iadd (pc' := 84) dX9_wakesBy_83 rfl ?_
            refine s_aload_n (pc' := 85) (x := 65) dX9_wakesBy_84 rfl rfl ?_
            refine s_getF (pc' := 88) (b := 69) (kc := 9) (i := 6) dX9_wakesBy_85 clX9 (by decide) fl_9_6 (fa_t65 sA) (fa_f9_6 sA) (fun _ => rfl) rfl ?_
            refine s_iload (pc' := 90) (x := a7) dX9_wakesBy_88 rfl rfl ?_
            refine s_iald (pc' := 91) dX9_wakesBy_90 (fa_t69 sA) z18 (fa_lt69 sA z19) rfl ?_
            refine s_isub (pc' := 92) dX9_wakesBy_91 rfl ?_
            refine s_imul (pc' := 93) dX9_wakesBy_92 rfl ?_
            refine s_iadd (pc' := 94) dX9_wakesBy_93 rfl ?_
            obtain ⟨y27, e28⟩ : ∃ q, q = (a4 + ((h 71 a7) * ((a3 + 1) - (h 69 a7)))) := ⟨_, rfl⟩
            rw [← e28]
            have V := V y27 e28
            refine s_istore (pc' := 96) (ls' := [some (vR 65), some (vI a1), some (vI a2), some (vI a3), some (vI y27), some (vI 1), some (vI 0), some (vI a7)]) dX9_wakesBy_94 (by decide) rfl rfl ?_
            refine s_iinc (pc' := 99) (ls' := [some (vR 65), some (vI a1), some (vI a2), some (vI a3), some (vI y27), some (vI 1), some (vI 0), some (vI (a7 + 1))]) dX9_wakesBy_96 rfl (by decide) rfl rfl ?_
            refine s_goto (tgt := 12) dX9_wakesBy_99 rfl ?_
            exact V
          · have V := V32 c
            refine s_iconst (pc' := 66) dX9_wakesBy_65 rfl ?_
            refine s_goto (tgt := 70) dX9_wakesBy_66 rfl ?_
            refine s_istore (pc' := 72) (ls' := [some (vR 65), some (vI a1), some (vI a2), some (vI a3), some (vI a4), some (vI 1), some (vI 1), some (vI a7)]) dX9_wakesBy_70 (by decide) rfl rfl ?_
            refine s_iload (pc' := 74) (x := a4) dX9_wakesBy_72 rfl rfl ?_
            refine s_aload_n (pc' := 75) (x := 65) dX9_wakesBy_74 rfl rfl ?_
            refine s_getF (pc' := 78) (b := 71) (kc := 9) (i := 8) dX9_wakesBy_75 clX9 (by decide) fl_9_8 (fa_t65 sA) (fa_f9_8 sA) (fun _ => rfl) rfl ?_
            refine s_iload (pc' := 80) (x := a7) dX9_wakesBy_78 rfl rfl ?_
            refine s_iald (pc' := 81) dX9_wakesBy_80 (fa_t71 sA) z18 (fa_lt71 sA z19) rfl ?_
            refine s_iload_n (pc' := 82) (x := a3) dX9_wakesBy_81 rfl rfl ?_
            refine s_iconst (pc' := 83) dX9_wakesBy_82 rfl ?_
            refine s_iadd (pc' := 84) dX9_wakesBy_83 rfl ?_
            refine s_aload_n (pc' := 85) (x := 65) dX9_wakesBy_84 rfl rfl ?_
            refine s_getF (pc' := 88) (b := 69) (kc := 9) (i := 6) dX9_wakesBy_85 clX9 (by decide) fl_9_6 (fa_t65 sA) (fa_f9_6 sA) (fun _ => rfl) rfl ?_
            refine s_iload (pc' := 90) (x := a7) dX9_wakesBy_88 rfl rfl ?_
            refine s_iald (pc' := 91) dX9_wakesBy_90 (fa_t69 sA) z18 (fa_lt69 sA z19) rfl ?_
            refine s_isub (pc' := 92) dX9_wakesBy_91 rfl ?_
            refine s_imul (pc' := 93) dX9_wakesBy_92 rfl ?_
            refine s_iadd (pc' := 94) dX9_wakesBy_93 rfl ?_
            obtain ⟨y29, e30⟩ : ∃ q, q = (a4 + ((h 71 a7) * ((a3 + 1) - (h 69 a7)))) := ⟨_, rfl⟩
            rw [← e30]
            have V := V y29 e30
            refine s_istore (pc' := 96) (ls' := [some (vR 65), some (vI a1), some (vI a2), some (vI a3), some (vI y29), some (vI 1), some (vI 1), some (vI a7)]) dX9_wakesBy_94 (by decide) rfl rfl ?_
            refine s_iinc (pc' := 99) (ls' := [some (vR 65), some (vI a1), some (vI a2), some (vI a3), some (vI y29), some (vI 1), some (vI 1), some (vI (a7 + 1))]) dX9_wakesBy_96 rfl (by decide) rfl rfl ?_
            refine s_goto (tgt := 12) dX9_wakesBy_99 rfl ?_
            exact V
      · have V := V36 c
        refine s_goto (tgt := 96) dX9_wakesBy_43 rfl ?_
        refine s_iinc (pc' := 99) (ls' := [some (vR 65), some (vI a1), some (vI a2), some (vI a3), some (vI a4), some (vI a5), some (vI a6), some (vI (a7 + 1))]) dX9_wakesBy_96 rfl (by decide) rfl rfl ?_
        refine s_goto (tgt := 12) dX9_wakesBy_99 rfl ?_
        exact V
theorem e_X9_answers {w : WS} {h : AH} {Q : Int → AH → Prop} {a1 : Int} (X : XI mX9_answers 0 [some (vR 65), some (vI a1), none] [] w h Q) : CI mX9_answers [vR 65, vI a1] w h Q := CA.of (M := mX9_answers) (by decide) rfl (Nat.le_of_ble_eq_true rfl) X
set_option maxRecDepth 20000 in
theorem r_X9_answers_0 {w : WS} {h : AH} {Q : Int → AH → Prop} {a1 : Int} (sA : shA w) (V : XI mX9_answers 2 [some (vR 65), some (vI a1), some (vI 0)] [] w h Q) : XI mX9_answers 0 [some (vR 65), some (vI a1), none] [] w h Q := by
  refine s_iconst (pc' := 1) dX9_answers_0 rfl ?_
  refine s_istore_n (pc' := 2) (ls' := [some (vR 65), some (vI a1), some (vI 0)]) dX9_answers_1 (by decide) rfl rfl ?_
  exact V
set_option maxRecDepth 20000 in
theorem r_X9_answers_2 {w : WS} {h : AH} {Q : Int → AH → Prop} {a1 a2 : Int} (sA : shA w) (V : (inR a2 ∧ inR (h 65 12) ∧ (((h 65 12) ≤ a2 → Q (-1) h) ∧ (¬ (h 65 12) ≤ a2 → (0 ≤ a2 ∧ a2 < 302 ∧ (inR (h 73 a2) ∧ inR a1 ∧ (((h 73 a2) < a1 → XI mX9_answers 2 [some (vR 65), some (vI a1), some (vI (a2 + 1))] [] w h Q) ∧ (¬ (h 73 a2) < a1 → Q (h 73 a2) h)))))))) : XI mX9_answers 2 [some (vR 65), some (vI a1), some (vI a2)] [] w h Q := by
  refine s_iload_n (pc' := 3) (x := a2) dX9_answers_2 rfl rfl ?_
  refine s_aload_n (pc' := 4) (x := 65) dX9_answers_3 rfl rfl ?_
  refine s_get (pc' := 7) (v := vI (h 65 12)) (kc := 9) (i := 12) dX9_answers_4 clX9 (by decide) fl_9_12 (fa_t65 sA) (fun _ => rfl) rfl ?_
  obtain ⟨z1, z2, V⟩ := V
  obtain ⟨V9, V10⟩ := V
  refine s_icmp_ge (pc' := 10) (tgt := 33) dX9_answers_7 rfl rfl z1 z2 (fun c => ?_) (fun c => ?_)
  · have V := V9 c
    refine s_iconst (pc' := 34) dX9_answers_33 rfl ?_
    exact s_iret dX9_answers_34 rfl ⟨_, rfl, rfl, V⟩
  · have V := V10 c
    refine s_aload_n (pc' := 11) (x := 65) dX9_answers_10 rfl rfl ?_
    refine s_getF (pc' := 14) (b := 73) (kc := 9) (i := 11) dX9_answers_11 clX9 (by decide) fl_9_11 (fa_t65 sA) (fa_f9_11 sA) (fun _ => rfl) rfl ?_
    refine s_iload_n (pc' := 15) (x := a2) dX9_answers_14 rfl rfl ?_
    obtain ⟨z3, z4, V⟩ := V
    refine s_iald (pc' := 16) dX9_answers_15 (fa_t73 sA) z3 (fa_lt73 sA z4) rfl ?_
    refine s_iload_n (pc' := 17) (x := a1) dX9_answers_16 rfl rfl ?_
    obtain ⟨z5, z6, V⟩ := V
    obtain ⟨V7, V8⟩ := V
    refine s_icmp_lt (pc' := 20) (tgt := 27) dX9_answers_17 rfl rfl z5 z6 (fun c => ?_) (fun c => ?_)
    · have V := V7 c
      refine s_iinc (pc' := 30) (ls' := [some (vR 65), some (vI a1), some (vI (a2 + 1))]) dX9_answers_27 rfl (by decide) rfl rfl ?_
      refine s_goto (tgt := 2) dX9_answers_30 rfl ?_
      exact V
    · have V := V8 c
      refine s_aload_n (pc' := 21) (x := 65) dX9_answers_20 rfl rfl ?_
      refine s_getF (pc' := 24) (b := 73) (kc := 9) (i := 11) dX9_answers_21 clX9 (by decide) fl_9_11 (fa_t65 sA) (fa_f9_11 sA) (fun _ => rfl) rfl ?_
      refine s_iload_n (pc' := 25) (x := a2) dX9_answers_24 rfl rfl ?_
      refine s_iald (pc' := 26) dX9_answers_25 (fa_t73 sA) z3 (fa_lt73 sA z4) rfl ?_
      exact s_iret dX9_answers_26 rfl ⟨_, rfl, rfl, V⟩
theorem e_X9_awake {w : WS} {h : AH} {Q : Int → AH → Prop} (X : XI mX9_awake 0 [some (vR 65)] [] w h Q) : CI mX9_awake [vR 65] w h Q := CA.of (M := mX9_awake) (by decide) rfl (Nat.le_of_ble_eq_true rfl) X
set_option maxRecDepth 20000 in
theorem r_X9_awake_0 {w : WS} {h : AH} {Q : Int → AH → Prop} (sA : shA w) (V : (inR (h 66 100) ∧ ((¬ (h 66 100) = 0 → ((0 ≤ (h 66 99) ∧ (h 66 99) ≤ 2147483647) ∧ (0 < (h 66 100) ∧ (h 66 100) ≤ 2147483647) ∧ Q ((h 66 99) / (h 66 100)) h)) ∧ ((h 66 100) = 0 → Q 300 h)))) : XI mX9_awake 0 [some (vR 65)] [] w h Q := by
  refine s_aload_n (pc' := 1) (x := 65) dX9_awake_0 rfl rfl ?_
  refine s_getF (pc' := 4) (b := 66) (kc := 9) (i := 0) dX9_awake_1 clX9 (by decide) fl_9_0 (fa_t65 sA) (fa_f9_0 sA) (fun _ => rfl) rfl ?_
  refine s_bipush (pc' := 6) dX9_awake_4 (by decide) rfl ?_
  refine s_iald (pc' := 7) dX9_awake_6 (fa_t66 sA) (by decide) (fa_lt66 sA (by decide)) rfl ?_
  obtain ⟨z1, V⟩ := V
  obtain ⟨V4, V5⟩ := V
  refine s_if_ne (pc' := 10) (tgt := 16) dX9_awake_7 rfl rfl z1 (fun c => ?_) (fun c => ?_)
  · have V := V4 c
    refine s_aload_n (pc' := 17) (x := 65) dX9_awake_16 rfl rfl ?_
    refine s_getF (pc' := 20) (b := 66) (kc := 9) (i := 0) dX9_awake_17 clX9 (by decide) fl_9_0 (fa_t65 sA) (fa_f9_0 sA) (fun _ => rfl) rfl ?_
    refine s_bipush (pc' := 22) dX9_awake_20 (by decide) rfl ?_
    refine s_iald (pc' := 23) dX9_awake_22 (fa_t66 sA) (by decide) (fa_lt66 sA (by decide)) rfl ?_
    refine s_aload_n (pc' := 24) (x := 65) dX9_awake_23 rfl rfl ?_
    refine s_getF (pc' := 27) (b := 66) (kc := 9) (i := 0) dX9_awake_24 clX9 (by decide) fl_9_0 (fa_t65 sA) (fa_f9_0 sA) (fun _ => rfl) rfl ?_
    refine s_bipush (pc' := 29) dX9_awake_27 (by decide) rfl ?_
    refine s_iald (pc' := 30) dX9_awake_29 (fa_t66 sA) (by decide) (fa_lt66 sA (by decide)) rfl ?_
    obtain ⟨z2, z3, V⟩ := V
    refine s_idiv (pc' := 31) dX9_awake_30 z2 z3 rfl ?_
    exact s_iret dX9_awake_31 rfl ⟨_, rfl, rfl, V⟩
  · have V := V5 c
    refine s_sipush (pc' := 13) dX9_awake_10 (by decide) rfl ?_
    refine s_goto (tgt := 31) dX9_awake_13 rfl ?_
    exact s_iret dX9_awake_31 rfl ⟨_, rfl, rfl, V⟩
theorem e_X9_left {w : WS} {h : AH} {Q : Int → AH → Prop} (X : XI mX9_left 0 [some (vR 65), none, none] [] w h Q) : CI mX9_left [vR 65] w h Q := CA.of (M := mX9_left) (by decide) rfl (Nat.le_of_ble_eq_true rfl) X
set_option maxRecDepth 20000 in
theorem r_X9_left_0 {w : WS} {h : AH} {Q : Int → AH → Prop} (sA : shA w) (V : XI mX9_left 4 [some (vR 65), some (vI 0), some (vI 0)] [] w h Q) : XI mX9_left 0 [some (vR 65), none, none] [] w h Q := by
  refine s_iconst (pc' := 1) dX9_left_0 rfl ?_
  refine s_istore_n (pc' := 2) (ls' := [some (vR 65), some (vI 0), none]) dX9_left_1 (by decide) rfl rfl ?_
  refine s_iconst (pc' := 3) dX9_left_2 rfl ?_
  refine s_istore_n (pc' := 4) (ls' := [some (vR 65), some (vI 0), some (vI 0)]) dX9_left_3 (by decide) rfl rfl ?_
  exact V
set_option maxRecDepth 20000 in
theorem r_X9_left_4 {w : WS} {h : AH} {Q : Int → AH → Prop} {a1 a2 : Int} (sA : shA w) (V : (inR a2 ∧ inR (h 65 20) ∧ (((h 65 20) ≤ a2 → Q a1 h) ∧ (¬ (h 65 20) ≤ a2 → (0 ≤ a2 ∧ a2 < 300 ∧ (inR (h 80 a2) ∧ ((¬ (h 80 a2) = (-1) → XI mX9_left 4 [some (vR 65), some (vI (a1 + 0)), some (vI (a2 + 1))] [] w h Q) ∧ ((h 80 a2) = (-1) → XI mX9_left 4 [some (vR 65), some (vI (a1 + 1)), some (vI (a2 + 1))] [] w h Q)))))))) : XI mX9_left 4 [some (vR 65), some (vI a1), some (vI a2)] [] w h Q := by
  refine s_iload_n (pc' := 5) (x := a2) dX9_left_4 rfl rfl ?_
  refine s_aload_n (pc' := 6) (x := 65) dX9_left_5 rfl rfl ?_
  refine s_get (pc' := 9) (v := vI (h 65 20)) (kc := 9) (i := 20) dX9_left_6 clX9 (by decide) fl_9_20 (fa_t65 sA) (fun _ => rfl) rfl ?_
  obtain ⟨z1, z2, V⟩ := V
  obtain ⟨V8, V9⟩ := V
  refine s_icmp_ge (pc' := 12) (tgt := 36) dX9_left_9 rfl rfl z1 z2 (fun c => ?_) (fun c => ?_)
  · have V := V8 c
    refine s_iload_n (pc' := 37) (x := a1) dX9_left_36 rfl rfl ?_
    exact s_iret dX9_left_37 rfl ⟨_, rfl, rfl, V⟩
  · have V := V9 c
    refine s_iload_n (pc' := 13) (x := a1) dX9_left_12 rfl rfl ?_
    refine s_aload_n (pc' := 14) (x := 65) dX9_left_13 rfl rfl ?_
    refine s_getF (pc' := 17) (b := 80) (kc := 9) (i := 19) dX9_left_14 clX9 (by decide) fl_9_19 (fa_t65 sA) (fa_f9_19 sA) (fun _ => rfl) rfl ?_
    refine s_iload_n (pc' := 18) (x := a2) dX9_left_17 rfl rfl ?_
    obtain ⟨z3, z4, V⟩ := V
    refine s_iald (pc' := 19) dX9_left_18 (fa_t80 sA) z3 (fa_lt80 sA z4) rfl ?_
    refine s_iconst (pc' := 20) dX9_left_19 rfl ?_
    obtain ⟨z5, V⟩ := V
    obtain ⟨V6, V7⟩ := V
    refine s_icmp_ne (pc' := 23) (tgt := 27) dX9_left_20 rfl rfl z5 (by decide) (fun c => ?_) (fun c => ?_)
    · have V := V6 c
      refine s_iconst (pc' := 28) dX9_left_27 rfl ?_
      refine s_iadd (pc' := 29) dX9_left_28 rfl ?_
      refine s_istore_n (pc' := 30) (ls' := [some (vR 65), some (vI (a1 + 0)), some (vI a2)]) dX9_left_29 (by decide) rfl rfl ?_
      refine s_iinc (pc' := 33) (ls' := [some (vR 65), some (vI (a1 + 0)), some (vI (a2 + 1))]) dX9_left_30 rfl (by decide) rfl rfl ?_
      refine s_goto (tgt := 4) dX9_left_33 rfl ?_
      exact V
    · have V := V7 c
      refine s_iconst (pc' := 24) dX9_left_23 rfl ?_
      refine s_goto (tgt := 28) dX9_left_24 rfl ?_
      refine s_iadd (pc' := 29) dX9_left_28 rfl ?_
      refine s_istore_n (pc' := 30) (ls' := [some (vR 65), some (vI (a1 + 1)), some (vI a2)]) dX9_left_29 (by decide) rfl rfl ?_
      refine s_iinc (pc' := 33) (ls' := [some (vR 65), some (vI (a1 + 1)), some (vI (a2 + 1))]) dX9_left_30 rfl (by decide) rfl rfl ?_
      refine s_goto (tgt := 4) dX9_left_33 rfl ?_
      exact V
theorem e_X9_leftWaits {w : WS} {h : AH} {Q : Int → AH → Prop} {a1 : Int} (X : XI mX9_leftWaits 0 [some (vR 65), some (vI a1), none, none] [] w h Q) : CI mX9_leftWaits [vR 65, vI a1] w h Q := CA.of (M := mX9_leftWaits) (by decide) rfl (Nat.le_of_ble_eq_true rfl) X
set_option maxRecDepth 20000 in
theorem r_X9_leftWaits_0 {w : WS} {h : AH} {Q : Int → AH → Prop} {a1 : Int} (sA : shA w) (V : XI mX9_leftWaits 4 [some (vR 65), some (vI a1), some (vI 0), some (vI 0)] [] w h Q) : XI mX9_leftWaits 0 [some (vR 65), some (vI a1), none, none] [] w h Q := by
  refine s_iconst (pc' := 1) dX9_leftWaits_0 rfl ?_
  refine s_istore_n (pc' := 2) (ls' := [some (vR 65), some (vI a1), some (vI 0), none]) dX9_leftWaits_1 (by decide) rfl rfl ?_
  refine s_iconst (pc' := 3) dX9_leftWaits_2 rfl ?_
  refine s_istore_n (pc' := 4) (ls' := [some (vR 65), some (vI a1), some (vI 0), some (vI 0)]) dX9_leftWaits_3 (by decide) rfl rfl ?_
  exact V
set_option maxRecDepth 20000 in
theorem r_X9_leftWaits_4 {w : WS} {h : AH} {Q : Int → AH → Prop} {a1 a2 a3 : Int} (sA : shA w) (V : (inR a3 ∧ inR (h 65 20) ∧ (((h 65 20) ≤ a3 → Q a2 h) ∧ (¬ (h 65 20) ≤ a3 → (0 ≤ a3 ∧ a3 < 300 ∧ (inR (h 80 a3) ∧ ((¬ (h 80 a3) = (-1) → XI mX9_leftWaits 4 [some (vR 65), some (vI a1), some (vI (a2 + 0)), some (vI (a3 + 1))] [] w h Q) ∧ ((h 80 a3) = (-1) → (∀ y6, y6 = (a2 + ((h 79 a3) * (a1 - (h 77 a3)))) → XI mX9_leftWaits 4 [some (vR 65), some (vI a1), some (vI y6), some (vI (a3 + 1))] [] w h Q))))))))) : XI mX9_leftWaits 4 [some (vR 65), some (vI a1), some (vI a2), some (vI a3)] [] w h Q := by
  refine s_iload_n (pc' := 5) (x := a3) dX9_leftWaits_4 rfl rfl ?_
  refine s_aload_n (pc' := 6) (x := 65) dX9_leftWaits_5 rfl rfl ?_
  refine s_get (pc' := 9) (v := vI (h 65 20)) (kc := 9) (i := 20) dX9_leftWaits_6 clX9 (by decide) fl_9_20 (fa_t65 sA) (fun _ => rfl) rfl ?_
  obtain ⟨z1, z2, V⟩ := V
  obtain ⟨V10, V11⟩ := V
  refine s_icmp_ge (pc' := 12) (tgt := 50) dX9_leftWaits_9 rfl rfl z1 z2 (fun c => ?_) (fun c => ?_)
  · have V := V10 c
    refine s_iload_n (pc' := 51) (x := a2) dX9_leftWaits_50 rfl rfl ?_
    exact s_iret dX9_leftWaits_51 rfl ⟨_, rfl, rfl, V⟩
  · have V := V11 c
    refine s_iload_n (pc' := 13) (x := a2) dX9_leftWaits_12 rfl rfl ?_
    refine s_aload_n (pc' := 14) (x := 65) dX9_leftWaits_13 rfl rfl ?_
    refine s_getF (pc' := 17) (b := 80) (kc := 9) (i := 19) dX9_leftWaits_14 clX9 (by decide) fl_9_19 (fa_t65 sA) (fa_f9_19 sA) (fun _ => rfl) rfl ?_
    refine s_iload_n (pc' := 18) (x := a3) dX9_leftWaits_17 rfl rfl ?_
    obtain ⟨z3, z4, V⟩ := V
    refine s_iald (pc' := 19) dX9_leftWaits_18 (fa_t80 sA) z3 (fa_lt80 sA z4) rfl ?_
    refine s_iconst (pc' := 20) dX9_leftWaits_19 rfl ?_
    obtain ⟨z5, V⟩ := V
    obtain ⟨V8, V9⟩ := V
    refine s_icmp_ne (pc' := 23) (tgt := 41) dX9_leftWaits_20 rfl rfl z5 (by decide) (fun c => ?_) (fun c => ?_)
    · have V := V8 c
      refine s_iconst (pc' := 42) dX9_leftWaits_41 rfl ?_
      refine s_iadd (pc' := 43) dX9_leftWaits_42 rfl ?_
      refine s_istore_n (pc' := 44) (ls' := [some (vR 65), some (vI a1), some (vI (a2 + 0)), some (vI a3)]) dX9_leftWaits_43 (by decide) rfl rfl ?_
      refine s_iinc (pc' := 47) (ls' := [some (vR 65), some (vI a1), some (vI (a2 + 0)), some (vI (a3 + 1))]) dX9_leftWaits_44 rfl (by decide) rfl rfl ?_
      refine s_goto (tgt := 4) dX9_leftWaits_47 rfl ?_
      exact V
    · have V := V9 c
      refine s_aload_n (pc' := 24) (x := 65) dX9_leftWaits_23 rfl rfl ?_
      refine s_getF (pc' := 27) (b := 79) (kc := 9) (i := 18) dX9_leftWaits_24 clX9 (by decide) fl_9_18 (fa_t65 sA) (fa_f9_18 sA) (fun _ => rfl) rfl ?_
      refine s_iload_n (pc' := 28) (x := a3) dX9_leftWaits_27 rfl rfl ?_
      refine s_iald (pc' := 29) dX9_leftWaits_28 (fa_t79 sA) z3 (fa_lt79 sA z4) rfl ?_
      refine s_iload_n (pc' := 30) (x := a1) dX9_leftWaits_29 rfl rfl ?_
      refine s_aload_n (pc' := 31) (x := 65) dX9_leftWaits_30 rfl rfl ?_
      refine s_getF (pc' := 34) (b := 77) (kc := 9) (i := 16) dX9_leftWaits_31 clX9 (by decide) fl_9_16 (fa_t65 sA) (fa_f9_16 sA) (fun _ => rfl) rfl ?_
      refine s_iload_n (pc' := 35) (x := a3) dX9_leftWaits_34 rfl rfl ?_
      refine s_iald (pc' := 36) dX9_leftWaits_35 (fa_t77 sA) z3 (fa_lt77 sA z4) rfl ?_
      refine s_isub (pc' := 37) dX9_leftWaits_36 rfl ?_
      refine s_imul (pc' := 38) dX9_leftWaits_37 rfl ?_
      refine s_goto (tgt := 42) dX9_leftWaits_38 rfl ?_
      refine s_iadd (pc' := 43) dX9_leftWaits_42 rfl ?_
      obtain ⟨y6, e7⟩ : ∃ q, q = (a2 + ((h 79 a3) * (a1 - (h 77 a3)))) := ⟨_, rfl⟩
      rw [← e7]
      have V := V y6 e7
      refine s_istore_n (pc' := 44) (ls' := [some (vR 65), some (vI a1), some (vI y6), some (vI a3)]) dX9_leftWaits_43 (by decide) rfl rfl ?_
      refine s_iinc (pc' := 47) (ls' := [some (vR 65), some (vI a1), some (vI y6), some (vI (a3 + 1))]) dX9_leftWaits_44 rfl (by decide) rfl rfl ?_
      refine s_goto (tgt := 4) dX9_leftWaits_47 rfl ?_
      exact V
theorem e_X9_leftLatest {w : WS} {h : AH} {Q : Int → AH → Prop} (X : XI mX9_leftLatest 0 [some (vR 65), none, none] [] w h Q) : CI mX9_leftLatest [vR 65] w h Q := CA.of (M := mX9_leftLatest) (by decide) rfl (Nat.le_of_ble_eq_true rfl) X
set_option maxRecDepth 20000 in
theorem r_X9_leftLatest_0 {w : WS} {h : AH} {Q : Int → AH → Prop} (sA : shA w) (V : XI mX9_leftLatest 4 [some (vR 65), some (vI (-1)), some (vI 0)] [] w h Q) : XI mX9_leftLatest 0 [some (vR 65), none, none] [] w h Q := by
  refine s_iconst (pc' := 1) dX9_leftLatest_0 rfl ?_
  refine s_istore_n (pc' := 2) (ls' := [some (vR 65), some (vI (-1)), none]) dX9_leftLatest_1 (by decide) rfl rfl ?_
  refine s_iconst (pc' := 3) dX9_leftLatest_2 rfl ?_
  refine s_istore_n (pc' := 4) (ls' := [some (vR 65), some (vI (-1)), some (vI 0)]) dX9_leftLatest_3 (by decide) rfl rfl ?_
  exact V
set_option maxRecDepth 20000 in
theorem r_X9_leftLatest_4 {w : WS} {h : AH} {Q : Int → AH → Prop} {a1 a2 : Int} (sA : shA w) (V : (inR a2 ∧ inR (h 65 20) ∧ (((h 65 20) ≤ a2 → Q a1 h) ∧ (¬ (h 65 20) ≤ a2 → (0 ≤ a2 ∧ a2 < 300 ∧ (inR (h 80 a2) ∧ ((¬ (h 80 a2) = (-1) → XI mX9_leftLatest 4 [some (vR 65), some (vI a1), some (vI (a2 + 1))] [] w h Q) ∧ ((h 80 a2) = (-1) → (inR a1 ∧ ((a1 = (-1) → XI mX9_leftLatest 4 [some (vR 65), some (vI (h 78 a2)), some (vI (a2 + 1))] [] w h Q) ∧ (¬ a1 = (-1) → (inR (h 78 a2) ∧ ((a1 ≤ (h 78 a2) → XI mX9_leftLatest 4 [some (vR 65), some (vI a1), some (vI (a2 + 1))] [] w h Q) ∧ (¬ a1 ≤ (h 78 a2) → XI mX9_leftLatest 4 [some (vR 65), some (vI (h 78 a2)), some (vI (a2 + 1))] [] w h Q)))))))))))))) : XI mX9_leftLatest 4 [some (vR 65), some (vI a1), some (vI a2)] [] w h Q := by
  refine s_iload_n (pc' := 5) (x := a2) dX9_leftLatest_4 rfl rfl ?_
  refine s_aload_n (pc' := 6) (x := 65) dX9_leftLatest_5 rfl rfl ?_
  refine s_get (pc' := 9) (v := vI (h 65 20)) (kc := 9) (i := 20) dX9_leftLatest_6 clX9 (by decide) fl_9_20 (fa_t65 sA) (fun _ => rfl) rfl ?_
  obtain ⟨z1, z2, V⟩ := V
  obtain ⟨V14, V15⟩ := V
  refine s_icmp_ge (pc' := 12) (tgt := 50) dX9_leftLatest_9 rfl rfl z1 z2 (fun c => ?_) (fun c => ?_)
  · have V := V14 c
    refine s_iload_n (pc' := 51) (x := a1) dX9_leftLatest_50 rfl rfl ?_
    exact s_iret dX9_leftLatest_51 rfl ⟨_, rfl, rfl, V⟩
  · have V := V15 c
    refine s_aload_n (pc' := 13) (x := 65) dX9_leftLatest_12 rfl rfl ?_
    refine s_getF (pc' := 16) (b := 80) (kc := 9) (i := 19) dX9_leftLatest_13 clX9 (by decide) fl_9_19 (fa_t65 sA) (fa_f9_19 sA) (fun _ => rfl) rfl ?_
    refine s_iload_n (pc' := 17) (x := a2) dX9_leftLatest_16 rfl rfl ?_
    obtain ⟨z3, z4, V⟩ := V
    refine s_iald (pc' := 18) dX9_leftLatest_17 (fa_t80 sA) z3 (fa_lt80 sA z4) rfl ?_
    refine s_iconst (pc' := 19) dX9_leftLatest_18 rfl ?_
    obtain ⟨z5, V⟩ := V
    obtain ⟨V12, V13⟩ := V
    refine s_icmp_ne (pc' := 22) (tgt := 44) dX9_leftLatest_19 rfl rfl z5 (by decide) (fun c => ?_) (fun c => ?_)
    · have V := V12 c
      refine s_iinc (pc' := 47) (ls' := [some (vR 65), some (vI a1), some (vI (a2 + 1))]) dX9_leftLatest_44 rfl (by decide) rfl rfl ?_
      refine s_goto (tgt := 4) dX9_leftLatest_47 rfl ?_
      exact V
    · have V := V13 c
      refine s_iload_n (pc' := 23) (x := a1) dX9_leftLatest_22 rfl rfl ?_
      refine s_iconst (pc' := 24) dX9_leftLatest_23 rfl ?_
      obtain ⟨z6, V⟩ := V
      obtain ⟨V10, V11⟩ := V
      refine s_icmp_eq (pc' := 27) (tgt := 37) dX9_leftLatest_24 rfl rfl z6 (by decide) (fun c => ?_) (fun c => ?_)
      · have V := V10 c
        refine s_aload_n (pc' := 38) (x := 65) dX9_leftLatest_37 rfl rfl ?_
        refine s_getF (pc' := 41) (b := 78) (kc := 9) (i := 17) dX9_leftLatest_38 clX9 (by decide) fl_9_17 (fa_t65 sA) (fa_f9_17 sA) (fun _ => rfl) rfl ?_
        refine s_iload_n (pc' := 42) (x := a2) dX9_leftLatest_41 rfl rfl ?_
        refine s_iald (pc' := 43) dX9_leftLatest_42 (fa_t78 sA) z3 (fa_lt78 sA z4) rfl ?_
        refine s_istore_n (pc' := 44) (ls' := [some (vR 65), some (vI (h 78 a2)), some (vI a2)]) dX9_leftLatest_43 (by decide) rfl rfl ?_
        refine s_iinc (pc' := 47) (ls' := [some (vR 65), some (vI (h 78 a2)), some (vI (a2 + 1))]) dX9_leftLatest_44 rfl (by decide) rfl rfl ?_
        refine s_goto (tgt := 4) dX9_leftLatest_47 rfl ?_
        exact V
      · have V := V11 c
        refine s_aload_n (pc' := 28) (x := 65) dX9_leftLatest_27 rfl rfl ?_
        refine s_getF (pc' := 31) (b := 78) (kc := 9) (i := 17) dX9_leftLatest_28 clX9 (by decide) fl_9_17 (fa_t65 sA) (fa_f9_17 sA) (fun _ => rfl) rfl ?_
        refine s_iload_n (pc' := 32) (x := a2) dX9_leftLatest_31 rfl rfl ?_
        refine s_iald (pc' := 33) dX9_leftLatest_32 (fa_t78 sA) z3 (fa_lt78 sA z4) rfl ?_
        refine s_iload_n (pc' := 34) (x := a1) dX9_leftLatest_33 rfl rfl ?_
        obtain ⟨z7, V⟩ := V
        obtain ⟨V8, V9⟩ := V
        refine s_icmp_ge (pc' := 37) (tgt := 44) dX9_leftLatest_34 rfl rfl z7 z6 (fun c => ?_) (fun c => ?_)
        · have V := V8 c
          refine s_iinc (pc' := 47) (ls' := [some (vR 65), some (vI a1), some (vI (a2 + 1))]) dX9_leftLatest_44 rfl (by decide) rfl rfl ?_
          refine s_goto (tgt := 4) dX9_leftLatest_47 rfl ?_
          exact V
        · have V := V9 c
          refine s_aload_n (pc' := 38) (x := 65) dX9_leftLatest_37 rfl rfl ?_
          refine s_getF (pc' := 41) (b := 78) (kc := 9) (i := 17) dX9_leftLatest_38 clX9 (by decide) fl_9_17 (fa_t65 sA) (fa_f9_17 sA) (fun _ => rfl) rfl ?_
          refine s_iload_n (pc' := 42) (x := a2) dX9_leftLatest_41 rfl rfl ?_
          refine s_iald (pc' := 43) dX9_leftLatest_42 (fa_t78 sA) z3 (fa_lt78 sA z4) rfl ?_
          refine s_istore_n (pc' := 44) (ls' := [some (vR 65), some (vI (h 78 a2)), some (vI a2)]) dX9_leftLatest_43 (by decide) rfl rfl ?_
          refine s_iinc (pc' := 47) (ls' := [some (vR 65), some (vI (h 78 a2)), some (vI (a2 + 1))]) dX9_leftLatest_44 rfl (by decide) rfl rfl ?_
          refine s_goto (tgt := 4) dX9_leftLatest_47 rfl ?_
          exact V
theorem e_X9_handWakes {w : WS} {h : AH} {Q : AH → Prop} (X : XV mX9_handWakes 0 [some (vR 65), none] [] w h Q) : CV mX9_handWakes [vR 65] w h Q := CA.of (M := mX9_handWakes) (by decide) rfl (Nat.le_of_ble_eq_true rfl) X
set_option maxRecDepth 20000 in
theorem r_X9_handWakes_0 {w : WS} {h : AH} {Q : AH → Prop} (sA : shA w) (V : XV mX9_handWakes 2 [some (vR 65), some (vI 0)] [] w h Q) : XV mX9_handWakes 0 [some (vR 65), none] [] w h Q := by
  refine s_iconst (pc' := 1) dX9_handWakes_0 rfl ?_
  refine s_istore_n (pc' := 2) (ls' := [some (vR 65), some (vI 0)]) dX9_handWakes_1 (by decide) rfl rfl ?_
  exact V
set_option maxRecDepth 20000 in
theorem r_X9_handWakes_2 {w : WS} {h : AH} {Q : AH → Prop} {a1 : Int} (sA : shA w) (V : (inR a1 ∧ inR (h 65 20) ∧ (((h 65 20) ≤ a1 → (∀ h3, h3 = st h 65 21 ((h 65 21) + 1) → (∀ h5, h5 = st h3 65 22 (h3 65 23) → Q h5))) ∧ (¬ (h 65 20) ≤ a1 → (0 ≤ a1 ∧ a1 < 300 ∧ (inR (h 80 a1) ∧ ((¬ (h 80 a1) = (-1) → XV mX9_handWakes 2 [some (vR 65), some (vI (a1 + 1))] [] w h Q) ∧ ((h 80 a1) = (-1) → (∀ h10, h10 = st h 80 a1 (h 65 23) → XV mX9_handWakes 2 [some (vR 65), some (vI (a1 + 1))] [] w h10 Q))))))))) : XV mX9_handWakes 2 [some (vR 65), some (vI a1)] [] w h Q := by
  refine s_iload_n (pc' := 3) (x := a1) dX9_handWakes_2 rfl rfl ?_
  refine s_aload_n (pc' := 4) (x := 65) dX9_handWakes_3 rfl rfl ?_
  refine s_get (pc' := 7) (v := vI (h 65 20)) (kc := 9) (i := 20) dX9_handWakes_4 clX9 (by decide) fl_9_20 (fa_t65 sA) (fun _ => rfl) rfl ?_
  obtain ⟨z1, z2, V⟩ := V
  obtain ⟨V14, V15⟩ := V
  refine s_icmp_ge (pc' := 10) (tgt := 36) dX9_handWakes_7 rfl rfl z1 z2 (fun c => ?_) (fun c => ?_)
  · have V := V14 c
    refine s_aload_n (pc' := 37) (x := 65) dX9_handWakes_36 rfl rfl ?_
    refine s_dup (pc' := 38) dX9_handWakes_37 (by intro _ q; cases q) rfl ?_
    refine s_get (pc' := 41) (v := vI (h 65 21)) (kc := 9) (i := 21) dX9_handWakes_38 clX9 (by decide) fl_9_21 (fa_t65 sA) (fun _ => rfl) rfl ?_
    refine s_iconst (pc' := 42) dX9_handWakes_41 rfl ?_
    refine s_iadd (pc' := 43) dX9_handWakes_42 rfl ?_
    refine s_put (pc' := 46) (v := vI ((h 65 21) + 1)) (x := ((h 65 21) + 1)) (kc := 9) (i := 21) dX9_handWakes_43 clX9 (by decide) fl_9_21 rfl (fa_t65 sA) (fun E => nar_int E _) (fun _ _ => rfl) (j0 := 21) rfl rfl ?_
    obtain ⟨h3, e4⟩ : ∃ q, q = st h 65 21 ((h 65 21) + 1) := ⟨_, rfl⟩
    rw [← e4]
    have V := V h3 e4
    refine s_aload_n (pc' := 47) (x := 65) dX9_handWakes_46 rfl rfl ?_
    refine s_aload_n (pc' := 48) (x := 65) dX9_handWakes_47 rfl rfl ?_
    refine s_get (pc' := 51) (v := vI (h3 65 23)) (kc := 9) (i := 23) dX9_handWakes_48 clX9 (by decide) fl_9_23 (fa_t65 sA) (fun _ => rfl) rfl ?_
    refine s_put (pc' := 54) (v := vI (h3 65 23)) (x := (h3 65 23)) (kc := 9) (i := 22) dX9_handWakes_51 clX9 (by decide) fl_9_22 rfl (fa_t65 sA) (fun E => nar_int E _) (fun _ _ => rfl) (j0 := 22) rfl rfl ?_
    obtain ⟨h5, e6⟩ : ∃ q, q = st h3 65 22 (h3 65 23) := ⟨_, rfl⟩
    rw [← e6]
    have V := V h5 e6
    exact s_vret dX9_handWakes_54 rfl ⟨rfl, rfl, V⟩
  · have V := V15 c
    refine s_aload_n (pc' := 11) (x := 65) dX9_handWakes_10 rfl rfl ?_
    refine s_getF (pc' := 14) (b := 80) (kc := 9) (i := 19) dX9_handWakes_11 clX9 (by decide) fl_9_19 (fa_t65 sA) (fa_f9_19 sA) (fun _ => rfl) rfl ?_
    refine s_iload_n (pc' := 15) (x := a1) dX9_handWakes_14 rfl rfl ?_
    obtain ⟨z7, z8, V⟩ := V
    refine s_iald (pc' := 16) dX9_handWakes_15 (fa_t80 sA) z7 (fa_lt80 sA z8) rfl ?_
    refine s_iconst (pc' := 17) dX9_handWakes_16 rfl ?_
    obtain ⟨z9, V⟩ := V
    obtain ⟨V12, V13⟩ := V
    refine s_icmp_ne (pc' := 20) (tgt := 30) dX9_handWakes_17 rfl rfl z9 (by decide) (fun c => ?_) (fun c => ?_)
    · have V := V12 c
      refine s_iinc (pc' := 33) (ls' := [some (vR 65), some (vI (a1 + 1))]) dX9_handWakes_30 rfl (by decide) rfl rfl ?_
      refine s_goto (tgt := 2) dX9_handWakes_33 rfl ?_
      exact V
    · have V := V13 c
      refine s_aload_n (pc' := 21) (x := 65) dX9_handWakes_20 rfl rfl ?_
      refine s_getF (pc' := 24) (b := 80) (kc := 9) (i := 19) dX9_handWakes_21 clX9 (by decide) fl_9_19 (fa_t65 sA) (fa_f9_19 sA) (fun _ => rfl) rfl ?_
      refine s_iload_n (pc' := 25) (x := a1) dX9_handWakes_24 rfl rfl ?_
      refine s_aload_n (pc' := 26) (x := 65) dX9_handWakes_25 rfl rfl ?_
      refine s_get (pc' := 29) (v := vI (h 65 23)) (kc := 9) (i := 23) dX9_handWakes_26 clX9 (by decide) fl_9_23 (fa_t65 sA) (fun _ => rfl) rfl ?_
      refine s_iast (pc' := 30) dX9_handWakes_29 (fa_t80 sA) z7 (fa_lt80 sA z8) rfl ?_
      obtain ⟨h10, e11⟩ : ∃ q, q = st h 80 a1 (h 65 23) := ⟨_, rfl⟩
      rw [← e11]
      have V := V h10 e11
      refine s_iinc (pc' := 33) (ls' := [some (vR 65), some (vI (a1 + 1))]) dX9_handWakes_30 rfl (by decide) rfl rfl ?_
      refine s_goto (tgt := 2) dX9_handWakes_33 rfl ?_
      exact V
theorem e_X9_handWaits {w : WS} {h : AH} {Q : Int → AH → Prop} (X : XI mX9_handWaits 0 [some (vR 65), none, none] [] w h Q) : CI mX9_handWaits [vR 65] w h Q := CA.of (M := mX9_handWaits) (by decide) rfl (Nat.le_of_ble_eq_true rfl) X
set_option maxRecDepth 20000 in
theorem r_X9_handWaits_0 {w : WS} {h : AH} {Q : Int → AH → Prop} (sA : shA w) (V : XI mX9_handWaits 4 [some (vR 65), some (vI 0), some (vI 0)] [] w h Q) : XI mX9_handWaits 0 [some (vR 65), none, none] [] w h Q := by
  refine s_iconst (pc' := 1) dX9_handWaits_0 rfl ?_
  refine s_istore_n (pc' := 2) (ls' := [some (vR 65), some (vI 0), none]) dX9_handWaits_1 (by decide) rfl rfl ?_
  refine s_iconst (pc' := 3) dX9_handWaits_2 rfl ?_
  refine s_istore_n (pc' := 4) (ls' := [some (vR 65), some (vI 0), some (vI 0)]) dX9_handWaits_3 (by decide) rfl rfl ?_
  exact V
set_option maxRecDepth 20000 in
theorem r_X9_handWaits_4 {w : WS} {h : AH} {Q : Int → AH → Prop} {a1 a2 : Int} (sA : shA w) (V : (inR a2 ∧ inR (h 65 20) ∧ (((h 65 20) ≤ a2 → Q a1 h) ∧ (¬ (h 65 20) ≤ a2 → (0 ≤ a2 ∧ a2 < 300 ∧ (inR (h 80 a2) ∧ ((¬ (h 80 a2) = (-1) → (∀ y6, y6 = (a1 + ((h 79 a2) * ((h 80 a2) - (h 77 a2)))) → XI mX9_handWaits 4 [some (vR 65), some (vI y6), some (vI (a2 + 1))] [] w h Q)) ∧ ((h 80 a2) = (-1) → XI mX9_handWaits 4 [some (vR 65), some (vI (a1 + 0)), some (vI (a2 + 1))] [] w h Q)))))))) : XI mX9_handWaits 4 [some (vR 65), some (vI a1), some (vI a2)] [] w h Q := by
  refine s_iload_n (pc' := 5) (x := a2) dX9_handWaits_4 rfl rfl ?_
  refine s_aload_n (pc' := 6) (x := 65) dX9_handWaits_5 rfl rfl ?_
  refine s_get (pc' := 9) (v := vI (h 65 20)) (kc := 9) (i := 20) dX9_handWaits_6 clX9 (by decide) fl_9_20 (fa_t65 sA) (fun _ => rfl) rfl ?_
  obtain ⟨z1, z2, V⟩ := V
  obtain ⟨V10, V11⟩ := V
  refine s_icmp_ge (pc' := 12) (tgt := 55) dX9_handWaits_9 rfl rfl z1 z2 (fun c => ?_) (fun c => ?_)
  · have V := V10 c
    refine s_iload_n (pc' := 56) (x := a1) dX9_handWaits_55 rfl rfl ?_
    exact s_iret dX9_handWaits_56 rfl ⟨_, rfl, rfl, V⟩
  · have V := V11 c
    refine s_iload_n (pc' := 13) (x := a1) dX9_handWaits_12 rfl rfl ?_
    refine s_aload_n (pc' := 14) (x := 65) dX9_handWaits_13 rfl rfl ?_
    refine s_getF (pc' := 17) (b := 80) (kc := 9) (i := 19) dX9_handWaits_14 clX9 (by decide) fl_9_19 (fa_t65 sA) (fa_f9_19 sA) (fun _ => rfl) rfl ?_
    refine s_iload_n (pc' := 18) (x := a2) dX9_handWaits_17 rfl rfl ?_
    obtain ⟨z3, z4, V⟩ := V
    refine s_iald (pc' := 19) dX9_handWaits_18 (fa_t80 sA) z3 (fa_lt80 sA z4) rfl ?_
    refine s_iconst (pc' := 20) dX9_handWaits_19 rfl ?_
    obtain ⟨z5, V⟩ := V
    obtain ⟨V8, V9⟩ := V
    refine s_icmp_ne (pc' := 23) (tgt := 27) dX9_handWaits_20 rfl rfl z5 (by decide) (fun c => ?_) (fun c => ?_)
    · have V := V8 c
      refine s_aload_n (pc' := 28) (x := 65) dX9_handWaits_27 rfl rfl ?_
      refine s_getF (pc' := 31) (b := 79) (kc := 9) (i := 18) dX9_handWaits_28 clX9 (by decide) fl_9_18 (fa_t65 sA) (fa_f9_18 sA) (fun _ => rfl) rfl ?_
      refine s_iload_n (pc' := 32) (x := a2) dX9_handWaits_31 rfl rfl ?_
      refine s_iald (pc' := 33) dX9_handWaits_32 (fa_t79 sA) z3 (fa_lt79 sA z4) rfl ?_
      refine s_aload_n (pc' := 34) (x := 65) dX9_handWaits_33 rfl rfl ?_
      refine s_getF (pc' := 37) (b := 80) (kc := 9) (i := 19) dX9_handWaits_34 clX9 (by decide) fl_9_19 (fa_t65 sA) (fa_f9_19 sA) (fun _ => rfl) rfl ?_
      refine s_iload_n (pc' := 38) (x := a2) dX9_handWaits_37 rfl rfl ?_
      refine s_iald (pc' := 39) dX9_handWaits_38 (fa_t80 sA) z3 (fa_lt80 sA z4) rfl ?_
      refine s_aload_n (pc' := 40) (x := 65) dX9_handWaits_39 rfl rfl ?_
      refine s_getF (pc' := 43) (b := 77) (kc := 9) (i := 16) dX9_handWaits_40 clX9 (by decide) fl_9_16 (fa_t65 sA) (fa_f9_16 sA) (fun _ => rfl) rfl ?_
      refine s_iload_n (pc' := 44) (x := a2) dX9_handWaits_43 rfl rfl ?_
      refine s_iald (pc' := 45) dX9_handWaits_44 (fa_t77 sA) z3 (fa_lt77 sA z4) rfl ?_
      refine s_isub (pc' := 46) dX9_handWaits_45 rfl ?_
      refine s_imul (pc' := 47) dX9_handWaits_46 rfl ?_
      refine s_iadd (pc' := 48) dX9_handWaits_47 rfl ?_
      obtain ⟨y6, e7⟩ : ∃ q, q = (a1 + ((h 79 a2) * ((h 80 a2) - (h 77 a2)))) := ⟨_, rfl⟩
      rw [← e7]
      have V := V y6 e7
      refine s_istore_n (pc' := 49) (ls' := [some (vR 65), some (vI y6), some (vI a2)]) dX9_handWaits_48 (by decide) rfl rfl ?_
      refine s_iinc (pc' := 52) (ls' := [some (vR 65), some (vI y6), some (vI (a2 + 1))]) dX9_handWaits_49 rfl (by decide) rfl rfl ?_
      refine s_goto (tgt := 4) dX9_handWaits_52 rfl ?_
      exact V
    · have V := V9 c
      refine s_iconst (pc' := 24) dX9_handWaits_23 rfl ?_
      refine s_goto (tgt := 47) dX9_handWaits_24 rfl ?_
      refine s_iadd (pc' := 48) dX9_handWaits_47 rfl ?_
      refine s_istore_n (pc' := 49) (ls' := [some (vR 65), some (vI (a1 + 0)), some (vI a2)]) dX9_handWaits_48 (by decide) rfl rfl ?_
      refine s_iinc (pc' := 52) (ls' := [some (vR 65), some (vI (a1 + 0)), some (vI (a2 + 1))]) dX9_handWaits_49 rfl (by decide) rfl rfl ?_
      refine s_goto (tgt := 4) dX9_handWaits_52 rfl ?_
      exact V
theorem e_X9_common {w : WS} {h : AH} {Q : Int → AH → Prop} {a0 a1 : Int} (X : XI mX9_common 0 [some (vI a0), some (vI a1), none, none, none] [] w h Q) : CI mX9_common [vI a0, vI a1] w h Q := CA.of (M := mX9_common) (by decide) rfl (Nat.le_of_ble_eq_true rfl) X
set_option maxRecDepth 20000 in
theorem r_X9_common_0 {w : WS} {h : AH} {Q : Int → AH → Prop} {a0 a1 : Int} (sA : shA w) (V : XI mX9_common 4 [none, none, some (vI a0), some (vI a1), none] [] w h Q) : XI mX9_common 0 [some (vI a0), some (vI a1), none, none, none] [] w h Q := by
  refine s_iload_n (pc' := 1) (x := a0) dX9_common_0 rfl rfl ?_
  refine s_istore_n (pc' := 2) (ls' := [some (vI a0), some (vI a1), some (vI a0), none, none]) dX9_common_1 (by decide) rfl rfl ?_
  refine s_iload_n (pc' := 3) (x := a1) dX9_common_2 rfl rfl ?_
  refine s_istore_n (pc' := 4) (ls' := [some (vI a0), some (vI a1), some (vI a0), some (vI a1), none]) dX9_common_3 (by decide) rfl rfl ?_
  refine s_drop 0 (ls' := [none, some (vI a1), some (vI a0), some (vI a1), none]) rfl ?_
  refine s_drop 1 (ls' := [none, none, some (vI a0), some (vI a1), none]) rfl ?_
  exact V
set_option maxRecDepth 20000 in
theorem r_X9_common_4 {w : WS} {h : AH} {Q : Int → AH → Prop} {a2 a3 : Int} (sA : shA w) (V : (inR a3 ∧ ((a3 = 0 → Q a2 h) ∧ (¬ a3 = 0 → ((0 ≤ a2 ∧ a2 ≤ 2147483647) ∧ (0 < a3 ∧ a3 ≤ 2147483647) ∧ XI mX9_common 4 [none, none, some (vI a3), some (vI (a2 % a3)), none] [] w h Q))))) : XI mX9_common 4 [none, none, some (vI a2), some (vI a3), none] [] w h Q := by
  refine s_iload_n (pc' := 5) (x := a3) dX9_common_4 rfl rfl ?_
  obtain ⟨z1, V⟩ := V
  obtain ⟨V4, V5⟩ := V
  refine s_if_eq (pc' := 8) (tgt := 21) dX9_common_5 rfl rfl z1 (fun c => ?_) (fun c => ?_)
  · have V := V4 c
    refine s_iload_n (pc' := 22) (x := a2) dX9_common_21 rfl rfl ?_
    exact s_iret dX9_common_22 rfl ⟨_, rfl, rfl, V⟩
  · have V := V5 c
    refine s_iload_n (pc' := 9) (x := a2) dX9_common_8 rfl rfl ?_
    refine s_iload_n (pc' := 10) (x := a3) dX9_common_9 rfl rfl ?_
    obtain ⟨z2, z3, V⟩ := V
    refine s_irem (pc' := 11) dX9_common_10 z2 z3 rfl ?_
    refine s_istore (pc' := 13) (ls' := [none, none, some (vI a2), some (vI a3), some (vI (a2 % a3))]) dX9_common_11 (by decide) rfl rfl ?_
    refine s_iload_n (pc' := 14) (x := a3) dX9_common_13 rfl rfl ?_
    refine s_istore_n (pc' := 15) (ls' := [none, none, some (vI a3), some (vI a3), some (vI (a2 % a3))]) dX9_common_14 (by decide) rfl rfl ?_
    refine s_iload (pc' := 17) (x := (a2 % a3)) dX9_common_15 rfl rfl ?_
    refine s_istore_n (pc' := 18) (ls' := [none, none, some (vI a3), some (vI (a2 % a3)), some (vI (a2 % a3))]) dX9_common_17 (by decide) rfl rfl ?_
    refine s_goto (tgt := 4) dX9_common_18 rfl ?_
    refine s_drop 4 (ls' := [none, none, some (vI a3), some (vI (a2 % a3)), none]) rfl ?_
    exact V
theorem e_X9_firsts {w : WS} {h : AH} {Q : AH → Prop} {a1 : Int} (X : XV mX9_firsts 0 [some (vR 65), some (vI a1), none] [] w h Q) : CV mX9_firsts [vR 65, vI a1] w h Q := CA.of (M := mX9_firsts) (by decide) rfl (Nat.le_of_ble_eq_true rfl) X
set_option maxRecDepth 20000 in
theorem r_X9_firsts_0 {w : WS} {h : AH} {Q : AH → Prop} {a1 : Int} (sA : shA w) (V : XV mX9_firsts 2 [some (vR 65), some (vI a1), some (vI 0)] [] w h Q) : XV mX9_firsts 0 [some (vR 65), some (vI a1), none] [] w h Q := by
  refine s_iconst (pc' := 1) dX9_firsts_0 rfl ?_
  refine s_istore_n (pc' := 2) (ls' := [some (vR 65), some (vI a1), some (vI 0)]) dX9_firsts_1 (by decide) rfl rfl ?_
  exact V
set_option maxRecDepth 20000 in
theorem r_X9_firsts_2 {w : WS} {h : AH} {Q : AH → Prop} {a1 a2 : Int} (sA : shA w) (V : (inR a2 ∧ ((101 ≤ a2 → (0 ≤ (a1 + 98) ∧ (a1 + 98) < 202 ∧ (∀ h4, h4 = st h 66 (a1 + 98) 60 → (0 ≤ (a1 + 99) ∧ (a1 + 99) < 202 ∧ (∀ h8, h8 = st h4 66 (a1 + 99) 10 → (0 ≤ (a1 + 100) ∧ (a1 + 100) < 202 ∧ (∀ h12, h12 = st h8 66 (a1 + 100) 1 → Q h12))))))) ∧ (¬ 101 ≤ a2 → (0 ≤ (a1 + a2) ∧ (a1 + a2) < 202 ∧ (∀ h16, h16 = st h 66 (a1 + a2) 0 → XV mX9_firsts 2 [some (vR 65), some (vI a1), some (vI (a2 + 1))] [] w h16 Q)))))) : XV mX9_firsts 2 [some (vR 65), some (vI a1), some (vI a2)] [] w h Q := by
  refine s_iload_n (pc' := 3) (x := a2) dX9_firsts_2 rfl rfl ?_
  refine s_bipush (pc' := 5) dX9_firsts_3 (by decide) rfl ?_
  obtain ⟨z1, V⟩ := V
  obtain ⟨V18, V19⟩ := V
  refine s_icmp_ge (pc' := 8) (tgt := 23) dX9_firsts_5 rfl rfl z1 (by decide) (fun c => ?_) (fun c => ?_)
  · have V := V18 c
    refine s_aload_n (pc' := 24) (x := 65) dX9_firsts_23 rfl rfl ?_
    refine s_getF (pc' := 27) (b := 66) (kc := 9) (i := 0) dX9_firsts_24 clX9 (by decide) fl_9_0 (fa_t65 sA) (fa_f9_0 sA) (fun _ => rfl) rfl ?_
    refine s_iload_n (pc' := 28) (x := a1) dX9_firsts_27 rfl rfl ?_
    refine s_bipush (pc' := 30) dX9_firsts_28 (by decide) rfl ?_
    refine s_iadd (pc' := 31) dX9_firsts_30 rfl ?_
    refine s_bipush (pc' := 33) dX9_firsts_31 (by decide) rfl ?_
    obtain ⟨z2, z3, V⟩ := V
    refine s_iast (pc' := 34) dX9_firsts_33 (fa_t66 sA) z2 (fa_lt66 sA z3) rfl ?_
    obtain ⟨h4, e5⟩ : ∃ q, q = st h 66 (a1 + 98) 60 := ⟨_, rfl⟩
    rw [← e5]
    have V := V h4 e5
    refine s_aload_n (pc' := 35) (x := 65) dX9_firsts_34 rfl rfl ?_
    refine s_getF (pc' := 38) (b := 66) (kc := 9) (i := 0) dX9_firsts_35 clX9 (by decide) fl_9_0 (fa_t65 sA) (fa_f9_0 sA) (fun _ => rfl) rfl ?_
    refine s_iload_n (pc' := 39) (x := a1) dX9_firsts_38 rfl rfl ?_
    refine s_bipush (pc' := 41) dX9_firsts_39 (by decide) rfl ?_
    refine s_iadd (pc' := 42) dX9_firsts_41 rfl ?_
    refine s_bipush (pc' := 44) dX9_firsts_42 (by decide) rfl ?_
    obtain ⟨z6, z7, V⟩ := V
    refine s_iast (pc' := 45) dX9_firsts_44 (fa_t66 sA) z6 (fa_lt66 sA z7) rfl ?_
    obtain ⟨h8, e9⟩ : ∃ q, q = st h4 66 (a1 + 99) 10 := ⟨_, rfl⟩
    rw [← e9]
    have V := V h8 e9
    refine s_aload_n (pc' := 46) (x := 65) dX9_firsts_45 rfl rfl ?_
    refine s_getF (pc' := 49) (b := 66) (kc := 9) (i := 0) dX9_firsts_46 clX9 (by decide) fl_9_0 (fa_t65 sA) (fa_f9_0 sA) (fun _ => rfl) rfl ?_
    refine s_iload_n (pc' := 50) (x := a1) dX9_firsts_49 rfl rfl ?_
    refine s_bipush (pc' := 52) dX9_firsts_50 (by decide) rfl ?_
    refine s_iadd (pc' := 53) dX9_firsts_52 rfl ?_
    refine s_iconst (pc' := 54) dX9_firsts_53 rfl ?_
    obtain ⟨z10, z11, V⟩ := V
    refine s_iast (pc' := 55) dX9_firsts_54 (fa_t66 sA) z10 (fa_lt66 sA z11) rfl ?_
    obtain ⟨h12, e13⟩ : ∃ q, q = st h8 66 (a1 + 100) 1 := ⟨_, rfl⟩
    rw [← e13]
    have V := V h12 e13
    exact s_vret dX9_firsts_55 rfl ⟨rfl, rfl, V⟩
  · have V := V19 c
    refine s_aload_n (pc' := 9) (x := 65) dX9_firsts_8 rfl rfl ?_
    refine s_getF (pc' := 12) (b := 66) (kc := 9) (i := 0) dX9_firsts_9 clX9 (by decide) fl_9_0 (fa_t65 sA) (fa_f9_0 sA) (fun _ => rfl) rfl ?_
    refine s_iload_n (pc' := 13) (x := a1) dX9_firsts_12 rfl rfl ?_
    refine s_iload_n (pc' := 14) (x := a2) dX9_firsts_13 rfl rfl ?_
    refine s_iadd (pc' := 15) dX9_firsts_14 rfl ?_
    refine s_iconst (pc' := 16) dX9_firsts_15 rfl ?_
    obtain ⟨z14, z15, V⟩ := V
    refine s_iast (pc' := 17) dX9_firsts_16 (fa_t66 sA) z14 (fa_lt66 sA z15) rfl ?_
    obtain ⟨h16, e17⟩ : ∃ q, q = st h 66 (a1 + a2) 0 := ⟨_, rfl⟩
    rw [← e17]
    have V := V h16 e17
    refine s_iinc (pc' := 20) (ls' := [some (vR 65), some (vI a1), some (vI (a2 + 1))]) dX9_firsts_17 rfl (by decide) rfl rfl ?_
    refine s_goto (tgt := 2) dX9_firsts_20 rfl ?_
    exact V
