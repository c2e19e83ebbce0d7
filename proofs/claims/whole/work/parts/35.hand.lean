/-! ===== WakeSaver$Hand ===== -/
def shHand (w : WS) (g : Int) : Prop := wt w g = 11 ∧ wf w g 0 = g + 1 ∧ wf w g 1 = g + 6 ∧ shCalls w (g + 1) ∧ shWakes w (g + 6) ∧ wl w (g + 2) = 300 ∧ wl w (g + 7) = 300
theorem e_X1_setRule {w : WS} {h : AH} {Q : AH → Prop} {a0 a1 : Int} (X : XV mX1_setRule 0 [some (vR a0), some (vI a1)] [] w h Q) : CV mX1_setRule [vR a0, vI a1] w h Q := CA.of (M := mX1_setRule) (by decide) rfl (Nat.le_of_ble_eq_true rfl) X
set_option maxRecDepth 20000 in
theorem r_X1_setRule_0 {w : WS} {h : AH} {Q : AH → Prop} {a0 a1 : Int} (V : (wt w a0 = 11 ∧ (∀ h2, h2 = st h a0 10 a1 → Q h2))) : XV mX1_setRule 0 [some (vR a0), some (vI a1)] [] w h Q := by
  refine s_aload_n (pc' := 1) (x := a0) dX1_setRule_0 rfl rfl ?_
  refine s_iload_n (pc' := 2) (x := a1) dX1_setRule_1 rfl rfl ?_
  obtain ⟨z1, V⟩ := V
  refine s_put (pc' := 5) (v := vI a1) (x := a1) (kc := 1) (i := 10) dX1_setRule_2 clX1 (by decide) fl_1_10 rfl z1 (fun E => nar_int E _) (fun _ _ => rfl) (j0 := 10) rfl rfl ?_
  obtain ⟨h2, e3⟩ : ∃ q, q = st h a0 10 a1 := ⟨_, rfl⟩
  rw [← e3]
  have V := V h2 e3
  exact s_vret dX1_setRule_5 rfl ⟨rfl, rfl, V⟩
theorem e_X1_ruleNow {w : WS} {h : AH} {Q : Int → AH → Prop} {a0 : Int} (X : XI mX1_ruleNow 0 [some (vR a0)] [] w h Q) : CI mX1_ruleNow [vR a0] w h Q := CA.of (M := mX1_ruleNow) (by decide) rfl (Nat.le_of_ble_eq_true rfl) X
set_option maxRecDepth 20000 in
theorem r_X1_ruleNow_0 {w : WS} {h : AH} {Q : Int → AH → Prop} {a0 : Int} (V : (wt w a0 = 11 ∧ Q (h a0 10) h)) : XI mX1_ruleNow 0 [some (vR a0)] [] w h Q := by
  refine s_aload_n (pc' := 1) (x := a0) dX1_ruleNow_0 rfl rfl ?_
  obtain ⟨z1, V⟩ := V
  refine s_get (pc' := 4) (v := vI (h a0 10)) (kc := 1) (i := 10) dX1_ruleNow_1 clX1 (by decide) fl_1_10 z1 (fun _ => rfl) rfl ?_
  exact s_iret dX1_ruleNow_4 rfl ⟨_, rfl, rfl, V⟩
theorem e_X1_tick {w : WS} {h : AH} {Q : Int → AH → Prop} {a0 : Int} (X : XI mX1_tick 0 [some (vR a0)] [] w h Q) : CI mX1_tick [vR a0] w h Q := CA.of (M := mX1_tick) (by decide) rfl (Nat.le_of_ble_eq_true rfl) X
set_option maxRecDepth 20000 in
theorem r_X1_tick_0 {w : WS} {h : AH} {Q : Int → AH → Prop} {a0 : Int} (V : (wt w a0 = 11 ∧ Q (h a0 9) h)) : XI mX1_tick 0 [some (vR a0)] [] w h Q := by
  refine s_aload_n (pc' := 1) (x := a0) dX1_tick_0 rfl rfl ?_
  obtain ⟨z1, V⟩ := V
  refine s_get (pc' := 4) (v := vI (h a0 9)) (kc := 1) (i := 9) dX1_tick_1 clX1 (by decide) fl_1_9 z1 (fun _ => rfl) rfl ?_
  exact s_iret dX1_tick_4 rfl ⟨_, rfl, rfl, V⟩
theorem e_X1_rungCalls {w : WS} {h : AH} {Q : Int → AH → Prop} {a0 : Int} (X : XI mX1_rungCalls 0 [some (vR a0)] [] w h Q) : CI mX1_rungCalls [vR a0] w h Q := CA.of (M := mX1_rungCalls) (by decide) rfl (Nat.le_of_ble_eq_true rfl) X
set_option maxRecDepth 20000 in
theorem r_X1_rungCalls_0 {w : WS} {h : AH} {Q : Int → AH → Prop} {a0 : Int} (V : (wt w a0 = 11 ∧ Q (h a0 4) h)) : XI mX1_rungCalls 0 [some (vR a0)] [] w h Q := by
  refine s_aload_n (pc' := 1) (x := a0) dX1_rungCalls_0 rfl rfl ?_
  obtain ⟨z1, V⟩ := V
  refine s_get (pc' := 4) (v := vI (h a0 4)) (kc := 1) (i := 4) dX1_rungCalls_1 clX1 (by decide) fl_1_4 z1 (fun _ => rfl) rfl ?_
  exact s_iret dX1_rungCalls_4 rfl ⟨_, rfl, rfl, V⟩
theorem e_X1_callsCame {w : WS} {h : AH} {Q : Int → AH → Prop} {a0 : Int} (X : XI mX1_callsCame 0 [some (vR a0)] [] w h Q) : CI mX1_callsCame [vR a0] w h Q := CA.of (M := mX1_callsCame) (by decide) rfl (Nat.le_of_ble_eq_true rfl) X
set_option maxRecDepth 20000 in
theorem r_X1_callsCame_0 {w : WS} {h : AH} {Q : Int → AH → Prop} {a0 : Int} (V : (wt w a0 = 11 ∧ (wt w (wf w a0 0) = 10 ∧ Q (h (wf w a0 0) 4) h))) : XI mX1_callsCame 0 [some (vR a0)] [] w h Q := by
  refine s_aload_n (pc' := 1) (x := a0) dX1_callsCame_0 rfl rfl ?_
  obtain ⟨z1, V⟩ := V
  refine s_get (pc' := 4) (v := vR (wf w a0 0)) (kc := 1) (i := 0) dX1_callsCame_1 clX1 (by decide) fl_1_0 z1 (fun _ => rfl) rfl ?_
  obtain ⟨z2, V⟩ := V
  refine s_callV (pc' := 7) (av := []) (a := (wf w a0 0)) (sk := []) (kc := 0) dX1_callsCame_4 ml_1_63 okX0_size oiX0_size (by decide) (NF := 5) rfl z2 rfl (Nat.le_of_ble_eq_true rfl) (Nat.le_refl 0) (Nat.le_refl 0) rfl (CI.eon (c_X0_size z2) ?_)
  exact s_iret dX1_callsCame_7 rfl ⟨_, rfl, rfl, V⟩
theorem e_X1_openCalls {w : WS} {h : AH} {Q : Int → AH → Prop} {a0 : Int} (X : XI mX1_openCalls 0 [some (vR a0)] [] w h Q) : CI mX1_openCalls [vR a0] w h Q := CA.of (M := mX1_openCalls) (by decide) rfl (Nat.le_of_ble_eq_true rfl) X
set_option maxRecDepth 20000 in
theorem r_X1_openCalls_0 {w : WS} {h : AH} {Q : Int → AH → Prop} {a0 : Int} (V : (wt w a0 = 11 ∧ (wt w (wf w a0 0) = 10 ∧ Q ((h (wf w a0 0) 4) - (h a0 5)) h))) : XI mX1_openCalls 0 [some (vR a0)] [] w h Q := by
  refine s_aload_n (pc' := 1) (x := a0) dX1_openCalls_0 rfl rfl ?_
  obtain ⟨z1, V⟩ := V
  refine s_get (pc' := 4) (v := vR (wf w a0 0)) (kc := 1) (i := 0) dX1_openCalls_1 clX1 (by decide) fl_1_0 z1 (fun _ => rfl) rfl ?_
  obtain ⟨z2, V⟩ := V
  refine s_callV (pc' := 7) (av := []) (a := (wf w a0 0)) (sk := []) (kc := 0) dX1_openCalls_4 ml_1_63 okX0_size oiX0_size (by decide) (NF := 5) rfl z2 rfl (Nat.le_of_ble_eq_true rfl) (Nat.le_refl 0) (Nat.le_refl 0) rfl (CI.eon (c_X0_size z2) ?_)
  refine s_aload_n (pc' := 8) (x := a0) dX1_openCalls_7 rfl rfl ?_
  refine s_get (pc' := 11) (v := vI (h a0 5)) (kc := 1) (i := 5) dX1_openCalls_8 clX1 (by decide) fl_1_5 z1 (fun _ => rfl) rfl ?_
  refine s_isub (pc' := 12) dX1_openCalls_11 rfl ?_
  exact s_iret dX1_openCalls_12 rfl ⟨_, rfl, rfl, V⟩
theorem e_X1_wakeups {w : WS} {h : AH} {Q : Int → AH → Prop} {a0 : Int} (X : XI mX1_wakeups 0 [some (vR a0)] [] w h Q) : CI mX1_wakeups [vR a0] w h Q := CA.of (M := mX1_wakeups) (by decide) rfl (Nat.le_of_ble_eq_true rfl) X
set_option maxRecDepth 20000 in
theorem r_X1_wakeups_0 {w : WS} {h : AH} {Q : Int → AH → Prop} {a0 : Int} (V : (wt w a0 = 11 ∧ Q (h a0 6) h)) : XI mX1_wakeups 0 [some (vR a0)] [] w h Q := by
  refine s_aload_n (pc' := 1) (x := a0) dX1_wakeups_0 rfl rfl ?_
  obtain ⟨z1, V⟩ := V
  refine s_get (pc' := 4) (v := vI (h a0 6)) (kc := 1) (i := 6) dX1_wakeups_1 clX1 (by decide) fl_1_6 z1 (fun _ => rfl) rfl ?_
  exact s_iret dX1_wakeups_4 rfl ⟨_, rfl, rfl, V⟩
theorem e_X1_latestWake {w : WS} {h : AH} {Q : Int → AH → Prop} {a0 : Int} (X : XI mX1_latestWake 0 [some (vR a0)] [] w h Q) : CI mX1_latestWake [vR a0] w h Q := CA.of (M := mX1_latestWake) (by decide) rfl (Nat.le_of_ble_eq_true rfl) X
set_option maxRecDepth 20000 in
theorem r_X1_latestWake_0 {w : WS} {h : AH} {Q : Int → AH → Prop} {a0 : Int} (V : (wt w a0 = 11 ∧ Q (h a0 8) h)) : XI mX1_latestWake 0 [some (vR a0)] [] w h Q := by
  refine s_aload_n (pc' := 1) (x := a0) dX1_latestWake_0 rfl rfl ?_
  obtain ⟨z1, V⟩ := V
  refine s_get (pc' := 4) (v := vI (h a0 8)) (kc := 1) (i := 8) dX1_latestWake_1 clX1 (by decide) fl_1_8 z1 (fun _ => rfl) rfl ?_
  exact s_iret dX1_latestWake_4 rfl ⟨_, rfl, rfl, V⟩
theorem e_X1_costSoFar {w : WS} {h : AH} {Q : Int → AH → Prop} {a0 a1 : Int} (X : XI mX1_costSoFar 0 [some (vR a0), some (vI a1)] [] w h Q) : CI mX1_costSoFar [vR a0, vI a1] w h Q := CA.of (M := mX1_costSoFar) (by decide) rfl (Nat.le_of_ble_eq_true rfl) X
set_option maxRecDepth 20000 in
theorem r_X1_costSoFar_0 {w : WS} {h : AH} {Q : Int → AH → Prop} {a0 a1 : Int} (V : (wt w a0 = 11 ∧ Q ((a1 * (h a0 6)) + (h a0 7)) h)) : XI mX1_costSoFar 0 [some (vR a0), some (vI a1)] [] w h Q := by
  refine s_iload_n (pc' := 1) (x := a1) dX1_costSoFar_0 rfl rfl ?_
  refine s_aload_n (pc' := 2) (x := a0) dX1_costSoFar_1 rfl rfl ?_
  obtain ⟨z1, V⟩ := V
  refine s_get (pc' := 5) (v := vI (h a0 6)) (kc := 1) (i := 6) dX1_costSoFar_2 clX1 (by decide) fl_1_6 z1 (fun _ => rfl) rfl ?_
  refine s_imul (pc' := 6) dX1_costSoFar_5 rfl ?_
  refine s_aload_n (pc' := 7) (x := a0) dX1_costSoFar_6 rfl rfl ?_
  refine s_get (pc' := 10) (v := vI (h a0 7)) (kc := 1) (i := 7) dX1_costSoFar_7 clX1 (by decide) fl_1_7 z1 (fun _ => rfl) rfl ?_
  refine s_iadd (pc' := 11) dX1_costSoFar_10 rfl ?_
  exact s_iret dX1_costSoFar_11 rfl ⟨_, rfl, rfl, V⟩
section
variable {w : WS} {h : AH} {g k : Int}
theorem c_X1_setRule (s0 : wt w g = 11) : CV mX1_setRule [vR g, vI k] w h (fun h' => h' = st h g 10 k) := e_X1_setRule (r_X1_setRule_0 ⟨s0, fun _ e => e⟩)
theorem c_X1_ruleNow (s0 : wt w g = 11) : CI mX1_ruleNow [vR g] w h (fun x h' => x = h g 10 ∧ h' = h) := e_X1_ruleNow (r_X1_ruleNow_0 ⟨s0, rfl, rfl⟩)
theorem c_X1_tick (s0 : wt w g = 11) : CI mX1_tick [vR g] w h (fun x h' => x = h g 9 ∧ h' = h) := e_X1_tick (r_X1_tick_0 ⟨s0, rfl, rfl⟩)
theorem c_X1_rungCalls (s0 : wt w g = 11) : CI mX1_rungCalls [vR g] w h (fun x h' => x = h g 4 ∧ h' = h) := e_X1_rungCalls (r_X1_rungCalls_0 ⟨s0, rfl, rfl⟩)
theorem c_X1_wakeups (s0 : wt w g = 11) : CI mX1_wakeups [vR g] w h (fun x h' => x = h g 6 ∧ h' = h) := e_X1_wakeups (r_X1_wakeups_0 ⟨s0, rfl, rfl⟩)
theorem c_X1_latestWake (s0 : wt w g = 11) : CI mX1_latestWake [vR g] w h (fun x h' => x = h g 8 ∧ h' = h) := e_X1_latestWake (r_X1_latestWake_0 ⟨s0, rfl, rfl⟩)
theorem c_X1_costSoFar (s0 : wt w g = 11) : CI mX1_costSoFar [vR g, vI k] w h (fun x h' => x = k * h g 6 + h g 7 ∧ h' = h) := e_X1_costSoFar (r_X1_costSoFar_0 ⟨s0, rfl, rfl⟩)
theorem c_X1_callsCame (sg : shHand w g) : CI mX1_callsCame [vR g] w h (fun x h' => x = h (g + 1) 4 ∧ h' = h) := by
  refine e_X1_callsCame (r_X1_callsCame_0 ?_)
  rw [sg.2.1]
  exact ⟨sg.1, sg.2.2.2.1.1, rfl, rfl⟩
theorem c_X1_openCalls (sg : shHand w g) : CI mX1_openCalls [vR g] w h (fun x h' => x = h (g + 1) 4 - h g 5 ∧ h' = h) := by
  refine e_X1_openCalls (r_X1_openCalls_0 ?_)
  rw [sg.2.1]
  exact ⟨sg.1, sg.2.2.2.1.1, rfl, rfl⟩
end
theorem e_X1_openWaits {w : WS} {h : AH} {Q : Int → AH → Prop} {a0 : Int} (X : XI mX1_openWaits 0 [some (vR a0)] [] w h Q) : CI mX1_openWaits [vR a0] w h Q := CA.of (M := mX1_openWaits) (by decide) rfl (Nat.le_of_ble_eq_true rfl) X
set_option maxRecDepth 20000 in
theorem r_X1_openWaits_0 {w : WS} {h : AH} {Q : Int → AH → Prop} {a0 : Int} (V : (wt w a0 = 11 ∧ (wt w (wf w a0 0) = 10 ∧ CI mX0_waitsAt [vR (wf w a0 0), vI (h a0 9), vI (h a0 5), vI (h (wf w a0 0) 4)] w h (fun x4 h3 => Q x4 h3)))) : XI mX1_openWaits 0 [some (vR a0)] [] w h Q := by
  refine s_aload_n (pc' := 1) (x := a0) dX1_openWaits_0 rfl rfl ?_
  obtain ⟨z1, V⟩ := V
  refine s_get (pc' := 4) (v := vR (wf w a0 0)) (kc := 1) (i := 0) dX1_openWaits_1 clX1 (by decide) fl_1_0 z1 (fun _ => rfl) rfl ?_
  refine s_aload_n (pc' := 5) (x := a0) dX1_openWaits_4 rfl rfl ?_
  refine s_get (pc' := 8) (v := vI (h a0 9)) (kc := 1) (i := 9) dX1_openWaits_5 clX1 (by decide) fl_1_9 z1 (fun _ => rfl) rfl ?_
  refine s_aload_n (pc' := 9) (x := a0) dX1_openWaits_8 rfl rfl ?_
  refine s_get (pc' := 12) (v := vI (h a0 5)) (kc := 1) (i := 5) dX1_openWaits_9 clX1 (by decide) fl_1_5 z1 (fun _ => rfl) rfl ?_
  refine s_aload_n (pc' := 13) (x := a0) dX1_openWaits_12 rfl rfl ?_
  refine s_get (pc' := 16) (v := vR (wf w a0 0)) (kc := 1) (i := 0) dX1_openWaits_13 clX1 (by decide) fl_1_0 z1 (fun _ => rfl) rfl ?_
  obtain ⟨z2, V⟩ := V
  refine s_callV (pc' := 19) (av := []) (a := (wf w a0 0)) (sk := [vI (h a0 5), vI (h a0 9), vR (wf w a0 0)]) (kc := 0) dX1_openWaits_16 ml_1_63 okX0_size oiX0_size (by decide) (NF := 5) rfl z2 rfl (Nat.le_of_ble_eq_true rfl) (Nat.le_refl 0) (Nat.le_refl 0) rfl (CI.eon (c_X0_size z2) ?_)
  refine s_callV (pc' := 22) (av := [vI (h a0 9), vI (h a0 5), vI (h (wf w a0 0) 4)]) (a := (wf w a0 0)) (sk := []) (kc := 0) dX1_openWaits_19 ml_1_94 okX0_waitsAt oiX0_waitsAt (by decide) (NF := 5) rfl z2 rfl (Nat.le_of_ble_eq_true rfl) (Nat.le_refl 0) (Nat.le_refl 0) rfl (CI.on V (fun x4 h3 V => ?_))
  exact s_iret dX1_openWaits_22 rfl ⟨_, rfl, rfl, V⟩
theorem e_X1_openLatest {w : WS} {h : AH} {Q : Int → AH → Prop} {a0 : Int} (X : XI mX1_openLatest 0 [some (vR a0)] [] w h Q) : CI mX1_openLatest [vR a0] w h Q := CA.of (M := mX1_openLatest) (by decide) rfl (Nat.le_of_ble_eq_true rfl) X
set_option maxRecDepth 20000 in
theorem r_X1_openLatest_0 {w : WS} {h : AH} {Q : Int → AH → Prop} {a0 : Int} (V : (wt w a0 = 11 ∧ (wt w (wf w a0 0) = 10 ∧ CI mX0_leastLatest [vR (wf w a0 0), vI (h a0 5), vI (h (wf w a0 0) 4)] w h (fun x4 h3 => Q x4 h3)))) : XI mX1_openLatest 0 [some (vR a0)] [] w h Q := by
  refine s_aload_n (pc' := 1) (x := a0) dX1_openLatest_0 rfl rfl ?_
  obtain ⟨z1, V⟩ := V
  refine s_get (pc' := 4) (v := vR (wf w a0 0)) (kc := 1) (i := 0) dX1_openLatest_1 clX1 (by decide) fl_1_0 z1 (fun _ => rfl) rfl ?_
  refine s_aload_n (pc' := 5) (x := a0) dX1_openLatest_4 rfl rfl ?_
  refine s_get (pc' := 8) (v := vI (h a0 5)) (kc := 1) (i := 5) dX1_openLatest_5 clX1 (by decide) fl_1_5 z1 (fun _ => rfl) rfl ?_
  refine s_aload_n (pc' := 9) (x := a0) dX1_openLatest_8 rfl rfl ?_
  refine s_get (pc' := 12) (v := vR (wf w a0 0)) (kc := 1) (i := 0) dX1_openLatest_9 clX1 (by decide) fl_1_0 z1 (fun _ => rfl) rfl ?_
  obtain ⟨z2, V⟩ := V
  refine s_callV (pc' := 15) (av := []) (a := (wf w a0 0)) (sk := [vI (h a0 5), vR (wf w a0 0)]) (kc := 0) dX1_openLatest_12 ml_1_63 okX0_size oiX0_size (by decide) (NF := 5) rfl z2 rfl (Nat.le_of_ble_eq_true rfl) (Nat.le_refl 0) (Nat.le_refl 0) rfl (CI.eon (c_X0_size z2) ?_)
  refine s_callV (pc' := 18) (av := [vI (h a0 5), vI (h (wf w a0 0) 4)]) (a := (wf w a0 0)) (sk := []) (kc := 0) dX1_openLatest_15 ml_1_98 okX0_leastLatest oiX0_leastLatest (by decide) (NF := 5) rfl z2 rfl (Nat.le_of_ble_eq_true rfl) (Nat.le_refl 0) (Nat.le_refl 0) rfl (CI.on V (fun x4 h3 V => ?_))
  exact s_iret dX1_openLatest_18 rfl ⟨_, rfl, rfl, V⟩
theorem e_X1_wakeHere {w : WS} {h : AH} {Q : AH → Prop} {a0 : Int} (X : XV mX1_wakeHere 0 [some (vR a0)] [] w h Q) : CV mX1_wakeHere [vR a0] w h Q := CA.of (M := mX1_wakeHere) (by decide) rfl (Nat.le_of_ble_eq_true rfl) X
set_option maxRecDepth 20000 in
theorem r_X1_wakeHere_0 {w : WS} {h : AH} {Q : AH → Prop} {a0 : Int} (V : (wt w a0 = 11 ∧ CI mX1_openWaits [vR a0] w h (fun x3 h2 => (∀ h4, h4 = st h2 a0 7 ((h a0 7) + x3) → (wt w (wf w a0 0) = 10 ∧ (∀ h7, h7 = st h4 a0 5 (h4 (wf w a0 0) 4) → (∀ h9, h9 = st h7 a0 6 ((h7 a0 6) + 1) → (∀ h11, h11 = st h9 a0 8 (h9 a0 9) → Q h11)))))))) : XV mX1_wakeHere 0 [some (vR a0)] [] w h Q := by
  refine s_aload_n (pc' := 1) (x := a0) dX1_wakeHere_0 rfl rfl ?_
  refine s_dup (pc' := 2) dX1_wakeHere_1 (by intro _ q; cases q) rfl ?_
  obtain ⟨z1, V⟩ := V
  refine s_get (pc' := 5) (v := vI (h a0 7)) (kc := 1) (i := 7) dX1_wakeHere_2 clX1 (by decide) fl_1_7 z1 (fun _ => rfl) rfl ?_
  refine s_aload_n (pc' := 6) (x := a0) dX1_wakeHere_5 rfl rfl ?_
  refine s_callV (pc' := 9) (av := []) (a := a0) (sk := [vI (h a0 7), vR a0]) (kc := 1) dX1_wakeHere_6 ml_1_91 okX1_openWaits oiX1_openWaits (by decide) (NF := 11) rfl z1 rfl (Nat.le_of_ble_eq_true rfl) (Nat.le_refl 0) (Nat.le_refl 0) rfl (CI.on V (fun x3 h2 V => ?_))
  refine s_iadd (pc' := 10) dX1_wakeHere_9 rfl ?_
  refine s_put (pc' := 13) (v := vI ((h a0 7) + x3)) (x := ((h a0 7) + x3)) (kc := 1) (i := 7) dX1_wakeHere_10 clX1 (by decide) fl_1_7 rfl z1 (fun E => nar_int E _) (fun _ _ => rfl) (j0 := 7) rfl rfl ?_
  obtain ⟨h4, e5⟩ : ∃ q, q = st h2 a0 7 ((h a0 7) + x3) := ⟨_, rfl⟩
  rw [← e5]
  have V := V h4 e5
  refine s_aload_n (pc' := 14) (x := a0) dX1_wakeHere_13 rfl rfl ?_
  refine s_aload_n (pc' := 15) (x := a0) dX1_wakeHere_14 rfl rfl ?_
  refine s_get (pc' := 18) (v := vR (wf w a0 0)) (kc := 1) (i := 0) dX1_wakeHere_15 clX1 (by decide) fl_1_0 z1 (fun _ => rfl) rfl ?_
  obtain ⟨z6, V⟩ := V
  refine s_callV (pc' := 21) (av := []) (a := (wf w a0 0)) (sk := [vR a0]) (kc := 0) dX1_wakeHere_18 ml_1_63 okX0_size oiX0_size (by decide) (NF := 5) rfl z6 rfl (Nat.le_of_ble_eq_true rfl) (Nat.le_refl 0) (Nat.le_refl 0) rfl (CI.eon (c_X0_size z6) ?_)
  refine s_put (pc' := 24) (v := vI (h4 (wf w a0 0) 4)) (x := (h4 (wf w a0 0) 4)) (kc := 1) (i := 5) dX1_wakeHere_21 clX1 (by decide) fl_1_5 rfl z1 (fun E => nar_int E _) (fun _ _ => rfl) (j0 := 5) rfl rfl ?_
  obtain ⟨h7, e8⟩ : ∃ q, q = st h4 a0 5 (h4 (wf w a0 0) 4) := ⟨_, rfl⟩
  rw [← e8]
  have V := V h7 e8
  refine s_aload_n (pc' := 25) (x := a0) dX1_wakeHere_24 rfl rfl ?_
  refine s_dup (pc' := 26) dX1_wakeHere_25 (by intro _ q; cases q) rfl ?_
  refine s_get (pc' := 29) (v := vI (h7 a0 6)) (kc := 1) (i := 6) dX1_wakeHere_26 clX1 (by decide) fl_1_6 z1 (fun _ => rfl) rfl ?_
  refine s_iconst (pc' := 30) dX1_wakeHere_29 rfl ?_
  refine s_iadd (pc' := 31) dX1_wakeHere_30 rfl ?_
  refine s_put (pc' := 34) (v := vI ((h7 a0 6) + 1)) (x := ((h7 a0 6) + 1)) (kc := 1) (i := 6) dX1_wakeHere_31 clX1 (by decide) fl_1_6 rfl z1 (fun E => nar_int E _) (fun _ _ => rfl) (j0 := 6) rfl rfl ?_
  obtain ⟨h9, e10⟩ : ∃ q, q = st h7 a0 6 ((h7 a0 6) + 1) := ⟨_, rfl⟩
  rw [← e10]
  have V := V h9 e10
  refine s_aload_n (pc' := 35) (x := a0) dX1_wakeHere_34 rfl rfl ?_
  refine s_aload_n (pc' := 36) (x := a0) dX1_wakeHere_35 rfl rfl ?_
  refine s_get (pc' := 39) (v := vI (h9 a0 9)) (kc := 1) (i := 9) dX1_wakeHere_36 clX1 (by decide) fl_1_9 z1 (fun _ => rfl) rfl ?_
  refine s_put (pc' := 42) (v := vI (h9 a0 9)) (x := (h9 a0 9)) (kc := 1) (i := 8) dX1_wakeHere_39 clX1 (by decide) fl_1_8 rfl z1 (fun E => nar_int E _) (fun _ _ => rfl) (j0 := 8) rfl rfl ?_
  obtain ⟨h11, e12⟩ : ∃ q, q = st h9 a0 8 (h9 a0 9) := ⟨_, rfl⟩
  rw [← e12]
  have V := V h11 e12
  exact s_vret dX1_wakeHere_42 rfl ⟨rfl, rfl, V⟩
theorem e_X1_addRung {w : WS} {h : AH} {Q : AH → Prop} {a0 a1 a2 : Int} (X : XV mX1_addRung 0 [some (vR a0), some (vI a1), some (vI a2)] [] w h Q) : CV mX1_addRung [vR a0, vI a1, vI a2] w h Q := CA.of (M := mX1_addRung) (by decide) rfl (Nat.le_of_ble_eq_true rfl) X
set_option maxRecDepth 20000 in
theorem r_X1_addRung_0 {w : WS} {h : AH} {Q : AH → Prop} {a0 a1 a2 : Int} (V : (wt w a0 = 11 ∧ (wt w (wf w a0 0) = 10 ∧ CV mX0_add [vR (wf w a0 0), vI (h a0 9), vI a1, vI a2, vI (-1)] w h (fun h3 => (∀ h4, h4 = st h3 a0 4 ((h3 a0 4) + 1) → (∀ h6, h6 = st h4 a0 2 0 → (inR (h6 a0 8) ∧ inR (h6 a0 9) ∧ ((¬ (h6 a0 8) = (h6 a0 9) → Q h6) ∧ ((h6 a0 8) = (h6 a0 9) → (∀ h10, h10 = st h6 a0 5 (h6 (wf w a0 0) 4) → Q h10)))))))))) : XV mX1_addRung 0 [some (vR a0), some (vI a1), some (vI a2)] [] w h Q := by
  refine s_aload_n (pc' := 1) (x := a0) dX1_addRung_0 rfl rfl ?_
  obtain ⟨z1, V⟩ := V
  refine s_get (pc' := 4) (v := vR (wf w a0 0)) (kc := 1) (i := 0) dX1_addRung_1 clX1 (by decide) fl_1_0 z1 (fun _ => rfl) rfl ?_
  refine s_aload_n (pc' := 5) (x := a0) dX1_addRung_4 rfl rfl ?_
  refine s_get (pc' := 8) (v := vI (h a0 9)) (kc := 1) (i := 9) dX1_addRung_5 clX1 (by decide) fl_1_9 z1 (fun _ => rfl) rfl ?_
  refine s_iload_n (pc' := 9) (x := a1) dX1_addRung_8 rfl rfl ?_
  refine s_iload_n (pc' := 10) (x := a2) dX1_addRung_9 rfl rfl ?_
  refine s_iconst (pc' := 11) dX1_addRung_10 rfl ?_
  obtain ⟨z2, V⟩ := V
  refine s_callV (pc' := 14) (av := [vI (h a0 9), vI a1, vI a2, vI (-1)]) (a := (wf w a0 0)) (sk := []) (kc := 0) dX1_addRung_11 ml_1_80 okX0_add oiX0_add (by decide) (NF := 5) rfl z2 rfl (Nat.le_of_ble_eq_true rfl) (Nat.le_refl 0) (Nat.le_refl 0) rfl (CV.on V (fun h3 V => ?_))
  refine s_aload_n (pc' := 15) (x := a0) dX1_addRung_14 rfl rfl ?_
  refine s_dup (pc' := 16) dX1_addRung_15 (by intro _ q; cases q) rfl ?_
  refine s_get (pc' := 19) (v := vI (h3 a0 4)) (kc := 1) (i := 4) dX1_addRung_16 clX1 (by decide) fl_1_4 z1 (fun _ => rfl) rfl ?_
  refine s_iconst (pc' := 20) dX1_addRung_19 rfl ?_
  refine s_iadd (pc' := 21) dX1_addRung_20 rfl ?_
  refine s_put (pc' := 24) (v := vI ((h3 a0 4) + 1)) (x := ((h3 a0 4) + 1)) (kc := 1) (i := 4) dX1_addRung_21 clX1 (by decide) fl_1_4 rfl z1 (fun E => nar_int E _) (fun _ _ => rfl) (j0 := 4) rfl rfl ?_
  obtain ⟨h4, e5⟩ : ∃ q, q = st h3 a0 4 ((h3 a0 4) + 1) := ⟨_, rfl⟩
  rw [← e5]
  have V := V h4 e5
  refine s_aload_n (pc' := 25) (x := a0) dX1_addRung_24 rfl rfl ?_
  refine s_iconst (pc' := 26) dX1_addRung_25 rfl ?_
  refine s_put (pc' := 29) (v := vI 0) (x := 0) (kc := 1) (i := 2) dX1_addRung_26 clX1 (by decide) fl_1_2 rfl z1 (fun E => nar_bool E (by decide)) (fun _ _ => rfl) (j0 := 2) rfl rfl ?_
  obtain ⟨h6, e7⟩ : ∃ q, q = st h4 a0 2 0 := ⟨_, rfl⟩
  rw [← e7]
  have V := V h6 e7
  refine s_aload_n (pc' := 30) (x := a0) dX1_addRung_29 rfl rfl ?_
  refine s_get (pc' := 33) (v := vI (h6 a0 8)) (kc := 1) (i := 8) dX1_addRung_30 clX1 (by decide) fl_1_8 z1 (fun _ => rfl) rfl ?_
  refine s_aload_n (pc' := 34) (x := a0) dX1_addRung_33 rfl rfl ?_
  refine s_get (pc' := 37) (v := vI (h6 a0 9)) (kc := 1) (i := 9) dX1_addRung_34 clX1 (by decide) fl_1_9 z1 (fun _ => rfl) rfl ?_
  obtain ⟨z8, z9, V⟩ := V
  obtain ⟨V12, V13⟩ := V
  refine s_icmp_ne (pc' := 40) (tgt := 51) dX1_addRung_37 rfl rfl z8 z9 (fun c => ?_) (fun c => ?_)
  · have V := V12 c
    exact s_vret dX1_addRung_51 rfl ⟨rfl, rfl, V⟩
  · have V := V13 c
    refine s_aload_n (pc' := 41) (x := a0) dX1_addRung_40 rfl rfl ?_
    refine s_aload_n (pc' := 42) (x := a0) dX1_addRung_41 rfl rfl ?_
    refine s_get (pc' := 45) (v := vR (wf w a0 0)) (kc := 1) (i := 0) dX1_addRung_42 clX1 (by decide) fl_1_0 z1 (fun _ => rfl) rfl ?_
    refine s_callV (pc' := 48) (av := []) (a := (wf w a0 0)) (sk := [vR a0]) (kc := 0) dX1_addRung_45 ml_1_63 okX0_size oiX0_size (by decide) (NF := 5) rfl z2 rfl (Nat.le_of_ble_eq_true rfl) (Nat.le_refl 0) (Nat.le_refl 0) rfl (CI.eon (c_X0_size z2) ?_)
    refine s_put (pc' := 51) (v := vI (h6 (wf w a0 0) 4)) (x := (h6 (wf w a0 0) 4)) (kc := 1) (i := 5) dX1_addRung_48 clX1 (by decide) fl_1_5 rfl z1 (fun E => nar_int E _) (fun _ _ => rfl) (j0 := 5) rfl rfl ?_
    obtain ⟨h10, e11⟩ : ∃ q, q = st h6 a0 5 (h6 (wf w a0 0) 4) := ⟨_, rfl⟩
    rw [← e11]
    have V := V h10 e11
    exact s_vret dX1_addRung_51 rfl ⟨rfl, rfl, V⟩
theorem e_X1_letCome {w : WS} {h : AH} {Q : AH → Prop} {a0 a1 : Int} (X : XV mX1_letCome 0 [some (vR a0), some (vR a1)] [] w h Q) : CV mX1_letCome [vR a0, vR a1] w h Q := CA.of (M := mX1_letCome) (by decide) rfl (Nat.le_of_ble_eq_true rfl) X
set_option maxRecDepth 20000 in
theorem r_X1_letCome_0 {w : WS} {h : AH} {Q : AH → Prop} {a0 a1 : Int} (V : (wt w a0 = 11 ∧ (wt w a1 = 10 ∧ (inR (h a0 3) ∧ inR (h a1 4) ∧ (((h a1 4) ≤ (h a0 3) → Q h) ∧ (¬ (h a1 4) ≤ (h a0 3) → (shCalls w a1 ∧ szC w h a1 ∧ (inR (if 0 ≤ (h a0 3) ∧ (h a0 3) < h a1 4 then h (a1 + 1) (h a0 3) else -1) ∧ inR (h a0 9) ∧ ((¬ (if 0 ≤ (h a0 3) ∧ (h a0 3) < h a1 4 then h (a1 + 1) (h a0 3) else -1) = (h a0 9) → Q h) ∧ ((if 0 ≤ (h a0 3) ∧ (h a0 3) < h a1 4 then h (a1 + 1) (h a0 3) else -1) = (h a0 9) → (wt w (wf w a0 0) = 10 ∧ CV mX0_add [vR (wf w a0 0), vI (h a0 9), vI (if 0 ≤ (h a0 3) ∧ (h a0 3) < h a1 4 then h (a1 + 2) (h a0 3) else -1), vI (if 0 ≤ (h a0 3) ∧ (h a0 3) < h a1 4 then h (a1 + 3) (h a0 3) else -1), vI (if 0 ≤ (h a0 3) ∧ (h a0 3) < h a1 4 then h (a1 + 4) (h a0 3) else -1)] w h (fun h10 => (∀ h11, h11 = st h10 a0 2 0 → (∀ h13, h13 = st h11 a0 3 ((h11 a0 3) + 1) → XV mX1_letCome 0 [some (vR a0), some (vR a1)] [] w h13 Q)))))))))))))) : XV mX1_letCome 0 [some (vR a0), some (vR a1)] [] w h Q := by
  refine s_aload_n (pc' := 1) (x := a0) dX1_letCome_0 rfl rfl ?_
  obtain ⟨z1, V⟩ := V
  refine s_get (pc' := 4) (v := vI (h a0 3)) (kc := 1) (i := 3) dX1_letCome_1 clX1 (by decide) fl_1_3 z1 (fun _ => rfl) rfl ?_
  refine s_aload_n (pc' := 5) (x := a1) dX1_letCome_4 rfl rfl ?_
  obtain ⟨z2, V⟩ := V
  refine s_callV (pc' := 8) (av := []) (a := a1) (sk := [vI (h a0 3)]) (kc := 0) dX1_letCome_5 ml_1_63 okX0_size oiX0_size (by decide) (NF := 5) rfl z2 rfl (Nat.le_of_ble_eq_true rfl) (Nat.le_refl 0) (Nat.le_refl 0) rfl (CI.eon (c_X0_size z2) ?_)
  obtain ⟨z3, z4, V⟩ := V
  obtain ⟨V17, V18⟩ := V
  refine s_icmp_ge (pc' := 11) (tgt := 79) dX1_letCome_8 rfl rfl z3 z4 (fun c => ?_) (fun c => ?_)
  · have V := V17 c
    exact s_vret dX1_letCome_79 rfl ⟨rfl, rfl, V⟩
  · have V := V18 c
    refine s_aload_n (pc' := 12) (x := a1) dX1_letCome_11 rfl rfl ?_
    refine s_aload_n (pc' := 13) (x := a0) dX1_letCome_12 rfl rfl ?_
    refine s_get (pc' := 16) (v := vI (h a0 3)) (kc := 1) (i := 3) dX1_letCome_13 clX1 (by decide) fl_1_3 z1 (fun _ => rfl) rfl ?_
    obtain ⟨z5, z6, V⟩ := V
    refine s_callV (pc' := 19) (av := [vI (h a0 3)]) (a := a1) (sk := []) (kc := 0) dX1_letCome_16 ml_1_67 okX0_fromOf oiX0_fromOf (by decide) (NF := 5) rfl z2 rfl (Nat.le_of_ble_eq_true rfl) (Nat.le_refl 0) (Nat.le_refl 0) rfl (CI.eon (c_X0_fromOf z5 z3 z6) ?_)
    refine s_aload_n (pc' := 20) (x := a0) dX1_letCome_19 rfl rfl ?_
    refine s_get (pc' := 23) (v := vI (h a0 9)) (kc := 1) (i := 9) dX1_letCome_20 clX1 (by decide) fl_1_9 z1 (fun _ => rfl) rfl ?_
    obtain ⟨z7, z8, V⟩ := V
    obtain ⟨V15, V16⟩ := V
    refine s_icmp_ne (pc' := 26) (tgt := 79) dX1_letCome_23 rfl rfl z7 z8 (fun c => ?_) (fun c => ?_)
    · have V := V15 c
      exact s_vret dX1_letCome_79 rfl ⟨rfl, rfl, V⟩
    · have V := V16 c
      refine s_aload_n (pc' := 27) (x := a0) dX1_letCome_26 rfl rfl ?_
      refine s_get (pc' := 30) (v := vR (wf w a0 0)) (kc := 1) (i := 0) dX1_letCome_27 clX1 (by decide) fl_1_0 z1 (fun _ => rfl) rfl ?_
      refine s_aload_n (pc' := 31) (x := a0) dX1_letCome_30 rfl rfl ?_
      refine s_get (pc' := 34) (v := vI (h a0 9)) (kc := 1) (i := 9) dX1_letCome_31 clX1 (by decide) fl_1_9 z1 (fun _ => rfl) rfl ?_
      refine s_aload_n (pc' := 35) (x := a1) dX1_letCome_34 rfl rfl ?_
      refine s_aload_n (pc' := 36) (x := a0) dX1_letCome_35 rfl rfl ?_
      refine s_get (pc' := 39) (v := vI (h a0 3)) (kc := 1) (i := 3) dX1_letCome_36 clX1 (by decide) fl_1_3 z1 (fun _ => rfl) rfl ?_
      refine s_callV (pc' := 42) (av := [vI (h a0 3)]) (a := a1) (sk := [vI (h a0 9), vR (wf w a0 0)]) (kc := 0) dX1_letCome_39 ml_1_71 okX0_latestOf oiX0_latestOf (by decide) (NF := 5) rfl z2 rfl (Nat.le_of_ble_eq_true rfl) (Nat.le_refl 0) (Nat.le_refl 0) rfl (CI.eon (c_X0_latestOf z5 z3 z6) ?_)
      refine s_aload_n (pc' := 43) (x := a1) dX1_letCome_42 rfl rfl ?_
      refine s_aload_n (pc' := 44) (x := a0) dX1_letCome_43 rfl rfl ?_
      refine s_get (pc' := 47) (v := vI (h a0 3)) (kc := 1) (i := 3) dX1_letCome_44 clX1 (by decide) fl_1_3 z1 (fun _ => rfl) rfl ?_
      refine s_callV (pc' := 50) (av := [vI (h a0 3)]) (a := a1) (sk := [vI (if 0 ≤ (h a0 3) ∧ (h a0 3) < h a1 4 then h (a1 + 2) (h a0 3) else -1), vI (h a0 9), vR (wf w a0 0)]) (kc := 0) dX1_letCome_47 ml_1_74 okX0_weightOf oiX0_weightOf (by decide) (NF := 5) rfl z2 rfl (Nat.le_of_ble_eq_true rfl) (Nat.le_refl 0) (Nat.le_refl 0) rfl (CI.eon (c_X0_weightOf z5 z3 z6) ?_)
      refine s_aload_n (pc' := 51) (x := a1) dX1_letCome_50 rfl rfl ?_
      refine s_aload_n (pc' := 52) (x := a0) dX1_letCome_51 rfl rfl ?_
      refine s_get (pc' := 55) (v := vI (h a0 3)) (kc := 1) (i := 3) dX1_letCome_52 clX1 (by decide) fl_1_3 z1 (fun _ => rfl) rfl ?_
      refine s_callV (pc' := 58) (av := [vI (h a0 3)]) (a := a1) (sk := [vI (if 0 ≤ (h a0 3) ∧ (h a0 3) < h a1 4 then h (a1 + 3) (h a0 3) else -1), vI (if 0 ≤ (h a0 3) ∧ (h a0 3) < h a1 4 then h (a1 + 2) (h a0 3) else -1), vI (h a0 9), vR (wf w a0 0)]) (kc := 0) dX1_letCome_55 ml_1_77 okX0_timerOf oiX0_timerOf (by decide) (NF := 5) rfl z2 rfl (Nat.le_of_ble_eq_true rfl) (Nat.le_refl 0) (Nat.le_refl 0) rfl (CI.eon (c_X0_timerOf z5 z3 z6) ?_)
      obtain ⟨z9, V⟩ := V
      refine s_callV (pc' := 61) (av := [vI (h a0 9), vI (if 0 ≤ (h a0 3) ∧ (h a0 3) < h a1 4 then h (a1 + 2) (h a0 3) else -1), vI (if 0 ≤ (h a0 3) ∧ (h a0 3) < h a1 4 then h (a1 + 3) (h a0 3) else -1), vI (if 0 ≤ (h a0 3) ∧ (h a0 3) < h a1 4 then h (a1 + 4) (h a0 3) else -1)]) (a := (wf w a0 0)) (sk := []) (kc := 0) dX1_letCome_58 ml_1_80 okX0_add oiX0_add (by decide) (NF := 5) rfl z9 rfl (Nat.le_of_ble_eq_true rfl) (Nat.le_refl 0) (Nat.le_refl 0) rfl (CV.on V (fun h10 V => ?_))
      refine s_aload_n (pc' := 62) (x := a0) dX1_letCome_61 rfl rfl ?_
      refine s_iconst (pc' := 63) dX1_letCome_62 rfl ?_
      refine s_put (pc' := 66) (v := vI 0) (x := 0) (kc := 1) (i := 2) dX1_letCome_63 clX1 (by decide) fl_1_2 rfl z1 (fun E => nar_bool E (by decide)) (fun _ _ => rfl) (j0 := 2) rfl rfl ?_
      obtain ⟨h11, e12⟩ : ∃ q, q = st h10 a0 2 0 := ⟨_, rfl⟩
      rw [← e12]
      have V := V h11 e12
      refine s_aload_n (pc' := 67) (x := a0) dX1_letCome_66 rfl rfl ?_
      refine s_dup (pc' := 68) dX1_letCome_67 (by intro _ q; cases q) rfl ?_
      refine s_get (pc' := 71) (v := vI (h11 a0 3)) (kc := 1) (i := 3) dX1_letCome_68 clX1 (by decide) fl_1_3 z1 (fun _ => rfl) rfl ?_
      refine s_iconst (pc' := 72) dX1_letCome_71 rfl ?_
      refine s_iadd (pc' := 73) dX1_letCome_72 rfl ?_
      refine s_put (pc' := 76) (v := vI ((h11 a0 3) + 1)) (x := ((h11 a0 3) + 1)) (kc := 1) (i := 3) dX1_letCome_73 clX1 (by decide) fl_1_3 rfl z1 (fun E => nar_int E _) (fun _ _ => rfl) (j0 := 3) rfl rfl ?_
      obtain ⟨h13, e14⟩ : ∃ q, q = st h11 a0 3 ((h11 a0 3) + 1) := ⟨_, rfl⟩
      rw [← e14]
      have V := V h13 e14
      refine s_goto (tgt := 0) dX1_letCome_76 rfl ?_
      exact V
theorem e_X1_begin {w : WS} {h : AH} {Q : AH → Prop} {a0 a1 : Int} (X : XV mX1_begin 0 [some (vR a0), some (vR a1)] [] w h Q) : CV mX1_begin [vR a0, vR a1] w h Q := CA.of (M := mX1_begin) (by decide) rfl (Nat.le_of_ble_eq_true rfl) X
set_option maxRecDepth 20000 in
theorem r_X1_begin_0 {w : WS} {h : AH} {Q : AH → Prop} {a0 a1 : Int} (V : (wt w a0 = 11 ∧ (wt w (wf w a0 0) = 10 ∧ (∀ h3, h3 = st (st h (wf w a0 0) 4 0) a0 2 0 → (∀ h5, h5 = st h3 a0 3 0 → (∀ h7, h7 = st h5 a0 4 0 → (∀ h9, h9 = st h7 a0 5 0 → (∀ h11, h11 = st h9 a0 6 0 → (∀ h13, h13 = st h11 a0 7 0 → (∀ h15, h15 = st h13 a0 8 (-1) → (∀ h17, h17 = st h15 a0 9 0 → (∀ h19, h19 = st h17 a0 10 2 → CV mX1_letCome [vR a0, vR a1] w h19 (fun h21 => Q h21))))))))))))) : XV mX1_begin 0 [some (vR a0), some (vR a1)] [] w h Q := by
  refine s_aload_n (pc' := 1) (x := a0) dX1_begin_0 rfl rfl ?_
  obtain ⟨z1, V⟩ := V
  refine s_get (pc' := 4) (v := vR (wf w a0 0)) (kc := 1) (i := 0) dX1_begin_1 clX1 (by decide) fl_1_0 z1 (fun _ => rfl) rfl ?_
  obtain ⟨z2, V⟩ := V
  refine s_callV (pc' := 7) (av := []) (a := (wf w a0 0)) (sk := []) (kc := 0) dX1_begin_4 ml_1_34 okX0_clear oiX0_clear (by decide) (NF := 5) rfl z2 rfl (Nat.le_of_ble_eq_true rfl) (Nat.le_refl 0) (Nat.le_refl 0) rfl (CV.eon (c_X0_clear z2) ?_)
  refine s_aload_n (pc' := 8) (x := a0) dX1_begin_7 rfl rfl ?_
  refine s_iconst (pc' := 9) dX1_begin_8 rfl ?_
  refine s_put (pc' := 12) (v := vI 0) (x := 0) (kc := 1) (i := 2) dX1_begin_9 clX1 (by decide) fl_1_2 rfl z1 (fun E => nar_bool E (by decide)) (fun _ _ => rfl) (j0 := 2) rfl rfl ?_
  obtain ⟨h3, e4⟩ : ∃ q, q = st (st h (wf w a0 0) 4 0) a0 2 0 := ⟨_, rfl⟩
  rw [← e4]
  have V := V h3 e4
  refine s_aload_n (pc' := 13) (x := a0) dX1_begin_12 rfl rfl ?_
  refine s_iconst (pc' := 14) dX1_begin_13 rfl ?_
  refine s_put (pc' := 17) (v := vI 0) (x := 0) (kc := 1) (i := 3) dX1_begin_14 clX1 (by decide) fl_1_3 rfl z1 (fun E => nar_int E _) (fun _ _ => rfl) (j0 := 3) rfl rfl ?_
  obtain ⟨h5, e6⟩ : ∃ q, q = st h3 a0 3 0 := ⟨_, rfl⟩
  rw [← e6]
  have V := V h5 e6
  refine s_aload_n (pc' := 18) (x := a0) dX1_begin_17 rfl rfl ?_
  refine s_iconst (pc' := 19) dX1_begin_18 rfl ?_
  refine s_put (pc' := 22) (v := vI 0) (x := 0) (kc := 1) (i := 4) dX1_begin_19 clX1 (by decide) fl_1_4 rfl z1 (fun E => nar_int E _) (fun _ _ => rfl) (j0 := 4) rfl rfl ?_
  obtain ⟨h7, e8⟩ : ∃ q, q = st h5 a0 4 0 := ⟨_, rfl⟩
  rw [← e8]
  have V := V h7 e8
  refine s_aload_n (pc' := 23) (x := a0) dX1_begin_22 rfl rfl ?_
  refine s_iconst (pc' := 24) dX1_begin_23 rfl ?_
  refine s_put (pc' := 27) (v := vI 0) (x := 0) (kc := 1) (i := 5) dX1_begin_24 clX1 (by decide) fl_1_5 rfl z1 (fun E => nar_int E _) (fun _ _ => rfl) (j0 := 5) rfl rfl ?_
  obtain ⟨h9, e10⟩ : ∃ q, q = st h7 a0 5 0 := ⟨_, rfl⟩
  rw [← e10]
  have V := V h9 e10
  refine s_aload_n (pc' := 28) (x := a0) dX1_begin_27 rfl rfl ?_
  refine s_iconst (pc' := 29) dX1_begin_28 rfl ?_
  refine s_put (pc' := 32) (v := vI 0) (x := 0) (kc := 1) (i := 6) dX1_begin_29 clX1 (by decide) fl_1_6 rfl z1 (fun E => nar_int E _) (fun _ _ => rfl) (j0 := 6) rfl rfl ?_
  obtain ⟨h11, e12⟩ : ∃ q, q = st h9 a0 6 0 := ⟨_, rfl⟩
  rw [← e12]
  have V := V h11 e12
  refine s_aload_n (pc' := 33) (x := a0) dX1_begin_32 rfl rfl ?_
  refine s_iconst (pc' := 34) dX1_begin_33 rfl ?_
  refine s_put (pc' := 37) (v := vI 0) (x := 0) (kc := 1) (i := 7) dX1_begin_34 clX1 (by decide) fl_1_7 rfl z1 (fun E => nar_int E _) (fun _ _ => rfl) (j0 := 7) rfl rfl ?_
  obtain ⟨h13, e14⟩ : ∃ q, q = st h11 a0 7 0 := ⟨_, rfl⟩
  rw [← e14]
  have V := V h13 e14
  refine s_aload_n (pc' := 38) (x := a0) dX1_begin_37 rfl rfl ?_
  refine s_iconst (pc' := 39) dX1_begin_38 rfl ?_
  refine s_put (pc' := 42) (v := vI (-1)) (x := (-1)) (kc := 1) (i := 8) dX1_begin_39 clX1 (by decide) fl_1_8 rfl z1 (fun E => nar_int E _) (fun _ _ => rfl) (j0 := 8) rfl rfl ?_
  obtain ⟨h15, e16⟩ : ∃ q, q = st h13 a0 8 (-1) := ⟨_, rfl⟩
  rw [← e16]
  have V := V h15 e16
  refine s_aload_n (pc' := 43) (x := a0) dX1_begin_42 rfl rfl ?_
  refine s_iconst (pc' := 44) dX1_begin_43 rfl ?_
  refine s_put (pc' := 47) (v := vI 0) (x := 0) (kc := 1) (i := 9) dX1_begin_44 clX1 (by decide) fl_1_9 rfl z1 (fun E => nar_int E _) (fun _ _ => rfl) (j0 := 9) rfl rfl ?_
  obtain ⟨h17, e18⟩ : ∃ q, q = st h15 a0 9 0 := ⟨_, rfl⟩
  rw [← e18]
  have V := V h17 e18
  refine s_aload_n (pc' := 48) (x := a0) dX1_begin_47 rfl rfl ?_
  refine s_iconst (pc' := 49) dX1_begin_48 rfl ?_
  refine s_put (pc' := 52) (v := vI 2) (x := 2) (kc := 1) (i := 10) dX1_begin_49 clX1 (by decide) fl_1_10 rfl z1 (fun E => nar_int E _) (fun _ _ => rfl) (j0 := 10) rfl rfl ?_
  obtain ⟨h19, e20⟩ : ∃ q, q = st h17 a0 10 2 := ⟨_, rfl⟩
  rw [← e20]
  have V := V h19 e20
  refine s_aload_n (pc' := 53) (x := a0) dX1_begin_52 rfl rfl ?_
  refine s_aload_n (pc' := 54) (x := a1) dX1_begin_53 rfl rfl ?_
  refine s_callV (pc' := 57) (av := [vR a1]) (a := a0) (sk := []) (kc := 1) dX1_begin_54 ml_1_59 okX1_letCome oiX1_letCome (by decide) (NF := 11) rfl z1 rfl (Nat.le_of_ble_eq_true rfl) (Nat.le_refl 0) (Nat.le_refl 0) rfl (CV.on V (fun h21 V => ?_))
  exact s_vret dX1_begin_57 rfl ⟨rfl, rfl, V⟩
theorem e_X1_passTick {w : WS} {h : AH} {Q : Int → AH → Prop} {a0 a1 a2 : Int} (X : XI mX1_passTick 0 [some (vR a0), some (vR a1), some (vI a2), none] [] w h Q) : CI mX1_passTick [vR a0, vR a1, vI a2] w h Q := CA.of (M := mX1_passTick) (by decide) rfl (Nat.le_of_ble_eq_true rfl) X
set_option maxRecDepth 20000 in
theorem r_X1_passTick_0 {w : WS} {h : AH} {Q : Int → AH → Prop} {a0 a1 a2 : Int} (V : (wt w a0 = 11 ∧ (wt w (wf w a0 0) = 10 ∧ CI mX0_wantWake [vR (wf w a0 0), vI (h a0 10), vI (h a0 9), vI a2, vI (h a0 5), vI (h (wf w a0 0) 4)] w h (fun x4 h3 => (inR x4 ∧ ((x4 = 0 → (∀ h6, h6 = st h3 a0 9 ((h3 a0 9) + 1) → CV mX1_letCome [vR a0, vR a1] w h6 (fun h8 => ((x4 = 0 ∨ x4 = 1) ∧ Q x4 h8)))) ∧ (¬ x4 = 0 → CV mX1_wakeHere [vR a0] w h3 (fun h10 => (∀ h11, h11 = st h10 a0 9 ((h10 a0 9) + 1) → CV mX1_letCome [vR a0, vR a1] w h11 (fun h13 => ((x4 = 0 ∨ x4 = 1) ∧ Q x4 h13))))))))))) : XI mX1_passTick 0 [some (vR a0), some (vR a1), some (vI a2), none] [] w h Q := by
  refine s_aload_n (pc' := 1) (x := a0) dX1_passTick_0 rfl rfl ?_
  obtain ⟨z1, V⟩ := V
  refine s_get (pc' := 4) (v := vR (wf w a0 0)) (kc := 1) (i := 0) dX1_passTick_1 clX1 (by decide) fl_1_0 z1 (fun _ => rfl) rfl ?_
  refine s_aload_n (pc' := 5) (x := a0) dX1_passTick_4 rfl rfl ?_
  refine s_get (pc' := 8) (v := vI (h a0 10)) (kc := 1) (i := 10) dX1_passTick_5 clX1 (by decide) fl_1_10 z1 (fun _ => rfl) rfl ?_
  refine s_aload_n (pc' := 9) (x := a0) dX1_passTick_8 rfl rfl ?_
  refine s_get (pc' := 12) (v := vI (h a0 9)) (kc := 1) (i := 9) dX1_passTick_9 clX1 (by decide) fl_1_9 z1 (fun _ => rfl) rfl ?_
  refine s_iload_n (pc' := 13) (x := a2) dX1_passTick_12 rfl rfl ?_
  refine s_aload_n (pc' := 14) (x := a0) dX1_passTick_13 rfl rfl ?_
  refine s_get (pc' := 17) (v := vI (h a0 5)) (kc := 1) (i := 5) dX1_passTick_14 clX1 (by decide) fl_1_5 z1 (fun _ => rfl) rfl ?_
  refine s_aload_n (pc' := 18) (x := a0) dX1_passTick_17 rfl rfl ?_
  refine s_get (pc' := 21) (v := vR (wf w a0 0)) (kc := 1) (i := 0) dX1_passTick_18 clX1 (by decide) fl_1_0 z1 (fun _ => rfl) rfl ?_
  obtain ⟨z2, V⟩ := V
  refine s_callV (pc' := 24) (av := []) (a := (wf w a0 0)) (sk := [vI (h a0 5), vI a2, vI (h a0 9), vI (h a0 10), vR (wf w a0 0)]) (kc := 0) dX1_passTick_21 ml_1_63 okX0_size oiX0_size (by decide) (NF := 5) rfl z2 rfl (Nat.le_of_ble_eq_true rfl) (Nat.le_refl 0) (Nat.le_refl 0) rfl (CI.eon (c_X0_size z2) ?_)
  refine s_callV (pc' := 27) (av := [vI (h a0 10), vI (h a0 9), vI a2, vI (h a0 5), vI (h (wf w a0 0) 4)]) (a := (wf w a0 0)) (sk := []) (kc := 0) dX1_passTick_24 ml_1_84 okX0_wantWake oiX0_wantWake (by decide) (NF := 5) rfl z2 rfl (Nat.le_of_ble_eq_true rfl) (Nat.le_refl 0) (Nat.le_refl 0) rfl (CI.on V (fun x4 h3 V => ?_))
  refine s_istore_n (pc' := 28) (ls' := [some (vR a0), some (vR a1), some (vI a2), some (vI x4)]) dX1_passTick_27 (by decide) rfl rfl ?_
  refine s_iload_n (pc' := 29) (x := x4) dX1_passTick_28 rfl rfl ?_
  obtain ⟨z5, V⟩ := V
  obtain ⟨V15, V16⟩ := V
  refine s_if_eq (pc' := 32) (tgt := 36) dX1_passTick_29 rfl rfl z5 (fun c => ?_) (fun c => ?_)
  · have V := V15 c
    refine s_aload_n (pc' := 37) (x := a0) dX1_passTick_36 rfl rfl ?_
    refine s_dup (pc' := 38) dX1_passTick_37 (by intro _ q; cases q) rfl ?_
    refine s_get (pc' := 41) (v := vI (h3 a0 9)) (kc := 1) (i := 9) dX1_passTick_38 clX1 (by decide) fl_1_9 z1 (fun _ => rfl) rfl ?_
    refine s_iconst (pc' := 42) dX1_passTick_41 rfl ?_
    refine s_iadd (pc' := 43) dX1_passTick_42 rfl ?_
    refine s_put (pc' := 46) (v := vI ((h3 a0 9) + 1)) (x := ((h3 a0 9) + 1)) (kc := 1) (i := 9) dX1_passTick_43 clX1 (by decide) fl_1_9 rfl z1 (fun E => nar_int E _) (fun _ _ => rfl) (j0 := 9) rfl rfl ?_
    obtain ⟨h6, e7⟩ : ∃ q, q = st h3 a0 9 ((h3 a0 9) + 1) := ⟨_, rfl⟩
    rw [← e7]
    have V := V h6 e7
    refine s_aload_n (pc' := 47) (x := a0) dX1_passTick_46 rfl rfl ?_
    refine s_aload_n (pc' := 48) (x := a1) dX1_passTick_47 rfl rfl ?_
    refine s_callV (pc' := 51) (av := [vR a1]) (a := a0) (sk := []) (kc := 1) dX1_passTick_48 ml_1_59 okX1_letCome oiX1_letCome (by decide) (NF := 11) rfl z1 rfl (Nat.le_of_ble_eq_true rfl) (Nat.le_refl 0) (Nat.le_refl 0) rfl (CV.on V (fun h8 V => ?_))
    refine s_iload_n (pc' := 52) (x := x4) dX1_passTick_51 rfl rfl ?_
    obtain ⟨z9, V⟩ := V
    exact s_zret dX1_passTick_52 rfl z9 ⟨_, rfl, rfl, V⟩
  · have V := V16 c
    refine s_aload_n (pc' := 33) (x := a0) dX1_passTick_32 rfl rfl ?_
    refine s_callV (pc' := 36) (av := []) (a := a0) (sk := []) (kc := 1) dX1_passTick_33 ml_1_88 okX1_wakeHere oiX1_wakeHere (by decide) (NF := 11) rfl z1 rfl (Nat.le_of_ble_eq_true rfl) (Nat.le_refl 0) (Nat.le_refl 0) rfl (CV.on V (fun h10 V => ?_))
    refine s_aload_n (pc' := 37) (x := a0) dX1_passTick_36 rfl rfl ?_
    refine s_dup (pc' := 38) dX1_passTick_37 (by intro _ q; cases q) rfl ?_
    refine s_get (pc' := 41) (v := vI (h10 a0 9)) (kc := 1) (i := 9) dX1_passTick_38 clX1 (by decide) fl_1_9 z1 (fun _ => rfl) rfl ?_
    refine s_iconst (pc' := 42) dX1_passTick_41 rfl ?_
    refine s_iadd (pc' := 43) dX1_passTick_42 rfl ?_
    refine s_put (pc' := 46) (v := vI ((h10 a0 9) + 1)) (x := ((h10 a0 9) + 1)) (kc := 1) (i := 9) dX1_passTick_43 clX1 (by decide) fl_1_9 rfl z1 (fun E => nar_int E _) (fun _ _ => rfl) (j0 := 9) rfl rfl ?_
    obtain ⟨h11, e12⟩ : ∃ q, q = st h10 a0 9 ((h10 a0 9) + 1) := ⟨_, rfl⟩
    rw [← e12]
    have V := V h11 e12
    refine s_aload_n (pc' := 47) (x := a0) dX1_passTick_46 rfl rfl ?_
    refine s_aload_n (pc' := 48) (x := a1) dX1_passTick_47 rfl rfl ?_
    refine s_callV (pc' := 51) (av := [vR a1]) (a := a0) (sk := []) (kc := 1) dX1_passTick_48 ml_1_59 okX1_letCome oiX1_letCome (by decide) (NF := 11) rfl z1 rfl (Nat.le_of_ble_eq_true rfl) (Nat.le_refl 0) (Nat.le_refl 0) rfl (CV.on V (fun h13 V => ?_))
    refine s_iload_n (pc' := 52) (x := x4) dX1_passTick_51 rfl rfl ?_
    obtain ⟨z14, V⟩ := V
    exact s_zret dX1_passTick_52 rfl z14 ⟨_, rfl, rfl, V⟩
theorem e_X1_hindsight {w : WS} {h : AH} {Q : Int → AH → Prop} {a0 a1 a2 : Int} (X : XR mX1_hindsight 0 [some (vR a0), some (vR a1), some (vR a2)] [] w h Q) : CR mX1_hindsight [vR a0, vR a1, vR a2] w h Q := CA.of (M := mX1_hindsight) (by decide) rfl (Nat.le_of_ble_eq_true rfl) X
set_option maxRecDepth 20000 in
theorem r_X1_hindsight_0 {w : WS} {h : AH} {Q : Int → AH → Prop} {a0 a1 a2 : Int} (V : (wt w a0 = 11 ∧ (inR (h a0 2) ∧ ((¬ (h a0 2) = 0 → Q (wf w a0 1) h) ∧ ((h a0 2) = 0 → (wt w a1 = 12 ∧ CV mX2_make [vR a1, vI 1, vR (wf w a0 0), vR a2, vR (wf w a0 1)] w h (fun h4 => (∀ h5, h5 = st h4 a0 2 1 → Q (wf w a0 1) h5)))))))) : XR mX1_hindsight 0 [some (vR a0), some (vR a1), some (vR a2)] [] w h Q := by
  refine s_aload_n (pc' := 1) (x := a0) dX1_hindsight_0 rfl rfl ?_
  obtain ⟨z1, V⟩ := V
  refine s_get (pc' := 4) (v := vI (h a0 2)) (kc := 1) (i := 2) dX1_hindsight_1 clX1 (by decide) fl_1_2 z1 (fun _ => rfl) rfl ?_
  obtain ⟨z2, V⟩ := V
  obtain ⟨V7, V8⟩ := V
  refine s_if_ne (pc' := 7) (tgt := 26) dX1_hindsight_4 rfl rfl z2 (fun c => ?_) (fun c => ?_)
  · have V := V7 c
    refine s_aload_n (pc' := 27) (x := a0) dX1_hindsight_26 rfl rfl ?_
    refine s_get (pc' := 30) (v := vR (wf w a0 1)) (kc := 1) (i := 1) dX1_hindsight_27 clX1 (by decide) fl_1_1 z1 (fun _ => rfl) rfl ?_
    exact s_aret dX1_hindsight_30 rfl ⟨_, rfl⟩ ⟨_, rfl, rfl, V⟩
  · have V := V8 c
    refine s_aload_n (pc' := 8) (x := a1) dX1_hindsight_7 rfl rfl ?_
    refine s_iconst (pc' := 9) dX1_hindsight_8 rfl ?_
    refine s_aload_n (pc' := 10) (x := a0) dX1_hindsight_9 rfl rfl ?_
    refine s_get (pc' := 13) (v := vR (wf w a0 0)) (kc := 1) (i := 0) dX1_hindsight_10 clX1 (by decide) fl_1_0 z1 (fun _ => rfl) rfl ?_
    refine s_aload_n (pc' := 14) (x := a2) dX1_hindsight_13 rfl rfl ?_
    refine s_aload_n (pc' := 15) (x := a0) dX1_hindsight_14 rfl rfl ?_
    refine s_get (pc' := 18) (v := vR (wf w a0 1)) (kc := 1) (i := 1) dX1_hindsight_15 clX1 (by decide) fl_1_1 z1 (fun _ => rfl) rfl ?_
    obtain ⟨z3, V⟩ := V
    refine s_callV (pc' := 21) (av := [vI 1, vR (wf w a0 0), vR a2, vR (wf w a0 1)]) (a := a1) (sk := []) (kc := 2) dX1_hindsight_18 ml_1_102 okX2_make oiX2_make (by decide) (NF := 3) rfl z3 rfl (Nat.le_of_ble_eq_true rfl) (Nat.le_refl 0) (Nat.le_refl 0) rfl (CV.on V (fun h4 V => ?_))
    refine s_aload_n (pc' := 22) (x := a0) dX1_hindsight_21 rfl rfl ?_
    refine s_iconst (pc' := 23) dX1_hindsight_22 rfl ?_
    refine s_put (pc' := 26) (v := vI 1) (x := 1) (kc := 1) (i := 2) dX1_hindsight_23 clX1 (by decide) fl_1_2 rfl z1 (fun E => nar_bool E (by decide)) (fun _ _ => rfl) (j0 := 2) rfl rfl ?_
    obtain ⟨h5, e6⟩ : ∃ q, q = st h4 a0 2 1 := ⟨_, rfl⟩
    rw [← e6]
    have V := V h5 e6
    refine s_aload_n (pc' := 27) (x := a0) dX1_hindsight_26 rfl rfl ?_
    refine s_get (pc' := 30) (v := vR (wf w a0 1)) (kc := 1) (i := 1) dX1_hindsight_27 clX1 (by decide) fl_1_1 z1 (fun _ => rfl) rfl ?_
    exact s_aret dX1_hindsight_30 rfl ⟨_, rfl⟩ ⟨_, rfl, rfl, V⟩
theorem e_X1_costOf {w : WS} {h : AH} {Q : Int → AH → Prop} {a0 a1 a2 : Int} (X : XI mX1_costOf 0 [some (vR a0), some (vR a1), some (vI a2)] [] w h Q) : CI mX1_costOf [vR a0, vR a1, vI a2] w h Q := CA.of (M := mX1_costOf) (by decide) rfl (Nat.le_of_ble_eq_true rfl) X
set_option maxRecDepth 20000 in
theorem r_X1_costOf_0 {w : WS} {h : AH} {Q : Int → AH → Prop} {a0 a1 a2 : Int} (V : (wt w a0 = 11 ∧ (wt w a1 = 17 ∧ CI mX7_costFor [vR a1, vR (wf w a0 0), vI a2] w h (fun x4 h3 => Q x4 h3)))) : XI mX1_costOf 0 [some (vR a0), some (vR a1), some (vI a2)] [] w h Q := by
  refine s_aload_n (pc' := 1) (x := a1) dX1_costOf_0 rfl rfl ?_
  refine s_aload_n (pc' := 2) (x := a0) dX1_costOf_1 rfl rfl ?_
  obtain ⟨z1, V⟩ := V
  refine s_get (pc' := 5) (v := vR (wf w a0 0)) (kc := 1) (i := 0) dX1_costOf_2 clX1 (by decide) fl_1_0 z1 (fun _ => rfl) rfl ?_
  refine s_iload_n (pc' := 6) (x := a2) dX1_costOf_5 rfl rfl ?_
  obtain ⟨z2, V⟩ := V
  refine s_callV (pc' := 9) (av := [vR (wf w a0 0), vI a2]) (a := a1) (sk := []) (kc := 7) dX1_costOf_6 ml_1_108 okX7_costFor oiX7_costFor (by decide) (NF := 2) rfl z2 rfl (Nat.le_of_ble_eq_true rfl) (Nat.le_refl 0) (Nat.le_refl 0) rfl (CI.on V (fun x4 h3 V => ?_))
  exact s_iret dX1_costOf_9 rfl ⟨_, rfl, rfl, V⟩
