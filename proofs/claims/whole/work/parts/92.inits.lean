theorem stE {h : AH} {a i x b j : Int} (hb : b ≠ a ∨ j ≠ i) : st h a i x b j = h b j := (sn_st h a i x).2 b j hb
theorem ne1 {a i j : Int} (h : i ≠ j) : a + i ≠ a + j := by omega
theorem ne2 {a j : Int} (h : j ≠ 0) : a ≠ a + j := by omega
theorem ne3 {a j : Int} (h : j ≠ 0) : a + j ≠ a := by omega
def pX6 (w : WS) (h : AH) (w' : WS) (h' : AH) (d : Int) : Prop := ex w h w' h' d (d + 1) ∧ shTape w' d ∧ h' d 1 = 0
def pX0 (w : WS) (h : AH) (w' : WS) (h' : AH) (d : Int) (L : Nat) : Prop := ex w h w' h' d (d + 4) ∧ shCalls w' d ∧ wl w' (d + 1) = L ∧ h' d 4 = 0
def pX7 (w : WS) (h : AH) (w' : WS) (h' : AH) (d : Int) (L : Nat) : Prop := ex w h w' h' d (d + 1) ∧ shWakes w' d ∧ wl w' (d + 1) = L
def pX2 (w : WS) (h : AH) (w' : WS) (h' : AH) (d : Int) : Prop := ex w h w' h' d (d + 3) ∧ shPlan w' d
def pX4 (w : WS) (h : AH) (w' : WS) (h' : AH) (d : Int) : Prop := ex w h w' h' d (d + 2) ∧ shRound w' d
def pX5 (w : WS) (h : AH) (w' : WS) (h' : AH) (d : Int) : Prop := ex w h w' h' d (d + 7) ∧ shSetup w' d ∧ h' d 4 = 0 ∧ h' d 8 = 0 ∧ h' d 9 = 60 ∧ h' d 10 = 10 ∧ h' d 11 = 1
set_option maxRecDepth 20000 in
theorem r_X6_init {w : WS} {h : AH} {Q : Option AV → WS → AH → Prop} {a : Int} (hw : (w.1 : Int) = a) (a1 : 1 ≤ a) (tS : wt w a = 16) (V : ∀ w1 h1, nw w h w1 h1 (a + 1) 2 600 → ∀ w3, fn w1 w3 a 0 (a + 1) → Q none w3 h1) : CA mX6_init [vR a] w h 1 (600) Q := by
  refine CA.of (M := mX6_init) (by decide) rfl (Nat.le_of_ble_eq_true rfl) ?_
  show XA mX6_init 0 [some (vR a)] [] w h 1 (600) Q
  have cW := hw
  refine s_aload_n (pc' := 1) (x := a) dX6_init_0 rfl rfl ?_
  refine s_obj (pc' := 4) dX6_init_1 ml_6_3 oin oic (by omega) (by decide) (Nat.le_of_ble_eq_true rfl) rfl ?_
  refine s_aload_n (pc' := 5) (x := a) dX6_init_4 rfl rfl ?_
  refine s_sipush (pc' := 8) dX6_init_5 (by decide) rfl ?_
  refine t_newb (d := (a + 1)) (L := 600) (k := 0) (n := 0) (pc' := 10) dX6_init_8 rfl (by decide) rfl (by omega) (fun w1 h1 n2 => ?_)
  replace V := V w1 h1 n2
  have tS : wt w1 a = 16 := (n2.2.2.2.2.2.1 a (by omega)).trans tS
  have cW := n2.1
  refine t_putF (pc' := 13) (j := 0) (kc := 6) (i := 0) dX6_init_10 clX6 (by decide) fl_6_0 rfl rfl rfl tS (fun E => nar_ref E _ _ rfl) (fun _ _ => rfl) rfl rfl (fun w3 f4 => ?_)
  replace V := V w3 f4
  have tS : wt w3 a = 16 := (f4.2.1 a).trans tS
  have cW : (w3.1 : Int) = (a + 1) := by rw [f4.1]; omega
  exact s_vret dX6_init_13 rfl V
theorem c_X6_init {w : WS} {h : AH} {a : Int} (hw : (w.1 : Int) = a) (a1 : 1 ≤ a) (tS : wt w a = 16) (hz : ∀ i, h a i = 0) : CA mX6_init [vR a] w h 1 (600) (fun r w' h' => r = none ∧ pX6 w h w' h' a) := by
  have dd : ∀ b, (b < a ∨ a + 1 < b) → b ≠ a ∧ b ≠ a + 1 := fun b hb => by omega
  refine r_X6_init hw a1 tS ?_
  intro w1 h1 q0 w3 q1
  obtain ⟨c0, t0, m0, z0, y0, T0, N0, F0, H0⟩ := q0
  obtain ⟨c1, T1, N1, v1, F1⟩ := q1
  refine ⟨rfl, ⟨by rw [c1]; exact c0, fun b hb => by obtain ⟨d0, d1⟩ := dd b hb; rw [T1 b, T0 b d1], fun b hb => by obtain ⟨d0, d1⟩ := dd b hb; rw [N1 b, N0 b d1], fun b i hb => by obtain ⟨d0, d1⟩ := dd b hb; rw [F1 b i (Or.inl d0), F0 b i d1], fun b i hb => by obtain ⟨d0, d1⟩ := dd b hb; rw [H0 b i d1]⟩, ?_⟩
  exact ⟨⟨(by rw [T1 a, T0 a (ne2 (by decide)), tS]),(by rw [v1]),(by rw [T1 (a + 1), t0]),(by unfold wl; rw [N1 (a + 1), m0]; rfl)⟩,(by rw [H0 a 1 (ne2 (by decide)), hz])⟩
set_option maxRecDepth 20000 in
theorem r_X0_init {w : WS} {h : AH} {Q : Option AV → WS → AH → Prop} {a : Int} {L : Nat} (hw : (w.1 : Int) = a) (a1 : 1 ≤ a) (tS : wt w a = 10) (hL : L ≤ 1000) (V : ∀ w1 h1, nw w h w1 h1 (a + 1) 1 L → ∀ w3, fn w1 w3 a 0 (a + 1) → ∀ w5 h5, nw w3 h1 w5 h5 (a + 2) 1 L → ∀ w7, fn w5 w7 a 1 (a + 2) → ∀ w9 h9, nw w7 h5 w9 h9 (a + 3) 1 L → ∀ w11, fn w9 w11 a 2 (a + 3) → ∀ w13 h13, nw w11 h9 w13 h13 (a + 4) 1 L → ∀ w15, fn w13 w15 a 3 (a + 4) → Q none w15 h13) : CA mX0_init [vR a, vI (L : Int)] w h 4 (0 + L + L + L + L) Q := by
  refine CA.of (M := mX0_init) (by decide) rfl (Nat.le_of_ble_eq_true rfl) ?_
  show XA mX0_init 0 [some (vR a), some (vI (L : Int)), none] [] w h 4 (0 + L + L + L + L) Q
  have cW := hw
  refine s_aload_n (pc' := 1) (x := a) dX0_init_0 rfl rfl ?_
  refine s_obj (pc' := 4) dX0_init_1 ml_0_3 oin oic (by omega) (by decide) (Nat.le_of_ble_eq_true rfl) rfl ?_
  refine s_iload_n (pc' := 5) (x := (L : Int)) dX0_init_4 rfl rfl ?_
  refine s_iconst (pc' := 6) dX0_init_5 rfl ?_
  refine s_max (pc' := 9) dX0_init_6 ml_0_9 mst_max mini_Math mcode_max (by decide) (Nat.le_of_ble_eq_true rfl) (by omega) (by decide) rfl ?_
  refine s_istore_n (pc' := 10) (ls' := [some (vR a), some (vI (L : Int)), some (vI (max (L : Int) 0))]) dX0_init_9 (by decide) rfl rfl ?_
  refine s_aload_n (pc' := 11) (x := a) dX0_init_10 rfl rfl ?_
  refine s_iload_n (pc' := 12) (x := (max (L : Int) 0)) dX0_init_11 rfl rfl ?_
  refine t_newi (d := (a + 1)) (L := L) (k := 3) (n := 0 + L + L + L) (pc' := 14) dX0_init_12 (by omega) hL rfl (by omega) (fun w1 h1 n2 => ?_)
  replace V := V w1 h1 n2
  have tS : wt w1 a = 10 := (n2.2.2.2.2.2.1 a (by omega)).trans tS
  have cW := n2.1
  refine t_putF (pc' := 17) (j := 0) (kc := 0) (i := 0) dX0_init_14 clX0 (by decide) fl_0_0 rfl rfl rfl tS (fun E => nar_ref E _ _ rfl) (fun _ _ => rfl) rfl rfl (fun w3 f4 => ?_)
  replace V := V w3 f4
  have tS : wt w3 a = 10 := (f4.2.1 a).trans tS
  have cW : (w3.1 : Int) = (a + 1) := by rw [f4.1]; omega
  refine s_aload_n (pc' := 18) (x := a) dX0_init_17 rfl rfl ?_
  refine s_iload_n (pc' := 19) (x := (max (L : Int) 0)) dX0_init_18 rfl rfl ?_
  refine t_newi (d := (a + 2)) (L := L) (k := 2) (n := 0 + L + L) (pc' := 21) dX0_init_19 (by omega) hL rfl (by omega) (fun w5 h5 n6 => ?_)
  replace V := V w5 h5 n6
  have tS : wt w5 a = 10 := (n6.2.2.2.2.2.1 a (by omega)).trans tS
  have cW := n6.1
  refine t_putF (pc' := 24) (j := 1) (kc := 0) (i := 1) dX0_init_21 clX0 (by decide) fl_0_1 rfl rfl rfl tS (fun E => nar_ref E _ _ rfl) (fun _ _ => rfl) rfl rfl (fun w7 f8 => ?_)
  replace V := V w7 f8
  have tS : wt w7 a = 10 := (f8.2.1 a).trans tS
  have cW : (w7.1 : Int) = (a + 2) := by rw [f8.1]; omega
  refine s_aload_n (pc' := 25) (x := a) dX0_init_24 rfl rfl ?_
  refine s_iload_n (pc' := 26) (x := (max (L : Int) 0)) dX0_init_25 rfl rfl ?_
  refine t_newi (d := (a + 3)) (L := L) (k := 1) (n := 0 + L) (pc' := 28) dX0_init_26 (by omega) hL rfl (by omega) (fun w9 h9 n10 => ?_)
  replace V := V w9 h9 n10
  have tS : wt w9 a = 10 := (n10.2.2.2.2.2.1 a (by omega)).trans tS
  have cW := n10.1
  refine t_putF (pc' := 31) (j := 2) (kc := 0) (i := 2) dX0_init_28 clX0 (by decide) fl_0_2 rfl rfl rfl tS (fun E => nar_ref E _ _ rfl) (fun _ _ => rfl) rfl rfl (fun w11 f12 => ?_)
  replace V := V w11 f12
  have tS : wt w11 a = 10 := (f12.2.1 a).trans tS
  have cW : (w11.1 : Int) = (a + 3) := by rw [f12.1]; omega
  refine s_aload_n (pc' := 32) (x := a) dX0_init_31 rfl rfl ?_
  refine s_iload_n (pc' := 33) (x := (max (L : Int) 0)) dX0_init_32 rfl rfl ?_
  refine t_newi (d := (a + 4)) (L := L) (k := 0) (n := 0) (pc' := 35) dX0_init_33 (by omega) hL rfl (by omega) (fun w13 h13 n14 => ?_)
  replace V := V w13 h13 n14
  have tS : wt w13 a = 10 := (n14.2.2.2.2.2.1 a (by omega)).trans tS
  have cW := n14.1
  refine t_putF (pc' := 38) (j := 3) (kc := 0) (i := 3) dX0_init_35 clX0 (by decide) fl_0_3 rfl rfl rfl tS (fun E => nar_ref E _ _ rfl) (fun _ _ => rfl) rfl rfl (fun w15 f16 => ?_)
  replace V := V w15 f16
  have tS : wt w15 a = 10 := (f16.2.1 a).trans tS
  have cW : (w15.1 : Int) = (a + 4) := by rw [f16.1]; omega
  exact s_vret dX0_init_38 rfl V
theorem c_X0_init {w : WS} {h : AH} {a : Int} {L : Nat} (hw : (w.1 : Int) = a) (a1 : 1 ≤ a) (tS : wt w a = 10) (hz : ∀ i, h a i = 0) (hL : 200 ≤ L) (hL2 : L ≤ 300) : CA mX0_init [vR a, vI (L : Int)] w h 4 (0 + L + L + L + L) (fun r w' h' => r = none ∧ pX0 w h w' h' a L) := by
  have dd : ∀ b, (b < a ∨ a + 4 < b) → b ≠ a ∧ b ≠ a + 1 ∧ b ≠ a + 2 ∧ b ≠ a + 3 ∧ b ≠ a + 4 := fun b hb => by omega
  refine r_X0_init hw a1 tS (by omega) ?_
  intro w1 h1 q0 w3 q1 w5 h5 q2 w7 q3 w9 h9 q4 w11 q5 w13 h13 q6 w15 q7
  obtain ⟨c0, t0, m0, z0, y0, T0, N0, F0, H0⟩ := q0
  obtain ⟨c1, T1, N1, v1, F1⟩ := q1
  obtain ⟨c2, t2, m2, z2, y2, T2, N2, F2, H2⟩ := q2
  obtain ⟨c3, T3, N3, v3, F3⟩ := q3
  obtain ⟨c4, t4, m4, z4, y4, T4, N4, F4, H4⟩ := q4
  obtain ⟨c5, T5, N5, v5, F5⟩ := q5
  obtain ⟨c6, t6, m6, z6, y6, T6, N6, F6, H6⟩ := q6
  obtain ⟨c7, T7, N7, v7, F7⟩ := q7
  refine ⟨rfl, ⟨by rw [c7]; exact c6, fun b hb => by obtain ⟨d0, d1, d2, d3, d4⟩ := dd b hb; rw [T7 b, T6 b d4, T5 b, T4 b d3, T3 b, T2 b d2, T1 b, T0 b d1], fun b hb => by obtain ⟨d0, d1, d2, d3, d4⟩ := dd b hb; rw [N7 b, N6 b d4, N5 b, N4 b d3, N3 b, N2 b d2, N1 b, N0 b d1], fun b i hb => by obtain ⟨d0, d1, d2, d3, d4⟩ := dd b hb; rw [F7 b i (Or.inl d0), F6 b i d4, F5 b i (Or.inl d0), F4 b i d3, F3 b i (Or.inl d0), F2 b i d2, F1 b i (Or.inl d0), F0 b i d1], fun b i hb => by obtain ⟨d0, d1, d2, d3, d4⟩ := dd b hb; rw [H6 b i d4, H4 b i d3, H2 b i d2, H0 b i d1]⟩, ?_⟩
  exact ⟨⟨(by rw [T7 a, T6 a (ne2 (by decide)), T5 a, T4 a (ne2 (by decide)), T3 a, T2 a (ne2 (by decide)), T1 a, T0 a (ne2 (by decide)), tS]),(by rw [F7 a 0 (Or.inr (by decide)), F6 a 0 (ne2 (by decide)), F5 a 0 (Or.inr (by decide)), F4 a 0 (ne2 (by decide)), F3 a 0 (Or.inr (by decide)), F2 a 0 (ne2 (by decide)), v1]),(by rw [F7 a 1 (Or.inr (by decide)), F6 a 1 (ne2 (by decide)), F5 a 1 (Or.inr (by decide)), F4 a 1 (ne2 (by decide)), v3]),(by rw [F7 a 2 (Or.inr (by decide)), F6 a 2 (ne2 (by decide)), v5]),(by rw [v7]),⟨(by rw [T7 (a + 1), T6 (a + 1) (ne1 (by decide)), T5 (a + 1), T4 (a + 1) (ne1 (by decide)), T3 (a + 1), T2 (a + 1) (ne1 (by decide)), T1 (a + 1), t0]),(by rw [T7 (a + 2), T6 (a + 2) (ne1 (by decide)), T5 (a + 2), T4 (a + 2) (ne1 (by decide)), T3 (a + 2), t2]),(by rw [T7 (a + 3), T6 (a + 3) (ne1 (by decide)), T5 (a + 3), t4]),(by rw [T7 (a + 4), t6])⟩,⟨(by unfold wl; rw [N7 (a + 2), N6 (a + 2) (ne1 (by decide)), N5 (a + 2), N4 (a + 2) (ne1 (by decide)), N3 (a + 2), m2, N7 (a + 1), N6 (a + 1) (ne1 (by decide)), N5 (a + 1), N4 (a + 1) (ne1 (by decide)), N3 (a + 1), N2 (a + 1) (ne1 (by decide)), N1 (a + 1), m0]),(by unfold wl; rw [N7 (a + 3), N6 (a + 3) (ne1 (by decide)), N5 (a + 3), m4, N7 (a + 1), N6 (a + 1) (ne1 (by decide)), N5 (a + 1), N4 (a + 1) (ne1 (by decide)), N3 (a + 1), N2 (a + 1) (ne1 (by decide)), N1 (a + 1), m0]),(by unfold wl; rw [N7 (a + 4), m6, N7 (a + 1), N6 (a + 1) (ne1 (by decide)), N5 (a + 1), N4 (a + 1) (ne1 (by decide)), N3 (a + 1), N2 (a + 1) (ne1 (by decide)), N1 (a + 1), m0])⟩,(by unfold wl; rw [N7 (a + 1), N6 (a + 1) (ne1 (by decide)), N5 (a + 1), N4 (a + 1) (ne1 (by decide)), N3 (a + 1), N2 (a + 1) (ne1 (by decide)), N1 (a + 1), m0]; omega)⟩,(by unfold wl; rw [N7 (a + 1), N6 (a + 1) (ne1 (by decide)), N5 (a + 1), N4 (a + 1) (ne1 (by decide)), N3 (a + 1), N2 (a + 1) (ne1 (by decide)), N1 (a + 1), m0]),(by rw [H6 a 4 (ne2 (by decide)), H4 a 4 (ne2 (by decide)), H2 a 4 (ne2 (by decide)), H0 a 4 (ne2 (by decide)), hz])⟩
set_option maxRecDepth 20000 in
theorem r_X7_init {w : WS} {h : AH} {Q : Option AV → WS → AH → Prop} {a : Int} {L : Nat} (hw : (w.1 : Int) = a) (a1 : 1 ≤ a) (tS : wt w a = 17) (hL : L ≤ 1000) (V : ∀ w1 h1, nw w h w1 h1 (a + 1) 1 L → ∀ w3, fn w1 w3 a 0 (a + 1) → Q none w3 h1) : CA mX7_init [vR a, vI (L : Int)] w h 1 (0 + L) Q := by
  refine CA.of (M := mX7_init) (by decide) rfl (Nat.le_of_ble_eq_true rfl) ?_
  show XA mX7_init 0 [some (vR a), some (vI (L : Int))] [] w h 1 (0 + L) Q
  have cW := hw
  refine s_aload_n (pc' := 1) (x := a) dX7_init_0 rfl rfl ?_
  refine s_obj (pc' := 4) dX7_init_1 ml_7_3 oin oic (by omega) (by decide) (Nat.le_of_ble_eq_true rfl) rfl ?_
  refine s_aload_n (pc' := 5) (x := a) dX7_init_4 rfl rfl ?_
  refine s_iload_n (pc' := 6) (x := (L : Int)) dX7_init_5 rfl rfl ?_
  refine s_iconst (pc' := 7) dX7_init_6 rfl ?_
  refine s_max (pc' := 10) dX7_init_7 ml_7_9 mst_max mini_Math mcode_max (by decide) (Nat.le_of_ble_eq_true rfl) (by omega) (by decide) rfl ?_
  refine t_newi (d := (a + 1)) (L := L) (k := 0) (n := 0) (pc' := 12) dX7_init_10 (by omega) hL rfl (by omega) (fun w1 h1 n2 => ?_)
  replace V := V w1 h1 n2
  have tS : wt w1 a = 17 := (n2.2.2.2.2.2.1 a (by omega)).trans tS
  have cW := n2.1
  refine t_putF (pc' := 15) (j := 0) (kc := 7) (i := 0) dX7_init_12 clX7 (by decide) fl_7_0 rfl rfl rfl tS (fun E => nar_ref E _ _ rfl) (fun _ _ => rfl) rfl rfl (fun w3 f4 => ?_)
  replace V := V w3 f4
  have tS : wt w3 a = 17 := (f4.2.1 a).trans tS
  have cW : (w3.1 : Int) = (a + 1) := by rw [f4.1]; omega
  exact s_vret dX7_init_15 rfl V
theorem c_X7_init {w : WS} {h : AH} {a : Int} {L : Nat} (hw : (w.1 : Int) = a) (a1 : 1 ≤ a) (tS : wt w a = 17) (hz : ∀ i, h a i = 0) (hL : 200 ≤ L) (hL2 : L ≤ 300) : CA mX7_init [vR a, vI (L : Int)] w h 1 (0 + L) (fun r w' h' => r = none ∧ pX7 w h w' h' a L) := by
  have dd : ∀ b, (b < a ∨ a + 1 < b) → b ≠ a ∧ b ≠ a + 1 := fun b hb => by omega
  refine r_X7_init hw a1 tS (by omega) ?_
  intro w1 h1 q0 w3 q1
  obtain ⟨c0, t0, m0, z0, y0, T0, N0, F0, H0⟩ := q0
  obtain ⟨c1, T1, N1, v1, F1⟩ := q1
  refine ⟨rfl, ⟨by rw [c1]; exact c0, fun b hb => by obtain ⟨d0, d1⟩ := dd b hb; rw [T1 b, T0 b d1], fun b hb => by obtain ⟨d0, d1⟩ := dd b hb; rw [N1 b, N0 b d1], fun b i hb => by obtain ⟨d0, d1⟩ := dd b hb; rw [F1 b i (Or.inl d0), F0 b i d1], fun b i hb => by obtain ⟨d0, d1⟩ := dd b hb; rw [H0 b i d1]⟩, ?_⟩
  exact ⟨⟨(by rw [T1 a, T0 a (ne2 (by decide)), tS]),(by rw [v1]),(by rw [T1 (a + 1), t0]),(by unfold wl; rw [N1 (a + 1), m0]; omega)⟩,(by unfold wl; rw [N1 (a + 1), m0])⟩
set_option maxRecDepth 20000 in
theorem r_X2_init {w : WS} {h : AH} {Q : Option AV → WS → AH → Prop} {a : Int} (hw : (w.1 : Int) = a) (a1 : 1 ≤ a) (tS : wt w a = 12) (V : ∀ w1 h1, nw w h w1 h1 (a + 1) 1 302 → ∀ w3, fn w1 w3 a 0 (a + 1) → ∀ w5 h5, nw w3 h1 w5 h5 (a + 2) 1 302 → ∀ w7, fn w5 w7 a 1 (a + 2) → ∀ w9 h9, nw w7 h5 w9 h9 (a + 3) 1 302 → ∀ w11, fn w9 w11 a 2 (a + 3) → Q none w11 h9) : CA mX2_init [vR a] w h 3 (906) Q := by
  refine CA.of (M := mX2_init) (by decide) rfl (Nat.le_of_ble_eq_true rfl) ?_
  show XA mX2_init 0 [some (vR a)] [] w h 3 (906) Q
  have cW := hw
  refine s_aload_n (pc' := 1) (x := a) dX2_init_0 rfl rfl ?_
  refine s_obj (pc' := 4) dX2_init_1 ml_2_3 oin oic (by omega) (by decide) (Nat.le_of_ble_eq_true rfl) rfl ?_
  refine s_aload_n (pc' := 5) (x := a) dX2_init_4 rfl rfl ?_
  refine s_sipush (pc' := 8) dX2_init_5 (by decide) rfl ?_
  refine t_newi (d := (a + 1)) (L := 302) (k := 2) (n := 604) (pc' := 10) dX2_init_8 rfl (by decide) rfl (by omega) (fun w1 h1 n2 => ?_)
  replace V := V w1 h1 n2
  have tS : wt w1 a = 12 := (n2.2.2.2.2.2.1 a (by omega)).trans tS
  have cW := n2.1
  refine t_putF (pc' := 13) (j := 0) (kc := 2) (i := 0) dX2_init_10 clX2 (by decide) fl_2_0 rfl rfl rfl tS (fun E => nar_ref E _ _ rfl) (fun _ _ => rfl) rfl rfl (fun w3 f4 => ?_)
  replace V := V w3 f4
  have tS : wt w3 a = 12 := (f4.2.1 a).trans tS
  have cW : (w3.1 : Int) = (a + 1) := by rw [f4.1]; omega
  refine s_aload_n (pc' := 14) (x := a) dX2_init_13 rfl rfl ?_
  refine s_sipush (pc' := 17) dX2_init_14 (by decide) rfl ?_
  refine t_newi (d := (a + 2)) (L := 302) (k := 1) (n := 302) (pc' := 19) dX2_init_17 rfl (by decide) rfl (by omega) (fun w5 h5 n6 => ?_)
  replace V := V w5 h5 n6
  have tS : wt w5 a = 12 := (n6.2.2.2.2.2.1 a (by omega)).trans tS
  have cW := n6.1
  refine t_putF (pc' := 22) (j := 1) (kc := 2) (i := 1) dX2_init_19 clX2 (by decide) fl_2_1 rfl rfl rfl tS (fun E => nar_ref E _ _ rfl) (fun _ _ => rfl) rfl rfl (fun w7 f8 => ?_)
  replace V := V w7 f8
  have tS : wt w7 a = 12 := (f8.2.1 a).trans tS
  have cW : (w7.1 : Int) = (a + 2) := by rw [f8.1]; omega
  refine s_aload_n (pc' := 23) (x := a) dX2_init_22 rfl rfl ?_
  refine s_sipush (pc' := 26) dX2_init_23 (by decide) rfl ?_
  refine t_newi (d := (a + 3)) (L := 302) (k := 0) (n := 0) (pc' := 28) dX2_init_26 rfl (by decide) rfl (by omega) (fun w9 h9 n10 => ?_)
  replace V := V w9 h9 n10
  have tS : wt w9 a = 12 := (n10.2.2.2.2.2.1 a (by omega)).trans tS
  have cW := n10.1
  refine t_putF (pc' := 31) (j := 2) (kc := 2) (i := 2) dX2_init_28 clX2 (by decide) fl_2_2 rfl rfl rfl tS (fun E => nar_ref E _ _ rfl) (fun _ _ => rfl) rfl rfl (fun w11 f12 => ?_)
  replace V := V w11 f12
  have tS : wt w11 a = 12 := (f12.2.1 a).trans tS
  have cW : (w11.1 : Int) = (a + 3) := by rw [f12.1]; omega
  exact s_vret dX2_init_31 rfl V
theorem c_X2_init {w : WS} {h : AH} {a : Int} (hw : (w.1 : Int) = a) (a1 : 1 ≤ a) (tS : wt w a = 12) (hz : ∀ i, h a i = 0) : CA mX2_init [vR a] w h 3 (906) (fun r w' h' => r = none ∧ pX2 w h w' h' a) := by
  have dd : ∀ b, (b < a ∨ a + 3 < b) → b ≠ a ∧ b ≠ a + 1 ∧ b ≠ a + 2 ∧ b ≠ a + 3 := fun b hb => by omega
  refine r_X2_init hw a1 tS ?_
  intro w1 h1 q0 w3 q1 w5 h5 q2 w7 q3 w9 h9 q4 w11 q5
  obtain ⟨c0, t0, m0, z0, y0, T0, N0, F0, H0⟩ := q0
  obtain ⟨c1, T1, N1, v1, F1⟩ := q1
  obtain ⟨c2, t2, m2, z2, y2, T2, N2, F2, H2⟩ := q2
  obtain ⟨c3, T3, N3, v3, F3⟩ := q3
  obtain ⟨c4, t4, m4, z4, y4, T4, N4, F4, H4⟩ := q4
  obtain ⟨c5, T5, N5, v5, F5⟩ := q5
  refine ⟨rfl, ⟨by rw [c5]; exact c4, fun b hb => by obtain ⟨d0, d1, d2, d3⟩ := dd b hb; rw [T5 b, T4 b d3, T3 b, T2 b d2, T1 b, T0 b d1], fun b hb => by obtain ⟨d0, d1, d2, d3⟩ := dd b hb; rw [N5 b, N4 b d3, N3 b, N2 b d2, N1 b, N0 b d1], fun b i hb => by obtain ⟨d0, d1, d2, d3⟩ := dd b hb; rw [F5 b i (Or.inl d0), F4 b i d3, F3 b i (Or.inl d0), F2 b i d2, F1 b i (Or.inl d0), F0 b i d1], fun b i hb => by obtain ⟨d0, d1, d2, d3⟩ := dd b hb; rw [H4 b i d3, H2 b i d2, H0 b i d1]⟩, ?_⟩
  exact ⟨(by rw [T5 a, T4 a (ne2 (by decide)), T3 a, T2 a (ne2 (by decide)), T1 a, T0 a (ne2 (by decide)), tS]),(by rw [F5 a 0 (Or.inr (by decide)), F4 a 0 (ne2 (by decide)), F3 a 0 (Or.inr (by decide)), F2 a 0 (ne2 (by decide)), v1]),(by rw [F5 a 1 (Or.inr (by decide)), F4 a 1 (ne2 (by decide)), v3]),(by rw [v5]),⟨(by rw [T5 (a + 1), T4 (a + 1) (ne1 (by decide)), T3 (a + 1), T2 (a + 1) (ne1 (by decide)), T1 (a + 1), t0]),(by rw [T5 (a + 2), T4 (a + 2) (ne1 (by decide)), T3 (a + 2), t2]),(by rw [T5 (a + 3), t4])⟩,⟨(by unfold wl; rw [N5 (a + 1), N4 (a + 1) (ne1 (by decide)), N3 (a + 1), N2 (a + 1) (ne1 (by decide)), N1 (a + 1), m0]; rfl),(by unfold wl; rw [N5 (a + 2), N4 (a + 2) (ne1 (by decide)), N3 (a + 2), m2]; rfl),(by unfold wl; rw [N5 (a + 3), m4]; rfl)⟩⟩
set_option maxRecDepth 20000 in
theorem r_X4_init {w : WS} {h : AH} {Q : Option AV → WS → AH → Prop} {a : Int} (hw : (w.1 : Int) = a) (a1 : 1 ≤ a) (tS : wt w a = 14) (V : ∀ w1 h1, nw w h w1 h1 (a + 1) 1 360 → ∀ w3, fn w1 w3 a 0 (a + 1) → ∀ w5 h5, nw w3 h1 w5 h5 (a + 2) 1 360 → ∀ w7, fn w5 w7 a 1 (a + 2) → Q none w7 h5) : CA mX4_init [vR a] w h 2 (720) Q := by
  refine CA.of (M := mX4_init) (by decide) rfl (Nat.le_of_ble_eq_true rfl) ?_
  show XA mX4_init 0 [some (vR a)] [] w h 2 (720) Q
  have cW := hw
  refine s_aload_n (pc' := 1) (x := a) dX4_init_0 rfl rfl ?_
  refine s_obj (pc' := 4) dX4_init_1 ml_4_3 oin oic (by omega) (by decide) (Nat.le_of_ble_eq_true rfl) rfl ?_
  refine s_aload_n (pc' := 5) (x := a) dX4_init_4 rfl rfl ?_
  refine s_sipush (pc' := 8) dX4_init_5 (by decide) rfl ?_
  refine t_newi (d := (a + 1)) (L := 360) (k := 1) (n := 360) (pc' := 10) dX4_init_8 rfl (by decide) rfl (by omega) (fun w1 h1 n2 => ?_)
  replace V := V w1 h1 n2
  have tS : wt w1 a = 14 := (n2.2.2.2.2.2.1 a (by omega)).trans tS
  have cW := n2.1
  refine t_putF (pc' := 13) (j := 0) (kc := 4) (i := 0) dX4_init_10 clX4 (by decide) fl_4_0 rfl rfl rfl tS (fun E => nar_ref E _ _ rfl) (fun _ _ => rfl) rfl rfl (fun w3 f4 => ?_)
  replace V := V w3 f4
  have tS : wt w3 a = 14 := (f4.2.1 a).trans tS
  have cW : (w3.1 : Int) = (a + 1) := by rw [f4.1]; omega
  refine s_aload_n (pc' := 14) (x := a) dX4_init_13 rfl rfl ?_
  refine s_sipush (pc' := 17) dX4_init_14 (by decide) rfl ?_
  refine t_newi (d := (a + 2)) (L := 360) (k := 0) (n := 0) (pc' := 19) dX4_init_17 rfl (by decide) rfl (by omega) (fun w5 h5 n6 => ?_)
  replace V := V w5 h5 n6
  have tS : wt w5 a = 14 := (n6.2.2.2.2.2.1 a (by omega)).trans tS
  have cW := n6.1
  refine t_putF (pc' := 22) (j := 1) (kc := 4) (i := 1) dX4_init_19 clX4 (by decide) fl_4_1 rfl rfl rfl tS (fun E => nar_ref E _ _ rfl) (fun _ _ => rfl) rfl rfl (fun w7 f8 => ?_)
  replace V := V w7 f8
  have tS : wt w7 a = 14 := (f8.2.1 a).trans tS
  have cW : (w7.1 : Int) = (a + 2) := by rw [f8.1]; omega
  exact s_vret dX4_init_22 rfl V
theorem c_X4_init {w : WS} {h : AH} {a : Int} (hw : (w.1 : Int) = a) (a1 : 1 ≤ a) (tS : wt w a = 14) (hz : ∀ i, h a i = 0) : CA mX4_init [vR a] w h 2 (720) (fun r w' h' => r = none ∧ pX4 w h w' h' a) := by
  have dd : ∀ b, (b < a ∨ a + 2 < b) → b ≠ a ∧ b ≠ a + 1 ∧ b ≠ a + 2 := fun b hb => by omega
  refine r_X4_init hw a1 tS ?_
  intro w1 h1 q0 w3 q1 w5 h5 q2 w7 q3
  obtain ⟨c0, t0, m0, z0, y0, T0, N0, F0, H0⟩ := q0
  obtain ⟨c1, T1, N1, v1, F1⟩ := q1
  obtain ⟨c2, t2, m2, z2, y2, T2, N2, F2, H2⟩ := q2
  obtain ⟨c3, T3, N3, v3, F3⟩ := q3
  refine ⟨rfl, ⟨by rw [c3]; exact c2, fun b hb => by obtain ⟨d0, d1, d2⟩ := dd b hb; rw [T3 b, T2 b d2, T1 b, T0 b d1], fun b hb => by obtain ⟨d0, d1, d2⟩ := dd b hb; rw [N3 b, N2 b d2, N1 b, N0 b d1], fun b i hb => by obtain ⟨d0, d1, d2⟩ := dd b hb; rw [F3 b i (Or.inl d0), F2 b i d2, F1 b i (Or.inl d0), F0 b i d1], fun b i hb => by obtain ⟨d0, d1, d2⟩ := dd b hb; rw [H2 b i d2, H0 b i d1]⟩, ?_⟩
  exact ⟨(by rw [T3 a, T2 a (ne2 (by decide)), T1 a, T0 a (ne2 (by decide)), tS]),(by rw [F3 a 0 (Or.inr (by decide)), F2 a 0 (ne2 (by decide)), v1]),(by rw [v3]),⟨(by rw [T3 (a + 1), T2 (a + 1) (ne1 (by decide)), T1 (a + 1), t0]),(by rw [T3 (a + 2), t2])⟩,⟨(by unfold wl; rw [N3 (a + 1), N2 (a + 1) (ne1 (by decide)), N1 (a + 1), m0]; rfl),(by unfold wl; rw [N3 (a + 2), m2]; rfl)⟩⟩
set_option maxRecDepth 20000 in
theorem r_X5_init {w : WS} {h : AH} {Q : Option AV → WS → AH → Prop} {a : Int} (hw : (w.1 : Int) = a) (a1 : 1 ≤ a) (tS : wt w a = 15) (V : ∀ w1 h1, nw w h w1 h1 (a + 1) 1 8 → ∀ w3, fn w1 w3 a 0 (a + 1) → ∀ w5 h5, nw w3 h1 w5 h5 (a + 2) 1 8 → ∀ w7, fn w5 w7 a 1 (a + 2) → ∀ w9 h9, nw w7 h5 w9 h9 (a + 3) 1 8 → ∀ w11, fn w9 w11 a 2 (a + 3) → ∀ w13 h13, nw w11 h9 w13 h13 (a + 4) 1 8 → ∀ w15, fn w13 w15 a 3 (a + 4) → ∀ w17 h17, nw w15 h13 w17 h17 (a + 5) 1 24 → ∀ w19, fn w17 w19 a 5 (a + 5) → ∀ w21 h21, nw w19 h17 w21 h21 (a + 6) 1 24 → ∀ w23, fn w21 w23 a 6 (a + 6) → ∀ w25 h25, nw w23 h21 w25 h25 (a + 7) 1 24 → ∀ w27, fn w25 w27 a 7 (a + 7) → ∀ h29, h29 = st (st (st (st (st h25 a 4 0) a 8 0) a 9 60) a 10 10) a 11 1 → Q none w27 h29) : CA mX5_init [vR a] w h 7 (104) Q := by
  refine CA.of (M := mX5_init) (by decide) rfl (Nat.le_of_ble_eq_true rfl) ?_
  show XA mX5_init 0 [some (vR a)] [] w h 7 (104) Q
  have cW := hw
  refine s_aload_n (pc' := 1) (x := a) dX5_init_0 rfl rfl ?_
  refine s_obj (pc' := 4) dX5_init_1 ml_5_3 oin oic (by omega) (by decide) (Nat.le_of_ble_eq_true rfl) rfl ?_
  refine s_aload_n (pc' := 5) (x := a) dX5_init_4 rfl rfl ?_
  refine s_bipush (pc' := 7) dX5_init_5 (by decide) rfl ?_
  refine t_newi (d := (a + 1)) (L := 8) (k := 6) (n := 96) (pc' := 9) dX5_init_7 rfl (by decide) rfl (by omega) (fun w1 h1 n2 => ?_)
  replace V := V w1 h1 n2
  have tS : wt w1 a = 15 := (n2.2.2.2.2.2.1 a (by omega)).trans tS
  have cW := n2.1
  refine t_putF (pc' := 12) (j := 0) (kc := 5) (i := 0) dX5_init_9 clX5 (by decide) fl_5_0 rfl rfl rfl tS (fun E => nar_ref E _ _ rfl) (fun _ _ => rfl) rfl rfl (fun w3 f4 => ?_)
  replace V := V w3 f4
  have tS : wt w3 a = 15 := (f4.2.1 a).trans tS
  have cW : (w3.1 : Int) = (a + 1) := by rw [f4.1]; omega
  refine s_aload_n (pc' := 13) (x := a) dX5_init_12 rfl rfl ?_
  refine s_bipush (pc' := 15) dX5_init_13 (by decide) rfl ?_
  refine t_newi (d := (a + 2)) (L := 8) (k := 5) (n := 88) (pc' := 17) dX5_init_15 rfl (by decide) rfl (by omega) (fun w5 h5 n6 => ?_)
  replace V := V w5 h5 n6
  have tS : wt w5 a = 15 := (n6.2.2.2.2.2.1 a (by omega)).trans tS
  have cW := n6.1
  refine t_putF (pc' := 20) (j := 1) (kc := 5) (i := 1) dX5_init_17 clX5 (by decide) fl_5_1 rfl rfl rfl tS (fun E => nar_ref E _ _ rfl) (fun _ _ => rfl) rfl rfl (fun w7 f8 => ?_)
  replace V := V w7 f8
  have tS : wt w7 a = 15 := (f8.2.1 a).trans tS
  have cW : (w7.1 : Int) = (a + 2) := by rw [f8.1]; omega
  refine s_aload_n (pc' := 21) (x := a) dX5_init_20 rfl rfl ?_
  refine s_bipush (pc' := 23) dX5_init_21 (by decide) rfl ?_
  refine t_newi (d := (a + 3)) (L := 8) (k := 4) (n := 80) (pc' := 25) dX5_init_23 rfl (by decide) rfl (by omega) (fun w9 h9 n10 => ?_)
  replace V := V w9 h9 n10
  have tS : wt w9 a = 15 := (n10.2.2.2.2.2.1 a (by omega)).trans tS
  have cW := n10.1
  refine t_putF (pc' := 28) (j := 2) (kc := 5) (i := 2) dX5_init_25 clX5 (by decide) fl_5_2 rfl rfl rfl tS (fun E => nar_ref E _ _ rfl) (fun _ _ => rfl) rfl rfl (fun w11 f12 => ?_)
  replace V := V w11 f12
  have tS : wt w11 a = 15 := (f12.2.1 a).trans tS
  have cW : (w11.1 : Int) = (a + 3) := by rw [f12.1]; omega
  refine s_aload_n (pc' := 29) (x := a) dX5_init_28 rfl rfl ?_
  refine s_bipush (pc' := 31) dX5_init_29 (by decide) rfl ?_
  refine t_newi (d := (a + 4)) (L := 8) (k := 3) (n := 72) (pc' := 33) dX5_init_31 rfl (by decide) rfl (by omega) (fun w13 h13 n14 => ?_)
  replace V := V w13 h13 n14
  have tS : wt w13 a = 15 := (n14.2.2.2.2.2.1 a (by omega)).trans tS
  have cW := n14.1
  refine t_putF (pc' := 36) (j := 3) (kc := 5) (i := 3) dX5_init_33 clX5 (by decide) fl_5_3 rfl rfl rfl tS (fun E => nar_ref E _ _ rfl) (fun _ _ => rfl) rfl rfl (fun w15 f16 => ?_)
  replace V := V w15 f16
  have tS : wt w15 a = 15 := (f16.2.1 a).trans tS
  have cW : (w15.1 : Int) = (a + 4) := by rw [f16.1]; omega
  refine s_aload_n (pc' := 37) (x := a) dX5_init_36 rfl rfl ?_
  refine s_bipush (pc' := 39) dX5_init_37 (by decide) rfl ?_
  refine t_newi (d := (a + 5)) (L := 24) (k := 2) (n := 48) (pc' := 41) dX5_init_39 rfl (by decide) rfl (by omega) (fun w17 h17 n18 => ?_)
  replace V := V w17 h17 n18
  have tS : wt w17 a = 15 := (n18.2.2.2.2.2.1 a (by omega)).trans tS
  have cW := n18.1
  refine t_putF (pc' := 44) (j := 5) (kc := 5) (i := 5) dX5_init_41 clX5 (by decide) fl_5_5 rfl rfl rfl tS (fun E => nar_ref E _ _ rfl) (fun _ _ => rfl) rfl rfl (fun w19 f20 => ?_)
  replace V := V w19 f20
  have tS : wt w19 a = 15 := (f20.2.1 a).trans tS
  have cW : (w19.1 : Int) = (a + 5) := by rw [f20.1]; omega
  refine s_aload_n (pc' := 45) (x := a) dX5_init_44 rfl rfl ?_
  refine s_bipush (pc' := 47) dX5_init_45 (by decide) rfl ?_
  refine t_newi (d := (a + 6)) (L := 24) (k := 1) (n := 24) (pc' := 49) dX5_init_47 rfl (by decide) rfl (by omega) (fun w21 h21 n22 => ?_)
  replace V := V w21 h21 n22
  have tS : wt w21 a = 15 := (n22.2.2.2.2.2.1 a (by omega)).trans tS
  have cW := n22.1
  refine t_putF (pc' := 52) (j := 6) (kc := 5) (i := 6) dX5_init_49 clX5 (by decide) fl_5_6 rfl rfl rfl tS (fun E => nar_ref E _ _ rfl) (fun _ _ => rfl) rfl rfl (fun w23 f24 => ?_)
  replace V := V w23 f24
  have tS : wt w23 a = 15 := (f24.2.1 a).trans tS
  have cW : (w23.1 : Int) = (a + 6) := by rw [f24.1]; omega
  refine s_aload_n (pc' := 53) (x := a) dX5_init_52 rfl rfl ?_
  refine s_bipush (pc' := 55) dX5_init_53 (by decide) rfl ?_
  refine t_newi (d := (a + 7)) (L := 24) (k := 0) (n := 0) (pc' := 57) dX5_init_55 rfl (by decide) rfl (by omega) (fun w25 h25 n26 => ?_)
  replace V := V w25 h25 n26
  have tS : wt w25 a = 15 := (n26.2.2.2.2.2.1 a (by omega)).trans tS
  have cW := n26.1
  refine t_putF (pc' := 60) (j := 7) (kc := 5) (i := 7) dX5_init_57 clX5 (by decide) fl_5_7 rfl rfl rfl tS (fun E => nar_ref E _ _ rfl) (fun _ _ => rfl) rfl rfl (fun w27 f28 => ?_)
  replace V := V w27 f28
  have tS : wt w27 a = 15 := (f28.2.1 a).trans tS
  have cW : (w27.1 : Int) = (a + 7) := by rw [f28.1]; omega
  refine s_aload_n (pc' := 61) (x := a) dX5_init_60 rfl rfl ?_
  refine s_callV (pc' := 64) (av := []) (a := a) (sk := []) (kc := 5) dX5_init_61 ml_5_33 okX5_clear oiX5_clear (by decide) (NF := 12) rfl tS rfl (Nat.le_of_ble_eq_true rfl) (Nat.le_refl 0) (Nat.le_refl 0) rfl (CV.on (c_X5_clear tS) (fun h29 e30 => ?_))
  replace V := V h29 e30
  exact s_vret dX5_init_64 rfl V
theorem c_X5_init {w : WS} {h : AH} {a : Int} (hw : (w.1 : Int) = a) (a1 : 1 ≤ a) (tS : wt w a = 15) (hz : ∀ i, h a i = 0) : CA mX5_init [vR a] w h 7 (104) (fun r w' h' => r = none ∧ pX5 w h w' h' a) := by
  have dd : ∀ b, (b < a ∨ a + 7 < b) → b ≠ a ∧ b ≠ a + 1 ∧ b ≠ a + 2 ∧ b ≠ a + 3 ∧ b ≠ a + 4 ∧ b ≠ a + 5 ∧ b ≠ a + 6 ∧ b ≠ a + 7 := fun b hb => by omega
  refine r_X5_init hw a1 tS ?_
  intro w1 h1 q0 w3 q1 w5 h5 q2 w7 q3 w9 h9 q4 w11 q5 w13 h13 q6 w15 q7 w17 h17 q8 w19 q9 w21 h21 q10 w23 q11 w25 h25 q12 w27 q13 h29 q14
  obtain ⟨c0, t0, m0, z0, y0, T0, N0, F0, H0⟩ := q0
  obtain ⟨c1, T1, N1, v1, F1⟩ := q1
  obtain ⟨c2, t2, m2, z2, y2, T2, N2, F2, H2⟩ := q2
  obtain ⟨c3, T3, N3, v3, F3⟩ := q3
  obtain ⟨c4, t4, m4, z4, y4, T4, N4, F4, H4⟩ := q4
  obtain ⟨c5, T5, N5, v5, F5⟩ := q5
  obtain ⟨c6, t6, m6, z6, y6, T6, N6, F6, H6⟩ := q6
  obtain ⟨c7, T7, N7, v7, F7⟩ := q7
  obtain ⟨c8, t8, m8, z8, y8, T8, N8, F8, H8⟩ := q8
  obtain ⟨c9, T9, N9, v9, F9⟩ := q9
  obtain ⟨c10, t10, m10, z10, y10, T10, N10, F10, H10⟩ := q10
  obtain ⟨c11, T11, N11, v11, F11⟩ := q11
  obtain ⟨c12, t12, m12, z12, y12, T12, N12, F12, H12⟩ := q12
  obtain ⟨c13, T13, N13, v13, F13⟩ := q13
  refine ⟨rfl, ⟨by rw [c13]; exact c12, fun b hb => by obtain ⟨d0, d1, d2, d3, d4, d5, d6, d7⟩ := dd b hb; rw [T13 b, T12 b d7, T11 b, T10 b d6, T9 b, T8 b d5, T7 b, T6 b d4, T5 b, T4 b d3, T3 b, T2 b d2, T1 b, T0 b d1], fun b hb => by obtain ⟨d0, d1, d2, d3, d4, d5, d6, d7⟩ := dd b hb; rw [N13 b, N12 b d7, N11 b, N10 b d6, N9 b, N8 b d5, N7 b, N6 b d4, N5 b, N4 b d3, N3 b, N2 b d2, N1 b, N0 b d1], fun b i hb => by obtain ⟨d0, d1, d2, d3, d4, d5, d6, d7⟩ := dd b hb; rw [F13 b i (Or.inl d0), F12 b i d7, F11 b i (Or.inl d0), F10 b i d6, F9 b i (Or.inl d0), F8 b i d5, F7 b i (Or.inl d0), F6 b i d4, F5 b i (Or.inl d0), F4 b i d3, F3 b i (Or.inl d0), F2 b i d2, F1 b i (Or.inl d0), F0 b i d1], fun b i hb => by obtain ⟨d0, d1, d2, d3, d4, d5, d6, d7⟩ := dd b hb; rw [q14, stE (Or.inl d0), stE (Or.inl d0), stE (Or.inl d0), stE (Or.inl d0), stE (Or.inl d0), H12 b i d7, H10 b i d6, H8 b i d5, H6 b i d4, H4 b i d3, H2 b i d2, H0 b i d1]⟩, ?_⟩
  exact ⟨⟨(by rw [T13 a, T12 a (ne2 (by decide)), T11 a, T10 a (ne2 (by decide)), T9 a, T8 a (ne2 (by decide)), T7 a, T6 a (ne2 (by decide)), T5 a, T4 a (ne2 (by decide)), T3 a, T2 a (ne2 (by decide)), T1 a, T0 a (ne2 (by decide)), tS]),(by rw [F13 a 0 (Or.inr (by decide)), F12 a 0 (ne2 (by decide)), F11 a 0 (Or.inr (by decide)), F10 a 0 (ne2 (by decide)), F9 a 0 (Or.inr (by decide)), F8 a 0 (ne2 (by decide)), F7 a 0 (Or.inr (by decide)), F6 a 0 (ne2 (by decide)), F5 a 0 (Or.inr (by decide)), F4 a 0 (ne2 (by decide)), F3 a 0 (Or.inr (by decide)), F2 a 0 (ne2 (by decide)), v1]),(by rw [F13 a 1 (Or.inr (by decide)), F12 a 1 (ne2 (by decide)), F11 a 1 (Or.inr (by decide)), F10 a 1 (ne2 (by decide)), F9 a 1 (Or.inr (by decide)), F8 a 1 (ne2 (by decide)), F7 a 1 (Or.inr (by decide)), F6 a 1 (ne2 (by decide)), F5 a 1 (Or.inr (by decide)), F4 a 1 (ne2 (by decide)), v3]),(by rw [F13 a 2 (Or.inr (by decide)), F12 a 2 (ne2 (by decide)), F11 a 2 (Or.inr (by decide)), F10 a 2 (ne2 (by decide)), F9 a 2 (Or.inr (by decide)), F8 a 2 (ne2 (by decide)), F7 a 2 (Or.inr (by decide)), F6 a 2 (ne2 (by decide)), v5]),(by rw [F13 a 3 (Or.inr (by decide)), F12 a 3 (ne2 (by decide)), F11 a 3 (Or.inr (by decide)), F10 a 3 (ne2 (by decide)), F9 a 3 (Or.inr (by decide)), F8 a 3 (ne2 (by decide)), v7]),(by rw [F13 a 5 (Or.inr (by decide)), F12 a 5 (ne2 (by decide)), F11 a 5 (Or.inr (by decide)), F10 a 5 (ne2 (by decide)), v9]),(by rw [F13 a 6 (Or.inr (by decide)), F12 a 6 (ne2 (by decide)), v11]),(by rw [v13]),⟨(by rw [T13 (a + 1), T12 (a + 1) (ne1 (by decide)), T11 (a + 1), T10 (a + 1) (ne1 (by decide)), T9 (a + 1), T8 (a + 1) (ne1 (by decide)), T7 (a + 1), T6 (a + 1) (ne1 (by decide)), T5 (a + 1), T4 (a + 1) (ne1 (by decide)), T3 (a + 1), T2 (a + 1) (ne1 (by decide)), T1 (a + 1), t0]),(by rw [T13 (a + 2), T12 (a + 2) (ne1 (by decide)), T11 (a + 2), T10 (a + 2) (ne1 (by decide)), T9 (a + 2), T8 (a + 2) (ne1 (by decide)), T7 (a + 2), T6 (a + 2) (ne1 (by decide)), T5 (a + 2), T4 (a + 2) (ne1 (by decide)), T3 (a + 2), t2]),(by rw [T13 (a + 3), T12 (a + 3) (ne1 (by decide)), T11 (a + 3), T10 (a + 3) (ne1 (by decide)), T9 (a + 3), T8 (a + 3) (ne1 (by decide)), T7 (a + 3), T6 (a + 3) (ne1 (by decide)), T5 (a + 3), t4]),(by rw [T13 (a + 4), T12 (a + 4) (ne1 (by decide)), T11 (a + 4), T10 (a + 4) (ne1 (by decide)), T9 (a + 4), T8 (a + 4) (ne1 (by decide)), T7 (a + 4), t6]),(by rw [T13 (a + 5), T12 (a + 5) (ne1 (by decide)), T11 (a + 5), T10 (a + 5) (ne1 (by decide)), T9 (a + 5), t8]),(by rw [T13 (a + 6), T12 (a + 6) (ne1 (by decide)), T11 (a + 6), t10]),(by rw [T13 (a + 7), t12])⟩,⟨(by unfold wl; rw [N13 (a + 1), N12 (a + 1) (ne1 (by decide)), N11 (a + 1), N10 (a + 1) (ne1 (by decide)), N9 (a + 1), N8 (a + 1) (ne1 (by decide)), N7 (a + 1), N6 (a + 1) (ne1 (by decide)), N5 (a + 1), N4 (a + 1) (ne1 (by decide)), N3 (a + 1), N2 (a + 1) (ne1 (by decide)), N1 (a + 1), m0]; rfl),(by unfold wl; rw [N13 (a + 2), N12 (a + 2) (ne1 (by decide)), N11 (a + 2), N10 (a + 2) (ne1 (by decide)), N9 (a + 2), N8 (a + 2) (ne1 (by decide)), N7 (a + 2), N6 (a + 2) (ne1 (by decide)), N5 (a + 2), N4 (a + 2) (ne1 (by decide)), N3 (a + 2), m2]; rfl),(by unfold wl; rw [N13 (a + 3), N12 (a + 3) (ne1 (by decide)), N11 (a + 3), N10 (a + 3) (ne1 (by decide)), N9 (a + 3), N8 (a + 3) (ne1 (by decide)), N7 (a + 3), N6 (a + 3) (ne1 (by decide)), N5 (a + 3), m4]; rfl),(by unfold wl; rw [N13 (a + 4), N12 (a + 4) (ne1 (by decide)), N11 (a + 4), N10 (a + 4) (ne1 (by decide)), N9 (a + 4), N8 (a + 4) (ne1 (by decide)), N7 (a + 4), m6]; rfl),(by unfold wl; rw [N13 (a + 5), N12 (a + 5) (ne1 (by decide)), N11 (a + 5), N10 (a + 5) (ne1 (by decide)), N9 (a + 5), m8]; rfl),(by unfold wl; rw [N13 (a + 6), N12 (a + 6) (ne1 (by decide)), N11 (a + 6), m10]; rfl),(by unfold wl; rw [N13 (a + 7), m12]; rfl)⟩⟩,(by rw [q14, stE (Or.inr (by decide)), stE (Or.inr (by decide)), stE (Or.inr (by decide)), stE (Or.inr (by decide)), st_same]),(by rw [q14, stE (Or.inr (by decide)), stE (Or.inr (by decide)), stE (Or.inr (by decide)), st_same]),(by rw [q14, stE (Or.inr (by decide)), stE (Or.inr (by decide)), st_same]),(by rw [q14, stE (Or.inr (by decide)), st_same]),(by rw [q14, st_same])⟩
