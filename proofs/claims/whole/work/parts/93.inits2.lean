def pX3 (w : WS) (h : AH) (w' : WS) (h' : AH) (d : Int) : Prop := ex w h w' h' d (d + 2) ∧ wt w' d = 13 ∧ wf w' d 0 = d + 1 ∧ shTape w' (d + 1) ∧ h' d 1 = 0 ∧ h' d 2 = -1 ∧ h' (d + 1) 1 = 0
def pX1 (w : WS) (h : AH) (w' : WS) (h' : AH) (d : Int) : Prop := ex w h w' h' d (d + 7) ∧ shHand w' d ∧ (h' d 2 = 0 ∧ h' d 3 = 0 ∧ h' d 4 = 0 ∧ h' d 5 = 0 ∧ h' d 6 = 0 ∧ h' d 7 = 0 ∧ h' d 8 = -1 ∧ h' d 9 = 0 ∧ h' d 10 = 2) ∧ h' (d + 1) 4 = 0
/-- of these cells nothing has changed -/
def sm (w w' : WS) (lo hi : Int) : Prop := ∀ b, lo ≤ b → b ≤ hi → wt w' b = wt w b ∧ wn w' b = wn w b ∧ ∀ i, wf w' b i = wf w b i
section
variable {w w1 w2 : WS} {h h1 h2 : AH} {lo hi d : Int}
theorem sm_tr (a : sm w w1 lo hi) (b : sm w1 w2 lo hi) : sm w w2 lo hi := fun x x0 x1 => ⟨(b x x0 x1).1.trans (a x x0 x1).1, (b x x0 x1).2.1.trans (a x x0 x1).2.1, fun i => ((b x x0 x1).2.2 i).trans ((a x x0 x1).2.2 i)⟩
theorem sm_nw {kd n : Nat} (N : nw w h w1 h1 d kd n) (c : d < lo ∨ hi < d) : sm w w1 lo hi := fun x x0 x1 => ⟨N.2.2.2.2.2.1 x (by omega), N.2.2.2.2.2.2.1 x (by omega), fun i => N.2.2.2.2.2.2.2.1 x i (by omega)⟩
theorem sm_fn {i x : Int} (F : fn w w1 d i x) (c : d < lo ∨ hi < d) : sm w w1 lo hi := fun y y0 y1 => ⟨F.2.1 y, F.2.2.1 y, fun i => F.2.2.2.2 y i (Or.inl (by omega))⟩
theorem sm_ex {l2 h3 : Int} (X : ex w h w1 h1 l2 h3) (c : hi < l2 ∨ h3 < lo) : sm w w1 lo hi := fun x x0 x1 => ⟨X.2.1 x (by omega), X.2.2.1 x (by omega), fun i => X.2.2.2.1 x i (by omega)⟩
theorem sm_le {l2 h3 : Int} (a : sm w w1 l2 h3) (c1 : l2 ≤ lo) (c2 : hi ≤ h3) : sm w w1 lo hi := fun x x0 x1 => a x (by omega) (by omega)
theorem shTape_s (s : shTape w d) (m : sm w w1 d (d + 1)) : shTape w1 d := by
  unfold shTape wl at *
  obtain ⟨a1, a2, a3⟩ := m d (by omega) (by omega)
  obtain ⟨b1, b2, b3⟩ := m (d + 1) (by omega) (by omega)
  rw [a1, a3, b1, b2]; exact s
theorem shCalls_s (s : shCalls w d) (m : sm w w1 d (d + 4)) : shCalls w1 d := by
  unfold shCalls wl at *
  obtain ⟨a1, a2, a3⟩ := m d (by omega) (by omega)
  obtain ⟨b1, b2, b3⟩ := m (d + 1) (by omega) (by omega)
  obtain ⟨c1, c2, c3⟩ := m (d + 2) (by omega) (by omega)
  obtain ⟨d1, d2, d3⟩ := m (d + 3) (by omega) (by omega)
  obtain ⟨e1, e2, e3⟩ := m (d + 4) (by omega) (by omega)
  rw [a1, a3, a3, a3, a3, b1, b2, c1, c2, d1, d2, e1, e2]; exact s
theorem shWakes_s (s : shWakes w d) (m : sm w w1 d (d + 1)) : shWakes w1 d := by
  unfold shWakes wl at *
  obtain ⟨a1, a2, a3⟩ := m d (by omega) (by omega)
  obtain ⟨b1, b2, b3⟩ := m (d + 1) (by omega) (by omega)
  rw [a1, a3, b1, b2]; exact s
theorem shPlan_s (s : shPlan w d) (m : sm w w1 d (d + 3)) : shPlan w1 d := by
  unfold shPlan wl at *
  obtain ⟨a1, a2, a3⟩ := m d (by omega) (by omega)
  obtain ⟨b1, b2, b3⟩ := m (d + 1) (by omega) (by omega)
  obtain ⟨c1, c2, c3⟩ := m (d + 2) (by omega) (by omega)
  obtain ⟨d1, d2, d3⟩ := m (d + 3) (by omega) (by omega)
  rw [a1, a3, a3, a3, b1, b2, c1, c2, d1, d2]; exact s
theorem shRound_s (s : shRound w d) (m : sm w w1 d (d + 2)) : shRound w1 d := by
  unfold shRound wl at *
  obtain ⟨a1, a2, a3⟩ := m d (by omega) (by omega)
  obtain ⟨b1, b2, b3⟩ := m (d + 1) (by omega) (by omega)
  obtain ⟨c1, c2, c3⟩ := m (d + 2) (by omega) (by omega)
  rw [a1, a3, a3, b1, b2, c1, c2]; exact s
theorem shHand_s (s : shHand w d) (m : sm w w1 d (d + 7)) : shHand w1 d := by
  obtain ⟨s1, s2, s3, s4, s5, s6, s7⟩ := s
  obtain ⟨a1, a2, a3⟩ := m d (by omega) (by omega)
  obtain ⟨c1, c2, c3⟩ := m (d + 2) (by omega) (by omega)
  obtain ⟨e1, e2, e3⟩ := m (d + 7) (by omega) (by omega)
  refine ⟨a1.trans s1, (a3 0).trans s2, (a3 1).trans s3, shCalls_s s4 (sm_le m (by omega) (by omega)), shWakes_s s5 (sm_le m (by omega) (by omega)), ?_, ?_⟩
  · unfold wl at *; rw [c2]; exact s6
  · unfold wl at *; rw [e2]; exact s7
theorem shSetup_s (s : shSetup w d) (m : sm w w1 d (d + 7)) : shSetup w1 d := by
  unfold shSetup wl at *
  obtain ⟨a1, a2, a3⟩ := m d (by omega) (by omega)
  obtain ⟨b1, b2, b3⟩ := m (d + 1) (by omega) (by omega)
  obtain ⟨c1, c2, c3⟩ := m (d + 2) (by omega) (by omega)
  obtain ⟨d1, d2, d3⟩ := m (d + 3) (by omega) (by omega)
  obtain ⟨e1, e2, e3⟩ := m (d + 4) (by omega) (by omega)
  obtain ⟨f1, f2, f3⟩ := m (d + 5) (by omega) (by omega)
  obtain ⟨g1, g2, g3⟩ := m (d + 6) (by omega) (by omega)
  obtain ⟨h1, h2, h3⟩ := m (d + 7) (by omega) (by omega)
  rw [a1, a3, a3, a3, a3, a3, a3, a3, b1, b2, c1, c2, d1, d2, e1, e2, f1, f2, g1, g2, h1, h2]; exact s
end
set_option maxRecDepth 20000 in
theorem r_X3_init {w : WS} {h : AH} {Q : Option AV → WS → AH → Prop} {a : Int} (hw : (w.1 : Int) = a) (a1 : 1 ≤ a) (tS : wt w a = 13) (V : ∀ w1 h1, nw w h w1 h1 (a + 1) 16 0 → ∀ w3 h3, pX6 w1 h1 w3 h3 (a + 1) → ∀ w5, fn w3 w5 a 0 (a + 1) → ∀ h7, sn h3 h7 a 2 (-1) → Q none w5 h7) : CA mX3_init [vR a] w h 2 (606) Q := by
  refine CA.of (M := mX3_init) (by decide) rfl (Nat.le_of_ble_eq_true rfl) ?_
  show XA mX3_init 0 [some (vR a)] [] w h 2 (606) Q
  have cW := hw
  refine s_aload_n (pc' := 1) (x := a) dX3_init_0 rfl rfl ?_
  refine s_obj (pc' := 4) dX3_init_1 ml_3_3 oin oic (by omega) (by decide) (Nat.le_of_ble_eq_true rfl) rfl ?_
  refine s_aload_n (pc' := 5) (x := a) dX3_init_4 rfl rfl ?_
  refine t_new (d := (a + 1)) (k := 1) (n := 600) (pc' := 8) dX3_init_5 clX6 ck_3_9 cn_6 ci_6 fdX6 rfl (by omega) (fun w1 h1 n2 => ?_)
  replace V := V w1 h1 n2
  have tS : wt w1 a = 13 := (n2.2.2.2.2.2.1 a (by omega)).trans tS
  have cW := n2.1
  refine s_dup (pc' := 9) dX3_init_8 (fun x q => by cases q) rfl ?_
  refine s_callIN (host := RX8) (N := mX6_init) (k1 := 1) (n1 := 600) (av := []) (a := (a + 1)) (sk := [vR (a + 1), vR a]) (pc' := 12) dX3_init_9 (by decide) okX6_init onX6_init rfl rfl (by decide) (by omega) rfl (Nat.le_of_ble_eq_true rfl) (Nat.le_of_ble_eq_true rfl) (Nat.le_of_ble_eq_true rfl) rfl ((c_X6_init n2.1 (by omega) n2.2.1 n2.2.2.2.2.1).mono ?_)
  rintro r w3 h3 ⟨rfl, p4⟩
  show XA mX3_init 12 [some (vR a)] [vR (a + 1), vR a] w3 h3 0 0 Q
  replace V := V w3 h3 p4
  have tS : wt w3 a = 13 := (p4.1.2.1 a (by omega)).trans tS
  have cW := p4.1.1
  refine t_putF (pc' := 15) (j := 0) (kc := 3) (i := 0) dX3_init_12 clX3 (by decide) fl_3_0 rfl rfl rfl tS (fun E => nar_ref E _ _ rfl) (fun _ _ => rfl) rfl rfl (fun w5 f6 => ?_)
  replace V := V w5 f6
  have tS : wt w5 a = 13 := (f6.2.1 a).trans tS
  have cW : (w5.1 : Int) = (a + 2) := by rw [f6.1]; omega
  refine s_aload_n (pc' := 16) (x := a) dX3_init_15 rfl rfl ?_
  refine s_iconst (pc' := 17) dX3_init_16 rfl ?_
  refine s_put (pc' := 20) (v := vI (-1)) (x := (-1)) (kc := 3) (i := 2) dX3_init_17 clX3 (by decide) fl_3_2 rfl tS (fun E => nar_int E _) (fun _ _ => rfl) (j0 := 2) rfl rfl ?_
  have s8 := sn_st h3 a 2 (-1)
  revert s8
  generalize st h3 a 2 (-1) = h7
  intro s8
  replace V := V h7 s8
  exact s_vret dX3_init_20 rfl V
theorem c_X3_init {w : WS} {h : AH} {a : Int} (hw : (w.1 : Int) = a) (a1 : 1 ≤ a) (tS : wt w a = 13) (hz : ∀ i, h a i = 0) : CA mX3_init [vR a] w h 2 606 (fun r w' h' => r = none ∧ pX3 w h w' h' a) := by
  refine r_X3_init hw a1 tS ?_
  intro w1 h1 N w2 h2 P w3 F h3 s
  obtain ⟨pe, pt, ph⟩ := P
  have fc := F.1
  have pc := pe.1
  refine ⟨rfl, ⟨by omega, fun b hb => ?_, fun b hb => ?_, fun b i hb => ?_, fun b i hb => ?_⟩, ?_, F.2.2.2.1, shTape_s pt (sm_fn F (by omega)), ?_, s.1, ?_⟩
  · rw [F.2.1, pe.2.1 b (by omega)]; exact N.2.2.2.2.2.1 b (by omega)
  · rw [F.2.2.1, pe.2.2.1 b (by omega)]; exact N.2.2.2.2.2.2.1 b (by omega)
  · rw [F.2.2.2.2 b i (Or.inl (by omega)), pe.2.2.2.1 b i (by omega)]; exact N.2.2.2.2.2.2.2.1 b i (by omega)
  · rw [s.2 b i (Or.inl (by omega)), pe.2.2.2.2 b i (by omega)]; exact N.2.2.2.2.2.2.2.2 b i (by omega)
  · rw [F.2.1, pe.2.1 a (by omega), N.2.2.2.2.2.1 a (by omega)]; exact tS
  · rw [s.2 a 1 (Or.inr (by decide)), pe.2.2.2.2 a 1 (by omega), N.2.2.2.2.2.2.2.2 a 1 (by omega)]; exact hz 1
  · rw [s.2 (a + 1) 1 (Or.inl (by omega))]; exact ph
set_option maxRecDepth 20000 in
theorem r_X1_init {w : WS} {h : AH} {Q : Option AV → WS → AH → Prop} {a : Int} (hw : (w.1 : Int) = a) (a1 : 1 ≤ a) (tS : wt w a = 11) (V : ∀ w1 h1, nw w h w1 h1 (a + 1) 10 0 → ∀ w3 h3, pX0 w1 h1 w3 h3 (a + 1) 300 → ∀ w5, fn w3 w5 a 0 (a + 1) → ∀ w7 h7, nw w5 h3 w7 h7 (a + 6) 17 0 → ∀ w9 h9, pX7 w7 h7 w9 h9 (a + 6) 300 → ∀ w11, fn w9 w11 a 1 (a + 6) → ∀ h13, sn h9 h13 a 8 (-1) → ∀ h15, sn h13 h15 a 10 2 → Q none w11 h15) : CA mX1_init [vR a] w h 7 (1507) Q := by
  refine CA.of (M := mX1_init) (by decide) rfl (Nat.le_of_ble_eq_true rfl) ?_
  show XA mX1_init 0 [some (vR a)] [] w h 7 (1507) Q
  have cW := hw
  refine s_aload_n (pc' := 1) (x := a) dX1_init_0 rfl rfl ?_
  refine s_obj (pc' := 4) dX1_init_1 ml_1_3 oin oic (by omega) (by decide) (Nat.le_of_ble_eq_true rfl) rfl ?_
  refine s_aload_n (pc' := 5) (x := a) dX1_init_4 rfl rfl ?_
  refine t_new (d := (a + 1)) (k := 6) (n := 1502) (pc' := 8) dX1_init_5 clX0 ck_1_9 cn_0 ci_0 fdX0 rfl (by omega) (fun w1 h1 n2 => ?_)
  replace V := V w1 h1 n2
  have tS : wt w1 a = 11 := (n2.2.2.2.2.2.1 a (by omega)).trans tS
  have cW := n2.1
  refine s_dup (pc' := 9) dX1_init_8 (fun x q => by cases q) rfl ?_
  refine s_sipush (pc' := 12) dX1_init_9 (by decide) rfl ?_
  refine s_callI (N := mX0_init) (k1 := 4) (n1 := 0 + 300 + 300 + 300 + 300) (av := [vI 300]) (a := (a + 1)) (sk := [vR (a + 1), vR a]) (pc' := 15) dX1_init_12 ml_1_11 okX0_init onX0_init rfl rfl (by decide) (by omega) rfl (Nat.le_of_ble_eq_true rfl) (Nat.le_of_ble_eq_true rfl) (Nat.le_of_ble_eq_true rfl) rfl ((c_X0_init (L := 300) n2.1 (by omega) n2.2.1 n2.2.2.2.2.1 (by decide) (by decide)).mono ?_)
  rintro r w3 h3 ⟨rfl, p4⟩
  show XA mX1_init 15 [some (vR a)] [vR (a + 1), vR a] w3 h3 2 302 Q
  replace V := V w3 h3 p4
  have tS : wt w3 a = 11 := (p4.1.2.1 a (by omega)).trans tS
  have cW := p4.1.1
  refine t_putF (pc' := 18) (j := 0) (kc := 1) (i := 0) dX1_init_15 clX1 (by decide) fl_1_0 rfl rfl rfl tS (fun E => nar_ref E _ _ rfl) (fun _ _ => rfl) rfl rfl (fun w5 f6 => ?_)
  replace V := V w5 f6
  have tS : wt w5 a = 11 := (f6.2.1 a).trans tS
  have cW : (w5.1 : Int) = (a + 5) := by rw [f6.1]; omega
  refine s_aload_n (pc' := 19) (x := a) dX1_init_18 rfl rfl ?_
  refine t_new (d := (a + 6)) (k := 1) (n := 300) (pc' := 22) dX1_init_19 clX7 ck_1_20 cn_7 ci_7 fdX7 rfl (by omega) (fun w7 h7 n8 => ?_)
  replace V := V w7 h7 n8
  have tS : wt w7 a = 11 := (n8.2.2.2.2.2.1 a (by omega)).trans tS
  have cW := n8.1
  refine s_dup (pc' := 23) dX1_init_22 (fun x q => by cases q) rfl ?_
  refine s_sipush (pc' := 26) dX1_init_23 (by decide) rfl ?_
  refine s_callI (N := mX7_init) (k1 := 1) (n1 := 0 + 300) (av := [vI 300]) (a := (a + 6)) (sk := [vR (a + 6), vR a]) (pc' := 29) dX1_init_26 ml_1_22 okX7_init onX7_init rfl rfl (by decide) (by omega) rfl (Nat.le_of_ble_eq_true rfl) (Nat.le_of_ble_eq_true rfl) (Nat.le_of_ble_eq_true rfl) rfl ((c_X7_init (L := 300) n8.1 (by omega) n8.2.1 n8.2.2.2.2.1 (by decide) (by decide)).mono ?_)
  rintro r w9 h9 ⟨rfl, p10⟩
  show XA mX1_init 29 [some (vR a)] [vR (a + 6), vR a] w9 h9 0 0 Q
  replace V := V w9 h9 p10
  have tS : wt w9 a = 11 := (p10.1.2.1 a (by omega)).trans tS
  have cW := p10.1.1
  refine t_putF (pc' := 32) (j := 1) (kc := 1) (i := 1) dX1_init_29 clX1 (by decide) fl_1_1 rfl rfl rfl tS (fun E => nar_ref E _ _ rfl) (fun _ _ => rfl) rfl rfl (fun w11 f12 => ?_)
  replace V := V w11 f12
  have tS : wt w11 a = 11 := (f12.2.1 a).trans tS
  have cW : (w11.1 : Int) = (a + 7) := by rw [f12.1]; omega
  refine s_aload_n (pc' := 33) (x := a) dX1_init_32 rfl rfl ?_
  refine s_iconst (pc' := 34) dX1_init_33 rfl ?_
  refine s_put (pc' := 37) (v := vI (-1)) (x := (-1)) (kc := 1) (i := 8) dX1_init_34 clX1 (by decide) fl_1_8 rfl tS (fun E => nar_int E _) (fun _ _ => rfl) (j0 := 8) rfl rfl ?_
  have s14 := sn_st h9 a 8 (-1)
  revert s14
  generalize st h9 a 8 (-1) = h13
  intro s14
  replace V := V h13 s14
  refine s_aload_n (pc' := 38) (x := a) dX1_init_37 rfl rfl ?_
  refine s_iconst (pc' := 39) dX1_init_38 rfl ?_
  refine s_put (pc' := 42) (v := vI 2) (x := 2) (kc := 1) (i := 10) dX1_init_39 clX1 (by decide) fl_1_10 rfl tS (fun E => nar_int E _) (fun _ _ => rfl) (j0 := 10) rfl rfl ?_
  have s16 := sn_st h13 a 10 2
  revert s16
  generalize st h13 a 10 2 = h15
  intro s16
  replace V := V h15 s16
  exact s_vret dX1_init_42 rfl V
theorem c_X1_init {w : WS} {h : AH} {a : Int} (hw : (w.1 : Int) = a) (a1 : 1 ≤ a) (tS : wt w a = 11) (hz : ∀ i, h a i = 0) : CA mX1_init [vR a] w h 7 1507 (fun r w' h' => r = none ∧ pX1 w h w' h' a) := by
  refine r_X1_init hw a1 tS ?_
  intro w1 h1 N w2 h2 P w3 F w4 h4 N2 w5 h5 P2 w6 F2 h6 s h7 s2
  obtain ⟨pe, pt, pl, ph⟩ := P
  obtain ⟨qe, qt, ql⟩ := P2
  have fc := F.1
  have fc2 := F2.1
  have pc := pe.1
  have qc := qe.1
  have e4 : (a + 1 : Int) + 4 = a + 5 := by omega
  have e6 : (a + 6 : Int) + 1 = a + 7 := by omega
  have m : sm w2 w6 (a + 1) (a + 5) := sm_tr (sm_fn F (by omega)) (sm_tr (sm_nw N2 (by omega)) (sm_tr (sm_ex qe (by omega)) (sm_fn F2 (by omega))))
  have m2 : sm w5 w6 (a + 6) (a + 7) := sm_fn F2 (by omega)
  have hh : ∀ i, i ≠ 8 → i ≠ 10 → h7 a i = 0 := fun i i8 i10 => by
    rw [s2.2 a i (Or.inr i10), s.2 a i (Or.inr i8), qe.2.2.2.2 a i (by omega), N2.2.2.2.2.2.2.2.2 a i (by omega), pe.2.2.2.2 a i (by omega), N.2.2.2.2.2.2.2.2 a i (by omega)]; exact hz i
  refine ⟨rfl, ⟨by omega, fun b hb => ?_, fun b hb => ?_, fun b i hb => ?_, fun b i hb => ?_⟩, ⟨?_, ?_, F2.2.2.2.1, shCalls_s pt (by rw [e4]; exact m), shWakes_s qt (by rw [e6]; exact m2), ?_, ?_⟩, ⟨hh 2 (by decide) (by decide), hh 3 (by decide) (by decide), hh 4 (by decide) (by decide), hh 5 (by decide) (by decide), hh 6 (by decide) (by decide), hh 7 (by decide) (by decide), ?_, hh 9 (by decide) (by decide), s2.1⟩, ?_⟩
  · rw [F2.2.1, qe.2.1 b (by omega), N2.2.2.2.2.2.1 b (by omega), F.2.1, pe.2.1 b (by omega)]; exact N.2.2.2.2.2.1 b (by omega)
  · rw [F2.2.2.1, qe.2.2.1 b (by omega), N2.2.2.2.2.2.2.1 b (by omega), F.2.2.1, pe.2.2.1 b (by omega)]; exact N.2.2.2.2.2.2.1 b (by omega)
  · rw [F2.2.2.2.2 b i (Or.inl (by omega)), qe.2.2.2.1 b i (by omega), N2.2.2.2.2.2.2.2.1 b i (by omega), F.2.2.2.2 b i (Or.inl (by omega)), pe.2.2.2.1 b i (by omega)]; exact N.2.2.2.2.2.2.2.1 b i (by omega)
  · rw [s2.2 b i (Or.inl (by omega)), s.2 b i (Or.inl (by omega)), qe.2.2.2.2 b i (by omega), N2.2.2.2.2.2.2.2.2 b i (by omega), pe.2.2.2.2 b i (by omega)]; exact N.2.2.2.2.2.2.2.2 b i (by omega)
  · rw [F2.2.1, qe.2.1 a (by omega), N2.2.2.2.2.2.1 a (by omega), F.2.1, pe.2.1 a (by omega), N.2.2.2.2.2.1 a (by omega)]; exact tS
  · rw [F2.2.2.2.2 a 0 (Or.inr (by decide)), qe.2.2.2.1 a 0 (by omega), N2.2.2.2.2.2.2.2.1 a 0 (by omega)]; exact F.2.2.2.1
  · unfold wl at *; rw [(m (a + 2) (by omega) (by omega)).2.1, show a + 2 = a + 1 + 1 by omega]; exact pl
  · unfold wl at *; rw [(m2 (a + 7) (by omega) (by omega)).2.1, ← e6]; exact ql
  · rw [s2.2 a 8 (Or.inr (by decide))]; exact s.1
  · rw [s2.2 (a + 1) 4 (Or.inl (by omega)), s.2 (a + 1) 4 (Or.inl (by omega)), qe.2.2.2.2 (a + 1) 4 (by omega), N2.2.2.2.2.2.2.2.2 (a + 1) 4 (by omega)]; exact ph
