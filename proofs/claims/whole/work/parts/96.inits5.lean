def ro9 (w w' : WS) (J : Int) : Prop := wt w' 65 = wt w 65 ∧ ∀ j, j < J → wf w' 65 j = wf w 65 j
theorem ro9_nw {w w1 w2 : WS} {h h1 : AH} {d : Int} {kd n : Nat} {J : Int} (N : nw w h w1 h1 d kd n) (c : (65 : Int) ≠ d) (a : ro9 w1 w2 J) : ro9 w w2 J := ⟨a.1.trans (N.2.2.2.2.2.1 65 c), fun j hj => (a.2 j hj).trans (N.2.2.2.2.2.2.2.1 65 j c)⟩
theorem ro9_fn {w w1 w2 : WS} {i x J K : Int} (F : fn w w1 65 i x) (c : J ≤ i ∧ J ≤ K) (a : ro9 w1 w2 K) : ro9 w w2 J := ⟨a.1.trans (F.2.1 65), fun j hj => (a.2 j (by omega)).trans (F.2.2.2.2 65 j (Or.inr (by omega)))⟩
theorem shB0_s {w w1 : WS} (s : shB0 w) (m : sm w w1 1 64) : shB0 w1 := by
  unfold shB0 at *
  obtain ⟨a1, a2, a3⟩ := m 1 (by omega) (by omega)
  obtain ⟨b1, b2, b3⟩ := m 2 (by omega) (by omega)
  rw [a1, b1, b3, a3, a3, a3, a3, a3, a3, a3, a3, a3, a3, a3]; exact s
theorem shB1_s {w w1 : WS} (s : shB1 w) (m : sm w w1 1 64) : shB1 w1 := by
  obtain ⟨x1, x2, x3, x4, x5, x6, x7, x8, x9, z1, z2, z3, z4, z5, z6, z7, z8, z9⟩ := s
  refine ⟨((m 26 (by decide) (by decide)).1).trans x1, (wl_s m (by decide) (by decide)).trans x2, ((m 39 (by decide) (by decide)).1).trans x3, (wl_s m (by decide) (by decide)).trans x4, shTape_s x5 (sm_le m (by decide) (by decide)), shSetup_s x6 (sm_le m (by decide) (by decide)), shSetup_s x7 (sm_le m (by decide) (by decide)), shCalls_s x8 (sm_le m (by decide) (by decide)), (wl_s m (by decide) (by decide)).trans x9, shCalls_s z1 (sm_le m (by decide) (by decide)), (wl_s m (by decide) (by decide)).trans z2, fun p p0 p1 => ⟨shWakes_s (z3 p p0 p1).1 (sm_le m (by omega) (by omega)), (wl_s m (by omega) (by omega)).trans (z3 p p0 p1).2⟩, shWakes_s z4 (sm_le m (by decide) (by decide)), (wl_s m (by decide) (by decide)).trans z5, shPlan_s z6 (sm_le m (by decide) (by decide)), shHand_s z7 (sm_le m (by decide) (by decide)), shRound_s z8 (sm_le m (by decide) (by decide)), shRound_s z9 (sm_le m (by decide) (by decide))⟩
theorem S0_iN : okS S0 ∧ cN S0 ≤ 200 := ⟨S0_ok.1, by
  rw [cN_eq S0_ok.1, show (S0 97).toNat = 0 by decide, inAll]; decide⟩
def pX9 (w : WS) (h : AH) (w' : WS) (h' : AH) : Prop := shA w' ∧ sm w w' (-2) 64 ∧ invM h' S0 (g0 S0, fun _ => 0, cL S0, cW S0, fun _ => 0) ∧ h' 65 3 = 0 ∧ h' 65 4 = 0 ∧ h' 65 5 = -1 ∧ ∀ b, b < 65 → h' b = h b
set_option maxHeartbeats 8000000 in
theorem c_X9_init {w : WS} {h : AH} (hw : (w.1 : Int) = 65) (tS : wt w 65 = 19) (hz : ∀ i, h 65 i = 0) (B0 : shB0 w) (B1 : shB1 w) (hq : wt w (-2) = 7 ∧ wl w (-2) = 9) : CA mX9_init [vR 65] w h 17 5226 (fun r w' h' => r = none ∧ pX9 w h w' h') := by
  refine r_X9_init hw tS ?_
  intro w1 h1 q0 w3 q1 w5 h5 q2 w7 q3 w9 h9 q4 w11 q5 h13 q6 w15 h15 q7 w17 q8 w19 h19 q9 w21 q10 w23 h23 q11 w25 q12 w27 h27 q13 w29 q14 w31 h31 q15 w33 q16 w35 h35 q17 w37 q18 w39 h39 q19 w41 q20 w43 h43 q21 w45 q22 w47 h47 q23 w49 q24 w51 h51 q25 w53 q26 w55 h55 q27 w57 q28 w59 h59 q29 w61 q30 w63 h63 q31 w65 q32 w67 h67 q33 w69 q34
  have g_w69 : sm w69 w69 66 82 := fun b _ _ => ⟨rfl, rfl, fun _ => rfl⟩
  have g_w67 : sm w67 w69 66 82 := sm_tr (sm_fn q34 (by decide)) (sm_le g_w69 (by decide) (by decide))
  have g_w65 : sm w65 w69 66 81 := sm_tr (sm_nw q33 (by decide)) (sm_le g_w67 (by decide) (by decide))
  have g_w63 : sm w63 w69 66 81 := sm_tr (sm_fn q32 (by decide)) (sm_le g_w65 (by decide) (by decide))
  have g_w61 : sm w61 w69 66 80 := sm_tr (sm_nw q31 (by decide)) (sm_le g_w63 (by decide) (by decide))
  have g_w59 : sm w59 w69 66 80 := sm_tr (sm_fn q30 (by decide)) (sm_le g_w61 (by decide) (by decide))
  have g_w57 : sm w57 w69 66 79 := sm_tr (sm_nw q29 (by decide)) (sm_le g_w59 (by decide) (by decide))
  have g_w55 : sm w55 w69 66 79 := sm_tr (sm_fn q28 (by decide)) (sm_le g_w57 (by decide) (by decide))
  have g_w53 : sm w53 w69 66 78 := sm_tr (sm_nw q27 (by decide)) (sm_le g_w55 (by decide) (by decide))
  have g_w51 : sm w51 w69 66 78 := sm_tr (sm_fn q26 (by decide)) (sm_le g_w53 (by decide) (by decide))
  have g_w49 : sm w49 w69 66 77 := sm_tr (sm_nw q25 (by decide)) (sm_le g_w51 (by decide) (by decide))
  have g_w47 : sm w47 w69 66 77 := sm_tr (sm_fn q24 (by decide)) (sm_le g_w49 (by decide) (by decide))
  have g_w45 : sm w45 w69 66 76 := sm_tr (sm_nw q23 (by decide)) (sm_le g_w47 (by decide) (by decide))
  have g_w43 : sm w43 w69 66 76 := sm_tr (sm_fn q22 (by decide)) (sm_le g_w45 (by decide) (by decide))
  have g_w41 : sm w41 w69 66 75 := sm_tr (sm_nw q21 (by decide)) (sm_le g_w43 (by decide) (by decide))
  have g_w39 : sm w39 w69 66 75 := sm_tr (sm_fn q20 (by decide)) (sm_le g_w41 (by decide) (by decide))
  have g_w37 : sm w37 w69 66 74 := sm_tr (sm_nw q19 (by decide)) (sm_le g_w39 (by decide) (by decide))
  have g_w35 : sm w35 w69 66 74 := sm_tr (sm_fn q18 (by decide)) (sm_le g_w37 (by decide) (by decide))
  have g_w33 : sm w33 w69 66 73 := sm_tr (sm_nw q17 (by decide)) (sm_le g_w35 (by decide) (by decide))
  have g_w31 : sm w31 w69 66 73 := sm_tr (sm_fn q16 (by decide)) (sm_le g_w33 (by decide) (by decide))
  have g_w29 : sm w29 w69 66 72 := sm_tr (sm_nw q15 (by decide)) (sm_le g_w31 (by decide) (by decide))
  have g_w27 : sm w27 w69 66 72 := sm_tr (sm_fn q14 (by decide)) (sm_le g_w29 (by decide) (by decide))
  have g_w25 : sm w25 w69 66 71 := sm_tr (sm_nw q13 (by decide)) (sm_le g_w27 (by decide) (by decide))
  have g_w23 : sm w23 w69 66 71 := sm_tr (sm_fn q12 (by decide)) (sm_le g_w25 (by decide) (by decide))
  have g_w21 : sm w21 w69 66 70 := sm_tr (sm_nw q11 (by decide)) (sm_le g_w23 (by decide) (by decide))
  have g_w19 : sm w19 w69 66 70 := sm_tr (sm_fn q10 (by decide)) (sm_le g_w21 (by decide) (by decide))
  have g_w17 : sm w17 w69 66 69 := sm_tr (sm_nw q9 (by decide)) (sm_le g_w19 (by decide) (by decide))
  have g_w15 : sm w15 w69 66 69 := sm_tr (sm_fn q8 (by decide)) (sm_le g_w17 (by decide) (by decide))
  have g_w11 : sm w11 w69 66 68 := sm_tr (sm_nw q7 (by decide)) (sm_le g_w15 (by decide) (by decide))
  have g_w9 : sm w9 w69 66 68 := sm_tr (sm_fn q5 (by decide)) (sm_le g_w11 (by decide) (by decide))
  have g_w7 : sm w7 w69 66 67 := sm_tr (sm_nw q4 (by decide)) (sm_le g_w9 (by decide) (by decide))
  have g_w5 : sm w5 w69 66 67 := sm_tr (sm_fn q3 (by decide)) (sm_le g_w7 (by decide) (by decide))
  have g_w3 : sm w3 w69 66 66 := sm_tr (sm_nw q2 (by decide)) (sm_le g_w5 (by decide) (by decide))
  have g_w1 : sm w1 w69 66 66 := sm_tr (sm_fn q1 (by decide)) (sm_le g_w3 (by decide) (by decide))
  have o_w69 : ro9 w69 w69 30 := ⟨rfl, fun _ _ => rfl⟩
  have o_w67 : ro9 w67 w69 29 := ro9_fn q34 (by decide) o_w69
  have o_w65 : ro9 w65 w69 29 := ro9_nw q33 (by decide) o_w67
  have o_w63 : ro9 w63 w69 28 := ro9_fn q32 (by decide) o_w65
  have o_w61 : ro9 w61 w69 28 := ro9_nw q31 (by decide) o_w63
  have o_w59 : ro9 w59 w69 19 := ro9_fn q30 (by decide) o_w61
  have o_w57 : ro9 w57 w69 19 := ro9_nw q29 (by decide) o_w59
  have o_w55 : ro9 w55 w69 18 := ro9_fn q28 (by decide) o_w57
  have o_w53 : ro9 w53 w69 18 := ro9_nw q27 (by decide) o_w55
  have o_w51 : ro9 w51 w69 17 := ro9_fn q26 (by decide) o_w53
  have o_w49 : ro9 w49 w69 17 := ro9_nw q25 (by decide) o_w51
  have o_w47 : ro9 w47 w69 16 := ro9_fn q24 (by decide) o_w49
  have o_w45 : ro9 w45 w69 16 := ro9_nw q23 (by decide) o_w47
  have o_w43 : ro9 w43 w69 15 := ro9_fn q22 (by decide) o_w45
  have o_w41 : ro9 w41 w69 15 := ro9_nw q21 (by decide) o_w43
  have o_w39 : ro9 w39 w69 14 := ro9_fn q20 (by decide) o_w41
  have o_w37 : ro9 w37 w69 14 := ro9_nw q19 (by decide) o_w39
  have o_w35 : ro9 w35 w69 13 := ro9_fn q18 (by decide) o_w37
  have o_w33 : ro9 w33 w69 13 := ro9_nw q17 (by decide) o_w35
  have o_w31 : ro9 w31 w69 11 := ro9_fn q16 (by decide) o_w33
  have o_w29 : ro9 w29 w69 11 := ro9_nw q15 (by decide) o_w31
  have o_w27 : ro9 w27 w69 9 := ro9_fn q14 (by decide) o_w29
  have o_w25 : ro9 w25 w69 9 := ro9_nw q13 (by decide) o_w27
  have o_w23 : ro9 w23 w69 8 := ro9_fn q12 (by decide) o_w25
  have o_w21 : ro9 w21 w69 8 := ro9_nw q11 (by decide) o_w23
  have o_w19 : ro9 w19 w69 7 := ro9_fn q10 (by decide) o_w21
  have o_w17 : ro9 w17 w69 7 := ro9_nw q9 (by decide) o_w19
  have o_w15 : ro9 w15 w69 6 := ro9_fn q8 (by decide) o_w17
  have o_w11 : ro9 w11 w69 6 := ro9_nw q7 (by decide) o_w15
  have o_w9 : ro9 w9 w69 2 := ro9_fn q5 (by decide) o_w11
  have o_w7 : ro9 w7 w69 2 := ro9_nw q4 (by decide) o_w9
  have o_w5 : ro9 w5 w69 1 := ro9_fn q3 (by decide) o_w7
  have o_w3 : ro9 w3 w69 1 := ro9_nw q2 (by decide) o_w5
  have o_w1 : ro9 w1 w69 0 := ro9_fn q1 (by decide) o_w3
  have o_w : ro9 w w69 0 := ro9_nw q0 (by decide) o_w1
  have l_w69 : sm w69 w69 (-2) 64 := fun b _ _ => ⟨rfl, rfl, fun _ => rfl⟩
  have l_w67 : sm w67 w69 (-2) 64 := sm_tr (sm_fn q34 (by decide)) l_w69
  have l_w65 : sm w65 w69 (-2) 64 := sm_tr (sm_nw q33 (by decide)) l_w67
  have l_w63 : sm w63 w69 (-2) 64 := sm_tr (sm_fn q32 (by decide)) l_w65
  have l_w61 : sm w61 w69 (-2) 64 := sm_tr (sm_nw q31 (by decide)) l_w63
  have l_w59 : sm w59 w69 (-2) 64 := sm_tr (sm_fn q30 (by decide)) l_w61
  have l_w57 : sm w57 w69 (-2) 64 := sm_tr (sm_nw q29 (by decide)) l_w59
  have l_w55 : sm w55 w69 (-2) 64 := sm_tr (sm_fn q28 (by decide)) l_w57
  have l_w53 : sm w53 w69 (-2) 64 := sm_tr (sm_nw q27 (by decide)) l_w55
  have l_w51 : sm w51 w69 (-2) 64 := sm_tr (sm_fn q26 (by decide)) l_w53
  have l_w49 : sm w49 w69 (-2) 64 := sm_tr (sm_nw q25 (by decide)) l_w51
  have l_w47 : sm w47 w69 (-2) 64 := sm_tr (sm_fn q24 (by decide)) l_w49
  have l_w45 : sm w45 w69 (-2) 64 := sm_tr (sm_nw q23 (by decide)) l_w47
  have l_w43 : sm w43 w69 (-2) 64 := sm_tr (sm_fn q22 (by decide)) l_w45
  have l_w41 : sm w41 w69 (-2) 64 := sm_tr (sm_nw q21 (by decide)) l_w43
  have l_w39 : sm w39 w69 (-2) 64 := sm_tr (sm_fn q20 (by decide)) l_w41
  have l_w37 : sm w37 w69 (-2) 64 := sm_tr (sm_nw q19 (by decide)) l_w39
  have l_w35 : sm w35 w69 (-2) 64 := sm_tr (sm_fn q18 (by decide)) l_w37
  have l_w33 : sm w33 w69 (-2) 64 := sm_tr (sm_nw q17 (by decide)) l_w35
  have l_w31 : sm w31 w69 (-2) 64 := sm_tr (sm_fn q16 (by decide)) l_w33
  have l_w29 : sm w29 w69 (-2) 64 := sm_tr (sm_nw q15 (by decide)) l_w31
  have l_w27 : sm w27 w69 (-2) 64 := sm_tr (sm_fn q14 (by decide)) l_w29
  have l_w25 : sm w25 w69 (-2) 64 := sm_tr (sm_nw q13 (by decide)) l_w27
  have l_w23 : sm w23 w69 (-2) 64 := sm_tr (sm_fn q12 (by decide)) l_w25
  have l_w21 : sm w21 w69 (-2) 64 := sm_tr (sm_nw q11 (by decide)) l_w23
  have l_w19 : sm w19 w69 (-2) 64 := sm_tr (sm_fn q10 (by decide)) l_w21
  have l_w17 : sm w17 w69 (-2) 64 := sm_tr (sm_nw q9 (by decide)) l_w19
  have l_w15 : sm w15 w69 (-2) 64 := sm_tr (sm_fn q8 (by decide)) l_w17
  have l_w11 : sm w11 w69 (-2) 64 := sm_tr (sm_nw q7 (by decide)) l_w15
  have l_w9 : sm w9 w69 (-2) 64 := sm_tr (sm_fn q5 (by decide)) l_w11
  have l_w7 : sm w7 w69 (-2) 64 := sm_tr (sm_nw q4 (by decide)) l_w9
  have l_w5 : sm w5 w69 (-2) 64 := sm_tr (sm_fn q3 (by decide)) l_w7
  have l_w3 : sm w3 w69 (-2) 64 := sm_tr (sm_nw q2 (by decide)) l_w5
  have l_w1 : sm w1 w69 (-2) 64 := sm_tr (sm_fn q1 (by decide)) l_w3
  have l_w : sm w w69 (-2) 64 := sm_tr (sm_nw q0 (by decide)) l_w1
  have k_h67 : ∀ b i, b < 65 → h67 b i = h67 b i := fun _ _ _ => rfl
  have k_h63 : ∀ b i, b < 65 → h67 b i = h63 b i := fun b i hb => (k_h67 b i hb).trans (q33.2.2.2.2.2.2.2.2 b i (by omega))
  have k_h59 : ∀ b i, b < 65 → h67 b i = h59 b i := fun b i hb => (k_h63 b i hb).trans (q31.2.2.2.2.2.2.2.2 b i (by omega))
  have k_h55 : ∀ b i, b < 65 → h67 b i = h55 b i := fun b i hb => (k_h59 b i hb).trans (q29.2.2.2.2.2.2.2.2 b i (by omega))
  have k_h51 : ∀ b i, b < 65 → h67 b i = h51 b i := fun b i hb => (k_h55 b i hb).trans (q27.2.2.2.2.2.2.2.2 b i (by omega))
  have k_h47 : ∀ b i, b < 65 → h67 b i = h47 b i := fun b i hb => (k_h51 b i hb).trans (q25.2.2.2.2.2.2.2.2 b i (by omega))
  have k_h43 : ∀ b i, b < 65 → h67 b i = h43 b i := fun b i hb => (k_h47 b i hb).trans (q23.2.2.2.2.2.2.2.2 b i (by omega))
  have k_h39 : ∀ b i, b < 65 → h67 b i = h39 b i := fun b i hb => (k_h43 b i hb).trans (q21.2.2.2.2.2.2.2.2 b i (by omega))
  have k_h35 : ∀ b i, b < 65 → h67 b i = h35 b i := fun b i hb => (k_h39 b i hb).trans (q19.2.2.2.2.2.2.2.2 b i (by omega))
  have k_h31 : ∀ b i, b < 65 → h67 b i = h31 b i := fun b i hb => (k_h35 b i hb).trans (q17.2.2.2.2.2.2.2.2 b i (by omega))
  have k_h27 : ∀ b i, b < 65 → h67 b i = h27 b i := fun b i hb => (k_h31 b i hb).trans (q15.2.2.2.2.2.2.2.2 b i (by omega))
  have k_h23 : ∀ b i, b < 65 → h67 b i = h23 b i := fun b i hb => (k_h27 b i hb).trans (q13.2.2.2.2.2.2.2.2 b i (by omega))
  have k_h19 : ∀ b i, b < 65 → h67 b i = h19 b i := fun b i hb => (k_h23 b i hb).trans (q11.2.2.2.2.2.2.2.2 b i (by omega))
  have k_h15 : ∀ b i, b < 65 → h67 b i = h15 b i := fun b i hb => (k_h19 b i hb).trans (q9.2.2.2.2.2.2.2.2 b i (by omega))
  have k_h13 : ∀ b i, b < 65 → h67 b i = h13 b i := fun b i hb => (k_h15 b i hb).trans (q7.2.2.2.2.2.2.2.2 b i (by omega))
  have k_h9 : ∀ b i, b < 65 → h67 b i = h9 b i := fun b i hb => (k_h13 b i hb).trans (q6.2 b i (Or.inl (by omega)))
  have k_h5 : ∀ b i, b < 65 → h67 b i = h5 b i := fun b i hb => (k_h9 b i hb).trans (q4.2.2.2.2.2.2.2.2 b i (by omega))
  have k_h1 : ∀ b i, b < 65 → h67 b i = h1 b i := fun b i hb => (k_h5 b i hb).trans (q2.2.2.2.2.2.2.2.2 b i (by omega))
  have k_h : ∀ b i, b < 65 → h67 b i = h b i := fun b i hb => (k_h1 b i hb).trans (q0.2.2.2.2.2.2.2.2 b i (by omega))
  have y3 : h67 65 3 = 0 := by rw [q33.2.2.2.2.2.2.2.2 65 3 (by decide), q31.2.2.2.2.2.2.2.2 65 3 (by decide), q29.2.2.2.2.2.2.2.2 65 3 (by decide), q27.2.2.2.2.2.2.2.2 65 3 (by decide), q25.2.2.2.2.2.2.2.2 65 3 (by decide), q23.2.2.2.2.2.2.2.2 65 3 (by decide), q21.2.2.2.2.2.2.2.2 65 3 (by decide), q19.2.2.2.2.2.2.2.2 65 3 (by decide), q17.2.2.2.2.2.2.2.2 65 3 (by decide), q15.2.2.2.2.2.2.2.2 65 3 (by decide), q13.2.2.2.2.2.2.2.2 65 3 (by decide), q11.2.2.2.2.2.2.2.2 65 3 (by decide), q9.2.2.2.2.2.2.2.2 65 3 (by decide), q7.2.2.2.2.2.2.2.2 65 3 (by decide), q6.2 65 3 (Or.inr (by decide)), q4.2.2.2.2.2.2.2.2 65 3 (by decide), q2.2.2.2.2.2.2.2.2 65 3 (by decide), q0.2.2.2.2.2.2.2.2 65 3 (by decide)]; exact hz 3
  have y4 : h67 65 4 = 0 := by rw [q33.2.2.2.2.2.2.2.2 65 4 (by decide), q31.2.2.2.2.2.2.2.2 65 4 (by decide), q29.2.2.2.2.2.2.2.2 65 4 (by decide), q27.2.2.2.2.2.2.2.2 65 4 (by decide), q25.2.2.2.2.2.2.2.2 65 4 (by decide), q23.2.2.2.2.2.2.2.2 65 4 (by decide), q21.2.2.2.2.2.2.2.2 65 4 (by decide), q19.2.2.2.2.2.2.2.2 65 4 (by decide), q17.2.2.2.2.2.2.2.2 65 4 (by decide), q15.2.2.2.2.2.2.2.2 65 4 (by decide), q13.2.2.2.2.2.2.2.2 65 4 (by decide), q11.2.2.2.2.2.2.2.2 65 4 (by decide), q9.2.2.2.2.2.2.2.2 65 4 (by decide), q7.2.2.2.2.2.2.2.2 65 4 (by decide), q6.2 65 4 (Or.inr (by decide)), q4.2.2.2.2.2.2.2.2 65 4 (by decide), q2.2.2.2.2.2.2.2.2 65 4 (by decide), q0.2.2.2.2.2.2.2.2 65 4 (by decide)]; exact hz 4
  have y5 : h67 65 5 = -1 := by rw [q33.2.2.2.2.2.2.2.2 65 5 (by decide), q31.2.2.2.2.2.2.2.2 65 5 (by decide), q29.2.2.2.2.2.2.2.2 65 5 (by decide), q27.2.2.2.2.2.2.2.2 65 5 (by decide), q25.2.2.2.2.2.2.2.2 65 5 (by decide), q23.2.2.2.2.2.2.2.2 65 5 (by decide), q21.2.2.2.2.2.2.2.2 65 5 (by decide), q19.2.2.2.2.2.2.2.2 65 5 (by decide), q17.2.2.2.2.2.2.2.2 65 5 (by decide), q15.2.2.2.2.2.2.2.2 65 5 (by decide), q13.2.2.2.2.2.2.2.2 65 5 (by decide), q11.2.2.2.2.2.2.2.2 65 5 (by decide), q9.2.2.2.2.2.2.2.2 65 5 (by decide), q7.2.2.2.2.2.2.2.2 65 5 (by decide)]; exact q6.1
  obtain ⟨u1, u2, u3, u4, u5, u6, u7, u8, u9, v1, v2, v3, v4, v5⟩ := shB0_s B0 (sm_le l_w (by decide) (by decide))
  obtain ⟨x1, x2, x3, x4, x5, x6, x7, x8, x9, z1, z2, z3, z4, z5, z6, z7, z8, z9⟩ := shB1_s B1 (sm_le l_w (by decide) (by decide))
  have sA : shA w69 := by
    exact ⟨⟨u1, u2, o_w.1.trans tS, u3, u4, u5, u6, u7, u8, u9⟩, ⟨v1, v2, v3, v4, v5, (o_w3.2 0 (by decide)).trans q1.2.2.2.1, (o_w7.2 1 (by decide)).trans q3.2.2.2.1, (o_w11.2 2 (by decide)).trans q5.2.2.2.1, (o_w17.2 6 (by decide)).trans q8.2.2.2.1, (o_w21.2 7 (by decide)).trans q10.2.2.2.1⟩, ⟨(o_w25.2 8 (by decide)).trans q12.2.2.2.1, (o_w29.2 9 (by decide)).trans q14.2.2.2.1, (o_w33.2 11 (by decide)).trans q16.2.2.2.1, (o_w37.2 13 (by decide)).trans q18.2.2.2.1, (o_w41.2 14 (by decide)).trans q20.2.2.2.1, (o_w45.2 15 (by decide)).trans q22.2.2.2.1, (o_w49.2 16 (by decide)).trans q24.2.2.2.1, (o_w53.2 17 (by decide)).trans q26.2.2.2.1, (o_w57.2 18 (by decide)).trans q28.2.2.2.1, (o_w61.2 19 (by decide)).trans q30.2.2.2.1⟩, ⟨(o_w65.2 28 (by decide)).trans q32.2.2.2.1, (o_w69.2 29 (by decide)).trans q34.2.2.2.1, x1, x2, x3, x4, ((g_w1 66 (by decide) (by decide)).1).trans q0.2.1, (wl_s g_w1 (by decide) (by decide)).trans (congrArg (fun z : Nat => (z : Int)) q0.2.2.1), ((g_w5 67 (by decide) (by decide)).1).trans q2.2.1, (wl_s g_w5 (by decide) (by decide)).trans (congrArg (fun z : Nat => (z : Int)) q2.2.2.1)⟩, ⟨((g_w9 68 (by decide) (by decide)).1).trans q4.2.1, (wl_s g_w9 (by decide) (by decide)).trans (congrArg (fun z : Nat => (z : Int)) q4.2.2.1), ((g_w15 69 (by decide) (by decide)).1).trans q7.2.1, (wl_s g_w15 (by decide) (by decide)).trans (congrArg (fun z : Nat => (z : Int)) q7.2.2.1), ((g_w19 70 (by decide) (by decide)).1).trans q9.2.1, (wl_s g_w19 (by decide) (by decide)).trans (congrArg (fun z : Nat => (z : Int)) q9.2.2.1), ((g_w23 71 (by decide) (by decide)).1).trans q11.2.1, (wl_s g_w23 (by decide) (by decide)).trans (congrArg (fun z : Nat => (z : Int)) q11.2.2.1), ((g_w27 72 (by decide) (by decide)).1).trans q13.2.1, (wl_s g_w27 (by decide) (by decide)).trans (congrArg (fun z : Nat => (z : Int)) q13.2.2.1)⟩, ⟨((g_w31 73 (by decide) (by decide)).1).trans q15.2.1, (wl_s g_w31 (by decide) (by decide)).trans (congrArg (fun z : Nat => (z : Int)) q15.2.2.1), ((g_w35 74 (by decide) (by decide)).1).trans q17.2.1, (wl_s g_w35 (by decide) (by decide)).trans (congrArg (fun z : Nat => (z : Int)) q17.2.2.1), ((g_w39 75 (by decide) (by decide)).1).trans q19.2.1, (wl_s g_w39 (by decide) (by decide)).trans (congrArg (fun z : Nat => (z : Int)) q19.2.2.1), ((g_w43 76 (by decide) (by decide)).1).trans q21.2.1, (wl_s g_w43 (by decide) (by decide)).trans (congrArg (fun z : Nat => (z : Int)) q21.2.2.1), ((g_w47 77 (by decide) (by decide)).1).trans q23.2.1, (wl_s g_w47 (by decide) (by decide)).trans (congrArg (fun z : Nat => (z : Int)) q23.2.2.1)⟩, ⟨((g_w51 78 (by decide) (by decide)).1).trans q25.2.1, (wl_s g_w51 (by decide) (by decide)).trans (congrArg (fun z : Nat => (z : Int)) q25.2.2.1), ((g_w55 79 (by decide) (by decide)).1).trans q27.2.1, (wl_s g_w55 (by decide) (by decide)).trans (congrArg (fun z : Nat => (z : Int)) q27.2.2.1), ((g_w59 80 (by decide) (by decide)).1).trans q29.2.1, (wl_s g_w59 (by decide) (by decide)).trans (congrArg (fun z : Nat => (z : Int)) q29.2.2.1), ((g_w63 81 (by decide) (by decide)).1).trans q31.2.1, (wl_s g_w63 (by decide) (by decide)).trans (congrArg (fun z : Nat => (z : Int)) q31.2.2.1), ((g_w67 82 (by decide) (by decide)).1).trans q33.2.1, (wl_s g_w67 (by decide) (by decide)).trans (congrArg (fun z : Nat => (z : Int)) q33.2.2.1)⟩, ⟨((l_w (-2) (by decide) (by decide)).1).trans hq.1, (wl_s l_w (by decide) (by decide)).trans hq.2, x5, x6, x7, x8, x9, z1, z2, z3⟩, ⟨z4, z5, z6, z7, z8, z9⟩⟩
  refine (c_X9_firsts sA (Or.inl rfl)).mono ?_
  rintro h1_ ⟨a1, a2, a3⟩
  have A : isAll h1_ S0 := fun j j0 j1 => by have := a1 j j0 j1; rw [Int.zero_add] at this; exact this
  refine (c_X9_begins sA A S0_iN).mono ?_
  rintro h2_ ⟨m2, k2⟩
  refine ⟨rfl, sA, l_w, ⟨kH_all k2 A, m2⟩, by rw [k2.2 3 (by decide), a3 65 (by decide)]; exact y3, by rw [k2.2 4 (by decide), a3 65 (by decide)]; exact y4, by rw [k2.2 5 (by decide), a3 65 (by decide)]; exact y5, fun b hb => ?_⟩
  rw [k2.1 b (by omega) (by omega), a3 b (by omega)]
  exact funext fun i => k_h b i hb
