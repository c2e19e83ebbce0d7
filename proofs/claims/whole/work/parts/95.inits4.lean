def ro (w w' : WS) (J : Int) : Prop := wt w' 1 = wt w 1 ∧ ∀ j, j < J → wf w' 1 j = wf w 1 j
def hm (h h' : AH) (hi : Int) : Prop := ∀ b i, (2 ≤ b ∧ b ≤ hi) → b ≠ 26 → h' b i = h b i
section
variable {w w1 w2 : WS} {h h1 h2 : AH} {lo hi d : Int}
theorem ro_nw {kd n : Nat} {J : Int} (N : nw w h w1 h1 d kd n) (c : (1 : Int) ≠ d) (a : ro w1 w2 J) : ro w w2 J := ⟨a.1.trans (N.2.2.2.2.2.1 1 c), fun j hj => (a.2 j hj).trans (N.2.2.2.2.2.2.2.1 1 j c)⟩
theorem ro_ex {l2 h3 J : Int} (X : ex w h w1 h1 l2 h3) (c : (1 : Int) < l2 ∨ h3 < (1 : Int)) (a : ro w1 w2 J) : ro w w2 J := ⟨a.1.trans (X.2.1 1 c), fun j hj => (a.2 j hj).trans (X.2.2.2.1 1 j c)⟩
theorem ro_fn {i x J K : Int} (F : fn w w1 1 i x) (c : J ≤ i ∧ J ≤ K) (a : ro w1 w2 K) : ro w w2 J := ⟨a.1.trans (F.2.1 1), fun j hj => (a.2 j (by omega)).trans (F.2.2.2.2 1 j (Or.inr (by omega)))⟩
theorem hm_tr (a : hm h h1 hi) (b : hm h1 h2 hi) : hm h h2 hi := fun x i c d => (b x i c d).trans (a x i c d)
theorem hm_le {h3 : Int} (a : hm h h1 h3) (c : hi ≤ h3) : hm h h1 hi := fun x i y z => a x i (by omega) z
theorem hm_nw {kd n : Nat} (N : nw w h w1 h1 d kd n) (c : hi < d) : hm h h1 hi := fun x i y z => N.2.2.2.2.2.2.2.2 x i (by omega)
theorem hm_ex {l2 h3 : Int} (X : ex w h w1 h1 l2 h3) (c : hi < l2) : hm h h1 hi := fun x i y z => X.2.2.2.2 x i (by omega)
theorem hm_sn {a i x : Int} (s : sn h h1 a i x) (c : a = 1 ∨ a = 26) : hm h h1 hi := fun y j y0 z => s.2 y j (Or.inl (by omega))
theorem wl_s {a : Int} (m : sm w w1 lo hi) (c1 : lo ≤ a) (c2 : a ≤ hi) : wl w1 a = wl w a := by unfold wl; rw [(m a c1 c2).2.1]
theorem six {f : Int → Prop} (a0 : f 0) (a1 : f 1) (a2 : f 2) (a3 : f 3) (a4 : f 4) (a5 : f 5) : ∀ p : Int, 0 ≤ p → p < 6 → f p := by
  intro p p0 p1
  have : p = 0 ∨ p = 1 ∨ p = 2 ∨ p = 3 ∨ p = 4 ∨ p = 5 := by omega
  rcases this with rfl | rfl | rfl | rfl | rfl | rfl
  · exact a0
  · exact a1
  · exact a2
  · exact a3
  · exact a4
  · exact a5
theorem six2 (a0 : h 26 0 = 27) (a1 : h 26 1 = 29) (a2 : h 26 2 = 31) (a3 : h 26 3 = 33) (a4 : h 26 4 = 35) (a5 : h 26 5 = 37) : ∀ p : Int, 0 ≤ p → p < 6 → h 26 p = 27 + 2 * p := six (f := fun p => h 26 p = 27 + 2 * p) a0 a1 a2 a3 a4 a5
end
def shB0 (w : WS) : Prop := wt w 2 = 13 ∧ wt w 1 = 18 ∧ wf w 2 0 = 3 ∧ wf w 1 0 = 3 ∧ wf w 1 1 = 2 ∧ wf w 1 4 = 21 ∧ wf w 1 5 = 26 ∧ wf w 1 6 = 39 ∧ wf w 1 7 = 40 ∧ wf w 1 8 = 44 ∧ wf w 1 9 = 52 ∧ wf w 1 11 = 55 ∧ wf w 1 12 = 60 ∧ wf w 1 13 = 62
def shB1 (w : WS) : Prop := wt w 26 = 5 ∧ wl w 26 = 6 ∧ wt w 39 = 3 ∧ wl w 39 = 6 ∧ shTape w 3 ∧ shSetup w 5 ∧ shSetup w 13 ∧ shCalls w 21 ∧ wl w 22 = 200 ∧ shCalls w 55 ∧ wl w 56 = 200 ∧ (∀ p : Int, 0 ≤ p → p < 6 → shWakes w (27 + 2 * p) ∧ wl w (28 + 2 * p) = 200) ∧ shWakes w 60 ∧ wl w 61 = 200 ∧ shPlan w 40 ∧ shHand w 44 ∧ shRound w 52 ∧ shRound w 62
/-- what the fresh object holds -/
def hB (h : AH) : Prop := h 1 2 = 5 ∧ h 1 3 = 13 ∧ h 1 10 = 0 ∧ h 2 1 = 0 ∧ h 2 2 = -1 ∧ h 3 1 = 0 ∧ h 5 4 = 0 ∧ h 5 8 = 0 ∧ h 5 9 = 60 ∧ h 5 10 = 10 ∧ h 5 11 = 1 ∧ h 21 4 = 0 ∧ h 55 4 = 0 ∧ (∀ p : Int, 0 ≤ p → p < 6 → h 26 p = 27 + 2 * p) ∧ (∀ i, h 39 i = 0) ∧ h 44 2 = 0 ∧ h 44 3 = 0 ∧ h 44 4 = 0 ∧ h 44 5 = 0 ∧ h 44 6 = 0 ∧ h 44 7 = 0 ∧ h 44 8 = -1 ∧ h 44 9 = 0 ∧ h 44 10 = 2 ∧ h 45 4 = 0
def pX8 (w : WS) (h : AH) (w' : WS) (h' : AH) : Prop := (w'.1 : Int) = 64 ∧ sm w w' (-2) 0 ∧ (∀ i, h' (-1) i = h (-1) i ∧ h' (-2) i = h (-2) i) ∧ shB0 w' ∧ shB1 w' ∧ hB h'
set_option maxHeartbeats 8000000 in
theorem c_X8_init {w : WS} {h : AH} (hw : (w.1 : Int) = 1) (tS : wt w 1 = 18) (hz : ∀ i, h 1 i = 0) : CA mX8_init [vR 1] w h 63 7756 (fun r w' h' => r = none ∧ pX8 w h w' h') := by
  refine r_X8_init hw tS ?_
  intro w1 h1 q0 w3 h3 q1 w5 q2 w7 q3 w9 h9 q4 w11 h11 q5 h13 q6 w15 h15 q7 w17 h17 q8 h19 q9 w21 h21 q10 w23 h23 q11 w25 q12 w27 h27 q13 w29 q14 w31 h31 q15 w33 h33 q16 h35 q17 w37 h37 q18 w39 h39 q19 h41 q20 w43 h43 q21 w45 h45 q22 h47 q23 w49 h49 q24 w51 h51 q25 h53 q26 w55 h55 q27 w57 h57 q28 h59 q29 w61 h61 q30 w63 h63 q31 h65 q32 w67 h67 q33 w69 q34 w71 h71 q35 w73 h73 q36 w75 q37 w77 h77 q38 w79 h79 q39 w81 q40 w83 h83 q41 w85 h85 q42 w87 q43 w89 h89 q44 w91 h91 q45 w93 q46 w95 h95 q47 w97 h97 q48 w99 q49 w101 h101 q50 w103 h103 q51 w105 q52
  refine ⟨rfl, ?_⟩
  have g_w105 : sm w105 w105 2 64 := fun b _ _ => ⟨rfl, rfl, fun _ => rfl⟩
  have g_w103 : sm w103 w105 2 64 := sm_tr (sm_fn q52 (by decide)) (sm_le g_w105 (by decide) (by decide))
  have g_w101 : sm w101 w105 2 61 := sm_tr (sm_ex q51.1 (by decide)) (sm_le g_w103 (by decide) (by decide))
  have g_w99 : sm w99 w105 2 61 := sm_tr (sm_nw q50 (by decide)) (sm_le g_w101 (by decide) (by decide))
  have g_w97 : sm w97 w105 2 61 := sm_tr (sm_fn q49 (by decide)) (sm_le g_w99 (by decide) (by decide))
  have g_w95 : sm w95 w105 2 59 := sm_tr (sm_ex q48.1 (by decide)) (sm_le g_w97 (by decide) (by decide))
  have g_w93 : sm w93 w105 2 59 := sm_tr (sm_nw q47 (by decide)) (sm_le g_w95 (by decide) (by decide))
  have g_w91 : sm w91 w105 2 59 := sm_tr (sm_fn q46 (by decide)) (sm_le g_w93 (by decide) (by decide))
  have g_w89 : sm w89 w105 2 54 := sm_tr (sm_ex q45.1 (by decide)) (sm_le g_w91 (by decide) (by decide))
  have g_w87 : sm w87 w105 2 54 := sm_tr (sm_nw q44 (by decide)) (sm_le g_w89 (by decide) (by decide))
  have g_w85 : sm w85 w105 2 54 := sm_tr (sm_fn q43 (by decide)) (sm_le g_w87 (by decide) (by decide))
  have g_w83 : sm w83 w105 2 51 := sm_tr (sm_ex q42.1 (by decide)) (sm_le g_w85 (by decide) (by decide))
  have g_w81 : sm w81 w105 2 51 := sm_tr (sm_nw q41 (by decide)) (sm_le g_w83 (by decide) (by decide))
  have g_w79 : sm w79 w105 2 51 := sm_tr (sm_fn q40 (by decide)) (sm_le g_w81 (by decide) (by decide))
  have g_w77 : sm w77 w105 2 43 := sm_tr (sm_ex q39.1 (by decide)) (sm_le g_w79 (by decide) (by decide))
  have g_w75 : sm w75 w105 2 43 := sm_tr (sm_nw q38 (by decide)) (sm_le g_w77 (by decide) (by decide))
  have g_w73 : sm w73 w105 2 43 := sm_tr (sm_fn q37 (by decide)) (sm_le g_w75 (by decide) (by decide))
  have g_w71 : sm w71 w105 2 39 := sm_tr (sm_ex q36.1 (by decide)) (sm_le g_w73 (by decide) (by decide))
  have g_w69 : sm w69 w105 2 39 := sm_tr (sm_nw q35 (by decide)) (sm_le g_w71 (by decide) (by decide))
  have g_w67 : sm w67 w105 2 39 := sm_tr (sm_fn q34 (by decide)) (sm_le g_w69 (by decide) (by decide))
  have g_w63 : sm w63 w105 2 38 := sm_tr (sm_nw q33 (by decide)) (sm_le g_w67 (by decide) (by decide))
  have g_w61 : sm w61 w105 2 36 := sm_tr (sm_ex q31.1 (by decide)) (sm_le g_w63 (by decide) (by decide))
  have g_w57 : sm w57 w105 2 36 := sm_tr (sm_nw q30 (by decide)) (sm_le g_w61 (by decide) (by decide))
  have g_w55 : sm w55 w105 2 34 := sm_tr (sm_ex q28.1 (by decide)) (sm_le g_w57 (by decide) (by decide))
  have g_w51 : sm w51 w105 2 34 := sm_tr (sm_nw q27 (by decide)) (sm_le g_w55 (by decide) (by decide))
  have g_w49 : sm w49 w105 2 32 := sm_tr (sm_ex q25.1 (by decide)) (sm_le g_w51 (by decide) (by decide))
  have g_w45 : sm w45 w105 2 32 := sm_tr (sm_nw q24 (by decide)) (sm_le g_w49 (by decide) (by decide))
  have g_w43 : sm w43 w105 2 30 := sm_tr (sm_ex q22.1 (by decide)) (sm_le g_w45 (by decide) (by decide))
  have g_w39 : sm w39 w105 2 30 := sm_tr (sm_nw q21 (by decide)) (sm_le g_w43 (by decide) (by decide))
  have g_w37 : sm w37 w105 2 28 := sm_tr (sm_ex q19.1 (by decide)) (sm_le g_w39 (by decide) (by decide))
  have g_w33 : sm w33 w105 2 28 := sm_tr (sm_nw q18 (by decide)) (sm_le g_w37 (by decide) (by decide))
  have g_w31 : sm w31 w105 2 26 := sm_tr (sm_ex q16.1 (by decide)) (sm_le g_w33 (by decide) (by decide))
  have g_w29 : sm w29 w105 2 26 := sm_tr (sm_nw q15 (by decide)) (sm_le g_w31 (by decide) (by decide))
  have g_w27 : sm w27 w105 2 26 := sm_tr (sm_fn q14 (by decide)) (sm_le g_w29 (by decide) (by decide))
  have g_w25 : sm w25 w105 2 25 := sm_tr (sm_nw q13 (by decide)) (sm_le g_w27 (by decide) (by decide))
  have g_w23 : sm w23 w105 2 25 := sm_tr (sm_fn q12 (by decide)) (sm_le g_w25 (by decide) (by decide))
  have g_w21 : sm w21 w105 2 20 := sm_tr (sm_ex q11.1 (by decide)) (sm_le g_w23 (by decide) (by decide))
  have g_w17 : sm w17 w105 2 20 := sm_tr (sm_nw q10 (by decide)) (sm_le g_w21 (by decide) (by decide))
  have g_w15 : sm w15 w105 2 12 := sm_tr (sm_ex q8.1 (by decide)) (sm_le g_w17 (by decide) (by decide))
  have g_w11 : sm w11 w105 2 12 := sm_tr (sm_nw q7 (by decide)) (sm_le g_w15 (by decide) (by decide))
  have g_w9 : sm w9 w105 2 4 := sm_tr (sm_ex q5.1 (by decide)) (sm_le g_w11 (by decide) (by decide))
  have g_w7 : sm w7 w105 2 4 := sm_tr (sm_nw q4 (by decide)) (sm_le g_w9 (by decide) (by decide))
  have g_w5 : sm w5 w105 2 4 := sm_tr (sm_fn q3 (by decide)) (sm_le g_w7 (by decide) (by decide))
  have g_w3 : sm w3 w105 2 4 := sm_tr (sm_fn q2 (by decide)) (sm_le g_w5 (by decide) (by decide))
  have g_w1 : sm w1 w105 2 1 := sm_tr (sm_ex q1.1 (by decide)) (sm_le g_w3 (by decide) (by decide))
  have o_w105 : ro w105 w105 14 := ⟨rfl, fun _ _ => rfl⟩
  have o_w103 : ro w103 w105 13 := ro_fn q52 (by decide) o_w105
  have o_w101 : ro w101 w105 13 := ro_ex q51.1 (by decide) o_w103
  have o_w99 : ro w99 w105 13 := ro_nw q50 (by decide) o_w101
  have o_w97 : ro w97 w105 12 := ro_fn q49 (by decide) o_w99
  have o_w95 : ro w95 w105 12 := ro_ex q48.1 (by decide) o_w97
  have o_w93 : ro w93 w105 12 := ro_nw q47 (by decide) o_w95
  have o_w91 : ro w91 w105 11 := ro_fn q46 (by decide) o_w93
  have o_w89 : ro w89 w105 11 := ro_ex q45.1 (by decide) o_w91
  have o_w87 : ro w87 w105 11 := ro_nw q44 (by decide) o_w89
  have o_w85 : ro w85 w105 9 := ro_fn q43 (by decide) o_w87
  have o_w83 : ro w83 w105 9 := ro_ex q42.1 (by decide) o_w85
  have o_w81 : ro w81 w105 9 := ro_nw q41 (by decide) o_w83
  have o_w79 : ro w79 w105 8 := ro_fn q40 (by decide) o_w81
  have o_w77 : ro w77 w105 8 := ro_ex q39.1 (by decide) o_w79
  have o_w75 : ro w75 w105 8 := ro_nw q38 (by decide) o_w77
  have o_w73 : ro w73 w105 7 := ro_fn q37 (by decide) o_w75
  have o_w71 : ro w71 w105 7 := ro_ex q36.1 (by decide) o_w73
  have o_w69 : ro w69 w105 7 := ro_nw q35 (by decide) o_w71
  have o_w67 : ro w67 w105 6 := ro_fn q34 (by decide) o_w69
  have o_w63 : ro w63 w105 6 := ro_nw q33 (by decide) o_w67
  have o_w61 : ro w61 w105 6 := ro_ex q31.1 (by decide) o_w63
  have o_w57 : ro w57 w105 6 := ro_nw q30 (by decide) o_w61
  have o_w55 : ro w55 w105 6 := ro_ex q28.1 (by decide) o_w57
  have o_w51 : ro w51 w105 6 := ro_nw q27 (by decide) o_w55
  have o_w49 : ro w49 w105 6 := ro_ex q25.1 (by decide) o_w51
  have o_w45 : ro w45 w105 6 := ro_nw q24 (by decide) o_w49
  have o_w43 : ro w43 w105 6 := ro_ex q22.1 (by decide) o_w45
  have o_w39 : ro w39 w105 6 := ro_nw q21 (by decide) o_w43
  have o_w37 : ro w37 w105 6 := ro_ex q19.1 (by decide) o_w39
  have o_w33 : ro w33 w105 6 := ro_nw q18 (by decide) o_w37
  have o_w31 : ro w31 w105 6 := ro_ex q16.1 (by decide) o_w33
  have o_w29 : ro w29 w105 6 := ro_nw q15 (by decide) o_w31
  have o_w27 : ro w27 w105 5 := ro_fn q14 (by decide) o_w29
  have o_w25 : ro w25 w105 5 := ro_nw q13 (by decide) o_w27
  have o_w23 : ro w23 w105 4 := ro_fn q12 (by decide) o_w25
  have o_w21 : ro w21 w105 4 := ro_ex q11.1 (by decide) o_w23
  have o_w17 : ro w17 w105 4 := ro_nw q10 (by decide) o_w21
  have o_w15 : ro w15 w105 4 := ro_ex q8.1 (by decide) o_w17
  have o_w11 : ro w11 w105 4 := ro_nw q7 (by decide) o_w15
  have o_w9 : ro w9 w105 4 := ro_ex q5.1 (by decide) o_w11
  have o_w7 : ro w7 w105 4 := ro_nw q4 (by decide) o_w9
  have o_w5 : ro w5 w105 0 := ro_fn q3 (by decide) o_w7
  have o_w3 : ro w3 w105 0 := ro_fn q2 (by decide) o_w5
  have o_w1 : ro w1 w105 0 := ro_ex q1.1 (by decide) o_w3
  have o_w : ro w w105 0 := ro_nw q0 (by decide) o_w1
  have l_w105 : sm w105 w105 (-2) 0 := fun b _ _ => ⟨rfl, rfl, fun _ => rfl⟩
  have l_w103 : sm w103 w105 (-2) 0 := sm_tr (sm_fn q52 (by decide)) l_w105
  have l_w101 : sm w101 w105 (-2) 0 := sm_tr (sm_ex q51.1 (by decide)) l_w103
  have l_w99 : sm w99 w105 (-2) 0 := sm_tr (sm_nw q50 (by decide)) l_w101
  have l_w97 : sm w97 w105 (-2) 0 := sm_tr (sm_fn q49 (by decide)) l_w99
  have l_w95 : sm w95 w105 (-2) 0 := sm_tr (sm_ex q48.1 (by decide)) l_w97
  have l_w93 : sm w93 w105 (-2) 0 := sm_tr (sm_nw q47 (by decide)) l_w95
  have l_w91 : sm w91 w105 (-2) 0 := sm_tr (sm_fn q46 (by decide)) l_w93
  have l_w89 : sm w89 w105 (-2) 0 := sm_tr (sm_ex q45.1 (by decide)) l_w91
  have l_w87 : sm w87 w105 (-2) 0 := sm_tr (sm_nw q44 (by decide)) l_w89
  have l_w85 : sm w85 w105 (-2) 0 := sm_tr (sm_fn q43 (by decide)) l_w87
  have l_w83 : sm w83 w105 (-2) 0 := sm_tr (sm_ex q42.1 (by decide)) l_w85
  have l_w81 : sm w81 w105 (-2) 0 := sm_tr (sm_nw q41 (by decide)) l_w83
  have l_w79 : sm w79 w105 (-2) 0 := sm_tr (sm_fn q40 (by decide)) l_w81
  have l_w77 : sm w77 w105 (-2) 0 := sm_tr (sm_ex q39.1 (by decide)) l_w79
  have l_w75 : sm w75 w105 (-2) 0 := sm_tr (sm_nw q38 (by decide)) l_w77
  have l_w73 : sm w73 w105 (-2) 0 := sm_tr (sm_fn q37 (by decide)) l_w75
  have l_w71 : sm w71 w105 (-2) 0 := sm_tr (sm_ex q36.1 (by decide)) l_w73
  have l_w69 : sm w69 w105 (-2) 0 := sm_tr (sm_nw q35 (by decide)) l_w71
  have l_w67 : sm w67 w105 (-2) 0 := sm_tr (sm_fn q34 (by decide)) l_w69
  have l_w63 : sm w63 w105 (-2) 0 := sm_tr (sm_nw q33 (by decide)) l_w67
  have l_w61 : sm w61 w105 (-2) 0 := sm_tr (sm_ex q31.1 (by decide)) l_w63
  have l_w57 : sm w57 w105 (-2) 0 := sm_tr (sm_nw q30 (by decide)) l_w61
  have l_w55 : sm w55 w105 (-2) 0 := sm_tr (sm_ex q28.1 (by decide)) l_w57
  have l_w51 : sm w51 w105 (-2) 0 := sm_tr (sm_nw q27 (by decide)) l_w55
  have l_w49 : sm w49 w105 (-2) 0 := sm_tr (sm_ex q25.1 (by decide)) l_w51
  have l_w45 : sm w45 w105 (-2) 0 := sm_tr (sm_nw q24 (by decide)) l_w49
  have l_w43 : sm w43 w105 (-2) 0 := sm_tr (sm_ex q22.1 (by decide)) l_w45
  have l_w39 : sm w39 w105 (-2) 0 := sm_tr (sm_nw q21 (by decide)) l_w43
  have l_w37 : sm w37 w105 (-2) 0 := sm_tr (sm_ex q19.1 (by decide)) l_w39
  have l_w33 : sm w33 w105 (-2) 0 := sm_tr (sm_nw q18 (by decide)) l_w37
  have l_w31 : sm w31 w105 (-2) 0 := sm_tr (sm_ex q16.1 (by decide)) l_w33
  have l_w29 : sm w29 w105 (-2) 0 := sm_tr (sm_nw q15 (by decide)) l_w31
  have l_w27 : sm w27 w105 (-2) 0 := sm_tr (sm_fn q14 (by decide)) l_w29
  have l_w25 : sm w25 w105 (-2) 0 := sm_tr (sm_nw q13 (by decide)) l_w27
  have l_w23 : sm w23 w105 (-2) 0 := sm_tr (sm_fn q12 (by decide)) l_w25
  have l_w21 : sm w21 w105 (-2) 0 := sm_tr (sm_ex q11.1 (by decide)) l_w23
  have l_w17 : sm w17 w105 (-2) 0 := sm_tr (sm_nw q10 (by decide)) l_w21
  have l_w15 : sm w15 w105 (-2) 0 := sm_tr (sm_ex q8.1 (by decide)) l_w17
  have l_w11 : sm w11 w105 (-2) 0 := sm_tr (sm_nw q7 (by decide)) l_w15
  have l_w9 : sm w9 w105 (-2) 0 := sm_tr (sm_ex q5.1 (by decide)) l_w11
  have l_w7 : sm w7 w105 (-2) 0 := sm_tr (sm_nw q4 (by decide)) l_w9
  have l_w5 : sm w5 w105 (-2) 0 := sm_tr (sm_fn q3 (by decide)) l_w7
  have l_w3 : sm w3 w105 (-2) 0 := sm_tr (sm_fn q2 (by decide)) l_w5
  have l_w1 : sm w1 w105 (-2) 0 := sm_tr (sm_ex q1.1 (by decide)) l_w3
  have l_w : sm w w105 (-2) 0 := sm_tr (sm_nw q0 (by decide)) l_w1
  have k_h103 : hm h103 h103 64 := fun _ _ _ _ => rfl
  have k_h101 : hm h101 h103 61 := hm_tr (hm_ex q51.1 (by decide)) (hm_le k_h103 (by decide))
  have k_h97 : hm h97 h103 61 := hm_tr (hm_nw q50 (by decide)) (hm_le k_h101 (by decide))
  have k_h95 : hm h95 h103 59 := hm_tr (hm_ex q48.1 (by decide)) (hm_le k_h97 (by decide))
  have k_h91 : hm h91 h103 59 := hm_tr (hm_nw q47 (by decide)) (hm_le k_h95 (by decide))
  have k_h89 : hm h89 h103 54 := hm_tr (hm_ex q45.1 (by decide)) (hm_le k_h91 (by decide))
  have k_h85 : hm h85 h103 54 := hm_tr (hm_nw q44 (by decide)) (hm_le k_h89 (by decide))
  have k_h83 : hm h83 h103 51 := hm_tr (hm_ex q42.1 (by decide)) (hm_le k_h85 (by decide))
  have k_h79 : hm h79 h103 51 := hm_tr (hm_nw q41 (by decide)) (hm_le k_h83 (by decide))
  have k_h77 : hm h77 h103 43 := hm_tr (hm_ex q39.1 (by decide)) (hm_le k_h79 (by decide))
  have k_h73 : hm h73 h103 43 := hm_tr (hm_nw q38 (by decide)) (hm_le k_h77 (by decide))
  have k_h71 : hm h71 h103 39 := hm_tr (hm_ex q36.1 (by decide)) (hm_le k_h73 (by decide))
  have k_h67 : hm h67 h103 39 := hm_tr (hm_nw q35 (by decide)) (hm_le k_h71 (by decide))
  have k_h65 : hm h65 h103 38 := hm_tr (hm_nw q33 (by decide)) (hm_le k_h67 (by decide))
  have k_h63 : hm h63 h103 38 := hm_tr (hm_sn q32 (by decide)) (hm_le k_h65 (by decide))
  have k_h61 : hm h61 h103 36 := hm_tr (hm_ex q31.1 (by decide)) (hm_le k_h63 (by decide))
  have k_h59 : hm h59 h103 36 := hm_tr (hm_nw q30 (by decide)) (hm_le k_h61 (by decide))
  have k_h57 : hm h57 h103 36 := hm_tr (hm_sn q29 (by decide)) (hm_le k_h59 (by decide))
  have k_h55 : hm h55 h103 34 := hm_tr (hm_ex q28.1 (by decide)) (hm_le k_h57 (by decide))
  have k_h53 : hm h53 h103 34 := hm_tr (hm_nw q27 (by decide)) (hm_le k_h55 (by decide))
  have k_h51 : hm h51 h103 34 := hm_tr (hm_sn q26 (by decide)) (hm_le k_h53 (by decide))
  have k_h49 : hm h49 h103 32 := hm_tr (hm_ex q25.1 (by decide)) (hm_le k_h51 (by decide))
  have k_h47 : hm h47 h103 32 := hm_tr (hm_nw q24 (by decide)) (hm_le k_h49 (by decide))
  have k_h45 : hm h45 h103 32 := hm_tr (hm_sn q23 (by decide)) (hm_le k_h47 (by decide))
  have k_h43 : hm h43 h103 30 := hm_tr (hm_ex q22.1 (by decide)) (hm_le k_h45 (by decide))
  have k_h41 : hm h41 h103 30 := hm_tr (hm_nw q21 (by decide)) (hm_le k_h43 (by decide))
  have k_h39 : hm h39 h103 30 := hm_tr (hm_sn q20 (by decide)) (hm_le k_h41 (by decide))
  have k_h37 : hm h37 h103 28 := hm_tr (hm_ex q19.1 (by decide)) (hm_le k_h39 (by decide))
  have k_h35 : hm h35 h103 28 := hm_tr (hm_nw q18 (by decide)) (hm_le k_h37 (by decide))
  have k_h33 : hm h33 h103 28 := hm_tr (hm_sn q17 (by decide)) (hm_le k_h35 (by decide))
  have k_h31 : hm h31 h103 26 := hm_tr (hm_ex q16.1 (by decide)) (hm_le k_h33 (by decide))
  have k_h27 : hm h27 h103 26 := hm_tr (hm_nw q15 (by decide)) (hm_le k_h31 (by decide))
  have k_h23 : hm h23 h103 25 := hm_tr (hm_nw q13 (by decide)) (hm_le k_h27 (by decide))
  have k_h21 : hm h21 h103 20 := hm_tr (hm_ex q11.1 (by decide)) (hm_le k_h23 (by decide))
  have k_h19 : hm h19 h103 20 := hm_tr (hm_nw q10 (by decide)) (hm_le k_h21 (by decide))
  have k_h17 : hm h17 h103 20 := hm_tr (hm_sn q9 (by decide)) (hm_le k_h19 (by decide))
  have k_h15 : hm h15 h103 12 := hm_tr (hm_ex q8.1 (by decide)) (hm_le k_h17 (by decide))
  have k_h13 : hm h13 h103 12 := hm_tr (hm_nw q7 (by decide)) (hm_le k_h15 (by decide))
  have k_h11 : hm h11 h103 12 := hm_tr (hm_sn q6 (by decide)) (hm_le k_h13 (by decide))
  have k_h9 : hm h9 h103 4 := hm_tr (hm_ex q5.1 (by decide)) (hm_le k_h11 (by decide))
  have k_h3 : hm h3 h103 4 := hm_tr (hm_nw q4 (by decide)) (hm_le k_h9 (by decide))
  have k_h1 : hm h1 h103 1 := hm_tr (hm_ex q1.1 (by decide)) (hm_le k_h3 (by decide))
  have k_h : hm h h103 1 := hm_tr (hm_nw q0 (by decide)) (hm_le k_h1 (by decide))
  have y_1_2 : h103 1 2 = 5 := by rw [q51.1.2.2.2.2 1 2 (by decide), q50.2.2.2.2.2.2.2.2 1 2 (by decide), q48.1.2.2.2.2 1 2 (by decide), q47.2.2.2.2.2.2.2.2 1 2 (by decide), q45.1.2.2.2.2 1 2 (by decide), q44.2.2.2.2.2.2.2.2 1 2 (by decide), q42.1.2.2.2.2 1 2 (by decide), q41.2.2.2.2.2.2.2.2 1 2 (by decide), q39.1.2.2.2.2 1 2 (by decide), q38.2.2.2.2.2.2.2.2 1 2 (by decide), q36.1.2.2.2.2 1 2 (by decide), q35.2.2.2.2.2.2.2.2 1 2 (by decide), q33.2.2.2.2.2.2.2.2 1 2 (by decide), q32.2 1 2 (Or.inl (by decide)), q31.1.2.2.2.2 1 2 (by decide), q30.2.2.2.2.2.2.2.2 1 2 (by decide), q29.2 1 2 (Or.inl (by decide)), q28.1.2.2.2.2 1 2 (by decide), q27.2.2.2.2.2.2.2.2 1 2 (by decide), q26.2 1 2 (Or.inl (by decide)), q25.1.2.2.2.2 1 2 (by decide), q24.2.2.2.2.2.2.2.2 1 2 (by decide), q23.2 1 2 (Or.inl (by decide)), q22.1.2.2.2.2 1 2 (by decide), q21.2.2.2.2.2.2.2.2 1 2 (by decide), q20.2 1 2 (Or.inl (by decide)), q19.1.2.2.2.2 1 2 (by decide), q18.2.2.2.2.2.2.2.2 1 2 (by decide), q17.2 1 2 (Or.inl (by decide)), q16.1.2.2.2.2 1 2 (by decide), q15.2.2.2.2.2.2.2.2 1 2 (by decide), q13.2.2.2.2.2.2.2.2 1 2 (by decide), q11.1.2.2.2.2 1 2 (by decide), q10.2.2.2.2.2.2.2.2 1 2 (by decide), q9.2 1 2 (Or.inr (by decide)), q8.1.2.2.2.2 1 2 (by decide), q7.2.2.2.2.2.2.2.2 1 2 (by decide)]; exact q6.1
  have y_1_3 : h103 1 3 = 13 := by rw [q51.1.2.2.2.2 1 3 (by decide), q50.2.2.2.2.2.2.2.2 1 3 (by decide), q48.1.2.2.2.2 1 3 (by decide), q47.2.2.2.2.2.2.2.2 1 3 (by decide), q45.1.2.2.2.2 1 3 (by decide), q44.2.2.2.2.2.2.2.2 1 3 (by decide), q42.1.2.2.2.2 1 3 (by decide), q41.2.2.2.2.2.2.2.2 1 3 (by decide), q39.1.2.2.2.2 1 3 (by decide), q38.2.2.2.2.2.2.2.2 1 3 (by decide), q36.1.2.2.2.2 1 3 (by decide), q35.2.2.2.2.2.2.2.2 1 3 (by decide), q33.2.2.2.2.2.2.2.2 1 3 (by decide), q32.2 1 3 (Or.inl (by decide)), q31.1.2.2.2.2 1 3 (by decide), q30.2.2.2.2.2.2.2.2 1 3 (by decide), q29.2 1 3 (Or.inl (by decide)), q28.1.2.2.2.2 1 3 (by decide), q27.2.2.2.2.2.2.2.2 1 3 (by decide), q26.2 1 3 (Or.inl (by decide)), q25.1.2.2.2.2 1 3 (by decide), q24.2.2.2.2.2.2.2.2 1 3 (by decide), q23.2 1 3 (Or.inl (by decide)), q22.1.2.2.2.2 1 3 (by decide), q21.2.2.2.2.2.2.2.2 1 3 (by decide), q20.2 1 3 (Or.inl (by decide)), q19.1.2.2.2.2 1 3 (by decide), q18.2.2.2.2.2.2.2.2 1 3 (by decide), q17.2 1 3 (Or.inl (by decide)), q16.1.2.2.2.2 1 3 (by decide), q15.2.2.2.2.2.2.2.2 1 3 (by decide), q13.2.2.2.2.2.2.2.2 1 3 (by decide), q11.1.2.2.2.2 1 3 (by decide), q10.2.2.2.2.2.2.2.2 1 3 (by decide)]; exact q9.1
  have y_26_0 : h103 26 0 = 27 := by rw [q51.1.2.2.2.2 26 0 (by decide), q50.2.2.2.2.2.2.2.2 26 0 (by decide), q48.1.2.2.2.2 26 0 (by decide), q47.2.2.2.2.2.2.2.2 26 0 (by decide), q45.1.2.2.2.2 26 0 (by decide), q44.2.2.2.2.2.2.2.2 26 0 (by decide), q42.1.2.2.2.2 26 0 (by decide), q41.2.2.2.2.2.2.2.2 26 0 (by decide), q39.1.2.2.2.2 26 0 (by decide), q38.2.2.2.2.2.2.2.2 26 0 (by decide), q36.1.2.2.2.2 26 0 (by decide), q35.2.2.2.2.2.2.2.2 26 0 (by decide), q33.2.2.2.2.2.2.2.2 26 0 (by decide), q32.2 26 0 (Or.inr (by decide)), q31.1.2.2.2.2 26 0 (by decide), q30.2.2.2.2.2.2.2.2 26 0 (by decide), q29.2 26 0 (Or.inr (by decide)), q28.1.2.2.2.2 26 0 (by decide), q27.2.2.2.2.2.2.2.2 26 0 (by decide), q26.2 26 0 (Or.inr (by decide)), q25.1.2.2.2.2 26 0 (by decide), q24.2.2.2.2.2.2.2.2 26 0 (by decide), q23.2 26 0 (Or.inr (by decide)), q22.1.2.2.2.2 26 0 (by decide), q21.2.2.2.2.2.2.2.2 26 0 (by decide), q20.2 26 0 (Or.inr (by decide)), q19.1.2.2.2.2 26 0 (by decide), q18.2.2.2.2.2.2.2.2 26 0 (by decide)]; exact q17.1
  have y_26_1 : h103 26 1 = 29 := by rw [q51.1.2.2.2.2 26 1 (by decide), q50.2.2.2.2.2.2.2.2 26 1 (by decide), q48.1.2.2.2.2 26 1 (by decide), q47.2.2.2.2.2.2.2.2 26 1 (by decide), q45.1.2.2.2.2 26 1 (by decide), q44.2.2.2.2.2.2.2.2 26 1 (by decide), q42.1.2.2.2.2 26 1 (by decide), q41.2.2.2.2.2.2.2.2 26 1 (by decide), q39.1.2.2.2.2 26 1 (by decide), q38.2.2.2.2.2.2.2.2 26 1 (by decide), q36.1.2.2.2.2 26 1 (by decide), q35.2.2.2.2.2.2.2.2 26 1 (by decide), q33.2.2.2.2.2.2.2.2 26 1 (by decide), q32.2 26 1 (Or.inr (by decide)), q31.1.2.2.2.2 26 1 (by decide), q30.2.2.2.2.2.2.2.2 26 1 (by decide), q29.2 26 1 (Or.inr (by decide)), q28.1.2.2.2.2 26 1 (by decide), q27.2.2.2.2.2.2.2.2 26 1 (by decide), q26.2 26 1 (Or.inr (by decide)), q25.1.2.2.2.2 26 1 (by decide), q24.2.2.2.2.2.2.2.2 26 1 (by decide), q23.2 26 1 (Or.inr (by decide)), q22.1.2.2.2.2 26 1 (by decide), q21.2.2.2.2.2.2.2.2 26 1 (by decide)]; exact q20.1
  have y_26_2 : h103 26 2 = 31 := by rw [q51.1.2.2.2.2 26 2 (by decide), q50.2.2.2.2.2.2.2.2 26 2 (by decide), q48.1.2.2.2.2 26 2 (by decide), q47.2.2.2.2.2.2.2.2 26 2 (by decide), q45.1.2.2.2.2 26 2 (by decide), q44.2.2.2.2.2.2.2.2 26 2 (by decide), q42.1.2.2.2.2 26 2 (by decide), q41.2.2.2.2.2.2.2.2 26 2 (by decide), q39.1.2.2.2.2 26 2 (by decide), q38.2.2.2.2.2.2.2.2 26 2 (by decide), q36.1.2.2.2.2 26 2 (by decide), q35.2.2.2.2.2.2.2.2 26 2 (by decide), q33.2.2.2.2.2.2.2.2 26 2 (by decide), q32.2 26 2 (Or.inr (by decide)), q31.1.2.2.2.2 26 2 (by decide), q30.2.2.2.2.2.2.2.2 26 2 (by decide), q29.2 26 2 (Or.inr (by decide)), q28.1.2.2.2.2 26 2 (by decide), q27.2.2.2.2.2.2.2.2 26 2 (by decide), q26.2 26 2 (Or.inr (by decide)), q25.1.2.2.2.2 26 2 (by decide), q24.2.2.2.2.2.2.2.2 26 2 (by decide)]; exact q23.1
  have y_26_3 : h103 26 3 = 33 := by rw [q51.1.2.2.2.2 26 3 (by decide), q50.2.2.2.2.2.2.2.2 26 3 (by decide), q48.1.2.2.2.2 26 3 (by decide), q47.2.2.2.2.2.2.2.2 26 3 (by decide), q45.1.2.2.2.2 26 3 (by decide), q44.2.2.2.2.2.2.2.2 26 3 (by decide), q42.1.2.2.2.2 26 3 (by decide), q41.2.2.2.2.2.2.2.2 26 3 (by decide), q39.1.2.2.2.2 26 3 (by decide), q38.2.2.2.2.2.2.2.2 26 3 (by decide), q36.1.2.2.2.2 26 3 (by decide), q35.2.2.2.2.2.2.2.2 26 3 (by decide), q33.2.2.2.2.2.2.2.2 26 3 (by decide), q32.2 26 3 (Or.inr (by decide)), q31.1.2.2.2.2 26 3 (by decide), q30.2.2.2.2.2.2.2.2 26 3 (by decide), q29.2 26 3 (Or.inr (by decide)), q28.1.2.2.2.2 26 3 (by decide), q27.2.2.2.2.2.2.2.2 26 3 (by decide)]; exact q26.1
  have y_26_4 : h103 26 4 = 35 := by rw [q51.1.2.2.2.2 26 4 (by decide), q50.2.2.2.2.2.2.2.2 26 4 (by decide), q48.1.2.2.2.2 26 4 (by decide), q47.2.2.2.2.2.2.2.2 26 4 (by decide), q45.1.2.2.2.2 26 4 (by decide), q44.2.2.2.2.2.2.2.2 26 4 (by decide), q42.1.2.2.2.2 26 4 (by decide), q41.2.2.2.2.2.2.2.2 26 4 (by decide), q39.1.2.2.2.2 26 4 (by decide), q38.2.2.2.2.2.2.2.2 26 4 (by decide), q36.1.2.2.2.2 26 4 (by decide), q35.2.2.2.2.2.2.2.2 26 4 (by decide), q33.2.2.2.2.2.2.2.2 26 4 (by decide), q32.2 26 4 (Or.inr (by decide)), q31.1.2.2.2.2 26 4 (by decide), q30.2.2.2.2.2.2.2.2 26 4 (by decide)]; exact q29.1
  have y_26_5 : h103 26 5 = 37 := by rw [q51.1.2.2.2.2 26 5 (by decide), q50.2.2.2.2.2.2.2.2 26 5 (by decide), q48.1.2.2.2.2 26 5 (by decide), q47.2.2.2.2.2.2.2.2 26 5 (by decide), q45.1.2.2.2.2 26 5 (by decide), q44.2.2.2.2.2.2.2.2 26 5 (by decide), q42.1.2.2.2.2 26 5 (by decide), q41.2.2.2.2.2.2.2.2 26 5 (by decide), q39.1.2.2.2.2 26 5 (by decide), q38.2.2.2.2.2.2.2.2 26 5 (by decide), q36.1.2.2.2.2 26 5 (by decide), q35.2.2.2.2.2.2.2.2 26 5 (by decide), q33.2.2.2.2.2.2.2.2 26 5 (by decide)]; exact q32.1
  have y_1_10 : h103 1 10 = 0 := by rw [q51.1.2.2.2.2 1 10 (by decide), q50.2.2.2.2.2.2.2.2 1 10 (by decide), q48.1.2.2.2.2 1 10 (by decide), q47.2.2.2.2.2.2.2.2 1 10 (by decide), q45.1.2.2.2.2 1 10 (by decide), q44.2.2.2.2.2.2.2.2 1 10 (by decide), q42.1.2.2.2.2 1 10 (by decide), q41.2.2.2.2.2.2.2.2 1 10 (by decide), q39.1.2.2.2.2 1 10 (by decide), q38.2.2.2.2.2.2.2.2 1 10 (by decide), q36.1.2.2.2.2 1 10 (by decide), q35.2.2.2.2.2.2.2.2 1 10 (by decide), q33.2.2.2.2.2.2.2.2 1 10 (by decide), q32.2 1 10 (Or.inl (by decide)), q31.1.2.2.2.2 1 10 (by decide), q30.2.2.2.2.2.2.2.2 1 10 (by decide), q29.2 1 10 (Or.inl (by decide)), q28.1.2.2.2.2 1 10 (by decide), q27.2.2.2.2.2.2.2.2 1 10 (by decide), q26.2 1 10 (Or.inl (by decide)), q25.1.2.2.2.2 1 10 (by decide), q24.2.2.2.2.2.2.2.2 1 10 (by decide), q23.2 1 10 (Or.inl (by decide)), q22.1.2.2.2.2 1 10 (by decide), q21.2.2.2.2.2.2.2.2 1 10 (by decide), q20.2 1 10 (Or.inl (by decide)), q19.1.2.2.2.2 1 10 (by decide), q18.2.2.2.2.2.2.2.2 1 10 (by decide), q17.2 1 10 (Or.inl (by decide)), q16.1.2.2.2.2 1 10 (by decide), q15.2.2.2.2.2.2.2.2 1 10 (by decide), q13.2.2.2.2.2.2.2.2 1 10 (by decide), q11.1.2.2.2.2 1 10 (by decide), q10.2.2.2.2.2.2.2.2 1 10 (by decide), q9.2 1 10 (Or.inr (by decide)), q8.1.2.2.2.2 1 10 (by decide), q7.2.2.2.2.2.2.2.2 1 10 (by decide), q6.2 1 10 (Or.inr (by decide)), q5.1.2.2.2.2 1 10 (by decide), q4.2.2.2.2.2.2.2.2 1 10 (by decide), q1.1.2.2.2.2 1 10 (by decide), q0.2.2.2.2.2.2.2.2 1 10 (by decide)]; exact hz 10
  refine ⟨by rw [q52.1]; exact q51.1.1, l_w, fun i => ⟨?_, ?_⟩, ?_, ?_, ?_⟩
  · rw [q51.1.2.2.2.2 (-1) i (by decide), q50.2.2.2.2.2.2.2.2 (-1) i (by decide), q48.1.2.2.2.2 (-1) i (by decide), q47.2.2.2.2.2.2.2.2 (-1) i (by decide), q45.1.2.2.2.2 (-1) i (by decide), q44.2.2.2.2.2.2.2.2 (-1) i (by decide), q42.1.2.2.2.2 (-1) i (by decide), q41.2.2.2.2.2.2.2.2 (-1) i (by decide), q39.1.2.2.2.2 (-1) i (by decide), q38.2.2.2.2.2.2.2.2 (-1) i (by decide), q36.1.2.2.2.2 (-1) i (by decide), q35.2.2.2.2.2.2.2.2 (-1) i (by decide), q33.2.2.2.2.2.2.2.2 (-1) i (by decide), q32.2 (-1) i (Or.inl (by decide)), q31.1.2.2.2.2 (-1) i (by decide), q30.2.2.2.2.2.2.2.2 (-1) i (by decide), q29.2 (-1) i (Or.inl (by decide)), q28.1.2.2.2.2 (-1) i (by decide), q27.2.2.2.2.2.2.2.2 (-1) i (by decide), q26.2 (-1) i (Or.inl (by decide)), q25.1.2.2.2.2 (-1) i (by decide), q24.2.2.2.2.2.2.2.2 (-1) i (by decide), q23.2 (-1) i (Or.inl (by decide)), q22.1.2.2.2.2 (-1) i (by decide), q21.2.2.2.2.2.2.2.2 (-1) i (by decide), q20.2 (-1) i (Or.inl (by decide)), q19.1.2.2.2.2 (-1) i (by decide), q18.2.2.2.2.2.2.2.2 (-1) i (by decide), q17.2 (-1) i (Or.inl (by decide)), q16.1.2.2.2.2 (-1) i (by decide), q15.2.2.2.2.2.2.2.2 (-1) i (by decide), q13.2.2.2.2.2.2.2.2 (-1) i (by decide), q11.1.2.2.2.2 (-1) i (by decide), q10.2.2.2.2.2.2.2.2 (-1) i (by decide), q9.2 (-1) i (Or.inl (by decide)), q8.1.2.2.2.2 (-1) i (by decide), q7.2.2.2.2.2.2.2.2 (-1) i (by decide), q6.2 (-1) i (Or.inl (by decide)), q5.1.2.2.2.2 (-1) i (by decide), q4.2.2.2.2.2.2.2.2 (-1) i (by decide), q1.1.2.2.2.2 (-1) i (by decide), q0.2.2.2.2.2.2.2.2 (-1) i (by decide)]
  · rw [q51.1.2.2.2.2 (-2) i (by decide), q50.2.2.2.2.2.2.2.2 (-2) i (by decide), q48.1.2.2.2.2 (-2) i (by decide), q47.2.2.2.2.2.2.2.2 (-2) i (by decide), q45.1.2.2.2.2 (-2) i (by decide), q44.2.2.2.2.2.2.2.2 (-2) i (by decide), q42.1.2.2.2.2 (-2) i (by decide), q41.2.2.2.2.2.2.2.2 (-2) i (by decide), q39.1.2.2.2.2 (-2) i (by decide), q38.2.2.2.2.2.2.2.2 (-2) i (by decide), q36.1.2.2.2.2 (-2) i (by decide), q35.2.2.2.2.2.2.2.2 (-2) i (by decide), q33.2.2.2.2.2.2.2.2 (-2) i (by decide), q32.2 (-2) i (Or.inl (by decide)), q31.1.2.2.2.2 (-2) i (by decide), q30.2.2.2.2.2.2.2.2 (-2) i (by decide), q29.2 (-2) i (Or.inl (by decide)), q28.1.2.2.2.2 (-2) i (by decide), q27.2.2.2.2.2.2.2.2 (-2) i (by decide), q26.2 (-2) i (Or.inl (by decide)), q25.1.2.2.2.2 (-2) i (by decide), q24.2.2.2.2.2.2.2.2 (-2) i (by decide), q23.2 (-2) i (Or.inl (by decide)), q22.1.2.2.2.2 (-2) i (by decide), q21.2.2.2.2.2.2.2.2 (-2) i (by decide), q20.2 (-2) i (Or.inl (by decide)), q19.1.2.2.2.2 (-2) i (by decide), q18.2.2.2.2.2.2.2.2 (-2) i (by decide), q17.2 (-2) i (Or.inl (by decide)), q16.1.2.2.2.2 (-2) i (by decide), q15.2.2.2.2.2.2.2.2 (-2) i (by decide), q13.2.2.2.2.2.2.2.2 (-2) i (by decide), q11.1.2.2.2.2 (-2) i (by decide), q10.2.2.2.2.2.2.2.2 (-2) i (by decide), q9.2 (-2) i (Or.inl (by decide)), q8.1.2.2.2.2 (-2) i (by decide), q7.2.2.2.2.2.2.2.2 (-2) i (by decide), q6.2 (-2) i (Or.inl (by decide)), q5.1.2.2.2.2 (-2) i (by decide), q4.2.2.2.2.2.2.2.2 (-2) i (by decide), q1.1.2.2.2.2 (-2) i (by decide), q0.2.2.2.2.2.2.2.2 (-2) i (by decide)]
  · exact ⟨((g_w3 2 (by decide) (by decide)).1).trans q1.2.1, o_w.1.trans tS, ((g_w3 2 (by decide) (by decide)).2.2 0).trans q1.2.2.1, (o_w7.2 0 (by decide)).trans q3.2.2.2.1, ((o_w7.2 1 (by decide)).trans (q3.2.2.2.2 1 1 (Or.inr (by decide)))).trans q2.2.2.2.1, (o_w25.2 4 (by decide)).trans q12.2.2.2.1, (o_w29.2 5 (by decide)).trans q14.2.2.2.1, (o_w69.2 6 (by decide)).trans q34.2.2.2.1, (o_w75.2 7 (by decide)).trans q37.2.2.2.1, (o_w81.2 8 (by decide)).trans q40.2.2.2.1, (o_w87.2 9 (by decide)).trans q43.2.2.2.1, (o_w93.2 11 (by decide)).trans q46.2.2.2.1, (o_w99.2 12 (by decide)).trans q49.2.2.2.1, (o_w105.2 13 (by decide)).trans q52.2.2.2.1⟩
  · exact ⟨((g_w27 26 (by decide) (by decide)).1).trans q13.2.1, (wl_s g_w27 (by decide) (by decide)).trans (congrArg (fun z : Nat => (z : Int)) q13.2.2.1), ((g_w67 39 (by decide) (by decide)).1).trans q33.2.1, (wl_s g_w67 (by decide) (by decide)).trans (congrArg (fun z : Nat => (z : Int)) q33.2.2.1), shTape_s q1.2.2.2.1 (sm_le g_w3 (by decide) (by decide)), shSetup_s q5.2.1 (sm_le g_w11 (by decide) (by decide)), shSetup_s q8.2.1 (sm_le g_w17 (by decide) (by decide)), shCalls_s q11.2.1 (sm_le g_w23 (by decide) (by decide)), (wl_s g_w23 (by decide) (by decide)).trans q11.2.2.1, shCalls_s q45.2.1 (sm_le g_w91 (by decide) (by decide)), (wl_s g_w91 (by decide) (by decide)).trans q45.2.2.1, six ⟨shWakes_s q16.2.1 (sm_le g_w33 (by decide) (by decide)), (wl_s g_w33 (by decide) (by decide)).trans q16.2.2⟩ ⟨shWakes_s q19.2.1 (sm_le g_w39 (by decide) (by decide)), (wl_s g_w39 (by decide) (by decide)).trans q19.2.2⟩ ⟨shWakes_s q22.2.1 (sm_le g_w45 (by decide) (by decide)), (wl_s g_w45 (by decide) (by decide)).trans q22.2.2⟩ ⟨shWakes_s q25.2.1 (sm_le g_w51 (by decide) (by decide)), (wl_s g_w51 (by decide) (by decide)).trans q25.2.2⟩ ⟨shWakes_s q28.2.1 (sm_le g_w57 (by decide) (by decide)), (wl_s g_w57 (by decide) (by decide)).trans q28.2.2⟩ ⟨shWakes_s q31.2.1 (sm_le g_w63 (by decide) (by decide)), (wl_s g_w63 (by decide) (by decide)).trans q31.2.2⟩, shWakes_s q48.2.1 (sm_le g_w97 (by decide) (by decide)), (wl_s g_w97 (by decide) (by decide)).trans q48.2.2, shPlan_s q36.2 (sm_le g_w73 (by decide) (by decide)), shHand_s q39.2.1 (sm_le g_w79 (by decide) (by decide)), shRound_s q42.2 (sm_le g_w85 (by decide) (by decide)), shRound_s q51.2 (sm_le g_w103 (by decide) (by decide))⟩
  · exact ⟨y_1_2, y_1_3, y_1_10, (k_h3 2 1 (by decide) (by decide)).trans q1.2.2.2.2.1, (k_h3 2 2 (by decide) (by decide)).trans q1.2.2.2.2.2.1, (k_h3 3 1 (by decide) (by decide)).trans q1.2.2.2.2.2.2, (k_h11 5 4 (by decide) (by decide)).trans q5.2.2.1, (k_h11 5 8 (by decide) (by decide)).trans q5.2.2.2.1, (k_h11 5 9 (by decide) (by decide)).trans q5.2.2.2.2.1, (k_h11 5 10 (by decide) (by decide)).trans q5.2.2.2.2.2.1, (k_h11 5 11 (by decide) (by decide)).trans q5.2.2.2.2.2.2, (k_h23 21 4 (by decide) (by decide)).trans q11.2.2.2, (k_h91 55 4 (by decide) (by decide)).trans q45.2.2.2, six2 y_26_0 y_26_1 y_26_2 y_26_3 y_26_4 y_26_5, fun i => (k_h67 39 i (by decide) (by decide)).trans (q33.2.2.2.2.1 i), (k_h79 44 2 (by decide) (by decide)).trans q39.2.2.1.1, (k_h79 44 3 (by decide) (by decide)).trans q39.2.2.1.2.1, (k_h79 44 4 (by decide) (by decide)).trans q39.2.2.1.2.2.1, (k_h79 44 5 (by decide) (by decide)).trans q39.2.2.1.2.2.2.1, (k_h79 44 6 (by decide) (by decide)).trans q39.2.2.1.2.2.2.2.1, (k_h79 44 7 (by decide) (by decide)).trans q39.2.2.1.2.2.2.2.2.1, (k_h79 44 8 (by decide) (by decide)).trans q39.2.2.1.2.2.2.2.2.2.1, (k_h79 44 9 (by decide) (by decide)).trans q39.2.2.1.2.2.2.2.2.2.2.1, (k_h79 44 10 (by decide) (by decide)).trans q39.2.2.1.2.2.2.2.2.2.2.2, (k_h79 45 4 (by decide) (by decide)).trans q39.2.2.2⟩
