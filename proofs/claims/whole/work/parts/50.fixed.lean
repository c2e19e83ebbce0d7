/-! ===== the shape of the world: x 1, reader 2, tape 3, setups 5 and 13, calls 21, plans 26 (27, 29 .. 37), planned 39, planner 40, by hand 44, for ever 52, others 55, 60, 62; the reference 65, its rows 66 .. 82 ===== -/
def shA0 (w : WS) : Prop := wt w 2 = 13 ∧ wt w 1 = 18 ∧ wt w 65 = 19 ∧ wf w 2 0 = 3 ∧ wf w 1 0 = 3 ∧ wf w 1 1 = 2 ∧ wf w 1 4 = 21 ∧ wf w 1 5 = 26 ∧ wf w 1 6 = 39 ∧ wf w 1 7 = 40
def shA1 (w : WS) : Prop := wf w 1 8 = 44 ∧ wf w 1 9 = 52 ∧ wf w 1 11 = 55 ∧ wf w 1 12 = 60 ∧ wf w 1 13 = 62 ∧ wf w 65 0 = 66 ∧ wf w 65 1 = 67 ∧ wf w 65 2 = 68 ∧ wf w 65 6 = 69 ∧ wf w 65 7 = 70
def shA2 (w : WS) : Prop := wf w 65 8 = 71 ∧ wf w 65 9 = 72 ∧ wf w 65 11 = 73 ∧ wf w 65 13 = 74 ∧ wf w 65 14 = 75 ∧ wf w 65 15 = 76 ∧ wf w 65 16 = 77 ∧ wf w 65 17 = 78 ∧ wf w 65 18 = 79 ∧ wf w 65 19 = 80
def shA3 (w : WS) : Prop := wf w 65 28 = 81 ∧ wf w 65 29 = 82 ∧ wt w 26 = 5 ∧ wl w 26 = 6 ∧ wt w 39 = 3 ∧ wl w 39 = 6 ∧ wt w 66 = 1 ∧ wl w 66 = 202 ∧ wt w 67 = 1 ∧ wl w 67 = 600
def shA4 (w : WS) : Prop := wt w 68 = 4 ∧ wl w 68 = 16 ∧ wt w 69 = 1 ∧ wl w 69 = 300 ∧ wt w 70 = 1 ∧ wl w 70 = 300 ∧ wt w 71 = 1 ∧ wl w 71 = 300 ∧ wt w 72 = 1 ∧ wl w 72 = 300
def shA5 (w : WS) : Prop := wt w 73 = 1 ∧ wl w 73 = 302 ∧ wt w 74 = 4 ∧ wl w 74 = 302 ∧ wt w 75 = 1 ∧ wl w 75 = 302 ∧ wt w 76 = 1 ∧ wl w 76 = 302 ∧ wt w 77 = 1 ∧ wl w 77 = 300
def shA6 (w : WS) : Prop := wt w 78 = 1 ∧ wl w 78 = 300 ∧ wt w 79 = 1 ∧ wl w 79 = 300 ∧ wt w 80 = 1 ∧ wl w 80 = 300 ∧ wt w 81 = 1 ∧ wl w 81 = 400 ∧ wt w 82 = 1 ∧ wl w 82 = 400
def shA7 (w : WS) : Prop := wt w (-2) = 7 ∧ wl w (-2) = 9 ∧ shTape w 3 ∧ shSetup w 5 ∧ shSetup w 13 ∧ shCalls w 21 ∧ wl w 22 = 200 ∧ shCalls w 55 ∧ wl w 56 = 200 ∧ (∀ p : Int, 0 ≤ p → p < 6 → shWakes w (27 + 2 * p) ∧ wl w (28 + 2 * p) = 200)
def shA8 (w : WS) : Prop := shWakes w 60 ∧ wl w 61 = 200 ∧ shPlan w 40 ∧ shHand w 44 ∧ shRound w 52 ∧ shRound w 62
def shA (w : WS) : Prop := shA0 w ∧ shA1 w ∧ shA2 w ∧ shA3 w ∧ shA4 w ∧ shA5 w ∧ shA6 w ∧ shA7 w ∧ shA8 w
theorem fa_t2 {w : WS} (s : shA w) : wt w 2 = 13 := s.1.1
theorem fa_t1 {w : WS} (s : shA w) : wt w 1 = 18 := s.1.2.1
theorem fa_t65 {w : WS} (s : shA w) : wt w 65 = 19 := s.1.2.2.1
theorem fa_f3_0 {w : WS} (s : shA w) : wf w 2 0 = 3 := s.1.2.2.2.1
theorem fa_f8_0 {w : WS} (s : shA w) : wf w 1 0 = 3 := s.1.2.2.2.2.1
theorem fa_f8_1 {w : WS} (s : shA w) : wf w 1 1 = 2 := s.1.2.2.2.2.2.1
theorem fa_f8_4 {w : WS} (s : shA w) : wf w 1 4 = 21 := s.1.2.2.2.2.2.2.1
theorem fa_f8_5 {w : WS} (s : shA w) : wf w 1 5 = 26 := s.1.2.2.2.2.2.2.2.1
theorem fa_f8_6 {w : WS} (s : shA w) : wf w 1 6 = 39 := s.1.2.2.2.2.2.2.2.2.1
theorem fa_f8_7 {w : WS} (s : shA w) : wf w 1 7 = 40 := s.1.2.2.2.2.2.2.2.2.2
theorem fa_f8_8 {w : WS} (s : shA w) : wf w 1 8 = 44 := s.2.1.1
theorem fa_f8_9 {w : WS} (s : shA w) : wf w 1 9 = 52 := s.2.1.2.1
theorem fa_f8_11 {w : WS} (s : shA w) : wf w 1 11 = 55 := s.2.1.2.2.1
theorem fa_f8_12 {w : WS} (s : shA w) : wf w 1 12 = 60 := s.2.1.2.2.2.1
theorem fa_f8_13 {w : WS} (s : shA w) : wf w 1 13 = 62 := s.2.1.2.2.2.2.1
theorem fa_f9_0 {w : WS} (s : shA w) : wf w 65 0 = 66 := s.2.1.2.2.2.2.2.1
theorem fa_f9_1 {w : WS} (s : shA w) : wf w 65 1 = 67 := s.2.1.2.2.2.2.2.2.1
theorem fa_f9_2 {w : WS} (s : shA w) : wf w 65 2 = 68 := s.2.1.2.2.2.2.2.2.2.1
theorem fa_f9_6 {w : WS} (s : shA w) : wf w 65 6 = 69 := s.2.1.2.2.2.2.2.2.2.2.1
theorem fa_f9_7 {w : WS} (s : shA w) : wf w 65 7 = 70 := s.2.1.2.2.2.2.2.2.2.2.2
theorem fa_f9_8 {w : WS} (s : shA w) : wf w 65 8 = 71 := s.2.2.1.1
theorem fa_f9_9 {w : WS} (s : shA w) : wf w 65 9 = 72 := s.2.2.1.2.1
theorem fa_f9_11 {w : WS} (s : shA w) : wf w 65 11 = 73 := s.2.2.1.2.2.1
theorem fa_f9_13 {w : WS} (s : shA w) : wf w 65 13 = 74 := s.2.2.1.2.2.2.1
theorem fa_f9_14 {w : WS} (s : shA w) : wf w 65 14 = 75 := s.2.2.1.2.2.2.2.1
theorem fa_f9_15 {w : WS} (s : shA w) : wf w 65 15 = 76 := s.2.2.1.2.2.2.2.2.1
theorem fa_f9_16 {w : WS} (s : shA w) : wf w 65 16 = 77 := s.2.2.1.2.2.2.2.2.2.1
theorem fa_f9_17 {w : WS} (s : shA w) : wf w 65 17 = 78 := s.2.2.1.2.2.2.2.2.2.2.1
theorem fa_f9_18 {w : WS} (s : shA w) : wf w 65 18 = 79 := s.2.2.1.2.2.2.2.2.2.2.2.1
theorem fa_f9_19 {w : WS} (s : shA w) : wf w 65 19 = 80 := s.2.2.1.2.2.2.2.2.2.2.2.2
theorem fa_f9_28 {w : WS} (s : shA w) : wf w 65 28 = 81 := s.2.2.2.1.1
theorem fa_f9_29 {w : WS} (s : shA w) : wf w 65 29 = 82 := s.2.2.2.1.2.1
theorem fa_t26 {w : WS} (s : shA w) : wt w 26 = 5 := s.2.2.2.1.2.2.1
theorem fa_l26 {w : WS} (s : shA w) : wl w 26 = 6 := s.2.2.2.1.2.2.2.1
theorem fa_t39 {w : WS} (s : shA w) : wt w 39 = 3 := s.2.2.2.1.2.2.2.2.1
theorem fa_l39 {w : WS} (s : shA w) : wl w 39 = 6 := s.2.2.2.1.2.2.2.2.2.1
theorem fa_t66 {w : WS} (s : shA w) : wt w 66 = 1 := s.2.2.2.1.2.2.2.2.2.2.1
theorem fa_l66 {w : WS} (s : shA w) : wl w 66 = 202 := s.2.2.2.1.2.2.2.2.2.2.2.1
theorem fa_t67 {w : WS} (s : shA w) : wt w 67 = 1 := s.2.2.2.1.2.2.2.2.2.2.2.2.1
theorem fa_l67 {w : WS} (s : shA w) : wl w 67 = 600 := s.2.2.2.1.2.2.2.2.2.2.2.2.2
theorem fa_t68 {w : WS} (s : shA w) : wt w 68 = 4 := s.2.2.2.2.1.1
theorem fa_l68 {w : WS} (s : shA w) : wl w 68 = 16 := s.2.2.2.2.1.2.1
theorem fa_t69 {w : WS} (s : shA w) : wt w 69 = 1 := s.2.2.2.2.1.2.2.1
theorem fa_l69 {w : WS} (s : shA w) : wl w 69 = 300 := s.2.2.2.2.1.2.2.2.1
theorem fa_t70 {w : WS} (s : shA w) : wt w 70 = 1 := s.2.2.2.2.1.2.2.2.2.1
theorem fa_l70 {w : WS} (s : shA w) : wl w 70 = 300 := s.2.2.2.2.1.2.2.2.2.2.1
theorem fa_t71 {w : WS} (s : shA w) : wt w 71 = 1 := s.2.2.2.2.1.2.2.2.2.2.2.1
theorem fa_l71 {w : WS} (s : shA w) : wl w 71 = 300 := s.2.2.2.2.1.2.2.2.2.2.2.2.1
theorem fa_t72 {w : WS} (s : shA w) : wt w 72 = 1 := s.2.2.2.2.1.2.2.2.2.2.2.2.2.1
theorem fa_l72 {w : WS} (s : shA w) : wl w 72 = 300 := s.2.2.2.2.1.2.2.2.2.2.2.2.2.2
theorem fa_t73 {w : WS} (s : shA w) : wt w 73 = 1 := s.2.2.2.2.2.1.1
theorem fa_l73 {w : WS} (s : shA w) : wl w 73 = 302 := s.2.2.2.2.2.1.2.1
theorem fa_t74 {w : WS} (s : shA w) : wt w 74 = 4 := s.2.2.2.2.2.1.2.2.1
theorem fa_l74 {w : WS} (s : shA w) : wl w 74 = 302 := s.2.2.2.2.2.1.2.2.2.1
theorem fa_t75 {w : WS} (s : shA w) : wt w 75 = 1 := s.2.2.2.2.2.1.2.2.2.2.1
theorem fa_l75 {w : WS} (s : shA w) : wl w 75 = 302 := s.2.2.2.2.2.1.2.2.2.2.2.1
theorem fa_t76 {w : WS} (s : shA w) : wt w 76 = 1 := s.2.2.2.2.2.1.2.2.2.2.2.2.1
theorem fa_l76 {w : WS} (s : shA w) : wl w 76 = 302 := s.2.2.2.2.2.1.2.2.2.2.2.2.2.1
theorem fa_t77 {w : WS} (s : shA w) : wt w 77 = 1 := s.2.2.2.2.2.1.2.2.2.2.2.2.2.2.1
theorem fa_l77 {w : WS} (s : shA w) : wl w 77 = 300 := s.2.2.2.2.2.1.2.2.2.2.2.2.2.2.2
theorem fa_t78 {w : WS} (s : shA w) : wt w 78 = 1 := s.2.2.2.2.2.2.1.1
theorem fa_l78 {w : WS} (s : shA w) : wl w 78 = 300 := s.2.2.2.2.2.2.1.2.1
theorem fa_t79 {w : WS} (s : shA w) : wt w 79 = 1 := s.2.2.2.2.2.2.1.2.2.1
theorem fa_l79 {w : WS} (s : shA w) : wl w 79 = 300 := s.2.2.2.2.2.2.1.2.2.2.1
theorem fa_t80 {w : WS} (s : shA w) : wt w 80 = 1 := s.2.2.2.2.2.2.1.2.2.2.2.1
theorem fa_l80 {w : WS} (s : shA w) : wl w 80 = 300 := s.2.2.2.2.2.2.1.2.2.2.2.2.1
theorem fa_t81 {w : WS} (s : shA w) : wt w 81 = 1 := s.2.2.2.2.2.2.1.2.2.2.2.2.2.1
theorem fa_l81 {w : WS} (s : shA w) : wl w 81 = 400 := s.2.2.2.2.2.2.1.2.2.2.2.2.2.2.1
theorem fa_t82 {w : WS} (s : shA w) : wt w 82 = 1 := s.2.2.2.2.2.2.1.2.2.2.2.2.2.2.2.1
theorem fa_l82 {w : WS} (s : shA w) : wl w 82 = 400 := s.2.2.2.2.2.2.1.2.2.2.2.2.2.2.2.2
theorem fa_tQ {w : WS} (s : shA w) : wt w (-2) = 7 := s.2.2.2.2.2.2.2.1.1
theorem fa_lQ {w : WS} (s : shA w) : wl w (-2) = 9 := s.2.2.2.2.2.2.2.1.2.1
theorem fa_tape {w : WS} (s : shA w) : shTape w 3 := s.2.2.2.2.2.2.2.1.2.2.1
theorem fa_setup5 {w : WS} (s : shA w) : shSetup w 5 := s.2.2.2.2.2.2.2.1.2.2.2.1
theorem fa_setup13 {w : WS} (s : shA w) : shSetup w 13 := s.2.2.2.2.2.2.2.1.2.2.2.2.1
theorem fa_calls21 {w : WS} (s : shA w) : shCalls w 21 := s.2.2.2.2.2.2.2.1.2.2.2.2.2.1
theorem fa_cl21 {w : WS} (s : shA w) : wl w 22 = 200 := s.2.2.2.2.2.2.2.1.2.2.2.2.2.2.1
theorem fa_calls55 {w : WS} (s : shA w) : shCalls w 55 := s.2.2.2.2.2.2.2.1.2.2.2.2.2.2.2.1
theorem fa_cl55 {w : WS} (s : shA w) : wl w 56 = 200 := s.2.2.2.2.2.2.2.1.2.2.2.2.2.2.2.2.1
theorem fa_plans {w : WS} (s : shA w) : (∀ p : Int, 0 ≤ p → p < 6 → shWakes w (27 + 2 * p) ∧ wl w (28 + 2 * p) = 200) := s.2.2.2.2.2.2.2.1.2.2.2.2.2.2.2.2.2
theorem fa_wakes60 {w : WS} (s : shA w) : shWakes w 60 := s.2.2.2.2.2.2.2.2.1
theorem fa_wl60 {w : WS} (s : shA w) : wl w 61 = 200 := s.2.2.2.2.2.2.2.2.2.1
theorem fa_plan {w : WS} (s : shA w) : shPlan w 40 := s.2.2.2.2.2.2.2.2.2.2.1
theorem fa_hand {w : WS} (s : shA w) : shHand w 44 := s.2.2.2.2.2.2.2.2.2.2.2.1
theorem fa_round52 {w : WS} (s : shA w) : shRound w 52 := s.2.2.2.2.2.2.2.2.2.2.2.2.1
theorem fa_round62 {w : WS} (s : shA w) : shRound w 62 := s.2.2.2.2.2.2.2.2.2.2.2.2.2
theorem fa_lt26 {w : WS} {i : Int} (s : shA w) (h : i < 6) : i < wl w 26 := by rw [fa_l26 s]; exact h
theorem fa_lt39 {w : WS} {i : Int} (s : shA w) (h : i < 6) : i < wl w 39 := by rw [fa_l39 s]; exact h
theorem fa_lt66 {w : WS} {i : Int} (s : shA w) (h : i < 202) : i < wl w 66 := by rw [fa_l66 s]; exact h
theorem fa_lt67 {w : WS} {i : Int} (s : shA w) (h : i < 600) : i < wl w 67 := by rw [fa_l67 s]; exact h
theorem fa_lt68 {w : WS} {i : Int} (s : shA w) (h : i < 16) : i < wl w 68 := by rw [fa_l68 s]; exact h
theorem fa_lt69 {w : WS} {i : Int} (s : shA w) (h : i < 300) : i < wl w 69 := by rw [fa_l69 s]; exact h
theorem fa_lt70 {w : WS} {i : Int} (s : shA w) (h : i < 300) : i < wl w 70 := by rw [fa_l70 s]; exact h
theorem fa_lt71 {w : WS} {i : Int} (s : shA w) (h : i < 300) : i < wl w 71 := by rw [fa_l71 s]; exact h
theorem fa_lt72 {w : WS} {i : Int} (s : shA w) (h : i < 300) : i < wl w 72 := by rw [fa_l72 s]; exact h
theorem fa_lt73 {w : WS} {i : Int} (s : shA w) (h : i < 302) : i < wl w 73 := by rw [fa_l73 s]; exact h
theorem fa_lt74 {w : WS} {i : Int} (s : shA w) (h : i < 302) : i < wl w 74 := by rw [fa_l74 s]; exact h
theorem fa_lt75 {w : WS} {i : Int} (s : shA w) (h : i < 302) : i < wl w 75 := by rw [fa_l75 s]; exact h
theorem fa_lt76 {w : WS} {i : Int} (s : shA w) (h : i < 302) : i < wl w 76 := by rw [fa_l76 s]; exact h
theorem fa_lt77 {w : WS} {i : Int} (s : shA w) (h : i < 300) : i < wl w 77 := by rw [fa_l77 s]; exact h
theorem fa_lt78 {w : WS} {i : Int} (s : shA w) (h : i < 300) : i < wl w 78 := by rw [fa_l78 s]; exact h
theorem fa_lt79 {w : WS} {i : Int} (s : shA w) (h : i < 300) : i < wl w 79 := by rw [fa_l79 s]; exact h
theorem fa_lt80 {w : WS} {i : Int} (s : shA w) (h : i < 300) : i < wl w 80 := by rw [fa_l80 s]; exact h
theorem fa_lt81 {w : WS} {i : Int} (s : shA w) (h : i < 400) : i < wl w 81 := by rw [fa_l81 s]; exact h
theorem fa_lt82 {w : WS} {i : Int} (s : shA w) (h : i < 400) : i < wl w 82 := by rw [fa_l82 s]; exact h
theorem fa_ltQ {w : WS} {i : Int} (s : shA w) (h : i < 9) : i < wl w (-2) := by rw [fa_lQ s]; exact h
section
variable {M : MI} {pc pc' : Nat} {ls ls' : List (Option AV)} {sk : List AV} {w : WS} {h : AH} {k n : Nat} {Q : Option AV → WS → AH → Prop}
theorem s_getF {kc i N idx : Nat} {a b : Int} (hd : decode (mC M) pc = .ok (.getfield idx, 3)) (hc : clsI kc (mO M) N) (hi : i < N) (hl : Cond.fieldLink (mO M) idx (TC kc i).1 (TC kc i).2.1 (TC kc i).2.2.1 ∈ lw_g) (ha : wt w a = 10 + kc) (hb : wf w a i = b) (hv : ∀ E, fv E w h kc a i = tr E (vR (wf w a i))) (hp : pc + 3 = pc') (K : XA M pc' ls (vR b :: sk) w h k n Q) : XA M pc ls (vR a :: sk) w h k n Q :=
  s_get hd hc hi hl ha (v := vR b) (fun E => by rw [hv E, hb]) hp K
end
