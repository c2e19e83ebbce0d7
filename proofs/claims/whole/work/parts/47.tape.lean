/-! ===== WakeSaver$Tape ===== -/
theorem e_X6_size {w : WS} {h : AH} {Q : Int → AH → Prop} {a0 : Int} (X : XI mX6_size 0 [some (vR a0)] [] w h Q) : CI mX6_size [vR a0] w h Q := CA.of (M := mX6_size) (by decide) rfl (Nat.le_of_ble_eq_true rfl) X
set_option maxRecDepth 20000 in
theorem r_X6_size_0 {w : WS} {h : AH} {Q : Int → AH → Prop} {a0 : Int} (V : (wt w a0 = 16 ∧ Q (h a0 1) h)) : XI mX6_size 0 [some (vR a0)] [] w h Q := by
  refine s_aload_n (pc' := 1) (x := a0) dX6_size_0 rfl rfl ?_
  obtain ⟨z1, V⟩ := V
  refine s_get (pc' := 4) (v := vI (h a0 1)) (kc := 6) (i := 1) dX6_size_1 clX6 (by decide) fl_6_1 z1 (fun _ => rfl) rfl ?_
  exact s_iret dX6_size_4 rfl ⟨_, rfl, rfl, V⟩
