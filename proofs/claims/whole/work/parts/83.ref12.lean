theorem e_X9_byteAt {w : WS} {h : AH} {Q : Int → AH → Prop} {a1 : Int} (X : XI mX9_byteAt 0 [some (vR 65), some (vI a1)] [] w h Q) : CI mX9_byteAt [vR 65, vI a1] w h Q := CA.of (M := mX9_byteAt) (by decide) rfl (Nat.le_of_ble_eq_true rfl) X
set_option maxRecDepth 20000 in
theorem r_X9_byteAt_0 {w : WS} {h : AH} {Q : Int → AH → Prop} {a1 : Int} (sA : shA w) (V : (inR a1 ∧ inR (h 65 33) ∧ (((h 65 33) ≤ a1 → Q (-1) h) ∧ (¬ (h 65 33) ≤ a1 → (0 ≤ a1 ∧ a1 < 600 ∧ Q (h 67 a1) h))))) : XI mX9_byteAt 0 [some (vR 65), some (vI a1)] [] w h Q := by
  refine s_iload_n (pc' := 1) (x := a1) dX9_byteAt_0 rfl rfl ?_
  refine s_aload_n (pc' := 2) (x := 65) dX9_byteAt_1 rfl rfl ?_
  refine s_get (pc' := 5) (v := vI (h 65 33)) (kc := 9) (i := 33) dX9_byteAt_2 clX9 (by decide) fl_9_33 (fa_t65 sA) (fun _ => rfl) rfl ?_
  obtain ⟨z1, z2, V⟩ := V
  obtain ⟨V5, V6⟩ := V
  refine s_icmp_ge (pc' := 8) (tgt := 17) dX9_byteAt_5 rfl rfl z1 z2 (fun c => ?_) (fun c => ?_)
  · have V := V5 c
    refine s_iconst (pc' := 18) dX9_byteAt_17 rfl ?_
    exact s_iret dX9_byteAt_18 rfl ⟨_, rfl, rfl, V⟩
  · have V := V6 c
    refine s_aload_n (pc' := 9) (x := 65) dX9_byteAt_8 rfl rfl ?_
    refine s_getF (pc' := 12) (b := 67) (kc := 9) (i := 1) dX9_byteAt_9 clX9 (by decide) fl_9_1 (fa_t65 sA) (fa_f9_1 sA) (fun _ => rfl) rfl ?_
    refine s_iload_n (pc' := 13) (x := a1) dX9_byteAt_12 rfl rfl ?_
    obtain ⟨z3, z4, V⟩ := V
    refine s_iald (pc' := 14) dX9_byteAt_13 (fa_t67 sA) z3 (fa_lt67 sA z4) rfl ?_
    refine s_goto (tgt := 18) dX9_byteAt_14 rfl ?_
    exact s_iret dX9_byteAt_18 rfl ⟨_, rfl, rfl, V⟩
theorem e_X9_isLetter {w : WS} {h : AH} {Q : Int → AH → Prop} {a0 : Int} (X : XI mX9_isLetter 0 [some (vI a0)] [] w h Q) : CI mX9_isLetter [vI a0] w h Q := CA.of (M := mX9_isLetter) (by decide) rfl (Nat.le_of_ble_eq_true rfl) X
set_option maxRecDepth 20000 in
theorem r_X9_isLetter_0 {w : WS} {h : AH} {Q : Int → AH → Prop} {a0 : Int} (sA : shA w) (V : (inR a0 ∧ ((a0 < 97 → Q 0 h) ∧ (¬ a0 < 97 → ((122 < a0 → Q 0 h) ∧ (¬ 122 < a0 → Q 1 h)))))) : XI mX9_isLetter 0 [some (vI a0)] [] w h Q := by
  refine s_iload_n (pc' := 1) (x := a0) dX9_isLetter_0 rfl rfl ?_
  refine s_bipush (pc' := 3) dX9_isLetter_1 (by decide) rfl ?_
  obtain ⟨z1, V⟩ := V
  obtain ⟨V4, V5⟩ := V
  refine s_icmp_lt (pc' := 6) (tgt := 16) dX9_isLetter_3 rfl rfl z1 (by decide) (fun c => ?_) (fun c => ?_)
  · have V := V4 c
    refine s_iconst (pc' := 17) dX9_isLetter_16 rfl ?_
    exact s_zret dX9_isLetter_17 rfl (by decide) ⟨_, rfl, rfl, V⟩
  · have V := V5 c
    refine s_iload_n (pc' := 7) (x := a0) dX9_isLetter_6 rfl rfl ?_
    refine s_bipush (pc' := 9) dX9_isLetter_7 (by decide) rfl ?_
    obtain ⟨V2, V3⟩ := V
    refine s_icmp_gt (pc' := 12) (tgt := 16) dX9_isLetter_9 rfl rfl z1 (by decide) (fun c => ?_) (fun c => ?_)
    · have V := V2 c
      refine s_iconst (pc' := 17) dX9_isLetter_16 rfl ?_
      exact s_zret dX9_isLetter_17 rfl (by decide) ⟨_, rfl, rfl, V⟩
    · have V := V3 c
      refine s_iconst (pc' := 13) dX9_isLetter_12 rfl ?_
      refine s_goto (tgt := 17) dX9_isLetter_13 rfl ?_
      exact s_zret dX9_isLetter_17 rfl (by decide) ⟨_, rfl, rfl, V⟩
theorem e_X9_isDigit {w : WS} {h : AH} {Q : Int → AH → Prop} {a0 : Int} (X : XI mX9_isDigit 0 [some (vI a0)] [] w h Q) : CI mX9_isDigit [vI a0] w h Q := CA.of (M := mX9_isDigit) (by decide) rfl (Nat.le_of_ble_eq_true rfl) X
set_option maxRecDepth 20000 in
theorem r_X9_isDigit_0 {w : WS} {h : AH} {Q : Int → AH → Prop} {a0 : Int} (sA : shA w) (V : (inR a0 ∧ ((a0 < 48 → Q 0 h) ∧ (¬ a0 < 48 → ((57 < a0 → Q 0 h) ∧ (¬ 57 < a0 → Q 1 h)))))) : XI mX9_isDigit 0 [some (vI a0)] [] w h Q := by
  refine s_iload_n (pc' := 1) (x := a0) dX9_isDigit_0 rfl rfl ?_
  refine s_bipush (pc' := 3) dX9_isDigit_1 (by decide) rfl ?_
  obtain ⟨z1, V⟩ := V
  obtain ⟨V4, V5⟩ := V
  refine s_icmp_lt (pc' := 6) (tgt := 16) dX9_isDigit_3 rfl rfl z1 (by decide) (fun c => ?_) (fun c => ?_)
  · have V := V4 c
    refine s_iconst (pc' := 17) dX9_isDigit_16 rfl ?_
    exact s_zret dX9_isDigit_17 rfl (by decide) ⟨_, rfl, rfl, V⟩
  · have V := V5 c
    refine s_iload_n (pc' := 7) (x := a0) dX9_isDigit_6 rfl rfl ?_
    refine s_bipush (pc' := 9) dX9_isDigit_7 (by decide) rfl ?_
    obtain ⟨V2, V3⟩ := V
    refine s_icmp_gt (pc' := 12) (tgt := 16) dX9_isDigit_9 rfl rfl z1 (by decide) (fun c => ?_) (fun c => ?_)
    · have V := V2 c
      refine s_iconst (pc' := 17) dX9_isDigit_16 rfl ?_
      exact s_zret dX9_isDigit_17 rfl (by decide) ⟨_, rfl, rfl, V⟩
    · have V := V3 c
      refine s_iconst (pc' := 13) dX9_isDigit_12 rfl ?_
      refine s_goto (tgt := 17) dX9_isDigit_13 rfl ?_
      exact s_zret dX9_isDigit_17 rfl (by decide) ⟨_, rfl, rfl, V⟩
theorem e_X9_fails {w : WS} {h : AH} {Q : AH → Prop} {a1 a2 : Int} (X : XV mX9_fails 0 [some (vR 65), some (vI a1), some (vI a2)] [] w h Q) : CV mX9_fails [vR 65, vI a1, vI a2] w h Q := CA.of (M := mX9_fails) (by decide) rfl (Nat.le_of_ble_eq_true rfl) X
set_option maxRecDepth 20000 in
theorem r_X9_fails_0 {w : WS} {h : AH} {Q : AH → Prop} {a1 a2 : Int} (sA : shA w) (V : (inR (h 65 4) ∧ (((h 65 4) ≤ 0 → (∀ h2, h2 = st h 65 4 a1 → (∀ h4, h4 = st h2 65 5 a2 → Q h4))) ∧ (¬ (h 65 4) ≤ 0 → Q h)))) : XV mX9_fails 0 [some (vR 65), some (vI a1), some (vI a2)] [] w h Q := by
  refine s_aload_n (pc' := 1) (x := 65) dX9_fails_0 rfl rfl ?_
  refine s_get (pc' := 4) (v := vI (h 65 4)) (kc := 9) (i := 4) dX9_fails_1 clX9 (by decide) fl_9_4 (fa_t65 sA) (fun _ => rfl) rfl ?_
  obtain ⟨z1, V⟩ := V
  obtain ⟨V6, V7⟩ := V
  refine s_if_le (pc' := 7) (tgt := 8) dX9_fails_4 rfl rfl z1 (fun c => ?_) (fun c => ?_)
  · have V := V6 c
    refine s_aload_n (pc' := 9) (x := 65) dX9_fails_8 rfl rfl ?_
    refine s_iload_n (pc' := 10) (x := a1) dX9_fails_9 rfl rfl ?_
    refine s_put (pc' := 13) (v := vI a1) (x := a1) (kc := 9) (i := 4) dX9_fails_10 clX9 (by decide) fl_9_4 rfl (fa_t65 sA) (fun E => nar_int E _) (fun _ _ => rfl) (j0 := 4) rfl rfl ?_
    obtain ⟨h2, e3⟩ : ∃ q, q = st h 65 4 a1 := ⟨_, rfl⟩
    rw [← e3]
    have V := V h2 e3
    refine s_aload_n (pc' := 14) (x := 65) dX9_fails_13 rfl rfl ?_
    refine s_iload_n (pc' := 15) (x := a2) dX9_fails_14 rfl rfl ?_
    refine s_put (pc' := 18) (v := vI a2) (x := a2) (kc := 9) (i := 5) dX9_fails_15 clX9 (by decide) fl_9_5 rfl (fa_t65 sA) (fun E => nar_int E _) (fun _ _ => rfl) (j0 := 5) rfl rfl ?_
    obtain ⟨h4, e5⟩ : ∃ q, q = st h2 65 5 a2 := ⟨_, rfl⟩
    rw [← e5]
    have V := V h4 e5
    exact s_vret dX9_fails_18 rfl ⟨rfl, rfl, V⟩
  · have V := V7 c
    exact s_vret dX9_fails_7 rfl ⟨rfl, rfl, V⟩
theorem e_X9_isGood {w : WS} {h : AH} {Q : Int → AH → Prop} (X : XI mX9_isGood 0 [some (vR 65)] [] w h Q) : CI mX9_isGood [vR 65] w h Q := CA.of (M := mX9_isGood) (by decide) rfl (Nat.le_of_ble_eq_true rfl) X
set_option maxRecDepth 20000 in
theorem r_X9_isGood_0 {w : WS} {h : AH} {Q : Int → AH → Prop} (sA : shA w) (V : (inR (h 65 4) ∧ ((¬ (h 65 4) = 0 → Q 0 h) ∧ ((h 65 4) = 0 → Q 1 h)))) : XI mX9_isGood 0 [some (vR 65)] [] w h Q := by
  refine s_aload_n (pc' := 1) (x := 65) dX9_isGood_0 rfl rfl ?_
  refine s_get (pc' := 4) (v := vI (h 65 4)) (kc := 9) (i := 4) dX9_isGood_1 clX9 (by decide) fl_9_4 (fa_t65 sA) (fun _ => rfl) rfl ?_
  obtain ⟨z1, V⟩ := V
  obtain ⟨V2, V3⟩ := V
  refine s_if_ne (pc' := 7) (tgt := 11) dX9_isGood_4 rfl rfl z1 (fun c => ?_) (fun c => ?_)
  · have V := V2 c
    refine s_iconst (pc' := 12) dX9_isGood_11 rfl ?_
    exact s_zret dX9_isGood_12 rfl (by decide) ⟨_, rfl, rfl, V⟩
  · have V := V3 c
    refine s_iconst (pc' := 8) dX9_isGood_7 rfl ?_
    refine s_goto (tgt := 12) dX9_isGood_8 rfl ?_
    exact s_zret dX9_isGood_12 rfl (by decide) ⟨_, rfl, rfl, V⟩
theorem e_X9_fault {w : WS} {h : AH} {Q : Int → AH → Prop} {a1 : Int} (X : XI mX9_fault 0 [some (vR 65), some (vI a1)] [] w h Q) : CI mX9_fault [vR 65, vI a1] w h Q := CA.of (M := mX9_fault) (by decide) rfl (Nat.le_of_ble_eq_true rfl) X
set_option maxRecDepth 20000 in
theorem r_X9_fault_0 {w : WS} {h : AH} {Q : Int → AH → Prop} {a1 : Int} (sA : shA w) (V : (inR a1 ∧ ((¬ a1 = 0 → ((¬ a1 = 1 → Q (-1) h) ∧ (a1 = 1 → Q (h 65 5) h))) ∧ (a1 = 0 → Q (h 65 4) h)))) : XI mX9_fault 0 [some (vR 65), some (vI a1)] [] w h Q := by
  refine s_iload_n (pc' := 1) (x := a1) dX9_fault_0 rfl rfl ?_
  obtain ⟨z1, V⟩ := V
  obtain ⟨V4, V5⟩ := V
  refine s_if_ne (pc' := 4) (tgt := 11) dX9_fault_1 rfl rfl z1 (fun c => ?_) (fun c => ?_)
  · have V := V4 c
    refine s_iload_n (pc' := 12) (x := a1) dX9_fault_11 rfl rfl ?_
    refine s_iconst (pc' := 13) dX9_fault_12 rfl ?_
    obtain ⟨V2, V3⟩ := V
    refine s_icmp_ne (pc' := 16) (tgt := 23) dX9_fault_13 rfl rfl z1 (by decide) (fun c => ?_) (fun c => ?_)
    · have V := V2 c
      refine s_iconst (pc' := 24) dX9_fault_23 rfl ?_
      exact s_iret dX9_fault_24 rfl ⟨_, rfl, rfl, V⟩
    · have V := V3 c
      refine s_aload_n (pc' := 17) (x := 65) dX9_fault_16 rfl rfl ?_
      refine s_get (pc' := 20) (v := vI (h 65 5)) (kc := 9) (i := 5) dX9_fault_17 clX9 (by decide) fl_9_5 (fa_t65 sA) (fun _ => rfl) rfl ?_
      refine s_goto (tgt := 24) dX9_fault_20 rfl ?_
      exact s_iret dX9_fault_24 rfl ⟨_, rfl, rfl, V⟩
  · have V := V5 c
    refine s_aload_n (pc' := 5) (x := 65) dX9_fault_4 rfl rfl ?_
    refine s_get (pc' := 8) (v := vI (h 65 4)) (kc := 9) (i := 4) dX9_fault_5 clX9 (by decide) fl_9_4 (fa_t65 sA) (fun _ => rfl) rfl ?_
    refine s_goto (tgt := 24) dX9_fault_8 rfl ?_
    exact s_iret dX9_fault_24 rfl ⟨_, rfl, rfl, V⟩
theorem e_X9_end {w : WS} {h : AH} {Q : Int → AH → Prop} {a1 : Int} (X : XI mX9_end 0 [some (vR 65), some (vI a1)] [] w h Q) : CI mX9_end [vR 65, vI a1] w h Q := CA.of (M := mX9_end) (by decide) rfl (Nat.le_of_ble_eq_true rfl) X
set_option maxRecDepth 20000 in
theorem r_X9_end_0 {w : WS} {h : AH} {Q : Int → AH → Prop} {a1 : Int} (sA : shA w) (V : (inR a1 ∧ inR (h 65 3) ∧ ((((0 : Int) ≤ a1 ∧ a1 ≤ (h 65 3)) → (∀ h3, h3 = st h 65 3 a1 → Q a1 h3)) ∧ (¬ ((0 : Int) ≤ a1 ∧ a1 ≤ (h 65 3)) → Q (-1) h)))) : XI mX9_end 0 [some (vR 65), some (vI a1)] [] w h Q := by
  refine s_iload_n (pc' := 1) (x := a1) dX9_end_0 rfl rfl ?_
  refine s_iconst (pc' := 2) dX9_end_1 rfl ?_
  refine s_aload_n (pc' := 3) (x := 65) dX9_end_2 rfl rfl ?_
  refine s_get (pc' := 6) (v := vI (h 65 3)) (kc := 9) (i := 3) dX9_end_3 clX9 (by decide) fl_9_3 (fa_t65 sA) (fun _ => rfl) rfl ?_
  obtain ⟨z1, z2, V⟩ := V
  refine s_callS (pc' := 9) (av := [vI a1, vI 0, vI (h 65 3)]) (sk := []) dX9_end_6 ml_9_77 okX9_isIn osX9_isIn (by decide) rfl (Nat.le_of_ble_eq_true rfl) (Nat.le_refl 0) (Nat.le_refl 0) rfl (CI.eon (c_X9_isIn sA z1 (by decide) z2) ?_)
  obtain ⟨V5, V6⟩ := V
  refine s_ifne_b (pc' := 12) (tgt := 14) dX9_end_9 rfl rfl (fun c => ?_) (fun c => ?_)
  · have V := V5 c
    refine s_aload_n (pc' := 15) (x := 65) dX9_end_14 rfl rfl ?_
    refine s_iload_n (pc' := 16) (x := a1) dX9_end_15 rfl rfl ?_
    refine s_put (pc' := 19) (v := vI a1) (x := a1) (kc := 9) (i := 3) dX9_end_16 clX9 (by decide) fl_9_3 rfl (fa_t65 sA) (fun E => nar_int E _) (fun _ _ => rfl) (j0 := 3) rfl rfl ?_
    obtain ⟨h3, e4⟩ : ∃ q, q = st h 65 3 a1 := ⟨_, rfl⟩
    rw [← e4]
    have V := V h3 e4
    refine s_iload_n (pc' := 20) (x := a1) dX9_end_19 rfl rfl ?_
    exact s_iret dX9_end_20 rfl ⟨_, rfl, rfl, V⟩
  · have V := V6 c
    refine s_iconst (pc' := 13) dX9_end_12 rfl ?_
    exact s_iret dX9_end_13 rfl ⟨_, rfl, rfl, V⟩
theorem e_X9_feed {w : WS} {h : AH} {Q : Int → AH → Prop} {a1 a2 a3 a4 a5 : Int} (X : XI mX9_feed 0 [some (vR 65), some (vI a1), some (vI a2), some (vI a3), some (vI a4), some (vI a5), none, none] [] w h Q) : CI mX9_feed [vR 65, vI a1, vI a2, vI a3, vI a4, vI a5] w h Q := CA.of (M := mX9_feed) (by decide) rfl (Nat.le_of_ble_eq_true rfl) X
set_option maxRecDepth 20000 in
theorem r_X9_feed_0 {w : WS} {h : AH} {Q : Int → AH → Prop} {a1 a2 a3 a4 a5 : Int} (sA : shA w) (V : (inR ((h 65 3) + 20) ∧ ((((h 65 3) + 20) ≤ 600 → XI mX9_feed 18 [some (vR 65), some (vI a1), some (vI a2), some (vI a3), some (vI a4), some (vI a5), some (vI 0), none] [] w h Q) ∧ (¬ ((h 65 3) + 20) ≤ 600 → Q (-1) h)))) : XI mX9_feed 0 [some (vR 65), some (vI a1), some (vI a2), some (vI a3), some (vI a4), some (vI a5), none, none] [] w h Q := by
  refine s_aload_n (pc' := 1) (x := 65) dX9_feed_0 rfl rfl ?_
  refine s_get (pc' := 4) (v := vI (h 65 3)) (kc := 9) (i := 3) dX9_feed_1 clX9 (by decide) fl_9_3 (fa_t65 sA) (fun _ => rfl) rfl ?_
  refine s_bipush (pc' := 6) dX9_feed_4 (by decide) rfl ?_
  refine s_iadd (pc' := 7) dX9_feed_6 rfl ?_
  refine s_sipush (pc' := 10) dX9_feed_7 (by decide) rfl ?_
  obtain ⟨z1, V⟩ := V
  obtain ⟨V2, V3⟩ := V
  refine s_icmp_le (pc' := 13) (tgt := 15) dX9_feed_10 rfl rfl z1 (by decide) (fun c => ?_) (fun c => ?_)
  · have V := V2 c
    refine s_iconst (pc' := 16) dX9_feed_15 rfl ?_
    refine s_istore (pc' := 18) (ls' := [some (vR 65), some (vI a1), some (vI a2), some (vI a3), some (vI a4), some (vI a5), some (vI 0), none]) dX9_feed_16 (by decide) rfl rfl ?_
    exact V
  · have V := V3 c
    refine s_iconst (pc' := 14) dX9_feed_13 rfl ?_
    exact s_iret dX9_feed_14 rfl ⟨_, rfl, rfl, V⟩
set_option maxRecDepth 20000 in
theorem r_X9_feed_18 {w : WS} {h : AH} {Q : Int → AH → Prop} {a1 a2 a3 a4 a5 a6 : Int} (sA : shA w) (V : (inR a6 ∧ ((20 ≤ a6 → (∀ h2, h2 = st h 65 3 ((h 65 3) + 20) → Q (h2 65 3) h2)) ∧ (¬ 20 ≤ a6 → ((4 ≤ a6 → ((8 ≤ a6 → ((12 ≤ a6 → ((16 ≤ a6 → (0 ≤ ((h 65 3) + a6) ∧ ((h 65 3) + a6) < 600 ∧ (∀ h6, h6 = st h 67 ((h 65 3) + a6) (andZ (shrZ a5 (24 - (8 * (andZ a6 3)))) 255) → XI mX9_feed 18 [some (vR 65), some (vI a1), some (vI a2), some (vI a3), some (vI a4), some (vI a5), some (vI (a6 + 1)), none] [] w h6 Q))) ∧ (¬ 16 ≤ a6 → (0 ≤ ((h 65 3) + a6) ∧ ((h 65 3) + a6) < 600 ∧ (∀ h10, h10 = st h 67 ((h 65 3) + a6) (andZ (shrZ a4 (24 - (8 * (andZ a6 3)))) 255) → XI mX9_feed 18 [some (vR 65), some (vI a1), some (vI a2), some (vI a3), some (vI a4), some (vI a5), some (vI (a6 + 1)), none] [] w h10 Q))))) ∧ (¬ 12 ≤ a6 → (0 ≤ ((h 65 3) + a6) ∧ ((h 65 3) + a6) < 600 ∧ (∀ h16, h16 = st h 67 ((h 65 3) + a6) (andZ (shrZ a3 (24 - (8 * (andZ a6 3)))) 255) → XI mX9_feed 18 [some (vR 65), some (vI a1), some (vI a2), some (vI a3), some (vI a4), some (vI a5), some (vI (a6 + 1)), none] [] w h16 Q))))) ∧ (¬ 8 ≤ a6 → (0 ≤ ((h 65 3) + a6) ∧ ((h 65 3) + a6) < 600 ∧ (∀ h22, h22 = st h 67 ((h 65 3) + a6) (andZ (shrZ a2 (24 - (8 * (andZ a6 3)))) 255) → XI mX9_feed 18 [some (vR 65), some (vI a1), some (vI a2), some (vI a3), some (vI a4), some (vI a5), some (vI (a6 + 1)), none] [] w h22 Q))))) ∧ (¬ 4 ≤ a6 → (0 ≤ ((h 65 3) + a6) ∧ ((h 65 3) + a6) < 600 ∧ (∀ h28, h28 = st h 67 ((h 65 3) + a6) (andZ (shrZ a1 (24 - (8 * (andZ a6 3)))) 255) → XI mX9_feed 18 [some (vR 65), some (vI a1), some (vI a2), some (vI a3), some (vI a4), some (vI a5), some (vI (a6 + 1)), none] [] w h28 Q)))))))) : XI mX9_feed 18 [some (vR 65), some (vI a1), some (vI a2), some (vI a3), some (vI a4), some (vI a5), some (vI a6), none] [] w h Q := by
  refine s_iload (pc' := 20) (x := a6) dX9_feed_18 rfl rfl ?_
  refine s_bipush (pc' := 22) dX9_feed_20 (by decide) rfl ?_
  obtain ⟨z1, V⟩ := V
  obtain ⟨V32, V33⟩ := V
  refine s_icmp_ge (pc' := 25) (tgt := 108) dX9_feed_22 rfl rfl z1 (by decide) (fun c => ?_) (fun c => ?_)
  · have V := V32 c
    refine s_aload_n (pc' := 109) (x := 65) dX9_feed_108 rfl rfl ?_
    refine s_dup (pc' := 110) dX9_feed_109 (by intro _ q; cases q) rfl ?_
    refine s_get (pc' := 113) (v := vI (h 65 3)) (kc := 9) (i := 3) dX9_feed_110 clX9 (by decide) fl_9_3 (fa_t65 sA) (fun _ => rfl) rfl ?_
    refine s_bipush (pc' := 115) dX9_feed_113 (by decide) rfl ?_
    refine s_iadd (pc' := 116) dX9_feed_115 rfl ?_
    refine s_put (pc' := 119) (v := vI ((h 65 3) + 20)) (x := ((h 65 3) + 20)) (kc := 9) (i := 3) dX9_feed_116 clX9 (by decide) fl_9_3 rfl (fa_t65 sA) (fun E => nar_int E _) (fun _ _ => rfl) (j0 := 3) rfl rfl ?_
    obtain ⟨h2, e3⟩ : ∃ q, q = st h 65 3 ((h 65 3) + 20) := ⟨_, rfl⟩
    rw [← e3]
    have V := V h2 e3
    refine s_aload_n (pc' := 120) (x := 65) dX9_feed_119 rfl rfl ?_
    refine s_get (pc' := 123) (v := vI (h2 65 3)) (kc := 9) (i := 3) dX9_feed_120 clX9 (by decide) fl_9_3 (fa_t65 sA) (fun _ => rfl) rfl ?_
    exact s_iret dX9_feed_123 rfl ⟨_, rfl, rfl, V⟩
  · have V := V33 c
    refine s_iload (pc' := 27) (x := a6) dX9_feed_25 rfl rfl ?_
    refine s_iconst (pc' := 28) dX9_feed_27 rfl ?_
    obtain ⟨V30, V31⟩ := V
    refine s_icmp_ge (pc' := 31) (tgt := 35) dX9_feed_28 rfl rfl z1 (by decide) (fun c => ?_) (fun c => ?_)
    · have V := V30 c
      refine s_iload (pc' := 37) (x := a6) dX9_feed_35 rfl rfl ?_
      refine s_bipush (pc' := 39) dX9_feed_37 (by decide) rfl ?_
      obtain ⟨V24, V25⟩ := V
      refine s_icmp_ge (pc' := 42) (tgt := 46) dX9_feed_39 rfl rfl z1 (by decide) (fun c => ?_) (fun c => ?_)
      · have V := V24 c
        refine s_iload (pc' := 48) (x := a6) dX9_feed_46 rfl rfl ?_
        refine s_bipush (pc' := 50) dX9_feed_48 (by decide) rfl ?_
        obtain ⟨V18, V19⟩ := V
        refine s_icmp_ge (pc' := 53) (tgt := 57) dX9_feed_50 rfl rfl z1 (by decide) (fun c => ?_) (fun c => ?_)
        · have V := V18 c
          refine s_iload (pc' := 59) (x := a6) dX9_feed_57 rfl rfl ?_
          refine s_bipush (pc' := 61) dX9_feed_59 (by decide) rfl ?_
          obtain ⟨V12, V13⟩ := V
          refine s_icmp_ge (pc' := 64) (tgt := 69) dX9_feed_61 rfl rfl z1 (by decide) (fun c => ?_) (fun c => ?_)
          · have V := V12 c
            refine s_iload (pc' := 71) (x := a5) dX9_feed_69 rfl rfl ?_
            refine s_istore (pc' := 73) (ls' := [some (vR 65), some (vI a1), some (vI a2), some (vI a3), some (vI a4), some (vI a5), some (vI a6), some (vI a5)]) dX9_feed_71 (by decide) rfl rfl ?_
            refine s_aload_n (pc' := 74) (x := 65) dX9_feed_73 rfl rfl ?_
            refine s_getF (pc' := 77) (b := 67) (kc := 9) (i := 1) dX9_feed_74 clX9 (by decide) fl_9_1 (fa_t65 sA) (fa_f9_1 sA) (fun _ => rfl) rfl ?_
            refine s_aload_n (pc' := 78) (x := 65) dX9_feed_77 rfl rfl ?_
            refine s_get (pc' := 81) (v := vI (h 65 3)) (kc := 9) (i := 3) dX9_feed_78 clX9 (by decide) fl_9_3 (fa_t65 sA) (fun _ => rfl) rfl ?_
            refine s_iload (pc' := 83) (x := a6) dX9_feed_81 rfl rfl ?_
            refine s_iadd (pc' := 84) dX9_feed_83 rfl ?_
            refine s_iload (pc' := 86) (x := a5) dX9_feed_84 rfl rfl ?_
            refine s_bipush (pc' := 88) dX9_feed_86 (by decide) rfl ?_
            refine s_bipush (pc' := 90) dX9_feed_88 (by decide) rfl ?_
            refine s_iload (pc' := 92) (x := a6) dX9_feed_90 rfl rfl ?_
            refine s_iconst (pc' := 93) dX9_feed_92 rfl ?_
            refine s_iand (pc' := 94) (z := (andZ a6 3)) dX9_feed_93 (andZ_ok _ _) rfl ?_
            refine s_imul (pc' := 95) dX9_feed_94 rfl ?_
            refine s_isub (pc' := 96) dX9_feed_95 rfl ?_
            refine s_ishr (pc' := 97) (z := (shrZ a5 (24 - (8 * (andZ a6 3))))) dX9_feed_96 (shrZ_ok _ _) rfl ?_
            refine s_sipush (pc' := 100) dX9_feed_97 (by decide) rfl ?_
            refine s_iand (pc' := 101) (z := (andZ (shrZ a5 (24 - (8 * (andZ a6 3)))) 255)) dX9_feed_100 (andZ_ok _ _) rfl ?_
            obtain ⟨z4, z5, V⟩ := V
            refine s_iast (pc' := 102) dX9_feed_101 (fa_t67 sA) z4 (fa_lt67 sA z5) rfl ?_
            obtain ⟨h6, e7⟩ : ∃ q, q = st h 67 ((h 65 3) + a6) (andZ (shrZ a5 (24 - (8 * (andZ a6 3)))) 255) := ⟨_, rfl⟩
            rw [← e7]
            have V := V h6 e7
            refine s_iinc (pc' := 105) (ls' := [some (vR 65), some (vI a1), some (vI a2), some (vI a3), some (vI a4), some (vI a5), some (vI (a6 + 1)), some (vI a5)]) dX9_feed_102 rfl (by decide) rfl rfl ?_
            refine s_goto (tgt := 18) dX9_feed_105 rfl ?_
            refine s_drop 7 (ls' := [some (vR 65), some (vI a1), some (vI a2), some (vI a3), some (vI a4), some (vI a5), some (vI (a6 + 1)), none]) rfl ?_
            exact V
          · have V := V13 c
            refine s_iload (pc' := 66) (x := a4) dX9_feed_64 rfl rfl ?_
            refine s_goto (tgt := 71) dX9_feed_66 rfl ?_
            refine s_istore (pc' := 73) (ls' := [some (vR 65), some (vI a1), some (vI a2), some (vI a3), some (vI a4), some (vI a5), some (vI a6), some (vI a4)]) dX9_feed_71 (by decide) rfl rfl ?_
            refine s_aload_n (pc' := 74) (x := 65) dX9_feed_73 rfl rfl ?_
            refine s_getF (pc' := 77) (b := 67) (kc := 9) (i := 1) dX9_feed_74 clX9 (by decide) fl_9_1 (fa_t65 sA) (fa_f9_1 sA) (fun _ => rfl) rfl ?_
            refine s_aload_n (pc' := 78) (x := 65) dX9_feed_77 rfl rfl ?_
            refine s_get (pc' := 81) (v := vI (h 65 3)) (kc := 9) (i := 3) dX9_feed_78 clX9 (by decide) fl_9_3 (fa_t65 sA) (fun _ => rfl) rfl ?_
            refine s_iload (pc' := 83) (x := a6) dX9_feed_81 rfl rfl ?_
            refine s_iadd (pc' := 84) dX9_feed_83 rfl ?_
            refine s_iload (pc' := 86) (x := a4) dX9_feed_84 rfl rfl ?_
            refine s_bipush (pc' := 88) dX9_feed_86 (by decide) rfl ?_
            refine s_bipush (pc' := 90) dX9_feed_88 (by decide) rfl ?_
            refine s_iload (pc' := 92) (x := a6) dX9_feed_90 rfl rfl ?_
            refine s_iconst (pc' := 93) dX9_feed_92 rfl ?_
            refine s_iand (pc' := 94) (z := (andZ a6 3)) dX9_feed_93 (andZ_ok _ _) rfl ?_
            refine s_imul (pc' := 95) dX9_feed_94 rfl ?_
            refine s_isub (pc' := 96) dX9_feed_95 rfl ?_
            refine s_ishr (pc' := 97) (z := (shrZ a4 (24 - (8 * (andZ a6 3))))) dX9_feed_96 (shrZ_ok _ _) rfl ?_
            refine s_sipush (pc' := 100) dX9_feed_97 (by decide) rfl ?_
            refine s_iand (pc' := 101) (z := (andZ (shrZ a4 (24 - (8 * (andZ a6 3)))) 255)) dX9_feed_100 (andZ_ok _ _) rfl ?_
            obtain ⟨z8, z9, V⟩ := V
            refine s_iast (pc' := 102) dX9_feed_101 (fa_t67 sA) z8 (fa_lt67 sA z9) rfl ?_
            obtain ⟨h10, e11⟩ : ∃ q, q = st h 67 ((h 65 3) + a6) (andZ (shrZ a4 (24 - (8 * (andZ a6 3)))) 255) := ⟨_, rfl⟩
            rw [← e11]
            have V := V h10 e11
            refine s_iinc (pc' := 105) (ls' := [some (vR 65), some (vI a1), some (vI a2), some (vI a3), some (vI a4), some (vI a5), some (vI (a6 + 1)), some (vI a4)]) dX9_feed_102 rfl (by decide) rfl rfl ?_
            refine s_goto (tgt := 18) dX9_feed_105 rfl ?_
            refine s_drop 7 (ls' := [some (vR 65), some (vI a1), some (vI a2), some (vI a3), some (vI a4), some (vI a5), some (vI (a6 + 1)), none]) rfl ?_
            exact V
        · have V := V19 c
          refine s_iload_n (pc' := 54) (x := a3) dX9_feed_53 rfl rfl ?_
          refine s_goto (tgt := 71) dX9_feed_54 rfl ?_
          refine s_istore (pc' := 73) (ls' := [some (vR 65), some (vI a1), some (vI a2), some (vI a3), some (vI a4), some (vI a5), some (vI a6), some (vI a3)]) dX9_feed_71 (by decide) rfl rfl ?_
          refine s_aload_n (pc' := 74) (x := 65) dX9_feed_73 rfl rfl ?_
          refine s_getF (pc' := 77) (b := 67) (kc := 9) (i := 1) dX9_feed_74 clX9 (by decide) fl_9_1 (fa_t65 sA) (fa_f9_1 sA) (fun _ => rfl) rfl ?_
          refine s_aload_n (pc' := 78) (x := 65) dX9_feed_77 rfl rfl ?_
          refine s_get (pc' := 81) (v := vI (h 65 3)) (kc := 9) (i := 3) dX9_feed_78 clX9 (by decide) fl_9_3 (fa_t65 sA) (fun _ => rfl) rfl ?_
          refine s_iload (pc' := 83) (x := a6) dX9_feed_81 rfl rfl ?_
          refine s_iadd (pc' := 84) dX9_feed_83 rfl ?_
          refine s_iload (pc' := 86) (x := a3) dX9_feed_84 rfl rfl ?_
          refine s_bipush (pc' := 88) dX9_feed_86 (by decide) rfl ?_
          refine s_bipush (pc' := 90) dX9_feed_88 (by decide) rfl ?_
          refine s_iload (pc' := 92) (x := a6) dX9_feed_90 rfl rfl ?_
          refine s_iconst (pc' := 93) dX9_feed_92 rfl ?_
          refine s_iand (pc' := 94) (z := (andZ a6 3)) dX9_feed_93 (andZ_ok _ _) rfl ?_
          refine s_imul (pc' := 95) dX9_feed_94 rfl ?_
          refine s_isub (pc' := 96) dX9_feed_95 rfl ?_
          refine s_ishr (pc' := 97) (z := (shrZ a3 (24 - (8 * (andZ a6 3))))) dX9_feed_96 (shrZ_ok _ _) rfl ?_
          refine s_sipush (pc' := 100) dX9_feed_97 (by decide) rfl ?_
          refine s_iand (pc' := 101) (z := (andZ (shrZ a3 (24 - (8 * (andZ a6 3)))) 255)) dX9_feed_100 (andZ_ok _ _) rfl ?_
          obtain ⟨z14, z15, V⟩ := V
          refine s_iast (pc' := 102) dX9_feed_101 (fa_t67 sA) z14 (fa_lt67 sA z15) rfl ?_
          obtain ⟨h16, e17⟩ : ∃ q, q = st h 67 ((h 65 3) + a6) (andZ (shrZ a3 (24 - (8 * (andZ a6 3)))) 255) := ⟨_, rfl⟩
          rw [← e17]
          have V := V h16 e17
          refine s_iinc (pc' := 105) (ls' := [some (vR 65), some (vI a1), some (vI a2), some (vI a3), some (vI a4), some (vI a5), some (vI (a6 + 1)), some (vI a3)]) dX9_feed_102 rfl (by decide) rfl rfl ?_
          refine s_goto (tgt := 18) dX9_feed_105 rfl ?_
          refine s_drop 7 (ls' := [some (vR 65), some (vI a1), some (vI a2), some (vI a3), some (vI a4), some (vI a5), some (vI (a6 + 1)), none]) rfl ?_
          exact V
      · have V := V25 c
        refine s_iload_n (pc' := 43) (x := a2) dX9_feed_42 rfl rfl ?_
        refine s_goto (tgt := 71) dX9_feed_43 rfl ?_
        refine s_istore (pc' := 73) (ls' := [some (vR 65), some (vI a1), some (vI a2), some (vI a3), some (vI a4), some (vI a5), some (vI a6), some (vI a2)]) dX9_feed_71 (by decide) rfl rfl ?_
        refine s_aload_n (pc' := 74) (x := 65) dX9_feed_73 rfl rfl ?_
        refine s_getF (pc' := 77) (b := 67) (kc := 9) (i := 1) dX9_feed_74 clX9 (by decide) fl_9_1 (fa_t65 sA) (fa_f9_1 sA) (fun _ => rfl) rfl ?_
        refine s_aload_n (pc' := 78) (x := 65) dX9_feed_77 rfl rfl ?_
        refine s_get (pc' := 81) (v := vI (h 65 3)) (kc := 9) (i := 3) dX9_feed_78 clX9 (by decide) fl_9_3 (fa_t65 sA) (fun _ => rfl) rfl ?_
        refine s_iload (pc' := 83) (x := a6) dX9_feed_81 rfl rfl ?_
        refine s_iadd (pc' := 84) dX9_feed_83 rfl ?_
        refine s_iload (pc' := 86) (x := a2) dX9_feed_84 rfl rfl ?_
        refine s_bipush (pc' := 88) dX9_feed_86 (by decide) rfl ?_
        refine s_bipush (pc' := 90) dX9_feed_88 (by decide) rfl ?_
        refine s_iload (pc' := 92) (x := a6) dX9_feed_90 rfl rfl ?_
        refine s_iconst (pc' := 93) dX9_feed_92 rfl ?_
        refine s_iand (pc' := 94) (z := (andZ a6 3)) dX9_feed_93 (andZ_ok _ _) rfl ?_
        refine s_imul (pc' := 95) dX9_feed_94 rfl ?_
        refine s_isub (pc' := 96) dX9_feed_95 rfl ?_
        refine s_ishr (pc' := 97) (z := (shrZ a2 (24 - (8 * (andZ a6 3))))) dX9_feed_96 (shrZ_ok _ _) rfl ?_
        refine s_sipush (pc' := 100) dX9_feed_97 (by decide) rfl ?_
        refine s_iand (pc' := 101) (z := (andZ (shrZ a2 (24 - (8 * (andZ a6 3)))) 255)) dX9_feed_100 (andZ_ok _ _) rfl ?_
        obtain ⟨z20, z21, V⟩ := V
        refine s_iast (pc' := 102) dX9_feed_101 (fa_t67 sA) z20 (fa_lt67 sA z21) rfl ?_
        obtain ⟨h22, e23⟩ : ∃ q, q = st h 67 ((h 65 3) + a6) (andZ (shrZ a2 (24 - (8 * (andZ a6 3)))) 255) := ⟨_, rfl⟩
        rw [← e23]
        have V := V h22 e23
        refine s_iinc (pc' := 105) (ls' := [some (vR 65), some (vI a1), some (vI a2), some (vI a3), some (vI a4), some (vI a5), some (vI (a6 + 1)), some (vI a2)]) dX9_feed_102 rfl (by decide) rfl rfl ?_
        refine s_goto (tgt := 18) dX9_feed_105 rfl ?_
        refine s_drop 7 (ls' := [some (vR 65), some (vI a1), some (vI a2), some (vI a3), some (vI a4), some (vI a5), some (vI (a6 + 1)), none]) rfl ?_
        exact V
    · have V := V31 c
      refine s_iload_n (pc' := 32) (x := a1) dX9_feed_31 rfl rfl ?_
      refine s_goto (tgt := 71) dX9_feed_32 rfl ?_
      refine s_istore (pc' := 73) (ls' := [some (vR 65), some (vI a1), some (vI a2), some (vI a3), some (vI a4), some (vI a5), some (vI a6), some (vI a1)]) dX9_feed_71 (by decide) rfl rfl ?_
      refine s_aload_n (pc' := 74) (x := 65) dX9_feed_73 rfl rfl ?_
      refine s_getF (pc' := 77) (b := 67) (kc := 9) (i := 1) dX9_feed_74 clX9 (by decide) fl_9_1 (fa_t65 sA) (fa_f9_1 sA) (fun _ => rfl) rfl ?_
      refine s_aload_n (pc' := 78) (x := 65) dX9_feed_77 rfl rfl ?_
      refine s_get (pc' := 81) (v := vI (h 65 3)) (kc := 9) (i := 3) dX9_feed_78 clX9 (by decide) fl_9_3 (fa_t65 sA) (fun _ => rfl) rfl ?_
      refine s_iload (pc' := 83) (x := a6) dX9_feed_81 rfl rfl ?_
      refine s_iadd (pc' := 84) dX9_feed_83 rfl ?_
      refine s_iload (pc' := 86) (x := a1) dX9_feed_84 rfl rfl ?_
      refine s_bipush (pc' := 88) dX9_feed_86 (by decide) rfl ?_
      refine s_bipush (pc' := 90) dX9_feed_88 (by decide) rfl ?_
      refine s_iload (pc' := 92) (x := a6) dX9_feed_90 rfl rfl ?_
      refine s_iconst (pc' := 93) dX9_feed_92 rfl ?_
      refine s_iand (pc' := 94) (z := (andZ a6 3)) dX9_feed_93 (andZ_ok _ _) rfl ?_
      refine s_imul (pc' := 95) dX9_feed_94 rfl ?_
      refine s_isub (pc' := 96) dX9_feed_95 rfl ?_
      refine s_ishr (pc' := 97) (z := (shrZ a1 (24 - (8 * (andZ a6 3))))) dX9_feed_96 (shrZ_ok _ _) rfl ?_
      refine s_sipush (pc' := 100) dX9_feed_97 (by decide) rfl ?_
      refine s_iand (pc' := 101) (z := (andZ (shrZ a1 (24 - (8 * (andZ a6 3)))) 255)) dX9_feed_100 (andZ_ok _ _) rfl ?_
      obtain ⟨z26, z27, V⟩ := V
      refine s_iast (pc' := 102) dX9_feed_101 (fa_t67 sA) z26 (fa_lt67 sA z27) rfl ?_
      obtain ⟨h28, e29⟩ : ∃ q, q = st h 67 ((h 65 3) + a6) (andZ (shrZ a1 (24 - (8 * (andZ a6 3)))) 255) := ⟨_, rfl⟩
      rw [← e29]
      have V := V h28 e29
      refine s_iinc (pc' := 105) (ls' := [some (vR 65), some (vI a1), some (vI a2), some (vI a3), some (vI a4), some (vI a5), some (vI (a6 + 1)), some (vI a1)]) dX9_feed_102 rfl (by decide) rfl rfl ?_
      refine s_goto (tgt := 18) dX9_feed_105 rfl ?_
      refine s_drop 7 (ls' := [some (vR 65), some (vI a1), some (vI a2), some (vI a3), some (vI a4), some (vI a5), some (vI (a6 + 1)), none]) rfl ?_
      exact V
theorem e_X9_isQuoted {w : WS} {h : AH} {Q : Int → AH → Prop} (X : XI mX9_isQuoted 0 [some (vR 65), none] [] w h Q) : CI mX9_isQuoted [vR 65] w h Q := CA.of (M := mX9_isQuoted) (by decide) rfl (Nat.le_of_ble_eq_true rfl) X
set_option maxRecDepth 20000 in
theorem r_X9_isQuoted_0 {w : WS} {h : AH} {Q : Int → AH → Prop} (sA : shA w) (V : XI mX9_isQuoted 2 [some (vR 65), some (vI 0)] [] w h Q) : XI mX9_isQuoted 0 [some (vR 65), none] [] w h Q := by
  refine s_iconst (pc' := 1) dX9_isQuoted_0 rfl ?_
  refine s_istore_n (pc' := 2) (ls' := [some (vR 65), some (vI 0)]) dX9_isQuoted_1 (by decide) rfl rfl ?_
  exact V
set_option maxRecDepth 20000 in
theorem r_X9_isQuoted_2 {w : WS} {h : AH} {Q : Int → AH → Prop} {a1 : Int} (sA : shA w) (V : (inR a1 ∧ ((9 ≤ a1 → Q 0 h) ∧ (¬ 9 ≤ a1 → (0 ≤ a1 ∧ a1 < 9 ∧ (inL (h (-2) a1) ∧ inL (h 65 38) ∧ ((¬ (h (-2) a1) = (h 65 38) → XI mX9_isQuoted 2 [some (vR 65), some (vI (a1 + 1))] [] w h Q) ∧ ((h (-2) a1) = (h 65 38) → Q 1 h)))))))) : XI mX9_isQuoted 2 [some (vR 65), some (vI a1)] [] w h Q := by
  refine s_iload_n (pc' := 3) (x := a1) dX9_isQuoted_2 rfl rfl ?_
  refine s_getQ (pc' := 6) dX9_isQuoted_3 fl_Q rfl ?_
  refine s_alen7 (pc' := 7) dX9_isQuoted_6 (fa_tQ sA) rfl ?_
  rw [fa_lQ sA]
  obtain ⟨z1, V⟩ := V
  obtain ⟨V8, V9⟩ := V
  refine s_icmp_ge (pc' := 10) (tgt := 31) dX9_isQuoted_7 rfl rfl z1 (by decide) (fun c => ?_) (fun c => ?_)
  · have V := V8 c
    refine s_iconst (pc' := 32) dX9_isQuoted_31 rfl ?_
    exact s_zret dX9_isQuoted_32 rfl (by decide) ⟨_, rfl, rfl, V⟩
  · have V := V9 c
    refine s_getQ (pc' := 13) dX9_isQuoted_10 fl_Q rfl ?_
    refine s_iload_n (pc' := 14) (x := a1) dX9_isQuoted_13 rfl rfl ?_
    obtain ⟨z2, z3, V⟩ := V
    refine s_lald7 (pc' := 15) dX9_isQuoted_14 (fa_tQ sA) z2 (fa_ltQ sA z3) rfl ?_
    refine s_aload_n (pc' := 16) (x := 65) dX9_isQuoted_15 rfl rfl ?_
    refine s_get (pc' := 19) (v := vL (h 65 38)) (kc := 9) (i := 38) dX9_isQuoted_16 clX9 (by decide) fl_9_38 (fa_t65 sA) (fun _ => rfl) rfl ?_
    obtain ⟨z4, z5, V⟩ := V
    refine s_lcmp (pc' := 20) dX9_isQuoted_19 z4 z5 rfl ?_
    obtain ⟨V6, V7⟩ := V
    refine s_if_ne (pc' := 23) (tgt := 25) dX9_isQuoted_20 rfl rfl (cmpZ_in _ _) (fun c => ?_) (fun c => ?_)
    · have V := V6 (fun q => c ((cmpZ_eq _ _).mpr q))
      refine s_iinc (pc' := 28) (ls' := [some (vR 65), some (vI (a1 + 1))]) dX9_isQuoted_25 rfl (by decide) rfl rfl ?_
      refine s_goto (tgt := 2) dX9_isQuoted_28 rfl ?_
      exact V
    · have V := V7 ((cmpZ_eq _ _).mp c)
      refine s_iconst (pc' := 24) dX9_isQuoted_23 rfl ?_
      exact s_zret dX9_isQuoted_24 rfl (by decide) ⟨_, rfl, rfl, V⟩
theorem e_X9_readCalls {w : WS} {h : AH} {Q : Int → AH → Prop} (X : XI mX9_readCalls 0 [some (vR 65), none, none, none, none] [] w h Q) : CI mX9_readCalls [vR 65] w h Q := CA.of (M := mX9_readCalls) (by decide) rfl (Nat.le_of_ble_eq_true rfl) X
set_option maxRecDepth 20000 in
theorem r_X9_readCalls_0 {w : WS} {h : AH} {Q : Int → AH → Prop} (sA : shA w) (V : XI mX9_readCalls 4 [some (vR 65), some (vI 0), some (vI 0), none, none] [] w h Q) : XI mX9_readCalls 0 [some (vR 65), none, none, none, none] [] w h Q := by
  refine s_iconst (pc' := 1) dX9_readCalls_0 rfl ?_
  refine s_istore_n (pc' := 2) (ls' := [some (vR 65), some (vI 0), none, none, none]) dX9_readCalls_1 (by decide) rfl rfl ?_
  refine s_iconst (pc' := 3) dX9_readCalls_2 rfl ?_
  refine s_istore_n (pc' := 4) (ls' := [some (vR 65), some (vI 0), some (vI 0), none, none]) dX9_readCalls_3 (by decide) rfl rfl ?_
  exact V
set_option maxRecDepth 20000 in
theorem r_X9_readCalls_4 {w : WS} {h : AH} {Q : Int → AH → Prop} {a1 a2 : Int} (sA : shA w) (V : (inR a2 ∧ inR (h 66 198) ∧ (((h 66 198) ≤ a2 → Q a1 h) ∧ (¬ (h 66 198) ≤ a2 → (0 ≤ (149 + a2) ∧ (149 + a2) < 202 ∧ (0 ≤ (173 + a2) ∧ (173 + a2) < 202 ∧ (∀ y7, y7 = ((h 66 199) - (h 66 (173 + a2))) → (inR y7 ∧ ((0 ≤ y7 → (inR (h 66 (149 + a2)) ∧ ((¬ (h 66 (149 + a2)) = 0 → ((0 ≤ y7 ∧ y7 ≤ 2147483647) ∧ (0 < (h 66 (149 + a2)) ∧ (h 66 (149 + a2)) ≤ 2147483647) ∧ (∀ y13, y13 = (a1 + (1 + (y7 / (h 66 (149 + a2))))) → XI mX9_readCalls 4 [some (vR 65), some (vI y13), some (vI (a2 + 1)), none, none] [] w h Q))) ∧ ((h 66 (149 + a2)) = 0 → XI mX9_readCalls 4 [some (vR 65), some (vI (a1 + 1)), some (vI (a2 + 1)), none, none] [] w h Q)))) ∧ (¬ 0 ≤ y7 → XI mX9_readCalls 4 [some (vR 65), some (vI (a1 + 0)), some (vI (a2 + 1)), none, none] [] w h Q)))))))))) : XI mX9_readCalls 4 [some (vR 65), some (vI a1), some (vI a2), none, none] [] w h Q := by
  refine s_iload_n (pc' := 5) (x := a2) dX9_readCalls_4 rfl rfl ?_
  refine s_aload_n (pc' := 6) (x := 65) dX9_readCalls_5 rfl rfl ?_
  refine s_getF (pc' := 9) (b := 66) (kc := 9) (i := 0) dX9_readCalls_6 clX9 (by decide) fl_9_0 (fa_t65 sA) (fa_f9_0 sA) (fun _ => rfl) rfl ?_
  refine s_sipush (pc' := 12) dX9_readCalls_9 (by decide) rfl ?_
  refine s_iald (pc' := 13) dX9_readCalls_12 (fa_t66 sA) (by decide) (fa_lt66 sA (by decide)) rfl ?_
  obtain ⟨z1, z2, V⟩ := V
  obtain ⟨V19, V20⟩ := V
  refine s_icmp_ge (pc' := 16) (tgt := 80) dX9_readCalls_13 rfl rfl z1 z2 (fun c => ?_) (fun c => ?_)
  · have V := V19 c
    refine s_iload_n (pc' := 81) (x := a1) dX9_readCalls_80 rfl rfl ?_
    exact s_iret dX9_readCalls_81 rfl ⟨_, rfl, rfl, V⟩
  · have V := V20 c
    refine s_aload_n (pc' := 17) (x := 65) dX9_readCalls_16 rfl rfl ?_
    refine s_getF (pc' := 20) (b := 66) (kc := 9) (i := 0) dX9_readCalls_17 clX9 (by decide) fl_9_0 (fa_t65 sA) (fa_f9_0 sA) (fun _ => rfl) rfl ?_
    refine s_sipush (pc' := 23) dX9_readCalls_20 (by decide) rfl ?_
    refine s_iload_n (pc' := 24) (x := a2) dX9_readCalls_23 rfl rfl ?_
    refine s_iadd (pc' := 25) dX9_readCalls_24 rfl ?_
    obtain ⟨z3, z4, V⟩ := V
    refine s_iald (pc' := 26) dX9_readCalls_25 (fa_t66 sA) z3 (fa_lt66 sA z4) rfl ?_
    refine s_istore_n (pc' := 27) (ls' := [some (vR 65), some (vI a1), some (vI a2), some (vI (h 66 (149 + a2))), none]) dX9_readCalls_26 (by decide) rfl rfl ?_
    refine s_aload_n (pc' := 28) (x := 65) dX9_readCalls_27 rfl rfl ?_
    refine s_getF (pc' := 31) (b := 66) (kc := 9) (i := 0) dX9_readCalls_28 clX9 (by decide) fl_9_0 (fa_t65 sA) (fa_f9_0 sA) (fun _ => rfl) rfl ?_
    refine s_sipush (pc' := 34) dX9_readCalls_31 (by decide) rfl ?_
    refine s_iald (pc' := 35) dX9_readCalls_34 (fa_t66 sA) (by decide) (fa_lt66 sA (by decide)) rfl ?_
    refine s_aload_n (pc' := 36) (x := 65) dX9_readCalls_35 rfl rfl ?_
    refine s_getF (pc' := 39) (b := 66) (kc := 9) (i := 0) dX9_readCalls_36 clX9 (by decide) fl_9_0 (fa_t65 sA) (fa_f9_0 sA) (fun _ => rfl) rfl ?_
    refine s_sipush (pc' := 42) dX9_readCalls_39 (by decide) rfl ?_
    refine s_iload_n (pc' := 43) (x := a2) dX9_readCalls_42 rfl rfl ?_
    refine s_iadd (pc' := 44) dX9_readCalls_43 rfl ?_
    obtain ⟨z5, z6, V⟩ := V
    refine s_iald (pc' := 45) dX9_readCalls_44 (fa_t66 sA) z5 (fa_lt66 sA z6) rfl ?_
    refine s_isub (pc' := 46) dX9_readCalls_45 rfl ?_
    obtain ⟨y7, e8⟩ : ∃ q, q = ((h 66 199) - (h 66 (173 + a2))) := ⟨_, rfl⟩
    rw [← e8]
    have V := V y7 e8
    refine s_istore (pc' := 48) (ls' := [some (vR 65), some (vI a1), some (vI a2), some (vI (h 66 (149 + a2))), some (vI y7)]) dX9_readCalls_46 (by decide) rfl rfl ?_
    refine s_iload_n (pc' := 49) (x := a1) dX9_readCalls_48 rfl rfl ?_
    refine s_iload (pc' := 51) (x := y7) dX9_readCalls_49 rfl rfl ?_
    obtain ⟨z9, V⟩ := V
    obtain ⟨V17, V18⟩ := V
    refine s_if_ge (pc' := 54) (tgt := 58) dX9_readCalls_51 rfl rfl z9 (fun c => ?_) (fun c => ?_)
    · have V := V17 c
      refine s_iload_n (pc' := 59) (x := (h 66 (149 + a2))) dX9_readCalls_58 rfl rfl ?_
      obtain ⟨z10, V⟩ := V
      obtain ⟨V15, V16⟩ := V
      refine s_if_ne (pc' := 62) (tgt := 66) dX9_readCalls_59 rfl rfl z10 (fun c => ?_) (fun c => ?_)
      · have V := V15 c
        refine s_iconst (pc' := 67) dX9_readCalls_66 rfl ?_
        refine s_iload (pc' := 69) (x := y7) dX9_readCalls_67 rfl rfl ?_
        refine s_iload_n (pc' := 70) (x := (h 66 (149 + a2))) dX9_readCalls_69 rfl rfl ?_
        obtain ⟨z11, z12, V⟩ := V
        refine s_idiv (pc' := 71) dX9_readCalls_70 z11 z12 rfl ?_
        refine s_iadd (pc' := 72) dX9_readCalls_71 rfl ?_
        refine s_iadd (pc' := 73) dX9_readCalls_72 rfl ?_
        obtain ⟨y13, e14⟩ : ∃ q, q = (a1 + (1 + (y7 / (h 66 (149 + a2))))) := ⟨_, rfl⟩
        rw [← e14]
        have V := V y13 e14
        refine s_istore_n (pc' := 74) (ls' := [some (vR 65), some (vI y13), some (vI a2), some (vI (h 66 (149 + a2))), some (vI y7)]) dX9_readCalls_73 (by decide) rfl rfl ?_
        refine s_iinc (pc' := 77) (ls' := [some (vR 65), some (vI y13), some (vI (a2 + 1)), some (vI (h 66 (149 + a2))), some (vI y7)]) dX9_readCalls_74 rfl (by decide) rfl rfl ?_
        refine s_goto (tgt := 4) dX9_readCalls_77 rfl ?_
        refine s_drop 3 (ls' := [some (vR 65), some (vI y13), some (vI (a2 + 1)), none, some (vI y7)]) rfl ?_
        refine s_drop 4 (ls' := [some (vR 65), some (vI y13), some (vI (a2 + 1)), none, none]) rfl ?_
        exact V
      · have V := V16 c
        refine s_iconst (pc' := 63) dX9_readCalls_62 rfl ?_
        refine s_goto (tgt := 72) dX9_readCalls_63 rfl ?_
        refine s_iadd (pc' := 73) dX9_readCalls_72 rfl ?_
        refine s_istore_n (pc' := 74) (ls' := [some (vR 65), some (vI (a1 + 1)), some (vI a2), some (vI (h 66 (149 + a2))), some (vI y7)]) dX9_readCalls_73 (by decide) rfl rfl ?_
        refine s_iinc (pc' := 77) (ls' := [some (vR 65), some (vI (a1 + 1)), some (vI (a2 + 1)), some (vI (h 66 (149 + a2))), some (vI y7)]) dX9_readCalls_74 rfl (by decide) rfl rfl ?_
        refine s_goto (tgt := 4) dX9_readCalls_77 rfl ?_
        refine s_drop 3 (ls' := [some (vR 65), some (vI (a1 + 1)), some (vI (a2 + 1)), none, some (vI y7)]) rfl ?_
        refine s_drop 4 (ls' := [some (vR 65), some (vI (a1 + 1)), some (vI (a2 + 1)), none, none]) rfl ?_
        exact V
    · have V := V18 c
      refine s_iconst (pc' := 55) dX9_readCalls_54 rfl ?_
      refine s_goto (tgt := 72) dX9_readCalls_55 rfl ?_
      refine s_iadd (pc' := 73) dX9_readCalls_72 rfl ?_
      refine s_istore_n (pc' := 74) (ls' := [some (vR 65), some (vI (a1 + 0)), some (vI a2), some (vI (h 66 (149 + a2))), some (vI y7)]) dX9_readCalls_73 (by decide) rfl rfl ?_
      refine s_iinc (pc' := 77) (ls' := [some (vR 65), some (vI (a1 + 0)), some (vI (a2 + 1)), some (vI (h 66 (149 + a2))), some (vI y7)]) dX9_readCalls_74 rfl (by decide) rfl rfl ?_
      refine s_goto (tgt := 4) dX9_readCalls_77 rfl ?_
      refine s_drop 3 (ls' := [some (vR 65), some (vI (a1 + 0)), some (vI (a2 + 1)), none, some (vI y7)]) rfl ?_
      refine s_drop 4 (ls' := [some (vR 65), some (vI (a1 + 0)), some (vI (a2 + 1)), none, none]) rfl ?_
      exact V
def bA (h : AH) (k : Int) : Int := if k < h 65 33 then h 67 k else -1
section
variable {w : WS} {h : AH}
theorem c_X9_byteAt {k : Int} (sA : shA w) (hk : 0 ≤ k ∧ k ≤ 1000) (hn : 0 ≤ h 65 33 ∧ h 65 33 ≤ 600) : CI mX9_byteAt [vR 65, vI k] w h (fun x h' => x = bA h k ∧ h' = h) := by
  refine e_X9_byteAt (r_X9_byteAt_0 sA ⟨by omega, by omega, fun c => ⟨by rw [bA, if_neg (by omega)], rfl⟩, fun c => ⟨by omega, by omega, by rw [bA, if_pos (by omega)], rfl⟩⟩)
theorem c_X9_isLetter {c : Int} (sA : shA w) (hc : inR c) : CI mX9_isLetter [vI c] w h (fun x h' => x = (if 97 ≤ c ∧ c ≤ 122 then 1 else 0) ∧ h' = h) := by
  refine e_X9_isLetter (r_X9_isLetter_0 sA ⟨hc, fun d => ⟨by rw [if_neg (by omega)], rfl⟩, fun d => ⟨fun d2 => ⟨by rw [if_neg (by omega)], rfl⟩, fun d2 => ⟨by rw [if_pos (by omega)], rfl⟩⟩⟩)
theorem c_X9_isDigit {c : Int} (sA : shA w) (hc : inR c) : CI mX9_isDigit [vI c] w h (fun x h' => x = (if 48 ≤ c ∧ c ≤ 57 then 1 else 0) ∧ h' = h) := by
  refine e_X9_isDigit (r_X9_isDigit_0 sA ⟨hc, fun d => ⟨by rw [if_neg (by omega)], rfl⟩, fun d => ⟨fun d2 => ⟨by rw [if_neg (by omega)], rfl⟩, fun d2 => ⟨by rw [if_pos (by omega)], rfl⟩⟩⟩)
end
theorem e_X9_takes {w : WS} {h : AH} {Q : AH → Prop} (X : XV mX9_takes 0 [some (vR 65), none] [] w h Q) : CV mX9_takes [vR 65] w h Q := CA.of (M := mX9_takes) (by decide) rfl (Nat.le_of_ble_eq_true rfl) X
set_option maxRecDepth 20000 in
theorem r_X9_takes_0 {w : WS} {h : AH} {Q : AH → Prop} (sA : shA w) (V : ((0 ≤ (h 65 34) ∧ (h 65 34) ≤ 1000) ∧ (0 ≤ h 65 33 ∧ h 65 33 ≤ 600) ∧ (inR (bA h (h 65 34)) ∧ (((bA h (h 65 34)) = 32 → (∀ h4, h4 = st h 65 34 ((h 65 34) + 1) → XV mX9_takes 0 [some (vR 65), none] [] w h4 Q)) ∧ (¬ (bA h (h 65 34)) = 32 → ((¬ (bA h (h 65 34)) = 10 → (∀ h6, h6 = st h 65 36 (h 65 34) → ((0 ≤ (h6 65 34) ∧ (h6 65 34) ≤ 1000) ∧ (0 ≤ h6 65 33 ∧ h6 65 33 ≤ 600) ∧ (∀ h10, h10 = st h6 65 38 0 → (inR (bA h6 (h6 65 34)) ∧ ((0 ≤ (bA h6 (h6 65 34)) → ((¬ (97 ≤ (bA h6 (h6 65 34)) ∧ (bA h6 (h6 65 34)) ≤ 122) → ((¬ (48 ≤ (bA h6 (h6 65 34)) ∧ (bA h6 (h6 65 34)) ≤ 57) → (∀ h13, h13 = st h10 65 34 ((h10 65 34) + 1) → (∀ h15, h15 = st h13 65 38 (bA h6 (h6 65 34)) → ((¬ (bA h6 (h6 65 34)) = 59 → (∀ h17, h17 = st h15 65 35 4 → (∀ h19, h19 = st h17 65 37 ((h17 65 34) - (h17 65 36)) → Q h19))) ∧ ((bA h6 (h6 65 34)) = 59 → (∀ h21, h21 = st h15 65 35 3 → (∀ h23, h23 = st h21 65 37 ((h21 65 34) - (h21 65 36)) → Q h23))))))) ∧ ((48 ≤ (bA h6 (h6 65 34)) ∧ (bA h6 (h6 65 34)) ≤ 57) → XV mX9_takes 170 [some (vR 65), none] [] w h10 Q))) ∧ ((97 ≤ (bA h6 (h6 65 34)) ∧ (bA h6 (h6 65 34)) ≤ 122) → XV mX9_takes 80 [some (vR 65), none] [] w h10 Q))) ∧ (¬ 0 ≤ (bA h6 (h6 65 34)) → (∀ h31, h31 = st h10 65 35 0 → (∀ h33, h33 = st h31 65 37 ((h31 65 34) - (h31 65 36)) → Q h33))))))))) ∧ ((bA h (h 65 34)) = 10 → (∀ h37, h37 = st h 65 34 ((h 65 34) + 1) → XV mX9_takes 0 [some (vR 65), none] [] w h37 Q)))))))) : XV mX9_takes 0 [some (vR 65), none] [] w h Q := by
  refine s_aload_n (pc' := 1) (x := 65) dX9_takes_0 rfl rfl ?_
  refine s_aload_n (pc' := 2) (x := 65) dX9_takes_1 rfl rfl ?_
  refine s_get (pc' := 5) (v := vI (h 65 34)) (kc := 9) (i := 34) dX9_takes_2 clX9 (by decide) fl_9_34 (fa_t65 sA) (fun _ => rfl) rfl ?_
  obtain ⟨z1, z2, V⟩ := V
  refine s_callV (pc' := 8) (av := [vI (h 65 34)]) (a := 65) (sk := []) (kc := 9) dX9_takes_5 ml_9_267 okX9_byteAt oiX9_byteAt (by decide) (NF := 39) rfl (fa_t65 sA) rfl (Nat.le_of_ble_eq_true rfl) (Nat.le_refl 0) (Nat.le_refl 0) rfl (CI.eon (c_X9_byteAt sA z1 z2) ?_)
  refine s_bipush (pc' := 10) dX9_takes_8 (by decide) rfl ?_
  obtain ⟨z3, V⟩ := V
  obtain ⟨V41, V42⟩ := V
  refine s_icmp_eq (pc' := 13) (tgt := 26) dX9_takes_10 rfl rfl z3 (by decide) (fun c => ?_) (fun c => ?_)
  · have V := V41 c
    refine s_aload_n (pc' := 27) (x := 65) dX9_takes_26 rfl rfl ?_
    refine s_dup (pc' := 28) dX9_takes_27 (by intro _ q; cases q) rfl ?_
    refine s_get (pc' := 31) (v := vI (h 65 34)) (kc := 9) (i := 34) dX9_takes_28 clX9 (by decide) fl_9_34 (fa_t65 sA) (fun _ => rfl) rfl ?_
    refine s_iconst (pc' := 32) dX9_takes_31 rfl ?_
    refine s_iadd (pc' := 33) dX9_takes_32 rfl ?_
    refine s_put (pc' := 36) (v := vI ((h 65 34) + 1)) (x := ((h 65 34) + 1)) (kc := 9) (i := 34) dX9_takes_33 clX9 (by decide) fl_9_34 rfl (fa_t65 sA) (fun E => nar_int E _) (fun _ _ => rfl) (j0 := 34) rfl rfl ?_
    obtain ⟨h4, e5⟩ : ∃ q, q = st h 65 34 ((h 65 34) + 1) := ⟨_, rfl⟩
    rw [← e5]
    have V := V h4 e5
    refine s_goto (tgt := 0) dX9_takes_36 rfl ?_
    exact V
  · have V := V42 c
    refine s_aload_n (pc' := 14) (x := 65) dX9_takes_13 rfl rfl ?_
    refine s_aload_n (pc' := 15) (x := 65) dX9_takes_14 rfl rfl ?_
    refine s_get (pc' := 18) (v := vI (h 65 34)) (kc := 9) (i := 34) dX9_takes_15 clX9 (by decide) fl_9_34 (fa_t65 sA) (fun _ => rfl) rfl ?_
    refine s_callV (pc' := 21) (av := [vI (h 65 34)]) (a := 65) (sk := []) (kc := 9) dX9_takes_18 ml_9_267 okX9_byteAt oiX9_byteAt (by decide) (NF := 39) rfl (fa_t65 sA) rfl (Nat.le_of_ble_eq_true rfl) (Nat.le_refl 0) (Nat.le_refl 0) rfl (CI.eon (c_X9_byteAt sA z1 z2) ?_)
    refine s_bipush (pc' := 23) dX9_takes_21 (by decide) rfl ?_
    obtain ⟨V39, V40⟩ := V
    refine s_icmp_ne (pc' := 26) (tgt := 39) dX9_takes_23 rfl rfl z3 (by decide) (fun c => ?_) (fun c => ?_)
    · have V := V39 c
      refine s_aload_n (pc' := 40) (x := 65) dX9_takes_39 rfl rfl ?_
      refine s_aload_n (pc' := 41) (x := 65) dX9_takes_40 rfl rfl ?_
      refine s_get (pc' := 44) (v := vI (h 65 34)) (kc := 9) (i := 34) dX9_takes_41 clX9 (by decide) fl_9_34 (fa_t65 sA) (fun _ => rfl) rfl ?_
      refine s_put (pc' := 47) (v := vI (h 65 34)) (x := (h 65 34)) (kc := 9) (i := 36) dX9_takes_44 clX9 (by decide) fl_9_36 rfl (fa_t65 sA) (fun E => nar_int E _) (fun _ _ => rfl) (j0 := 36) rfl rfl ?_
      obtain ⟨h6, e7⟩ : ∃ q, q = st h 65 36 (h 65 34) := ⟨_, rfl⟩
      rw [← e7]
      have V := V h6 e7
      refine s_aload_n (pc' := 48) (x := 65) dX9_takes_47 rfl rfl ?_
      refine s_aload_n (pc' := 49) (x := 65) dX9_takes_48 rfl rfl ?_
      refine s_get (pc' := 52) (v := vI (h6 65 34)) (kc := 9) (i := 34) dX9_takes_49 clX9 (by decide) fl_9_34 (fa_t65 sA) (fun _ => rfl) rfl ?_
      obtain ⟨z8, z9, V⟩ := V
      refine s_callV (pc' := 55) (av := [vI (h6 65 34)]) (a := 65) (sk := []) (kc := 9) dX9_takes_52 ml_9_267 okX9_byteAt oiX9_byteAt (by decide) (NF := 39) rfl (fa_t65 sA) rfl (Nat.le_of_ble_eq_true rfl) (Nat.le_refl 0) (Nat.le_refl 0) rfl (CI.eon (c_X9_byteAt sA z8 z9) ?_)
      refine s_istore_n (pc' := 56) (ls' := [some (vR 65), some (vI (bA h6 (h6 65 34)))]) dX9_takes_55 (by decide) rfl rfl ?_
      refine s_aload_n (pc' := 57) (x := 65) dX9_takes_56 rfl rfl ?_
      refine s_lconst (pc' := 58) (x := 0) dX9_takes_57 rfl rfl ?_
      refine s_put (pc' := 61) (v := vL 0) (x := 0) (kc := 9) (i := 38) dX9_takes_58 clX9 (by decide) fl_9_38 rfl (fa_t65 sA) (fun E => nar_long E _) (fun _ _ => rfl) (j0 := 38) rfl rfl ?_
      obtain ⟨h10, e11⟩ : ∃ q, q = st h6 65 38 0 := ⟨_, rfl⟩
      rw [← e11]
      have V := V h10 e11
      refine s_iload_n (pc' := 62) (x := (bA h6 (h6 65 34))) dX9_takes_61 rfl rfl ?_
      obtain ⟨z12, V⟩ := V
      obtain ⟨V35, V36⟩ := V
      refine s_if_ge (pc' := 65) (tgt := 73) dX9_takes_62 rfl rfl z12 (fun c => ?_) (fun c => ?_)
      · have V := V35 c
        refine s_iload_n (pc' := 74) (x := (bA h6 (h6 65 34))) dX9_takes_73 rfl rfl ?_
        refine s_callS (pc' := 77) (av := [vI (bA h6 (h6 65 34))]) (sk := []) dX9_takes_74 ml_9_280 okX9_isLetter osX9_isLetter (by decide) rfl (Nat.le_of_ble_eq_true rfl) (Nat.le_refl 0) (Nat.le_refl 0) rfl (CI.eon (c_X9_isLetter sA z12) ?_)
        obtain ⟨V29, V30⟩ := V
        refine s_ifeq_b (pc' := 80) (tgt := 163) dX9_takes_77 rfl rfl (fun c => ?_) (fun c => ?_)
        · have V := V29 c
          refine s_iload_n (pc' := 164) (x := (bA h6 (h6 65 34))) dX9_takes_163 rfl rfl ?_
          refine s_callS (pc' := 167) (av := [vI (bA h6 (h6 65 34))]) (sk := []) dX9_takes_164 ml_9_289 okX9_isDigit osX9_isDigit (by decide) rfl (Nat.le_of_ble_eq_true rfl) (Nat.le_refl 0) (Nat.le_refl 0) rfl (CI.eon (c_X9_isDigit sA z12) ?_)
          obtain ⟨V27, V28⟩ := V
          refine s_ifeq_b (pc' := 170) (tgt := 268) dX9_takes_167 rfl rfl (fun c => ?_) (fun c => ?_)
          · have V := V27 c
            refine s_aload_n (pc' := 269) (x := 65) dX9_takes_268 rfl rfl ?_
            refine s_dup (pc' := 270) dX9_takes_269 (by intro _ q; cases q) rfl ?_
            refine s_get (pc' := 273) (v := vI (h10 65 34)) (kc := 9) (i := 34) dX9_takes_270 clX9 (by decide) fl_9_34 (fa_t65 sA) (fun _ => rfl) rfl ?_
            refine s_iconst (pc' := 274) dX9_takes_273 rfl ?_
            refine s_iadd (pc' := 275) dX9_takes_274 rfl ?_
            refine s_put (pc' := 278) (v := vI ((h10 65 34) + 1)) (x := ((h10 65 34) + 1)) (kc := 9) (i := 34) dX9_takes_275 clX9 (by decide) fl_9_34 rfl (fa_t65 sA) (fun E => nar_int E _) (fun _ _ => rfl) (j0 := 34) rfl rfl ?_
            obtain ⟨h13, e14⟩ : ∃ q, q = st h10 65 34 ((h10 65 34) + 1) := ⟨_, rfl⟩
            rw [← e14]
            have V := V h13 e14
            refine s_aload_n (pc' := 279) (x := 65) dX9_takes_278 rfl rfl ?_
            refine s_iload_n (pc' := 280) (x := (bA h6 (h6 65 34))) dX9_takes_279 rfl rfl ?_
            refine s_i2l (pc' := 281) dX9_takes_280 z12 rfl ?_
            refine s_put (pc' := 284) (v := vL (bA h6 (h6 65 34))) (x := (bA h6 (h6 65 34))) (kc := 9) (i := 38) dX9_takes_281 clX9 (by decide) fl_9_38 rfl (fa_t65 sA) (fun E => nar_long E _) (fun _ _ => rfl) (j0 := 38) rfl rfl ?_
            obtain ⟨h15, e16⟩ : ∃ q, q = st h13 65 38 (bA h6 (h6 65 34)) := ⟨_, rfl⟩
            rw [← e16]
            have V := V h15 e16
            refine s_aload_n (pc' := 285) (x := 65) dX9_takes_284 rfl rfl ?_
            refine s_iload_n (pc' := 286) (x := (bA h6 (h6 65 34))) dX9_takes_285 rfl rfl ?_
            refine s_bipush (pc' := 288) dX9_takes_286 (by decide) rfl ?_
            obtain ⟨V25, V26⟩ := V
            refine s_icmp_ne (pc' := 291) (tgt := 295) dX9_takes_288 rfl rfl z12 (by decide) (fun c => ?_) (fun c => ?_)
            · have V := V25 c
              refine s_iconst (pc' := 296) dX9_takes_295 rfl ?_
              refine s_put (pc' := 299) (v := vI 4) (x := 4) (kc := 9) (i := 35) dX9_takes_296 clX9 (by decide) fl_9_35 rfl (fa_t65 sA) (fun E => nar_int E _) (fun _ _ => rfl) (j0 := 35) rfl rfl ?_
              obtain ⟨h17, e18⟩ : ∃ q, q = st h15 65 35 4 := ⟨_, rfl⟩
              rw [← e18]
              have V := V h17 e18
              refine s_aload_n (pc' := 300) (x := 65) dX9_takes_299 rfl rfl ?_
              refine s_aload_n (pc' := 301) (x := 65) dX9_takes_300 rfl rfl ?_
              refine s_get (pc' := 304) (v := vI (h17 65 34)) (kc := 9) (i := 34) dX9_takes_301 clX9 (by decide) fl_9_34 (fa_t65 sA) (fun _ => rfl) rfl ?_
              refine s_aload_n (pc' := 305) (x := 65) dX9_takes_304 rfl rfl ?_
              refine s_get (pc' := 308) (v := vI (h17 65 36)) (kc := 9) (i := 36) dX9_takes_305 clX9 (by decide) fl_9_36 (fa_t65 sA) (fun _ => rfl) rfl ?_
              refine s_isub (pc' := 309) dX9_takes_308 rfl ?_
              refine s_put (pc' := 312) (v := vI ((h17 65 34) - (h17 65 36))) (x := ((h17 65 34) - (h17 65 36))) (kc := 9) (i := 37) dX9_takes_309 clX9 (by decide) fl_9_37 rfl (fa_t65 sA) (fun E => nar_int E _) (fun _ _ => rfl) (j0 := 37) rfl rfl ?_
              obtain ⟨h19, e20⟩ : ∃ q, q = st h17 65 37 ((h17 65 34) - (h17 65 36)) := ⟨_, rfl⟩
              rw [← e20]
              have V := V h19 e20
              exact s_vret dX9_takes_312 rfl ⟨rfl, rfl, V⟩
            · have V := V26 c
              refine s_iconst (pc' := 292) dX9_takes_291 rfl ?_
              refine s_goto (tgt := 296) dX9_takes_292 rfl ?_
              refine s_put (pc' := 299) (v := vI 3) (x := 3) (kc := 9) (i := 35) dX9_takes_296 clX9 (by decide) fl_9_35 rfl (fa_t65 sA) (fun E => nar_int E _) (fun _ _ => rfl) (j0 := 35) rfl rfl ?_
              obtain ⟨h21, e22⟩ : ∃ q, q = st h15 65 35 3 := ⟨_, rfl⟩
              rw [← e22]
              have V := V h21 e22
              refine s_aload_n (pc' := 300) (x := 65) dX9_takes_299 rfl rfl ?_
              refine s_aload_n (pc' := 301) (x := 65) dX9_takes_300 rfl rfl ?_
              refine s_get (pc' := 304) (v := vI (h21 65 34)) (kc := 9) (i := 34) dX9_takes_301 clX9 (by decide) fl_9_34 (fa_t65 sA) (fun _ => rfl) rfl ?_
              refine s_aload_n (pc' := 305) (x := 65) dX9_takes_304 rfl rfl ?_
              refine s_get (pc' := 308) (v := vI (h21 65 36)) (kc := 9) (i := 36) dX9_takes_305 clX9 (by decide) fl_9_36 (fa_t65 sA) (fun _ => rfl) rfl ?_
              refine s_isub (pc' := 309) dX9_takes_308 rfl ?_
              refine s_put (pc' := 312) (v := vI ((h21 65 34) - (h21 65 36))) (x := ((h21 65 34) - (h21 65 36))) (kc := 9) (i := 37) dX9_takes_309 clX9 (by decide) fl_9_37 rfl (fa_t65 sA) (fun E => nar_int E _) (fun _ _ => rfl) (j0 := 37) rfl rfl ?_
              obtain ⟨h23, e24⟩ : ∃ q, q = st h21 65 37 ((h21 65 34) - (h21 65 36)) := ⟨_, rfl⟩
              rw [← e24]
              have V := V h23 e24
              exact s_vret dX9_takes_312 rfl ⟨rfl, rfl, V⟩
          · have V := V28 c
            refine s_drop 1 (ls' := [some (vR 65), none]) rfl ?_
            exact V
        · have V := V30 c
          refine s_drop 1 (ls' := [some (vR 65), none]) rfl ?_
          exact V
      · have V := V36 c
        refine s_aload_n (pc' := 66) (x := 65) dX9_takes_65 rfl rfl ?_
        refine s_iconst (pc' := 67) dX9_takes_66 rfl ?_
        refine s_put (pc' := 70) (v := vI 0) (x := 0) (kc := 9) (i := 35) dX9_takes_67 clX9 (by decide) fl_9_35 rfl (fa_t65 sA) (fun E => nar_int E _) (fun _ _ => rfl) (j0 := 35) rfl rfl ?_
        obtain ⟨h31, e32⟩ : ∃ q, q = st h10 65 35 0 := ⟨_, rfl⟩
        rw [← e32]
        have V := V h31 e32
        refine s_goto (tgt := 299) dX9_takes_70 rfl ?_
        refine s_aload_n (pc' := 300) (x := 65) dX9_takes_299 rfl rfl ?_
        refine s_aload_n (pc' := 301) (x := 65) dX9_takes_300 rfl rfl ?_
        refine s_get (pc' := 304) (v := vI (h31 65 34)) (kc := 9) (i := 34) dX9_takes_301 clX9 (by decide) fl_9_34 (fa_t65 sA) (fun _ => rfl) rfl ?_
        refine s_aload_n (pc' := 305) (x := 65) dX9_takes_304 rfl rfl ?_
        refine s_get (pc' := 308) (v := vI (h31 65 36)) (kc := 9) (i := 36) dX9_takes_305 clX9 (by decide) fl_9_36 (fa_t65 sA) (fun _ => rfl) rfl ?_
        refine s_isub (pc' := 309) dX9_takes_308 rfl ?_
        refine s_put (pc' := 312) (v := vI ((h31 65 34) - (h31 65 36))) (x := ((h31 65 34) - (h31 65 36))) (kc := 9) (i := 37) dX9_takes_309 clX9 (by decide) fl_9_37 rfl (fa_t65 sA) (fun E => nar_int E _) (fun _ _ => rfl) (j0 := 37) rfl rfl ?_
        obtain ⟨h33, e34⟩ : ∃ q, q = st h31 65 37 ((h31 65 34) - (h31 65 36)) := ⟨_, rfl⟩
        rw [← e34]
        have V := V h33 e34
        exact s_vret dX9_takes_312 rfl ⟨rfl, rfl, V⟩
    · have V := V40 c
      refine s_aload_n (pc' := 27) (x := 65) dX9_takes_26 rfl rfl ?_
      refine s_dup (pc' := 28) dX9_takes_27 (by intro _ q; cases q) rfl ?_
      refine s_get (pc' := 31) (v := vI (h 65 34)) (kc := 9) (i := 34) dX9_takes_28 clX9 (by decide) fl_9_34 (fa_t65 sA) (fun _ => rfl) rfl ?_
      refine s_iconst (pc' := 32) dX9_takes_31 rfl ?_
      refine s_iadd (pc' := 33) dX9_takes_32 rfl ?_
      refine s_put (pc' := 36) (v := vI ((h 65 34) + 1)) (x := ((h 65 34) + 1)) (kc := 9) (i := 34) dX9_takes_33 clX9 (by decide) fl_9_34 rfl (fa_t65 sA) (fun E => nar_int E _) (fun _ _ => rfl) (j0 := 34) rfl rfl ?_
      obtain ⟨h37, e38⟩ : ∃ q, q = st h 65 34 ((h 65 34) + 1) := ⟨_, rfl⟩
      rw [← e38]
      have V := V h37 e38
      refine s_goto (tgt := 0) dX9_takes_36 rfl ?_
      exact V
set_option maxRecDepth 20000 in
theorem r_X9_takes_80 {w : WS} {h : AH} {Q : AH → Prop} (sA : shA w) (V : ((0 ≤ (h 65 34) ∧ (h 65 34) ≤ 1000) ∧ (0 ≤ h 65 33 ∧ h 65 33 ≤ 600) ∧ (inR (bA h (h 65 34)) ∧ ((¬ (97 ≤ (bA h (h 65 34)) ∧ (bA h (h 65 34)) ≤ 122) → (∀ h4, h4 = st h 65 35 1 → (∀ h6, h6 = st h4 65 37 ((h4 65 34) - (h4 65 36)) → Q h6))) ∧ ((97 ≤ (bA h (h 65 34)) ∧ (bA h (h 65 34)) ≤ 122) → (inR ((h 65 34) - (h 65 36)) ∧ ((9 ≤ ((h 65 34) - (h 65 36)) → (∀ h9, h9 = st h 65 38 (-1) → (∀ h11, h11 = st h9 65 34 ((h9 65 34) + 1) → XV mX9_takes 80 [some (vR 65), none] [] w h11 Q))) ∧ (¬ 9 ≤ ((h 65 34) - (h 65 36)) → (∀ h13, h13 = st h 65 38 ((((27 * (h 65 38)) + (bA h (h 65 34))) - 97) + 1) → (∀ h15, h15 = st h13 65 34 ((h13 65 34) + 1) → XV mX9_takes 80 [some (vR 65), none] [] w h15 Q)))))))))) : XV mX9_takes 80 [some (vR 65), none] [] w h Q := by
  refine s_aload_n (pc' := 81) (x := 65) dX9_takes_80 rfl rfl ?_
  refine s_aload_n (pc' := 82) (x := 65) dX9_takes_81 rfl rfl ?_
  refine s_get (pc' := 85) (v := vI (h 65 34)) (kc := 9) (i := 34) dX9_takes_82 clX9 (by decide) fl_9_34 (fa_t65 sA) (fun _ => rfl) rfl ?_
  obtain ⟨z1, z2, V⟩ := V
  refine s_callV (pc' := 88) (av := [vI (h 65 34)]) (a := 65) (sk := []) (kc := 9) dX9_takes_85 ml_9_267 okX9_byteAt oiX9_byteAt (by decide) (NF := 39) rfl (fa_t65 sA) rfl (Nat.le_of_ble_eq_true rfl) (Nat.le_refl 0) (Nat.le_refl 0) rfl (CI.eon (c_X9_byteAt sA z1 z2) ?_)
  obtain ⟨z3, V⟩ := V
  refine s_callS (pc' := 91) (av := [vI (bA h (h 65 34))]) (sk := []) dX9_takes_88 ml_9_280 okX9_isLetter osX9_isLetter (by decide) rfl (Nat.le_of_ble_eq_true rfl) (Nat.le_refl 0) (Nat.le_refl 0) rfl (CI.eon (c_X9_isLetter sA z3) ?_)
  obtain ⟨V19, V20⟩ := V
  refine s_ifeq_b (pc' := 94) (tgt := 155) dX9_takes_91 rfl rfl (fun c => ?_) (fun c => ?_)
  · have V := V19 c
    refine s_aload_n (pc' := 156) (x := 65) dX9_takes_155 rfl rfl ?_
    refine s_iconst (pc' := 157) dX9_takes_156 rfl ?_
    refine s_put (pc' := 160) (v := vI 1) (x := 1) (kc := 9) (i := 35) dX9_takes_157 clX9 (by decide) fl_9_35 rfl (fa_t65 sA) (fun E => nar_int E _) (fun _ _ => rfl) (j0 := 35) rfl rfl ?_
    obtain ⟨h4, e5⟩ : ∃ q, q = st h 65 35 1 := ⟨_, rfl⟩
    rw [← e5]
    have V := V h4 e5
    refine s_goto (tgt := 299) dX9_takes_160 rfl ?_
    refine s_aload_n (pc' := 300) (x := 65) dX9_takes_299 rfl rfl ?_
    refine s_aload_n (pc' := 301) (x := 65) dX9_takes_300 rfl rfl ?_
    refine s_get (pc' := 304) (v := vI (h4 65 34)) (kc := 9) (i := 34) dX9_takes_301 clX9 (by decide) fl_9_34 (fa_t65 sA) (fun _ => rfl) rfl ?_
    refine s_aload_n (pc' := 305) (x := 65) dX9_takes_304 rfl rfl ?_
    refine s_get (pc' := 308) (v := vI (h4 65 36)) (kc := 9) (i := 36) dX9_takes_305 clX9 (by decide) fl_9_36 (fa_t65 sA) (fun _ => rfl) rfl ?_
    refine s_isub (pc' := 309) dX9_takes_308 rfl ?_
    refine s_put (pc' := 312) (v := vI ((h4 65 34) - (h4 65 36))) (x := ((h4 65 34) - (h4 65 36))) (kc := 9) (i := 37) dX9_takes_309 clX9 (by decide) fl_9_37 rfl (fa_t65 sA) (fun E => nar_int E _) (fun _ _ => rfl) (j0 := 37) rfl rfl ?_
    obtain ⟨h6, e7⟩ : ∃ q, q = st h4 65 37 ((h4 65 34) - (h4 65 36)) := ⟨_, rfl⟩
    rw [← e7]
    have V := V h6 e7
    exact s_vret dX9_takes_312 rfl ⟨rfl, rfl, V⟩
  · have V := V20 c
    refine s_aload_n (pc' := 95) (x := 65) dX9_takes_94 rfl rfl ?_
    refine s_aload_n (pc' := 96) (x := 65) dX9_takes_95 rfl rfl ?_
    refine s_get (pc' := 99) (v := vI (h 65 34)) (kc := 9) (i := 34) dX9_takes_96 clX9 (by decide) fl_9_34 (fa_t65 sA) (fun _ => rfl) rfl ?_
    refine s_aload_n (pc' := 100) (x := 65) dX9_takes_99 rfl rfl ?_
    refine s_get (pc' := 103) (v := vI (h 65 36)) (kc := 9) (i := 36) dX9_takes_100 clX9 (by decide) fl_9_36 (fa_t65 sA) (fun _ => rfl) rfl ?_
    refine s_isub (pc' := 104) dX9_takes_103 rfl ?_
    refine s_bipush (pc' := 106) dX9_takes_104 (by decide) rfl ?_
    obtain ⟨z8, V⟩ := V
    obtain ⟨V17, V18⟩ := V
    refine s_icmp_ge (pc' := 109) (tgt := 136) dX9_takes_106 rfl rfl z8 (by decide) (fun c => ?_) (fun c => ?_)
    · have V := V17 c
      refine s_ldc2 (pc' := 139) (x := (-1)) dX9_takes_136 cstl_9_287 rfl rfl ?_
      refine s_put (pc' := 142) (v := vL (-1)) (x := (-1)) (kc := 9) (i := 38) dX9_takes_139 clX9 (by decide) fl_9_38 rfl (fa_t65 sA) (fun E => nar_long E _) (fun _ _ => rfl) (j0 := 38) rfl rfl ?_
      obtain ⟨h9, e10⟩ : ∃ q, q = st h 65 38 (-1) := ⟨_, rfl⟩
      rw [← e10]
      have V := V h9 e10
      refine s_aload_n (pc' := 143) (x := 65) dX9_takes_142 rfl rfl ?_
      refine s_dup (pc' := 144) dX9_takes_143 (by intro _ q; cases q) rfl ?_
      refine s_get (pc' := 147) (v := vI (h9 65 34)) (kc := 9) (i := 34) dX9_takes_144 clX9 (by decide) fl_9_34 (fa_t65 sA) (fun _ => rfl) rfl ?_
      refine s_iconst (pc' := 148) dX9_takes_147 rfl ?_
      refine s_iadd (pc' := 149) dX9_takes_148 rfl ?_
      refine s_put (pc' := 152) (v := vI ((h9 65 34) + 1)) (x := ((h9 65 34) + 1)) (kc := 9) (i := 34) dX9_takes_149 clX9 (by decide) fl_9_34 rfl (fa_t65 sA) (fun E => nar_int E _) (fun _ _ => rfl) (j0 := 34) rfl rfl ?_
      obtain ⟨h11, e12⟩ : ∃ q, q = st h9 65 34 ((h9 65 34) + 1) := ⟨_, rfl⟩
      rw [← e12]
      have V := V h11 e12
      refine s_goto (tgt := 80) dX9_takes_152 rfl ?_
      exact V
    · have V := V18 c
      refine s_ldc2 (pc' := 112) (x := 27) dX9_takes_109 cstl_9_283 rfl rfl ?_
      refine s_aload_n (pc' := 113) (x := 65) dX9_takes_112 rfl rfl ?_
      refine s_get (pc' := 116) (v := vL (h 65 38)) (kc := 9) (i := 38) dX9_takes_113 clX9 (by decide) fl_9_38 (fa_t65 sA) (fun _ => rfl) rfl ?_
      refine s_lmul (pc' := 117) dX9_takes_116 rfl ?_
      refine s_aload_n (pc' := 118) (x := 65) dX9_takes_117 rfl rfl ?_
      refine s_aload_n (pc' := 119) (x := 65) dX9_takes_118 rfl rfl ?_
      refine s_get (pc' := 122) (v := vI (h 65 34)) (kc := 9) (i := 34) dX9_takes_119 clX9 (by decide) fl_9_34 (fa_t65 sA) (fun _ => rfl) rfl ?_
      refine s_callV (pc' := 125) (av := [vI (h 65 34)]) (a := 65) (sk := [vL (27 * (h 65 38)), vR 65]) (kc := 9) dX9_takes_122 ml_9_267 okX9_byteAt oiX9_byteAt (by decide) (NF := 39) rfl (fa_t65 sA) rfl (Nat.le_of_ble_eq_true rfl) (Nat.le_refl 0) (Nat.le_refl 0) rfl (CI.eon (c_X9_byteAt sA z1 z2) ?_)
      refine s_i2l (pc' := 126) dX9_takes_125 z3 rfl ?_
      refine s_ladd (pc' := 127) dX9_takes_126 rfl ?_
      refine s_ldc2 (pc' := 130) (x := 97) dX9_takes_127 cstl_9_285 rfl rfl ?_
      refine s_lsub (pc' := 131) dX9_takes_130 rfl ?_
      refine s_lconst (pc' := 132) (x := 1) dX9_takes_131 rfl rfl ?_
      refine s_ladd (pc' := 133) dX9_takes_132 rfl ?_
      refine s_goto (tgt := 139) dX9_takes_133 rfl ?_
      refine s_put (pc' := 142) (v := vL ((((27 * (h 65 38)) + (bA h (h 65 34))) - 97) + 1)) (x := ((((27 * (h 65 38)) + (bA h (h 65 34))) - 97) + 1)) (kc := 9) (i := 38) dX9_takes_139 clX9 (by decide) fl_9_38 rfl (fa_t65 sA) (fun E => nar_long E _) (fun _ _ => rfl) (j0 := 38) rfl rfl ?_
      obtain ⟨h13, e14⟩ : ∃ q, q = st h 65 38 ((((27 * (h 65 38)) + (bA h (h 65 34))) - 97) + 1) := ⟨_, rfl⟩
      rw [← e14]
      have V := V h13 e14
      refine s_aload_n (pc' := 143) (x := 65) dX9_takes_142 rfl rfl ?_
      refine s_dup (pc' := 144) dX9_takes_143 (by intro _ q; cases q) rfl ?_
      refine s_get (pc' := 147) (v := vI (h13 65 34)) (kc := 9) (i := 34) dX9_takes_144 clX9 (by decide) fl_9_34 (fa_t65 sA) (fun _ => rfl) rfl ?_
      refine s_iconst (pc' := 148) dX9_takes_147 rfl ?_
      refine s_iadd (pc' := 149) dX9_takes_148 rfl ?_
      refine s_put (pc' := 152) (v := vI ((h13 65 34) + 1)) (x := ((h13 65 34) + 1)) (kc := 9) (i := 34) dX9_takes_149 clX9 (by decide) fl_9_34 rfl (fa_t65 sA) (fun E => nar_int E _) (fun _ _ => rfl) (j0 := 34) rfl rfl ?_
      obtain ⟨h15, e16⟩ : ∃ q, q = st h13 65 34 ((h13 65 34) + 1) := ⟨_, rfl⟩
      rw [← e16]
      have V := V h15 e16
      refine s_goto (tgt := 80) dX9_takes_152 rfl ?_
      exact V
set_option maxRecDepth 20000 in
theorem r_X9_takes_170 {w : WS} {h : AH} {Q : AH → Prop} (sA : shA w) (V : ((0 ≤ (h 65 34) ∧ (h 65 34) ≤ 1000) ∧ (0 ≤ h 65 33 ∧ h 65 33 ≤ 600) ∧ (inR (bA h (h 65 34)) ∧ ((¬ (48 ≤ (bA h (h 65 34)) ∧ (bA h (h 65 34)) ≤ 57) → (inR ((h 65 34) - (h 65 36)) ∧ ((((h 65 34) - (h 65 36)) ≤ 3 → (∀ h5, h5 = st h 65 35 2 → (∀ h7, h7 = st h5 65 37 ((h5 65 34) - (h5 65 36)) → Q h7))) ∧ (¬ ((h 65 34) - (h 65 36)) ≤ 3 → (∀ h9, h9 = st h 65 35 4 → (∀ h11, h11 = st h9 65 37 ((h9 65 34) - (h9 65 36)) → Q h11)))))) ∧ ((48 ≤ (bA h (h 65 34)) ∧ (bA h (h 65 34)) ≤ 57) → (inR ((h 65 34) - (h 65 36)) ∧ ((3 ≤ ((h 65 34) - (h 65 36)) → (∀ h16, h16 = st h 65 38 (h 65 38) → (∀ h18, h18 = st h16 65 34 ((h16 65 34) + 1) → XV mX9_takes 170 [some (vR 65), none] [] w h18 Q))) ∧ (¬ 3 ≤ ((h 65 34) - (h 65 36)) → (∀ h20, h20 = st h 65 38 (((10 * (h 65 38)) + (bA h (h 65 34))) - 48) → (∀ h22, h22 = st h20 65 34 ((h20 65 34) + 1) → XV mX9_takes 170 [some (vR 65), none] [] w h22 Q)))))))))) : XV mX9_takes 170 [some (vR 65), none] [] w h Q := by
  refine s_aload_n (pc' := 171) (x := 65) dX9_takes_170 rfl rfl ?_
  refine s_aload_n (pc' := 172) (x := 65) dX9_takes_171 rfl rfl ?_
  refine s_get (pc' := 175) (v := vI (h 65 34)) (kc := 9) (i := 34) dX9_takes_172 clX9 (by decide) fl_9_34 (fa_t65 sA) (fun _ => rfl) rfl ?_
  obtain ⟨z1, z2, V⟩ := V
  refine s_callV (pc' := 178) (av := [vI (h 65 34)]) (a := 65) (sk := []) (kc := 9) dX9_takes_175 ml_9_267 okX9_byteAt oiX9_byteAt (by decide) (NF := 39) rfl (fa_t65 sA) rfl (Nat.le_of_ble_eq_true rfl) (Nat.le_refl 0) (Nat.le_refl 0) rfl (CI.eon (c_X9_byteAt sA z1 z2) ?_)
  obtain ⟨z3, V⟩ := V
  refine s_callS (pc' := 181) (av := [vI (bA h (h 65 34))]) (sk := []) dX9_takes_178 ml_9_289 okX9_isDigit osX9_isDigit (by decide) rfl (Nat.le_of_ble_eq_true rfl) (Nat.le_refl 0) (Nat.le_refl 0) rfl (CI.eon (c_X9_isDigit sA z3) ?_)
  obtain ⟨V26, V27⟩ := V
  refine s_ifeq_b (pc' := 184) (tgt := 243) dX9_takes_181 rfl rfl (fun c => ?_) (fun c => ?_)
  · have V := V26 c
    refine s_aload_n (pc' := 244) (x := 65) dX9_takes_243 rfl rfl ?_
    refine s_aload_n (pc' := 245) (x := 65) dX9_takes_244 rfl rfl ?_
    refine s_get (pc' := 248) (v := vI (h 65 34)) (kc := 9) (i := 34) dX9_takes_245 clX9 (by decide) fl_9_34 (fa_t65 sA) (fun _ => rfl) rfl ?_
    refine s_aload_n (pc' := 249) (x := 65) dX9_takes_248 rfl rfl ?_
    refine s_get (pc' := 252) (v := vI (h 65 36)) (kc := 9) (i := 36) dX9_takes_249 clX9 (by decide) fl_9_36 (fa_t65 sA) (fun _ => rfl) rfl ?_
    refine s_isub (pc' := 253) dX9_takes_252 rfl ?_
    refine s_iconst (pc' := 254) dX9_takes_253 rfl ?_
    obtain ⟨z4, V⟩ := V
    obtain ⟨V13, V14⟩ := V
    refine s_icmp_le (pc' := 257) (tgt := 261) dX9_takes_254 rfl rfl z4 (by decide) (fun c => ?_) (fun c => ?_)
    · have V := V13 c
      refine s_iconst (pc' := 262) dX9_takes_261 rfl ?_
      refine s_put (pc' := 265) (v := vI 2) (x := 2) (kc := 9) (i := 35) dX9_takes_262 clX9 (by decide) fl_9_35 rfl (fa_t65 sA) (fun E => nar_int E _) (fun _ _ => rfl) (j0 := 35) rfl rfl ?_
      obtain ⟨h5, e6⟩ : ∃ q, q = st h 65 35 2 := ⟨_, rfl⟩
      rw [← e6]
      have V := V h5 e6
      refine s_goto (tgt := 299) dX9_takes_265 rfl ?_
      refine s_aload_n (pc' := 300) (x := 65) dX9_takes_299 rfl rfl ?_
      refine s_aload_n (pc' := 301) (x := 65) dX9_takes_300 rfl rfl ?_
      refine s_get (pc' := 304) (v := vI (h5 65 34)) (kc := 9) (i := 34) dX9_takes_301 clX9 (by decide) fl_9_34 (fa_t65 sA) (fun _ => rfl) rfl ?_
      refine s_aload_n (pc' := 305) (x := 65) dX9_takes_304 rfl rfl ?_
      refine s_get (pc' := 308) (v := vI (h5 65 36)) (kc := 9) (i := 36) dX9_takes_305 clX9 (by decide) fl_9_36 (fa_t65 sA) (fun _ => rfl) rfl ?_
      refine s_isub (pc' := 309) dX9_takes_308 rfl ?_
      refine s_put (pc' := 312) (v := vI ((h5 65 34) - (h5 65 36))) (x := ((h5 65 34) - (h5 65 36))) (kc := 9) (i := 37) dX9_takes_309 clX9 (by decide) fl_9_37 rfl (fa_t65 sA) (fun E => nar_int E _) (fun _ _ => rfl) (j0 := 37) rfl rfl ?_
      obtain ⟨h7, e8⟩ : ∃ q, q = st h5 65 37 ((h5 65 34) - (h5 65 36)) := ⟨_, rfl⟩
      rw [← e8]
      have V := V h7 e8
      exact s_vret dX9_takes_312 rfl ⟨rfl, rfl, V⟩
    · have V := V14 c
      refine s_iconst (pc' := 258) dX9_takes_257 rfl ?_
      refine s_goto (tgt := 262) dX9_takes_258 rfl ?_
      refine s_put (pc' := 265) (v := vI 4) (x := 4) (kc := 9) (i := 35) dX9_takes_262 clX9 (by decide) fl_9_35 rfl (fa_t65 sA) (fun E => nar_int E _) (fun _ _ => rfl) (j0 := 35) rfl rfl ?_
      obtain ⟨h9, e10⟩ : ∃ q, q = st h 65 35 4 := ⟨_, rfl⟩
      rw [← e10]
      have V := V h9 e10
      refine s_goto (tgt := 299) dX9_takes_265 rfl ?_
      refine s_aload_n (pc' := 300) (x := 65) dX9_takes_299 rfl rfl ?_
      refine s_aload_n (pc' := 301) (x := 65) dX9_takes_300 rfl rfl ?_
      refine s_get (pc' := 304) (v := vI (h9 65 34)) (kc := 9) (i := 34) dX9_takes_301 clX9 (by decide) fl_9_34 (fa_t65 sA) (fun _ => rfl) rfl ?_
      refine s_aload_n (pc' := 305) (x := 65) dX9_takes_304 rfl rfl ?_
      refine s_get (pc' := 308) (v := vI (h9 65 36)) (kc := 9) (i := 36) dX9_takes_305 clX9 (by decide) fl_9_36 (fa_t65 sA) (fun _ => rfl) rfl ?_
      refine s_isub (pc' := 309) dX9_takes_308 rfl ?_
      refine s_put (pc' := 312) (v := vI ((h9 65 34) - (h9 65 36))) (x := ((h9 65 34) - (h9 65 36))) (kc := 9) (i := 37) dX9_takes_309 clX9 (by decide) fl_9_37 rfl (fa_t65 sA) (fun E => nar_int E _) (fun _ _ => rfl) (j0 := 37) rfl rfl ?_
      obtain ⟨h11, e12⟩ : ∃ q, q = st h9 65 37 ((h9 65 34) - (h9 65 36)) := ⟨_, rfl⟩
      rw [← e12]
      have V := V h11 e12
      exact s_vret dX9_takes_312 rfl ⟨rfl, rfl, V⟩
  · have V := V27 c
    refine s_aload_n (pc' := 185) (x := 65) dX9_takes_184 rfl rfl ?_
    refine s_aload_n (pc' := 186) (x := 65) dX9_takes_185 rfl rfl ?_
    refine s_get (pc' := 189) (v := vI (h 65 34)) (kc := 9) (i := 34) dX9_takes_186 clX9 (by decide) fl_9_34 (fa_t65 sA) (fun _ => rfl) rfl ?_
    refine s_aload_n (pc' := 190) (x := 65) dX9_takes_189 rfl rfl ?_
    refine s_get (pc' := 193) (v := vI (h 65 36)) (kc := 9) (i := 36) dX9_takes_190 clX9 (by decide) fl_9_36 (fa_t65 sA) (fun _ => rfl) rfl ?_
    refine s_isub (pc' := 194) dX9_takes_193 rfl ?_
    refine s_iconst (pc' := 195) dX9_takes_194 rfl ?_
    obtain ⟨z15, V⟩ := V
    obtain ⟨V24, V25⟩ := V
    refine s_icmp_ge (pc' := 198) (tgt := 223) dX9_takes_195 rfl rfl z15 (by decide) (fun c => ?_) (fun c => ?_)
    · have V := V24 c
      refine s_aload_n (pc' := 224) (x := 65) dX9_takes_223 rfl rfl ?_
      refine s_get (pc' := 227) (v := vL (h 65 38)) (kc := 9) (i := 38) dX9_takes_224 clX9 (by decide) fl_9_38 (fa_t65 sA) (fun _ => rfl) rfl ?_
      refine s_put (pc' := 230) (v := vL (h 65 38)) (x := (h 65 38)) (kc := 9) (i := 38) dX9_takes_227 clX9 (by decide) fl_9_38 rfl (fa_t65 sA) (fun E => nar_long E _) (fun _ _ => rfl) (j0 := 38) rfl rfl ?_
      obtain ⟨h16, e17⟩ : ∃ q, q = st h 65 38 (h 65 38) := ⟨_, rfl⟩
      rw [← e17]
      have V := V h16 e17
      refine s_aload_n (pc' := 231) (x := 65) dX9_takes_230 rfl rfl ?_
      refine s_dup (pc' := 232) dX9_takes_231 (by intro _ q; cases q) rfl ?_
      refine s_get (pc' := 235) (v := vI (h16 65 34)) (kc := 9) (i := 34) dX9_takes_232 clX9 (by decide) fl_9_34 (fa_t65 sA) (fun _ => rfl) rfl ?_
      refine s_iconst (pc' := 236) dX9_takes_235 rfl ?_
      refine s_iadd (pc' := 237) dX9_takes_236 rfl ?_
      refine s_put (pc' := 240) (v := vI ((h16 65 34) + 1)) (x := ((h16 65 34) + 1)) (kc := 9) (i := 34) dX9_takes_237 clX9 (by decide) fl_9_34 rfl (fa_t65 sA) (fun E => nar_int E _) (fun _ _ => rfl) (j0 := 34) rfl rfl ?_
      obtain ⟨h18, e19⟩ : ∃ q, q = st h16 65 34 ((h16 65 34) + 1) := ⟨_, rfl⟩
      rw [← e19]
      have V := V h18 e19
      refine s_goto (tgt := 170) dX9_takes_240 rfl ?_
      exact V
    · have V := V25 c
      refine s_ldc2 (pc' := 201) (x := 10) dX9_takes_198 cstl_9_292 rfl rfl ?_
      refine s_aload_n (pc' := 202) (x := 65) dX9_takes_201 rfl rfl ?_
      refine s_get (pc' := 205) (v := vL (h 65 38)) (kc := 9) (i := 38) dX9_takes_202 clX9 (by decide) fl_9_38 (fa_t65 sA) (fun _ => rfl) rfl ?_
      refine s_lmul (pc' := 206) dX9_takes_205 rfl ?_
      refine s_aload_n (pc' := 207) (x := 65) dX9_takes_206 rfl rfl ?_
      refine s_aload_n (pc' := 208) (x := 65) dX9_takes_207 rfl rfl ?_
      refine s_get (pc' := 211) (v := vI (h 65 34)) (kc := 9) (i := 34) dX9_takes_208 clX9 (by decide) fl_9_34 (fa_t65 sA) (fun _ => rfl) rfl ?_
      refine s_callV (pc' := 214) (av := [vI (h 65 34)]) (a := 65) (sk := [vL (10 * (h 65 38)), vR 65]) (kc := 9) dX9_takes_211 ml_9_267 okX9_byteAt oiX9_byteAt (by decide) (NF := 39) rfl (fa_t65 sA) rfl (Nat.le_of_ble_eq_true rfl) (Nat.le_refl 0) (Nat.le_refl 0) rfl (CI.eon (c_X9_byteAt sA z1 z2) ?_)
      refine s_i2l (pc' := 215) dX9_takes_214 z3 rfl ?_
      refine s_ladd (pc' := 216) dX9_takes_215 rfl ?_
      refine s_ldc2 (pc' := 219) (x := 48) dX9_takes_216 cstl_9_294 rfl rfl ?_
      refine s_lsub (pc' := 220) dX9_takes_219 rfl ?_
      refine s_goto (tgt := 227) dX9_takes_220 rfl ?_
      refine s_put (pc' := 230) (v := vL (((10 * (h 65 38)) + (bA h (h 65 34))) - 48)) (x := (((10 * (h 65 38)) + (bA h (h 65 34))) - 48)) (kc := 9) (i := 38) dX9_takes_227 clX9 (by decide) fl_9_38 rfl (fa_t65 sA) (fun E => nar_long E _) (fun _ _ => rfl) (j0 := 38) rfl rfl ?_
      obtain ⟨h20, e21⟩ : ∃ q, q = st h 65 38 (((10 * (h 65 38)) + (bA h (h 65 34))) - 48) := ⟨_, rfl⟩
      rw [← e21]
      have V := V h20 e21
      refine s_aload_n (pc' := 231) (x := 65) dX9_takes_230 rfl rfl ?_
      refine s_dup (pc' := 232) dX9_takes_231 (by intro _ q; cases q) rfl ?_
      refine s_get (pc' := 235) (v := vI (h20 65 34)) (kc := 9) (i := 34) dX9_takes_232 clX9 (by decide) fl_9_34 (fa_t65 sA) (fun _ => rfl) rfl ?_
      refine s_iconst (pc' := 236) dX9_takes_235 rfl ?_
      refine s_iadd (pc' := 237) dX9_takes_236 rfl ?_
      refine s_put (pc' := 240) (v := vI ((h20 65 34) + 1)) (x := ((h20 65 34) + 1)) (kc := 9) (i := 34) dX9_takes_237 clX9 (by decide) fl_9_34 rfl (fa_t65 sA) (fun E => nar_int E _) (fun _ _ => rfl) (j0 := 34) rfl rfl ?_
      obtain ⟨h22, e23⟩ : ∃ q, q = st h20 65 34 ((h20 65 34) + 1) := ⟨_, rfl⟩
      rw [← e23]
      have V := V h22 e23
      refine s_goto (tgt := 170) dX9_takes_240 rfl ?_
      exact V
